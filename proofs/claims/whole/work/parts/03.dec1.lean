theorem dX11_soft_7 : decode cX11_soft 7 = .ok (.ifCond .eq 9, 3) := by decide +kernel
theorem dX11_soft_10 : decode cX11_soft 10 = .ok (.ldc_w 356, 3) := by decide +kernel
theorem dX11_soft_13 : decode cX11_soft 13 = .ok (.iload_n 3, 1) := by decide +kernel
theorem dX11_soft_14 : decode cX11_soft 14 = .ok (.iadd, 1) := by decide +kernel
theorem dX11_soft_15 : decode cX11_soft 15 = .ok (.ireturn, 1) := by decide +kernel
theorem dX11_soft_16 : decode cX11_soft 16 = .ok (.iload_n 2, 1) := by decide +kernel
theorem dX11_soft_17 : decode cX11_soft 17 = .ok (.ifCond .lt 9, 3) := by decide +kernel
theorem dX11_soft_20 : decode cX11_soft 20 = .ok (.iload_n 2, 1) := by decide +kernel
theorem dX11_soft_21 : decode cX11_soft 21 = .ok (.bipush 39, 2) := by decide +kernel
theorem dX11_soft_23 : decode cX11_soft 23 = .ok (.if_icmp .lt 7, 3) := by decide +kernel
theorem dX11_soft_26 : decode cX11_soft 26 = .ok (.ldc_w 357, 3) := by decide +kernel
theorem dX11_soft_29 : decode cX11_soft 29 = .ok (.ireturn, 1) := by decide +kernel
theorem dX11_soft_30 : decode cX11_soft 30 = .ok (.aload_n 0, 1) := by decide +kernel
theorem dX11_soft_31 : decode cX11_soft 31 = .ok (.getfield 56, 3) := by decide +kernel
theorem dX11_soft_34 : decode cX11_soft 34 = .ok (.getfield 246, 3) := by decide +kernel
theorem dX11_soft_37 : decode cX11_soft 37 = .ok (.getfield 324, 3) := by decide +kernel
theorem dX11_soft_40 : decode cX11_soft 40 = .ok (.iload_n 1, 1) := by decide +kernel
theorem dX11_soft_41 : decode cX11_soft 41 = .ok (.aaload, 1) := by decide +kernel
theorem dX11_soft_42 : decode cX11_soft 42 = .ok (.getfield 333, 3) := by decide +kernel
theorem dX11_soft_45 : decode cX11_soft 45 = .ok (.iload_n 2, 1) := by decide +kernel
theorem dX11_soft_46 : decode cX11_soft 46 = .ok (.iaload, 1) := by decide +kernel
theorem dX11_soft_47 : decode cX11_soft 47 = .ok (.ireturn, 1) := by decide +kernel
theorem dX11_heard_0 : decode cX11_heard 0 = .ok (.aload_n 0, 1) := by decide +kernel
theorem dX11_heard_1 : decode cX11_heard 1 = .ok (.iload_n 1, 1) := by decide +kernel
theorem dX11_heard_2 : decode cX11_heard 2 = .ok (.invokevirtual 200, 3) := by decide +kernel
theorem dX11_heard_5 : decode cX11_heard 5 = .ok (.ifCond .ne 6, 3) := by decide +kernel
theorem dX11_heard_8 : decode cX11_heard 8 = .ok (.bipush (-2), 2) := by decide +kernel
theorem dX11_heard_10 : decode cX11_heard 10 = .ok (.ireturn, 1) := by decide +kernel
theorem dX11_heard_11 : decode cX11_heard 11 = .ok (.aload_n 0, 1) := by decide +kernel
theorem dX11_heard_12 : decode cX11_heard 12 = .ok (.getfield 56, 3) := by decide +kernel
theorem dX11_heard_15 : decode cX11_heard 15 = .ok (.getfield 246, 3) := by decide +kernel
theorem dX11_heard_18 : decode cX11_heard 18 = .ok (.getfield 324, 3) := by decide +kernel
theorem dX11_heard_21 : decode cX11_heard 21 = .ok (.iload_n 1, 1) := by decide +kernel
theorem dX11_heard_22 : decode cX11_heard 22 = .ok (.aaload, 1) := by decide +kernel
theorem dX11_heard_23 : decode cX11_heard 23 = .ok (.astore_n 3, 1) := by decide +kernel
theorem dX11_heard_24 : decode cX11_heard 24 = .ok (.iload_n 2, 1) := by decide +kernel
theorem dX11_heard_25 : decode cX11_heard 25 = .ok (.tableswitch 50 0 2 #[27, 32, 37], 27) := by decide +kernel
theorem dX11_heard_52 : decode cX11_heard 52 = .ok (.aload_n 3, 1) := by decide +kernel
theorem dX11_heard_53 : decode cX11_heard 53 = .ok (.getfield 328, 3) := by decide +kernel
theorem dX11_heard_56 : decode cX11_heard 56 = .ok (.ireturn, 1) := by decide +kernel
theorem dX11_heard_57 : decode cX11_heard 57 = .ok (.aload_n 3, 1) := by decide +kernel
theorem dX11_heard_58 : decode cX11_heard 58 = .ok (.getfield 358, 3) := by decide +kernel
theorem dX11_heard_61 : decode cX11_heard 61 = .ok (.ireturn, 1) := by decide +kernel
theorem dX11_heard_62 : decode cX11_heard 62 = .ok (.aload_n 3, 1) := by decide +kernel
theorem dX11_heard_63 : decode cX11_heard 63 = .ok (.getfield 361, 3) := by decide +kernel
theorem dX11_heard_66 : decode cX11_heard 66 = .ok (.ifCond .eq 7, 3) := by decide +kernel
theorem dX11_heard_69 : decode cX11_heard 69 = .ok (.iconst 1, 1) := by decide +kernel
theorem dX11_heard_70 : decode cX11_heard 70 = .ok (.goto 4, 3) := by decide +kernel
theorem dX11_heard_73 : decode cX11_heard 73 = .ok (.iconst 0, 1) := by decide +kernel
theorem dX11_heard_74 : decode cX11_heard 74 = .ok (.ireturn, 1) := by decide +kernel
theorem dX11_heard_75 : decode cX11_heard 75 = .ok (.bipush (-2), 2) := by decide +kernel
theorem dX11_heard_77 : decode cX11_heard 77 = .ok (.ireturn, 1) := by decide +kernel
theorem dX11_best_0 : decode cX11_best 0 = .ok (.aload_n 0, 1) := by decide +kernel
theorem dX11_best_1 : decode cX11_best 1 = .ok (.iload_n 1, 1) := by decide +kernel
theorem dX11_best_2 : decode cX11_best 2 = .ok (.invokevirtual 353, 3) := by decide +kernel
theorem dX11_best_5 : decode cX11_best 5 = .ok (.istore_n 2, 1) := by decide +kernel
theorem dX11_best_6 : decode cX11_best 6 = .ok (.iload_n 2, 1) := by decide +kernel
theorem dX11_best_7 : decode cX11_best 7 = .ok (.ifCond .eq 7, 3) := by decide +kernel
theorem dX11_best_10 : decode cX11_best 10 = .ok (.iload_n 2, 1) := by decide +kernel
theorem dX11_best_11 : decode cX11_best 11 = .ok (.goto 25, 3) := by decide +kernel
theorem dX11_best_14 : decode cX11_best 14 = .ok (.aload_n 0, 1) := by decide +kernel
theorem dX11_best_15 : decode cX11_best 15 = .ok (.getfield 33, 3) := by decide +kernel
theorem dX11_best_18 : decode cX11_best 18 = .ok (.aload_n 0, 1) := by decide +kernel
theorem dX11_best_19 : decode cX11_best 19 = .ok (.getfield 56, 3) := by decide +kernel
theorem dX11_best_22 : decode cX11_best 22 = .ok (.getfield 246, 3) := by decide +kernel
theorem dX11_best_25 : decode cX11_best 25 = .ok (.getfield 324, 3) := by decide +kernel
theorem dX11_best_28 : decode cX11_best 28 = .ok (.iload_n 1, 1) := by decide +kernel
theorem dX11_best_29 : decode cX11_best 29 = .ok (.aaload, 1) := by decide +kernel
theorem dX11_best_30 : decode cX11_best 30 = .ok (.getfield 333, 3) := by decide +kernel
theorem dX11_best_33 : decode cX11_best 33 = .ok (.invokevirtual 349, 3) := by decide +kernel
theorem dX11_best_36 : decode cX11_best 36 = .ok (.ireturn, 1) := by decide +kernel
theorem dX11_sum_0 : decode cX11_sum 0 = .ok (.aload_n 0, 1) := by decide +kernel
theorem dX11_sum_1 : decode cX11_sum 1 = .ok (.iload_n 1, 1) := by decide +kernel
theorem dX11_sum_2 : decode cX11_sum 2 = .ok (.iload_n 2, 1) := by decide +kernel
theorem dX11_sum_3 : decode cX11_sum 3 = .ok (.invokestatic 83, 3) := by decide +kernel
theorem dX11_sum_6 : decode cX11_sum 6 = .ok (.invokevirtual 364, 3) := by decide +kernel
theorem dX11_sum_9 : decode cX11_sum 9 = .ok (.istore_n 3, 1) := by decide +kernel
theorem dX11_sum_10 : decode cX11_sum 10 = .ok (.iload_n 3, 1) := by decide +kernel
theorem dX11_sum_11 : decode cX11_sum 11 = .ok (.ifCond .eq 9, 3) := by decide +kernel
theorem dX11_sum_14 : decode cX11_sum 14 = .ok (.ldc_w 356, 3) := by decide +kernel
theorem dX11_sum_17 : decode cX11_sum 17 = .ok (.iload_n 3, 1) := by decide +kernel
theorem dX11_sum_18 : decode cX11_sum 18 = .ok (.iadd, 1) := by decide +kernel
theorem dX11_sum_19 : decode cX11_sum 19 = .ok (.ireturn, 1) := by decide +kernel
theorem dX11_sum_20 : decode cX11_sum 20 = .ok (.aload_n 0, 1) := by decide +kernel
theorem dX11_sum_21 : decode cX11_sum 21 = .ok (.getfield 56, 3) := by decide +kernel
theorem dX11_sum_24 : decode cX11_sum 24 = .ok (.getfield 246, 3) := by decide +kernel
theorem dX11_sum_27 : decode cX11_sum 27 = .ok (.getfield 324, 3) := by decide +kernel
theorem dX11_sum_30 : decode cX11_sum 30 = .ok (.iload_n 1, 1) := by decide +kernel
theorem dX11_sum_31 : decode cX11_sum 31 = .ok (.aaload, 1) := by decide +kernel
theorem dX11_sum_32 : decode cX11_sum 32 = .ok (.getfield 333, 3) := by decide +kernel
theorem dX11_sum_35 : decode cX11_sum 35 = .ok (.astore 4, 2) := by decide +kernel
theorem dX11_sum_37 : decode cX11_sum 37 = .ok (.iconst 0, 1) := by decide +kernel
theorem dX11_sum_38 : decode cX11_sum 38 = .ok (.istore 5, 2) := by decide +kernel
theorem dX11_sum_40 : decode cX11_sum 40 = .ok (.iconst 0, 1) := by decide +kernel
theorem dX11_sum_41 : decode cX11_sum 41 = .ok (.istore 6, 2) := by decide +kernel
theorem dX11_sum_43 : decode cX11_sum 43 = .ok (.iload 6, 2) := by decide +kernel
theorem dX11_sum_45 : decode cX11_sum 45 = .ok (.bipush 39, 2) := by decide +kernel
theorem dX11_sum_47 : decode cX11_sum 47 = .ok (.if_icmp .ge 45, 3) := by decide +kernel
theorem dX11_sum_50 : decode cX11_sum 50 = .ok (.iload 5, 2) := by decide +kernel
theorem dX11_sum_52 : decode cX11_sum 52 = .ok (.aload_n 0, 1) := by decide +kernel
theorem dX11_sum_53 : decode cX11_sum 53 = .ok (.getfield 12, 3) := by decide +kernel
theorem dX11_sum_56 : decode cX11_sum 56 = .ok (.getfield 91, 3) := by decide +kernel
theorem dX11_sum_59 : decode cX11_sum 59 = .ok (.iload_n 2, 1) := by decide +kernel
theorem dX11_sum_60 : decode cX11_sum 60 = .ok (.laload, 1) := by decide +kernel
theorem dX11_sum_61 : decode cX11_sum 61 = .ok (.iload 6, 2) := by decide +kernel
theorem dX11_sum_63 : decode cX11_sum 63 = .ok (.invokestatic 159, 3) := by decide +kernel
theorem dX11_sum_66 : decode cX11_sum 66 = .ok (.ifCond .eq 11, 3) := by decide +kernel
theorem dX11_sum_69 : decode cX11_sum 69 = .ok (.aload 4, 2) := by decide +kernel
theorem dX11_sum_71 : decode cX11_sum 71 = .ok (.iload 6, 2) := by decide +kernel
theorem dX11_sum_73 : decode cX11_sum 73 = .ok (.iaload, 1) := by decide +kernel
theorem dX11_sum_74 : decode cX11_sum 74 = .ok (.goto 9, 3) := by decide +kernel
theorem dX11_sum_77 : decode cX11_sum 77 = .ok (.aload 4, 2) := by decide +kernel
theorem dX11_sum_79 : decode cX11_sum 79 = .ok (.iload 6, 2) := by decide +kernel
theorem dX11_sum_81 : decode cX11_sum 81 = .ok (.iaload, 1) := by decide +kernel
theorem dX11_sum_82 : decode cX11_sum 82 = .ok (.ineg, 1) := by decide +kernel
theorem dX11_sum_83 : decode cX11_sum 83 = .ok (.iadd, 1) := by decide +kernel
theorem dX11_sum_84 : decode cX11_sum 84 = .ok (.istore 5, 2) := by decide +kernel
theorem dX11_sum_86 : decode cX11_sum 86 = .ok (.iinc 6 1, 3) := by decide +kernel
theorem dX11_sum_89 : decode cX11_sum 89 = .ok (.goto (-46), 3) := by decide +kernel
theorem dX11_sum_92 : decode cX11_sum 92 = .ok (.iload 5, 2) := by decide +kernel
theorem dX11_sum_94 : decode cX11_sum 94 = .ok (.ireturn, 1) := by decide +kernel
theorem dX11_margin_0 : decode cX11_margin 0 = .ok (.aload_n 0, 1) := by decide +kernel
theorem dX11_margin_1 : decode cX11_margin 1 = .ok (.iload_n 1, 1) := by decide +kernel
theorem dX11_margin_2 : decode cX11_margin 2 = .ok (.invokevirtual 353, 3) := by decide +kernel
theorem dX11_margin_5 : decode cX11_margin 5 = .ok (.istore_n 2, 1) := by decide +kernel
theorem dX11_margin_6 : decode cX11_margin 6 = .ok (.iload_n 2, 1) := by decide +kernel
theorem dX11_margin_7 : decode cX11_margin 7 = .ok (.ifCond .eq 5, 3) := by decide +kernel
theorem dX11_margin_10 : decode cX11_margin 10 = .ok (.iload_n 2, 1) := by decide +kernel
theorem dX11_margin_11 : decode cX11_margin 11 = .ok (.ireturn, 1) := by decide +kernel
theorem dX11_margin_12 : decode cX11_margin 12 = .ok (.aload_n 0, 1) := by decide +kernel
theorem dX11_margin_13 : decode cX11_margin 13 = .ok (.getfield 33, 3) := by decide +kernel
theorem dX11_margin_16 : decode cX11_margin 16 = .ok (.aload_n 0, 1) := by decide +kernel
theorem dX11_margin_17 : decode cX11_margin 17 = .ok (.getfield 56, 3) := by decide +kernel
theorem dX11_margin_20 : decode cX11_margin 20 = .ok (.getfield 246, 3) := by decide +kernel
theorem dX11_margin_23 : decode cX11_margin 23 = .ok (.getfield 324, 3) := by decide +kernel
theorem dX11_margin_26 : decode cX11_margin 26 = .ok (.iload_n 1, 1) := by decide +kernel
theorem dX11_margin_27 : decode cX11_margin 27 = .ok (.aaload, 1) := by decide +kernel
theorem dX11_margin_28 : decode cX11_margin 28 = .ok (.getfield 333, 3) := by decide +kernel
theorem dX11_margin_31 : decode cX11_margin 31 = .ok (.invokevirtual 368, 3) := by decide +kernel
theorem dX11_margin_34 : decode cX11_margin 34 = .ok (.aload_n 0, 1) := by decide +kernel
theorem dX11_margin_35 : decode cX11_margin 35 = .ok (.getfield 33, 3) := by decide +kernel
theorem dX11_margin_38 : decode cX11_margin 38 = .ok (.iconst (-1), 1) := by decide +kernel
theorem dX11_margin_39 : decode cX11_margin 39 = .ok (.invokevirtual 371, 3) := by decide +kernel
theorem dX11_margin_42 : decode cX11_margin 42 = .ok (.istore_n 3, 1) := by decide +kernel
theorem dX11_margin_43 : decode cX11_margin 43 = .ok (.aload_n 0, 1) := by decide +kernel
theorem dX11_margin_44 : decode cX11_margin 44 = .ok (.getfield 33, 3) := by decide +kernel
theorem dX11_margin_47 : decode cX11_margin 47 = .ok (.getfield 374, 3) := by decide +kernel
theorem dX11_margin_50 : decode cX11_margin 50 = .ok (.iload_n 3, 1) := by decide +kernel
theorem dX11_margin_51 : decode cX11_margin 51 = .ok (.iaload, 1) := by decide +kernel
theorem dX11_margin_52 : decode cX11_margin 52 = .ok (.aload_n 0, 1) := by decide +kernel
theorem dX11_margin_53 : decode cX11_margin 53 = .ok (.getfield 33, 3) := by decide +kernel
theorem dX11_margin_56 : decode cX11_margin 56 = .ok (.getfield 374, 3) := by decide +kernel
theorem dX11_margin_59 : decode cX11_margin 59 = .ok (.aload_n 0, 1) := by decide +kernel
theorem dX11_margin_60 : decode cX11_margin 60 = .ok (.getfield 33, 3) := by decide +kernel
theorem dX11_margin_63 : decode cX11_margin 63 = .ok (.iload_n 3, 1) := by decide +kernel
theorem dX11_margin_64 : decode cX11_margin 64 = .ok (.invokevirtual 371, 3) := by decide +kernel
theorem dX11_margin_67 : decode cX11_margin 67 = .ok (.iaload, 1) := by decide +kernel
theorem dX11_margin_68 : decode cX11_margin 68 = .ok (.isub, 1) := by decide +kernel
theorem dX11_margin_69 : decode cX11_margin 69 = .ok (.ireturn, 1) := by decide +kernel
theorem dX11_second_0 : decode cX11_second 0 = .ok (.aload_n 0, 1) := by decide +kernel
theorem dX11_second_1 : decode cX11_second 1 = .ok (.iload_n 1, 1) := by decide +kernel
theorem dX11_second_2 : decode cX11_second 2 = .ok (.invokevirtual 353, 3) := by decide +kernel
theorem dX11_second_5 : decode cX11_second 5 = .ok (.istore_n 2, 1) := by decide +kernel
theorem dX11_second_6 : decode cX11_second 6 = .ok (.iload_n 2, 1) := by decide +kernel
theorem dX11_second_7 : decode cX11_second 7 = .ok (.ifCond .eq 5, 3) := by decide +kernel
theorem dX11_second_10 : decode cX11_second 10 = .ok (.iload_n 2, 1) := by decide +kernel
theorem dX11_second_11 : decode cX11_second 11 = .ok (.ireturn, 1) := by decide +kernel
theorem dX11_second_12 : decode cX11_second 12 = .ok (.aload_n 0, 1) := by decide +kernel
theorem dX11_second_13 : decode cX11_second 13 = .ok (.getfield 33, 3) := by decide +kernel
theorem dX11_second_16 : decode cX11_second 16 = .ok (.aload_n 0, 1) := by decide +kernel
theorem dX11_second_17 : decode cX11_second 17 = .ok (.getfield 56, 3) := by decide +kernel
theorem dX11_second_20 : decode cX11_second 20 = .ok (.getfield 246, 3) := by decide +kernel
theorem dX11_second_23 : decode cX11_second 23 = .ok (.getfield 324, 3) := by decide +kernel
theorem dX11_second_26 : decode cX11_second 26 = .ok (.iload_n 1, 1) := by decide +kernel
theorem dX11_second_27 : decode cX11_second 27 = .ok (.aaload, 1) := by decide +kernel
theorem dX11_second_28 : decode cX11_second 28 = .ok (.getfield 333, 3) := by decide +kernel
theorem dX11_second_31 : decode cX11_second 31 = .ok (.invokevirtual 368, 3) := by decide +kernel
theorem dX11_second_34 : decode cX11_second 34 = .ok (.aload_n 0, 1) := by decide +kernel
theorem dX11_second_35 : decode cX11_second 35 = .ok (.getfield 33, 3) := by decide +kernel
theorem dX11_second_38 : decode cX11_second 38 = .ok (.aload_n 0, 1) := by decide +kernel
theorem dX11_second_39 : decode cX11_second 39 = .ok (.getfield 33, 3) := by decide +kernel
theorem dX11_second_42 : decode cX11_second 42 = .ok (.iconst (-1), 1) := by decide +kernel
theorem dX11_second_43 : decode cX11_second 43 = .ok (.invokevirtual 371, 3) := by decide +kernel
theorem dX11_second_46 : decode cX11_second 46 = .ok (.invokevirtual 371, 3) := by decide +kernel
theorem dX11_second_49 : decode cX11_second 49 = .ok (.ireturn, 1) := by decide +kernel
theorem dX11_lean_0 : decode cX11_lean 0 = .ok (.aload_n 0, 1) := by decide +kernel
theorem dX11_lean_1 : decode cX11_lean 1 = .ok (.iload_n 1, 1) := by decide +kernel
theorem dX11_lean_2 : decode cX11_lean 2 = .ok (.iload_n 2, 1) := by decide +kernel
theorem dX11_lean_3 : decode cX11_lean 3 = .ok (.ifCond .lt 13, 3) := by decide +kernel
theorem dX11_lean_6 : decode cX11_lean 6 = .ok (.iload_n 2, 1) := by decide +kernel
theorem dX11_lean_7 : decode cX11_lean 7 = .ok (.bipush 11, 2) := by decide +kernel
theorem dX11_lean_9 : decode cX11_lean 9 = .ok (.if_icmp .ge 7, 3) := by decide +kernel
theorem dX11_lean_12 : decode cX11_lean 12 = .ok (.iconst 1, 1) := by decide +kernel
theorem dX11_lean_13 : decode cX11_lean 13 = .ok (.goto 4, 3) := by decide +kernel
theorem dX11_lean_16 : decode cX11_lean 16 = .ok (.iconst 0, 1) := by decide +kernel
theorem dX11_lean_17 : decode cX11_lean 17 = .ok (.invokevirtual 364, 3) := by decide +kernel
theorem dX11_lean_20 : decode cX11_lean 20 = .ok (.istore_n 3, 1) := by decide +kernel
theorem dX11_lean_21 : decode cX11_lean 21 = .ok (.iload_n 3, 1) := by decide +kernel
theorem dX11_lean_22 : decode cX11_lean 22 = .ok (.ifCond .eq 9, 3) := by decide +kernel
theorem dX11_lean_25 : decode cX11_lean 25 = .ok (.ldc_w 356, 3) := by decide +kernel
theorem dX11_lean_28 : decode cX11_lean 28 = .ok (.iload_n 3, 1) := by decide +kernel
theorem dX11_lean_29 : decode cX11_lean 29 = .ok (.iadd, 1) := by decide +kernel
theorem dX11_lean_30 : decode cX11_lean 30 = .ok (.ireturn, 1) := by decide +kernel
theorem dX11_lean_31 : decode cX11_lean 31 = .ok (.aload_n 0, 1) := by decide +kernel
theorem dX11_lean_32 : decode cX11_lean 32 = .ok (.getfield 33, 3) := by decide +kernel
theorem dX11_lean_35 : decode cX11_lean 35 = .ok (.aload_n 0, 1) := by decide +kernel
theorem dX11_lean_36 : decode cX11_lean 36 = .ok (.getfield 56, 3) := by decide +kernel
theorem dX11_lean_39 : decode cX11_lean 39 = .ok (.getfield 246, 3) := by decide +kernel
theorem dX11_lean_42 : decode cX11_lean 42 = .ok (.getfield 324, 3) := by decide +kernel
theorem dX11_lean_45 : decode cX11_lean 45 = .ok (.iload_n 1, 1) := by decide +kernel
theorem dX11_lean_46 : decode cX11_lean 46 = .ok (.aaload, 1) := by decide +kernel
theorem dX11_lean_47 : decode cX11_lean 47 = .ok (.getfield 333, 3) := by decide +kernel
theorem dX11_lean_50 : decode cX11_lean 50 = .ok (.invokevirtual 368, 3) := by decide +kernel
theorem dX11_lean_53 : decode cX11_lean 53 = .ok (.bipush 10, 2) := by decide +kernel
theorem dX11_lean_55 : decode cX11_lean 55 = .ok (.iload_n 2, 1) := by decide +kernel
theorem dX11_lean_56 : decode cX11_lean 56 = .ok (.isub, 1) := by decide +kernel
theorem dX11_lean_57 : decode cX11_lean 57 = .ok (.istore 4, 2) := by decide +kernel
theorem dX11_lean_59 : decode cX11_lean 59 = .ok (.aload_n 0, 1) := by decide +kernel
theorem dX11_lean_60 : decode cX11_lean 60 = .ok (.getfield 33, 3) := by decide +kernel
theorem dX11_lean_63 : decode cX11_lean 63 = .ok (.iload 4, 2) := by decide +kernel
theorem dX11_lean_65 : decode cX11_lean 65 = .ok (.iconst 1, 1) := by decide +kernel
theorem dX11_lean_66 : decode cX11_lean 66 = .ok (.invokevirtual 377, 3) := by decide +kernel
theorem dX11_lean_69 : decode cX11_lean 69 = .ok (.aload_n 0, 1) := by decide +kernel
theorem dX11_lean_70 : decode cX11_lean 70 = .ok (.getfield 33, 3) := by decide +kernel
theorem dX11_lean_73 : decode cX11_lean 73 = .ok (.iload 4, 2) := by decide +kernel
theorem dX11_lean_75 : decode cX11_lean 75 = .ok (.iconst 0, 1) := by decide +kernel
theorem dX11_lean_76 : decode cX11_lean 76 = .ok (.invokevirtual 377, 3) := by decide +kernel
theorem dX11_lean_79 : decode cX11_lean 79 = .ok (.isub, 1) := by decide +kernel
theorem dX11_lean_80 : decode cX11_lean 80 = .ok (.ireturn, 1) := by decide +kernel
theorem dX11_ties_0 : decode cX11_ties 0 = .ok (.iload_n 2, 1) := by decide +kernel
theorem dX11_ties_1 : decode cX11_ties 1 = .ok (.ifCond .lt 8, 3) := by decide +kernel
theorem dX11_ties_4 : decode cX11_ties 4 = .ok (.iload_n 2, 1) := by decide +kernel
theorem dX11_ties_5 : decode cX11_ties 5 = .ok (.iconst 1, 1) := by decide +kernel
theorem dX11_ties_6 : decode cX11_ties 6 = .ok (.if_icmp .le 6, 3) := by decide +kernel
theorem dX11_ties_9 : decode cX11_ties 9 = .ok (.bipush (-2), 2) := by decide +kernel
theorem dX11_ties_11 : decode cX11_ties 11 = .ok (.ireturn, 1) := by decide +kernel
theorem dX11_ties_12 : decode cX11_ties 12 = .ok (.aload_n 0, 1) := by decide +kernel
theorem dX11_ties_13 : decode cX11_ties 13 = .ok (.iload_n 1, 1) := by decide +kernel
theorem dX11_ties_14 : decode cX11_ties 14 = .ok (.invokevirtual 353, 3) := by decide +kernel
theorem dX11_ties_17 : decode cX11_ties 17 = .ok (.istore_n 3, 1) := by decide +kernel
theorem dX11_ties_18 : decode cX11_ties 18 = .ok (.iload_n 3, 1) := by decide +kernel
theorem dX11_ties_19 : decode cX11_ties 19 = .ok (.ifCond .eq 5, 3) := by decide +kernel
theorem dX11_ties_22 : decode cX11_ties 22 = .ok (.iload_n 3, 1) := by decide +kernel
theorem dX11_ties_23 : decode cX11_ties 23 = .ok (.ireturn, 1) := by decide +kernel
theorem dX11_ties_24 : decode cX11_ties 24 = .ok (.aload_n 0, 1) := by decide +kernel
theorem dX11_ties_25 : decode cX11_ties 25 = .ok (.getfield 33, 3) := by decide +kernel
theorem dX11_ties_28 : decode cX11_ties 28 = .ok (.aload_n 0, 1) := by decide +kernel
theorem dX11_ties_29 : decode cX11_ties 29 = .ok (.getfield 56, 3) := by decide +kernel
theorem dX11_ties_32 : decode cX11_ties 32 = .ok (.getfield 246, 3) := by decide +kernel
theorem dX11_ties_35 : decode cX11_ties 35 = .ok (.getfield 324, 3) := by decide +kernel
theorem dX11_ties_38 : decode cX11_ties 38 = .ok (.iload_n 1, 1) := by decide +kernel
theorem dX11_ties_39 : decode cX11_ties 39 = .ok (.aaload, 1) := by decide +kernel
theorem dX11_ties_40 : decode cX11_ties 40 = .ok (.getfield 333, 3) := by decide +kernel
theorem dX11_ties_43 : decode cX11_ties 43 = .ok (.invokevirtual 368, 3) := by decide +kernel
theorem dX11_ties_46 : decode cX11_ties 46 = .ok (.aload_n 0, 1) := by decide +kernel
theorem dX11_ties_47 : decode cX11_ties 47 = .ok (.getfield 33, 3) := by decide +kernel
theorem dX11_ties_50 : decode cX11_ties 50 = .ok (.getfield 374, 3) := by decide +kernel
theorem dX11_ties_53 : decode cX11_ties 53 = .ok (.aload_n 0, 1) := by decide +kernel
theorem dX11_ties_54 : decode cX11_ties 54 = .ok (.getfield 33, 3) := by decide +kernel
theorem dX11_ties_57 : decode cX11_ties 57 = .ok (.iconst (-1), 1) := by decide +kernel
theorem dX11_ties_58 : decode cX11_ties 58 = .ok (.invokevirtual 371, 3) := by decide +kernel
theorem dX11_ties_61 : decode cX11_ties 61 = .ok (.iaload, 1) := by decide +kernel
theorem dX11_ties_62 : decode cX11_ties 62 = .ok (.istore 4, 2) := by decide +kernel
theorem dX11_ties_64 : decode cX11_ties 64 = .ok (.iconst 0, 1) := by decide +kernel
theorem dX11_ties_65 : decode cX11_ties 65 = .ok (.istore 5, 2) := by decide +kernel
theorem dX11_ties_67 : decode cX11_ties 67 = .ok (.iconst 0, 1) := by decide +kernel
theorem dX11_ties_68 : decode cX11_ties 68 = .ok (.istore 6, 2) := by decide +kernel
theorem dX11_ties_70 : decode cX11_ties 70 = .ok (.iload 6, 2) := by decide +kernel
theorem dX11_ties_72 : decode cX11_ties 72 = .ok (.sipush 2048, 3) := by decide +kernel
theorem dX11_ties_75 : decode cX11_ties 75 = .ok (.if_icmp .ge 39, 3) := by decide +kernel
theorem dX11_ties_78 : decode cX11_ties 78 = .ok (.aload_n 0, 1) := by decide +kernel
theorem dX11_ties_79 : decode cX11_ties 79 = .ok (.getfield 33, 3) := by decide +kernel
theorem dX11_ties_82 : decode cX11_ties 82 = .ok (.getfield 374, 3) := by decide +kernel
theorem dX11_ties_85 : decode cX11_ties 85 = .ok (.iload 6, 2) := by decide +kernel
theorem dX11_ties_87 : decode cX11_ties 87 = .ok (.iaload, 1) := by decide +kernel
theorem dX11_ties_88 : decode cX11_ties 88 = .ok (.iload 4, 2) := by decide +kernel
theorem dX11_ties_90 : decode cX11_ties 90 = .ok (.if_icmp .ne 18, 3) := by decide +kernel
theorem dX11_ties_93 : decode cX11_ties 93 = .ok (.iload_n 2, 1) := by decide +kernel
theorem dX11_ties_94 : decode cX11_ties 94 = .ok (.ifCond .eq 11, 3) := by decide +kernel
theorem dX11_ties_97 : decode cX11_ties 97 = .ok (.iload 6, 2) := by decide +kernel
theorem dX11_ties_99 : decode cX11_ties 99 = .ok (.invokestatic 86, 3) := by decide +kernel
theorem dX11_ties_102 : decode cX11_ties 102 = .ok (.ifCond .eq 6, 3) := by decide +kernel
theorem dX11_ties_105 : decode cX11_ties 105 = .ok (.iinc 5 1, 3) := by decide +kernel
theorem dX11_ties_108 : decode cX11_ties 108 = .ok (.iinc 6 1, 3) := by decide +kernel
theorem dX11_ties_111 : decode cX11_ties 111 = .ok (.goto (-41), 3) := by decide +kernel
theorem dX11_ties_114 : decode cX11_ties 114 = .ok (.iload 5, 2) := by decide +kernel
theorem dX11_ties_116 : decode cX11_ties 116 = .ok (.ireturn, 1) := by decide +kernel
theorem dX11_rank_0 : decode cX11_rank 0 = .ok (.aload_n 0, 1) := by decide +kernel
theorem dX11_rank_1 : decode cX11_rank 1 = .ok (.iload_n 1, 1) := by decide +kernel
theorem dX11_rank_2 : decode cX11_rank 2 = .ok (.iload_n 2, 1) := by decide +kernel
theorem dX11_rank_3 : decode cX11_rank 3 = .ok (.invokestatic 83, 3) := by decide +kernel
theorem dX11_rank_6 : decode cX11_rank 6 = .ok (.invokevirtual 364, 3) := by decide +kernel
theorem dX11_rank_9 : decode cX11_rank 9 = .ok (.istore_n 3, 1) := by decide +kernel
theorem dX11_rank_10 : decode cX11_rank 10 = .ok (.iload_n 3, 1) := by decide +kernel
theorem dX11_rank_11 : decode cX11_rank 11 = .ok (.ifCond .eq 5, 3) := by decide +kernel
theorem dX11_rank_14 : decode cX11_rank 14 = .ok (.iload_n 3, 1) := by decide +kernel
theorem dX11_rank_15 : decode cX11_rank 15 = .ok (.ireturn, 1) := by decide +kernel
theorem dX11_rank_16 : decode cX11_rank 16 = .ok (.aload_n 0, 1) := by decide +kernel
theorem dX11_rank_17 : decode cX11_rank 17 = .ok (.getfield 33, 3) := by decide +kernel
theorem dX11_rank_20 : decode cX11_rank 20 = .ok (.aload_n 0, 1) := by decide +kernel
theorem dX11_rank_21 : decode cX11_rank 21 = .ok (.getfield 56, 3) := by decide +kernel
theorem dX11_rank_24 : decode cX11_rank 24 = .ok (.getfield 246, 3) := by decide +kernel
theorem dX11_rank_27 : decode cX11_rank 27 = .ok (.getfield 324, 3) := by decide +kernel
theorem dX11_rank_30 : decode cX11_rank 30 = .ok (.iload_n 1, 1) := by decide +kernel
theorem dX11_rank_31 : decode cX11_rank 31 = .ok (.aaload, 1) := by decide +kernel
theorem dX11_rank_32 : decode cX11_rank 32 = .ok (.getfield 333, 3) := by decide +kernel
theorem dX11_rank_35 : decode cX11_rank 35 = .ok (.invokevirtual 368, 3) := by decide +kernel
theorem dX11_rank_38 : decode cX11_rank 38 = .ok (.aload_n 0, 1) := by decide +kernel
theorem dX11_rank_39 : decode cX11_rank 39 = .ok (.getfield 33, 3) := by decide +kernel
theorem dX11_rank_42 : decode cX11_rank 42 = .ok (.getfield 374, 3) := by decide +kernel
theorem dX11_rank_45 : decode cX11_rank 45 = .ok (.iload_n 2, 1) := by decide +kernel
theorem dX11_rank_46 : decode cX11_rank 46 = .ok (.iaload, 1) := by decide +kernel
theorem dX11_rank_47 : decode cX11_rank 47 = .ok (.istore 4, 2) := by decide +kernel
theorem dX11_rank_49 : decode cX11_rank 49 = .ok (.iconst 0, 1) := by decide +kernel
theorem dX11_rank_50 : decode cX11_rank 50 = .ok (.istore 5, 2) := by decide +kernel
theorem dX11_rank_52 : decode cX11_rank 52 = .ok (.iconst 0, 1) := by decide +kernel
theorem dX11_rank_53 : decode cX11_rank 53 = .ok (.istore 6, 2) := by decide +kernel
theorem dX11_rank_55 : decode cX11_rank 55 = .ok (.iload 6, 2) := by decide +kernel
theorem dX11_rank_57 : decode cX11_rank 57 = .ok (.sipush 2048, 3) := by decide +kernel
theorem dX11_rank_60 : decode cX11_rank 60 = .ok (.if_icmp .ge 27, 3) := by decide +kernel
theorem dX11_rank_63 : decode cX11_rank 63 = .ok (.aload_n 0, 1) := by decide +kernel
theorem dX11_rank_64 : decode cX11_rank 64 = .ok (.getfield 33, 3) := by decide +kernel
theorem dX11_rank_67 : decode cX11_rank 67 = .ok (.getfield 374, 3) := by decide +kernel
theorem dX11_rank_70 : decode cX11_rank 70 = .ok (.iload 6, 2) := by decide +kernel
theorem dX11_rank_72 : decode cX11_rank 72 = .ok (.iaload, 1) := by decide +kernel
theorem dX11_rank_73 : decode cX11_rank 73 = .ok (.iload 4, 2) := by decide +kernel
theorem dX11_rank_75 : decode cX11_rank 75 = .ok (.if_icmp .le 6, 3) := by decide +kernel
theorem dX11_rank_78 : decode cX11_rank 78 = .ok (.iinc 5 1, 3) := by decide +kernel
theorem dX11_rank_81 : decode cX11_rank 81 = .ok (.iinc 6 1, 3) := by decide +kernel
theorem dX11_rank_84 : decode cX11_rank 84 = .ok (.goto (-29), 3) := by decide +kernel
theorem dX11_rank_87 : decode cX11_rank 87 = .ok (.iload 5, 2) := by decide +kernel
theorem dX11_rank_89 : decode cX11_rank 89 = .ok (.ireturn, 1) := by decide +kernel
theorem dX11_listed_0 : decode cX11_listed 0 = .ok (.aload_n 0, 1) := by decide +kernel
theorem dX11_listed_1 : decode cX11_listed 1 = .ok (.iload_n 1, 1) := by decide +kernel
theorem dX11_listed_2 : decode cX11_listed 2 = .ok (.iload_n 2, 1) := by decide +kernel
theorem dX11_listed_3 : decode cX11_listed 3 = .ok (.ifCond .lt 14, 3) := by decide +kernel
theorem dX11_listed_6 : decode cX11_listed 6 = .ok (.iload_n 2, 1) := by decide +kernel
theorem dX11_listed_7 : decode cX11_listed 7 = .ok (.sipush 256, 3) := by decide +kernel
theorem dX11_listed_10 : decode cX11_listed 10 = .ok (.if_icmp .ge 7, 3) := by decide +kernel
theorem dX11_listed_13 : decode cX11_listed 13 = .ok (.iconst 1, 1) := by decide +kernel
theorem dX11_listed_14 : decode cX11_listed 14 = .ok (.goto 4, 3) := by decide +kernel
theorem dX11_listed_17 : decode cX11_listed 17 = .ok (.iconst 0, 1) := by decide +kernel
theorem dX11_listed_18 : decode cX11_listed 18 = .ok (.invokevirtual 364, 3) := by decide +kernel
theorem dX11_listed_21 : decode cX11_listed 21 = .ok (.istore_n 3, 1) := by decide +kernel
theorem dX11_listed_22 : decode cX11_listed 22 = .ok (.iload_n 3, 1) := by decide +kernel
theorem dX11_listed_23 : decode cX11_listed 23 = .ok (.ifCond .eq 5, 3) := by decide +kernel
theorem dX11_listed_26 : decode cX11_listed 26 = .ok (.iload_n 3, 1) := by decide +kernel
theorem dX11_listed_27 : decode cX11_listed 27 = .ok (.ireturn, 1) := by decide +kernel
theorem dX11_listed_28 : decode cX11_listed 28 = .ok (.aload_n 0, 1) := by decide +kernel
theorem dX11_listed_29 : decode cX11_listed 29 = .ok (.getfield 33, 3) := by decide +kernel
theorem dX11_listed_32 : decode cX11_listed 32 = .ok (.aload_n 0, 1) := by decide +kernel
theorem dX11_listed_33 : decode cX11_listed 33 = .ok (.getfield 56, 3) := by decide +kernel
theorem dX11_listed_36 : decode cX11_listed 36 = .ok (.getfield 246, 3) := by decide +kernel
theorem dX11_listed_39 : decode cX11_listed 39 = .ok (.getfield 324, 3) := by decide +kernel
theorem dX11_listed_42 : decode cX11_listed 42 = .ok (.iload_n 1, 1) := by decide +kernel
theorem dX11_listed_43 : decode cX11_listed 43 = .ok (.aaload, 1) := by decide +kernel
theorem dX11_listed_44 : decode cX11_listed 44 = .ok (.getfield 333, 3) := by decide +kernel
theorem dX11_listed_47 : decode cX11_listed 47 = .ok (.invokevirtual 368, 3) := by decide +kernel
theorem dX11_listed_50 : decode cX11_listed 50 = .ok (.iconst 0, 1) := by decide +kernel
theorem dX11_listed_51 : decode cX11_listed 51 = .ok (.istore 4, 2) := by decide +kernel
theorem dX11_listed_53 : decode cX11_listed 53 = .ok (.iload 4, 2) := by decide +kernel
theorem dX11_listed_55 : decode cX11_listed 55 = .ok (.sipush 256, 3) := by decide +kernel
theorem dX11_listed_58 : decode cX11_listed 58 = .ok (.if_icmp .ge 50, 3) := by decide +kernel
theorem dX11_listed_61 : decode cX11_listed 61 = .ok (.iload 4, 2) := by decide +kernel
theorem dX11_listed_63 : decode cX11_listed 63 = .ok (.invokestatic 79, 3) := by decide +kernel
theorem dX11_listed_66 : decode cX11_listed 66 = .ok (.istore 5, 2) := by decide +kernel
theorem dX11_listed_68 : decode cX11_listed 68 = .ok (.aload_n 0, 1) := by decide +kernel
theorem dX11_listed_69 : decode cX11_listed 69 = .ok (.getfield 71, 3) := by decide +kernel
theorem dX11_listed_72 : decode cX11_listed 72 = .ok (.iload 4, 2) := by decide +kernel
theorem dX11_listed_74 : decode cX11_listed 74 = .ok (.aload_n 0, 1) := by decide +kernel
theorem dX11_listed_75 : decode cX11_listed 75 = .ok (.getfield 33, 3) := by decide +kernel
theorem dX11_listed_78 : decode cX11_listed 78 = .ok (.getfield 374, 3) := by decide +kernel
theorem dX11_listed_81 : decode cX11_listed 81 = .ok (.iload 5, 2) := by decide +kernel
theorem dX11_listed_83 : decode cX11_listed 83 = .ok (.iaload, 1) := by decide +kernel
theorem dX11_listed_84 : decode cX11_listed 84 = .ok (.i2l, 1) := by decide +kernel
theorem dX11_listed_85 : decode cX11_listed 85 = .ok (.ldc2_w 380, 3) := by decide +kernel
theorem dX11_listed_88 : decode cX11_listed 88 = .ok (.ladd, 1) := by decide +kernel
theorem dX11_listed_89 : decode cX11_listed 89 = .ok (.ldc2_w 382, 3) := by decide +kernel
theorem dX11_listed_92 : decode cX11_listed 92 = .ok (.lmul, 1) := by decide +kernel
theorem dX11_listed_93 : decode cX11_listed 93 = .ok (.sipush 2047, 3) := by decide +kernel
theorem dX11_listed_96 : decode cX11_listed 96 = .ok (.iload 5, 2) := by decide +kernel
theorem dX11_listed_98 : decode cX11_listed 98 = .ok (.isub, 1) := by decide +kernel
theorem dX11_listed_99 : decode cX11_listed 99 = .ok (.i2l, 1) := by decide +kernel
theorem dX11_listed_100 : decode cX11_listed 100 = .ok (.ladd, 1) := by decide +kernel
theorem dX11_listed_101 : decode cX11_listed 101 = .ok (.lastore, 1) := by decide +kernel
theorem dX11_listed_102 : decode cX11_listed 102 = .ok (.iinc 4 1, 3) := by decide +kernel
theorem dX11_listed_105 : decode cX11_listed 105 = .ok (.goto (-52), 3) := by decide +kernel
theorem dX11_listed_108 : decode cX11_listed 108 = .ok (.sipush 2047, 3) := by decide +kernel
theorem dX11_listed_111 : decode cX11_listed 111 = .ok (.aload_n 0, 1) := by decide +kernel
theorem dX11_listed_112 : decode cX11_listed 112 = .ok (.iload_n 2, 1) := by decide +kernel
theorem dX11_listed_113 : decode cX11_listed 113 = .ok (.invokevirtual 384, 3) := by decide +kernel
theorem dX11_listed_116 : decode cX11_listed 116 = .ok (.ldc2_w 388, 3) := by decide +kernel
theorem dX11_listed_119 : decode cX11_listed 119 = .ok (.land, 1) := by decide +kernel
theorem dX11_listed_120 : decode cX11_listed 120 = .ok (.l2i, 1) := by decide +kernel
theorem dX11_listed_121 : decode cX11_listed 121 = .ok (.isub, 1) := by decide +kernel
theorem dX11_listed_122 : decode cX11_listed 122 = .ok (.ireturn, 1) := by decide +kernel
theorem dX11_against_0 : decode cX11_against 0 = .ok (.aload_n 0, 1) := by decide +kernel
theorem dX11_against_1 : decode cX11_against 1 = .ok (.iload_n 1, 1) := by decide +kernel
theorem dX11_against_2 : decode cX11_against 2 = .ok (.iload_n 2, 1) := by decide +kernel
theorem dX11_against_3 : decode cX11_against 3 = .ok (.invokestatic 83, 3) := by decide +kernel
theorem dX11_against_6 : decode cX11_against 6 = .ok (.invokevirtual 364, 3) := by decide +kernel
theorem dX11_against_9 : decode cX11_against 9 = .ok (.istore_n 3, 1) := by decide +kernel
theorem dX11_against_10 : decode cX11_against 10 = .ok (.iload_n 3, 1) := by decide +kernel
theorem dX11_against_11 : decode cX11_against 11 = .ok (.ifCond .eq 7, 3) := by decide +kernel
theorem dX11_against_14 : decode cX11_against 14 = .ok (.iload_n 3, 1) := by decide +kernel
theorem dX11_against_15 : decode cX11_against 15 = .ok (.goto 30, 3) := by decide +kernel
theorem dX11_against_18 : decode cX11_against 18 = .ok (.aload_n 0, 1) := by decide +kernel
theorem dX11_against_19 : decode cX11_against 19 = .ok (.getfield 56, 3) := by decide +kernel
theorem dX11_against_22 : decode cX11_against 22 = .ok (.getfield 246, 3) := by decide +kernel
theorem dX11_against_25 : decode cX11_against 25 = .ok (.getfield 324, 3) := by decide +kernel
theorem dX11_against_28 : decode cX11_against 28 = .ok (.iload_n 1, 1) := by decide +kernel
theorem dX11_against_29 : decode cX11_against 29 = .ok (.aaload, 1) := by decide +kernel
theorem dX11_against_30 : decode cX11_against 30 = .ok (.getfield 333, 3) := by decide +kernel
theorem dX11_against_33 : decode cX11_against 33 = .ok (.aload_n 0, 1) := by decide +kernel
theorem dX11_against_34 : decode cX11_against 34 = .ok (.getfield 12, 3) := by decide +kernel
theorem dX11_against_37 : decode cX11_against 37 = .ok (.getfield 91, 3) := by decide +kernel
theorem dX11_against_40 : decode cX11_against 40 = .ok (.iload_n 2, 1) := by decide +kernel
theorem dX11_against_41 : decode cX11_against 41 = .ok (.laload, 1) := by decide +kernel
theorem dX11_against_42 : decode cX11_against 42 = .ok (.invokestatic 390, 3) := by decide +kernel
theorem dX11_against_45 : decode cX11_against 45 = .ok (.ireturn, 1) := by decide +kernel
theorem dX11_known_0 : decode cX11_known 0 = .ok (.iload_n 2, 1) := by decide +kernel
theorem dX11_known_1 : decode cX11_known 1 = .ok (.ifCond .lt 8, 3) := by decide +kernel
theorem dX11_known_4 : decode cX11_known 4 = .ok (.iload_n 2, 1) := by decide +kernel
theorem dX11_known_5 : decode cX11_known 5 = .ok (.iconst 1, 1) := by decide +kernel
theorem dX11_known_6 : decode cX11_known 6 = .ok (.if_icmp .le 6, 3) := by decide +kernel
theorem dX11_known_9 : decode cX11_known 9 = .ok (.bipush (-2), 2) := by decide +kernel
theorem dX11_known_11 : decode cX11_known 11 = .ok (.ireturn, 1) := by decide +kernel
theorem dX11_known_12 : decode cX11_known 12 = .ok (.aload_n 0, 1) := by decide +kernel
theorem dX11_known_13 : decode cX11_known 13 = .ok (.iload_n 1, 1) := by decide +kernel
theorem dX11_known_14 : decode cX11_known 14 = .ok (.invokevirtual 353, 3) := by decide +kernel
theorem dX11_known_17 : decode cX11_known 17 = .ok (.istore_n 3, 1) := by decide +kernel
theorem dX11_known_18 : decode cX11_known 18 = .ok (.iload_n 3, 1) := by decide +kernel
theorem dX11_known_19 : decode cX11_known 19 = .ok (.ifCond .eq 5, 3) := by decide +kernel
theorem dX11_known_22 : decode cX11_known 22 = .ok (.iload_n 3, 1) := by decide +kernel
theorem dX11_known_23 : decode cX11_known 23 = .ok (.ireturn, 1) := by decide +kernel
theorem dX11_known_24 : decode cX11_known 24 = .ok (.aload_n 0, 1) := by decide +kernel
theorem dX11_known_25 : decode cX11_known 25 = .ok (.getfield 56, 3) := by decide +kernel
theorem dX11_known_28 : decode cX11_known 28 = .ok (.getfield 246, 3) := by decide +kernel
theorem dX11_known_31 : decode cX11_known 31 = .ok (.getfield 324, 3) := by decide +kernel
theorem dX11_known_34 : decode cX11_known 34 = .ok (.iload_n 1, 1) := by decide +kernel
theorem dX11_known_35 : decode cX11_known 35 = .ok (.aaload, 1) := by decide +kernel
theorem dX11_known_36 : decode cX11_known 36 = .ok (.getfield 333, 3) := by decide +kernel
theorem dX11_known_39 : decode cX11_known 39 = .ok (.astore 4, 2) := by decide +kernel
theorem dX11_known_41 : decode cX11_known 41 = .ok (.iconst 0, 1) := by decide +kernel
theorem dX11_known_42 : decode cX11_known 42 = .ok (.istore 5, 2) := by decide +kernel
theorem dX11_known_44 : decode cX11_known 44 = .ok (.iconst 0, 1) := by decide +kernel
theorem dX11_known_45 : decode cX11_known 45 = .ok (.istore 6, 2) := by decide +kernel
theorem dX11_known_47 : decode cX11_known 47 = .ok (.iload 6, 2) := by decide +kernel
theorem dX11_known_49 : decode cX11_known 49 = .ok (.bipush 39, 2) := by decide +kernel
theorem dX11_known_51 : decode cX11_known 51 = .ok (.if_icmp .ge 41, 3) := by decide +kernel
theorem dX11_known_54 : decode cX11_known 54 = .ok (.aload_n 0, 1) := by decide +kernel
theorem dX11_known_55 : decode cX11_known 55 = .ok (.getfield 64, 3) := by decide +kernel
theorem dX11_known_58 : decode cX11_known 58 = .ok (.iload 6, 2) := by decide +kernel
theorem dX11_known_60 : decode cX11_known 60 = .ok (.aload 4, 2) := by decide +kernel
theorem dX11_known_62 : decode cX11_known 62 = .ok (.iload 6, 2) := by decide +kernel
theorem dX11_known_64 : decode cX11_known 64 = .ok (.iaload, 1) := by decide +kernel
theorem dX11_known_65 : decode cX11_known 65 = .ok (.ifCond .eq 7, 3) := by decide +kernel
theorem dX11_known_68 : decode cX11_known 68 = .ok (.iconst 1, 1) := by decide +kernel
theorem dX11_known_69 : decode cX11_known 69 = .ok (.goto 4, 3) := by decide +kernel
theorem dX11_known_72 : decode cX11_known 72 = .ok (.iconst 0, 1) := by decide +kernel
theorem dX11_known_73 : decode cX11_known 73 = .ok (.iastore, 1) := by decide +kernel
theorem dX11_known_74 : decode cX11_known 74 = .ok (.iload 5, 2) := by decide +kernel
theorem dX11_known_76 : decode cX11_known 76 = .ok (.aload_n 0, 1) := by decide +kernel
theorem dX11_known_77 : decode cX11_known 77 = .ok (.getfield 64, 3) := by decide +kernel
theorem dX11_known_80 : decode cX11_known 80 = .ok (.iload 6, 2) := by decide +kernel
theorem dX11_known_82 : decode cX11_known 82 = .ok (.iaload, 1) := by decide +kernel
theorem dX11_known_83 : decode cX11_known 83 = .ok (.iadd, 1) := by decide +kernel
theorem dX11_known_84 : decode cX11_known 84 = .ok (.istore 5, 2) := by decide +kernel
theorem dX11_known_86 : decode cX11_known 86 = .ok (.iinc 6 1, 3) := by decide +kernel
theorem dX11_known_89 : decode cX11_known 89 = .ok (.goto (-42), 3) := by decide +kernel
theorem dX11_known_92 : decode cX11_known 92 = .ok (.iload_n 2, 1) := by decide +kernel
theorem dX11_known_93 : decode cX11_known 93 = .ok (.ifCond .ne 6, 3) := by decide +kernel
theorem dX11_known_96 : decode cX11_known 96 = .ok (.iload 5, 2) := by decide +kernel
theorem dX11_known_98 : decode cX11_known 98 = .ok (.ireturn, 1) := by decide +kernel
theorem dX11_known_99 : decode cX11_known 99 = .ok (.aload_n 0, 1) := by decide +kernel
theorem dX11_known_100 : decode cX11_known 100 = .ok (.getfield 26, 3) := by decide +kernel
theorem dX11_known_103 : decode cX11_known 103 = .ok (.aload_n 0, 1) := by decide +kernel
theorem dX11_known_104 : decode cX11_known 104 = .ok (.getfield 64, 3) := by decide +kernel
theorem dX11_known_107 : decode cX11_known 107 = .ok (.invokevirtual 320, 3) := by decide +kernel
theorem dX11_known_110 : decode cX11_known 110 = .ok (.aload_n 0, 1) := by decide +kernel
theorem dX11_known_111 : decode cX11_known 111 = .ok (.getfield 26, 3) := by decide +kernel
theorem dX11_known_114 : decode cX11_known 114 = .ok (.aload_n 0, 1) := by decide +kernel
theorem dX11_known_115 : decode cX11_known 115 = .ok (.getfield 12, 3) := by decide +kernel
theorem dX11_known_118 : decode cX11_known 118 = .ok (.getfield 134, 3) := by decide +kernel
theorem dX11_known_121 : decode cX11_known 121 = .ok (.invokevirtual 137, 3) := by decide +kernel
theorem dX11_known_124 : decode cX11_known 124 = .ok (.ireturn, 1) := by decide +kernel
theorem dX11_wrong_0 : decode cX11_wrong 0 = .ok (.aload_n 0, 1) := by decide +kernel
theorem dX11_wrong_1 : decode cX11_wrong 1 = .ok (.iload_n 1, 1) := by decide +kernel
theorem dX11_wrong_2 : decode cX11_wrong 2 = .ok (.invokevirtual 353, 3) := by decide +kernel
theorem dX11_wrong_5 : decode cX11_wrong 5 = .ok (.istore_n 2, 1) := by decide +kernel
theorem dX11_wrong_6 : decode cX11_wrong 6 = .ok (.iload_n 2, 1) := by decide +kernel
theorem dX11_wrong_7 : decode cX11_wrong 7 = .ok (.ifCond .eq 5, 3) := by decide +kernel
theorem dX11_wrong_10 : decode cX11_wrong 10 = .ok (.iload_n 2, 1) := by decide +kernel
theorem dX11_wrong_11 : decode cX11_wrong 11 = .ok (.ireturn, 1) := by decide +kernel
theorem dX11_wrong_12 : decode cX11_wrong 12 = .ok (.aload_n 0, 1) := by decide +kernel
theorem dX11_wrong_13 : decode cX11_wrong 13 = .ok (.getfield 56, 3) := by decide +kernel
theorem dX11_wrong_16 : decode cX11_wrong 16 = .ok (.getfield 246, 3) := by decide +kernel
theorem dX11_wrong_19 : decode cX11_wrong 19 = .ok (.getfield 324, 3) := by decide +kernel
theorem dX11_wrong_22 : decode cX11_wrong 22 = .ok (.iload_n 1, 1) := by decide +kernel
theorem dX11_wrong_23 : decode cX11_wrong 23 = .ok (.aaload, 1) := by decide +kernel
theorem dX11_wrong_24 : decode cX11_wrong 24 = .ok (.getfield 333, 3) := by decide +kernel
theorem dX11_wrong_27 : decode cX11_wrong 27 = .ok (.astore_n 3, 1) := by decide +kernel
theorem dX11_wrong_28 : decode cX11_wrong 28 = .ok (.aload_n 3, 1) := by decide +kernel
theorem dX11_wrong_29 : decode cX11_wrong 29 = .ok (.aload_n 0, 1) := by decide +kernel
theorem dX11_wrong_30 : decode cX11_wrong 30 = .ok (.getfield 12, 3) := by decide +kernel
theorem dX11_wrong_33 : decode cX11_wrong 33 = .ok (.getfield 91, 3) := by decide +kernel
theorem dX11_wrong_36 : decode cX11_wrong 36 = .ok (.aload_n 0, 1) := by decide +kernel
theorem dX11_wrong_37 : decode cX11_wrong 37 = .ok (.getfield 33, 3) := by decide +kernel
theorem dX11_wrong_40 : decode cX11_wrong 40 = .ok (.aload_n 3, 1) := by decide +kernel
theorem dX11_wrong_41 : decode cX11_wrong 41 = .ok (.invokevirtual 349, 3) := by decide +kernel
theorem dX11_wrong_44 : decode cX11_wrong 44 = .ok (.laload, 1) := by decide +kernel
theorem dX11_wrong_45 : decode cX11_wrong 45 = .ok (.invokestatic 390, 3) := by decide +kernel
theorem dX11_wrong_48 : decode cX11_wrong 48 = .ok (.ireturn, 1) := by decide +kernel
theorem dX11_stored_0 : decode cX11_stored 0 = .ok (.iload_n 1, 1) := by decide +kernel
theorem dX11_stored_1 : decode cX11_stored 1 = .ok (.invokestatic 75, 3) := by decide +kernel
theorem dX11_stored_4 : decode cX11_stored 4 = .ok (.ifCond .ne 6, 3) := by decide +kernel
theorem dX11_stored_7 : decode cX11_stored 7 = .ok (.bipush (-7), 2) := by decide +kernel
theorem dX11_stored_9 : decode cX11_stored 9 = .ok (.ireturn, 1) := by decide +kernel
theorem dX11_stored_10 : decode cX11_stored 10 = .ok (.aload_n 0, 1) := by decide +kernel
theorem dX11_stored_11 : decode cX11_stored 11 = .ok (.getfield 56, 3) := by decide +kernel
theorem dX11_stored_14 : decode cX11_stored 14 = .ok (.getfield 246, 3) := by decide +kernel
theorem dX11_stored_17 : decode cX11_stored 17 = .ok (.getfield 394, 3) := by decide +kernel
theorem dX11_stored_20 : decode cX11_stored 20 = .ok (.iload_n 1, 1) := by decide +kernel
theorem dX11_stored_21 : decode cX11_stored 21 = .ok (.iaload, 1) := by decide +kernel
theorem dX11_stored_22 : decode cX11_stored 22 = .ok (.istore_n 2, 1) := by decide +kernel
theorem dX11_stored_23 : decode cX11_stored 23 = .ok (.iload_n 2, 1) := by decide +kernel
theorem dX11_stored_24 : decode cX11_stored 24 = .ok (.iconst (-1), 1) := by decide +kernel
theorem dX11_stored_25 : decode cX11_stored 25 = .ok (.if_icmp .ne 8, 3) := by decide +kernel
theorem dX11_stored_28 : decode cX11_stored 28 = .ok (.bipush (-6), 2) := by decide +kernel
theorem dX11_stored_30 : decode cX11_stored 30 = .ok (.goto 4, 3) := by decide +kernel
theorem dX11_stored_33 : decode cX11_stored 33 = .ok (.iload_n 2, 1) := by decide +kernel
theorem dX11_stored_34 : decode cX11_stored 34 = .ok (.ireturn, 1) := by decide +kernel
theorem dX11_gaps_0 : decode cX11_gaps 0 = .ok (.aload_n 0, 1) := by decide +kernel
theorem dX11_gaps_1 : decode cX11_gaps 1 = .ok (.getfield 56, 3) := by decide +kernel
theorem dX11_gaps_4 : decode cX11_gaps 4 = .ok (.getfield 246, 3) := by decide +kernel
theorem dX11_gaps_7 : decode cX11_gaps 7 = .ok (.astore_n 2, 1) := by decide +kernel
theorem dX11_gaps_8 : decode cX11_gaps 8 = .ok (.aload_n 2, 1) := by decide +kernel
theorem dX11_gaps_9 : decode cX11_gaps 9 = .ok (.invokevirtual 397, 3) := by decide +kernel
theorem dX11_gaps_12 : decode cX11_gaps 12 = .ok (.istore_n 3, 1) := by decide +kernel
theorem dX11_gaps_13 : decode cX11_gaps 13 = .ok (.iload_n 1, 1) := by decide +kernel
theorem dX11_gaps_14 : decode cX11_gaps 14 = .ok (.tableswitch 53 0 2 #[26, 44, 49], 26) := by decide +kernel
theorem dX11_gaps_40 : decode cX11_gaps 40 = .ok (.iload_n 3, 1) := by decide +kernel
theorem dX11_gaps_41 : decode cX11_gaps 41 = .ok (.iconst (-1), 1) := by decide +kernel
theorem dX11_gaps_42 : decode cX11_gaps 42 = .ok (.if_icmp .ne 7, 3) := by decide +kernel
theorem dX11_gaps_45 : decode cX11_gaps 45 = .ok (.iconst 0, 1) := by decide +kernel
theorem dX11_gaps_46 : decode cX11_gaps 46 = .ok (.goto 11, 3) := by decide +kernel
theorem dX11_gaps_49 : decode cX11_gaps 49 = .ok (.iload_n 3, 1) := by decide +kernel
theorem dX11_gaps_50 : decode cX11_gaps 50 = .ok (.iconst 1, 1) := by decide +kernel
theorem dX11_gaps_51 : decode cX11_gaps 51 = .ok (.iadd, 1) := by decide +kernel
theorem dX11_gaps_52 : decode cX11_gaps 52 = .ok (.aload_n 2, 1) := by decide +kernel
theorem dX11_gaps_53 : decode cX11_gaps 53 = .ok (.invokevirtual 401, 3) := by decide +kernel
theorem dX11_gaps_56 : decode cX11_gaps 56 = .ok (.isub, 1) := by decide +kernel
theorem dX11_gaps_57 : decode cX11_gaps 57 = .ok (.ireturn, 1) := by decide +kernel
theorem dX11_gaps_58 : decode cX11_gaps 58 = .ok (.aload_n 2, 1) := by decide +kernel
theorem dX11_gaps_59 : decode cX11_gaps 59 = .ok (.invokevirtual 404, 3) := by decide +kernel
theorem dX11_gaps_62 : decode cX11_gaps 62 = .ok (.ireturn, 1) := by decide +kernel
theorem dX11_gaps_63 : decode cX11_gaps 63 = .ok (.iload_n 3, 1) := by decide +kernel
theorem dX11_gaps_64 : decode cX11_gaps 64 = .ok (.iconst 1, 1) := by decide +kernel
theorem dX11_gaps_65 : decode cX11_gaps 65 = .ok (.iadd, 1) := by decide +kernel
theorem dX11_gaps_66 : decode cX11_gaps 66 = .ok (.ireturn, 1) := by decide +kernel
theorem dX11_gaps_67 : decode cX11_gaps 67 = .ok (.bipush (-2), 2) := by decide +kernel
theorem dX11_gaps_69 : decode cX11_gaps 69 = .ok (.ireturn, 1) := by decide +kernel
theorem dX11_given_0 : decode cX11_given 0 = .ok (.iload_n 1, 1) := by decide +kernel
theorem dX11_given_1 : decode cX11_given 1 = .ok (.ifCond .ge 6, 3) := by decide +kernel
theorem dX11_given_4 : decode cX11_given 4 = .ok (.bipush (-3), 2) := by decide +kernel
theorem dX11_given_6 : decode cX11_given 6 = .ok (.ireturn, 1) := by decide +kernel
theorem dX11_given_7 : decode cX11_given 7 = .ok (.aload_n 0, 1) := by decide +kernel
theorem dX11_given_8 : decode cX11_given 8 = .ok (.getfield 56, 3) := by decide +kernel
theorem dX11_given_11 : decode cX11_given 11 = .ok (.getfield 246, 3) := by decide +kernel
theorem dX11_given_14 : decode cX11_given 14 = .ok (.iload_n 1, 1) := by decide +kernel
theorem dX11_given_15 : decode cX11_given 15 = .ok (.invokevirtual 280, 3) := by decide +kernel
theorem dX11_given_18 : decode cX11_given 18 = .ok (.ireturn, 1) := by decide +kernel
theorem dX11_would_0 : decode cX11_would 0 = .ok (.iload_n 1, 1) := by decide +kernel
theorem dX11_would_1 : decode cX11_would 1 = .ok (.invokestatic 75, 3) := by decide +kernel
theorem dX11_would_4 : decode cX11_would 4 = .ok (.ifCond .eq 12, 3) := by decide +kernel
theorem dX11_would_7 : decode cX11_would 7 = .ok (.iload_n 2, 1) := by decide +kernel
theorem dX11_would_8 : decode cX11_would 8 = .ok (.ifCond .lt 8, 3) := by decide +kernel
theorem dX11_would_11 : decode cX11_would 11 = .ok (.iload_n 2, 1) := by decide +kernel
theorem dX11_would_12 : decode cX11_would 12 = .ok (.iconst 1, 1) := by decide +kernel
theorem dX11_would_13 : decode cX11_would 13 = .ok (.if_icmp .le 6, 3) := by decide +kernel
theorem dX11_would_16 : decode cX11_would 16 = .ok (.bipush (-2), 2) := by decide +kernel
theorem dX11_would_18 : decode cX11_would 18 = .ok (.ireturn, 1) := by decide +kernel
theorem dX11_would_19 : decode cX11_would 19 = .ok (.aload_n 0, 1) := by decide +kernel
theorem dX11_would_20 : decode cX11_would 20 = .ok (.getfield 56, 3) := by decide +kernel
theorem dX11_would_23 : decode cX11_would 23 = .ok (.getfield 246, 3) := by decide +kernel
theorem dX11_would_26 : decode cX11_would 26 = .ok (.astore_n 3, 1) := by decide +kernel
theorem dX11_would_27 : decode cX11_would 27 = .ok (.aload_n 3, 1) := by decide +kernel
theorem dX11_would_28 : decode cX11_would 28 = .ok (.iload_n 1, 1) := by decide +kernel
theorem dX11_would_29 : decode cX11_would 29 = .ok (.aload_n 0, 1) := by decide +kernel
theorem dX11_would_30 : decode cX11_would 30 = .ok (.getfield 56, 3) := by decide +kernel
theorem dX11_would_33 : decode cX11_would 33 = .ok (.getfield 173, 3) := by decide +kernel
theorem dX11_would_36 : decode cX11_would 36 = .ok (.invokevirtual 407, 3) := by decide +kernel
theorem dX11_would_39 : decode cX11_would 39 = .ok (.istore 4, 2) := by decide +kernel
theorem dX11_would_41 : decode cX11_would 41 = .ok (.iload_n 2, 1) := by decide +kernel
theorem dX11_would_42 : decode cX11_would 42 = .ok (.ifCond .ne 6, 3) := by decide +kernel
theorem dX11_would_45 : decode cX11_would 45 = .ok (.iload 4, 2) := by decide +kernel
theorem dX11_would_47 : decode cX11_would 47 = .ok (.ireturn, 1) := by decide +kernel
theorem dX11_would_48 : decode cX11_would 48 = .ok (.iload 4, 2) := by decide +kernel
theorem dX11_would_50 : decode cX11_would 50 = .ok (.ifCond .ne 12, 3) := by decide +kernel
theorem dX11_would_53 : decode cX11_would 53 = .ok (.iconst 1, 1) := by decide +kernel
theorem dX11_would_54 : decode cX11_would 54 = .ok (.aload_n 3, 1) := by decide +kernel
theorem dX11_would_55 : decode cX11_would 55 = .ok (.invokevirtual 410, 3) := by decide +kernel
theorem dX11_would_58 : decode cX11_would 58 = .ok (.iadd, 1) := by decide +kernel
theorem dX11_would_59 : decode cX11_would 59 = .ok (.goto 4, 3) := by decide +kernel
theorem dX11_would_62 : decode cX11_would 62 = .ok (.iconst 0, 1) := by decide +kernel
theorem dX11_would_63 : decode cX11_would 63 = .ok (.ireturn, 1) := by decide +kernel
theorem dX11_tray_0 : decode cX11_tray 0 = .ok (.iload_n 1, 1) := by decide +kernel
theorem dX11_tray_1 : decode cX11_tray 1 = .ok (.invokestatic 239, 3) := by decide +kernel
theorem dX11_tray_4 : decode cX11_tray 4 = .ok (.ifCond .ne 6, 3) := by decide +kernel
theorem dX11_tray_7 : decode cX11_tray 7 = .ok (.bipush (-2), 2) := by decide +kernel
theorem dX11_tray_9 : decode cX11_tray 9 = .ok (.ireturn, 1) := by decide +kernel
theorem dX11_tray_10 : decode cX11_tray 10 = .ok (.iload_n 2, 1) := by decide +kernel
theorem dX11_tray_11 : decode cX11_tray 11 = .ok (.ifCond .lt 9, 3) := by decide +kernel
theorem dX11_tray_14 : decode cX11_tray 14 = .ok (.iload_n 2, 1) := by decide +kernel
theorem dX11_tray_15 : decode cX11_tray 15 = .ok (.bipush 60, 2) := by decide +kernel
theorem dX11_tray_17 : decode cX11_tray 17 = .ok (.if_icmp .le 6, 3) := by decide +kernel
theorem dX11_tray_20 : decode cX11_tray 20 = .ok (.bipush (-3), 2) := by decide +kernel
theorem dX11_tray_22 : decode cX11_tray 22 = .ok (.ireturn, 1) := by decide +kernel
theorem dX11_tray_23 : decode cX11_tray 23 = .ok (.aload_n 0, 1) := by decide +kernel
theorem dX11_tray_24 : decode cX11_tray 24 = .ok (.getfield 49, 3) := by decide +kernel
theorem dX11_tray_27 : decode cX11_tray 27 = .ok (.getfield 209, 3) := by decide +kernel
theorem dX11_tray_30 : decode cX11_tray 30 = .ok (.iload_n 1, 1) := by decide +kernel
theorem dX11_tray_31 : decode cX11_tray 31 = .ok (.iload_n 2, 1) := by decide +kernel
theorem dX11_tray_32 : decode cX11_tray 32 = .ok (.iastore, 1) := by decide +kernel
theorem dX11_tray_33 : decode cX11_tray 33 = .ok (.aload_n 0, 1) := by decide +kernel
theorem dX11_tray_34 : decode cX11_tray 34 = .ok (.getfield 49, 3) := by decide +kernel
theorem dX11_tray_37 : decode cX11_tray 37 = .ok (.getfield 218, 3) := by decide +kernel
theorem dX11_tray_40 : decode cX11_tray 40 = .ok (.iload_n 1, 1) := by decide +kernel
theorem dX11_tray_41 : decode cX11_tray 41 = .ok (.aaload, 1) := by decide +kernel
theorem dX11_tray_42 : decode cX11_tray 42 = .ok (.iconst 0, 1) := by decide +kernel
theorem dX11_tray_43 : decode cX11_tray 43 = .ok (.invokestatic 413, 3) := by decide +kernel
theorem dX11_tray_46 : decode cX11_tray 46 = .ok (.iconst 0, 1) := by decide +kernel
theorem dX11_tray_47 : decode cX11_tray 47 = .ok (.ireturn, 1) := by decide +kernel
theorem dX11_write_0 : decode cX11_write 0 = .ok (.iload_n 1, 1) := by decide +kernel
theorem dX11_write_1 : decode cX11_write 1 = .ok (.invokestatic 239, 3) := by decide +kernel
theorem dX11_write_4 : decode cX11_write 4 = .ok (.ifCond .ne 7, 3) := by decide +kernel
theorem dX11_write_7 : decode cX11_write 7 = .ok (.sipush (-1002), 3) := by decide +kernel
theorem dX11_write_10 : decode cX11_write 10 = .ok (.ireturn, 1) := by decide +kernel
theorem dX11_write_11 : decode cX11_write 11 = .ok (.aload_n 0, 1) := by decide +kernel
theorem dX11_write_12 : decode cX11_write 12 = .ok (.getfield 49, 3) := by decide +kernel
theorem dX11_write_15 : decode cX11_write 15 = .ok (.iload_n 1, 1) := by decide +kernel
theorem dX11_write_16 : decode cX11_write 16 = .ok (.invokevirtual 203, 3) := by decide +kernel
theorem dX11_write_19 : decode cX11_write 19 = .ok (.ifCond .eq 7, 3) := by decide +kernel
theorem dX11_write_22 : decode cX11_write 22 = .ok (.sipush (-1006), 3) := by decide +kernel
theorem dX11_write_25 : decode cX11_write 25 = .ok (.ireturn, 1) := by decide +kernel
theorem dX11_write_26 : decode cX11_write 26 = .ok (.iload_n 2, 1) := by decide +kernel
theorem dX11_write_27 : decode cX11_write 27 = .ok (.ifCond .lt 16, 3) := by decide +kernel
theorem dX11_write_30 : decode cX11_write 30 = .ok (.iload_n 2, 1) := by decide +kernel
theorem dX11_write_31 : decode cX11_write 31 = .ok (.aload_n 0, 1) := by decide +kernel
theorem dX11_write_32 : decode cX11_write 32 = .ok (.getfield 49, 3) := by decide +kernel
theorem dX11_write_35 : decode cX11_write 35 = .ok (.getfield 209, 3) := by decide +kernel
theorem dX11_write_38 : decode cX11_write 38 = .ok (.iload_n 1, 1) := by decide +kernel
theorem dX11_write_39 : decode cX11_write 39 = .ok (.iaload, 1) := by decide +kernel
theorem dX11_write_40 : decode cX11_write 40 = .ok (.if_icmp .lt 7, 3) := by decide +kernel
theorem dX11_write_43 : decode cX11_write 43 = .ok (.sipush (-1007), 3) := by decide +kernel
theorem dX11_write_46 : decode cX11_write 46 = .ok (.ireturn, 1) := by decide +kernel
theorem dX11_write_47 : decode cX11_write 47 = .ok (.aload_n 0, 1) := by decide +kernel
theorem dX11_write_48 : decode cX11_write 48 = .ok (.getfield 49, 3) := by decide +kernel
theorem dX11_write_51 : decode cX11_write 51 = .ok (.getfield 218, 3) := by decide +kernel
theorem dX11_write_54 : decode cX11_write 54 = .ok (.iload_n 1, 1) := by decide +kernel
theorem dX11_write_55 : decode cX11_write 55 = .ok (.aaload, 1) := by decide +kernel
theorem dX11_write_56 : decode cX11_write 56 = .ok (.iload_n 2, 1) := by decide +kernel
theorem dX11_write_57 : decode cX11_write 57 = .ok (.iload_n 3, 1) := by decide +kernel
theorem dX11_write_58 : decode cX11_write 58 = .ok (.i2b, 1) := by decide +kernel
theorem dX11_write_59 : decode cX11_write 59 = .ok (.bastore, 1) := by decide +kernel
theorem dX11_write_60 : decode cX11_write 60 = .ok (.aload_n 0, 1) := by decide +kernel
theorem dX11_write_61 : decode cX11_write 61 = .ok (.getfield 49, 3) := by decide +kernel
theorem dX11_write_64 : decode cX11_write 64 = .ok (.getfield 218, 3) := by decide +kernel
theorem dX11_write_67 : decode cX11_write 67 = .ok (.iload_n 1, 1) := by decide +kernel
theorem dX11_write_68 : decode cX11_write 68 = .ok (.aaload, 1) := by decide +kernel
theorem dX11_write_69 : decode cX11_write 69 = .ok (.iload_n 2, 1) := by decide +kernel
theorem dX11_write_70 : decode cX11_write 70 = .ok (.baload, 1) := by decide +kernel
theorem dX11_write_71 : decode cX11_write 71 = .ok (.ireturn, 1) := by decide +kernel
theorem dX11_lists_0 : decode cX11_lists 0 = .ok (.iload_n 1, 1) := by decide +kernel
theorem dX11_lists_1 : decode cX11_lists 1 = .ok (.invokestatic 239, 3) := by decide +kernel
theorem dX11_lists_4 : decode cX11_lists 4 = .ok (.ifCond .eq 11, 3) := by decide +kernel
theorem dX11_lists_7 : decode cX11_lists 7 = .ok (.aload_n 0, 1) := by decide +kernel
theorem dX11_lists_8 : decode cX11_lists 8 = .ok (.iload_n 2, 1) := by decide +kernel
theorem dX11_lists_9 : decode cX11_lists 9 = .ok (.invokevirtual 200, 3) := by decide +kernel
theorem dX11_lists_12 : decode cX11_lists 12 = .ok (.ifCond .ne 6, 3) := by decide +kernel
theorem dX11_lists_15 : decode cX11_lists 15 = .ok (.bipush (-2), 2) := by decide +kernel
theorem dX11_lists_17 : decode cX11_lists 17 = .ok (.ireturn, 1) := by decide +kernel
theorem dX11_lists_18 : decode cX11_lists 18 = .ok (.aload_n 0, 1) := by decide +kernel
theorem dX11_lists_19 : decode cX11_lists 19 = .ok (.getfield 49, 3) := by decide +kernel
theorem dX11_lists_22 : decode cX11_lists 22 = .ok (.iload_n 1, 1) := by decide +kernel
theorem dX11_lists_23 : decode cX11_lists 23 = .ok (.invokevirtual 203, 3) := by decide +kernel
theorem dX11_lists_26 : decode cX11_lists 26 = .ok (.ifCond .ne 22, 3) := by decide +kernel
theorem dX11_lists_29 : decode cX11_lists 29 = .ok (.aload_n 0, 1) := by decide +kernel
theorem dX11_lists_30 : decode cX11_lists 30 = .ok (.getfield 56, 3) := by decide +kernel
theorem dX11_lists_33 : decode cX11_lists 33 = .ok (.getfield 246, 3) := by decide +kernel
theorem dX11_lists_36 : decode cX11_lists 36 = .ok (.getfield 324, 3) := by decide +kernel
theorem dX11_lists_39 : decode cX11_lists 39 = .ok (.iload_n 2, 1) := by decide +kernel
theorem dX11_lists_40 : decode cX11_lists 40 = .ok (.aaload, 1) := by decide +kernel
theorem dX11_lists_41 : decode cX11_lists 41 = .ok (.getfield 328, 3) := by decide +kernel
theorem dX11_lists_44 : decode cX11_lists 44 = .ok (.iconst (-1), 1) := by decide +kernel
theorem dX11_lists_45 : decode cX11_lists 45 = .ok (.if_icmp .ne 6, 3) := by decide +kernel
theorem dX11_lists_48 : decode cX11_lists 48 = .ok (.bipush (-6), 2) := by decide +kernel
theorem dX11_lists_50 : decode cX11_lists 50 = .ok (.ireturn, 1) := by decide +kernel
theorem dX11_lists_51 : decode cX11_lists 51 = .ok (.bipush 39, 2) := by decide +kernel
theorem dX11_lists_53 : decode cX11_lists 53 = .ok (.aload_n 0, 1) := by decide +kernel
theorem dX11_lists_54 : decode cX11_lists 54 = .ok (.getfield 49, 3) := by decide +kernel
theorem dX11_lists_57 : decode cX11_lists 57 = .ok (.getfield 209, 3) := by decide +kernel
theorem dX11_lists_60 : decode cX11_lists 60 = .ok (.iload_n 1, 1) := by decide +kernel
theorem dX11_lists_61 : decode cX11_lists 61 = .ok (.iaload, 1) := by decide +kernel
theorem dX11_lists_62 : decode cX11_lists 62 = .ok (.invokestatic 416, 3) := by decide +kernel
theorem dX11_lists_65 : decode cX11_lists 65 = .ok (.istore_n 3, 1) := by decide +kernel
theorem dX11_lists_66 : decode cX11_lists 66 = .ok (.iconst 0, 1) := by decide +kernel
theorem dX11_lists_67 : decode cX11_lists 67 = .ok (.istore 4, 2) := by decide +kernel
theorem dX11_lists_69 : decode cX11_lists 69 = .ok (.iload 4, 2) := by decide +kernel
theorem dX11_lists_71 : decode cX11_lists 71 = .ok (.iload_n 3, 1) := by decide +kernel
theorem dX11_lists_72 : decode cX11_lists 72 = .ok (.if_icmp .ge 45, 3) := by decide +kernel
theorem dX11_lists_75 : decode cX11_lists 75 = .ok (.aload_n 0, 1) := by decide +kernel
theorem dX11_lists_76 : decode cX11_lists 76 = .ok (.getfield 49, 3) := by decide +kernel
theorem dX11_lists_79 : decode cX11_lists 79 = .ok (.getfield 218, 3) := by decide +kernel
theorem dX11_lists_82 : decode cX11_lists 82 = .ok (.iload_n 1, 1) := by decide +kernel
theorem dX11_lists_83 : decode cX11_lists 83 = .ok (.aaload, 1) := by decide +kernel
theorem dX11_lists_84 : decode cX11_lists 84 = .ok (.iload 4, 2) := by decide +kernel
theorem dX11_lists_86 : decode cX11_lists 86 = .ok (.aload_n 0, 1) := by decide +kernel
theorem dX11_lists_87 : decode cX11_lists 87 = .ok (.getfield 56, 3) := by decide +kernel
theorem dX11_lists_90 : decode cX11_lists 90 = .ok (.getfield 246, 3) := by decide +kernel
theorem dX11_lists_93 : decode cX11_lists 93 = .ok (.getfield 324, 3) := by decide +kernel
theorem dX11_lists_96 : decode cX11_lists 96 = .ok (.iload_n 2, 1) := by decide +kernel
theorem dX11_lists_97 : decode cX11_lists 97 = .ok (.aaload, 1) := by decide +kernel
theorem dX11_lists_98 : decode cX11_lists 98 = .ok (.getfield 333, 3) := by decide +kernel
theorem dX11_lists_101 : decode cX11_lists 101 = .ok (.iload 4, 2) := by decide +kernel
theorem dX11_lists_103 : decode cX11_lists 103 = .ok (.iaload, 1) := by decide +kernel
theorem dX11_lists_104 : decode cX11_lists 104 = .ok (.bipush 127, 2) := by decide +kernel
theorem dX11_lists_106 : decode cX11_lists 106 = .ok (.invokestatic 421, 3) := by decide +kernel
theorem dX11_lists_109 : decode cX11_lists 109 = .ok (.i2b, 1) := by decide +kernel
theorem dX11_lists_110 : decode cX11_lists 110 = .ok (.bastore, 1) := by decide +kernel
theorem dX11_lists_111 : decode cX11_lists 111 = .ok (.iinc 4 1, 3) := by decide +kernel
theorem dX11_lists_114 : decode cX11_lists 114 = .ok (.goto (-45), 3) := by decide +kernel
theorem dX11_lists_117 : decode cX11_lists 117 = .ok (.iload_n 3, 1) := by decide +kernel
theorem dX11_lists_118 : decode cX11_lists 118 = .ok (.ireturn, 1) := by decide +kernel
theorem dX11_image_0 : decode cX11_image 0 = .ok (.iload_n 1, 1) := by decide +kernel
theorem dX11_image_1 : decode cX11_image 1 = .ok (.ifCond .lt 8, 3) := by decide +kernel
theorem dX11_image_4 : decode cX11_image 4 = .ok (.iload_n 1, 1) := by decide +kernel
theorem dX11_image_5 : decode cX11_image 5 = .ok (.iconst 2, 1) := by decide +kernel
theorem dX11_image_6 : decode cX11_image 6 = .ok (.if_icmp .lt 6, 3) := by decide +kernel
theorem dX11_image_9 : decode cX11_image 9 = .ok (.bipush (-2), 2) := by decide +kernel
theorem dX11_image_11 : decode cX11_image 11 = .ok (.ireturn, 1) := by decide +kernel
theorem dX11_image_12 : decode cX11_image 12 = .ok (.aload_n 0, 1) := by decide +kernel
theorem dX11_image_13 : decode cX11_image 13 = .ok (.getfield 60, 3) := by decide +kernel
theorem dX11_image_16 : decode cX11_image 16 = .ok (.iload_n 1, 1) := by decide +kernel
theorem dX11_image_17 : decode cX11_image 17 = .ok (.aaload, 1) := by decide +kernel
theorem dX11_image_18 : decode cX11_image 18 = .ok (.ifnonnull 16, 3) := by decide +kernel
theorem dX11_image_21 : decode cX11_image 21 = .ok (.aload_n 0, 1) := by decide +kernel
theorem dX11_image_22 : decode cX11_image 22 = .ok (.getfield 60, 3) := by decide +kernel
theorem dX11_image_25 : decode cX11_image 25 = .ok (.iload_n 1, 1) := by decide +kernel
theorem dX11_image_26 : decode cX11_image 26 = .ok (.new 53, 3) := by decide +kernel
theorem dX11_image_29 : decode cX11_image 29 = .ok (.dup, 1) := by decide +kernel
theorem dX11_image_30 : decode cX11_image 30 = .ok (.invokespecial 55, 3) := by decide +kernel
theorem dX11_image_33 : decode cX11_image 33 = .ok (.aastore, 1) := by decide +kernel
theorem dX11_image_34 : decode cX11_image 34 = .ok (.aload_n 0, 1) := by decide +kernel
theorem dX11_image_35 : decode cX11_image 35 = .ok (.getfield 60, 3) := by decide +kernel
theorem dX11_image_38 : decode cX11_image 38 = .ok (.iload_n 1, 1) := by decide +kernel
theorem dX11_image_39 : decode cX11_image 39 = .ok (.aaload, 1) := by decide +kernel
theorem dX11_image_40 : decode cX11_image 40 = .ok (.aload_n 0, 1) := by decide +kernel
theorem dX11_image_41 : decode cX11_image 41 = .ok (.getfield 56, 3) := by decide +kernel
theorem dX11_image_44 : decode cX11_image 44 = .ok (.invokevirtual 424, 3) := by decide +kernel
theorem dX11_image_47 : decode cX11_image 47 = .ok (.iconst 0, 1) := by decide +kernel
theorem dX11_image_48 : decode cX11_image 48 = .ok (.ireturn, 1) := by decide +kernel
theorem dX11_restore_0 : decode cX11_restore 0 = .ok (.iload_n 1, 1) := by decide +kernel
theorem dX11_restore_1 : decode cX11_restore 1 = .ok (.ifCond .lt 8, 3) := by decide +kernel
theorem dX11_restore_4 : decode cX11_restore 4 = .ok (.iload_n 1, 1) := by decide +kernel
theorem dX11_restore_5 : decode cX11_restore 5 = .ok (.iconst 2, 1) := by decide +kernel
theorem dX11_restore_6 : decode cX11_restore 6 = .ok (.if_icmp .lt 6, 3) := by decide +kernel
theorem dX11_restore_9 : decode cX11_restore 9 = .ok (.bipush (-2), 2) := by decide +kernel
theorem dX11_restore_11 : decode cX11_restore 11 = .ok (.ireturn, 1) := by decide +kernel
theorem dX11_restore_12 : decode cX11_restore 12 = .ok (.aload_n 0, 1) := by decide +kernel
theorem dX11_restore_13 : decode cX11_restore 13 = .ok (.getfield 60, 3) := by decide +kernel
theorem dX11_restore_16 : decode cX11_restore 16 = .ok (.iload_n 1, 1) := by decide +kernel
theorem dX11_restore_17 : decode cX11_restore 17 = .ok (.aaload, 1) := by decide +kernel
theorem dX11_restore_18 : decode cX11_restore 18 = .ok (.ifnonnull 6, 3) := by decide +kernel
theorem dX11_restore_21 : decode cX11_restore 21 = .ok (.bipush (-5), 2) := by decide +kernel
theorem dX11_restore_23 : decode cX11_restore 23 = .ok (.ireturn, 1) := by decide +kernel
theorem dX11_restore_24 : decode cX11_restore 24 = .ok (.aload_n 0, 1) := by decide +kernel
theorem dX11_restore_25 : decode cX11_restore 25 = .ok (.getfield 56, 3) := by decide +kernel
theorem dX11_restore_28 : decode cX11_restore 28 = .ok (.aload_n 0, 1) := by decide +kernel
theorem dX11_restore_29 : decode cX11_restore 29 = .ok (.getfield 60, 3) := by decide +kernel
theorem dX11_restore_32 : decode cX11_restore 32 = .ok (.iload_n 1, 1) := by decide +kernel
theorem dX11_restore_33 : decode cX11_restore 33 = .ok (.aaload, 1) := by decide +kernel
theorem dX11_restore_34 : decode cX11_restore 34 = .ok (.invokevirtual 424, 3) := by decide +kernel
theorem dX11_restore_37 : decode cX11_restore 37 = .ok (.iconst 0, 1) := by decide +kernel
theorem dX11_restore_38 : decode cX11_restore 38 = .ok (.ireturn, 1) := by decide +kernel
theorem dX11_count_0 : decode cX11_count 0 = .ok (.aload_n 0, 1) := by decide +kernel
theorem dX11_count_1 : decode cX11_count 1 = .ok (.getfield 56, 3) := by decide +kernel
theorem dX11_count_4 : decode cX11_count 4 = .ok (.getfield 188, 3) := by decide +kernel
theorem dX11_count_7 : decode cX11_count 7 = .ok (.astore_n 2, 1) := by decide +kernel
theorem dX11_count_8 : decode cX11_count 8 = .ok (.iload_n 1, 1) := by decide +kernel
theorem dX11_count_9 : decode cX11_count 9 = .ok (.tableswitch 165 0 19 #[95, 100, 105, 110, 165, 165, 165, 165, 165, 165, 165, 165, 115, 120, 165, 125, 133, 141, 149, 157], 95) := by decide +kernel
theorem dX11_count_104 : decode cX11_count 104 = .ok (.aload_n 2, 1) := by decide +kernel
theorem dX11_count_105 : decode cX11_count 105 = .ok (.getfield 192, 3) := by decide +kernel
theorem dX11_count_108 : decode cX11_count 108 = .ok (.ireturn, 1) := by decide +kernel
theorem dX11_count_109 : decode cX11_count 109 = .ok (.aload_n 2, 1) := by decide +kernel
theorem dX11_count_110 : decode cX11_count 110 = .ok (.getfield 428, 3) := by decide +kernel
theorem dX11_count_113 : decode cX11_count 113 = .ok (.ireturn, 1) := by decide +kernel
theorem dX11_count_114 : decode cX11_count 114 = .ok (.aload_n 2, 1) := by decide +kernel
theorem dX11_count_115 : decode cX11_count 115 = .ok (.getfield 431, 3) := by decide +kernel
theorem dX11_count_118 : decode cX11_count 118 = .ok (.ireturn, 1) := by decide +kernel
theorem dX11_count_119 : decode cX11_count 119 = .ok (.aload_n 2, 1) := by decide +kernel
theorem dX11_count_120 : decode cX11_count 120 = .ok (.getfield 263, 3) := by decide +kernel
theorem dX11_count_123 : decode cX11_count 123 = .ok (.ireturn, 1) := by decide +kernel
theorem dX11_count_124 : decode cX11_count 124 = .ok (.aload_n 2, 1) := by decide +kernel
theorem dX11_count_125 : decode cX11_count 125 = .ok (.getfield 434, 3) := by decide +kernel
theorem dX11_count_128 : decode cX11_count 128 = .ok (.ireturn, 1) := by decide +kernel
theorem dX11_count_129 : decode cX11_count 129 = .ok (.aload_n 2, 1) := by decide +kernel
theorem dX11_count_130 : decode cX11_count 130 = .ok (.getfield 437, 3) := by decide +kernel
theorem dX11_count_133 : decode cX11_count 133 = .ok (.ireturn, 1) := by decide +kernel
theorem dX11_count_134 : decode cX11_count 134 = .ok (.aload_n 0, 1) := by decide +kernel
theorem dX11_count_135 : decode cX11_count 135 = .ok (.getfield 56, 3) := by decide +kernel
theorem dX11_count_138 : decode cX11_count 138 = .ok (.getfield 170, 3) := by decide +kernel
theorem dX11_count_141 : decode cX11_count 141 = .ok (.ireturn, 1) := by decide +kernel
theorem dX11_count_142 : decode cX11_count 142 = .ok (.aload_n 0, 1) := by decide +kernel
theorem dX11_count_143 : decode cX11_count 143 = .ok (.getfield 56, 3) := by decide +kernel
theorem dX11_count_146 : decode cX11_count 146 = .ok (.getfield 173, 3) := by decide +kernel
theorem dX11_count_149 : decode cX11_count 149 = .ok (.ireturn, 1) := by decide +kernel
theorem dX11_count_150 : decode cX11_count 150 = .ok (.aload_n 0, 1) := by decide +kernel
theorem dX11_count_151 : decode cX11_count 151 = .ok (.getfield 56, 3) := by decide +kernel
theorem dX11_count_154 : decode cX11_count 154 = .ok (.getfield 94, 3) := by decide +kernel
theorem dX11_count_157 : decode cX11_count 157 = .ok (.ireturn, 1) := by decide +kernel
theorem dX11_count_158 : decode cX11_count 158 = .ok (.aload_n 0, 1) := by decide +kernel
theorem dX11_count_159 : decode cX11_count 159 = .ok (.getfield 56, 3) := by decide +kernel
theorem dX11_count_162 : decode cX11_count 162 = .ok (.getfield 182, 3) := by decide +kernel
theorem dX11_count_165 : decode cX11_count 165 = .ok (.ireturn, 1) := by decide +kernel
theorem dX11_count_166 : decode cX11_count 166 = .ok (.aload_n 0, 1) := by decide +kernel
theorem dX11_count_167 : decode cX11_count 167 = .ok (.getfield 56, 3) := by decide +kernel
theorem dX11_count_170 : decode cX11_count 170 = .ok (.getfield 185, 3) := by decide +kernel
theorem dX11_count_173 : decode cX11_count 173 = .ok (.ireturn, 1) := by decide +kernel
theorem dX11_count_174 : decode cX11_count 174 = .ok (.aload_n 0, 1) := by decide +kernel
theorem dX11_count_175 : decode cX11_count 175 = .ok (.getfield 56, 3) := by decide +kernel
theorem dX11_count_178 : decode cX11_count 178 = .ok (.getfield 246, 3) := by decide +kernel
theorem dX11_count_181 : decode cX11_count 181 = .ok (.iload_n 1, 1) := by decide +kernel
theorem dX11_count_182 : decode cX11_count 182 = .ok (.invokevirtual 440, 3) := by decide +kernel
theorem dX11_count_185 : decode cX11_count 185 = .ok (.ireturn, 1) := by decide +kernel
theorem dX11_isSn_0 : decode cX11_isSn 0 = .ok (.iload_n 0, 1) := by decide +kernel
theorem dX11_isSn_1 : decode cX11_isSn 1 = .ok (.ifCond .lt 13, 3) := by decide +kernel
theorem dX11_isSn_4 : decode cX11_isSn 4 = .ok (.iload_n 0, 1) := by decide +kernel
theorem dX11_isSn_5 : decode cX11_isSn 5 = .ok (.bipush 8, 2) := by decide +kernel
theorem dX11_isSn_7 : decode cX11_isSn 7 = .ok (.if_icmp .ge 7, 3) := by decide +kernel
theorem dX11_isSn_10 : decode cX11_isSn 10 = .ok (.iconst 1, 1) := by decide +kernel
theorem dX11_isSn_11 : decode cX11_isSn 11 = .ok (.goto 4, 3) := by decide +kernel
theorem dX11_isSn_14 : decode cX11_isSn 14 = .ok (.iconst 0, 1) := by decide +kernel
theorem dX11_isSn_15 : decode cX11_isSn 15 = .ok (.ireturn, 1) := by decide +kernel
theorem dX11_isWord_0 : decode cX11_isWord 0 = .ok (.iload_n 0, 1) := by decide +kernel
theorem dX11_isWord_1 : decode cX11_isWord 1 = .ok (.ifCond .lt 14, 3) := by decide +kernel
theorem dX11_isWord_4 : decode cX11_isWord 4 = .ok (.iload_n 0, 1) := by decide +kernel
theorem dX11_isWord_5 : decode cX11_isWord 5 = .ok (.sipush 2048, 3) := by decide +kernel
theorem dX11_isWord_8 : decode cX11_isWord 8 = .ok (.if_icmp .ge 7, 3) := by decide +kernel
theorem dX11_isWord_11 : decode cX11_isWord 11 = .ok (.iconst 1, 1) := by decide +kernel
theorem dX11_isWord_12 : decode cX11_isWord 12 = .ok (.goto 4, 3) := by decide +kernel
theorem dX11_isWord_15 : decode cX11_isWord 15 = .ok (.iconst 0, 1) := by decide +kernel
theorem dX11_isWord_16 : decode cX11_isWord 16 = .ok (.ireturn, 1) := by decide +kernel
theorem dX11_isVersion_0 : decode cX11_isVersion 0 = .ok (.iload_n 0, 1) := by decide +kernel
theorem dX11_isVersion_1 : decode cX11_isVersion 1 = .ok (.ifCond .lt 12, 3) := by decide +kernel
theorem dX11_isVersion_4 : decode cX11_isVersion 4 = .ok (.iload_n 0, 1) := by decide +kernel
theorem dX11_isVersion_5 : decode cX11_isVersion 5 = .ok (.iconst 4, 1) := by decide +kernel
theorem dX11_isVersion_6 : decode cX11_isVersion 6 = .ok (.if_icmp .ge 7, 3) := by decide +kernel
theorem dX11_isVersion_9 : decode cX11_isVersion 9 = .ok (.iconst 1, 1) := by decide +kernel
theorem dX11_isVersion_10 : decode cX11_isVersion 10 = .ok (.goto 4, 3) := by decide +kernel
theorem dX11_isVersion_13 : decode cX11_isVersion 13 = .ok (.iconst 0, 1) := by decide +kernel
theorem dX11_isVersion_14 : decode cX11_isVersion 14 = .ok (.ireturn, 1) := by decide +kernel
theorem dX11_isVersionSet_0 : decode cX11_isVersionSet 0 = .ok (.iload_n 0, 1) := by decide +kernel
theorem dX11_isVersionSet_1 : decode cX11_isVersionSet 1 = .ok (.ifCond .lt 13, 3) := by decide +kernel
theorem dX11_isVersionSet_4 : decode cX11_isVersionSet 4 = .ok (.iload_n 0, 1) := by decide +kernel
theorem dX11_isVersionSet_5 : decode cX11_isVersionSet 5 = .ok (.bipush 16, 2) := by decide +kernel
theorem dX11_isVersionSet_7 : decode cX11_isVersionSet 7 = .ok (.if_icmp .ge 7, 3) := by decide +kernel
theorem dX11_isVersionSet_10 : decode cX11_isVersionSet 10 = .ok (.iconst 1, 1) := by decide +kernel
theorem dX11_isVersionSet_11 : decode cX11_isVersionSet 11 = .ok (.goto 4, 3) := by decide +kernel
theorem dX11_isVersionSet_14 : decode cX11_isVersionSet 14 = .ok (.iconst 0, 1) := by decide +kernel
theorem dX11_isVersionSet_15 : decode cX11_isVersionSet 15 = .ok (.ireturn, 1) := by decide +kernel
theorem dX11_isLength_0 : decode cX11_isLength 0 = .ok (.iload_n 0, 1) := by decide +kernel
theorem dX11_isLength_1 : decode cX11_isLength 1 = .ok (.iconst 1, 1) := by decide +kernel
theorem dX11_isLength_2 : decode cX11_isLength 2 = .ok (.if_icmp .lt 13, 3) := by decide +kernel
theorem dX11_isLength_5 : decode cX11_isLength 5 = .ok (.iload_n 0, 1) := by decide +kernel
theorem dX11_isLength_6 : decode cX11_isLength 6 = .ok (.bipush 60, 2) := by decide +kernel
theorem dX11_isLength_8 : decode cX11_isLength 8 = .ok (.if_icmp .gt 7, 3) := by decide +kernel
theorem dX11_isLength_11 : decode cX11_isLength 11 = .ok (.iconst 1, 1) := by decide +kernel
theorem dX11_isLength_12 : decode cX11_isLength 12 = .ok (.goto 4, 3) := by decide +kernel
theorem dX11_isLength_15 : decode cX11_isLength 15 = .ok (.iconst 0, 1) := by decide +kernel
theorem dX11_isLength_16 : decode cX11_isLength 16 = .ok (.ireturn, 1) := by decide +kernel
theorem dX11_isDistance_0 : decode cX11_isDistance 0 = .ok (.iload_n 0, 1) := by decide +kernel
theorem dX11_isDistance_1 : decode cX11_isDistance 1 = .ok (.iconst 1, 1) := by decide +kernel
theorem dX11_isDistance_2 : decode cX11_isDistance 2 = .ok (.if_icmp .lt 13, 3) := by decide +kernel
theorem dX11_isDistance_5 : decode cX11_isDistance 5 = .ok (.iload_n 0, 1) := by decide +kernel
theorem dX11_isDistance_6 : decode cX11_isDistance 6 = .ok (.bipush 60, 2) := by decide +kernel
theorem dX11_isDistance_8 : decode cX11_isDistance 8 = .ok (.if_icmp .gt 7, 3) := by decide +kernel
theorem dX11_isDistance_11 : decode cX11_isDistance 11 = .ok (.iconst 1, 1) := by decide +kernel
theorem dX11_isDistance_12 : decode cX11_isDistance 12 = .ok (.goto 4, 3) := by decide +kernel
theorem dX11_isDistance_15 : decode cX11_isDistance 15 = .ok (.iconst 0, 1) := by decide +kernel
theorem dX11_isDistance_16 : decode cX11_isDistance 16 = .ok (.ireturn, 1) := by decide +kernel
theorem dX11_isTray_0 : decode cX11_isTray 0 = .ok (.iload_n 0, 1) := by decide +kernel
theorem dX11_isTray_1 : decode cX11_isTray 1 = .ok (.ifCond .lt 12, 3) := by decide +kernel
theorem dX11_isTray_4 : decode cX11_isTray 4 = .ok (.iload_n 0, 1) := by decide +kernel
theorem dX11_isTray_5 : decode cX11_isTray 5 = .ok (.iconst 4, 1) := by decide +kernel
theorem dX11_isTray_6 : decode cX11_isTray 6 = .ok (.if_icmp .ge 7, 3) := by decide +kernel
theorem dX11_isTray_9 : decode cX11_isTray 9 = .ok (.iconst 1, 1) := by decide +kernel
theorem dX11_isTray_10 : decode cX11_isTray 10 = .ok (.goto 4, 3) := by decide +kernel
theorem dX11_isTray_13 : decode cX11_isTray 13 = .ok (.iconst 0, 1) := by decide +kernel
theorem dX11_isTray_14 : decode cX11_isTray 14 = .ok (.ireturn, 1) := by decide +kernel
theorem dX11_isProcess_0 : decode cX11_isProcess 0 = .ok (.iload_n 1, 1) := by decide +kernel
theorem dX11_isProcess_1 : decode cX11_isProcess 1 = .ok (.ifCond .lt 18, 3) := by decide +kernel
theorem dX11_isProcess_4 : decode cX11_isProcess 4 = .ok (.iload_n 1, 1) := by decide +kernel
theorem dX11_isProcess_5 : decode cX11_isProcess 5 = .ok (.aload_n 0, 1) := by decide +kernel
theorem dX11_isProcess_6 : decode cX11_isProcess 6 = .ok (.getfield 56, 3) := by decide +kernel
theorem dX11_isProcess_9 : decode cX11_isProcess 9 = .ok (.getfield 170, 3) := by decide +kernel
theorem dX11_isProcess_12 : decode cX11_isProcess 12 = .ok (.if_icmp .ge 7, 3) := by decide +kernel
theorem dX11_isProcess_15 : decode cX11_isProcess 15 = .ok (.iconst 1, 1) := by decide +kernel
theorem dX11_isProcess_16 : decode cX11_isProcess 16 = .ok (.goto 4, 3) := by decide +kernel
theorem dX11_isProcess_19 : decode cX11_isProcess 19 = .ok (.iconst 0, 1) := by decide +kernel
theorem dX11_isProcess_20 : decode cX11_isProcess 20 = .ok (.ireturn, 1) := by decide +kernel
theorem dX11_refuseEar_0 : decode cX11_refuseEar 0 = .ok (.aload_n 0, 1) := by decide +kernel
theorem dX11_refuseEar_1 : decode cX11_refuseEar 1 = .ok (.iload_n 1, 1) := by decide +kernel
theorem dX11_refuseEar_2 : decode cX11_refuseEar 2 = .ok (.iconst 1, 1) := by decide +kernel
theorem dX11_refuseEar_3 : decode cX11_refuseEar 3 = .ok (.invokevirtual 364, 3) := by decide +kernel
theorem dX11_refuseEar_6 : decode cX11_refuseEar 6 = .ok (.ireturn, 1) := by decide +kernel
theorem dX11_refuseEarAnd_0 : decode cX11_refuseEarAnd 0 = .ok (.aload_n 0, 1) := by decide +kernel
theorem dX11_refuseEarAnd_1 : decode cX11_refuseEarAnd 1 = .ok (.iload_n 1, 1) := by decide +kernel
theorem dX11_refuseEarAnd_2 : decode cX11_refuseEarAnd 2 = .ok (.invokevirtual 200, 3) := by decide +kernel
theorem dX11_refuseEarAnd_5 : decode cX11_refuseEarAnd 5 = .ok (.ifCond .ne 6, 3) := by decide +kernel
theorem dX11_refuseEarAnd_8 : decode cX11_refuseEarAnd 8 = .ok (.bipush (-2), 2) := by decide +kernel
theorem dX11_refuseEarAnd_10 : decode cX11_refuseEarAnd 10 = .ok (.ireturn, 1) := by decide +kernel
theorem dX11_refuseEarAnd_11 : decode cX11_refuseEarAnd 11 = .ok (.iload_n 2, 1) := by decide +kernel
theorem dX11_refuseEarAnd_12 : decode cX11_refuseEarAnd 12 = .ok (.ifCond .ne 6, 3) := by decide +kernel
theorem dX11_refuseEarAnd_15 : decode cX11_refuseEarAnd 15 = .ok (.bipush (-3), 2) := by decide +kernel
theorem dX11_refuseEarAnd_17 : decode cX11_refuseEarAnd 17 = .ok (.ireturn, 1) := by decide +kernel
theorem dX11_refuseEarAnd_18 : decode cX11_refuseEarAnd 18 = .ok (.aload_n 0, 1) := by decide +kernel
theorem dX11_refuseEarAnd_19 : decode cX11_refuseEarAnd 19 = .ok (.getfield 56, 3) := by decide +kernel
theorem dX11_refuseEarAnd_22 : decode cX11_refuseEarAnd 22 = .ok (.getfield 246, 3) := by decide +kernel
theorem dX11_refuseEarAnd_25 : decode cX11_refuseEarAnd 25 = .ok (.getfield 324, 3) := by decide +kernel
theorem dX11_refuseEarAnd_28 : decode cX11_refuseEarAnd 28 = .ok (.iload_n 1, 1) := by decide +kernel
theorem dX11_refuseEarAnd_29 : decode cX11_refuseEarAnd 29 = .ok (.aaload, 1) := by decide +kernel
theorem dX11_refuseEarAnd_30 : decode cX11_refuseEarAnd 30 = .ok (.getfield 328, 3) := by decide +kernel
theorem dX11_refuseEarAnd_33 : decode cX11_refuseEarAnd 33 = .ok (.iconst (-1), 1) := by decide +kernel
theorem dX11_refuseEarAnd_34 : decode cX11_refuseEarAnd 34 = .ok (.if_icmp .ne 8, 3) := by decide +kernel
theorem dX11_refuseEarAnd_37 : decode cX11_refuseEarAnd 37 = .ok (.bipush (-6), 2) := by decide +kernel
theorem dX11_refuseEarAnd_39 : decode cX11_refuseEarAnd 39 = .ok (.goto 4, 3) := by decide +kernel
theorem dX11_refuseEarAnd_42 : decode cX11_refuseEarAnd 42 = .ok (.iconst 0, 1) := by decide +kernel
theorem dX11_refuseEarAnd_43 : decode cX11_refuseEarAnd 43 = .ok (.ireturn, 1) := by decide +kernel
theorem dX11_countVersions_0 : decode cX11_countVersions 0 = .ok (.aload_n 0, 1) := by decide +kernel
theorem dX11_countVersions_1 : decode cX11_countVersions 1 = .ok (.getfield 64, 3) := by decide +kernel
theorem dX11_countVersions_4 : decode cX11_countVersions 4 = .ok (.iconst 0, 1) := by decide +kernel
theorem dX11_countVersions_5 : decode cX11_countVersions 5 = .ok (.invokestatic 336, 3) := by decide +kernel
theorem dX11_countVersions_8 : decode cX11_countVersions 8 = .ok (.iconst 0, 1) := by decide +kernel
theorem dX11_countVersions_9 : decode cX11_countVersions 9 = .ok (.istore_n 3, 1) := by decide +kernel
theorem dX11_countVersions_10 : decode cX11_countVersions 10 = .ok (.iload_n 3, 1) := by decide +kernel
theorem dX11_countVersions_11 : decode cX11_countVersions 11 = .ok (.iconst 4, 1) := by decide +kernel
theorem dX11_countVersions_12 : decode cX11_countVersions 12 = .ok (.if_icmp .ge 46, 3) := by decide +kernel
theorem dX11_countVersions_15 : decode cX11_countVersions 15 = .ok (.iload_n 1, 1) := by decide +kernel
theorem dX11_countVersions_16 : decode cX11_countVersions 16 = .ok (.iload_n 3, 1) := by decide +kernel
theorem dX11_countVersions_17 : decode cX11_countVersions 17 = .ok (.ishr, 1) := by decide +kernel
theorem dX11_countVersions_18 : decode cX11_countVersions 18 = .ok (.iconst 1, 1) := by decide +kernel
theorem dX11_countVersions_19 : decode cX11_countVersions 19 = .ok (.iand, 1) := by decide +kernel
theorem dX11_countVersions_20 : decode cX11_countVersions 20 = .ok (.iconst 1, 1) := by decide +kernel
theorem dX11_countVersions_21 : decode cX11_countVersions 21 = .ok (.if_icmp .ne 31, 3) := by decide +kernel
theorem dX11_countVersions_24 : decode cX11_countVersions 24 = .ok (.aload_n 0, 1) := by decide +kernel
theorem dX11_countVersions_25 : decode cX11_countVersions 25 = .ok (.getfield 19, 3) := by decide +kernel
theorem dX11_countVersions_28 : decode cX11_countVersions 28 = .ok (.aload_n 0, 1) := by decide +kernel
theorem dX11_countVersions_29 : decode cX11_countVersions 29 = .ok (.getfield 56, 3) := by decide +kernel
theorem dX11_countVersions_32 : decode cX11_countVersions 32 = .ok (.getfield 94, 3) := by decide +kernel
theorem dX11_countVersions_35 : decode cX11_countVersions 35 = .ok (.iload_n 3, 1) := by decide +kernel
theorem dX11_countVersions_36 : decode cX11_countVersions 36 = .ok (.iload_n 2, 1) := by decide +kernel
theorem dX11_countVersions_37 : decode cX11_countVersions 37 = .ok (.invokevirtual 107, 3) := by decide +kernel
theorem dX11_countVersions_40 : decode cX11_countVersions 40 = .ok (.aload_n 0, 1) := by decide +kernel
theorem dX11_countVersions_41 : decode cX11_countVersions 41 = .ok (.getfield 19, 3) := by decide +kernel
theorem dX11_countVersions_44 : decode cX11_countVersions 44 = .ok (.aload_n 0, 1) := by decide +kernel
theorem dX11_countVersions_45 : decode cX11_countVersions 45 = .ok (.getfield 64, 3) := by decide +kernel
theorem dX11_countVersions_48 : decode cX11_countVersions 48 = .ok (.iload_n 2, 1) := by decide +kernel
theorem dX11_countVersions_49 : decode cX11_countVersions 49 = .ok (.invokevirtual 316, 3) := by decide +kernel
theorem dX11_countVersions_52 : decode cX11_countVersions 52 = .ok (.iinc 3 1, 3) := by decide +kernel
theorem dX11_countVersions_55 : decode cX11_countVersions 55 = .ok (.goto (-45), 3) := by decide +kernel
theorem dX11_countVersions_58 : decode cX11_countVersions 58 = .ok (.return_, 1) := by decide +kernel
theorem dX11_unsentBits_0 : decode cX11_unsentBits 0 = .ok (.aload_n 0, 1) := by decide +kernel
theorem dX11_unsentBits_1 : decode cX11_unsentBits 1 = .ok (.iload_n 1, 1) := by decide +kernel
theorem dX11_unsentBits_2 : decode cX11_unsentBits 2 = .ok (.iload_n 2, 1) := by decide +kernel
theorem dX11_unsentBits_3 : decode cX11_unsentBits 3 = .ok (.invokevirtual 156, 3) := by decide +kernel
theorem dX11_unsentBits_6 : decode cX11_unsentBits 6 = .ok (.ldc2_w 443, 3) := by decide +kernel
theorem dX11_unsentBits_9 : decode cX11_unsentBits 9 = .ok (.lstore_n 3, 1) := by decide +kernel
theorem dX11_unsentBits_10 : decode cX11_unsentBits 10 = .ok (.iconst 0, 1) := by decide +kernel
theorem dX11_unsentBits_11 : decode cX11_unsentBits 11 = .ok (.istore 5, 2) := by decide +kernel
theorem dX11_unsentBits_13 : decode cX11_unsentBits 13 = .ok (.iload 5, 2) := by decide +kernel
theorem dX11_unsentBits_15 : decode cX11_unsentBits 15 = .ok (.bipush 39, 2) := by decide +kernel
theorem dX11_unsentBits_17 : decode cX11_unsentBits 17 = .ok (.if_icmp .ge 30, 3) := by decide +kernel
theorem dX11_unsentBits_20 : decode cX11_unsentBits 20 = .ok (.aload_n 0, 1) := by decide +kernel
theorem dX11_unsentBits_21 : decode cX11_unsentBits 21 = .ok (.getfield 64, 3) := by decide +kernel
theorem dX11_unsentBits_24 : decode cX11_unsentBits 24 = .ok (.iload 5, 2) := by decide +kernel
theorem dX11_unsentBits_26 : decode cX11_unsentBits 26 = .ok (.iaload, 1) := by decide +kernel
theorem dX11_unsentBits_27 : decode cX11_unsentBits 27 = .ok (.ifCond .le 14, 3) := by decide +kernel
theorem dX11_unsentBits_30 : decode cX11_unsentBits 30 = .ok (.lload_n 3, 1) := by decide +kernel
theorem dX11_unsentBits_31 : decode cX11_unsentBits 31 = .ok (.lconst 1, 1) := by decide +kernel
theorem dX11_unsentBits_32 : decode cX11_unsentBits 32 = .ok (.iload 5, 2) := by decide +kernel
theorem dX11_unsentBits_34 : decode cX11_unsentBits 34 = .ok (.lshl, 1) := by decide +kernel
theorem dX11_unsentBits_35 : decode cX11_unsentBits 35 = .ok (.ldc2_w 445, 3) := by decide +kernel
theorem dX11_unsentBits_38 : decode cX11_unsentBits 38 = .ok (.lxor, 1) := by decide +kernel
theorem dX11_unsentBits_39 : decode cX11_unsentBits 39 = .ok (.land, 1) := by decide +kernel
theorem dX11_unsentBits_40 : decode cX11_unsentBits 40 = .ok (.lstore_n 3, 1) := by decide +kernel
theorem dX11_unsentBits_41 : decode cX11_unsentBits 41 = .ok (.iinc 5 1, 3) := by decide +kernel
theorem dX11_unsentBits_44 : decode cX11_unsentBits 44 = .ok (.goto (-31), 3) := by decide +kernel
theorem dX11_unsentBits_47 : decode cX11_unsentBits 47 = .ok (.lload_n 3, 1) := by decide +kernel
theorem dX11_unsentBits_48 : decode cX11_unsentBits 48 = .ok (.lreturn, 1) := by decide +kernel
theorem dX11_weighVersions_0 : decode cX11_weighVersions 0 = .ok (.aload_n 0, 1) := by decide +kernel
theorem dX11_weighVersions_1 : decode cX11_weighVersions 1 = .ok (.iload_n 1, 1) := by decide +kernel
theorem dX11_weighVersions_2 : decode cX11_weighVersions 2 = .ok (.iload_n 2, 1) := by decide +kernel
theorem dX11_weighVersions_3 : decode cX11_weighVersions 3 = .ok (.invokevirtual 156, 3) := by decide +kernel
theorem dX11_weighVersions_6 : decode cX11_weighVersions 6 = .ok (.aload_n 0, 1) := by decide +kernel
theorem dX11_weighVersions_7 : decode cX11_weighVersions 7 = .ok (.getfield 26, 3) := by decide +kernel
theorem dX11_weighVersions_10 : decode cX11_weighVersions 10 = .ok (.aload_n 0, 1) := by decide +kernel
theorem dX11_weighVersions_11 : decode cX11_weighVersions 11 = .ok (.getfield 64, 3) := by decide +kernel
theorem dX11_weighVersions_14 : decode cX11_weighVersions 14 = .ok (.invokevirtual 320, 3) := by decide +kernel
theorem dX11_weighVersions_17 : decode cX11_weighVersions 17 = .ok (.return_, 1) := by decide +kernel
theorem dX11_wholeApart_0 : decode cX11_wholeApart 0 = .ok (.aload_n 0, 1) := by decide +kernel
theorem dX11_wholeApart_1 : decode cX11_wholeApart 1 = .ok (.iload_n 1, 1) := by decide +kernel
theorem dX11_wholeApart_2 : decode cX11_wholeApart 2 = .ok (.iload_n 2, 1) := by decide +kernel
theorem dX11_wholeApart_3 : decode cX11_wholeApart 3 = .ok (.invokevirtual 127, 3) := by decide +kernel
theorem dX11_wholeApart_6 : decode cX11_wholeApart 6 = .ok (.aload_n 0, 1) := by decide +kernel
theorem dX11_wholeApart_7 : decode cX11_wholeApart 7 = .ok (.getfield 26, 3) := by decide +kernel
theorem dX11_wholeApart_10 : decode cX11_wholeApart 10 = .ok (.aload_n 0, 1) := by decide +kernel
theorem dX11_wholeApart_11 : decode cX11_wholeApart 11 = .ok (.getfield 12, 3) := by decide +kernel
theorem dX11_wholeApart_14 : decode cX11_wholeApart 14 = .ok (.getfield 134, 3) := by decide +kernel
theorem dX11_wholeApart_17 : decode cX11_wholeApart 17 = .ok (.invokevirtual 137, 3) := by decide +kernel
theorem dX11_wholeApart_20 : decode cX11_wholeApart 20 = .ok (.ireturn, 1) := by decide +kernel
theorem dX11_turnSpoils_0 : decode cX11_turnSpoils 0 = .ok (.aload_n 0, 1) := by decide +kernel
theorem dX11_turnSpoils_1 : decode cX11_turnSpoils 1 = .ok (.getfield 68, 3) := by decide +kernel
theorem dX11_turnSpoils_4 : decode cX11_turnSpoils 4 = .ok (.iload_n 2, 1) := by decide +kernel
theorem dX11_turnSpoils_5 : decode cX11_turnSpoils 5 = .ok (.iaload, 1) := by decide +kernel
theorem dX11_turnSpoils_6 : decode cX11_turnSpoils 6 = .ok (.istore_n 3, 1) := by decide +kernel
theorem dX11_turnSpoils_7 : decode cX11_turnSpoils 7 = .ok (.aload_n 0, 1) := by decide +kernel
theorem dX11_turnSpoils_8 : decode cX11_turnSpoils 8 = .ok (.getfield 68, 3) := by decide +kernel
theorem dX11_turnSpoils_11 : decode cX11_turnSpoils 11 = .ok (.iload_n 2, 1) := by decide +kernel
theorem dX11_turnSpoils_12 : decode cX11_turnSpoils 12 = .ok (.iload_n 3, 1) := by decide +kernel
theorem dX11_turnSpoils_13 : decode cX11_turnSpoils 13 = .ok (.ifCond .le 9, 3) := by decide +kernel
theorem dX11_turnSpoils_16 : decode cX11_turnSpoils 16 = .ok (.iload_n 3, 1) := by decide +kernel
theorem dX11_turnSpoils_17 : decode cX11_turnSpoils 17 = .ok (.iconst 2, 1) := by decide +kernel
theorem dX11_turnSpoils_18 : decode cX11_turnSpoils 18 = .ok (.isub, 1) := by decide +kernel
theorem dX11_turnSpoils_19 : decode cX11_turnSpoils 19 = .ok (.goto 6, 3) := by decide +kernel
theorem dX11_turnSpoils_22 : decode cX11_turnSpoils 22 = .ok (.iload_n 3, 1) := by decide +kernel
theorem dX11_turnSpoils_23 : decode cX11_turnSpoils 23 = .ok (.iconst 2, 1) := by decide +kernel
theorem dX11_turnSpoils_24 : decode cX11_turnSpoils 24 = .ok (.iadd, 1) := by decide +kernel
theorem dX11_turnSpoils_25 : decode cX11_turnSpoils 25 = .ok (.iastore, 1) := by decide +kernel
theorem dX11_turnSpoils_26 : decode cX11_turnSpoils 26 = .ok (.aload_n 0, 1) := by decide +kernel
theorem dX11_turnSpoils_27 : decode cX11_turnSpoils 27 = .ok (.getfield 33, 3) := by decide +kernel
theorem dX11_turnSpoils_30 : decode cX11_turnSpoils 30 = .ok (.aload_n 0, 1) := by decide +kernel
theorem dX11_turnSpoils_31 : decode cX11_turnSpoils 31 = .ok (.getfield 68, 3) := by decide +kernel
theorem dX11_turnSpoils_34 : decode cX11_turnSpoils 34 = .ok (.invokevirtual 349, 3) := by decide +kernel
theorem dX11_turnSpoils_37 : decode cX11_turnSpoils 37 = .ok (.iload_n 1, 1) := by decide +kernel
theorem dX11_turnSpoils_38 : decode cX11_turnSpoils 38 = .ok (.if_icmp .eq 7, 3) := by decide +kernel
theorem dX11_turnSpoils_41 : decode cX11_turnSpoils 41 = .ok (.iconst 1, 1) := by decide +kernel
theorem dX11_turnSpoils_42 : decode cX11_turnSpoils 42 = .ok (.goto 4, 3) := by decide +kernel
theorem dX11_turnSpoils_45 : decode cX11_turnSpoils 45 = .ok (.iconst 0, 1) := by decide +kernel
theorem dX11_turnSpoils_46 : decode cX11_turnSpoils 46 = .ok (.istore 4, 2) := by decide +kernel
theorem dX11_turnSpoils_48 : decode cX11_turnSpoils 48 = .ok (.aload_n 0, 1) := by decide +kernel
theorem dX11_turnSpoils_49 : decode cX11_turnSpoils 49 = .ok (.getfield 68, 3) := by decide +kernel
theorem dX11_turnSpoils_52 : decode cX11_turnSpoils 52 = .ok (.iload_n 2, 1) := by decide +kernel
theorem dX11_turnSpoils_53 : decode cX11_turnSpoils 53 = .ok (.iload_n 3, 1) := by decide +kernel
theorem dX11_turnSpoils_54 : decode cX11_turnSpoils 54 = .ok (.iastore, 1) := by decide +kernel
theorem dX11_turnSpoils_55 : decode cX11_turnSpoils 55 = .ok (.iload 4, 2) := by decide +kernel
theorem dX11_turnSpoils_57 : decode cX11_turnSpoils 57 = .ok (.ireturn, 1) := by decide +kernel
theorem dX11_keyAt_0 : decode cX11_keyAt 0 = .ok (.lconst 0, 1) := by decide +kernel
theorem dX11_keyAt_1 : decode cX11_keyAt 1 = .ok (.lstore_n 2, 1) := by decide +kernel
theorem dX11_keyAt_2 : decode cX11_keyAt 2 = .ok (.bipush 32, 2) := by decide +kernel
theorem dX11_keyAt_4 : decode cX11_keyAt 4 = .ok (.istore 4, 2) := by decide +kernel
theorem dX11_keyAt_6 : decode cX11_keyAt 6 = .ok (.iload 4, 2) := by decide +kernel
theorem dX11_keyAt_8 : decode cX11_keyAt 8 = .ok (.ifCond .lt 62, 3) := by decide +kernel
theorem dX11_keyAt_11 : decode cX11_keyAt 11 = .ok (.lload_n 2, 1) := by decide +kernel
theorem dX11_keyAt_12 : decode cX11_keyAt 12 = .ok (.lconst 1, 1) := by decide +kernel
theorem dX11_keyAt_13 : decode cX11_keyAt 13 = .ok (.iload 4, 2) := by decide +kernel
theorem dX11_keyAt_15 : decode cX11_keyAt 15 = .ok (.lshl, 1) := by decide +kernel
theorem dX11_keyAt_16 : decode cX11_keyAt 16 = .ok (.lor, 1) := by decide +kernel
theorem dX11_keyAt_17 : decode cX11_keyAt 17 = .ok (.lstore 5, 2) := by decide +kernel
theorem dX11_keyAt_19 : decode cX11_keyAt 19 = .ok (.iconst 0, 1) := by decide +kernel
theorem dX11_keyAt_20 : decode cX11_keyAt 20 = .ok (.istore 7, 2) := by decide +kernel
theorem dX11_keyAt_22 : decode cX11_keyAt 22 = .ok (.iconst 0, 1) := by decide +kernel
theorem dX11_keyAt_23 : decode cX11_keyAt 23 = .ok (.istore 8, 2) := by decide +kernel
theorem dX11_keyAt_25 : decode cX11_keyAt 25 = .ok (.iload 8, 2) := by decide +kernel
theorem dX11_keyAt_27 : decode cX11_keyAt 27 = .ok (.sipush 256, 3) := by decide +kernel
theorem dX11_keyAt_30 : decode cX11_keyAt 30 = .ok (.if_icmp .ge 25, 3) := by decide +kernel
theorem dX11_keyAt_33 : decode cX11_keyAt 33 = .ok (.aload_n 0, 1) := by decide +kernel
theorem dX11_keyAt_34 : decode cX11_keyAt 34 = .ok (.getfield 71, 3) := by decide +kernel
theorem dX11_keyAt_37 : decode cX11_keyAt 37 = .ok (.iload 8, 2) := by decide +kernel
theorem dX11_keyAt_39 : decode cX11_keyAt 39 = .ok (.laload, 1) := by decide +kernel
theorem dX11_keyAt_40 : decode cX11_keyAt 40 = .ok (.lload 5, 2) := by decide +kernel
theorem dX11_keyAt_42 : decode cX11_keyAt 42 = .ok (.lcmp, 1) := by decide +kernel
theorem dX11_keyAt_43 : decode cX11_keyAt 43 = .ok (.ifCond .lt 6, 3) := by decide +kernel
theorem dX11_keyAt_46 : decode cX11_keyAt 46 = .ok (.iinc 7 1, 3) := by decide +kernel
theorem dX11_keyAt_49 : decode cX11_keyAt 49 = .ok (.iinc 8 1, 3) := by decide +kernel
theorem dX11_keyAt_52 : decode cX11_keyAt 52 = .ok (.goto (-27), 3) := by decide +kernel
theorem dX11_keyAt_55 : decode cX11_keyAt 55 = .ok (.iload 7, 2) := by decide +kernel
theorem dX11_keyAt_57 : decode cX11_keyAt 57 = .ok (.iload_n 1, 1) := by decide +kernel
theorem dX11_keyAt_58 : decode cX11_keyAt 58 = .ok (.if_icmp .le 6, 3) := by decide +kernel
theorem dX11_keyAt_61 : decode cX11_keyAt 61 = .ok (.lload 5, 2) := by decide +kernel
theorem dX11_keyAt_63 : decode cX11_keyAt 63 = .ok (.lstore_n 2, 1) := by decide +kernel
theorem dX11_keyAt_64 : decode cX11_keyAt 64 = .ok (.iinc 4 (-1), 3) := by decide +kernel
theorem dX11_keyAt_67 : decode cX11_keyAt 67 = .ok (.goto (-61), 3) := by decide +kernel
theorem dX11_keyAt_70 : decode cX11_keyAt 70 = .ok (.lload_n 2, 1) := by decide +kernel
theorem dX11_keyAt_71 : decode cX11_keyAt 71 = .ok (.lreturn, 1) := by decide +kernel
theorem dX11_unlikeSigns_0 : decode cX11_unlikeSigns 0 = .ok (.iconst 0, 1) := by decide +kernel
theorem dX11_unlikeSigns_1 : decode cX11_unlikeSigns 1 = .ok (.istore_n 3, 1) := by decide +kernel
theorem dX11_unlikeSigns_2 : decode cX11_unlikeSigns 2 = .ok (.iconst 0, 1) := by decide +kernel
theorem dX11_unlikeSigns_3 : decode cX11_unlikeSigns 3 = .ok (.istore 4, 2) := by decide +kernel
theorem dX11_unlikeSigns_5 : decode cX11_unlikeSigns 5 = .ok (.iload 4, 2) := by decide +kernel
theorem dX11_unlikeSigns_7 : decode cX11_unlikeSigns 7 = .ok (.bipush 39, 2) := by decide +kernel
theorem dX11_unlikeSigns_9 : decode cX11_unlikeSigns 9 = .ok (.if_icmp .ge 38, 3) := by decide +kernel
theorem dX11_unlikeSigns_12 : decode cX11_unlikeSigns 12 = .ok (.lload_n 1, 1) := by decide +kernel
theorem dX11_unlikeSigns_13 : decode cX11_unlikeSigns 13 = .ok (.iload 4, 2) := by decide +kernel
theorem dX11_unlikeSigns_15 : decode cX11_unlikeSigns 15 = .ok (.invokestatic 159, 3) := by decide +kernel
theorem dX11_unlikeSigns_18 : decode cX11_unlikeSigns 18 = .ok (.ifCond .eq 13, 3) := by decide +kernel
theorem dX11_unlikeSigns_21 : decode cX11_unlikeSigns 21 = .ok (.aload_n 0, 1) := by decide +kernel
theorem dX11_unlikeSigns_22 : decode cX11_unlikeSigns 22 = .ok (.iload 4, 2) := by decide +kernel
theorem dX11_unlikeSigns_24 : decode cX11_unlikeSigns 24 = .ok (.iaload, 1) := by decide +kernel
theorem dX11_unlikeSigns_25 : decode cX11_unlikeSigns 25 = .ok (.ifCond .ge 16, 3) := by decide +kernel
theorem dX11_unlikeSigns_28 : decode cX11_unlikeSigns 28 = .ok (.goto 10, 3) := by decide +kernel
theorem dX11_unlikeSigns_31 : decode cX11_unlikeSigns 31 = .ok (.aload_n 0, 1) := by decide +kernel
theorem dX11_unlikeSigns_32 : decode cX11_unlikeSigns 32 = .ok (.iload 4, 2) := by decide +kernel
theorem dX11_unlikeSigns_34 : decode cX11_unlikeSigns 34 = .ok (.iaload, 1) := by decide +kernel
theorem dX11_unlikeSigns_35 : decode cX11_unlikeSigns 35 = .ok (.ifCond .le 6, 3) := by decide +kernel
theorem dX11_unlikeSigns_38 : decode cX11_unlikeSigns 38 = .ok (.iinc 3 1, 3) := by decide +kernel
theorem dX11_unlikeSigns_41 : decode cX11_unlikeSigns 41 = .ok (.iinc 4 1, 3) := by decide +kernel
theorem dX11_unlikeSigns_44 : decode cX11_unlikeSigns 44 = .ok (.goto (-39), 3) := by decide +kernel
theorem dX11_unlikeSigns_47 : decode cX11_unlikeSigns 47 = .ok (.iload_n 3, 1) := by decide +kernel
theorem dX11_unlikeSigns_48 : decode cX11_unlikeSigns 48 = .ok (.ireturn, 1) := by decide +kernel
theorem dX12_within_0 : decode cX12_within 0 = .ok (.lload_n 0, 1) := by decide +kernel
theorem dX12_within_1 : decode cX12_within 1 = .ok (.lload_n 2, 1) := by decide +kernel
theorem dX12_within_2 : decode cX12_within 2 = .ok (.lcmp, 1) := by decide +kernel
theorem dX12_within_3 : decode cX12_within 3 = .ok (.ifCond .lt 14, 3) := by decide +kernel
theorem dX12_within_6 : decode cX12_within 6 = .ok (.lload_n 0, 1) := by decide +kernel
theorem dX12_within_7 : decode cX12_within 7 = .ok (.lload 4, 2) := by decide +kernel
theorem dX12_within_9 : decode cX12_within 9 = .ok (.lcmp, 1) := by decide +kernel
theorem dX12_within_10 : decode cX12_within 10 = .ok (.ifCond .gt 7, 3) := by decide +kernel
theorem dX12_within_13 : decode cX12_within 13 = .ok (.iconst 1, 1) := by decide +kernel
theorem dX12_within_14 : decode cX12_within 14 = .ok (.goto 4, 3) := by decide +kernel
theorem dX12_within_17 : decode cX12_within 17 = .ok (.iconst 0, 1) := by decide +kernel
theorem dX12_within_18 : decode cX12_within 18 = .ok (.ireturn, 1) := by decide +kernel
theorem dX12_init_0 : decode cX12_init 0 = .ok (.aload_n 0, 1) := by decide +kernel
theorem dX12_init_1 : decode cX12_init 1 = .ok (.invokespecial 7, 3) := by decide +kernel
theorem dX12_init_4 : decode cX12_init 4 = .ok (.aload_n 0, 1) := by decide +kernel
theorem dX12_init_5 : decode cX12_init 5 = .ok (.sipush 3099, 3) := by decide +kernel
theorem dX12_init_8 : decode cX12_init 8 = .ok (.newarray .int, 2) := by decide +kernel
theorem dX12_init_10 : decode cX12_init 10 = .ok (.putfield 13, 3) := by decide +kernel
theorem dX12_init_13 : decode cX12_init 13 = .ok (.aload_n 0, 1) := by decide +kernel
theorem dX12_init_14 : decode cX12_init 14 = .ok (.sipush 1033, 3) := by decide +kernel
theorem dX12_init_17 : decode cX12_init 17 = .ok (.newarray .int, 2) := by decide +kernel
theorem dX12_init_19 : decode cX12_init 19 = .ok (.putfield 17, 3) := by decide +kernel
theorem dX12_init_22 : decode cX12_init 22 = .ok (.aload_n 0, 1) := by decide +kernel
theorem dX12_init_23 : decode cX12_init 23 = .ok (.iconst 2, 1) := by decide +kernel
theorem dX12_init_24 : decode cX12_init 24 = .ok (.newarray .boolean, 2) := by decide +kernel
theorem dX12_init_26 : decode cX12_init 26 = .ok (.putfield 20, 3) := by decide +kernel
theorem dX12_init_29 : decode cX12_init 29 = .ok (.aload_n 0, 1) := by decide +kernel
theorem dX12_init_30 : decode cX12_init 30 = .ok (.sipush 2048, 3) := by decide +kernel
theorem dX12_init_33 : decode cX12_init 33 = .ok (.newarray .long, 2) := by decide +kernel
theorem dX12_init_35 : decode cX12_init 35 = .ok (.putfield 24, 3) := by decide +kernel
theorem dX12_init_38 : decode cX12_init 38 = .ok (.aload_n 0, 1) := by decide +kernel
theorem dX12_init_39 : decode cX12_init 39 = .ok (.bipush 48, 2) := by decide +kernel
theorem dX12_init_41 : decode cX12_init 41 = .ok (.newarray .int, 2) := by decide +kernel
theorem dX12_init_43 : decode cX12_init 43 = .ok (.putfield 28, 3) := by decide +kernel
theorem dX12_init_46 : decode cX12_init 46 = .ok (.aload_n 0, 1) := by decide +kernel
theorem dX12_init_47 : decode cX12_init 47 = .ok (.bipush 60, 2) := by decide +kernel
theorem dX12_init_49 : decode cX12_init 49 = .ok (.newarray .int, 2) := by decide +kernel
theorem dX12_init_51 : decode cX12_init 51 = .ok (.putfield 31, 3) := by decide +kernel
theorem dX12_init_54 : decode cX12_init 54 = .ok (.aload_n 0, 1) := by decide +kernel
theorem dX12_init_55 : decode cX12_init 55 = .ok (.bipush 39, 2) := by decide +kernel
theorem dX12_init_57 : decode cX12_init 57 = .ok (.newarray .int, 2) := by decide +kernel
theorem dX12_init_59 : decode cX12_init 59 = .ok (.putfield 34, 3) := by decide +kernel
theorem dX12_init_62 : decode cX12_init 62 = .ok (.aload_n 0, 1) := by decide +kernel
theorem dX12_init_63 : decode cX12_init 63 = .ok (.bipush 39, 2) := by decide +kernel
theorem dX12_init_65 : decode cX12_init 65 = .ok (.newarray .int, 2) := by decide +kernel
theorem dX12_init_67 : decode cX12_init 67 = .ok (.putfield 37, 3) := by decide +kernel
theorem dX12_init_70 : decode cX12_init 70 = .ok (.aload_n 0, 1) := by decide +kernel
theorem dX12_init_71 : decode cX12_init 71 = .ok (.iconst 4, 1) := by decide +kernel
theorem dX12_init_72 : decode cX12_init 72 = .ok (.newarray .int, 2) := by decide +kernel
theorem dX12_init_74 : decode cX12_init 74 = .ok (.putfield 40, 3) := by decide +kernel
theorem dX12_init_77 : decode cX12_init 77 = .ok (.aload_n 0, 1) := by decide +kernel
theorem dX12_init_78 : decode cX12_init 78 = .ok (.iconst 4, 1) := by decide +kernel
theorem dX12_init_79 : decode cX12_init 79 = .ok (.newarray .int, 2) := by decide +kernel
theorem dX12_init_81 : decode cX12_init 81 = .ok (.putfield 43, 3) := by decide +kernel
theorem dX12_init_84 : decode cX12_init 84 = .ok (.aload_n 0, 1) := by decide +kernel
theorem dX12_init_85 : decode cX12_init 85 = .ok (.iconst 4, 1) := by decide +kernel
theorem dX12_init_86 : decode cX12_init 86 = .ok (.newarray .int, 2) := by decide +kernel
theorem dX12_init_88 : decode cX12_init 88 = .ok (.putfield 46, 3) := by decide +kernel
theorem dX12_init_91 : decode cX12_init 91 = .ok (.aload_n 0, 1) := by decide +kernel
theorem dX12_init_92 : decode cX12_init 92 = .ok (.iconst 4, 1) := by decide +kernel
theorem dX12_init_93 : decode cX12_init 93 = .ok (.newarray .int, 2) := by decide +kernel
theorem dX12_init_95 : decode cX12_init 95 = .ok (.putfield 49, 3) := by decide +kernel
theorem dX12_init_98 : decode cX12_init 98 = .ok (.aload_n 0, 1) := by decide +kernel
theorem dX12_init_99 : decode cX12_init 99 = .ok (.bipush 60, 2) := by decide +kernel
theorem dX12_init_101 : decode cX12_init 101 = .ok (.newarray .int, 2) := by decide +kernel
theorem dX12_init_103 : decode cX12_init 103 = .ok (.putfield 52, 3) := by decide +kernel
theorem dX12_init_106 : decode cX12_init 106 = .ok (.aload_n 0, 1) := by decide +kernel
theorem dX12_init_107 : decode cX12_init 107 = .ok (.sipush 256, 3) := by decide +kernel
theorem dX12_init_110 : decode cX12_init 110 = .ok (.newarray .int, 2) := by decide +kernel
theorem dX12_init_112 : decode cX12_init 112 = .ok (.putfield 55, 3) := by decide +kernel
theorem dX12_init_115 : decode cX12_init 115 = .ok (.aload_n 0, 1) := by decide +kernel
theorem dX12_init_116 : decode cX12_init 116 = .ok (.sipush 256, 3) := by decide +kernel
theorem dX12_init_119 : decode cX12_init 119 = .ok (.newarray .int, 2) := by decide +kernel
theorem dX12_init_121 : decode cX12_init 121 = .ok (.putfield 58, 3) := by decide +kernel
theorem dX12_init_124 : decode cX12_init 124 = .ok (.aload_n 0, 1) := by decide +kernel
theorem dX12_init_125 : decode cX12_init 125 = .ok (.iconst 4, 1) := by decide +kernel
theorem dX12_init_126 : decode cX12_init 126 = .ok (.newarray .int, 2) := by decide +kernel
theorem dX12_init_128 : decode cX12_init 128 = .ok (.dup, 1) := by decide +kernel
theorem dX12_init_129 : decode cX12_init 129 = .ok (.iconst 0, 1) := by decide +kernel
theorem dX12_init_130 : decode cX12_init 130 = .ok (.iconst (-1), 1) := by decide +kernel
theorem dX12_init_131 : decode cX12_init 131 = .ok (.iastore, 1) := by decide +kernel
theorem dX12_init_132 : decode cX12_init 132 = .ok (.dup, 1) := by decide +kernel
theorem dX12_init_133 : decode cX12_init 133 = .ok (.iconst 1, 1) := by decide +kernel
theorem dX12_init_134 : decode cX12_init 134 = .ok (.iconst (-1), 1) := by decide +kernel
theorem dX12_init_135 : decode cX12_init 135 = .ok (.iastore, 1) := by decide +kernel
theorem dX12_init_136 : decode cX12_init 136 = .ok (.dup, 1) := by decide +kernel
theorem dX12_init_137 : decode cX12_init 137 = .ok (.iconst 2, 1) := by decide +kernel
theorem dX12_init_138 : decode cX12_init 138 = .ok (.iconst (-1), 1) := by decide +kernel
theorem dX12_init_139 : decode cX12_init 139 = .ok (.iastore, 1) := by decide +kernel
theorem dX12_init_140 : decode cX12_init 140 = .ok (.dup, 1) := by decide +kernel
theorem dX12_init_141 : decode cX12_init 141 = .ok (.iconst 3, 1) := by decide +kernel
theorem dX12_init_142 : decode cX12_init 142 = .ok (.iconst (-1), 1) := by decide +kernel
theorem dX12_init_143 : decode cX12_init 143 = .ok (.iastore, 1) := by decide +kernel
theorem dX12_init_144 : decode cX12_init 144 = .ok (.putfield 61, 3) := by decide +kernel
theorem dX12_init_147 : decode cX12_init 147 = .ok (.aload_n 0, 1) := by decide +kernel
theorem dX12_init_148 : decode cX12_init 148 = .ok (.sipush 240, 3) := by decide +kernel
theorem dX12_init_151 : decode cX12_init 151 = .ok (.newarray .int, 2) := by decide +kernel
theorem dX12_init_153 : decode cX12_init 153 = .ok (.putfield 64, 3) := by decide +kernel
theorem dX12_init_156 : decode cX12_init 156 = .ok (.iconst 0, 1) := by decide +kernel
theorem dX12_init_157 : decode cX12_init 157 = .ok (.istore_n 1, 1) := by decide +kernel
theorem dX12_init_158 : decode cX12_init 158 = .ok (.iload_n 1, 1) := by decide +kernel
theorem dX12_init_159 : decode cX12_init 159 = .ok (.sipush 2048, 3) := by decide +kernel
theorem dX12_init_162 : decode cX12_init 162 = .ok (.if_icmp .ge 19, 3) := by decide +kernel
theorem dX12_init_165 : decode cX12_init 165 = .ok (.aload_n 0, 1) := by decide +kernel
theorem dX12_init_166 : decode cX12_init 166 = .ok (.getfield 24, 3) := by decide +kernel
theorem dX12_init_169 : decode cX12_init 169 = .ok (.iload_n 1, 1) := by decide +kernel
theorem dX12_init_170 : decode cX12_init 170 = .ok (.iload_n 1, 1) := by decide +kernel
theorem dX12_init_171 : decode cX12_init 171 = .ok (.invokestatic 67, 3) := by decide +kernel
theorem dX12_init_174 : decode cX12_init 174 = .ok (.lastore, 1) := by decide +kernel
theorem dX12_init_175 : decode cX12_init 175 = .ok (.iinc 1 1, 3) := by decide +kernel
theorem dX12_init_178 : decode cX12_init 178 = .ok (.goto (-20), 3) := by decide +kernel
theorem dX12_init_181 : decode cX12_init 181 = .ok (.aload_n 0, 1) := by decide +kernel
theorem dX12_init_182 : decode cX12_init 182 = .ok (.invokevirtual 71, 3) := by decide +kernel
theorem dX12_init_185 : decode cX12_init 185 = .ok (.aload_n 0, 1) := by decide +kernel
theorem dX12_init_186 : decode cX12_init 186 = .ok (.iconst 4, 1) := by decide +kernel
theorem dX12_init_187 : decode cX12_init 187 = .ok (.iconst 4, 1) := by decide +kernel
theorem dX12_init_188 : decode cX12_init 188 = .ok (.bipush 12, 2) := by decide +kernel
theorem dX12_init_190 : decode cX12_init 190 = .ok (.iconst 4, 1) := by decide +kernel
theorem dX12_init_191 : decode cX12_init 191 = .ok (.bipush 48, 2) := by decide +kernel
theorem dX12_init_193 : decode cX12_init 193 = .ok (.invokevirtual 74, 3) := by decide +kernel
theorem dX12_init_196 : decode cX12_init 196 = .ok (.return_, 1) := by decide +kernel
theorem dX12_begins_0 : decode cX12_begins 0 = .ok (.iconst 0, 1) := by decide +kernel
theorem dX12_begins_1 : decode cX12_begins 1 = .ok (.istore 6, 2) := by decide +kernel
theorem dX12_begins_3 : decode cX12_begins 3 = .ok (.iload 6, 2) := by decide +kernel
theorem dX12_begins_5 : decode cX12_begins 5 = .ok (.sipush 1033, 3) := by decide +kernel
theorem dX12_begins_8 : decode cX12_begins 8 = .ok (.if_icmp .ge 17, 3) := by decide +kernel
theorem dX12_begins_11 : decode cX12_begins 11 = .ok (.aload_n 0, 1) := by decide +kernel
theorem dX12_begins_12 : decode cX12_begins 12 = .ok (.getfield 13, 3) := by decide +kernel
theorem dX12_begins_15 : decode cX12_begins 15 = .ok (.iload 6, 2) := by decide +kernel
theorem dX12_begins_17 : decode cX12_begins 17 = .ok (.iconst 0, 1) := by decide +kernel
theorem dX12_begins_18 : decode cX12_begins 18 = .ok (.iastore, 1) := by decide +kernel
theorem dX12_begins_19 : decode cX12_begins 19 = .ok (.iinc 6 1, 3) := by decide +kernel
theorem dX12_begins_22 : decode cX12_begins 22 = .ok (.goto (-19), 3) := by decide +kernel
theorem dX12_begins_25 : decode cX12_begins 25 = .ok (.aload_n 0, 1) := by decide +kernel
theorem dX12_begins_26 : decode cX12_begins 26 = .ok (.getfield 13, 3) := by decide +kernel
theorem dX12_begins_29 : decode cX12_begins 29 = .ok (.iconst 0, 1) := by decide +kernel
theorem dX12_begins_30 : decode cX12_begins 30 = .ok (.iload_n 1, 1) := by decide +kernel
theorem dX12_begins_31 : decode cX12_begins 31 = .ok (.iastore, 1) := by decide +kernel
theorem dX12_begins_32 : decode cX12_begins 32 = .ok (.aload_n 0, 1) := by decide +kernel
theorem dX12_begins_33 : decode cX12_begins 33 = .ok (.getfield 13, 3) := by decide +kernel
theorem dX12_begins_36 : decode cX12_begins 36 = .ok (.iconst 1, 1) := by decide +kernel
theorem dX12_begins_37 : decode cX12_begins 37 = .ok (.iload_n 2, 1) := by decide +kernel
theorem dX12_begins_38 : decode cX12_begins 38 = .ok (.iastore, 1) := by decide +kernel
theorem dX12_begins_39 : decode cX12_begins 39 = .ok (.aload_n 0, 1) := by decide +kernel
theorem dX12_begins_40 : decode cX12_begins 40 = .ok (.getfield 13, 3) := by decide +kernel
theorem dX12_begins_43 : decode cX12_begins 43 = .ok (.iconst 2, 1) := by decide +kernel
theorem dX12_begins_44 : decode cX12_begins 44 = .ok (.iload_n 3, 1) := by decide +kernel
theorem dX12_begins_45 : decode cX12_begins 45 = .ok (.iastore, 1) := by decide +kernel
theorem dX12_begins_46 : decode cX12_begins 46 = .ok (.aload_n 0, 1) := by decide +kernel
theorem dX12_begins_47 : decode cX12_begins 47 = .ok (.getfield 13, 3) := by decide +kernel
theorem dX12_begins_50 : decode cX12_begins 50 = .ok (.iconst 3, 1) := by decide +kernel
theorem dX12_begins_51 : decode cX12_begins 51 = .ok (.iload 4, 2) := by decide +kernel
theorem dX12_begins_53 : decode cX12_begins 53 = .ok (.iastore, 1) := by decide +kernel
theorem dX12_begins_54 : decode cX12_begins 54 = .ok (.aload_n 0, 1) := by decide +kernel
theorem dX12_begins_55 : decode cX12_begins 55 = .ok (.getfield 13, 3) := by decide +kernel
theorem dX12_begins_58 : decode cX12_begins 58 = .ok (.iconst 4, 1) := by decide +kernel
theorem dX12_begins_59 : decode cX12_begins 59 = .ok (.iload 5, 2) := by decide +kernel
theorem dX12_begins_61 : decode cX12_begins 61 = .ok (.iastore, 1) := by decide +kernel
theorem dX12_begins_62 : decode cX12_begins 62 = .ok (.aload_n 0, 1) := by decide +kernel
theorem dX12_begins_63 : decode cX12_begins 63 = .ok (.getfield 13, 3) := by decide +kernel
theorem dX12_begins_66 : decode cX12_begins 66 = .ok (.iconst 5, 1) := by decide +kernel
theorem dX12_begins_67 : decode cX12_begins 67 = .ok (.sipush 500, 3) := by decide +kernel
theorem dX12_begins_70 : decode cX12_begins 70 = .ok (.iastore, 1) := by decide +kernel
theorem dX12_begins_71 : decode cX12_begins 71 = .ok (.aload_n 0, 1) := by decide +kernel
theorem dX12_begins_72 : decode cX12_begins 72 = .ok (.getfield 13, 3) := by decide +kernel
theorem dX12_begins_75 : decode cX12_begins 75 = .ok (.bipush 6, 2) := by decide +kernel
theorem dX12_begins_77 : decode cX12_begins 77 = .ok (.bipush 20, 2) := by decide +kernel
theorem dX12_begins_79 : decode cX12_begins 79 = .ok (.iastore, 1) := by decide +kernel
theorem dX12_begins_80 : decode cX12_begins 80 = .ok (.aload_n 0, 1) := by decide +kernel
theorem dX12_begins_81 : decode cX12_begins 81 = .ok (.getfield 13, 3) := by decide +kernel
theorem dX12_begins_84 : decode cX12_begins 84 = .ok (.bipush 64, 2) := by decide +kernel
theorem dX12_begins_86 : decode cX12_begins 86 = .ok (.iconst (-1), 1) := by decide +kernel
theorem dX12_begins_87 : decode cX12_begins 87 = .ok (.iastore, 1) := by decide +kernel
theorem dX12_begins_88 : decode cX12_begins 88 = .ok (.aload_n 0, 1) := by decide +kernel
theorem dX12_begins_89 : decode cX12_begins 89 = .ok (.getfield 13, 3) := by decide +kernel
theorem dX12_begins_92 : decode cX12_begins 92 = .ok (.bipush 65, 2) := by decide +kernel
theorem dX12_begins_94 : decode cX12_begins 94 = .ok (.iconst (-1), 1) := by decide +kernel
theorem dX12_begins_95 : decode cX12_begins 95 = .ok (.iastore, 1) := by decide +kernel
theorem dX12_begins_96 : decode cX12_begins 96 = .ok (.iconst 0, 1) := by decide +kernel
theorem dX12_begins_97 : decode cX12_begins 97 = .ok (.istore 6, 2) := by decide +kernel
theorem dX12_begins_99 : decode cX12_begins 99 = .ok (.iload 6, 2) := by decide +kernel
theorem dX12_begins_101 : decode cX12_begins 101 = .ok (.bipush 8, 2) := by decide +kernel
theorem dX12_begins_103 : decode cX12_begins 103 = .ok (.if_icmp .ge 66, 3) := by decide +kernel
theorem dX12_begins_106 : decode cX12_begins 106 = .ok (.aload_n 0, 1) := by decide +kernel
theorem dX12_begins_107 : decode cX12_begins 107 = .ok (.getfield 13, 3) := by decide +kernel
theorem dX12_begins_110 : decode cX12_begins 110 = .ok (.bipush 39, 2) := by decide +kernel
theorem dX12_begins_112 : decode cX12_begins 112 = .ok (.iload 6, 2) := by decide +kernel
theorem dX12_begins_114 : decode cX12_begins 114 = .ok (.iadd, 1) := by decide +kernel
theorem dX12_begins_115 : decode cX12_begins 115 = .ok (.iconst (-1), 1) := by decide +kernel
theorem dX12_begins_116 : decode cX12_begins 116 = .ok (.iastore, 1) := by decide +kernel
theorem dX12_begins_117 : decode cX12_begins 117 = .ok (.aload_n 0, 1) := by decide +kernel
theorem dX12_begins_118 : decode cX12_begins 118 = .ok (.getfield 13, 3) := by decide +kernel
theorem dX12_begins_121 : decode cX12_begins 121 = .ok (.bipush 56, 2) := by decide +kernel
theorem dX12_begins_123 : decode cX12_begins 123 = .ok (.iload 6, 2) := by decide +kernel
theorem dX12_begins_125 : decode cX12_begins 125 = .ok (.iadd, 1) := by decide +kernel
theorem dX12_begins_126 : decode cX12_begins 126 = .ok (.iconst (-1), 1) := by decide +kernel
theorem dX12_begins_127 : decode cX12_begins 127 = .ok (.iastore, 1) := by decide +kernel
theorem dX12_begins_128 : decode cX12_begins 128 = .ok (.aload_n 0, 1) := by decide +kernel
theorem dX12_begins_129 : decode cX12_begins 129 = .ok (.getfield 13, 3) := by decide +kernel
theorem dX12_begins_132 : decode cX12_begins 132 = .ok (.sipush 329, 3) := by decide +kernel
theorem dX12_begins_135 : decode cX12_begins 135 = .ok (.bipush 88, 2) := by decide +kernel
theorem dX12_begins_137 : decode cX12_begins 137 = .ok (.iload 6, 2) := by decide +kernel
theorem dX12_begins_139 : decode cX12_begins 139 = .ok (.imul, 1) := by decide +kernel
theorem dX12_begins_140 : decode cX12_begins 140 = .ok (.iadd, 1) := by decide +kernel
theorem dX12_begins_141 : decode cX12_begins 141 = .ok (.iconst 0, 1) := by decide +kernel
theorem dX12_begins_142 : decode cX12_begins 142 = .ok (.iadd, 1) := by decide +kernel
theorem dX12_begins_143 : decode cX12_begins 143 = .ok (.iconst (-1), 1) := by decide +kernel
theorem dX12_begins_144 : decode cX12_begins 144 = .ok (.iastore, 1) := by decide +kernel
theorem dX12_begins_145 : decode cX12_begins 145 = .ok (.aload_n 0, 1) := by decide +kernel
theorem dX12_begins_146 : decode cX12_begins 146 = .ok (.getfield 13, 3) := by decide +kernel
theorem dX12_begins_149 : decode cX12_begins 149 = .ok (.sipush 329, 3) := by decide +kernel
theorem dX12_begins_152 : decode cX12_begins 152 = .ok (.bipush 88, 2) := by decide +kernel
theorem dX12_begins_154 : decode cX12_begins 154 = .ok (.iload 6, 2) := by decide +kernel
theorem dX12_begins_156 : decode cX12_begins 156 = .ok (.imul, 1) := by decide +kernel
theorem dX12_begins_157 : decode cX12_begins 157 = .ok (.iadd, 1) := by decide +kernel
theorem dX12_begins_158 : decode cX12_begins 158 = .ok (.bipush 6, 2) := by decide +kernel
theorem dX12_begins_160 : decode cX12_begins 160 = .ok (.iadd, 1) := by decide +kernel
theorem dX12_begins_161 : decode cX12_begins 161 = .ok (.iconst (-1), 1) := by decide +kernel
theorem dX12_begins_162 : decode cX12_begins 162 = .ok (.iastore, 1) := by decide +kernel
theorem dX12_begins_163 : decode cX12_begins 163 = .ok (.iinc 6 1, 3) := by decide +kernel
theorem dX12_begins_166 : decode cX12_begins 166 = .ok (.goto (-67), 3) := by decide +kernel
theorem dX12_begins_169 : decode cX12_begins 169 = .ok (.return_, 1) := by decide +kernel
theorem dX12_bitAt_0 : decode cX12_bitAt 0 = .ok (.iload_n 1, 1) := by decide +kernel
theorem dX12_bitAt_1 : decode cX12_bitAt 1 = .ok (.ifCond .lt 9, 3) := by decide +kernel
theorem dX12_bitAt_4 : decode cX12_bitAt 4 = .ok (.iload_n 1, 1) := by decide +kernel
theorem dX12_bitAt_5 : decode cX12_bitAt 5 = .ok (.bipush 10, 2) := by decide +kernel
theorem dX12_bitAt_7 : decode cX12_bitAt 7 = .ok (.if_icmp .le 7, 3) := by decide +kernel
theorem dX12_bitAt_10 : decode cX12_bitAt 10 = .ok (.iconst 0, 1) := by decide +kernel
theorem dX12_bitAt_11 : decode cX12_bitAt 11 = .ok (.goto 11, 3) := by decide +kernel
theorem dX12_bitAt_14 : decode cX12_bitAt 14 = .ok (.iload_n 0, 1) := by decide +kernel
theorem dX12_bitAt_15 : decode cX12_bitAt 15 = .ok (.bipush 10, 2) := by decide +kernel
theorem dX12_bitAt_17 : decode cX12_bitAt 17 = .ok (.iload_n 1, 1) := by decide +kernel
theorem dX12_bitAt_18 : decode cX12_bitAt 18 = .ok (.isub, 1) := by decide +kernel
theorem dX12_bitAt_19 : decode cX12_bitAt 19 = .ok (.ishr, 1) := by decide +kernel
theorem dX12_bitAt_20 : decode cX12_bitAt 20 = .ok (.iconst 1, 1) := by decide +kernel
theorem dX12_bitAt_21 : decode cX12_bitAt 21 = .ok (.iand, 1) := by decide +kernel
theorem dX12_bitAt_22 : decode cX12_bitAt 22 = .ok (.ireturn, 1) := by decide +kernel
theorem dX12_codeBit_0 : decode cX12_codeBit 0 = .ok (.iload_n 1, 1) := by decide +kernel
theorem dX12_codeBit_1 : decode cX12_codeBit 1 = .ok (.bipush 13, 2) := by decide +kernel
theorem dX12_codeBit_3 : decode cX12_codeBit 3 = .ok (.irem, 1) := by decide +kernel
theorem dX12_codeBit_4 : decode cX12_codeBit 4 = .ok (.istore_n 2, 1) := by decide +kernel
theorem dX12_codeBit_5 : decode cX12_codeBit 5 = .ok (.iload_n 0, 1) := by decide +kernel
theorem dX12_codeBit_6 : decode cX12_codeBit 6 = .ok (.iload_n 2, 1) := by decide +kernel
theorem dX12_codeBit_7 : decode cX12_codeBit 7 = .ok (.invokestatic 78, 3) := by decide +kernel
theorem dX12_codeBit_10 : decode cX12_codeBit 10 = .ok (.istore_n 3, 1) := by decide +kernel
theorem dX12_codeBit_11 : decode cX12_codeBit 11 = .ok (.iload_n 0, 1) := by decide +kernel
theorem dX12_codeBit_12 : decode cX12_codeBit 12 = .ok (.iload_n 2, 1) := by decide +kernel
theorem dX12_codeBit_13 : decode cX12_codeBit 13 = .ok (.iconst 2, 1) := by decide +kernel
theorem dX12_codeBit_14 : decode cX12_codeBit 14 = .ok (.isub, 1) := by decide +kernel
theorem dX12_codeBit_15 : decode cX12_codeBit 15 = .ok (.invokestatic 78, 3) := by decide +kernel
theorem dX12_codeBit_18 : decode cX12_codeBit 18 = .ok (.istore 4, 2) := by decide +kernel
theorem dX12_codeBit_20 : decode cX12_codeBit 20 = .ok (.iload_n 1, 1) := by decide +kernel
theorem dX12_codeBit_21 : decode cX12_codeBit 21 = .ok (.bipush 13, 2) := by decide +kernel
theorem dX12_codeBit_23 : decode cX12_codeBit 23 = .ok (.if_icmp .ge 7, 3) := by decide +kernel
theorem dX12_codeBit_26 : decode cX12_codeBit 26 = .ok (.iload_n 3, 1) := by decide +kernel
theorem dX12_codeBit_27 : decode cX12_codeBit 27 = .ok (.goto 28, 3) := by decide +kernel
theorem dX12_codeBit_30 : decode cX12_codeBit 30 = .ok (.iload_n 1, 1) := by decide +kernel
theorem dX12_codeBit_31 : decode cX12_codeBit 31 = .ok (.bipush 26, 2) := by decide +kernel
theorem dX12_codeBit_33 : decode cX12_codeBit 33 = .ok (.if_icmp .ge 18, 3) := by decide +kernel
theorem dX12_codeBit_36 : decode cX12_codeBit 36 = .ok (.iload_n 3, 1) := by decide +kernel
theorem dX12_codeBit_37 : decode cX12_codeBit 37 = .ok (.iload_n 0, 1) := by decide +kernel
theorem dX12_codeBit_38 : decode cX12_codeBit 38 = .ok (.iload_n 2, 1) := by decide +kernel
theorem dX12_codeBit_39 : decode cX12_codeBit 39 = .ok (.iconst 1, 1) := by decide +kernel
theorem dX12_codeBit_40 : decode cX12_codeBit 40 = .ok (.isub, 1) := by decide +kernel
theorem dX12_codeBit_41 : decode cX12_codeBit 41 = .ok (.invokestatic 78, 3) := by decide +kernel
theorem dX12_codeBit_44 : decode cX12_codeBit 44 = .ok (.ixor, 1) := by decide +kernel
theorem dX12_codeBit_45 : decode cX12_codeBit 45 = .ok (.iload 4, 2) := by decide +kernel
theorem dX12_codeBit_47 : decode cX12_codeBit 47 = .ok (.ixor, 1) := by decide +kernel
theorem dX12_codeBit_48 : decode cX12_codeBit 48 = .ok (.goto 7, 3) := by decide +kernel
theorem dX12_codeBit_51 : decode cX12_codeBit 51 = .ok (.iload_n 3, 1) := by decide +kernel
theorem dX12_codeBit_52 : decode cX12_codeBit 52 = .ok (.iload 4, 2) := by decide +kernel
theorem dX12_codeBit_54 : decode cX12_codeBit 54 = .ok (.ixor, 1) := by decide +kernel
theorem dX12_codeBit_55 : decode cX12_codeBit 55 = .ok (.ireturn, 1) := by decide +kernel
theorem dX12_codeOf_0 : decode cX12_codeOf 0 = .ok (.lconst 0, 1) := by decide +kernel
theorem dX12_codeOf_1 : decode cX12_codeOf 1 = .ok (.lstore_n 1, 1) := by decide +kernel
theorem dX12_codeOf_2 : decode cX12_codeOf 2 = .ok (.iconst 0, 1) := by decide +kernel
theorem dX12_codeOf_3 : decode cX12_codeOf 3 = .ok (.istore_n 3, 1) := by decide +kernel
theorem dX12_codeOf_4 : decode cX12_codeOf 4 = .ok (.iload_n 3, 1) := by decide +kernel
theorem dX12_codeOf_5 : decode cX12_codeOf 5 = .ok (.bipush 39, 2) := by decide +kernel
theorem dX12_codeOf_7 : decode cX12_codeOf 7 = .ok (.if_icmp .ge 20, 3) := by decide +kernel
theorem dX12_codeOf_10 : decode cX12_codeOf 10 = .ok (.lload_n 1, 1) := by decide +kernel
theorem dX12_codeOf_11 : decode cX12_codeOf 11 = .ok (.iload_n 0, 1) := by decide +kernel
theorem dX12_codeOf_12 : decode cX12_codeOf 12 = .ok (.iload_n 3, 1) := by decide +kernel
theorem dX12_codeOf_13 : decode cX12_codeOf 13 = .ok (.invokestatic 82, 3) := by decide +kernel
theorem dX12_codeOf_16 : decode cX12_codeOf 16 = .ok (.i2l, 1) := by decide +kernel
theorem dX12_codeOf_17 : decode cX12_codeOf 17 = .ok (.iload_n 3, 1) := by decide +kernel
theorem dX12_codeOf_18 : decode cX12_codeOf 18 = .ok (.lshl, 1) := by decide +kernel
theorem dX12_codeOf_19 : decode cX12_codeOf 19 = .ok (.lor, 1) := by decide +kernel
theorem dX12_codeOf_20 : decode cX12_codeOf 20 = .ok (.lstore_n 1, 1) := by decide +kernel
theorem dX12_codeOf_21 : decode cX12_codeOf 21 = .ok (.iinc 3 1, 3) := by decide +kernel
theorem dX12_codeOf_24 : decode cX12_codeOf 24 = .ok (.goto (-20), 3) := by decide +kernel
theorem dX12_codeOf_27 : decode cX12_codeOf 27 = .ok (.lload_n 1, 1) := by decide +kernel
theorem dX12_codeOf_28 : decode cX12_codeOf 28 = .ok (.lreturn, 1) := by decide +kernel
theorem dX12_restOf_0 : decode cX12_restOf 0 = .ok (.iload_n 0, 1) := by decide +kernel
theorem dX12_restOf_1 : decode cX12_restOf 1 = .ok (.istore_n 1, 1) := by decide +kernel
theorem dX12_restOf_2 : decode cX12_restOf 2 = .ok (.bipush 10, 2) := by decide +kernel
theorem dX12_restOf_4 : decode cX12_restOf 4 = .ok (.istore_n 2, 1) := by decide +kernel
theorem dX12_restOf_5 : decode cX12_restOf 5 = .ok (.iload_n 2, 1) := by decide +kernel
theorem dX12_restOf_6 : decode cX12_restOf 6 = .ok (.iconst 3, 1) := by decide +kernel
theorem dX12_restOf_7 : decode cX12_restOf 7 = .ok (.if_icmp .lt 27, 3) := by decide +kernel
theorem dX12_restOf_10 : decode cX12_restOf 10 = .ok (.iload_n 1, 1) := by decide +kernel
theorem dX12_restOf_11 : decode cX12_restOf 11 = .ok (.iload_n 2, 1) := by decide +kernel
theorem dX12_restOf_12 : decode cX12_restOf 12 = .ok (.ishr, 1) := by decide +kernel
theorem dX12_restOf_13 : decode cX12_restOf 13 = .ok (.iconst 1, 1) := by decide +kernel
theorem dX12_restOf_14 : decode cX12_restOf 14 = .ok (.iand, 1) := by decide +kernel
theorem dX12_restOf_15 : decode cX12_restOf 15 = .ok (.iconst 1, 1) := by decide +kernel
theorem dX12_restOf_16 : decode cX12_restOf 16 = .ok (.if_icmp .ne 12, 3) := by decide +kernel
theorem dX12_restOf_19 : decode cX12_restOf 19 = .ok (.iload_n 1, 1) := by decide +kernel
theorem dX12_restOf_20 : decode cX12_restOf 20 = .ok (.bipush 11, 2) := by decide +kernel
theorem dX12_restOf_22 : decode cX12_restOf 22 = .ok (.iload_n 2, 1) := by decide +kernel
theorem dX12_restOf_23 : decode cX12_restOf 23 = .ok (.iconst 3, 1) := by decide +kernel
theorem dX12_restOf_24 : decode cX12_restOf 24 = .ok (.isub, 1) := by decide +kernel
theorem dX12_restOf_25 : decode cX12_restOf 25 = .ok (.ishl, 1) := by decide +kernel
theorem dX12_restOf_26 : decode cX12_restOf 26 = .ok (.ixor, 1) := by decide +kernel
theorem dX12_restOf_27 : decode cX12_restOf 27 = .ok (.istore_n 1, 1) := by decide +kernel
theorem dX12_restOf_28 : decode cX12_restOf 28 = .ok (.iinc 2 (-1), 3) := by decide +kernel
theorem dX12_restOf_31 : decode cX12_restOf 31 = .ok (.goto (-26), 3) := by decide +kernel
theorem dX12_restOf_34 : decode cX12_restOf 34 = .ok (.iload_n 1, 1) := by decide +kernel
theorem dX12_restOf_35 : decode cX12_restOf 35 = .ok (.ireturn, 1) := by decide +kernel
theorem dX12_isWhole_0 : decode cX12_isWhole 0 = .ok (.iload_n 0, 1) := by decide +kernel
theorem dX12_isWhole_1 : decode cX12_isWhole 1 = .ok (.invokestatic 85, 3) := by decide +kernel
theorem dX12_isWhole_4 : decode cX12_isWhole 4 = .ok (.iconst 5, 1) := by decide +kernel
theorem dX12_isWhole_5 : decode cX12_isWhole 5 = .ok (.if_icmp .ne 7, 3) := by decide +kernel
theorem dX12_isWhole_8 : decode cX12_isWhole 8 = .ok (.iconst 1, 1) := by decide +kernel
theorem dX12_isWhole_9 : decode cX12_isWhole 9 = .ok (.goto 4, 3) := by decide +kernel
theorem dX12_isWhole_12 : decode cX12_isWhole 12 = .ok (.iconst 0, 1) := by decide +kernel
theorem dX12_isWhole_13 : decode cX12_isWhole 13 = .ok (.ireturn, 1) := by decide +kernel
theorem dX12_wordOf_0 : decode cX12_wordOf 0 = .ok (.iload_n 0, 1) := by decide +kernel
theorem dX12_wordOf_1 : decode cX12_wordOf 1 = .ok (.bipush 8, 2) := by decide +kernel
theorem dX12_wordOf_3 : decode cX12_wordOf 3 = .ok (.ishl, 1) := by decide +kernel
theorem dX12_wordOf_4 : decode cX12_wordOf 4 = .ok (.iload_n 1, 1) := by decide +kernel
theorem dX12_wordOf_5 : decode cX12_wordOf 5 = .ok (.iconst 3, 1) := by decide +kernel
theorem dX12_wordOf_6 : decode cX12_wordOf 6 = .ok (.ishl, 1) := by decide +kernel
theorem dX12_wordOf_7 : decode cX12_wordOf 7 = .ok (.ior, 1) := by decide +kernel
theorem dX12_wordOf_8 : decode cX12_wordOf 8 = .ok (.istore_n 2, 1) := by decide +kernel
theorem dX12_wordOf_9 : decode cX12_wordOf 9 = .ok (.iload_n 2, 1) := by decide +kernel
theorem dX12_wordOf_10 : decode cX12_wordOf 10 = .ok (.iload_n 2, 1) := by decide +kernel
theorem dX12_wordOf_11 : decode cX12_wordOf 11 = .ok (.invokestatic 85, 3) := by decide +kernel
theorem dX12_wordOf_14 : decode cX12_wordOf 14 = .ok (.iconst 5, 1) := by decide +kernel
theorem dX12_wordOf_15 : decode cX12_wordOf 15 = .ok (.ixor, 1) := by decide +kernel
theorem dX12_wordOf_16 : decode cX12_wordOf 16 = .ok (.ior, 1) := by decide +kernel
theorem dX12_wordOf_17 : decode cX12_wordOf 17 = .ok (.ireturn, 1) := by decide +kernel
theorem dX12_readAt_0 : decode cX12_readAt 0 = .ok (.iload_n 0, 1) := by decide +kernel
theorem dX12_readAt_1 : decode cX12_readAt 1 = .ok (.iconst 4, 1) := by decide +kernel
theorem dX12_readAt_2 : decode cX12_readAt 2 = .ok (.idiv, 1) := by decide +kernel
theorem dX12_readAt_3 : decode cX12_readAt 3 = .ok (.iconst 1, 1) := by decide +kernel
theorem dX12_readAt_4 : decode cX12_readAt 4 = .ok (.if_icmp .ne 7, 3) := by decide +kernel
theorem dX12_readAt_7 : decode cX12_readAt 7 = .ok (.iconst 2, 1) := by decide +kernel
theorem dX12_readAt_8 : decode cX12_readAt 8 = .ok (.goto 17, 3) := by decide +kernel
theorem dX12_readAt_11 : decode cX12_readAt 11 = .ok (.iload_n 0, 1) := by decide +kernel
theorem dX12_readAt_12 : decode cX12_readAt 12 = .ok (.iconst 4, 1) := by decide +kernel
theorem dX12_readAt_13 : decode cX12_readAt 13 = .ok (.idiv, 1) := by decide +kernel
theorem dX12_readAt_14 : decode cX12_readAt 14 = .ok (.iconst 2, 1) := by decide +kernel
theorem dX12_readAt_15 : decode cX12_readAt 15 = .ok (.if_icmp .ne 7, 3) := by decide +kernel
theorem dX12_readAt_18 : decode cX12_readAt 18 = .ok (.iconst 1, 1) := by decide +kernel
theorem dX12_readAt_19 : decode cX12_readAt 19 = .ok (.goto 6, 3) := by decide +kernel
theorem dX12_readAt_22 : decode cX12_readAt 22 = .ok (.iload_n 0, 1) := by decide +kernel
theorem dX12_readAt_23 : decode cX12_readAt 23 = .ok (.iconst 4, 1) := by decide +kernel
theorem dX12_readAt_24 : decode cX12_readAt 24 = .ok (.idiv, 1) := by decide +kernel
theorem dX12_readAt_25 : decode cX12_readAt 25 = .ok (.istore_n 1, 1) := by decide +kernel
theorem dX12_readAt_26 : decode cX12_readAt 26 = .ok (.iconst 4, 1) := by decide +kernel
theorem dX12_readAt_27 : decode cX12_readAt 27 = .ok (.iload_n 0, 1) := by decide +kernel
theorem dX12_readAt_28 : decode cX12_readAt 28 = .ok (.iconst 4, 1) := by decide +kernel
theorem dX12_readAt_29 : decode cX12_readAt 29 = .ok (.irem, 1) := by decide +kernel
theorem dX12_readAt_30 : decode cX12_readAt 30 = .ok (.imul, 1) := by decide +kernel
theorem dX12_readAt_31 : decode cX12_readAt 31 = .ok (.iload_n 1, 1) := by decide +kernel
theorem dX12_readAt_32 : decode cX12_readAt 32 = .ok (.iadd, 1) := by decide +kernel
theorem dX12_readAt_33 : decode cX12_readAt 33 = .ok (.ireturn, 1) := by decide +kernel
theorem dX12_laysRing_0 : decode cX12_laysRing 0 = .ok (.iconst 0, 1) := by decide +kernel
theorem dX12_laysRing_1 : decode cX12_laysRing 1 = .ok (.istore_n 1, 1) := by decide +kernel
theorem dX12_laysRing_2 : decode cX12_laysRing 2 = .ok (.iload_n 1, 1) := by decide +kernel
theorem dX12_laysRing_3 : decode cX12_laysRing 3 = .ok (.bipush 16, 2) := by decide +kernel
theorem dX12_laysRing_5 : decode cX12_laysRing 5 = .ok (.if_icmp .ge 77, 3) := by decide +kernel
theorem dX12_laysRing_8 : decode cX12_laysRing 8 = .ok (.iload_n 1, 1) := by decide +kernel
theorem dX12_laysRing_9 : decode cX12_laysRing 9 = .ok (.invokestatic 89, 3) := by decide +kernel
theorem dX12_laysRing_12 : decode cX12_laysRing 12 = .ok (.iconst 3, 1) := by decide +kernel
theorem dX12_laysRing_13 : decode cX12_laysRing 13 = .ok (.isub, 1) := by decide +kernel
theorem dX12_laysRing_14 : decode cX12_laysRing 14 = .ok (.istore_n 2, 1) := by decide +kernel
theorem dX12_laysRing_15 : decode cX12_laysRing 15 = .ok (.aload_n 0, 1) := by decide +kernel
theorem dX12_laysRing_16 : decode cX12_laysRing 16 = .ok (.getfield 28, 3) := by decide +kernel
theorem dX12_laysRing_19 : decode cX12_laysRing 19 = .ok (.iload_n 1, 1) := by decide +kernel
theorem dX12_laysRing_20 : decode cX12_laysRing 20 = .ok (.iload_n 2, 1) := by decide +kernel
theorem dX12_laysRing_21 : decode cX12_laysRing 21 = .ok (.ifCond .ge 7, 3) := by decide +kernel
theorem dX12_laysRing_24 : decode cX12_laysRing 24 = .ok (.iconst (-1), 1) := by decide +kernel
theorem dX12_laysRing_25 : decode cX12_laysRing 25 = .ok (.goto 4, 3) := by decide +kernel
theorem dX12_laysRing_28 : decode cX12_laysRing 28 = .ok (.iload_n 2, 1) := by decide +kernel
theorem dX12_laysRing_29 : decode cX12_laysRing 29 = .ok (.iastore, 1) := by decide +kernel
theorem dX12_laysRing_30 : decode cX12_laysRing 30 = .ok (.aload_n 0, 1) := by decide +kernel
theorem dX12_laysRing_31 : decode cX12_laysRing 31 = .ok (.getfield 28, 3) := by decide +kernel
theorem dX12_laysRing_34 : decode cX12_laysRing 34 = .ok (.bipush 16, 2) := by decide +kernel
theorem dX12_laysRing_36 : decode cX12_laysRing 36 = .ok (.iconst 2, 1) := by decide +kernel
theorem dX12_laysRing_37 : decode cX12_laysRing 37 = .ok (.iload_n 1, 1) := by decide +kernel
theorem dX12_laysRing_38 : decode cX12_laysRing 38 = .ok (.imul, 1) := by decide +kernel
theorem dX12_laysRing_39 : decode cX12_laysRing 39 = .ok (.iadd, 1) := by decide +kernel
theorem dX12_laysRing_40 : decode cX12_laysRing 40 = .ok (.iload_n 2, 1) := by decide +kernel
theorem dX12_laysRing_41 : decode cX12_laysRing 41 = .ok (.ifCond .ge 7, 3) := by decide +kernel
theorem dX12_laysRing_44 : decode cX12_laysRing 44 = .ok (.iconst (-1), 1) := by decide +kernel
theorem dX12_laysRing_45 : decode cX12_laysRing 45 = .ok (.goto 7, 3) := by decide +kernel
theorem dX12_laysRing_48 : decode cX12_laysRing 48 = .ok (.bipush 13, 2) := by decide +kernel
theorem dX12_laysRing_50 : decode cX12_laysRing 50 = .ok (.iload_n 2, 1) := by decide +kernel
theorem dX12_laysRing_51 : decode cX12_laysRing 51 = .ok (.iadd, 1) := by decide +kernel
theorem dX12_laysRing_52 : decode cX12_laysRing 52 = .ok (.iastore, 1) := by decide +kernel
theorem dX12_laysRing_53 : decode cX12_laysRing 53 = .ok (.aload_n 0, 1) := by decide +kernel
theorem dX12_laysRing_54 : decode cX12_laysRing 54 = .ok (.getfield 28, 3) := by decide +kernel
theorem dX12_laysRing_57 : decode cX12_laysRing 57 = .ok (.bipush 17, 2) := by decide +kernel
theorem dX12_laysRing_59 : decode cX12_laysRing 59 = .ok (.iconst 2, 1) := by decide +kernel
theorem dX12_laysRing_60 : decode cX12_laysRing 60 = .ok (.iload_n 1, 1) := by decide +kernel
theorem dX12_laysRing_61 : decode cX12_laysRing 61 = .ok (.imul, 1) := by decide +kernel
theorem dX12_laysRing_62 : decode cX12_laysRing 62 = .ok (.iadd, 1) := by decide +kernel
theorem dX12_laysRing_63 : decode cX12_laysRing 63 = .ok (.iload_n 2, 1) := by decide +kernel
theorem dX12_laysRing_64 : decode cX12_laysRing 64 = .ok (.ifCond .ge 7, 3) := by decide +kernel
theorem dX12_laysRing_67 : decode cX12_laysRing 67 = .ok (.iconst (-1), 1) := by decide +kernel
theorem dX12_laysRing_68 : decode cX12_laysRing 68 = .ok (.goto 7, 3) := by decide +kernel
theorem dX12_laysRing_71 : decode cX12_laysRing 71 = .ok (.bipush 26, 2) := by decide +kernel
theorem dX12_laysRing_73 : decode cX12_laysRing 73 = .ok (.iload_n 2, 1) := by decide +kernel
theorem dX12_laysRing_74 : decode cX12_laysRing 74 = .ok (.iadd, 1) := by decide +kernel
theorem dX12_laysRing_75 : decode cX12_laysRing 75 = .ok (.iastore, 1) := by decide +kernel
theorem dX12_laysRing_76 : decode cX12_laysRing 76 = .ok (.iinc 1 1, 3) := by decide +kernel
theorem dX12_laysRing_79 : decode cX12_laysRing 79 = .ok (.goto (-77), 3) := by decide +kernel
theorem dX12_laysRing_82 : decode cX12_laysRing 82 = .ok (.return_, 1) := by decide +kernel
theorem dX12_laysSending_0 : decode cX12_laysSending 0 = .ok (.iload_n 1, 1) := by decide +kernel
theorem dX12_laysSending_1 : decode cX12_laysSending 1 = .ok (.aload_n 0, 1) := by decide +kernel
theorem dX12_laysSending_2 : decode cX12_laysSending 2 = .ok (.getfield 13, 3) := by decide +kernel
theorem dX12_laysSending_5 : decode cX12_laysSending 5 = .ok (.iconst 4, 1) := by decide +kernel
theorem dX12_laysSending_6 : decode cX12_laysSending 6 = .ok (.iaload, 1) := by decide +kernel
theorem dX12_laysSending_7 : decode cX12_laysSending 7 = .ok (.imul, 1) := by decide +kernel
theorem dX12_laysSending_8 : decode cX12_laysSending 8 = .ok (.iconst 4, 1) := by decide +kernel
theorem dX12_laysSending_9 : decode cX12_laysSending 9 = .ok (.idiv, 1) := by decide +kernel
theorem dX12_laysSending_10 : decode cX12_laysSending 10 = .ok (.istore_n 3, 1) := by decide +kernel
theorem dX12_laysSending_11 : decode cX12_laysSending 11 = .ok (.iconst 0, 1) := by decide +kernel
theorem dX12_laysSending_12 : decode cX12_laysSending 12 = .ok (.istore 4, 2) := by decide +kernel
theorem dX12_laysSending_14 : decode cX12_laysSending 14 = .ok (.iload 4, 2) := by decide +kernel
theorem dX12_laysSending_16 : decode cX12_laysSending 16 = .ok (.iload_n 2, 1) := by decide +kernel
theorem dX12_laysSending_17 : decode cX12_laysSending 17 = .ok (.if_icmp .ge 52, 3) := by decide +kernel
theorem dX12_laysSending_20 : decode cX12_laysSending 20 = .ok (.aload_n 0, 1) := by decide +kernel
theorem dX12_laysSending_21 : decode cX12_laysSending 21 = .ok (.getfield 28, 3) := by decide +kernel
theorem dX12_laysSending_24 : decode cX12_laysSending 24 = .ok (.iload_n 3, 1) := by decide +kernel
theorem dX12_laysSending_25 : decode cX12_laysSending 25 = .ok (.iaload, 1) := by decide +kernel
theorem dX12_laysSending_26 : decode cX12_laysSending 26 = .ok (.iconst (-1), 1) := by decide +kernel
theorem dX12_laysSending_27 : decode cX12_laysSending 27 = .ok (.if_icmp .eq 19, 3) := by decide +kernel
theorem dX12_laysSending_30 : decode cX12_laysSending 30 = .ok (.aload_n 0, 1) := by decide +kernel
theorem dX12_laysSending_31 : decode cX12_laysSending 31 = .ok (.getfield 31, 3) := by decide +kernel
theorem dX12_laysSending_34 : decode cX12_laysSending 34 = .ok (.iload 4, 2) := by decide +kernel
theorem dX12_laysSending_36 : decode cX12_laysSending 36 = .ok (.aload_n 0, 1) := by decide +kernel
theorem dX12_laysSending_37 : decode cX12_laysSending 37 = .ok (.getfield 28, 3) := by decide +kernel
theorem dX12_laysSending_40 : decode cX12_laysSending 40 = .ok (.iload_n 3, 1) := by decide +kernel
theorem dX12_laysSending_41 : decode cX12_laysSending 41 = .ok (.iaload, 1) := by decide +kernel
theorem dX12_laysSending_42 : decode cX12_laysSending 42 = .ok (.iastore, 1) := by decide +kernel
theorem dX12_laysSending_43 : decode cX12_laysSending 43 = .ok (.iinc 4 1, 3) := by decide +kernel
theorem dX12_laysSending_46 : decode cX12_laysSending 46 = .ok (.iload_n 3, 1) := by decide +kernel
theorem dX12_laysSending_47 : decode cX12_laysSending 47 = .ok (.iconst 1, 1) := by decide +kernel
theorem dX12_laysSending_48 : decode cX12_laysSending 48 = .ok (.iadd, 1) := by decide +kernel
theorem dX12_laysSending_49 : decode cX12_laysSending 49 = .ok (.aload_n 0, 1) := by decide +kernel
theorem dX12_laysSending_50 : decode cX12_laysSending 50 = .ok (.getfield 13, 3) := by decide +kernel
theorem dX12_laysSending_53 : decode cX12_laysSending 53 = .ok (.iconst 4, 1) := by decide +kernel
theorem dX12_laysSending_54 : decode cX12_laysSending 54 = .ok (.iaload, 1) := by decide +kernel
theorem dX12_laysSending_55 : decode cX12_laysSending 55 = .ok (.if_icmp .ne 7, 3) := by decide +kernel
theorem dX12_laysSending_58 : decode cX12_laysSending 58 = .ok (.iconst 0, 1) := by decide +kernel
theorem dX12_laysSending_59 : decode cX12_laysSending 59 = .ok (.goto 6, 3) := by decide +kernel
theorem dX12_laysSending_62 : decode cX12_laysSending 62 = .ok (.iload_n 3, 1) := by decide +kernel
theorem dX12_laysSending_63 : decode cX12_laysSending 63 = .ok (.iconst 1, 1) := by decide +kernel
theorem dX12_laysSending_64 : decode cX12_laysSending 64 = .ok (.iadd, 1) := by decide +kernel
theorem dX12_laysSending_65 : decode cX12_laysSending 65 = .ok (.istore_n 3, 1) := by decide +kernel
theorem dX12_laysSending_66 : decode cX12_laysSending 66 = .ok (.goto (-52), 3) := by decide +kernel
theorem dX12_laysSending_69 : decode cX12_laysSending 69 = .ok (.return_, 1) := by decide +kernel
theorem dX12_isWord_0 : decode cX12_isWord 0 = .ok (.iload_n 0, 1) := by decide +kernel
theorem dX12_isWord_1 : decode cX12_isWord 1 = .ok (.i2l, 1) := by decide +kernel
theorem dX12_isWord_2 : decode cX12_isWord 2 = .ok (.lconst 0, 1) := by decide +kernel
theorem dX12_isWord_3 : decode cX12_isWord 3 = .ok (.ldc2_w 92, 3) := by decide +kernel
theorem dX12_isWord_6 : decode cX12_isWord 6 = .ok (.invokestatic 94, 3) := by decide +kernel
theorem dX12_isWord_9 : decode cX12_isWord 9 = .ok (.ireturn, 1) := by decide +kernel
theorem dX12_isLength_0 : decode cX12_isLength 0 = .ok (.iload_n 0, 1) := by decide +kernel
theorem dX12_isLength_1 : decode cX12_isLength 1 = .ok (.i2l, 1) := by decide +kernel
theorem dX12_isLength_2 : decode cX12_isLength 2 = .ok (.lconst 1, 1) := by decide +kernel
theorem dX12_isLength_3 : decode cX12_isLength 3 = .ok (.ldc2_w 98, 3) := by decide +kernel
theorem dX12_isLength_6 : decode cX12_isLength 6 = .ok (.invokestatic 94, 3) := by decide +kernel
theorem dX12_isLength_9 : decode cX12_isLength 9 = .ok (.ireturn, 1) := by decide +kernel
theorem dX12_isSet_0 : decode cX12_isSet 0 = .ok (.iload_n 0, 1) := by decide +kernel
theorem dX12_isSet_1 : decode cX12_isSet 1 = .ok (.i2l, 1) := by decide +kernel
theorem dX12_isSet_2 : decode cX12_isSet 2 = .ok (.lconst 0, 1) := by decide +kernel
theorem dX12_isSet_3 : decode cX12_isSet 3 = .ok (.ldc2_w 100, 3) := by decide +kernel
theorem dX12_isSet_6 : decode cX12_isSet 6 = .ok (.invokestatic 94, 3) := by decide +kernel
theorem dX12_isSet_9 : decode cX12_isSet 9 = .ok (.ireturn, 1) := by decide +kernel
theorem dX12_clearsOften_0 : decode cX12_clearsOften 0 = .ok (.iconst 0, 1) := by decide +kernel
theorem dX12_clearsOften_1 : decode cX12_clearsOften 1 = .ok (.istore_n 1, 1) := by decide +kernel
theorem dX12_clearsOften_2 : decode cX12_clearsOften 2 = .ok (.iload_n 1, 1) := by decide +kernel
theorem dX12_clearsOften_3 : decode cX12_clearsOften 3 = .ok (.bipush 39, 2) := by decide +kernel
theorem dX12_clearsOften_5 : decode cX12_clearsOften 5 = .ok (.if_icmp .ge 16, 3) := by decide +kernel
theorem dX12_clearsOften_8 : decode cX12_clearsOften 8 = .ok (.aload_n 0, 1) := by decide +kernel
theorem dX12_clearsOften_9 : decode cX12_clearsOften 9 = .ok (.getfield 34, 3) := by decide +kernel
theorem dX12_clearsOften_12 : decode cX12_clearsOften 12 = .ok (.iload_n 1, 1) := by decide +kernel
theorem dX12_clearsOften_13 : decode cX12_clearsOften 13 = .ok (.iconst 0, 1) := by decide +kernel
theorem dX12_clearsOften_14 : decode cX12_clearsOften 14 = .ok (.iastore, 1) := by decide +kernel
theorem dX12_clearsOften_15 : decode cX12_clearsOften 15 = .ok (.iinc 1 1, 3) := by decide +kernel
theorem dX12_clearsOften_18 : decode cX12_clearsOften 18 = .ok (.goto (-16), 3) := by decide +kernel
theorem dX12_clearsOften_21 : decode cX12_clearsOften 21 = .ok (.return_, 1) := by decide +kernel
theorem dX12_addsOften_0 : decode cX12_addsOften 0 = .ok (.aload_n 0, 1) := by decide +kernel
theorem dX12_addsOften_1 : decode cX12_addsOften 1 = .ok (.iload_n 1, 1) := by decide +kernel
theorem dX12_addsOften_2 : decode cX12_addsOften 2 = .ok (.iload_n 2, 1) := by decide +kernel
theorem dX12_addsOften_3 : decode cX12_addsOften 3 = .ok (.invokevirtual 102, 3) := by decide +kernel
theorem dX12_addsOften_6 : decode cX12_addsOften 6 = .ok (.iconst 0, 1) := by decide +kernel
theorem dX12_addsOften_7 : decode cX12_addsOften 7 = .ok (.istore_n 3, 1) := by decide +kernel
theorem dX12_addsOften_8 : decode cX12_addsOften 8 = .ok (.iload_n 3, 1) := by decide +kernel
theorem dX12_addsOften_9 : decode cX12_addsOften 9 = .ok (.iload_n 2, 1) := by decide +kernel
theorem dX12_addsOften_10 : decode cX12_addsOften 10 = .ok (.if_icmp .ge 24, 3) := by decide +kernel
theorem dX12_addsOften_13 : decode cX12_addsOften 13 = .ok (.aload_n 0, 1) := by decide +kernel
theorem dX12_addsOften_14 : decode cX12_addsOften 14 = .ok (.getfield 34, 3) := by decide +kernel
theorem dX12_addsOften_17 : decode cX12_addsOften 17 = .ok (.aload_n 0, 1) := by decide +kernel
theorem dX12_addsOften_18 : decode cX12_addsOften 18 = .ok (.getfield 31, 3) := by decide +kernel
theorem dX12_addsOften_21 : decode cX12_addsOften 21 = .ok (.iload_n 3, 1) := by decide +kernel
theorem dX12_addsOften_22 : decode cX12_addsOften 22 = .ok (.iaload, 1) := by decide +kernel
theorem dX12_addsOften_23 : decode cX12_addsOften 23 = .ok (.dup2, 1) := by decide +kernel
theorem dX12_addsOften_24 : decode cX12_addsOften 24 = .ok (.iaload, 1) := by decide +kernel
theorem dX12_addsOften_25 : decode cX12_addsOften 25 = .ok (.iconst 1, 1) := by decide +kernel
theorem dX12_addsOften_26 : decode cX12_addsOften 26 = .ok (.iadd, 1) := by decide +kernel
theorem dX12_addsOften_27 : decode cX12_addsOften 27 = .ok (.iastore, 1) := by decide +kernel
theorem dX12_addsOften_28 : decode cX12_addsOften 28 = .ok (.iinc 3 1, 3) := by decide +kernel
theorem dX12_addsOften_31 : decode cX12_addsOften 31 = .ok (.goto (-23), 3) := by decide +kernel
theorem dX12_addsOften_34 : decode cX12_addsOften 34 = .ok (.return_, 1) := by decide +kernel
theorem dX12_laysOften_0 : decode cX12_laysOften 0 = .ok (.aload_n 0, 1) := by decide +kernel
theorem dX12_laysOften_1 : decode cX12_laysOften 1 = .ok (.invokevirtual 106, 3) := by decide +kernel
theorem dX12_laysOften_4 : decode cX12_laysOften 4 = .ok (.iconst 0, 1) := by decide +kernel
theorem dX12_laysOften_5 : decode cX12_laysOften 5 = .ok (.istore_n 3, 1) := by decide +kernel
theorem dX12_laysOften_6 : decode cX12_laysOften 6 = .ok (.iload_n 3, 1) := by decide +kernel
theorem dX12_laysOften_7 : decode cX12_laysOften 7 = .ok (.iconst 4, 1) := by decide +kernel
theorem dX12_laysOften_8 : decode cX12_laysOften 8 = .ok (.if_icmp .ge 24, 3) := by decide +kernel
theorem dX12_laysOften_11 : decode cX12_laysOften 11 = .ok (.iload_n 1, 1) := by decide +kernel
theorem dX12_laysOften_12 : decode cX12_laysOften 12 = .ok (.iload_n 3, 1) := by decide +kernel
theorem dX12_laysOften_13 : decode cX12_laysOften 13 = .ok (.ishr, 1) := by decide +kernel
theorem dX12_laysOften_14 : decode cX12_laysOften 14 = .ok (.iconst 1, 1) := by decide +kernel
theorem dX12_laysOften_15 : decode cX12_laysOften 15 = .ok (.iand, 1) := by decide +kernel
theorem dX12_laysOften_16 : decode cX12_laysOften 16 = .ok (.iconst 1, 1) := by decide +kernel
theorem dX12_laysOften_17 : decode cX12_laysOften 17 = .ok (.if_icmp .ne 9, 3) := by decide +kernel
theorem dX12_laysOften_20 : decode cX12_laysOften 20 = .ok (.aload_n 0, 1) := by decide +kernel
theorem dX12_laysOften_21 : decode cX12_laysOften 21 = .ok (.iload_n 3, 1) := by decide +kernel
theorem dX12_laysOften_22 : decode cX12_laysOften 22 = .ok (.iload_n 2, 1) := by decide +kernel
theorem dX12_laysOften_23 : decode cX12_laysOften 23 = .ok (.invokevirtual 109, 3) := by decide +kernel
theorem dX12_laysOften_26 : decode cX12_laysOften 26 = .ok (.iinc 3 1, 3) := by decide +kernel
theorem dX12_laysOften_29 : decode cX12_laysOften 29 = .ok (.goto (-23), 3) := by decide +kernel
theorem dX12_laysOften_32 : decode cX12_laysOften 32 = .ok (.return_, 1) := by decide +kernel
theorem dX12_apart_0 : decode cX12_apart 0 = .ok (.aload_n 0, 1) := by decide +kernel
theorem dX12_apart_1 : decode cX12_apart 1 = .ok (.getfield 24, 3) := by decide +kernel
theorem dX12_apart_4 : decode cX12_apart 4 = .ok (.iload_n 1, 1) := by decide +kernel
theorem dX12_apart_5 : decode cX12_apart 5 = .ok (.laload, 1) := by decide +kernel
theorem dX12_apart_6 : decode cX12_apart 6 = .ok (.aload_n 0, 1) := by decide +kernel
theorem dX12_apart_7 : decode cX12_apart 7 = .ok (.getfield 24, 3) := by decide +kernel
theorem dX12_apart_10 : decode cX12_apart 10 = .ok (.iload_n 2, 1) := by decide +kernel
theorem dX12_apart_11 : decode cX12_apart 11 = .ok (.laload, 1) := by decide +kernel
theorem dX12_apart_12 : decode cX12_apart 12 = .ok (.lxor, 1) := by decide +kernel
theorem dX12_apart_13 : decode cX12_apart 13 = .ok (.lstore_n 3, 1) := by decide +kernel
theorem dX12_apart_14 : decode cX12_apart 14 = .ok (.iconst 0, 1) := by decide +kernel
theorem dX12_apart_15 : decode cX12_apart 15 = .ok (.istore 5, 2) := by decide +kernel
theorem dX12_apart_17 : decode cX12_apart 17 = .ok (.iconst 0, 1) := by decide +kernel
theorem dX12_apart_18 : decode cX12_apart 18 = .ok (.istore 6, 2) := by decide +kernel
theorem dX12_apart_20 : decode cX12_apart 20 = .ok (.iload 6, 2) := by decide +kernel
theorem dX12_apart_22 : decode cX12_apart 22 = .ok (.bipush 39, 2) := by decide +kernel
theorem dX12_apart_24 : decode cX12_apart 24 = .ok (.if_icmp .ge 32, 3) := by decide +kernel
theorem dX12_apart_27 : decode cX12_apart 27 = .ok (.lload_n 3, 1) := by decide +kernel
theorem dX12_apart_28 : decode cX12_apart 28 = .ok (.iload 6, 2) := by decide +kernel
theorem dX12_apart_30 : decode cX12_apart 30 = .ok (.lshr, 1) := by decide +kernel
theorem dX12_apart_31 : decode cX12_apart 31 = .ok (.lconst 1, 1) := by decide +kernel
theorem dX12_apart_32 : decode cX12_apart 32 = .ok (.land, 1) := by decide +kernel
theorem dX12_apart_33 : decode cX12_apart 33 = .ok (.lconst 1, 1) := by decide +kernel
theorem dX12_apart_34 : decode cX12_apart 34 = .ok (.lcmp, 1) := by decide +kernel
theorem dX12_apart_35 : decode cX12_apart 35 = .ok (.ifCond .ne 15, 3) := by decide +kernel
theorem dX12_apart_38 : decode cX12_apart 38 = .ok (.iload 5, 2) := by decide +kernel
theorem dX12_apart_40 : decode cX12_apart 40 = .ok (.aload_n 0, 1) := by decide +kernel
theorem dX12_apart_41 : decode cX12_apart 41 = .ok (.getfield 34, 3) := by decide +kernel
theorem dX12_apart_44 : decode cX12_apart 44 = .ok (.iload 6, 2) := by decide +kernel
theorem dX12_apart_46 : decode cX12_apart 46 = .ok (.iaload, 1) := by decide +kernel
theorem dX12_apart_47 : decode cX12_apart 47 = .ok (.iadd, 1) := by decide +kernel
theorem dX12_apart_48 : decode cX12_apart 48 = .ok (.istore 5, 2) := by decide +kernel
theorem dX12_apart_50 : decode cX12_apart 50 = .ok (.iinc 6 1, 3) := by decide +kernel
theorem dX12_apart_53 : decode cX12_apart 53 = .ok (.goto (-33), 3) := by decide +kernel
theorem dX12_apart_56 : decode cX12_apart 56 = .ok (.iload 5, 2) := by decide +kernel
theorem dX12_apart_58 : decode cX12_apart 58 = .ok (.ireturn, 1) := by decide +kernel
theorem dX12_leastApart_0 : decode cX12_leastApart 0 = .ok (.iload_n 1, 1) := by decide +kernel
theorem dX12_leastApart_1 : decode cX12_leastApart 1 = .ok (.ifCond .eq 11, 3) := by decide +kernel
theorem dX12_leastApart_4 : decode cX12_leastApart 4 = .ok (.iconst 0, 1) := by decide +kernel
theorem dX12_leastApart_5 : decode cX12_leastApart 5 = .ok (.iconst 0, 1) := by decide +kernel
theorem dX12_leastApart_6 : decode cX12_leastApart 6 = .ok (.invokestatic 112, 3) := by decide +kernel
theorem dX12_leastApart_9 : decode cX12_leastApart 9 = .ok (.goto 4, 3) := by decide +kernel
theorem dX12_leastApart_12 : decode cX12_leastApart 12 = .ok (.iconst 0, 1) := by decide +kernel
theorem dX12_leastApart_13 : decode cX12_leastApart 13 = .ok (.istore_n 2, 1) := by decide +kernel
theorem dX12_leastApart_14 : decode cX12_leastApart 14 = .ok (.ldc 115, 2) := by decide +kernel
theorem dX12_leastApart_16 : decode cX12_leastApart 16 = .ok (.istore_n 3, 1) := by decide +kernel
theorem dX12_leastApart_17 : decode cX12_leastApart 17 = .ok (.iconst 0, 1) := by decide +kernel
theorem dX12_leastApart_18 : decode cX12_leastApart 18 = .ok (.istore 4, 2) := by decide +kernel
theorem dX12_leastApart_20 : decode cX12_leastApart 20 = .ok (.iload 4, 2) := by decide +kernel
theorem dX12_leastApart_22 : decode cX12_leastApart 22 = .ok (.sipush 2048, 3) := by decide +kernel
theorem dX12_leastApart_25 : decode cX12_leastApart 25 = .ok (.if_icmp .ge 52, 3) := by decide +kernel
theorem dX12_leastApart_28 : decode cX12_leastApart 28 = .ok (.iload 4, 2) := by decide +kernel
theorem dX12_leastApart_30 : decode cX12_leastApart 30 = .ok (.iload_n 2, 1) := by decide +kernel
theorem dX12_leastApart_31 : decode cX12_leastApart 31 = .ok (.if_icmp .eq 40, 3) := by decide +kernel
theorem dX12_leastApart_34 : decode cX12_leastApart 34 = .ok (.iload_n 1, 1) := by decide +kernel
theorem dX12_leastApart_35 : decode cX12_leastApart 35 = .ok (.ifCond .eq 14, 3) := by decide +kernel
theorem dX12_leastApart_38 : decode cX12_leastApart 38 = .ok (.iload 4, 2) := by decide +kernel
theorem dX12_leastApart_40 : decode cX12_leastApart 40 = .ok (.invokestatic 116, 3) := by decide +kernel
theorem dX12_leastApart_43 : decode cX12_leastApart 43 = .ok (.ifCond .ne 6, 3) := by decide +kernel
theorem dX12_leastApart_46 : decode cX12_leastApart 46 = .ok (.goto 25, 3) := by decide +kernel
theorem dX12_leastApart_49 : decode cX12_leastApart 49 = .ok (.aload_n 0, 1) := by decide +kernel
theorem dX12_leastApart_50 : decode cX12_leastApart 50 = .ok (.iload 4, 2) := by decide +kernel
theorem dX12_leastApart_52 : decode cX12_leastApart 52 = .ok (.iload_n 2, 1) := by decide +kernel
theorem dX12_leastApart_53 : decode cX12_leastApart 53 = .ok (.invokevirtual 120, 3) := by decide +kernel
theorem dX12_leastApart_56 : decode cX12_leastApart 56 = .ok (.istore 5, 2) := by decide +kernel
theorem dX12_leastApart_58 : decode cX12_leastApart 58 = .ok (.iload 5, 2) := by decide +kernel
theorem dX12_leastApart_60 : decode cX12_leastApart 60 = .ok (.iload_n 3, 1) := by decide +kernel
theorem dX12_leastApart_61 : decode cX12_leastApart 61 = .ok (.if_icmp .ge 8, 3) := by decide +kernel
theorem dX12_leastApart_64 : decode cX12_leastApart 64 = .ok (.iload 5, 2) := by decide +kernel
theorem dX12_leastApart_66 : decode cX12_leastApart 66 = .ok (.goto 4, 3) := by decide +kernel
theorem dX12_leastApart_69 : decode cX12_leastApart 69 = .ok (.iload_n 3, 1) := by decide +kernel
theorem dX12_leastApart_70 : decode cX12_leastApart 70 = .ok (.istore_n 3, 1) := by decide +kernel
theorem dX12_leastApart_71 : decode cX12_leastApart 71 = .ok (.iinc 4 1, 3) := by decide +kernel
theorem dX12_leastApart_74 : decode cX12_leastApart 74 = .ok (.goto (-54), 3) := by decide +kernel
theorem dX12_leastApart_77 : decode cX12_leastApart 77 = .ok (.iload_n 3, 1) := by decide +kernel
theorem dX12_leastApart_78 : decode cX12_leastApart 78 = .ok (.ireturn, 1) := by decide +kernel
theorem dX12_manyApart_0 : decode cX12_manyApart 0 = .ok (.iload_n 1, 1) := by decide +kernel
theorem dX12_manyApart_1 : decode cX12_manyApart 1 = .ok (.ifCond .eq 11, 3) := by decide +kernel
theorem dX12_manyApart_4 : decode cX12_manyApart 4 = .ok (.iconst 0, 1) := by decide +kernel
theorem dX12_manyApart_5 : decode cX12_manyApart 5 = .ok (.iconst 0, 1) := by decide +kernel
theorem dX12_manyApart_6 : decode cX12_manyApart 6 = .ok (.invokestatic 112, 3) := by decide +kernel
theorem dX12_manyApart_9 : decode cX12_manyApart 9 = .ok (.goto 4, 3) := by decide +kernel
theorem dX12_manyApart_12 : decode cX12_manyApart 12 = .ok (.iconst 0, 1) := by decide +kernel
theorem dX12_manyApart_13 : decode cX12_manyApart 13 = .ok (.istore_n 3, 1) := by decide +kernel
theorem dX12_manyApart_14 : decode cX12_manyApart 14 = .ok (.iconst 0, 1) := by decide +kernel
theorem dX12_manyApart_15 : decode cX12_manyApart 15 = .ok (.istore 4, 2) := by decide +kernel
theorem dX12_manyApart_17 : decode cX12_manyApart 17 = .ok (.iconst 0, 1) := by decide +kernel
theorem dX12_manyApart_18 : decode cX12_manyApart 18 = .ok (.istore 5, 2) := by decide +kernel
theorem dX12_manyApart_20 : decode cX12_manyApart 20 = .ok (.iload 5, 2) := by decide +kernel
theorem dX12_manyApart_22 : decode cX12_manyApart 22 = .ok (.sipush 2048, 3) := by decide +kernel
theorem dX12_manyApart_25 : decode cX12_manyApart 25 = .ok (.if_icmp .ge 51, 3) := by decide +kernel
theorem dX12_manyApart_28 : decode cX12_manyApart 28 = .ok (.iload 5, 2) := by decide +kernel
theorem dX12_manyApart_30 : decode cX12_manyApart 30 = .ok (.iload_n 3, 1) := by decide +kernel
theorem dX12_manyApart_31 : decode cX12_manyApart 31 = .ok (.if_icmp .eq 39, 3) := by decide +kernel
theorem dX12_manyApart_34 : decode cX12_manyApart 34 = .ok (.iload_n 1, 1) := by decide +kernel
theorem dX12_manyApart_35 : decode cX12_manyApart 35 = .ok (.ifCond .eq 14, 3) := by decide +kernel
theorem dX12_manyApart_38 : decode cX12_manyApart 38 = .ok (.iload 5, 2) := by decide +kernel
theorem dX12_manyApart_40 : decode cX12_manyApart 40 = .ok (.invokestatic 116, 3) := by decide +kernel
theorem dX12_manyApart_43 : decode cX12_manyApart 43 = .ok (.ifCond .ne 6, 3) := by decide +kernel
theorem dX12_manyApart_46 : decode cX12_manyApart 46 = .ok (.goto 24, 3) := by decide +kernel
theorem dX12_manyApart_49 : decode cX12_manyApart 49 = .ok (.iload 4, 2) := by decide +kernel
theorem dX12_manyApart_51 : decode cX12_manyApart 51 = .ok (.aload_n 0, 1) := by decide +kernel
theorem dX12_manyApart_52 : decode cX12_manyApart 52 = .ok (.iload 5, 2) := by decide +kernel
theorem dX12_manyApart_54 : decode cX12_manyApart 54 = .ok (.iload_n 3, 1) := by decide +kernel
theorem dX12_manyApart_55 : decode cX12_manyApart 55 = .ok (.invokevirtual 120, 3) := by decide +kernel
theorem dX12_manyApart_58 : decode cX12_manyApart 58 = .ok (.iload_n 2, 1) := by decide +kernel
theorem dX12_manyApart_59 : decode cX12_manyApart 59 = .ok (.if_icmp .ne 7, 3) := by decide +kernel
theorem dX12_manyApart_62 : decode cX12_manyApart 62 = .ok (.iconst 1, 1) := by decide +kernel
theorem dX12_manyApart_63 : decode cX12_manyApart 63 = .ok (.goto 4, 3) := by decide +kernel
theorem dX12_manyApart_66 : decode cX12_manyApart 66 = .ok (.iconst 0, 1) := by decide +kernel
theorem dX12_manyApart_67 : decode cX12_manyApart 67 = .ok (.iadd, 1) := by decide +kernel
theorem dX12_manyApart_68 : decode cX12_manyApart 68 = .ok (.istore 4, 2) := by decide +kernel
theorem dX12_manyApart_70 : decode cX12_manyApart 70 = .ok (.iinc 5 1, 3) := by decide +kernel
theorem dX12_manyApart_73 : decode cX12_manyApart 73 = .ok (.goto (-53), 3) := by decide +kernel
theorem dX12_manyApart_76 : decode cX12_manyApart 76 = .ok (.iload 4, 2) := by decide +kernel
theorem dX12_manyApart_78 : decode cX12_manyApart 78 = .ok (.ireturn, 1) := by decide +kernel
theorem dX12_word_0 : decode cX12_word 0 = .ok (.aload_n 0, 1) := by decide +kernel
theorem dX12_word_1 : decode cX12_word 1 = .ok (.iconst 0, 1) := by decide +kernel
theorem dX12_word_2 : decode cX12_word 2 = .ok (.putfield 1, 3) := by decide +kernel
theorem dX12_word_5 : decode cX12_word 5 = .ok (.iload_n 1, 1) := by decide +kernel
theorem dX12_word_6 : decode cX12_word 6 = .ok (.i2l, 1) := by decide +kernel
theorem dX12_word_7 : decode cX12_word 7 = .ok (.lconst 0, 1) := by decide +kernel
theorem dX12_word_8 : decode cX12_word 8 = .ok (.ldc2_w 123, 3) := by decide +kernel
theorem dX12_word_11 : decode cX12_word 11 = .ok (.invokestatic 94, 3) := by decide +kernel
theorem dX12_word_14 : decode cX12_word 14 = .ok (.ifCond .eq 23, 3) := by decide +kernel
theorem dX12_word_17 : decode cX12_word 17 = .ok (.iload_n 2, 1) := by decide +kernel
theorem dX12_word_18 : decode cX12_word 18 = .ok (.i2l, 1) := by decide +kernel
theorem dX12_word_19 : decode cX12_word 19 = .ok (.lconst 0, 1) := by decide +kernel
theorem dX12_word_20 : decode cX12_word 20 = .ok (.ldc2_w 125, 3) := by decide +kernel
theorem dX12_word_23 : decode cX12_word 23 = .ok (.invokestatic 94, 3) := by decide +kernel
theorem dX12_word_26 : decode cX12_word 26 = .ok (.ifCond .eq 11, 3) := by decide +kernel
theorem dX12_word_29 : decode cX12_word 29 = .ok (.iload_n 1, 1) := by decide +kernel
theorem dX12_word_30 : decode cX12_word 30 = .ok (.iload_n 2, 1) := by decide +kernel
theorem dX12_word_31 : decode cX12_word 31 = .ok (.invokestatic 112, 3) := by decide +kernel
theorem dX12_word_34 : decode cX12_word 34 = .ok (.goto 5, 3) := by decide +kernel
theorem dX12_word_37 : decode cX12_word 37 = .ok (.bipush (-3), 2) := by decide +kernel
theorem dX12_word_39 : decode cX12_word 39 = .ok (.ireturn, 1) := by decide +kernel
theorem dX12_whole_0 : decode cX12_whole 0 = .ok (.aload_n 0, 1) := by decide +kernel
theorem dX12_whole_1 : decode cX12_whole 1 = .ok (.iconst 0, 1) := by decide +kernel
theorem dX12_whole_2 : decode cX12_whole 2 = .ok (.putfield 1, 3) := by decide +kernel
theorem dX12_whole_5 : decode cX12_whole 5 = .ok (.iload_n 1, 1) := by decide +kernel
theorem dX12_whole_6 : decode cX12_whole 6 = .ok (.invokestatic 127, 3) := by decide +kernel
theorem dX12_whole_9 : decode cX12_whole 9 = .ok (.ifCond .ne 8, 3) := by decide +kernel
theorem dX12_whole_12 : decode cX12_whole 12 = .ok (.bipush (-3), 2) := by decide +kernel
theorem dX12_whole_14 : decode cX12_whole 14 = .ok (.goto 15, 3) := by decide +kernel
theorem dX12_whole_17 : decode cX12_whole 17 = .ok (.iload_n 1, 1) := by decide +kernel
theorem dX12_whole_18 : decode cX12_whole 18 = .ok (.invokestatic 116, 3) := by decide +kernel
theorem dX12_whole_21 : decode cX12_whole 21 = .ok (.ifCond .eq 7, 3) := by decide +kernel
theorem dX12_whole_24 : decode cX12_whole 24 = .ok (.iconst 1, 1) := by decide +kernel
theorem dX12_whole_25 : decode cX12_whole 25 = .ok (.goto 4, 3) := by decide +kernel
theorem dX12_whole_28 : decode cX12_whole 28 = .ok (.iconst 0, 1) := by decide +kernel
theorem dX12_whole_29 : decode cX12_whole 29 = .ok (.ireturn, 1) := by decide +kernel
theorem dX12_bits_0 : decode cX12_bits 0 = .ok (.aload_n 0, 1) := by decide +kernel
theorem dX12_bits_1 : decode cX12_bits 1 = .ok (.iconst 0, 1) := by decide +kernel
theorem dX12_bits_2 : decode cX12_bits 2 = .ok (.putfield 1, 3) := by decide +kernel
theorem dX12_bits_5 : decode cX12_bits 5 = .ok (.iload_n 1, 1) := by decide +kernel
theorem dX12_bits_6 : decode cX12_bits 6 = .ok (.invokestatic 127, 3) := by decide +kernel
theorem dX12_bits_9 : decode cX12_bits 9 = .ok (.ifCond .eq 12, 3) := by decide +kernel
theorem dX12_bits_12 : decode cX12_bits 12 = .ok (.aload_n 0, 1) := by decide +kernel
theorem dX12_bits_13 : decode cX12_bits 13 = .ok (.getfield 24, 3) := by decide +kernel
theorem dX12_bits_16 : decode cX12_bits 16 = .ok (.iload_n 1, 1) := by decide +kernel
theorem dX12_bits_17 : decode cX12_bits 17 = .ok (.laload, 1) := by decide +kernel
theorem dX12_bits_18 : decode cX12_bits 18 = .ok (.goto 6, 3) := by decide +kernel
theorem dX12_bits_21 : decode cX12_bits 21 = .ok (.ldc2_w 130, 3) := by decide +kernel
theorem dX12_bits_24 : decode cX12_bits 24 = .ok (.lreturn, 1) := by decide +kernel
theorem dX12_place_0 : decode cX12_place 0 = .ok (.aload_n 0, 1) := by decide +kernel
theorem dX12_place_1 : decode cX12_place 1 = .ok (.iconst 0, 1) := by decide +kernel
theorem dX12_place_2 : decode cX12_place 2 = .ok (.putfield 1, 3) := by decide +kernel
theorem dX12_place_5 : decode cX12_place 5 = .ok (.iload_n 1, 1) := by decide +kernel
theorem dX12_place_6 : decode cX12_place 6 = .ok (.i2l, 1) := by decide +kernel
theorem dX12_place_7 : decode cX12_place 7 = .ok (.lconst 0, 1) := by decide +kernel
theorem dX12_place_8 : decode cX12_place 8 = .ok (.aload_n 0, 1) := by decide +kernel
theorem dX12_place_9 : decode cX12_place 9 = .ok (.getfield 13, 3) := by decide +kernel
theorem dX12_place_12 : decode cX12_place 12 = .ok (.iconst 4, 1) := by decide +kernel
theorem dX12_place_13 : decode cX12_place 13 = .ok (.iaload, 1) := by decide +kernel
theorem dX12_place_14 : decode cX12_place 14 = .ok (.iconst 1, 1) := by decide +kernel
theorem dX12_place_15 : decode cX12_place 15 = .ok (.isub, 1) := by decide +kernel
theorem dX12_place_16 : decode cX12_place 16 = .ok (.i2l, 1) := by decide +kernel
theorem dX12_place_17 : decode cX12_place 17 = .ok (.invokestatic 94, 3) := by decide +kernel
theorem dX12_place_20 : decode cX12_place 20 = .ok (.ifCond .eq 12, 3) := by decide +kernel
theorem dX12_place_23 : decode cX12_place 23 = .ok (.aload_n 0, 1) := by decide +kernel
theorem dX12_place_24 : decode cX12_place 24 = .ok (.getfield 28, 3) := by decide +kernel
theorem dX12_place_27 : decode cX12_place 27 = .ok (.iload_n 1, 1) := by decide +kernel
theorem dX12_place_28 : decode cX12_place 28 = .ok (.iaload, 1) := by decide +kernel
theorem dX12_place_29 : decode cX12_place 29 = .ok (.goto 5, 3) := by decide +kernel
theorem dX12_place_32 : decode cX12_place 32 = .ok (.bipush (-2), 2) := by decide +kernel
theorem dX12_place_34 : decode cX12_place 34 = .ok (.ireturn, 1) := by decide +kernel
theorem dX12_sent_0 : decode cX12_sent 0 = .ok (.aload_n 0, 1) := by decide +kernel
theorem dX12_sent_1 : decode cX12_sent 1 = .ok (.iconst 0, 1) := by decide +kernel
theorem dX12_sent_2 : decode cX12_sent 2 = .ok (.putfield 1, 3) := by decide +kernel
theorem dX12_sent_5 : decode cX12_sent 5 = .ok (.iload_n 1, 1) := by decide +kernel
theorem dX12_sent_6 : decode cX12_sent 6 = .ok (.i2l, 1) := by decide +kernel
theorem dX12_sent_7 : decode cX12_sent 7 = .ok (.lconst 0, 1) := by decide +kernel
theorem dX12_sent_8 : decode cX12_sent 8 = .ok (.ldc2_w 132, 3) := by decide +kernel
theorem dX12_sent_11 : decode cX12_sent 11 = .ok (.invokestatic 94, 3) := by decide +kernel
theorem dX12_sent_14 : decode cX12_sent 14 = .ok (.ifCond .ne 6, 3) := by decide +kernel
theorem dX12_sent_17 : decode cX12_sent 17 = .ok (.bipush (-2), 2) := by decide +kernel
theorem dX12_sent_19 : decode cX12_sent 19 = .ok (.ireturn, 1) := by decide +kernel
theorem dX12_sent_20 : decode cX12_sent 20 = .ok (.iload_n 2, 1) := by decide +kernel
theorem dX12_sent_21 : decode cX12_sent 21 = .ok (.invokestatic 134, 3) := by decide +kernel
theorem dX12_sent_24 : decode cX12_sent 24 = .ok (.ifCond .eq 7, 3) := by decide +kernel
theorem dX12_sent_27 : decode cX12_sent 27 = .ok (.iload_n 3, 1) := by decide +kernel
theorem dX12_sent_28 : decode cX12_sent 28 = .ok (.ifCond .ge 6, 3) := by decide +kernel
theorem dX12_sent_31 : decode cX12_sent 31 = .ok (.bipush (-3), 2) := by decide +kernel
theorem dX12_sent_33 : decode cX12_sent 33 = .ok (.ireturn, 1) := by decide +kernel
theorem dX12_sent_34 : decode cX12_sent 34 = .ok (.aload_n 0, 1) := by decide +kernel
theorem dX12_sent_35 : decode cX12_sent 35 = .ok (.iload_n 1, 1) := by decide +kernel
theorem dX12_sent_36 : decode cX12_sent 36 = .ok (.iload_n 2, 1) := by decide +kernel
theorem dX12_sent_37 : decode cX12_sent 37 = .ok (.invokevirtual 102, 3) := by decide +kernel
theorem dX12_sent_40 : decode cX12_sent 40 = .ok (.iload_n 3, 1) := by decide +kernel
theorem dX12_sent_41 : decode cX12_sent 41 = .ok (.iload_n 2, 1) := by decide +kernel
theorem dX12_sent_42 : decode cX12_sent 42 = .ok (.if_icmp .ge 12, 3) := by decide +kernel
theorem dX12_sent_45 : decode cX12_sent 45 = .ok (.aload_n 0, 1) := by decide +kernel
theorem dX12_sent_46 : decode cX12_sent 46 = .ok (.getfield 31, 3) := by decide +kernel
theorem dX12_sent_49 : decode cX12_sent 49 = .ok (.iload_n 3, 1) := by decide +kernel
theorem dX12_sent_50 : decode cX12_sent 50 = .ok (.iaload, 1) := by decide +kernel
theorem dX12_sent_51 : decode cX12_sent 51 = .ok (.goto 4, 3) := by decide +kernel
theorem dX12_sent_54 : decode cX12_sent 54 = .ok (.iconst (-1), 1) := by decide +kernel
theorem dX12_sent_55 : decode cX12_sent 55 = .ok (.ireturn, 1) := by decide +kernel
theorem dX12_covers_0 : decode cX12_covers 0 = .ok (.aload_n 0, 1) := by decide +kernel
theorem dX12_covers_1 : decode cX12_covers 1 = .ok (.iconst 0, 1) := by decide +kernel
theorem dX12_covers_2 : decode cX12_covers 2 = .ok (.putfield 1, 3) := by decide +kernel
theorem dX12_covers_5 : decode cX12_covers 5 = .ok (.iload_n 1, 1) := by decide +kernel
theorem dX12_covers_6 : decode cX12_covers 6 = .ok (.invokestatic 137, 3) := by decide +kernel
theorem dX12_covers_9 : decode cX12_covers 9 = .ok (.ifCond .eq 10, 3) := by decide +kernel
theorem dX12_covers_12 : decode cX12_covers 12 = .ok (.iload_n 2, 1) := by decide +kernel
theorem dX12_covers_13 : decode cX12_covers 13 = .ok (.invokestatic 134, 3) := by decide +kernel
theorem dX12_covers_16 : decode cX12_covers 16 = .ok (.ifCond .ne 6, 3) := by decide +kernel
theorem dX12_covers_19 : decode cX12_covers 19 = .ok (.bipush (-3), 2) := by decide +kernel
theorem dX12_covers_21 : decode cX12_covers 21 = .ok (.ireturn, 1) := by decide +kernel
theorem dX12_covers_22 : decode cX12_covers 22 = .ok (.aload_n 0, 1) := by decide +kernel
theorem dX12_covers_23 : decode cX12_covers 23 = .ok (.iload_n 1, 1) := by decide +kernel
theorem dX12_covers_24 : decode cX12_covers 24 = .ok (.iload_n 2, 1) := by decide +kernel
theorem dX12_covers_25 : decode cX12_covers 25 = .ok (.invokevirtual 140, 3) := by decide +kernel
theorem dX12_covers_28 : decode cX12_covers 28 = .ok (.iconst 0, 1) := by decide +kernel
theorem dX12_covers_29 : decode cX12_covers 29 = .ok (.istore_n 3, 1) := by decide +kernel
theorem dX12_covers_30 : decode cX12_covers 30 = .ok (.iconst 0, 1) := by decide +kernel
theorem dX12_covers_31 : decode cX12_covers 31 = .ok (.istore 4, 2) := by decide +kernel
theorem dX12_covers_33 : decode cX12_covers 33 = .ok (.iload 4, 2) := by decide +kernel
theorem dX12_covers_35 : decode cX12_covers 35 = .ok (.bipush 39, 2) := by decide +kernel
theorem dX12_covers_37 : decode cX12_covers 37 = .ok (.if_icmp .ge 27, 3) := by decide +kernel
theorem dX12_covers_40 : decode cX12_covers 40 = .ok (.iload_n 3, 1) := by decide +kernel
theorem dX12_covers_41 : decode cX12_covers 41 = .ok (.aload_n 0, 1) := by decide +kernel
theorem dX12_covers_42 : decode cX12_covers 42 = .ok (.getfield 34, 3) := by decide +kernel
theorem dX12_covers_45 : decode cX12_covers 45 = .ok (.iload 4, 2) := by decide +kernel
theorem dX12_covers_47 : decode cX12_covers 47 = .ok (.iaload, 1) := by decide +kernel
theorem dX12_covers_48 : decode cX12_covers 48 = .ok (.ifCond .le 7, 3) := by decide +kernel
theorem dX12_covers_51 : decode cX12_covers 51 = .ok (.iconst 1, 1) := by decide +kernel
theorem dX12_covers_52 : decode cX12_covers 52 = .ok (.goto 4, 3) := by decide +kernel
theorem dX12_covers_55 : decode cX12_covers 55 = .ok (.iconst 0, 1) := by decide +kernel
theorem dX12_covers_56 : decode cX12_covers 56 = .ok (.iadd, 1) := by decide +kernel
theorem dX12_covers_57 : decode cX12_covers 57 = .ok (.istore_n 3, 1) := by decide +kernel
theorem dX12_covers_58 : decode cX12_covers 58 = .ok (.iinc 4 1, 3) := by decide +kernel
theorem dX12_covers_61 : decode cX12_covers 61 = .ok (.goto (-28), 3) := by decide +kernel
theorem dX12_covers_64 : decode cX12_covers 64 = .ok (.iload_n 3, 1) := by decide +kernel
theorem dX12_covers_65 : decode cX12_covers 65 = .ok (.ireturn, 1) := by decide +kernel
theorem dX12_lacks_0 : decode cX12_lacks 0 = .ok (.aload_n 0, 1) := by decide +kernel
theorem dX12_lacks_1 : decode cX12_lacks 1 = .ok (.iconst 0, 1) := by decide +kernel
theorem dX12_lacks_2 : decode cX12_lacks 2 = .ok (.putfield 1, 3) := by decide +kernel
theorem dX12_lacks_5 : decode cX12_lacks 5 = .ok (.iload_n 1, 1) := by decide +kernel
theorem dX12_lacks_6 : decode cX12_lacks 6 = .ok (.invokestatic 137, 3) := by decide +kernel
theorem dX12_lacks_9 : decode cX12_lacks 9 = .ok (.ifCond .eq 10, 3) := by decide +kernel
theorem dX12_lacks_12 : decode cX12_lacks 12 = .ok (.iload_n 2, 1) := by decide +kernel
theorem dX12_lacks_13 : decode cX12_lacks 13 = .ok (.invokestatic 134, 3) := by decide +kernel
theorem dX12_lacks_16 : decode cX12_lacks 16 = .ok (.ifCond .ne 7, 3) := by decide +kernel
theorem dX12_lacks_19 : decode cX12_lacks 19 = .ok (.ldc2_w 130, 3) := by decide +kernel
theorem dX12_lacks_22 : decode cX12_lacks 22 = .ok (.lreturn, 1) := by decide +kernel
theorem dX12_lacks_23 : decode cX12_lacks 23 = .ok (.aload_n 0, 1) := by decide +kernel
theorem dX12_lacks_24 : decode cX12_lacks 24 = .ok (.iload_n 1, 1) := by decide +kernel
theorem dX12_lacks_25 : decode cX12_lacks 25 = .ok (.iload_n 2, 1) := by decide +kernel
theorem dX12_lacks_26 : decode cX12_lacks 26 = .ok (.invokevirtual 140, 3) := by decide +kernel
theorem dX12_lacks_29 : decode cX12_lacks 29 = .ok (.lconst 0, 1) := by decide +kernel
theorem dX12_lacks_30 : decode cX12_lacks 30 = .ok (.lstore_n 3, 1) := by decide +kernel
theorem dX12_lacks_31 : decode cX12_lacks 31 = .ok (.iconst 0, 1) := by decide +kernel
theorem dX12_lacks_32 : decode cX12_lacks 32 = .ok (.istore 5, 2) := by decide +kernel
theorem dX12_lacks_34 : decode cX12_lacks 34 = .ok (.iload 5, 2) := by decide +kernel
theorem dX12_lacks_36 : decode cX12_lacks 36 = .ok (.bipush 39, 2) := by decide +kernel
theorem dX12_lacks_38 : decode cX12_lacks 38 = .ok (.if_icmp .ge 30, 3) := by decide +kernel
theorem dX12_lacks_41 : decode cX12_lacks 41 = .ok (.lload_n 3, 1) := by decide +kernel
theorem dX12_lacks_42 : decode cX12_lacks 42 = .ok (.aload_n 0, 1) := by decide +kernel
theorem dX12_lacks_43 : decode cX12_lacks 43 = .ok (.getfield 34, 3) := by decide +kernel
theorem dX12_lacks_46 : decode cX12_lacks 46 = .ok (.iload 5, 2) := by decide +kernel
theorem dX12_lacks_48 : decode cX12_lacks 48 = .ok (.iaload, 1) := by decide +kernel
theorem dX12_lacks_49 : decode cX12_lacks 49 = .ok (.ifCond .ne 10, 3) := by decide +kernel
theorem dX12_lacks_52 : decode cX12_lacks 52 = .ok (.lconst 1, 1) := by decide +kernel
theorem dX12_lacks_53 : decode cX12_lacks 53 = .ok (.iload 5, 2) := by decide +kernel
theorem dX12_lacks_55 : decode cX12_lacks 55 = .ok (.lshl, 1) := by decide +kernel
theorem dX12_lacks_56 : decode cX12_lacks 56 = .ok (.goto 4, 3) := by decide +kernel
theorem dX12_lacks_59 : decode cX12_lacks 59 = .ok (.lconst 0, 1) := by decide +kernel
theorem dX12_lacks_60 : decode cX12_lacks 60 = .ok (.lor, 1) := by decide +kernel
theorem dX12_lacks_61 : decode cX12_lacks 61 = .ok (.lstore_n 3, 1) := by decide +kernel
theorem dX12_lacks_62 : decode cX12_lacks 62 = .ok (.iinc 5 1, 3) := by decide +kernel
theorem dX12_lacks_65 : decode cX12_lacks 65 = .ok (.goto (-31), 3) := by decide +kernel
theorem dX12_lacks_68 : decode cX12_lacks 68 = .ok (.lload_n 3, 1) := by decide +kernel
theorem dX12_lacks_69 : decode cX12_lacks 69 = .ok (.lreturn, 1) := by decide +kernel
theorem dX12_between_0 : decode cX12_between 0 = .ok (.aload_n 0, 1) := by decide +kernel
theorem dX12_between_1 : decode cX12_between 1 = .ok (.iconst 0, 1) := by decide +kernel
theorem dX12_between_2 : decode cX12_between 2 = .ok (.putfield 1, 3) := by decide +kernel
theorem dX12_between_5 : decode cX12_between 5 = .ok (.iload_n 1, 1) := by decide +kernel
theorem dX12_between_6 : decode cX12_between 6 = .ok (.invokestatic 127, 3) := by decide +kernel
theorem dX12_between_9 : decode cX12_between 9 = .ok (.ifCond .eq 25, 3) := by decide +kernel
theorem dX12_between_12 : decode cX12_between 12 = .ok (.iload_n 2, 1) := by decide +kernel
theorem dX12_between_13 : decode cX12_between 13 = .ok (.invokestatic 127, 3) := by decide +kernel
theorem dX12_between_16 : decode cX12_between 16 = .ok (.ifCond .eq 18, 3) := by decide +kernel
theorem dX12_between_19 : decode cX12_between 19 = .ok (.iload_n 3, 1) := by decide +kernel
theorem dX12_between_20 : decode cX12_between 20 = .ok (.invokestatic 137, 3) := by decide +kernel
theorem dX12_between_23 : decode cX12_between 23 = .ok (.ifCond .eq 11, 3) := by decide +kernel
theorem dX12_between_26 : decode cX12_between 26 = .ok (.iload 4, 2) := by decide +kernel
theorem dX12_between_28 : decode cX12_between 28 = .ok (.invokestatic 134, 3) := by decide +kernel
theorem dX12_between_31 : decode cX12_between 31 = .ok (.ifCond .ne 6, 3) := by decide +kernel
theorem dX12_between_34 : decode cX12_between 34 = .ok (.bipush (-3), 2) := by decide +kernel
theorem dX12_between_36 : decode cX12_between 36 = .ok (.ireturn, 1) := by decide +kernel
theorem dX12_between_37 : decode cX12_between 37 = .ok (.aload_n 0, 1) := by decide +kernel
theorem dX12_between_38 : decode cX12_between 38 = .ok (.iload_n 3, 1) := by decide +kernel
theorem dX12_between_39 : decode cX12_between 39 = .ok (.iload 4, 2) := by decide +kernel
theorem dX12_between_41 : decode cX12_between 41 = .ok (.invokevirtual 140, 3) := by decide +kernel
theorem dX12_between_44 : decode cX12_between 44 = .ok (.aload_n 0, 1) := by decide +kernel
theorem dX12_between_45 : decode cX12_between 45 = .ok (.iload_n 1, 1) := by decide +kernel
theorem dX12_between_46 : decode cX12_between 46 = .ok (.iload_n 2, 1) := by decide +kernel
theorem dX12_between_47 : decode cX12_between 47 = .ok (.invokevirtual 120, 3) := by decide +kernel
theorem dX12_between_50 : decode cX12_between 50 = .ok (.ireturn, 1) := by decide +kernel
theorem dX12_distance_0 : decode cX12_distance 0 = .ok (.aload_n 0, 1) := by decide +kernel
theorem dX12_distance_1 : decode cX12_distance 1 = .ok (.iconst 0, 1) := by decide +kernel
theorem dX12_distance_2 : decode cX12_distance 2 = .ok (.putfield 1, 3) := by decide +kernel
theorem dX12_distance_5 : decode cX12_distance 5 = .ok (.iload_n 3, 1) := by decide +kernel
theorem dX12_distance_6 : decode cX12_distance 6 = .ok (.i2l, 1) := by decide +kernel
theorem dX12_distance_7 : decode cX12_distance 7 = .ok (.lconst 0, 1) := by decide +kernel
theorem dX12_distance_8 : decode cX12_distance 8 = .ok (.ldc2_w 132, 3) := by decide +kernel
theorem dX12_distance_11 : decode cX12_distance 11 = .ok (.invokestatic 94, 3) := by decide +kernel
theorem dX12_distance_14 : decode cX12_distance 14 = .ok (.ifCond .ne 6, 3) := by decide +kernel
theorem dX12_distance_17 : decode cX12_distance 17 = .ok (.bipush (-2), 2) := by decide +kernel
theorem dX12_distance_19 : decode cX12_distance 19 = .ok (.ireturn, 1) := by decide +kernel
theorem dX12_distance_20 : decode cX12_distance 20 = .ok (.iload_n 1, 1) := by decide +kernel
theorem dX12_distance_21 : decode cX12_distance 21 = .ok (.invokestatic 137, 3) := by decide +kernel
theorem dX12_distance_24 : decode cX12_distance 24 = .ok (.ifCond .eq 10, 3) := by decide +kernel
theorem dX12_distance_27 : decode cX12_distance 27 = .ok (.iload_n 2, 1) := by decide +kernel
theorem dX12_distance_28 : decode cX12_distance 28 = .ok (.invokestatic 134, 3) := by decide +kernel
theorem dX12_distance_31 : decode cX12_distance 31 = .ok (.ifCond .ne 6, 3) := by decide +kernel
theorem dX12_distance_34 : decode cX12_distance 34 = .ok (.bipush (-3), 2) := by decide +kernel
theorem dX12_distance_36 : decode cX12_distance 36 = .ok (.ireturn, 1) := by decide +kernel
theorem dX12_distance_37 : decode cX12_distance 37 = .ok (.aload_n 0, 1) := by decide +kernel
theorem dX12_distance_38 : decode cX12_distance 38 = .ok (.iload_n 1, 1) := by decide +kernel
theorem dX12_distance_39 : decode cX12_distance 39 = .ok (.iload_n 2, 1) := by decide +kernel
theorem dX12_distance_40 : decode cX12_distance 40 = .ok (.invokevirtual 140, 3) := by decide +kernel
theorem dX12_distance_43 : decode cX12_distance 43 = .ok (.iload_n 3, 1) := by decide +kernel
theorem dX12_distance_44 : decode cX12_distance 44 = .ok (.iconst 2, 1) := by decide +kernel
theorem dX12_distance_45 : decode cX12_distance 45 = .ok (.irem, 1) := by decide +kernel
theorem dX12_distance_46 : decode cX12_distance 46 = .ok (.iconst 1, 1) := by decide +kernel
theorem dX12_distance_47 : decode cX12_distance 47 = .ok (.if_icmp .ne 7, 3) := by decide +kernel
theorem dX12_distance_50 : decode cX12_distance 50 = .ok (.iconst 1, 1) := by decide +kernel
theorem dX12_distance_51 : decode cX12_distance 51 = .ok (.goto 4, 3) := by decide +kernel
theorem dX12_distance_54 : decode cX12_distance 54 = .ok (.iconst 0, 1) := by decide +kernel
theorem dX12_distance_55 : decode cX12_distance 55 = .ok (.istore 4, 2) := by decide +kernel
theorem dX12_distance_57 : decode cX12_distance 57 = .ok (.aload_n 0, 1) := by decide +kernel
theorem dX12_distance_58 : decode cX12_distance 58 = .ok (.iload 4, 2) := by decide +kernel
theorem dX12_distance_60 : decode cX12_distance 60 = .ok (.invokevirtual 143, 3) := by decide +kernel
theorem dX12_distance_63 : decode cX12_distance 63 = .ok (.istore 5, 2) := by decide +kernel
theorem dX12_distance_65 : decode cX12_distance 65 = .ok (.iload_n 3, 1) := by decide +kernel
theorem dX12_distance_66 : decode cX12_distance 66 = .ok (.iconst 2, 1) := by decide +kernel
theorem dX12_distance_67 : decode cX12_distance 67 = .ok (.if_icmp .ge 8, 3) := by decide +kernel
theorem dX12_distance_70 : decode cX12_distance 70 = .ok (.iload 5, 2) := by decide +kernel
theorem dX12_distance_72 : decode cX12_distance 72 = .ok (.goto 11, 3) := by decide +kernel
theorem dX12_distance_75 : decode cX12_distance 75 = .ok (.aload_n 0, 1) := by decide +kernel
theorem dX12_distance_76 : decode cX12_distance 76 = .ok (.iload 4, 2) := by decide +kernel
theorem dX12_distance_78 : decode cX12_distance 78 = .ok (.iload 5, 2) := by decide +kernel
theorem dX12_distance_80 : decode cX12_distance 80 = .ok (.invokevirtual 147, 3) := by decide +kernel
theorem dX12_distance_83 : decode cX12_distance 83 = .ok (.ireturn, 1) := by decide +kernel
theorem dX12_shortest_0 : decode cX12_shortest 0 = .ok (.aload_n 0, 1) := by decide +kernel
theorem dX12_shortest_1 : decode cX12_shortest 1 = .ok (.iconst 0, 1) := by decide +kernel
theorem dX12_shortest_2 : decode cX12_shortest 2 = .ok (.putfield 1, 3) := by decide +kernel
theorem dX12_shortest_5 : decode cX12_shortest 5 = .ok (.iload_n 1, 1) := by decide +kernel
theorem dX12_shortest_6 : decode cX12_shortest 6 = .ok (.invokestatic 137, 3) := by decide +kernel
theorem dX12_shortest_9 : decode cX12_shortest 9 = .ok (.ifCond .eq 15, 3) := by decide +kernel
theorem dX12_shortest_12 : decode cX12_shortest 12 = .ok (.iload_n 2, 1) := by decide +kernel
theorem dX12_shortest_13 : decode cX12_shortest 13 = .ok (.i2l, 1) := by decide +kernel
theorem dX12_shortest_14 : decode cX12_shortest 14 = .ok (.lconst 1, 1) := by decide +kernel
theorem dX12_shortest_15 : decode cX12_shortest 15 = .ok (.ldc2_w 98, 3) := by decide +kernel
theorem dX12_shortest_18 : decode cX12_shortest 18 = .ok (.invokestatic 94, 3) := by decide +kernel
theorem dX12_shortest_21 : decode cX12_shortest 21 = .ok (.ifCond .ne 6, 3) := by decide +kernel
theorem dX12_shortest_24 : decode cX12_shortest 24 = .ok (.bipush (-3), 2) := by decide +kernel
theorem dX12_shortest_26 : decode cX12_shortest 26 = .ok (.ireturn, 1) := by decide +kernel
theorem dX12_shortest_27 : decode cX12_shortest 27 = .ok (.iconst 1, 1) := by decide +kernel
theorem dX12_shortest_28 : decode cX12_shortest 28 = .ok (.istore_n 3, 1) := by decide +kernel
theorem dX12_shortest_29 : decode cX12_shortest 29 = .ok (.iload_n 3, 1) := by decide +kernel
theorem dX12_shortest_30 : decode cX12_shortest 30 = .ok (.bipush 60, 2) := by decide +kernel
theorem dX12_shortest_32 : decode cX12_shortest 32 = .ok (.if_icmp .gt 26, 3) := by decide +kernel
theorem dX12_shortest_35 : decode cX12_shortest 35 = .ok (.aload_n 0, 1) := by decide +kernel
theorem dX12_shortest_36 : decode cX12_shortest 36 = .ok (.iload_n 1, 1) := by decide +kernel
theorem dX12_shortest_37 : decode cX12_shortest 37 = .ok (.iload_n 3, 1) := by decide +kernel
theorem dX12_shortest_38 : decode cX12_shortest 38 = .ok (.invokevirtual 140, 3) := by decide +kernel
theorem dX12_shortest_41 : decode cX12_shortest 41 = .ok (.aload_n 0, 1) := by decide +kernel
theorem dX12_shortest_42 : decode cX12_shortest 42 = .ok (.iconst 1, 1) := by decide +kernel
theorem dX12_shortest_43 : decode cX12_shortest 43 = .ok (.invokevirtual 143, 3) := by decide +kernel
theorem dX12_shortest_46 : decode cX12_shortest 46 = .ok (.iload_n 2, 1) := by decide +kernel
theorem dX12_shortest_47 : decode cX12_shortest 47 = .ok (.if_icmp .lt 5, 3) := by decide +kernel
theorem dX12_shortest_50 : decode cX12_shortest 50 = .ok (.iload_n 3, 1) := by decide +kernel
theorem dX12_shortest_51 : decode cX12_shortest 51 = .ok (.ireturn, 1) := by decide +kernel
theorem dX12_shortest_52 : decode cX12_shortest 52 = .ok (.iinc 3 1, 3) := by decide +kernel
theorem dX12_shortest_55 : decode cX12_shortest 55 = .ok (.goto (-26), 3) := by decide +kernel
theorem dX12_shortest_58 : decode cX12_shortest 58 = .ok (.iconst (-1), 1) := by decide +kernel
theorem dX12_shortest_59 : decode cX12_shortest 59 = .ok (.ireturn, 1) := by decide +kernel
theorem dX12_manyOf_0 : decode cX12_manyOf 0 = .ok (.iconst 0, 1) := by decide +kernel
theorem dX12_manyOf_1 : decode cX12_manyOf 1 = .ok (.istore_n 1, 1) := by decide +kernel
theorem dX12_manyOf_2 : decode cX12_manyOf 2 = .ok (.iconst 0, 1) := by decide +kernel
theorem dX12_manyOf_3 : decode cX12_manyOf 3 = .ok (.istore_n 2, 1) := by decide +kernel
theorem dX12_manyOf_4 : decode cX12_manyOf 4 = .ok (.iload_n 2, 1) := by decide +kernel
theorem dX12_manyOf_5 : decode cX12_manyOf 5 = .ok (.iconst 4, 1) := by decide +kernel
theorem dX12_manyOf_6 : decode cX12_manyOf 6 = .ok (.if_icmp .ge 17, 3) := by decide +kernel
theorem dX12_manyOf_9 : decode cX12_manyOf 9 = .ok (.iload_n 1, 1) := by decide +kernel
theorem dX12_manyOf_10 : decode cX12_manyOf 10 = .ok (.iload_n 0, 1) := by decide +kernel
theorem dX12_manyOf_11 : decode cX12_manyOf 11 = .ok (.iload_n 2, 1) := by decide +kernel
theorem dX12_manyOf_12 : decode cX12_manyOf 12 = .ok (.ishr, 1) := by decide +kernel
theorem dX12_manyOf_13 : decode cX12_manyOf 13 = .ok (.iconst 1, 1) := by decide +kernel
theorem dX12_manyOf_14 : decode cX12_manyOf 14 = .ok (.iand, 1) := by decide +kernel
theorem dX12_manyOf_15 : decode cX12_manyOf 15 = .ok (.iadd, 1) := by decide +kernel
theorem dX12_manyOf_16 : decode cX12_manyOf 16 = .ok (.istore_n 1, 1) := by decide +kernel
theorem dX12_manyOf_17 : decode cX12_manyOf 17 = .ok (.iinc 2 1, 3) := by decide +kernel
theorem dX12_manyOf_20 : decode cX12_manyOf 20 = .ok (.goto (-16), 3) := by decide +kernel
theorem dX12_manyOf_23 : decode cX12_manyOf 23 = .ok (.iload_n 1, 1) := by decide +kernel
theorem dX12_manyOf_24 : decode cX12_manyOf 24 = .ok (.ireturn, 1) := by decide +kernel
theorem dX12_versions_0 : decode cX12_versions 0 = .ok (.aload_n 0, 1) := by decide +kernel
theorem dX12_versions_1 : decode cX12_versions 1 = .ok (.iconst 0, 1) := by decide +kernel
theorem dX12_versions_2 : decode cX12_versions 2 = .ok (.putfield 1, 3) := by decide +kernel
theorem dX12_versions_5 : decode cX12_versions 5 = .ok (.iload_n 1, 1) := by decide +kernel
theorem dX12_versions_6 : decode cX12_versions 6 = .ok (.invokestatic 134, 3) := by decide +kernel
theorem dX12_versions_9 : decode cX12_versions 9 = .ok (.ifCond .eq 15, 3) := by decide +kernel
theorem dX12_versions_12 : decode cX12_versions 12 = .ok (.iload_n 2, 1) := by decide +kernel
theorem dX12_versions_13 : decode cX12_versions 13 = .ok (.i2l, 1) := by decide +kernel
theorem dX12_versions_14 : decode cX12_versions 14 = .ok (.lconst 1, 1) := by decide +kernel
theorem dX12_versions_15 : decode cX12_versions 15 = .ok (.ldc2_w 98, 3) := by decide +kernel
theorem dX12_versions_18 : decode cX12_versions 18 = .ok (.invokestatic 94, 3) := by decide +kernel
theorem dX12_versions_21 : decode cX12_versions 21 = .ok (.ifCond .ne 6, 3) := by decide +kernel
theorem dX12_versions_24 : decode cX12_versions 24 = .ok (.bipush (-3), 2) := by decide +kernel
theorem dX12_versions_26 : decode cX12_versions 26 = .ok (.ireturn, 1) := by decide +kernel
theorem dX12_versions_27 : decode cX12_versions 27 = .ok (.iconst (-1), 1) := by decide +kernel
theorem dX12_versions_28 : decode cX12_versions 28 = .ok (.istore_n 3, 1) := by decide +kernel
theorem dX12_versions_29 : decode cX12_versions 29 = .ok (.iconst 1, 1) := by decide +kernel
theorem dX12_versions_30 : decode cX12_versions 30 = .ok (.istore 4, 2) := by decide +kernel
theorem dX12_versions_32 : decode cX12_versions 32 = .ok (.iload 4, 2) := by decide +kernel
theorem dX12_versions_34 : decode cX12_versions 34 = .ok (.bipush 16, 2) := by decide +kernel
theorem dX12_versions_36 : decode cX12_versions 36 = .ok (.if_icmp .ge 52, 3) := by decide +kernel
theorem dX12_versions_39 : decode cX12_versions 39 = .ok (.iload_n 3, 1) := by decide +kernel
theorem dX12_versions_40 : decode cX12_versions 40 = .ok (.iconst (-1), 1) := by decide +kernel
theorem dX12_versions_41 : decode cX12_versions 41 = .ok (.if_icmp .eq 18, 3) := by decide +kernel
theorem dX12_versions_44 : decode cX12_versions 44 = .ok (.iload 4, 2) := by decide +kernel
theorem dX12_versions_46 : decode cX12_versions 46 = .ok (.invokestatic 151, 3) := by decide +kernel
theorem dX12_versions_49 : decode cX12_versions 49 = .ok (.iload_n 3, 1) := by decide +kernel
theorem dX12_versions_50 : decode cX12_versions 50 = .ok (.invokestatic 151, 3) := by decide +kernel
theorem dX12_versions_53 : decode cX12_versions 53 = .ok (.if_icmp .lt 6, 3) := by decide +kernel
theorem dX12_versions_56 : decode cX12_versions 56 = .ok (.goto 26, 3) := by decide +kernel
theorem dX12_versions_59 : decode cX12_versions 59 = .ok (.aload_n 0, 1) := by decide +kernel
theorem dX12_versions_60 : decode cX12_versions 60 = .ok (.iload 4, 2) := by decide +kernel
theorem dX12_versions_62 : decode cX12_versions 62 = .ok (.iload_n 1, 1) := by decide +kernel
theorem dX12_versions_63 : decode cX12_versions 63 = .ok (.invokevirtual 140, 3) := by decide +kernel
theorem dX12_versions_66 : decode cX12_versions 66 = .ok (.aload_n 0, 1) := by decide +kernel
theorem dX12_versions_67 : decode cX12_versions 67 = .ok (.iconst 1, 1) := by decide +kernel
theorem dX12_versions_68 : decode cX12_versions 68 = .ok (.invokevirtual 143, 3) := by decide +kernel
theorem dX12_versions_71 : decode cX12_versions 71 = .ok (.iload_n 2, 1) := by decide +kernel
theorem dX12_versions_72 : decode cX12_versions 72 = .ok (.if_icmp .lt 8, 3) := by decide +kernel
theorem dX12_versions_75 : decode cX12_versions 75 = .ok (.iload 4, 2) := by decide +kernel
theorem dX12_versions_77 : decode cX12_versions 77 = .ok (.goto 4, 3) := by decide +kernel
theorem dX12_versions_80 : decode cX12_versions 80 = .ok (.iload_n 3, 1) := by decide +kernel
theorem dX12_versions_81 : decode cX12_versions 81 = .ok (.istore_n 3, 1) := by decide +kernel
theorem dX12_versions_82 : decode cX12_versions 82 = .ok (.iinc 4 1, 3) := by decide +kernel
theorem dX12_versions_85 : decode cX12_versions 85 = .ok (.goto (-53), 3) := by decide +kernel
theorem dX12_versions_88 : decode cX12_versions 88 = .ok (.iload_n 3, 1) := by decide +kernel
theorem dX12_versions_89 : decode cX12_versions 89 = .ok (.ireturn, 1) := by decide +kernel
theorem dX12_signed_0 : decode cX12_signed 0 = .ok (.iload_n 0, 1) := by decide +kernel
theorem dX12_signed_1 : decode cX12_signed 1 = .ok (.iconst 1, 1) := by decide +kernel
theorem dX12_signed_2 : decode cX12_signed 2 = .ok (.if_icmp .ne 7, 3) := by decide +kernel
theorem dX12_signed_5 : decode cX12_signed 5 = .ok (.iload_n 1, 1) := by decide +kernel
theorem dX12_signed_6 : decode cX12_signed 6 = .ok (.goto 5, 3) := by decide +kernel
theorem dX12_signed_9 : decode cX12_signed 9 = .ok (.iload_n 1, 1) := by decide +kernel
theorem dX12_signed_10 : decode cX12_signed 10 = .ok (.ineg, 1) := by decide +kernel
theorem dX12_signed_11 : decode cX12_signed 11 = .ok (.ireturn, 1) := by decide +kernel
theorem dX12_stepsBit_0 : decode cX12_stepsBit 0 = .ok (.iload_n 2, 1) := by decide +kernel
theorem dX12_stepsBit_1 : decode cX12_stepsBit 1 = .ok (.iconst 2, 1) := by decide +kernel
theorem dX12_stepsBit_2 : decode cX12_stepsBit 2 = .ok (.idiv, 1) := by decide +kernel
theorem dX12_stepsBit_3 : decode cX12_stepsBit 3 = .ok (.istore 4, 2) := by decide +kernel
theorem dX12_stepsBit_5 : decode cX12_stepsBit 5 = .ok (.iload_n 2, 1) := by decide +kernel
theorem dX12_stepsBit_6 : decode cX12_stepsBit 6 = .ok (.iconst 2, 1) := by decide +kernel
theorem dX12_stepsBit_7 : decode cX12_stepsBit 7 = .ok (.irem, 1) := by decide +kernel
theorem dX12_stepsBit_8 : decode cX12_stepsBit 8 = .ok (.istore 5, 2) := by decide +kernel
theorem dX12_stepsBit_10 : decode cX12_stepsBit 10 = .ok (.aload_n 0, 1) := by decide +kernel
theorem dX12_stepsBit_11 : decode cX12_stepsBit 11 = .ok (.getfield 40, 3) := by decide +kernel
theorem dX12_stepsBit_14 : decode cX12_stepsBit 14 = .ok (.iload_n 2, 1) := by decide +kernel
theorem dX12_stepsBit_15 : decode cX12_stepsBit 15 = .ok (.iaload, 1) := by decide +kernel
theorem dX12_stepsBit_16 : decode cX12_stepsBit 16 = .ok (.iload_n 3, 1) := by decide +kernel
theorem dX12_stepsBit_17 : decode cX12_stepsBit 17 = .ok (.aload_n 0, 1) := by decide +kernel
theorem dX12_stepsBit_18 : decode cX12_stepsBit 18 = .ok (.getfield 37, 3) := by decide +kernel
theorem dX12_stepsBit_21 : decode cX12_stepsBit 21 = .ok (.iload_n 1, 1) := by decide +kernel
theorem dX12_stepsBit_22 : decode cX12_stepsBit 22 = .ok (.iaload, 1) := by decide +kernel
theorem dX12_stepsBit_23 : decode cX12_stepsBit 23 = .ok (.invokestatic 154, 3) := by decide +kernel
theorem dX12_stepsBit_26 : decode cX12_stepsBit 26 = .ok (.iadd, 1) := by decide +kernel
theorem dX12_stepsBit_27 : decode cX12_stepsBit 27 = .ok (.iload_n 3, 1) := by decide +kernel
theorem dX12_stepsBit_28 : decode cX12_stepsBit 28 = .ok (.iload 4, 2) := by decide +kernel
theorem dX12_stepsBit_30 : decode cX12_stepsBit 30 = .ok (.ixor, 1) := by decide +kernel
theorem dX12_stepsBit_31 : decode cX12_stepsBit 31 = .ok (.iload 5, 2) := by decide +kernel
theorem dX12_stepsBit_33 : decode cX12_stepsBit 33 = .ok (.ixor, 1) := by decide +kernel
theorem dX12_stepsBit_34 : decode cX12_stepsBit 34 = .ok (.aload_n 0, 1) := by decide +kernel
theorem dX12_stepsBit_35 : decode cX12_stepsBit 35 = .ok (.getfield 37, 3) := by decide +kernel
theorem dX12_stepsBit_38 : decode cX12_stepsBit 38 = .ok (.bipush 13, 2) := by decide +kernel
theorem dX12_stepsBit_40 : decode cX12_stepsBit 40 = .ok (.iload_n 1, 1) := by decide +kernel
theorem dX12_stepsBit_41 : decode cX12_stepsBit 41 = .ok (.iadd, 1) := by decide +kernel
theorem dX12_stepsBit_42 : decode cX12_stepsBit 42 = .ok (.iaload, 1) := by decide +kernel
theorem dX12_stepsBit_43 : decode cX12_stepsBit 43 = .ok (.invokestatic 154, 3) := by decide +kernel
theorem dX12_stepsBit_46 : decode cX12_stepsBit 46 = .ok (.iadd, 1) := by decide +kernel
theorem dX12_stepsBit_47 : decode cX12_stepsBit 47 = .ok (.iload_n 3, 1) := by decide +kernel
theorem dX12_stepsBit_48 : decode cX12_stepsBit 48 = .ok (.iload 5, 2) := by decide +kernel
theorem dX12_stepsBit_50 : decode cX12_stepsBit 50 = .ok (.ixor, 1) := by decide +kernel
theorem dX12_stepsBit_51 : decode cX12_stepsBit 51 = .ok (.aload_n 0, 1) := by decide +kernel
theorem dX12_stepsBit_52 : decode cX12_stepsBit 52 = .ok (.getfield 37, 3) := by decide +kernel
theorem dX12_stepsBit_55 : decode cX12_stepsBit 55 = .ok (.bipush 26, 2) := by decide +kernel
theorem dX12_stepsBit_57 : decode cX12_stepsBit 57 = .ok (.iload_n 1, 1) := by decide +kernel
theorem dX12_stepsBit_58 : decode cX12_stepsBit 58 = .ok (.iadd, 1) := by decide +kernel
theorem dX12_stepsBit_59 : decode cX12_stepsBit 59 = .ok (.iaload, 1) := by decide +kernel
theorem dX12_stepsBit_60 : decode cX12_stepsBit 60 = .ok (.invokestatic 154, 3) := by decide +kernel
theorem dX12_stepsBit_63 : decode cX12_stepsBit 63 = .ok (.iadd, 1) := by decide +kernel
theorem dX12_stepsBit_64 : decode cX12_stepsBit 64 = .ok (.istore 6, 2) := by decide +kernel
theorem dX12_stepsBit_66 : decode cX12_stepsBit 66 = .ok (.iload_n 1, 1) := by decide +kernel
theorem dX12_stepsBit_67 : decode cX12_stepsBit 67 = .ok (.bipush 11, 2) := by decide +kernel
theorem dX12_stepsBit_69 : decode cX12_stepsBit 69 = .ok (.if_icmp .ge 16, 3) := by decide +kernel
theorem dX12_stepsBit_72 : decode cX12_stepsBit 72 = .ok (.iconst 2, 1) := by decide +kernel
theorem dX12_stepsBit_73 : decode cX12_stepsBit 73 = .ok (.aload_n 0, 1) := by decide +kernel
theorem dX12_stepsBit_74 : decode cX12_stepsBit 74 = .ok (.getfield 43, 3) := by decide +kernel
theorem dX12_stepsBit_77 : decode cX12_stepsBit 77 = .ok (.iload_n 2, 1) := by decide +kernel
theorem dX12_stepsBit_78 : decode cX12_stepsBit 78 = .ok (.iaload, 1) := by decide +kernel
theorem dX12_stepsBit_79 : decode cX12_stepsBit 79 = .ok (.imul, 1) := by decide +kernel
theorem dX12_stepsBit_80 : decode cX12_stepsBit 80 = .ok (.iload_n 3, 1) := by decide +kernel
theorem dX12_stepsBit_81 : decode cX12_stepsBit 81 = .ok (.iadd, 1) := by decide +kernel
theorem dX12_stepsBit_82 : decode cX12_stepsBit 82 = .ok (.goto 9, 3) := by decide +kernel
theorem dX12_stepsBit_85 : decode cX12_stepsBit 85 = .ok (.aload_n 0, 1) := by decide +kernel
theorem dX12_stepsBit_86 : decode cX12_stepsBit 86 = .ok (.getfield 43, 3) := by decide +kernel
theorem dX12_stepsBit_89 : decode cX12_stepsBit 89 = .ok (.iload_n 2, 1) := by decide +kernel
theorem dX12_stepsBit_90 : decode cX12_stepsBit 90 = .ok (.iaload, 1) := by decide +kernel
theorem dX12_stepsBit_91 : decode cX12_stepsBit 91 = .ok (.istore 7, 2) := by decide +kernel
theorem dX12_stepsBit_93 : decode cX12_stepsBit 93 = .ok (.iconst 2, 1) := by decide +kernel
theorem dX12_stepsBit_94 : decode cX12_stepsBit 94 = .ok (.iload_n 3, 1) := by decide +kernel
theorem dX12_stepsBit_95 : decode cX12_stepsBit 95 = .ok (.imul, 1) := by decide +kernel
theorem dX12_stepsBit_96 : decode cX12_stepsBit 96 = .ok (.iload 4, 2) := by decide +kernel
theorem dX12_stepsBit_98 : decode cX12_stepsBit 98 = .ok (.iadd, 1) := by decide +kernel
theorem dX12_stepsBit_99 : decode cX12_stepsBit 99 = .ok (.istore 8, 2) := by decide +kernel
theorem dX12_stepsBit_101 : decode cX12_stepsBit 101 = .ok (.iload 6, 2) := by decide +kernel
theorem dX12_stepsBit_103 : decode cX12_stepsBit 103 = .ok (.aload_n 0, 1) := by decide +kernel
theorem dX12_stepsBit_104 : decode cX12_stepsBit 104 = .ok (.getfield 46, 3) := by decide +kernel
theorem dX12_stepsBit_107 : decode cX12_stepsBit 107 = .ok (.iload 8, 2) := by decide +kernel
theorem dX12_stepsBit_109 : decode cX12_stepsBit 109 = .ok (.iaload, 1) := by decide +kernel
theorem dX12_stepsBit_110 : decode cX12_stepsBit 110 = .ok (.if_icmp .lt 27, 3) := by decide +kernel
theorem dX12_stepsBit_113 : decode cX12_stepsBit 113 = .ok (.iload 6, 2) := by decide +kernel
theorem dX12_stepsBit_115 : decode cX12_stepsBit 115 = .ok (.aload_n 0, 1) := by decide +kernel
theorem dX12_stepsBit_116 : decode cX12_stepsBit 116 = .ok (.getfield 46, 3) := by decide +kernel
theorem dX12_stepsBit_119 : decode cX12_stepsBit 119 = .ok (.iload 8, 2) := by decide +kernel
theorem dX12_stepsBit_121 : decode cX12_stepsBit 121 = .ok (.iaload, 1) := by decide +kernel
theorem dX12_stepsBit_122 : decode cX12_stepsBit 122 = .ok (.if_icmp .ne 16, 3) := by decide +kernel
theorem dX12_stepsBit_125 : decode cX12_stepsBit 125 = .ok (.iload 7, 2) := by decide +kernel
theorem dX12_stepsBit_127 : decode cX12_stepsBit 127 = .ok (.aload_n 0, 1) := by decide +kernel
theorem dX12_stepsBit_128 : decode cX12_stepsBit 128 = .ok (.getfield 49, 3) := by decide +kernel
theorem dX12_stepsBit_131 : decode cX12_stepsBit 131 = .ok (.iload 8, 2) := by decide +kernel
theorem dX12_stepsBit_133 : decode cX12_stepsBit 133 = .ok (.iaload, 1) := by decide +kernel
theorem dX12_stepsBit_134 : decode cX12_stepsBit 134 = .ok (.if_icmp .lt 4, 3) := by decide +kernel
theorem dX12_stepsBit_137 : decode cX12_stepsBit 137 = .ok (.return_, 1) := by decide +kernel
theorem dX12_stepsBit_138 : decode cX12_stepsBit 138 = .ok (.aload_n 0, 1) := by decide +kernel
theorem dX12_stepsBit_139 : decode cX12_stepsBit 139 = .ok (.getfield 46, 3) := by decide +kernel
theorem dX12_stepsBit_142 : decode cX12_stepsBit 142 = .ok (.iload 8, 2) := by decide +kernel
theorem dX12_stepsBit_144 : decode cX12_stepsBit 144 = .ok (.iload 6, 2) := by decide +kernel
theorem dX12_stepsBit_146 : decode cX12_stepsBit 146 = .ok (.iastore, 1) := by decide +kernel
theorem dX12_stepsBit_147 : decode cX12_stepsBit 147 = .ok (.aload_n 0, 1) := by decide +kernel
theorem dX12_stepsBit_148 : decode cX12_stepsBit 148 = .ok (.getfield 49, 3) := by decide +kernel
theorem dX12_stepsBit_151 : decode cX12_stepsBit 151 = .ok (.iload 8, 2) := by decide +kernel
theorem dX12_stepsBit_153 : decode cX12_stepsBit 153 = .ok (.iload 7, 2) := by decide +kernel
theorem dX12_stepsBit_155 : decode cX12_stepsBit 155 = .ok (.iastore, 1) := by decide +kernel
theorem dX12_stepsBit_156 : decode cX12_stepsBit 156 = .ok (.return_, 1) := by decide +kernel
theorem dX12_bestNow_0 : decode cX12_bestNow 0 = .ok (.iconst 0, 1) := by decide +kernel
theorem dX12_bestNow_1 : decode cX12_bestNow 1 = .ok (.istore_n 1, 1) := by decide +kernel
theorem dX12_bestNow_2 : decode cX12_bestNow 2 = .ok (.iload_n 1, 1) := by decide +kernel
theorem dX12_bestNow_3 : decode cX12_bestNow 3 = .ok (.iconst 4, 1) := by decide +kernel
theorem dX12_bestNow_4 : decode cX12_bestNow 4 = .ok (.if_icmp .ge 32, 3) := by decide +kernel
theorem dX12_bestNow_7 : decode cX12_bestNow 7 = .ok (.aload_n 0, 1) := by decide +kernel
theorem dX12_bestNow_8 : decode cX12_bestNow 8 = .ok (.getfield 40, 3) := by decide +kernel
theorem dX12_bestNow_11 : decode cX12_bestNow 11 = .ok (.iload_n 1, 1) := by decide +kernel
theorem dX12_bestNow_12 : decode cX12_bestNow 12 = .ok (.iload_n 1, 1) := by decide +kernel
theorem dX12_bestNow_13 : decode cX12_bestNow 13 = .ok (.ifCond .ne 7, 3) := by decide +kernel
theorem dX12_bestNow_16 : decode cX12_bestNow 16 = .ok (.iconst 0, 1) := by decide +kernel
theorem dX12_bestNow_17 : decode cX12_bestNow 17 = .ok (.goto 5, 3) := by decide +kernel
theorem dX12_bestNow_20 : decode cX12_bestNow 20 = .ok (.ldc 157, 2) := by decide +kernel
theorem dX12_bestNow_22 : decode cX12_bestNow 22 = .ok (.iastore, 1) := by decide +kernel
theorem dX12_bestNow_23 : decode cX12_bestNow 23 = .ok (.aload_n 0, 1) := by decide +kernel
theorem dX12_bestNow_24 : decode cX12_bestNow 24 = .ok (.getfield 43, 3) := by decide +kernel
theorem dX12_bestNow_27 : decode cX12_bestNow 27 = .ok (.iload_n 1, 1) := by decide +kernel
theorem dX12_bestNow_28 : decode cX12_bestNow 28 = .ok (.iconst 0, 1) := by decide +kernel
theorem dX12_bestNow_29 : decode cX12_bestNow 29 = .ok (.iastore, 1) := by decide +kernel
theorem dX12_bestNow_30 : decode cX12_bestNow 30 = .ok (.iinc 1 1, 3) := by decide +kernel
theorem dX12_bestNow_33 : decode cX12_bestNow 33 = .ok (.goto (-31), 3) := by decide +kernel
theorem dX12_bestNow_36 : decode cX12_bestNow 36 = .ok (.iconst 0, 1) := by decide +kernel
theorem dX12_bestNow_37 : decode cX12_bestNow 37 = .ok (.istore_n 1, 1) := by decide +kernel
theorem dX12_bestNow_38 : decode cX12_bestNow 38 = .ok (.iload_n 1, 1) := by decide +kernel
theorem dX12_bestNow_39 : decode cX12_bestNow 39 = .ok (.bipush 13, 2) := by decide +kernel
theorem dX12_bestNow_41 : decode cX12_bestNow 41 = .ok (.if_icmp .ge 123, 3) := by decide +kernel
theorem dX12_bestNow_44 : decode cX12_bestNow 44 = .ok (.iconst 0, 1) := by decide +kernel
theorem dX12_bestNow_45 : decode cX12_bestNow 45 = .ok (.istore_n 2, 1) := by decide +kernel
theorem dX12_bestNow_46 : decode cX12_bestNow 46 = .ok (.iload_n 2, 1) := by decide +kernel
theorem dX12_bestNow_47 : decode cX12_bestNow 47 = .ok (.iconst 4, 1) := by decide +kernel
theorem dX12_bestNow_48 : decode cX12_bestNow 48 = .ok (.if_icmp .ge 26, 3) := by decide +kernel
theorem dX12_bestNow_51 : decode cX12_bestNow 51 = .ok (.aload_n 0, 1) := by decide +kernel
theorem dX12_bestNow_52 : decode cX12_bestNow 52 = .ok (.getfield 46, 3) := by decide +kernel
theorem dX12_bestNow_55 : decode cX12_bestNow 55 = .ok (.iload_n 2, 1) := by decide +kernel
theorem dX12_bestNow_56 : decode cX12_bestNow 56 = .ok (.ldc 157, 2) := by decide +kernel
theorem dX12_bestNow_58 : decode cX12_bestNow 58 = .ok (.iastore, 1) := by decide +kernel
theorem dX12_bestNow_59 : decode cX12_bestNow 59 = .ok (.aload_n 0, 1) := by decide +kernel
theorem dX12_bestNow_60 : decode cX12_bestNow 60 = .ok (.getfield 49, 3) := by decide +kernel
theorem dX12_bestNow_63 : decode cX12_bestNow 63 = .ok (.iload_n 2, 1) := by decide +kernel
theorem dX12_bestNow_64 : decode cX12_bestNow 64 = .ok (.sipush 2048, 3) := by decide +kernel
theorem dX12_bestNow_67 : decode cX12_bestNow 67 = .ok (.iastore, 1) := by decide +kernel
theorem dX12_bestNow_68 : decode cX12_bestNow 68 = .ok (.iinc 2 1, 3) := by decide +kernel
theorem dX12_bestNow_71 : decode cX12_bestNow 71 = .ok (.goto (-25), 3) := by decide +kernel
theorem dX12_bestNow_74 : decode cX12_bestNow 74 = .ok (.iconst 0, 1) := by decide +kernel
theorem dX12_bestNow_75 : decode cX12_bestNow 75 = .ok (.istore_n 2, 1) := by decide +kernel
theorem dX12_bestNow_76 : decode cX12_bestNow 76 = .ok (.iload_n 2, 1) := by decide +kernel
theorem dX12_bestNow_77 : decode cX12_bestNow 77 = .ok (.iconst 4, 1) := by decide +kernel
theorem dX12_bestNow_78 : decode cX12_bestNow 78 = .ok (.if_icmp .ge 43, 3) := by decide +kernel
theorem dX12_bestNow_81 : decode cX12_bestNow 81 = .ok (.aload_n 0, 1) := by decide +kernel
theorem dX12_bestNow_82 : decode cX12_bestNow 82 = .ok (.getfield 40, 3) := by decide +kernel
theorem dX12_bestNow_85 : decode cX12_bestNow 85 = .ok (.iload_n 2, 1) := by decide +kernel
theorem dX12_bestNow_86 : decode cX12_bestNow 86 = .ok (.iaload, 1) := by decide +kernel
theorem dX12_bestNow_87 : decode cX12_bestNow 87 = .ok (.ldc 157, 2) := by decide +kernel
theorem dX12_bestNow_89 : decode cX12_bestNow 89 = .ok (.if_icmp .ne 6, 3) := by decide +kernel
theorem dX12_bestNow_92 : decode cX12_bestNow 92 = .ok (.goto 23, 3) := by decide +kernel
theorem dX12_bestNow_95 : decode cX12_bestNow 95 = .ok (.aload_n 0, 1) := by decide +kernel
theorem dX12_bestNow_96 : decode cX12_bestNow 96 = .ok (.iload_n 1, 1) := by decide +kernel
theorem dX12_bestNow_97 : decode cX12_bestNow 97 = .ok (.iload_n 2, 1) := by decide +kernel
theorem dX12_bestNow_98 : decode cX12_bestNow 98 = .ok (.iconst 0, 1) := by decide +kernel
theorem dX12_bestNow_99 : decode cX12_bestNow 99 = .ok (.invokevirtual 158, 3) := by decide +kernel
theorem dX12_bestNow_102 : decode cX12_bestNow 102 = .ok (.iload_n 1, 1) := by decide +kernel
theorem dX12_bestNow_103 : decode cX12_bestNow 103 = .ok (.bipush 11, 2) := by decide +kernel
theorem dX12_bestNow_105 : decode cX12_bestNow 105 = .ok (.if_icmp .ge 10, 3) := by decide +kernel
theorem dX12_bestNow_108 : decode cX12_bestNow 108 = .ok (.aload_n 0, 1) := by decide +kernel
theorem dX12_bestNow_109 : decode cX12_bestNow 109 = .ok (.iload_n 1, 1) := by decide +kernel
theorem dX12_bestNow_110 : decode cX12_bestNow 110 = .ok (.iload_n 2, 1) := by decide +kernel
theorem dX12_bestNow_111 : decode cX12_bestNow 111 = .ok (.iconst 1, 1) := by decide +kernel
theorem dX12_bestNow_112 : decode cX12_bestNow 112 = .ok (.invokevirtual 158, 3) := by decide +kernel
theorem dX12_bestNow_115 : decode cX12_bestNow 115 = .ok (.iinc 2 1, 3) := by decide +kernel
theorem dX12_bestNow_118 : decode cX12_bestNow 118 = .ok (.goto (-42), 3) := by decide +kernel
theorem dX12_bestNow_121 : decode cX12_bestNow 121 = .ok (.iconst 0, 1) := by decide +kernel
theorem dX12_bestNow_122 : decode cX12_bestNow 122 = .ok (.istore_n 2, 1) := by decide +kernel
theorem dX12_bestNow_123 : decode cX12_bestNow 123 = .ok (.iload_n 2, 1) := by decide +kernel
theorem dX12_bestNow_124 : decode cX12_bestNow 124 = .ok (.iconst 4, 1) := by decide +kernel
theorem dX12_bestNow_125 : decode cX12_bestNow 125 = .ok (.if_icmp .ge 33, 3) := by decide +kernel
theorem dX12_bestNow_128 : decode cX12_bestNow 128 = .ok (.aload_n 0, 1) := by decide +kernel
theorem dX12_bestNow_129 : decode cX12_bestNow 129 = .ok (.getfield 40, 3) := by decide +kernel
theorem dX12_bestNow_132 : decode cX12_bestNow 132 = .ok (.iload_n 2, 1) := by decide +kernel
theorem dX12_bestNow_133 : decode cX12_bestNow 133 = .ok (.aload_n 0, 1) := by decide +kernel
theorem dX12_bestNow_134 : decode cX12_bestNow 134 = .ok (.getfield 46, 3) := by decide +kernel
theorem dX12_bestNow_137 : decode cX12_bestNow 137 = .ok (.iload_n 2, 1) := by decide +kernel
theorem dX12_bestNow_138 : decode cX12_bestNow 138 = .ok (.iaload, 1) := by decide +kernel
theorem dX12_bestNow_139 : decode cX12_bestNow 139 = .ok (.iastore, 1) := by decide +kernel
theorem dX12_bestNow_140 : decode cX12_bestNow 140 = .ok (.aload_n 0, 1) := by decide +kernel
theorem dX12_bestNow_141 : decode cX12_bestNow 141 = .ok (.getfield 43, 3) := by decide +kernel
theorem dX12_bestNow_144 : decode cX12_bestNow 144 = .ok (.iload_n 2, 1) := by decide +kernel
theorem dX12_bestNow_145 : decode cX12_bestNow 145 = .ok (.aload_n 0, 1) := by decide +kernel
theorem dX12_bestNow_146 : decode cX12_bestNow 146 = .ok (.getfield 49, 3) := by decide +kernel
theorem dX12_bestNow_149 : decode cX12_bestNow 149 = .ok (.iload_n 2, 1) := by decide +kernel
theorem dX12_bestNow_150 : decode cX12_bestNow 150 = .ok (.iaload, 1) := by decide +kernel
theorem dX12_bestNow_151 : decode cX12_bestNow 151 = .ok (.iastore, 1) := by decide +kernel
theorem dX12_bestNow_152 : decode cX12_bestNow 152 = .ok (.iinc 2 1, 3) := by decide +kernel
theorem dX12_bestNow_155 : decode cX12_bestNow 155 = .ok (.goto (-32), 3) := by decide +kernel
theorem dX12_bestNow_158 : decode cX12_bestNow 158 = .ok (.iinc 1 1, 3) := by decide +kernel
theorem dX12_bestNow_161 : decode cX12_bestNow 161 = .ok (.goto (-123), 3) := by decide +kernel
theorem dX12_bestNow_164 : decode cX12_bestNow 164 = .ok (.aload_n 0, 1) := by decide +kernel
theorem dX12_bestNow_165 : decode cX12_bestNow 165 = .ok (.getfield 43, 3) := by decide +kernel
theorem dX12_bestNow_168 : decode cX12_bestNow 168 = .ok (.iconst 0, 1) := by decide +kernel
theorem dX12_bestNow_169 : decode cX12_bestNow 169 = .ok (.iaload, 1) := by decide +kernel
theorem dX12_bestNow_170 : decode cX12_bestNow 170 = .ok (.ireturn, 1) := by decide +kernel
theorem dX12_weak_0 : decode cX12_weak 0 = .ok (.aload_n 0, 1) := by decide +kernel
theorem dX12_weak_1 : decode cX12_weak 1 = .ok (.iconst 0, 1) := by decide +kernel
theorem dX12_weak_2 : decode cX12_weak 2 = .ok (.putfield 1, 3) := by decide +kernel
theorem dX12_weak_5 : decode cX12_weak 5 = .ok (.iload_n 2, 1) := by decide +kernel
theorem dX12_weak_6 : decode cX12_weak 6 = .ok (.i2l, 1) := by decide +kernel
theorem dX12_weak_7 : decode cX12_weak 7 = .ok (.lconst 0, 1) := by decide +kernel
theorem dX12_weak_8 : decode cX12_weak 8 = .ok (.ldc2_w 132, 3) := by decide +kernel
theorem dX12_weak_11 : decode cX12_weak 11 = .ok (.invokestatic 94, 3) := by decide +kernel
theorem dX12_weak_14 : decode cX12_weak 14 = .ok (.ifCond .ne 6, 3) := by decide +kernel
theorem dX12_weak_17 : decode cX12_weak 17 = .ok (.bipush (-2), 2) := by decide +kernel
theorem dX12_weak_19 : decode cX12_weak 19 = .ok (.ireturn, 1) := by decide +kernel
theorem dX12_weak_20 : decode cX12_weak 20 = .ok (.iload_n 1, 1) := by decide +kernel
theorem dX12_weak_21 : decode cX12_weak 21 = .ok (.invokestatic 127, 3) := by decide +kernel
theorem dX12_weak_24 : decode cX12_weak 24 = .ok (.ifCond .eq 10, 3) := by decide +kernel
theorem dX12_weak_27 : decode cX12_weak 27 = .ok (.iload_n 3, 1) := by decide +kernel
theorem dX12_weak_28 : decode cX12_weak 28 = .ok (.invokestatic 134, 3) := by decide +kernel
theorem dX12_weak_31 : decode cX12_weak 31 = .ok (.ifCond .ne 6, 3) := by decide +kernel
theorem dX12_weak_34 : decode cX12_weak 34 = .ok (.bipush (-3), 2) := by decide +kernel
theorem dX12_weak_36 : decode cX12_weak 36 = .ok (.ireturn, 1) := by decide +kernel
theorem dX12_weak_37 : decode cX12_weak 37 = .ok (.aload_n 0, 1) := by decide +kernel
theorem dX12_weak_38 : decode cX12_weak 38 = .ok (.iload_n 2, 1) := by decide +kernel
theorem dX12_weak_39 : decode cX12_weak 39 = .ok (.iload_n 3, 1) := by decide +kernel
theorem dX12_weak_40 : decode cX12_weak 40 = .ok (.invokevirtual 102, 3) := by decide +kernel
theorem dX12_weak_43 : decode cX12_weak 43 = .ok (.iconst 0, 1) := by decide +kernel
theorem dX12_weak_44 : decode cX12_weak 44 = .ok (.istore 4, 2) := by decide +kernel
theorem dX12_weak_46 : decode cX12_weak 46 = .ok (.iload 4, 2) := by decide +kernel
theorem dX12_weak_48 : decode cX12_weak 48 = .ok (.bipush 39, 2) := by decide +kernel
theorem dX12_weak_50 : decode cX12_weak 50 = .ok (.if_icmp .ge 17, 3) := by decide +kernel
theorem dX12_weak_53 : decode cX12_weak 53 = .ok (.aload_n 0, 1) := by decide +kernel
theorem dX12_weak_54 : decode cX12_weak 54 = .ok (.getfield 37, 3) := by decide +kernel
theorem dX12_weak_57 : decode cX12_weak 57 = .ok (.iload 4, 2) := by decide +kernel
theorem dX12_weak_59 : decode cX12_weak 59 = .ok (.iconst 0, 1) := by decide +kernel
theorem dX12_weak_60 : decode cX12_weak 60 = .ok (.iastore, 1) := by decide +kernel
theorem dX12_weak_61 : decode cX12_weak 61 = .ok (.iinc 4 1, 3) := by decide +kernel
theorem dX12_weak_64 : decode cX12_weak 64 = .ok (.goto (-18), 3) := by decide +kernel
theorem dX12_weak_67 : decode cX12_weak 67 = .ok (.iconst 0, 1) := by decide +kernel
theorem dX12_weak_68 : decode cX12_weak 68 = .ok (.istore 4, 2) := by decide +kernel
theorem dX12_weak_70 : decode cX12_weak 70 = .ok (.iload 4, 2) := by decide +kernel
theorem dX12_weak_72 : decode cX12_weak 72 = .ok (.iload_n 3, 1) := by decide +kernel
theorem dX12_weak_73 : decode cX12_weak 73 = .ok (.if_icmp .ge 39, 3) := by decide +kernel
theorem dX12_weak_76 : decode cX12_weak 76 = .ok (.aload_n 0, 1) := by decide +kernel
theorem dX12_weak_77 : decode cX12_weak 77 = .ok (.getfield 37, 3) := by decide +kernel
theorem dX12_weak_80 : decode cX12_weak 80 = .ok (.aload_n 0, 1) := by decide +kernel
theorem dX12_weak_81 : decode cX12_weak 81 = .ok (.getfield 31, 3) := by decide +kernel
theorem dX12_weak_84 : decode cX12_weak 84 = .ok (.iload 4, 2) := by decide +kernel
theorem dX12_weak_86 : decode cX12_weak 86 = .ok (.iaload, 1) := by decide +kernel
theorem dX12_weak_87 : decode cX12_weak 87 = .ok (.dup2, 1) := by decide +kernel
theorem dX12_weak_88 : decode cX12_weak 88 = .ok (.iaload, 1) := by decide +kernel
theorem dX12_weak_89 : decode cX12_weak 89 = .ok (.iload_n 1, 1) := by decide +kernel
theorem dX12_weak_90 : decode cX12_weak 90 = .ok (.aload_n 0, 1) := by decide +kernel
theorem dX12_weak_91 : decode cX12_weak 91 = .ok (.getfield 31, 3) := by decide +kernel
theorem dX12_weak_94 : decode cX12_weak 94 = .ok (.iload 4, 2) := by decide +kernel
theorem dX12_weak_96 : decode cX12_weak 96 = .ok (.iaload, 1) := by decide +kernel
theorem dX12_weak_97 : decode cX12_weak 97 = .ok (.invokestatic 82, 3) := by decide +kernel
theorem dX12_weak_100 : decode cX12_weak 100 = .ok (.iconst 1, 1) := by decide +kernel
theorem dX12_weak_101 : decode cX12_weak 101 = .ok (.invokestatic 154, 3) := by decide +kernel
theorem dX12_weak_104 : decode cX12_weak 104 = .ok (.iadd, 1) := by decide +kernel
theorem dX12_weak_105 : decode cX12_weak 105 = .ok (.iastore, 1) := by decide +kernel
theorem dX12_weak_106 : decode cX12_weak 106 = .ok (.iinc 4 1, 3) := by decide +kernel
theorem dX12_weak_109 : decode cX12_weak 109 = .ok (.goto (-39), 3) := by decide +kernel
theorem dX12_weak_112 : decode cX12_weak 112 = .ok (.iconst 0, 1) := by decide +kernel
theorem dX12_weak_113 : decode cX12_weak 113 = .ok (.istore 4, 2) := by decide +kernel
theorem dX12_weak_115 : decode cX12_weak 115 = .ok (.iconst 0, 1) := by decide +kernel
theorem dX12_weak_116 : decode cX12_weak 116 = .ok (.istore 5, 2) := by decide +kernel
theorem dX12_weak_118 : decode cX12_weak 118 = .ok (.iload 5, 2) := by decide +kernel
theorem dX12_weak_120 : decode cX12_weak 120 = .ok (.iload_n 3, 1) := by decide +kernel
theorem dX12_weak_121 : decode cX12_weak 121 = .ok (.if_icmp .ge 80, 3) := by decide +kernel
theorem dX12_weak_124 : decode cX12_weak 124 = .ok (.iconst 2, 1) := by decide +kernel
theorem dX12_weak_125 : decode cX12_weak 125 = .ok (.iload_n 1, 1) := by decide +kernel
theorem dX12_weak_126 : decode cX12_weak 126 = .ok (.aload_n 0, 1) := by decide +kernel
theorem dX12_weak_127 : decode cX12_weak 127 = .ok (.getfield 31, 3) := by decide +kernel
theorem dX12_weak_130 : decode cX12_weak 130 = .ok (.iload 5, 2) := by decide +kernel
theorem dX12_weak_132 : decode cX12_weak 132 = .ok (.iaload, 1) := by decide +kernel
theorem dX12_weak_133 : decode cX12_weak 133 = .ok (.invokestatic 82, 3) := by decide +kernel
theorem dX12_weak_136 : decode cX12_weak 136 = .ok (.iconst 1, 1) := by decide +kernel
theorem dX12_weak_137 : decode cX12_weak 137 = .ok (.invokestatic 154, 3) := by decide +kernel
theorem dX12_weak_140 : decode cX12_weak 140 = .ok (.imul, 1) := by decide +kernel
theorem dX12_weak_141 : decode cX12_weak 141 = .ok (.istore 6, 2) := by decide +kernel
theorem dX12_weak_143 : decode cX12_weak 143 = .ok (.aload_n 0, 1) := by decide +kernel
theorem dX12_weak_144 : decode cX12_weak 144 = .ok (.getfield 37, 3) := by decide +kernel
theorem dX12_weak_147 : decode cX12_weak 147 = .ok (.aload_n 0, 1) := by decide +kernel
theorem dX12_weak_148 : decode cX12_weak 148 = .ok (.getfield 31, 3) := by decide +kernel
theorem dX12_weak_151 : decode cX12_weak 151 = .ok (.iload 5, 2) := by decide +kernel
theorem dX12_weak_153 : decode cX12_weak 153 = .ok (.iaload, 1) := by decide +kernel
theorem dX12_weak_154 : decode cX12_weak 154 = .ok (.dup2, 1) := by decide +kernel
theorem dX12_weak_155 : decode cX12_weak 155 = .ok (.iaload, 1) := by decide +kernel
theorem dX12_weak_156 : decode cX12_weak 156 = .ok (.iload 6, 2) := by decide +kernel
theorem dX12_weak_158 : decode cX12_weak 158 = .ok (.isub, 1) := by decide +kernel
theorem dX12_weak_159 : decode cX12_weak 159 = .ok (.iastore, 1) := by decide +kernel
theorem dX12_weak_160 : decode cX12_weak 160 = .ok (.iload 4, 2) := by decide +kernel
theorem dX12_weak_162 : decode cX12_weak 162 = .ok (.aload_n 0, 1) := by decide +kernel
theorem dX12_weak_163 : decode cX12_weak 163 = .ok (.invokevirtual 162, 3) := by decide +kernel
theorem dX12_weak_166 : decode cX12_weak 166 = .ok (.iload_n 1, 1) := by decide +kernel
theorem dX12_weak_167 : decode cX12_weak 167 = .ok (.if_icmp .ne 7, 3) := by decide +kernel
theorem dX12_weak_170 : decode cX12_weak 170 = .ok (.iconst 0, 1) := by decide +kernel
theorem dX12_weak_171 : decode cX12_weak 171 = .ok (.goto 4, 3) := by decide +kernel
theorem dX12_weak_174 : decode cX12_weak 174 = .ok (.iconst 1, 1) := by decide +kernel
theorem dX12_weak_175 : decode cX12_weak 175 = .ok (.iadd, 1) := by decide +kernel
theorem dX12_weak_176 : decode cX12_weak 176 = .ok (.istore 4, 2) := by decide +kernel
theorem dX12_weak_178 : decode cX12_weak 178 = .ok (.aload_n 0, 1) := by decide +kernel
theorem dX12_weak_179 : decode cX12_weak 179 = .ok (.getfield 37, 3) := by decide +kernel
theorem dX12_weak_182 : decode cX12_weak 182 = .ok (.aload_n 0, 1) := by decide +kernel
theorem dX12_weak_183 : decode cX12_weak 183 = .ok (.getfield 31, 3) := by decide +kernel
theorem dX12_weak_186 : decode cX12_weak 186 = .ok (.iload 5, 2) := by decide +kernel
theorem dX12_weak_188 : decode cX12_weak 188 = .ok (.iaload, 1) := by decide +kernel
theorem dX12_weak_189 : decode cX12_weak 189 = .ok (.dup2, 1) := by decide +kernel
theorem dX12_weak_190 : decode cX12_weak 190 = .ok (.iaload, 1) := by decide +kernel
theorem dX12_weak_191 : decode cX12_weak 191 = .ok (.iload 6, 2) := by decide +kernel
theorem dX12_weak_193 : decode cX12_weak 193 = .ok (.iadd, 1) := by decide +kernel
theorem dX12_weak_194 : decode cX12_weak 194 = .ok (.iastore, 1) := by decide +kernel
theorem dX12_weak_195 : decode cX12_weak 195 = .ok (.iinc 5 1, 3) := by decide +kernel
theorem dX12_weak_198 : decode cX12_weak 198 = .ok (.goto (-80), 3) := by decide +kernel
theorem dX12_weak_201 : decode cX12_weak 201 = .ok (.iload 4, 2) := by decide +kernel
theorem dX12_weak_203 : decode cX12_weak 203 = .ok (.ireturn, 1) := by decide +kernel
theorem dX12_past_0 : decode cX12_past 0 = .ok (.iload_n 1, 1) := by decide +kernel
theorem dX12_past_1 : decode cX12_past 1 = .ok (.iload_n 0, 1) := by decide +kernel
theorem dX12_past_2 : decode cX12_past 2 = .ok (.isub, 1) := by decide +kernel
theorem dX12_past_3 : decode cX12_past 3 = .ok (.bipush 7, 2) := by decide +kernel
theorem dX12_past_5 : decode cX12_past 5 = .ok (.iand, 1) := by decide +kernel
theorem dX12_past_6 : decode cX12_past 6 = .ok (.ireturn, 1) := by decide +kernel
theorem dX12_own_0 : decode cX12_own 0 = .ok (.sipush 329, 3) := by decide +kernel
theorem dX12_own_3 : decode cX12_own 3 = .ok (.bipush 88, 2) := by decide +kernel
theorem dX12_own_5 : decode cX12_own 5 = .ok (.iload_n 1, 1) := by decide +kernel
theorem dX12_own_6 : decode cX12_own 6 = .ok (.imul, 1) := by decide +kernel
theorem dX12_own_7 : decode cX12_own 7 = .ok (.iadd, 1) := by decide +kernel
theorem dX12_own_8 : decode cX12_own 8 = .ok (.ireturn, 1) := by decide +kernel
theorem dX12_isProcess_0 : decode cX12_isProcess 0 = .ok (.iload_n 1, 1) := by decide +kernel
theorem dX12_isProcess_1 : decode cX12_isProcess 1 = .ok (.i2l, 1) := by decide +kernel
theorem dX12_isProcess_2 : decode cX12_isProcess 2 = .ok (.lconst 0, 1) := by decide +kernel
theorem dX12_isProcess_3 : decode cX12_isProcess 3 = .ok (.aload_n 0, 1) := by decide +kernel
theorem dX12_isProcess_4 : decode cX12_isProcess 4 = .ok (.getfield 13, 3) := by decide +kernel
theorem dX12_isProcess_7 : decode cX12_isProcess 7 = .ok (.iconst 0, 1) := by decide +kernel
theorem dX12_isProcess_8 : decode cX12_isProcess 8 = .ok (.iaload, 1) := by decide +kernel
theorem dX12_isProcess_9 : decode cX12_isProcess 9 = .ok (.iconst 1, 1) := by decide +kernel
theorem dX12_isProcess_10 : decode cX12_isProcess 10 = .ok (.isub, 1) := by decide +kernel
theorem dX12_isProcess_11 : decode cX12_isProcess 11 = .ok (.i2l, 1) := by decide +kernel
theorem dX12_isProcess_12 : decode cX12_isProcess 12 = .ok (.invokestatic 94, 3) := by decide +kernel
theorem dX12_isProcess_15 : decode cX12_isProcess 15 = .ok (.ireturn, 1) := by decide +kernel
theorem dX12_link_0 : decode cX12_link 0 = .ok (.aload_n 0, 1) := by decide +kernel
theorem dX12_link_1 : decode cX12_link 1 = .ok (.iconst 0, 1) := by decide +kernel
theorem dX12_link_2 : decode cX12_link 2 = .ok (.putfield 1, 3) := by decide +kernel
theorem dX12_link_5 : decode cX12_link 5 = .ok (.iload_n 1, 1) := by decide +kernel
theorem dX12_link_6 : decode cX12_link 6 = .ok (.i2l, 1) := by decide +kernel
theorem dX12_link_7 : decode cX12_link 7 = .ok (.lconst 1, 1) := by decide +kernel
theorem dX12_link_8 : decode cX12_link 8 = .ok (.ldc2_w 166, 3) := by decide +kernel
theorem dX12_link_11 : decode cX12_link 11 = .ok (.invokestatic 94, 3) := by decide +kernel
theorem dX12_link_14 : decode cX12_link 14 = .ok (.ifCond .eq 55, 3) := by decide +kernel
theorem dX12_link_17 : decode cX12_link 17 = .ok (.iload_n 2, 1) := by decide +kernel
theorem dX12_link_18 : decode cX12_link 18 = .ok (.i2l, 1) := by decide +kernel
theorem dX12_link_19 : decode cX12_link 19 = .ok (.lconst 1, 1) := by decide +kernel
theorem dX12_link_20 : decode cX12_link 20 = .ok (.ldc2_w 168, 3) := by decide +kernel
theorem dX12_link_23 : decode cX12_link 23 = .ok (.invokestatic 94, 3) := by decide +kernel
theorem dX12_link_26 : decode cX12_link 26 = .ok (.ifCond .eq 43, 3) := by decide +kernel
theorem dX12_link_29 : decode cX12_link 29 = .ok (.iload_n 3, 1) := by decide +kernel
theorem dX12_link_30 : decode cX12_link 30 = .ok (.i2l, 1) := by decide +kernel
theorem dX12_link_31 : decode cX12_link 31 = .ok (.lconst 1, 1) := by decide +kernel
theorem dX12_link_32 : decode cX12_link 32 = .ok (.ldc2_w 98, 3) := by decide +kernel
theorem dX12_link_35 : decode cX12_link 35 = .ok (.invokestatic 94, 3) := by decide +kernel
theorem dX12_link_38 : decode cX12_link 38 = .ok (.ifCond .eq 31, 3) := by decide +kernel
theorem dX12_link_41 : decode cX12_link 41 = .ok (.iload 4, 2) := by decide +kernel
theorem dX12_link_43 : decode cX12_link 43 = .ok (.i2l, 1) := by decide +kernel
theorem dX12_link_44 : decode cX12_link 44 = .ok (.lconst 1, 1) := by decide +kernel
theorem dX12_link_45 : decode cX12_link 45 = .ok (.ldc2_w 166, 3) := by decide +kernel
theorem dX12_link_48 : decode cX12_link 48 = .ok (.invokestatic 94, 3) := by decide +kernel
theorem dX12_link_51 : decode cX12_link 51 = .ok (.ifCond .eq 18, 3) := by decide +kernel
theorem dX12_link_54 : decode cX12_link 54 = .ok (.iload 5, 2) := by decide +kernel
theorem dX12_link_56 : decode cX12_link 56 = .ok (.i2l, 1) := by decide +kernel
theorem dX12_link_57 : decode cX12_link 57 = .ok (.ldc2_w 170, 3) := by decide +kernel
theorem dX12_link_60 : decode cX12_link 60 = .ok (.ldc2_w 172, 3) := by decide +kernel
theorem dX12_link_63 : decode cX12_link 63 = .ok (.invokestatic 94, 3) := by decide +kernel
theorem dX12_link_66 : decode cX12_link 66 = .ok (.ifCond .ne 6, 3) := by decide +kernel
theorem dX12_link_69 : decode cX12_link 69 = .ok (.bipush (-3), 2) := by decide +kernel
theorem dX12_link_71 : decode cX12_link 71 = .ok (.ireturn, 1) := by decide +kernel
theorem dX12_link_72 : decode cX12_link 72 = .ok (.aload_n 0, 1) := by decide +kernel
theorem dX12_link_73 : decode cX12_link 73 = .ok (.iload_n 1, 1) := by decide +kernel
theorem dX12_link_74 : decode cX12_link 74 = .ok (.iload_n 2, 1) := by decide +kernel
theorem dX12_link_75 : decode cX12_link 75 = .ok (.iload_n 3, 1) := by decide +kernel
theorem dX12_link_76 : decode cX12_link 76 = .ok (.iload 4, 2) := by decide +kernel
theorem dX12_link_78 : decode cX12_link 78 = .ok (.iload 5, 2) := by decide +kernel
theorem dX12_link_80 : decode cX12_link 80 = .ok (.invokevirtual 74, 3) := by decide +kernel
theorem dX12_link_83 : decode cX12_link 83 = .ok (.iconst 0, 1) := by decide +kernel
theorem dX12_link_84 : decode cX12_link 84 = .ok (.ireturn, 1) := by decide +kernel
theorem dX12_limit_0 : decode cX12_limit 0 = .ok (.aload_n 0, 1) := by decide +kernel
theorem dX12_limit_1 : decode cX12_limit 1 = .ok (.iconst 0, 1) := by decide +kernel
theorem dX12_limit_2 : decode cX12_limit 2 = .ok (.putfield 1, 3) := by decide +kernel
theorem dX12_limit_5 : decode cX12_limit 5 = .ok (.iload_n 1, 1) := by decide +kernel
theorem dX12_limit_6 : decode cX12_limit 6 = .ok (.i2l, 1) := by decide +kernel
theorem dX12_limit_7 : decode cX12_limit 7 = .ok (.lconst 1, 1) := by decide +kernel
theorem dX12_limit_8 : decode cX12_limit 8 = .ok (.ldc2_w 174, 3) := by decide +kernel
theorem dX12_limit_11 : decode cX12_limit 11 = .ok (.invokestatic 94, 3) := by decide +kernel
theorem dX12_limit_14 : decode cX12_limit 14 = .ok (.ifCond .ne 6, 3) := by decide +kernel
theorem dX12_limit_17 : decode cX12_limit 17 = .ok (.bipush (-3), 2) := by decide +kernel
theorem dX12_limit_19 : decode cX12_limit 19 = .ok (.ireturn, 1) := by decide +kernel
theorem dX12_limit_20 : decode cX12_limit 20 = .ok (.aload_n 0, 1) := by decide +kernel
theorem dX12_limit_21 : decode cX12_limit 21 = .ok (.getfield 13, 3) := by decide +kernel
theorem dX12_limit_24 : decode cX12_limit 24 = .ok (.iconst 5, 1) := by decide +kernel
theorem dX12_limit_25 : decode cX12_limit 25 = .ok (.iaload, 1) := by decide +kernel
theorem dX12_limit_26 : decode cX12_limit 26 = .ok (.istore_n 2, 1) := by decide +kernel
theorem dX12_limit_27 : decode cX12_limit 27 = .ok (.aload_n 0, 1) := by decide +kernel
theorem dX12_limit_28 : decode cX12_limit 28 = .ok (.getfield 13, 3) := by decide +kernel
theorem dX12_limit_31 : decode cX12_limit 31 = .ok (.iconst 5, 1) := by decide +kernel
theorem dX12_limit_32 : decode cX12_limit 32 = .ok (.iload_n 1, 1) := by decide +kernel
theorem dX12_limit_33 : decode cX12_limit 33 = .ok (.iastore, 1) := by decide +kernel
theorem dX12_limit_34 : decode cX12_limit 34 = .ok (.iload_n 2, 1) := by decide +kernel
theorem dX12_limit_35 : decode cX12_limit 35 = .ok (.ireturn, 1) := by decide +kernel
theorem dX12_fade_0 : decode cX12_fade 0 = .ok (.aload_n 0, 1) := by decide +kernel
theorem dX12_fade_1 : decode cX12_fade 1 = .ok (.iconst 0, 1) := by decide +kernel
theorem dX12_fade_2 : decode cX12_fade 2 = .ok (.putfield 1, 3) := by decide +kernel
theorem dX12_fade_5 : decode cX12_fade 5 = .ok (.iload_n 1, 1) := by decide +kernel
theorem dX12_fade_6 : decode cX12_fade 6 = .ok (.i2l, 1) := by decide +kernel
theorem dX12_fade_7 : decode cX12_fade 7 = .ok (.lconst 0, 1) := by decide +kernel
theorem dX12_fade_8 : decode cX12_fade 8 = .ok (.ldc2_w 98, 3) := by decide +kernel
theorem dX12_fade_11 : decode cX12_fade 11 = .ok (.invokestatic 94, 3) := by decide +kernel
theorem dX12_fade_14 : decode cX12_fade 14 = .ok (.ifCond .ne 6, 3) := by decide +kernel
theorem dX12_fade_17 : decode cX12_fade 17 = .ok (.bipush (-3), 2) := by decide +kernel
theorem dX12_fade_19 : decode cX12_fade 19 = .ok (.ireturn, 1) := by decide +kernel
theorem dX12_fade_20 : decode cX12_fade 20 = .ok (.aload_n 0, 1) := by decide +kernel
theorem dX12_fade_21 : decode cX12_fade 21 = .ok (.getfield 13, 3) := by decide +kernel
theorem dX12_fade_24 : decode cX12_fade 24 = .ok (.bipush 6, 2) := by decide +kernel
theorem dX12_fade_26 : decode cX12_fade 26 = .ok (.iaload, 1) := by decide +kernel
theorem dX12_fade_27 : decode cX12_fade 27 = .ok (.istore_n 2, 1) := by decide +kernel
theorem dX12_fade_28 : decode cX12_fade 28 = .ok (.aload_n 0, 1) := by decide +kernel
theorem dX12_fade_29 : decode cX12_fade 29 = .ok (.getfield 13, 3) := by decide +kernel
theorem dX12_fade_32 : decode cX12_fade 32 = .ok (.bipush 6, 2) := by decide +kernel
theorem dX12_fade_34 : decode cX12_fade 34 = .ok (.iload_n 1, 1) := by decide +kernel
theorem dX12_fade_35 : decode cX12_fade 35 = .ok (.iastore, 1) := by decide +kernel
theorem dX12_fade_36 : decode cX12_fade 36 = .ok (.iload_n 2, 1) := by decide +kernel
theorem dX12_fade_37 : decode cX12_fade 37 = .ok (.ireturn, 1) := by decide +kernel
theorem dX12_offer_0 : decode cX12_offer 0 = .ok (.aload_n 0, 1) := by decide +kernel
theorem dX12_offer_1 : decode cX12_offer 1 = .ok (.iconst 0, 1) := by decide +kernel
theorem dX12_offer_2 : decode cX12_offer 2 = .ok (.putfield 1, 3) := by decide +kernel
theorem dX12_offer_5 : decode cX12_offer 5 = .ok (.iload_n 1, 1) := by decide +kernel
theorem dX12_offer_6 : decode cX12_offer 6 = .ok (.i2l, 1) := by decide +kernel
theorem dX12_offer_7 : decode cX12_offer 7 = .ok (.lconst 0, 1) := by decide +kernel
theorem dX12_offer_8 : decode cX12_offer 8 = .ok (.ldc2_w 125, 3) := by decide +kernel
theorem dX12_offer_11 : decode cX12_offer 11 = .ok (.invokestatic 94, 3) := by decide +kernel
theorem dX12_offer_14 : decode cX12_offer 14 = .ok (.ifCond .ne 6, 3) := by decide +kernel
theorem dX12_offer_17 : decode cX12_offer 17 = .ok (.bipush (-3), 2) := by decide +kernel
theorem dX12_offer_19 : decode cX12_offer 19 = .ok (.ireturn, 1) := by decide +kernel
theorem dX12_offer_20 : decode cX12_offer 20 = .ok (.aload_n 0, 1) := by decide +kernel
theorem dX12_offer_21 : decode cX12_offer 21 = .ok (.getfield 13, 3) := by decide +kernel
theorem dX12_offer_24 : decode cX12_offer 24 = .ok (.bipush 7, 2) := by decide +kernel
theorem dX12_offer_26 : decode cX12_offer 26 = .ok (.iaload, 1) := by decide +kernel
theorem dX12_offer_27 : decode cX12_offer 27 = .ok (.bipush 20, 2) := by decide +kernel
theorem dX12_offer_29 : decode cX12_offer 29 = .ok (.if_icmp .ne 6, 3) := by decide +kernel
theorem dX12_offer_32 : decode cX12_offer 32 = .ok (.bipush (-4), 2) := by decide +kernel
theorem dX12_offer_34 : decode cX12_offer 34 = .ok (.ireturn, 1) := by decide +kernel
theorem dX12_offer_35 : decode cX12_offer 35 = .ok (.aload_n 0, 1) := by decide +kernel
theorem dX12_offer_36 : decode cX12_offer 36 = .ok (.getfield 13, 3) := by decide +kernel
theorem dX12_offer_39 : decode cX12_offer 39 = .ok (.bipush 8, 2) := by decide +kernel
theorem dX12_offer_41 : decode cX12_offer 41 = .ok (.aload_n 0, 1) := by decide +kernel
theorem dX12_offer_42 : decode cX12_offer 42 = .ok (.getfield 13, 3) := by decide +kernel
theorem dX12_offer_45 : decode cX12_offer 45 = .ok (.bipush 7, 2) := by decide +kernel
theorem dX12_offer_47 : decode cX12_offer 47 = .ok (.iaload, 1) := by decide +kernel
theorem dX12_offer_48 : decode cX12_offer 48 = .ok (.iadd, 1) := by decide +kernel
theorem dX12_offer_49 : decode cX12_offer 49 = .ok (.iload_n 1, 1) := by decide +kernel
theorem dX12_offer_50 : decode cX12_offer 50 = .ok (.iastore, 1) := by decide +kernel
theorem dX12_offer_51 : decode cX12_offer 51 = .ok (.aload_n 0, 1) := by decide +kernel
theorem dX12_offer_52 : decode cX12_offer 52 = .ok (.getfield 13, 3) := by decide +kernel
theorem dX12_offer_55 : decode cX12_offer 55 = .ok (.bipush 7, 2) := by decide +kernel
theorem dX12_offer_57 : decode cX12_offer 57 = .ok (.dup2, 1) := by decide +kernel
theorem dX12_offer_58 : decode cX12_offer 58 = .ok (.iaload, 1) := by decide +kernel
theorem dX12_offer_59 : decode cX12_offer 59 = .ok (.iconst 1, 1) := by decide +kernel
theorem dX12_offer_60 : decode cX12_offer 60 = .ok (.iadd, 1) := by decide +kernel
theorem dX12_offer_61 : decode cX12_offer 61 = .ok (.iastore, 1) := by decide +kernel
theorem dX12_offer_62 : decode cX12_offer 62 = .ok (.aload_n 0, 1) := by decide +kernel
theorem dX12_offer_63 : decode cX12_offer 63 = .ok (.getfield 13, 3) := by decide +kernel
theorem dX12_offer_66 : decode cX12_offer 66 = .ok (.bipush 7, 2) := by decide +kernel
theorem dX12_offer_68 : decode cX12_offer 68 = .ok (.iaload, 1) := by decide +kernel
theorem dX12_offer_69 : decode cX12_offer 69 = .ok (.ireturn, 1) := by decide +kernel
theorem dX12_goesOn_0 : decode cX12_goesOn 0 = .ok (.aload_n 0, 1) := by decide +kernel
theorem dX12_goesOn_1 : decode cX12_goesOn 1 = .ok (.getfield 13, 3) := by decide +kernel
theorem dX12_goesOn_4 : decode cX12_goesOn 4 = .ok (.bipush 55, 2) := by decide +kernel
theorem dX12_goesOn_6 : decode cX12_goesOn 6 = .ok (.aload_n 0, 1) := by decide +kernel
theorem dX12_goesOn_7 : decode cX12_goesOn 7 = .ok (.getfield 13, 3) := by decide +kernel
theorem dX12_goesOn_10 : decode cX12_goesOn 10 = .ok (.bipush 55, 2) := by decide +kernel
theorem dX12_goesOn_12 : decode cX12_goesOn 12 = .ok (.iaload, 1) := by decide +kernel
theorem dX12_goesOn_13 : decode cX12_goesOn 13 = .ok (.iconst 1, 1) := by decide +kernel
theorem dX12_goesOn_14 : decode cX12_goesOn 14 = .ok (.iadd, 1) := by decide +kernel
theorem dX12_goesOn_15 : decode cX12_goesOn 15 = .ok (.bipush 7, 2) := by decide +kernel
theorem dX12_goesOn_17 : decode cX12_goesOn 17 = .ok (.iand, 1) := by decide +kernel
theorem dX12_goesOn_18 : decode cX12_goesOn 18 = .ok (.iastore, 1) := by decide +kernel
theorem dX12_goesOn_19 : decode cX12_goesOn 19 = .ok (.aload_n 0, 1) := by decide +kernel
theorem dX12_goesOn_20 : decode cX12_goesOn 20 = .ok (.getfield 13, 3) := by decide +kernel
theorem dX12_goesOn_23 : decode cX12_goesOn 23 = .ok (.bipush 64, 2) := by decide +kernel
theorem dX12_goesOn_25 : decode cX12_goesOn 25 = .ok (.iaload, 1) := by decide +kernel
theorem dX12_goesOn_26 : decode cX12_goesOn 26 = .ok (.iconst (-1), 1) := by decide +kernel
theorem dX12_goesOn_27 : decode cX12_goesOn 27 = .ok (.if_icmp .eq 20, 3) := by decide +kernel
theorem dX12_goesOn_30 : decode cX12_goesOn 30 = .ok (.aload_n 0, 1) := by decide +kernel
theorem dX12_goesOn_31 : decode cX12_goesOn 31 = .ok (.getfield 13, 3) := by decide +kernel
theorem dX12_goesOn_34 : decode cX12_goesOn 34 = .ok (.bipush 55, 2) := by decide +kernel
theorem dX12_goesOn_36 : decode cX12_goesOn 36 = .ok (.iaload, 1) := by decide +kernel
theorem dX12_goesOn_37 : decode cX12_goesOn 37 = .ok (.aload_n 0, 1) := by decide +kernel
theorem dX12_goesOn_38 : decode cX12_goesOn 38 = .ok (.getfield 13, 3) := by decide +kernel
theorem dX12_goesOn_41 : decode cX12_goesOn 41 = .ok (.bipush 65, 2) := by decide +kernel
theorem dX12_goesOn_43 : decode cX12_goesOn 43 = .ok (.iaload, 1) := by decide +kernel
theorem dX12_goesOn_44 : decode cX12_goesOn 44 = .ok (.if_icmp .eq 4, 3) := by decide +kernel
theorem dX12_goesOn_47 : decode cX12_goesOn 47 = .ok (.return_, 1) := by decide +kernel
theorem dX12_goesOn_48 : decode cX12_goesOn 48 = .ok (.aload_n 0, 1) := by decide +kernel
theorem dX12_goesOn_49 : decode cX12_goesOn 49 = .ok (.getfield 13, 3) := by decide +kernel
theorem dX12_goesOn_52 : decode cX12_goesOn 52 = .ok (.bipush 64, 2) := by decide +kernel
theorem dX12_goesOn_54 : decode cX12_goesOn 54 = .ok (.iconst (-1), 1) := by decide +kernel
theorem dX12_goesOn_55 : decode cX12_goesOn 55 = .ok (.iastore, 1) := by decide +kernel
theorem dX12_goesOn_56 : decode cX12_goesOn 56 = .ok (.aload_n 0, 1) := by decide +kernel
theorem dX12_goesOn_57 : decode cX12_goesOn 57 = .ok (.getfield 13, 3) := by decide +kernel
theorem dX12_goesOn_60 : decode cX12_goesOn 60 = .ok (.bipush 65, 2) := by decide +kernel
theorem dX12_goesOn_62 : decode cX12_goesOn 62 = .ok (.iconst (-1), 1) := by decide +kernel
theorem dX12_goesOn_63 : decode cX12_goesOn 63 = .ok (.iastore, 1) := by decide +kernel
theorem dX12_goesOn_64 : decode cX12_goesOn 64 = .ok (.return_, 1) := by decide +kernel
theorem dX12_passes_0 : decode cX12_passes 0 = .ok (.aload_n 0, 1) := by decide +kernel
theorem dX12_passes_1 : decode cX12_passes 1 = .ok (.getfield 13, 3) := by decide +kernel
theorem dX12_passes_4 : decode cX12_passes 4 = .ok (.bipush 55, 2) := by decide +kernel
theorem dX12_passes_6 : decode cX12_passes 6 = .ok (.iaload, 1) := by decide +kernel
theorem dX12_passes_7 : decode cX12_passes 7 = .ok (.istore_n 1, 1) := by decide +kernel
theorem dX12_passes_8 : decode cX12_passes 8 = .ok (.aload_n 0, 1) := by decide +kernel
theorem dX12_passes_9 : decode cX12_passes 9 = .ok (.getfield 13, 3) := by decide +kernel
theorem dX12_passes_12 : decode cX12_passes 12 = .ok (.bipush 56, 2) := by decide +kernel
theorem dX12_passes_14 : decode cX12_passes 14 = .ok (.iload_n 1, 1) := by decide +kernel
theorem dX12_passes_15 : decode cX12_passes 15 = .ok (.iadd, 1) := by decide +kernel
theorem dX12_passes_16 : decode cX12_passes 16 = .ok (.iaload, 1) := by decide +kernel
theorem dX12_passes_17 : decode cX12_passes 17 = .ok (.istore_n 2, 1) := by decide +kernel
theorem dX12_passes_18 : decode cX12_passes 18 = .ok (.aload_n 0, 1) := by decide +kernel
theorem dX12_passes_19 : decode cX12_passes 19 = .ok (.getfield 13, 3) := by decide +kernel
theorem dX12_passes_22 : decode cX12_passes 22 = .ok (.bipush 56, 2) := by decide +kernel
theorem dX12_passes_24 : decode cX12_passes 24 = .ok (.iload_n 1, 1) := by decide +kernel
theorem dX12_passes_25 : decode cX12_passes 25 = .ok (.iadd, 1) := by decide +kernel
theorem dX12_passes_26 : decode cX12_passes 26 = .ok (.iconst (-1), 1) := by decide +kernel
theorem dX12_passes_27 : decode cX12_passes 27 = .ok (.iastore, 1) := by decide +kernel
theorem dX12_passes_28 : decode cX12_passes 28 = .ok (.iload_n 2, 1) := by decide +kernel
theorem dX12_passes_29 : decode cX12_passes 29 = .ok (.iconst (-1), 1) := by decide +kernel
theorem dX12_passes_30 : decode cX12_passes 30 = .ok (.if_icmp .ne 17, 3) := by decide +kernel
theorem dX12_passes_33 : decode cX12_passes 33 = .ok (.aload_n 0, 1) := by decide +kernel
theorem dX12_passes_34 : decode cX12_passes 34 = .ok (.getfield 13, 3) := by decide +kernel
theorem dX12_passes_37 : decode cX12_passes 37 = .ok (.bipush 67, 2) := by decide +kernel
theorem dX12_passes_39 : decode cX12_passes 39 = .ok (.dup2, 1) := by decide +kernel
theorem dX12_passes_40 : decode cX12_passes 40 = .ok (.iaload, 1) := by decide +kernel
theorem dX12_passes_41 : decode cX12_passes 41 = .ok (.iconst 1, 1) := by decide +kernel
theorem dX12_passes_42 : decode cX12_passes 42 = .ok (.iadd, 1) := by decide +kernel
theorem dX12_passes_43 : decode cX12_passes 43 = .ok (.iastore, 1) := by decide +kernel
theorem dX12_passes_44 : decode cX12_passes 44 = .ok (.goto 34, 3) := by decide +kernel
theorem dX12_passes_47 : decode cX12_passes 47 = .ok (.aload_n 0, 1) := by decide +kernel
theorem dX12_passes_48 : decode cX12_passes 48 = .ok (.getfield 13, 3) := by decide +kernel
theorem dX12_passes_51 : decode cX12_passes 51 = .ok (.bipush 73, 2) := by decide +kernel
theorem dX12_passes_53 : decode cX12_passes 53 = .ok (.aload_n 0, 1) := by decide +kernel
theorem dX12_passes_54 : decode cX12_passes 54 = .ok (.getfield 13, 3) := by decide +kernel
theorem dX12_passes_57 : decode cX12_passes 57 = .ok (.bipush 66, 2) := by decide +kernel
theorem dX12_passes_59 : decode cX12_passes 59 = .ok (.iaload, 1) := by decide +kernel
theorem dX12_passes_60 : decode cX12_passes 60 = .ok (.sipush 256, 3) := by decide +kernel
theorem dX12_passes_63 : decode cX12_passes 63 = .ok (.irem, 1) := by decide +kernel
theorem dX12_passes_64 : decode cX12_passes 64 = .ok (.iadd, 1) := by decide +kernel
theorem dX12_passes_65 : decode cX12_passes 65 = .ok (.iload_n 2, 1) := by decide +kernel
theorem dX12_passes_66 : decode cX12_passes 66 = .ok (.iastore, 1) := by decide +kernel
theorem dX12_passes_67 : decode cX12_passes 67 = .ok (.aload_n 0, 1) := by decide +kernel
theorem dX12_passes_68 : decode cX12_passes 68 = .ok (.getfield 13, 3) := by decide +kernel
theorem dX12_passes_71 : decode cX12_passes 71 = .ok (.bipush 66, 2) := by decide +kernel
theorem dX12_passes_73 : decode cX12_passes 73 = .ok (.dup2, 1) := by decide +kernel
theorem dX12_passes_74 : decode cX12_passes 74 = .ok (.iaload, 1) := by decide +kernel
theorem dX12_passes_75 : decode cX12_passes 75 = .ok (.iconst 1, 1) := by decide +kernel
theorem dX12_passes_76 : decode cX12_passes 76 = .ok (.iadd, 1) := by decide +kernel
theorem dX12_passes_77 : decode cX12_passes 77 = .ok (.iastore, 1) := by decide +kernel
theorem dX12_passes_78 : decode cX12_passes 78 = .ok (.aload_n 0, 1) := by decide +kernel
theorem dX12_passes_79 : decode cX12_passes 79 = .ok (.invokevirtual 176, 3) := by decide +kernel
theorem dX12_passes_82 : decode cX12_passes 82 = .ok (.return_, 1) := by decide +kernel
theorem dX12_givesAll_0 : decode cX12_givesAll 0 = .ok (.aload_n 0, 1) := by decide +kernel
theorem dX12_givesAll_1 : decode cX12_givesAll 1 = .ok (.getfield 13, 3) := by decide +kernel
theorem dX12_givesAll_4 : decode cX12_givesAll 4 = .ok (.bipush 56, 2) := by decide +kernel
theorem dX12_givesAll_6 : decode cX12_givesAll 6 = .ok (.aload_n 0, 1) := by decide +kernel
theorem dX12_givesAll_7 : decode cX12_givesAll 7 = .ok (.getfield 13, 3) := by decide +kernel
theorem dX12_givesAll_10 : decode cX12_givesAll 10 = .ok (.bipush 55, 2) := by decide +kernel
theorem dX12_givesAll_12 : decode cX12_givesAll 12 = .ok (.iaload, 1) := by decide +kernel
theorem dX12_givesAll_13 : decode cX12_givesAll 13 = .ok (.iadd, 1) := by decide +kernel
theorem dX12_givesAll_14 : decode cX12_givesAll 14 = .ok (.iaload, 1) := by decide +kernel
theorem dX12_givesAll_15 : decode cX12_givesAll 15 = .ok (.iconst (-1), 1) := by decide +kernel
theorem dX12_givesAll_16 : decode cX12_givesAll 16 = .ok (.if_icmp .eq 10, 3) := by decide +kernel
theorem dX12_givesAll_19 : decode cX12_givesAll 19 = .ok (.aload_n 0, 1) := by decide +kernel
theorem dX12_givesAll_20 : decode cX12_givesAll 20 = .ok (.invokevirtual 179, 3) := by decide +kernel
theorem dX12_givesAll_23 : decode cX12_givesAll 23 = .ok (.goto (-23), 3) := by decide +kernel
theorem dX12_givesAll_26 : decode cX12_givesAll 26 = .ok (.aload_n 0, 1) := by decide +kernel
theorem dX12_givesAll_27 : decode cX12_givesAll 27 = .ok (.getfield 13, 3) := by decide +kernel
theorem dX12_givesAll_30 : decode cX12_givesAll 30 = .ok (.bipush 64, 2) := by decide +kernel
theorem dX12_givesAll_32 : decode cX12_givesAll 32 = .ok (.iaload, 1) := by decide +kernel
theorem dX12_givesAll_33 : decode cX12_givesAll 33 = .ok (.iconst (-1), 1) := by decide +kernel
theorem dX12_givesAll_34 : decode cX12_givesAll 34 = .ok (.if_icmp .eq 4, 3) := by decide +kernel
theorem dX12_givesAll_37 : decode cX12_givesAll 37 = .ok (.return_, 1) := by decide +kernel
theorem dX12_givesAll_38 : decode cX12_givesAll 38 = .ok (.bipush 7, 2) := by decide +kernel
theorem dX12_givesAll_40 : decode cX12_givesAll 40 = .ok (.istore_n 1, 1) := by decide +kernel
theorem dX12_givesAll_41 : decode cX12_givesAll 41 = .ok (.iload_n 1, 1) := by decide +kernel
theorem dX12_givesAll_42 : decode cX12_givesAll 42 = .ok (.ifCond .le 71, 3) := by decide +kernel
theorem dX12_givesAll_45 : decode cX12_givesAll 45 = .ok (.aload_n 0, 1) := by decide +kernel
theorem dX12_givesAll_46 : decode cX12_givesAll 46 = .ok (.getfield 13, 3) := by decide +kernel
theorem dX12_givesAll_49 : decode cX12_givesAll 49 = .ok (.bipush 56, 2) := by decide +kernel
theorem dX12_givesAll_51 : decode cX12_givesAll 51 = .ok (.aload_n 0, 1) := by decide +kernel
theorem dX12_givesAll_52 : decode cX12_givesAll 52 = .ok (.getfield 13, 3) := by decide +kernel
theorem dX12_givesAll_55 : decode cX12_givesAll 55 = .ok (.bipush 55, 2) := by decide +kernel
theorem dX12_givesAll_57 : decode cX12_givesAll 57 = .ok (.iaload, 1) := by decide +kernel
theorem dX12_givesAll_58 : decode cX12_givesAll 58 = .ok (.iload_n 1, 1) := by decide +kernel
theorem dX12_givesAll_59 : decode cX12_givesAll 59 = .ok (.iadd, 1) := by decide +kernel
theorem dX12_givesAll_60 : decode cX12_givesAll 60 = .ok (.bipush 7, 2) := by decide +kernel
theorem dX12_givesAll_62 : decode cX12_givesAll 62 = .ok (.iand, 1) := by decide +kernel
theorem dX12_givesAll_63 : decode cX12_givesAll 63 = .ok (.iadd, 1) := by decide +kernel
theorem dX12_givesAll_64 : decode cX12_givesAll 64 = .ok (.iaload, 1) := by decide +kernel
theorem dX12_givesAll_65 : decode cX12_givesAll 65 = .ok (.iconst (-1), 1) := by decide +kernel
theorem dX12_givesAll_66 : decode cX12_givesAll 66 = .ok (.if_icmp .ne 6, 3) := by decide +kernel
theorem dX12_givesAll_69 : decode cX12_givesAll 69 = .ok (.goto 38, 3) := by decide +kernel
theorem dX12_givesAll_72 : decode cX12_givesAll 72 = .ok (.aload_n 0, 1) := by decide +kernel
theorem dX12_givesAll_73 : decode cX12_givesAll 73 = .ok (.getfield 13, 3) := by decide +kernel
theorem dX12_givesAll_76 : decode cX12_givesAll 76 = .ok (.bipush 64, 2) := by decide +kernel
theorem dX12_givesAll_78 : decode cX12_givesAll 78 = .ok (.aload_n 0, 1) := by decide +kernel
theorem dX12_givesAll_79 : decode cX12_givesAll 79 = .ok (.getfield 13, 3) := by decide +kernel
theorem dX12_givesAll_82 : decode cX12_givesAll 82 = .ok (.iconst 2, 1) := by decide +kernel
theorem dX12_givesAll_83 : decode cX12_givesAll 83 = .ok (.iaload, 1) := by decide +kernel
theorem dX12_givesAll_84 : decode cX12_givesAll 84 = .ok (.iastore, 1) := by decide +kernel
theorem dX12_givesAll_85 : decode cX12_givesAll 85 = .ok (.aload_n 0, 1) := by decide +kernel
theorem dX12_givesAll_86 : decode cX12_givesAll 86 = .ok (.getfield 13, 3) := by decide +kernel
theorem dX12_givesAll_89 : decode cX12_givesAll 89 = .ok (.bipush 65, 2) := by decide +kernel
theorem dX12_givesAll_91 : decode cX12_givesAll 91 = .ok (.aload_n 0, 1) := by decide +kernel
theorem dX12_givesAll_92 : decode cX12_givesAll 92 = .ok (.getfield 13, 3) := by decide +kernel
theorem dX12_givesAll_95 : decode cX12_givesAll 95 = .ok (.bipush 55, 2) := by decide +kernel
theorem dX12_givesAll_97 : decode cX12_givesAll 97 = .ok (.iaload, 1) := by decide +kernel
theorem dX12_givesAll_98 : decode cX12_givesAll 98 = .ok (.iload_n 1, 1) := by decide +kernel
theorem dX12_givesAll_99 : decode cX12_givesAll 99 = .ok (.iadd, 1) := by decide +kernel
theorem dX12_givesAll_100 : decode cX12_givesAll 100 = .ok (.iconst 1, 1) := by decide +kernel
theorem dX12_givesAll_101 : decode cX12_givesAll 101 = .ok (.iadd, 1) := by decide +kernel
theorem dX12_givesAll_102 : decode cX12_givesAll 102 = .ok (.bipush 7, 2) := by decide +kernel
theorem dX12_givesAll_104 : decode cX12_givesAll 104 = .ok (.iand, 1) := by decide +kernel
theorem dX12_givesAll_105 : decode cX12_givesAll 105 = .ok (.iastore, 1) := by decide +kernel
theorem dX12_givesAll_106 : decode cX12_givesAll 106 = .ok (.return_, 1) := by decide +kernel
theorem dX12_givesAll_107 : decode cX12_givesAll 107 = .ok (.iinc 1 (-1), 3) := by decide +kernel
theorem dX12_givesAll_110 : decode cX12_givesAll 110 = .ok (.goto (-69), 3) := by decide +kernel
theorem dX12_givesAll_113 : decode cX12_givesAll 113 = .ok (.return_, 1) := by decide +kernel
theorem dX12_comes_0 : decode cX12_comes 0 = .ok (.aload_n 0, 1) := by decide +kernel
theorem dX12_comes_1 : decode cX12_comes 1 = .ok (.getfield 13, 3) := by decide +kernel
theorem dX12_comes_4 : decode cX12_comes 4 = .ok (.bipush 55, 2) := by decide +kernel
theorem dX12_comes_6 : decode cX12_comes 6 = .ok (.iaload, 1) := by decide +kernel
theorem dX12_comes_7 : decode cX12_comes 7 = .ok (.iload_n 1, 1) := by decide +kernel
theorem dX12_comes_8 : decode cX12_comes 8 = .ok (.invokestatic 182, 3) := by decide +kernel
theorem dX12_comes_11 : decode cX12_comes 11 = .ok (.aload_n 0, 1) := by decide +kernel
theorem dX12_comes_12 : decode cX12_comes 12 = .ok (.getfield 13, 3) := by decide +kernel
theorem dX12_comes_15 : decode cX12_comes 15 = .ok (.iconst 1, 1) := by decide +kernel
theorem dX12_comes_16 : decode cX12_comes 16 = .ok (.iaload, 1) := by decide +kernel
theorem dX12_comes_17 : decode cX12_comes 17 = .ok (.if_icmp .lt 17, 3) := by decide +kernel
theorem dX12_comes_20 : decode cX12_comes 20 = .ok (.aload_n 0, 1) := by decide +kernel
theorem dX12_comes_21 : decode cX12_comes 21 = .ok (.getfield 13, 3) := by decide +kernel
theorem dX12_comes_24 : decode cX12_comes 24 = .ok (.bipush 68, 2) := by decide +kernel
theorem dX12_comes_26 : decode cX12_comes 26 = .ok (.dup2, 1) := by decide +kernel
theorem dX12_comes_27 : decode cX12_comes 27 = .ok (.iaload, 1) := by decide +kernel
theorem dX12_comes_28 : decode cX12_comes 28 = .ok (.iconst 1, 1) := by decide +kernel
theorem dX12_comes_29 : decode cX12_comes 29 = .ok (.iadd, 1) := by decide +kernel
theorem dX12_comes_30 : decode cX12_comes 30 = .ok (.iastore, 1) := by decide +kernel
theorem dX12_comes_31 : decode cX12_comes 31 = .ok (.goto 40, 3) := by decide +kernel
theorem dX12_comes_34 : decode cX12_comes 34 = .ok (.aload_n 0, 1) := by decide +kernel
theorem dX12_comes_35 : decode cX12_comes 35 = .ok (.getfield 13, 3) := by decide +kernel
theorem dX12_comes_38 : decode cX12_comes 38 = .ok (.bipush 56, 2) := by decide +kernel
theorem dX12_comes_40 : decode cX12_comes 40 = .ok (.iload_n 1, 1) := by decide +kernel
theorem dX12_comes_41 : decode cX12_comes 41 = .ok (.iadd, 1) := by decide +kernel
theorem dX12_comes_42 : decode cX12_comes 42 = .ok (.iaload, 1) := by decide +kernel
theorem dX12_comes_43 : decode cX12_comes 43 = .ok (.iconst (-1), 1) := by decide +kernel
theorem dX12_comes_44 : decode cX12_comes 44 = .ok (.if_icmp .eq 17, 3) := by decide +kernel
theorem dX12_comes_47 : decode cX12_comes 47 = .ok (.aload_n 0, 1) := by decide +kernel
theorem dX12_comes_48 : decode cX12_comes 48 = .ok (.getfield 13, 3) := by decide +kernel
theorem dX12_comes_51 : decode cX12_comes 51 = .ok (.bipush 69, 2) := by decide +kernel
theorem dX12_comes_53 : decode cX12_comes 53 = .ok (.dup2, 1) := by decide +kernel
theorem dX12_comes_54 : decode cX12_comes 54 = .ok (.iaload, 1) := by decide +kernel
theorem dX12_comes_55 : decode cX12_comes 55 = .ok (.iconst 1, 1) := by decide +kernel
theorem dX12_comes_56 : decode cX12_comes 56 = .ok (.iadd, 1) := by decide +kernel
theorem dX12_comes_57 : decode cX12_comes 57 = .ok (.iastore, 1) := by decide +kernel
theorem dX12_comes_58 : decode cX12_comes 58 = .ok (.goto 13, 3) := by decide +kernel
theorem dX12_comes_61 : decode cX12_comes 61 = .ok (.aload_n 0, 1) := by decide +kernel
theorem dX12_comes_62 : decode cX12_comes 62 = .ok (.getfield 13, 3) := by decide +kernel
theorem dX12_comes_65 : decode cX12_comes 65 = .ok (.bipush 56, 2) := by decide +kernel
theorem dX12_comes_67 : decode cX12_comes 67 = .ok (.iload_n 1, 1) := by decide +kernel
theorem dX12_comes_68 : decode cX12_comes 68 = .ok (.iadd, 1) := by decide +kernel
theorem dX12_comes_69 : decode cX12_comes 69 = .ok (.iload_n 2, 1) := by decide +kernel
theorem dX12_comes_70 : decode cX12_comes 70 = .ok (.iastore, 1) := by decide +kernel
theorem dX12_comes_71 : decode cX12_comes 71 = .ok (.aload_n 0, 1) := by decide +kernel
theorem dX12_comes_72 : decode cX12_comes 72 = .ok (.invokevirtual 185, 3) := by decide +kernel
theorem dX12_comes_75 : decode cX12_comes 75 = .ok (.return_, 1) := by decide +kernel
theorem dX12_ticks_0 : decode cX12_ticks 0 = .ok (.aload_n 0, 1) := by decide +kernel
theorem dX12_ticks_1 : decode cX12_ticks 1 = .ok (.getfield 13, 3) := by decide +kernel
theorem dX12_ticks_4 : decode cX12_ticks 4 = .ok (.bipush 64, 2) := by decide +kernel
theorem dX12_ticks_6 : decode cX12_ticks 6 = .ok (.iaload, 1) := by decide +kernel
theorem dX12_ticks_7 : decode cX12_ticks 7 = .ok (.iconst (-1), 1) := by decide +kernel
theorem dX12_ticks_8 : decode cX12_ticks 8 = .ok (.if_icmp .ne 4, 3) := by decide +kernel
theorem dX12_ticks_11 : decode cX12_ticks 11 = .ok (.return_, 1) := by decide +kernel
theorem dX12_ticks_12 : decode cX12_ticks 12 = .ok (.aload_n 0, 1) := by decide +kernel
theorem dX12_ticks_13 : decode cX12_ticks 13 = .ok (.getfield 13, 3) := by decide +kernel
theorem dX12_ticks_16 : decode cX12_ticks 16 = .ok (.bipush 64, 2) := by decide +kernel
theorem dX12_ticks_18 : decode cX12_ticks 18 = .ok (.dup2, 1) := by decide +kernel
theorem dX12_ticks_19 : decode cX12_ticks 19 = .ok (.iaload, 1) := by decide +kernel
theorem dX12_ticks_20 : decode cX12_ticks 20 = .ok (.iconst 1, 1) := by decide +kernel
theorem dX12_ticks_21 : decode cX12_ticks 21 = .ok (.isub, 1) := by decide +kernel
theorem dX12_ticks_22 : decode cX12_ticks 22 = .ok (.iastore, 1) := by decide +kernel
theorem dX12_ticks_23 : decode cX12_ticks 23 = .ok (.aload_n 0, 1) := by decide +kernel
theorem dX12_ticks_24 : decode cX12_ticks 24 = .ok (.getfield 13, 3) := by decide +kernel
theorem dX12_ticks_27 : decode cX12_ticks 27 = .ok (.bipush 64, 2) := by decide +kernel
theorem dX12_ticks_29 : decode cX12_ticks 29 = .ok (.iaload, 1) := by decide +kernel
theorem dX12_ticks_30 : decode cX12_ticks 30 = .ok (.ifCond .le 4, 3) := by decide +kernel
theorem dX12_ticks_33 : decode cX12_ticks 33 = .ok (.return_, 1) := by decide +kernel
theorem dX12_ticks_34 : decode cX12_ticks 34 = .ok (.aload_n 0, 1) := by decide +kernel
theorem dX12_ticks_35 : decode cX12_ticks 35 = .ok (.getfield 13, 3) := by decide +kernel
theorem dX12_ticks_38 : decode cX12_ticks 38 = .ok (.bipush 64, 2) := by decide +kernel
theorem dX12_ticks_40 : decode cX12_ticks 40 = .ok (.iaload, 1) := by decide +kernel
theorem dX12_ticks_41 : decode cX12_ticks 41 = .ok (.iconst (-1), 1) := by decide +kernel
theorem dX12_ticks_42 : decode cX12_ticks 42 = .ok (.if_icmp .eq 10, 3) := by decide +kernel
theorem dX12_ticks_45 : decode cX12_ticks 45 = .ok (.aload_n 0, 1) := by decide +kernel
theorem dX12_ticks_46 : decode cX12_ticks 46 = .ok (.invokevirtual 179, 3) := by decide +kernel
theorem dX12_ticks_49 : decode cX12_ticks 49 = .ok (.goto (-15), 3) := by decide +kernel
theorem dX12_ticks_52 : decode cX12_ticks 52 = .ok (.aload_n 0, 1) := by decide +kernel
theorem dX12_ticks_53 : decode cX12_ticks 53 = .ok (.invokevirtual 185, 3) := by decide +kernel
theorem dX12_ticks_56 : decode cX12_ticks 56 = .ok (.return_, 1) := by decide +kernel
theorem dX12_held_0 : decode cX12_held 0 = .ok (.iload_n 0, 1) := by decide +kernel
theorem dX12_held_1 : decode cX12_held 1 = .ok (.iload_n 1, 1) := by decide +kernel
theorem dX12_held_2 : decode cX12_held 2 = .ok (.if_icmp .le 7, 3) := by decide +kernel
theorem dX12_held_5 : decode cX12_held 5 = .ok (.iload_n 1, 1) := by decide +kernel
theorem dX12_held_6 : decode cX12_held 6 = .ok (.goto 15, 3) := by decide +kernel
theorem dX12_held_9 : decode cX12_held 9 = .ok (.iload_n 0, 1) := by decide +kernel
theorem dX12_held_10 : decode cX12_held 10 = .ok (.iload_n 1, 1) := by decide +kernel
theorem dX12_held_11 : decode cX12_held 11 = .ok (.ineg, 1) := by decide +kernel
theorem dX12_held_12 : decode cX12_held 12 = .ok (.if_icmp .ge 8, 3) := by decide +kernel
theorem dX12_held_15 : decode cX12_held 15 = .ok (.iload_n 1, 1) := by decide +kernel
theorem dX12_held_16 : decode cX12_held 16 = .ok (.ineg, 1) := by decide +kernel
theorem dX12_held_17 : decode cX12_held 17 = .ok (.goto 4, 3) := by decide +kernel
theorem dX12_held_20 : decode cX12_held 20 = .ok (.iload_n 0, 1) := by decide +kernel
theorem dX12_held_21 : decode cX12_held 21 = .ok (.ireturn, 1) := by decide +kernel
theorem dX12_hears_0 : decode cX12_hears 0 = .ok (.aload_n 0, 1) := by decide +kernel
theorem dX12_hears_1 : decode cX12_hears 1 = .ok (.iload_n 1, 1) := by decide +kernel
theorem dX12_hears_2 : decode cX12_hears 2 = .ok (.invokevirtual 188, 3) := by decide +kernel
theorem dX12_hears_5 : decode cX12_hears 5 = .ok (.istore 4, 2) := by decide +kernel
theorem dX12_hears_7 : decode cX12_hears 7 = .ok (.aload_n 0, 1) := by decide +kernel
theorem dX12_hears_8 : decode cX12_hears 8 = .ok (.getfield 13, 3) := by decide +kernel
theorem dX12_hears_11 : decode cX12_hears 11 = .ok (.iload 4, 2) := by decide +kernel
theorem dX12_hears_13 : decode cX12_hears 13 = .ok (.bipush 6, 2) := by decide +kernel
theorem dX12_hears_15 : decode cX12_hears 15 = .ok (.iadd, 1) := by decide +kernel
theorem dX12_hears_16 : decode cX12_hears 16 = .ok (.iaload, 1) := by decide +kernel
theorem dX12_hears_17 : decode cX12_hears 17 = .ok (.iload_n 2, 1) := by decide +kernel
theorem dX12_hears_18 : decode cX12_hears 18 = .ok (.if_icmp .eq 77, 3) := by decide +kernel
theorem dX12_hears_21 : decode cX12_hears 21 = .ok (.iconst 0, 1) := by decide +kernel
theorem dX12_hears_22 : decode cX12_hears 22 = .ok (.istore 5, 2) := by decide +kernel
theorem dX12_hears_24 : decode cX12_hears 24 = .ok (.iload 5, 2) := by decide +kernel
theorem dX12_hears_26 : decode cX12_hears 26 = .ok (.bipush 39, 2) := by decide +kernel
theorem dX12_hears_28 : decode cX12_hears 28 = .ok (.if_icmp .ge 23, 3) := by decide +kernel
theorem dX12_hears_31 : decode cX12_hears 31 = .ok (.aload_n 0, 1) := by decide +kernel
theorem dX12_hears_32 : decode cX12_hears 32 = .ok (.getfield 13, 3) := by decide +kernel
theorem dX12_hears_35 : decode cX12_hears 35 = .ok (.iload 4, 2) := by decide +kernel
theorem dX12_hears_37 : decode cX12_hears 37 = .ok (.bipush 10, 2) := by decide +kernel
theorem dX12_hears_39 : decode cX12_hears 39 = .ok (.iadd, 1) := by decide +kernel
theorem dX12_hears_40 : decode cX12_hears 40 = .ok (.iload 5, 2) := by decide +kernel
theorem dX12_hears_42 : decode cX12_hears 42 = .ok (.iadd, 1) := by decide +kernel
theorem dX12_hears_43 : decode cX12_hears 43 = .ok (.iconst 0, 1) := by decide +kernel
theorem dX12_hears_44 : decode cX12_hears 44 = .ok (.iastore, 1) := by decide +kernel
theorem dX12_hears_45 : decode cX12_hears 45 = .ok (.iinc 5 1, 3) := by decide +kernel
theorem dX12_hears_48 : decode cX12_hears 48 = .ok (.goto (-24), 3) := by decide +kernel
theorem dX12_hears_51 : decode cX12_hears 51 = .ok (.aload_n 0, 1) := by decide +kernel
theorem dX12_hears_52 : decode cX12_hears 52 = .ok (.getfield 13, 3) := by decide +kernel
theorem dX12_hears_55 : decode cX12_hears 55 = .ok (.iload 4, 2) := by decide +kernel
theorem dX12_hears_57 : decode cX12_hears 57 = .ok (.bipush 9, 2) := by decide +kernel
theorem dX12_hears_59 : decode cX12_hears 59 = .ok (.iadd, 1) := by decide +kernel
theorem dX12_hears_60 : decode cX12_hears 60 = .ok (.iconst 1, 1) := by decide +kernel
theorem dX12_hears_61 : decode cX12_hears 61 = .ok (.iastore, 1) := by decide +kernel
theorem dX12_hears_62 : decode cX12_hears 62 = .ok (.aload_n 0, 1) := by decide +kernel
theorem dX12_hears_63 : decode cX12_hears 63 = .ok (.getfield 13, 3) := by decide +kernel
theorem dX12_hears_66 : decode cX12_hears 66 = .ok (.iload 4, 2) := by decide +kernel
theorem dX12_hears_68 : decode cX12_hears 68 = .ok (.bipush 7, 2) := by decide +kernel
theorem dX12_hears_70 : decode cX12_hears 70 = .ok (.iadd, 1) := by decide +kernel
theorem dX12_hears_71 : decode cX12_hears 71 = .ok (.iconst 0, 1) := by decide +kernel
theorem dX12_hears_72 : decode cX12_hears 72 = .ok (.iastore, 1) := by decide +kernel
theorem dX12_hears_73 : decode cX12_hears 73 = .ok (.aload_n 0, 1) := by decide +kernel
theorem dX12_hears_74 : decode cX12_hears 74 = .ok (.getfield 13, 3) := by decide +kernel
theorem dX12_hears_77 : decode cX12_hears 77 = .ok (.iload 4, 2) := by decide +kernel
theorem dX12_hears_79 : decode cX12_hears 79 = .ok (.bipush 8, 2) := by decide +kernel
theorem dX12_hears_81 : decode cX12_hears 81 = .ok (.iadd, 1) := by decide +kernel
theorem dX12_hears_82 : decode cX12_hears 82 = .ok (.iconst 0, 1) := by decide +kernel
theorem dX12_hears_83 : decode cX12_hears 83 = .ok (.iastore, 1) := by decide +kernel
theorem dX12_hears_84 : decode cX12_hears 84 = .ok (.aload_n 0, 1) := by decide +kernel
theorem dX12_hears_85 : decode cX12_hears 85 = .ok (.getfield 13, 3) := by decide +kernel
theorem dX12_hears_88 : decode cX12_hears 88 = .ok (.iload 4, 2) := by decide +kernel
theorem dX12_hears_90 : decode cX12_hears 90 = .ok (.bipush 6, 2) := by decide +kernel
theorem dX12_hears_92 : decode cX12_hears 92 = .ok (.iadd, 1) := by decide +kernel
theorem dX12_hears_93 : decode cX12_hears 93 = .ok (.iload_n 2, 1) := by decide +kernel
theorem dX12_hears_94 : decode cX12_hears 94 = .ok (.iastore, 1) := by decide +kernel
theorem dX12_hears_95 : decode cX12_hears 95 = .ok (.aload_n 0, 1) := by decide +kernel
theorem dX12_hears_96 : decode cX12_hears 96 = .ok (.getfield 13, 3) := by decide +kernel
theorem dX12_hears_99 : decode cX12_hears 99 = .ok (.iload 4, 2) := by decide +kernel
theorem dX12_hears_101 : decode cX12_hears 101 = .ok (.bipush 8, 2) := by decide +kernel
theorem dX12_hears_103 : decode cX12_hears 103 = .ok (.iadd, 1) := by decide +kernel
theorem dX12_hears_104 : decode cX12_hears 104 = .ok (.iaload, 1) := by decide +kernel
theorem dX12_hears_105 : decode cX12_hears 105 = .ok (.iconst 1, 1) := by decide +kernel
theorem dX12_hears_106 : decode cX12_hears 106 = .ok (.if_icmp .ne 15, 3) := by decide +kernel
theorem dX12_hears_109 : decode cX12_hears 109 = .ok (.aload_n 0, 1) := by decide +kernel
theorem dX12_hears_110 : decode cX12_hears 110 = .ok (.getfield 13, 3) := by decide +kernel
theorem dX12_hears_113 : decode cX12_hears 113 = .ok (.bipush 72, 2) := by decide +kernel
theorem dX12_hears_115 : decode cX12_hears 115 = .ok (.dup2, 1) := by decide +kernel
theorem dX12_hears_116 : decode cX12_hears 116 = .ok (.iaload, 1) := by decide +kernel
theorem dX12_hears_117 : decode cX12_hears 117 = .ok (.iconst 1, 1) := by decide +kernel
theorem dX12_hears_118 : decode cX12_hears 118 = .ok (.iadd, 1) := by decide +kernel
theorem dX12_hears_119 : decode cX12_hears 119 = .ok (.iastore, 1) := by decide +kernel
theorem dX12_hears_120 : decode cX12_hears 120 = .ok (.return_, 1) := by decide +kernel
theorem dX12_hears_121 : decode cX12_hears 121 = .ok (.aload_n 0, 1) := by decide +kernel
theorem dX12_hears_122 : decode cX12_hears 122 = .ok (.getfield 13, 3) := by decide +kernel
theorem dX12_hears_125 : decode cX12_hears 125 = .ok (.iload 4, 2) := by decide +kernel
theorem dX12_hears_127 : decode cX12_hears 127 = .ok (.bipush 7, 2) := by decide +kernel
theorem dX12_hears_129 : decode cX12_hears 129 = .ok (.iadd, 1) := by decide +kernel
theorem dX12_hears_130 : decode cX12_hears 130 = .ok (.dup2, 1) := by decide +kernel
theorem dX12_hears_131 : decode cX12_hears 131 = .ok (.iaload, 1) := by decide +kernel
theorem dX12_hears_132 : decode cX12_hears 132 = .ok (.iconst 1, 1) := by decide +kernel
theorem dX12_hears_133 : decode cX12_hears 133 = .ok (.iadd, 1) := by decide +kernel
theorem dX12_hears_134 : decode cX12_hears 134 = .ok (.iastore, 1) := by decide +kernel
theorem dX12_hears_135 : decode cX12_hears 135 = .ok (.iconst 0, 1) := by decide +kernel
theorem dX12_hears_136 : decode cX12_hears 136 = .ok (.istore 5, 2) := by decide +kernel
theorem dX12_hears_138 : decode cX12_hears 138 = .ok (.iload 5, 2) := by decide +kernel
theorem dX12_hears_140 : decode cX12_hears 140 = .ok (.iload_n 3, 1) := by decide +kernel
theorem dX12_hears_141 : decode cX12_hears 141 = .ok (.if_icmp .ge 55, 3) := by decide +kernel
theorem dX12_hears_144 : decode cX12_hears 144 = .ok (.iload 4, 2) := by decide +kernel
theorem dX12_hears_146 : decode cX12_hears 146 = .ok (.bipush 10, 2) := by decide +kernel
theorem dX12_hears_148 : decode cX12_hears 148 = .ok (.iadd, 1) := by decide +kernel
theorem dX12_hears_149 : decode cX12_hears 149 = .ok (.aload_n 0, 1) := by decide +kernel
theorem dX12_hears_150 : decode cX12_hears 150 = .ok (.getfield 31, 3) := by decide +kernel
theorem dX12_hears_153 : decode cX12_hears 153 = .ok (.iload 5, 2) := by decide +kernel
theorem dX12_hears_155 : decode cX12_hears 155 = .ok (.iaload, 1) := by decide +kernel
theorem dX12_hears_156 : decode cX12_hears 156 = .ok (.iadd, 1) := by decide +kernel
theorem dX12_hears_157 : decode cX12_hears 157 = .ok (.istore 6, 2) := by decide +kernel
theorem dX12_hears_159 : decode cX12_hears 159 = .ok (.aload_n 0, 1) := by decide +kernel
theorem dX12_hears_160 : decode cX12_hears 160 = .ok (.getfield 13, 3) := by decide +kernel
theorem dX12_hears_163 : decode cX12_hears 163 = .ok (.iload 6, 2) := by decide +kernel
theorem dX12_hears_165 : decode cX12_hears 165 = .ok (.aload_n 0, 1) := by decide +kernel
theorem dX12_hears_166 : decode cX12_hears 166 = .ok (.getfield 13, 3) := by decide +kernel
theorem dX12_hears_169 : decode cX12_hears 169 = .ok (.iload 6, 2) := by decide +kernel
theorem dX12_hears_171 : decode cX12_hears 171 = .ok (.iaload, 1) := by decide +kernel
theorem dX12_hears_172 : decode cX12_hears 172 = .ok (.aload_n 0, 1) := by decide +kernel
theorem dX12_hears_173 : decode cX12_hears 173 = .ok (.getfield 52, 3) := by decide +kernel
theorem dX12_hears_176 : decode cX12_hears 176 = .ok (.iload 5, 2) := by decide +kernel
theorem dX12_hears_178 : decode cX12_hears 178 = .ok (.iaload, 1) := by decide +kernel
theorem dX12_hears_179 : decode cX12_hears 179 = .ok (.iadd, 1) := by decide +kernel
theorem dX12_hears_180 : decode cX12_hears 180 = .ok (.aload_n 0, 1) := by decide +kernel
theorem dX12_hears_181 : decode cX12_hears 181 = .ok (.getfield 13, 3) := by decide +kernel
theorem dX12_hears_184 : decode cX12_hears 184 = .ok (.iconst 5, 1) := by decide +kernel
theorem dX12_hears_185 : decode cX12_hears 185 = .ok (.iaload, 1) := by decide +kernel
theorem dX12_hears_186 : decode cX12_hears 186 = .ok (.invokestatic 191, 3) := by decide +kernel
theorem dX12_hears_189 : decode cX12_hears 189 = .ok (.iastore, 1) := by decide +kernel
theorem dX12_hears_190 : decode cX12_hears 190 = .ok (.iinc 5 1, 3) := by decide +kernel
theorem dX12_hears_193 : decode cX12_hears 193 = .ok (.goto (-55), 3) := by decide +kernel
theorem dX12_hears_196 : decode cX12_hears 196 = .ok (.aload_n 0, 1) := by decide +kernel
theorem dX12_hears_197 : decode cX12_hears 197 = .ok (.iload_n 1, 1) := by decide +kernel
theorem dX12_hears_198 : decode cX12_hears 198 = .ok (.invokevirtual 194, 3) := by decide +kernel
theorem dX12_hears_201 : decode cX12_hears 201 = .ok (.aload_n 0, 1) := by decide +kernel
theorem dX12_hears_202 : decode cX12_hears 202 = .ok (.invokevirtual 162, 3) := by decide +kernel
theorem dX12_hears_205 : decode cX12_hears 205 = .ok (.istore 5, 2) := by decide +kernel
theorem dX12_hears_207 : decode cX12_hears 207 = .ok (.iload 5, 2) := by decide +kernel
theorem dX12_hears_209 : decode cX12_hears 209 = .ok (.invokestatic 116, 3) := by decide +kernel
theorem dX12_hears_212 : decode cX12_hears 212 = .ok (.ifCond .ne 4, 3) := by decide +kernel
theorem dX12_hears_215 : decode cX12_hears 215 = .ok (.return_, 1) := by decide +kernel
theorem dX12_hears_216 : decode cX12_hears 216 = .ok (.aload_n 0, 1) := by decide +kernel
theorem dX12_hears_217 : decode cX12_hears 217 = .ok (.getfield 13, 3) := by decide +kernel
theorem dX12_hears_220 : decode cX12_hears 220 = .ok (.iload 4, 2) := by decide +kernel
theorem dX12_hears_222 : decode cX12_hears 222 = .ok (.bipush 8, 2) := by decide +kernel
theorem dX12_hears_224 : decode cX12_hears 224 = .ok (.iadd, 1) := by decide +kernel
theorem dX12_hears_225 : decode cX12_hears 225 = .ok (.iconst 1, 1) := by decide +kernel
theorem dX12_hears_226 : decode cX12_hears 226 = .ok (.iastore, 1) := by decide +kernel
theorem dX12_hears_227 : decode cX12_hears 227 = .ok (.aload_n 0, 1) := by decide +kernel
theorem dX12_hears_228 : decode cX12_hears 228 = .ok (.iload 5, 2) := by decide +kernel
theorem dX12_hears_230 : decode cX12_hears 230 = .ok (.bipush 8, 2) := by decide +kernel
theorem dX12_hears_232 : decode cX12_hears 232 = .ok (.ishr, 1) := by decide +kernel
theorem dX12_hears_233 : decode cX12_hears 233 = .ok (.iload 5, 2) := by decide +kernel
theorem dX12_hears_235 : decode cX12_hears 235 = .ok (.iconst 3, 1) := by decide +kernel
theorem dX12_hears_236 : decode cX12_hears 236 = .ok (.ishr, 1) := by decide +kernel
theorem dX12_hears_237 : decode cX12_hears 237 = .ok (.bipush 31, 2) := by decide +kernel
theorem dX12_hears_239 : decode cX12_hears 239 = .ok (.iand, 1) := by decide +kernel
theorem dX12_hears_240 : decode cX12_hears 240 = .ok (.invokevirtual 198, 3) := by decide +kernel
theorem dX12_hears_243 : decode cX12_hears 243 = .ok (.return_, 1) := by decide +kernel
theorem dX12_laysSoft_0 : decode cX12_laysSoft 0 = .ok (.iconst 0, 1) := by decide +kernel
theorem dX12_laysSoft_1 : decode cX12_laysSoft 1 = .ok (.istore_n 2, 1) := by decide +kernel
theorem dX12_laysSoft_2 : decode cX12_laysSoft 2 = .ok (.iload_n 2, 1) := by decide +kernel
theorem dX12_laysSoft_3 : decode cX12_laysSoft 3 = .ok (.bipush 39, 2) := by decide +kernel
theorem dX12_laysSoft_5 : decode cX12_laysSoft 5 = .ok (.if_icmp .ge 30, 3) := by decide +kernel
theorem dX12_laysSoft_8 : decode cX12_laysSoft 8 = .ok (.aload_n 0, 1) := by decide +kernel
theorem dX12_laysSoft_9 : decode cX12_laysSoft 9 = .ok (.getfield 37, 3) := by decide +kernel
theorem dX12_laysSoft_12 : decode cX12_laysSoft 12 = .ok (.iload_n 2, 1) := by decide +kernel
theorem dX12_laysSoft_13 : decode cX12_laysSoft 13 = .ok (.aload_n 0, 1) := by decide +kernel
theorem dX12_laysSoft_14 : decode cX12_laysSoft 14 = .ok (.getfield 13, 3) := by decide +kernel
theorem dX12_laysSoft_17 : decode cX12_laysSoft 17 = .ok (.aload_n 0, 1) := by decide +kernel
theorem dX12_laysSoft_18 : decode cX12_laysSoft 18 = .ok (.iload_n 1, 1) := by decide +kernel
theorem dX12_laysSoft_19 : decode cX12_laysSoft 19 = .ok (.invokevirtual 188, 3) := by decide +kernel
theorem dX12_laysSoft_22 : decode cX12_laysSoft 22 = .ok (.bipush 10, 2) := by decide +kernel
theorem dX12_laysSoft_24 : decode cX12_laysSoft 24 = .ok (.iadd, 1) := by decide +kernel
theorem dX12_laysSoft_25 : decode cX12_laysSoft 25 = .ok (.iload_n 2, 1) := by decide +kernel
theorem dX12_laysSoft_26 : decode cX12_laysSoft 26 = .ok (.iadd, 1) := by decide +kernel
theorem dX12_laysSoft_27 : decode cX12_laysSoft 27 = .ok (.iaload, 1) := by decide +kernel
theorem dX12_laysSoft_28 : decode cX12_laysSoft 28 = .ok (.iastore, 1) := by decide +kernel
theorem dX12_laysSoft_29 : decode cX12_laysSoft 29 = .ok (.iinc 2 1, 3) := by decide +kernel
theorem dX12_laysSoft_32 : decode cX12_laysSoft 32 = .ok (.goto (-30), 3) := by decide +kernel
theorem dX12_laysSoft_35 : decode cX12_laysSoft 35 = .ok (.return_, 1) := by decide +kernel
theorem dX12_canSend_0 : decode cX12_canSend 0 = .ok (.aload_n 0, 1) := by decide +kernel
theorem dX12_canSend_1 : decode cX12_canSend 1 = .ok (.getfield 13, 3) := by decide +kernel
theorem dX12_canSend_4 : decode cX12_canSend 4 = .ok (.aload_n 0, 1) := by decide +kernel
theorem dX12_canSend_5 : decode cX12_canSend 5 = .ok (.iload_n 1, 1) := by decide +kernel
theorem dX12_canSend_6 : decode cX12_canSend 6 = .ok (.invokevirtual 188, 3) := by decide +kernel
theorem dX12_canSend_9 : decode cX12_canSend 9 = .ok (.iconst 4, 1) := by decide +kernel
theorem dX12_canSend_10 : decode cX12_canSend 10 = .ok (.iadd, 1) := by decide +kernel
theorem dX12_canSend_11 : decode cX12_canSend 11 = .ok (.iaload, 1) := by decide +kernel
theorem dX12_canSend_12 : decode cX12_canSend 12 = .ok (.iconst 1, 1) := by decide +kernel
theorem dX12_canSend_13 : decode cX12_canSend 13 = .ok (.if_icmp .ne 5, 3) := by decide +kernel
theorem dX12_canSend_16 : decode cX12_canSend 16 = .ok (.iconst 0, 1) := by decide +kernel
theorem dX12_canSend_17 : decode cX12_canSend 17 = .ok (.ireturn, 1) := by decide +kernel
theorem dX12_canSend_18 : decode cX12_canSend 18 = .ok (.aload_n 0, 1) := by decide +kernel
theorem dX12_canSend_19 : decode cX12_canSend 19 = .ok (.getfield 13, 3) := by decide +kernel
theorem dX12_canSend_22 : decode cX12_canSend 22 = .ok (.aload_n 0, 1) := by decide +kernel
theorem dX12_canSend_23 : decode cX12_canSend 23 = .ok (.iload_n 1, 1) := by decide +kernel
theorem dX12_canSend_24 : decode cX12_canSend 24 = .ok (.invokevirtual 188, 3) := by decide +kernel
theorem dX12_canSend_27 : decode cX12_canSend 27 = .ok (.iconst 0, 1) := by decide +kernel
theorem dX12_canSend_28 : decode cX12_canSend 28 = .ok (.iadd, 1) := by decide +kernel
theorem dX12_canSend_29 : decode cX12_canSend 29 = .ok (.iaload, 1) := by decide +kernel
theorem dX12_canSend_30 : decode cX12_canSend 30 = .ok (.iconst (-1), 1) := by decide +kernel
theorem dX12_canSend_31 : decode cX12_canSend 31 = .ok (.if_icmp .ne 13, 3) := by decide +kernel
theorem dX12_canSend_34 : decode cX12_canSend 34 = .ok (.aload_n 0, 1) := by decide +kernel
theorem dX12_canSend_35 : decode cX12_canSend 35 = .ok (.getfield 13, 3) := by decide +kernel
theorem dX12_canSend_38 : decode cX12_canSend 38 = .ok (.bipush 30, 2) := by decide +kernel
theorem dX12_canSend_40 : decode cX12_canSend 40 = .ok (.iaload, 1) := by decide +kernel
theorem dX12_canSend_41 : decode cX12_canSend 41 = .ok (.ifCond .le 5, 3) := by decide +kernel
theorem dX12_canSend_44 : decode cX12_canSend 44 = .ok (.iconst 1, 1) := by decide +kernel
theorem dX12_canSend_45 : decode cX12_canSend 45 = .ok (.ireturn, 1) := by decide +kernel
theorem dX12_canSend_46 : decode cX12_canSend 46 = .ok (.aload_n 0, 1) := by decide +kernel
theorem dX12_canSend_47 : decode cX12_canSend 47 = .ok (.getfield 13, 3) := by decide +kernel
theorem dX12_canSend_50 : decode cX12_canSend 50 = .ok (.bipush 7, 2) := by decide +kernel
theorem dX12_canSend_52 : decode cX12_canSend 52 = .ok (.iaload, 1) := by decide +kernel
theorem dX12_canSend_53 : decode cX12_canSend 53 = .ok (.ifCond .le 33, 3) := by decide +kernel
theorem dX12_canSend_56 : decode cX12_canSend 56 = .ok (.aload_n 0, 1) := by decide +kernel
theorem dX12_canSend_57 : decode cX12_canSend 57 = .ok (.getfield 13, 3) := by decide +kernel
theorem dX12_canSend_60 : decode cX12_canSend 60 = .ok (.bipush 29, 2) := by decide +kernel
theorem dX12_canSend_62 : decode cX12_canSend 62 = .ok (.iaload, 1) := by decide +kernel
theorem dX12_canSend_63 : decode cX12_canSend 63 = .ok (.aload_n 0, 1) := by decide +kernel
theorem dX12_canSend_64 : decode cX12_canSend 64 = .ok (.getfield 13, 3) := by decide +kernel
theorem dX12_canSend_67 : decode cX12_canSend 67 = .ok (.bipush 28, 2) := by decide +kernel
theorem dX12_canSend_69 : decode cX12_canSend 69 = .ok (.iaload, 1) := by decide +kernel
theorem dX12_canSend_70 : decode cX12_canSend 70 = .ok (.invokestatic 182, 3) := by decide +kernel
theorem dX12_canSend_73 : decode cX12_canSend 73 = .ok (.aload_n 0, 1) := by decide +kernel
theorem dX12_canSend_74 : decode cX12_canSend 74 = .ok (.getfield 13, 3) := by decide +kernel
theorem dX12_canSend_77 : decode cX12_canSend 77 = .ok (.iconst 1, 1) := by decide +kernel
theorem dX12_canSend_78 : decode cX12_canSend 78 = .ok (.iaload, 1) := by decide +kernel
theorem dX12_canSend_79 : decode cX12_canSend 79 = .ok (.if_icmp .ge 7, 3) := by decide +kernel
theorem dX12_canSend_82 : decode cX12_canSend 82 = .ok (.iconst 1, 1) := by decide +kernel
theorem dX12_canSend_83 : decode cX12_canSend 83 = .ok (.goto 4, 3) := by decide +kernel
theorem dX12_canSend_86 : decode cX12_canSend 86 = .ok (.iconst 0, 1) := by decide +kernel
theorem dX12_canSend_87 : decode cX12_canSend 87 = .ok (.ireturn, 1) := by decide +kernel
theorem dX12_versionOf_0 : decode cX12_versionOf 0 = .ok (.iload_n 0, 1) := by decide +kernel
theorem dX12_versionOf_1 : decode cX12_versionOf 1 = .ok (.iconst 4, 1) := by decide +kernel
theorem dX12_versionOf_2 : decode cX12_versionOf 2 = .ok (.irem, 1) := by decide +kernel
theorem dX12_versionOf_3 : decode cX12_versionOf 3 = .ok (.tableswitch 31 0 2 #[25, 27, 29], 25) := by decide +kernel
theorem dX12_versionOf_28 : decode cX12_versionOf 28 = .ok (.iconst 0, 1) := by decide +kernel
theorem dX12_versionOf_29 : decode cX12_versionOf 29 = .ok (.ireturn, 1) := by decide +kernel
theorem dX12_versionOf_30 : decode cX12_versionOf 30 = .ok (.iconst 2, 1) := by decide +kernel
theorem dX12_versionOf_31 : decode cX12_versionOf 31 = .ok (.ireturn, 1) := by decide +kernel
theorem dX12_versionOf_32 : decode cX12_versionOf 32 = .ok (.iconst 3, 1) := by decide +kernel
theorem dX12_versionOf_33 : decode cX12_versionOf 33 = .ok (.ireturn, 1) := by decide +kernel
theorem dX12_versionOf_34 : decode cX12_versionOf 34 = .ok (.iconst 1, 1) := by decide +kernel
theorem dX12_versionOf_35 : decode cX12_versionOf 35 = .ok (.ireturn, 1) := by decide +kernel
theorem dX12_takesAgain_0 : decode cX12_takesAgain 0 = .ok (.aload_n 0, 1) := by decide +kernel
theorem dX12_takesAgain_1 : decode cX12_takesAgain 1 = .ok (.getfield 13, 3) := by decide +kernel
theorem dX12_takesAgain_4 : decode cX12_takesAgain 4 = .ok (.bipush 31, 2) := by decide +kernel
theorem dX12_takesAgain_6 : decode cX12_takesAgain 6 = .ok (.iaload, 1) := by decide +kernel
theorem dX12_takesAgain_7 : decode cX12_takesAgain 7 = .ok (.istore_n 1, 1) := by decide +kernel
theorem dX12_takesAgain_8 : decode cX12_takesAgain 8 = .ok (.aload_n 0, 1) := by decide +kernel
theorem dX12_takesAgain_9 : decode cX12_takesAgain 9 = .ok (.getfield 13, 3) := by decide +kernel
theorem dX12_takesAgain_12 : decode cX12_takesAgain 12 = .ok (.bipush 30, 2) := by decide +kernel
theorem dX12_takesAgain_14 : decode cX12_takesAgain 14 = .ok (.dup2, 1) := by decide +kernel
theorem dX12_takesAgain_15 : decode cX12_takesAgain 15 = .ok (.iaload, 1) := by decide +kernel
theorem dX12_takesAgain_16 : decode cX12_takesAgain 16 = .ok (.iconst 1, 1) := by decide +kernel
theorem dX12_takesAgain_17 : decode cX12_takesAgain 17 = .ok (.isub, 1) := by decide +kernel
theorem dX12_takesAgain_18 : decode cX12_takesAgain 18 = .ok (.iastore, 1) := by decide +kernel
theorem dX12_takesAgain_19 : decode cX12_takesAgain 19 = .ok (.iconst 0, 1) := by decide +kernel
theorem dX12_takesAgain_20 : decode cX12_takesAgain 20 = .ok (.istore_n 2, 1) := by decide +kernel
theorem dX12_takesAgain_21 : decode cX12_takesAgain 21 = .ok (.iload_n 2, 1) := by decide +kernel
theorem dX12_takesAgain_22 : decode cX12_takesAgain 22 = .ok (.aload_n 0, 1) := by decide +kernel
theorem dX12_takesAgain_23 : decode cX12_takesAgain 23 = .ok (.getfield 13, 3) := by decide +kernel
theorem dX12_takesAgain_26 : decode cX12_takesAgain 26 = .ok (.bipush 30, 2) := by decide +kernel
theorem dX12_takesAgain_28 : decode cX12_takesAgain 28 = .ok (.iaload, 1) := by decide +kernel
theorem dX12_takesAgain_29 : decode cX12_takesAgain 29 = .ok (.if_icmp .ge 29, 3) := by decide +kernel
theorem dX12_takesAgain_32 : decode cX12_takesAgain 32 = .ok (.aload_n 0, 1) := by decide +kernel
theorem dX12_takesAgain_33 : decode cX12_takesAgain 33 = .ok (.getfield 13, 3) := by decide +kernel
theorem dX12_takesAgain_36 : decode cX12_takesAgain 36 = .ok (.bipush 31, 2) := by decide +kernel
theorem dX12_takesAgain_38 : decode cX12_takesAgain 38 = .ok (.iload_n 2, 1) := by decide +kernel
theorem dX12_takesAgain_39 : decode cX12_takesAgain 39 = .ok (.iadd, 1) := by decide +kernel
theorem dX12_takesAgain_40 : decode cX12_takesAgain 40 = .ok (.aload_n 0, 1) := by decide +kernel
theorem dX12_takesAgain_41 : decode cX12_takesAgain 41 = .ok (.getfield 13, 3) := by decide +kernel
theorem dX12_takesAgain_44 : decode cX12_takesAgain 44 = .ok (.bipush 31, 2) := by decide +kernel
theorem dX12_takesAgain_46 : decode cX12_takesAgain 46 = .ok (.iload_n 2, 1) := by decide +kernel
theorem dX12_takesAgain_47 : decode cX12_takesAgain 47 = .ok (.iadd, 1) := by decide +kernel
theorem dX12_takesAgain_48 : decode cX12_takesAgain 48 = .ok (.iconst 1, 1) := by decide +kernel
theorem dX12_takesAgain_49 : decode cX12_takesAgain 49 = .ok (.iadd, 1) := by decide +kernel
theorem dX12_takesAgain_50 : decode cX12_takesAgain 50 = .ok (.iaload, 1) := by decide +kernel
theorem dX12_takesAgain_51 : decode cX12_takesAgain 51 = .ok (.iastore, 1) := by decide +kernel
theorem dX12_takesAgain_52 : decode cX12_takesAgain 52 = .ok (.iinc 2 1, 3) := by decide +kernel
theorem dX12_takesAgain_55 : decode cX12_takesAgain 55 = .ok (.goto (-34), 3) := by decide +kernel
theorem dX12_takesAgain_58 : decode cX12_takesAgain 58 = .ok (.iload_n 1, 1) := by decide +kernel
theorem dX12_takesAgain_59 : decode cX12_takesAgain 59 = .ok (.ireturn, 1) := by decide +kernel
theorem dX12_takesNew_0 : decode cX12_takesNew 0 = .ok (.aload_n 0, 1) := by decide +kernel
theorem dX12_takesNew_1 : decode cX12_takesNew 1 = .ok (.getfield 13, 3) := by decide +kernel
theorem dX12_takesNew_4 : decode cX12_takesNew 4 = .ok (.bipush 28, 2) := by decide +kernel
theorem dX12_takesNew_6 : decode cX12_takesNew 6 = .ok (.iaload, 1) := by decide +kernel
theorem dX12_takesNew_7 : decode cX12_takesNew 7 = .ok (.istore_n 1, 1) := by decide +kernel
theorem dX12_takesNew_8 : decode cX12_takesNew 8 = .ok (.aload_n 0, 1) := by decide +kernel
theorem dX12_takesNew_9 : decode cX12_takesNew 9 = .ok (.getfield 13, 3) := by decide +kernel
theorem dX12_takesNew_12 : decode cX12_takesNew 12 = .ok (.bipush 28, 2) := by decide +kernel
theorem dX12_takesNew_14 : decode cX12_takesNew 14 = .ok (.iload_n 1, 1) := by decide +kernel
theorem dX12_takesNew_15 : decode cX12_takesNew 15 = .ok (.iconst 1, 1) := by decide +kernel
theorem dX12_takesNew_16 : decode cX12_takesNew 16 = .ok (.iadd, 1) := by decide +kernel
theorem dX12_takesNew_17 : decode cX12_takesNew 17 = .ok (.bipush 7, 2) := by decide +kernel
theorem dX12_takesNew_19 : decode cX12_takesNew 19 = .ok (.iand, 1) := by decide +kernel
theorem dX12_takesNew_20 : decode cX12_takesNew 20 = .ok (.iastore, 1) := by decide +kernel
theorem dX12_takesNew_21 : decode cX12_takesNew 21 = .ok (.aload_n 0, 1) := by decide +kernel
theorem dX12_takesNew_22 : decode cX12_takesNew 22 = .ok (.getfield 13, 3) := by decide +kernel
theorem dX12_takesNew_25 : decode cX12_takesNew 25 = .ok (.bipush 39, 2) := by decide +kernel
theorem dX12_takesNew_27 : decode cX12_takesNew 27 = .ok (.iload_n 1, 1) := by decide +kernel
theorem dX12_takesNew_28 : decode cX12_takesNew 28 = .ok (.iadd, 1) := by decide +kernel
theorem dX12_takesNew_29 : decode cX12_takesNew 29 = .ok (.aload_n 0, 1) := by decide +kernel
theorem dX12_takesNew_30 : decode cX12_takesNew 30 = .ok (.getfield 13, 3) := by decide +kernel
theorem dX12_takesNew_33 : decode cX12_takesNew 33 = .ok (.bipush 8, 2) := by decide +kernel
theorem dX12_takesNew_35 : decode cX12_takesNew 35 = .ok (.iaload, 1) := by decide +kernel
theorem dX12_takesNew_36 : decode cX12_takesNew 36 = .ok (.iastore, 1) := by decide +kernel
theorem dX12_takesNew_37 : decode cX12_takesNew 37 = .ok (.aload_n 0, 1) := by decide +kernel
theorem dX12_takesNew_38 : decode cX12_takesNew 38 = .ok (.getfield 13, 3) := by decide +kernel
theorem dX12_takesNew_41 : decode cX12_takesNew 41 = .ok (.bipush 47, 2) := by decide +kernel
theorem dX12_takesNew_43 : decode cX12_takesNew 43 = .ok (.iload_n 1, 1) := by decide +kernel
theorem dX12_takesNew_44 : decode cX12_takesNew 44 = .ok (.iadd, 1) := by decide +kernel
theorem dX12_takesNew_45 : decode cX12_takesNew 45 = .ok (.iconst 0, 1) := by decide +kernel
theorem dX12_takesNew_46 : decode cX12_takesNew 46 = .ok (.iastore, 1) := by decide +kernel
theorem dX12_takesNew_47 : decode cX12_takesNew 47 = .ok (.aload_n 0, 1) := by decide +kernel
theorem dX12_takesNew_48 : decode cX12_takesNew 48 = .ok (.getfield 13, 3) := by decide +kernel
theorem dX12_takesNew_51 : decode cX12_takesNew 51 = .ok (.bipush 7, 2) := by decide +kernel
theorem dX12_takesNew_53 : decode cX12_takesNew 53 = .ok (.dup2, 1) := by decide +kernel
theorem dX12_takesNew_54 : decode cX12_takesNew 54 = .ok (.iaload, 1) := by decide +kernel
theorem dX12_takesNew_55 : decode cX12_takesNew 55 = .ok (.iconst 1, 1) := by decide +kernel
theorem dX12_takesNew_56 : decode cX12_takesNew 56 = .ok (.isub, 1) := by decide +kernel
theorem dX12_takesNew_57 : decode cX12_takesNew 57 = .ok (.iastore, 1) := by decide +kernel
theorem dX12_takesNew_58 : decode cX12_takesNew 58 = .ok (.iconst 0, 1) := by decide +kernel
theorem dX12_takesNew_59 : decode cX12_takesNew 59 = .ok (.istore_n 2, 1) := by decide +kernel
theorem dX12_takesNew_60 : decode cX12_takesNew 60 = .ok (.iload_n 2, 1) := by decide +kernel
theorem dX12_takesNew_61 : decode cX12_takesNew 61 = .ok (.aload_n 0, 1) := by decide +kernel
theorem dX12_takesNew_62 : decode cX12_takesNew 62 = .ok (.getfield 13, 3) := by decide +kernel
theorem dX12_takesNew_65 : decode cX12_takesNew 65 = .ok (.bipush 7, 2) := by decide +kernel
theorem dX12_takesNew_67 : decode cX12_takesNew 67 = .ok (.iaload, 1) := by decide +kernel
theorem dX12_takesNew_68 : decode cX12_takesNew 68 = .ok (.if_icmp .ge 29, 3) := by decide +kernel
theorem dX12_takesNew_71 : decode cX12_takesNew 71 = .ok (.aload_n 0, 1) := by decide +kernel
theorem dX12_takesNew_72 : decode cX12_takesNew 72 = .ok (.getfield 13, 3) := by decide +kernel
theorem dX12_takesNew_75 : decode cX12_takesNew 75 = .ok (.bipush 8, 2) := by decide +kernel
theorem dX12_takesNew_77 : decode cX12_takesNew 77 = .ok (.iload_n 2, 1) := by decide +kernel
theorem dX12_takesNew_78 : decode cX12_takesNew 78 = .ok (.iadd, 1) := by decide +kernel
theorem dX12_takesNew_79 : decode cX12_takesNew 79 = .ok (.aload_n 0, 1) := by decide +kernel
theorem dX12_takesNew_80 : decode cX12_takesNew 80 = .ok (.getfield 13, 3) := by decide +kernel
theorem dX12_takesNew_83 : decode cX12_takesNew 83 = .ok (.bipush 8, 2) := by decide +kernel
theorem dX12_takesNew_85 : decode cX12_takesNew 85 = .ok (.iload_n 2, 1) := by decide +kernel
theorem dX12_takesNew_86 : decode cX12_takesNew 86 = .ok (.iadd, 1) := by decide +kernel
theorem dX12_takesNew_87 : decode cX12_takesNew 87 = .ok (.iconst 1, 1) := by decide +kernel
theorem dX12_takesNew_88 : decode cX12_takesNew 88 = .ok (.iadd, 1) := by decide +kernel
theorem dX12_takesNew_89 : decode cX12_takesNew 89 = .ok (.iaload, 1) := by decide +kernel
theorem dX12_takesNew_90 : decode cX12_takesNew 90 = .ok (.iastore, 1) := by decide +kernel
theorem dX12_takesNew_91 : decode cX12_takesNew 91 = .ok (.iinc 2 1, 3) := by decide +kernel
theorem dX12_takesNew_94 : decode cX12_takesNew 94 = .ok (.goto (-34), 3) := by decide +kernel
theorem dX12_takesNew_97 : decode cX12_takesNew 97 = .ok (.iload_n 1, 1) := by decide +kernel
theorem dX12_takesNew_98 : decode cX12_takesNew 98 = .ok (.ireturn, 1) := by decide +kernel
theorem dX12_beginsSend_0 : decode cX12_beginsSend 0 = .ok (.aload_n 0, 1) := by decide +kernel
theorem dX12_beginsSend_1 : decode cX12_beginsSend 1 = .ok (.iload_n 1, 1) := by decide +kernel
theorem dX12_beginsSend_2 : decode cX12_beginsSend 2 = .ok (.invokevirtual 188, 3) := by decide +kernel
theorem dX12_beginsSend_5 : decode cX12_beginsSend 5 = .ok (.istore_n 3, 1) := by decide +kernel
theorem dX12_beginsSend_6 : decode cX12_beginsSend 6 = .ok (.aload_n 0, 1) := by decide +kernel
theorem dX12_beginsSend_7 : decode cX12_beginsSend 7 = .ok (.getfield 13, 3) := by decide +kernel
theorem dX12_beginsSend_10 : decode cX12_beginsSend 10 = .ok (.iload_n 3, 1) := by decide +kernel
theorem dX12_beginsSend_11 : decode cX12_beginsSend 11 = .ok (.iconst 0, 1) := by decide +kernel
theorem dX12_beginsSend_12 : decode cX12_beginsSend 12 = .ok (.iadd, 1) := by decide +kernel
theorem dX12_beginsSend_13 : decode cX12_beginsSend 13 = .ok (.iaload, 1) := by decide +kernel
theorem dX12_beginsSend_14 : decode cX12_beginsSend 14 = .ok (.iconst (-1), 1) := by decide +kernel
theorem dX12_beginsSend_15 : decode cX12_beginsSend 15 = .ok (.if_icmp .ne 106, 3) := by decide +kernel
theorem dX12_beginsSend_18 : decode cX12_beginsSend 18 = .ok (.aload_n 0, 1) := by decide +kernel
theorem dX12_beginsSend_19 : decode cX12_beginsSend 19 = .ok (.getfield 13, 3) := by decide +kernel
theorem dX12_beginsSend_22 : decode cX12_beginsSend 22 = .ok (.iload_n 3, 1) := by decide +kernel
theorem dX12_beginsSend_23 : decode cX12_beginsSend 23 = .ok (.iconst 2, 1) := by decide +kernel
theorem dX12_beginsSend_24 : decode cX12_beginsSend 24 = .ok (.iadd, 1) := by decide +kernel
theorem dX12_beginsSend_25 : decode cX12_beginsSend 25 = .ok (.dup2, 1) := by decide +kernel
theorem dX12_beginsSend_26 : decode cX12_beginsSend 26 = .ok (.iaload, 1) := by decide +kernel
theorem dX12_beginsSend_27 : decode cX12_beginsSend 27 = .ok (.iconst 1, 1) := by decide +kernel
theorem dX12_beginsSend_28 : decode cX12_beginsSend 28 = .ok (.ixor, 1) := by decide +kernel
theorem dX12_beginsSend_29 : decode cX12_beginsSend 29 = .ok (.iastore, 1) := by decide +kernel
theorem dX12_beginsSend_30 : decode cX12_beginsSend 30 = .ok (.aload_n 0, 1) := by decide +kernel
theorem dX12_beginsSend_31 : decode cX12_beginsSend 31 = .ok (.getfield 13, 3) := by decide +kernel
theorem dX12_beginsSend_34 : decode cX12_beginsSend 34 = .ok (.iload_n 3, 1) := by decide +kernel
theorem dX12_beginsSend_35 : decode cX12_beginsSend 35 = .ok (.iconst 3, 1) := by decide +kernel
theorem dX12_beginsSend_36 : decode cX12_beginsSend 36 = .ok (.iadd, 1) := by decide +kernel
theorem dX12_beginsSend_37 : decode cX12_beginsSend 37 = .ok (.iconst 0, 1) := by decide +kernel
theorem dX12_beginsSend_38 : decode cX12_beginsSend 38 = .ok (.iastore, 1) := by decide +kernel
theorem dX12_beginsSend_39 : decode cX12_beginsSend 39 = .ok (.aload_n 0, 1) := by decide +kernel
theorem dX12_beginsSend_40 : decode cX12_beginsSend 40 = .ok (.getfield 13, 3) := by decide +kernel
theorem dX12_beginsSend_43 : decode cX12_beginsSend 43 = .ok (.iload_n 3, 1) := by decide +kernel
theorem dX12_beginsSend_44 : decode cX12_beginsSend 44 = .ok (.iconst 0, 1) := by decide +kernel
theorem dX12_beginsSend_45 : decode cX12_beginsSend 45 = .ok (.iadd, 1) := by decide +kernel
theorem dX12_beginsSend_46 : decode cX12_beginsSend 46 = .ok (.aload_n 0, 1) := by decide +kernel
theorem dX12_beginsSend_47 : decode cX12_beginsSend 47 = .ok (.getfield 13, 3) := by decide +kernel
theorem dX12_beginsSend_50 : decode cX12_beginsSend 50 = .ok (.bipush 30, 2) := by decide +kernel
theorem dX12_beginsSend_52 : decode cX12_beginsSend 52 = .ok (.iaload, 1) := by decide +kernel
theorem dX12_beginsSend_53 : decode cX12_beginsSend 53 = .ok (.ifCond .le 10, 3) := by decide +kernel
theorem dX12_beginsSend_56 : decode cX12_beginsSend 56 = .ok (.aload_n 0, 1) := by decide +kernel
theorem dX12_beginsSend_57 : decode cX12_beginsSend 57 = .ok (.invokevirtual 201, 3) := by decide +kernel
theorem dX12_beginsSend_60 : decode cX12_beginsSend 60 = .ok (.goto 7, 3) := by decide +kernel
theorem dX12_beginsSend_63 : decode cX12_beginsSend 63 = .ok (.aload_n 0, 1) := by decide +kernel
theorem dX12_beginsSend_64 : decode cX12_beginsSend 64 = .ok (.invokevirtual 204, 3) := by decide +kernel
theorem dX12_beginsSend_67 : decode cX12_beginsSend 67 = .ok (.iastore, 1) := by decide +kernel
theorem dX12_beginsSend_68 : decode cX12_beginsSend 68 = .ok (.aload_n 0, 1) := by decide +kernel
theorem dX12_beginsSend_69 : decode cX12_beginsSend 69 = .ok (.getfield 13, 3) := by decide +kernel
theorem dX12_beginsSend_72 : decode cX12_beginsSend 72 = .ok (.iload_n 3, 1) := by decide +kernel
theorem dX12_beginsSend_73 : decode cX12_beginsSend 73 = .ok (.iconst 1, 1) := by decide +kernel
theorem dX12_beginsSend_74 : decode cX12_beginsSend 74 = .ok (.iadd, 1) := by decide +kernel
theorem dX12_beginsSend_75 : decode cX12_beginsSend 75 = .ok (.aload_n 0, 1) := by decide +kernel
theorem dX12_beginsSend_76 : decode cX12_beginsSend 76 = .ok (.getfield 13, 3) := by decide +kernel
theorem dX12_beginsSend_79 : decode cX12_beginsSend 79 = .ok (.bipush 39, 2) := by decide +kernel
theorem dX12_beginsSend_81 : decode cX12_beginsSend 81 = .ok (.aload_n 0, 1) := by decide +kernel
theorem dX12_beginsSend_82 : decode cX12_beginsSend 82 = .ok (.getfield 13, 3) := by decide +kernel
theorem dX12_beginsSend_85 : decode cX12_beginsSend 85 = .ok (.iload_n 3, 1) := by decide +kernel
theorem dX12_beginsSend_86 : decode cX12_beginsSend 86 = .ok (.iconst 0, 1) := by decide +kernel
theorem dX12_beginsSend_87 : decode cX12_beginsSend 87 = .ok (.iadd, 1) := by decide +kernel
theorem dX12_beginsSend_88 : decode cX12_beginsSend 88 = .ok (.iaload, 1) := by decide +kernel
theorem dX12_beginsSend_89 : decode cX12_beginsSend 89 = .ok (.iadd, 1) := by decide +kernel
theorem dX12_beginsSend_90 : decode cX12_beginsSend 90 = .ok (.iaload, 1) := by decide +kernel
theorem dX12_beginsSend_91 : decode cX12_beginsSend 91 = .ok (.iastore, 1) := by decide +kernel
theorem dX12_beginsSend_92 : decode cX12_beginsSend 92 = .ok (.iconst 0, 1) := by decide +kernel
theorem dX12_beginsSend_93 : decode cX12_beginsSend 93 = .ok (.istore 4, 2) := by decide +kernel
theorem dX12_beginsSend_95 : decode cX12_beginsSend 95 = .ok (.iload 4, 2) := by decide +kernel
theorem dX12_beginsSend_97 : decode cX12_beginsSend 97 = .ok (.bipush 39, 2) := by decide +kernel
theorem dX12_beginsSend_99 : decode cX12_beginsSend 99 = .ok (.if_icmp .ge 22, 3) := by decide +kernel
theorem dX12_beginsSend_102 : decode cX12_beginsSend 102 = .ok (.aload_n 0, 1) := by decide +kernel
theorem dX12_beginsSend_103 : decode cX12_beginsSend 103 = .ok (.getfield 13, 3) := by decide +kernel
theorem dX12_beginsSend_106 : decode cX12_beginsSend 106 = .ok (.iload_n 3, 1) := by decide +kernel
theorem dX12_beginsSend_107 : decode cX12_beginsSend 107 = .ok (.bipush 49, 2) := by decide +kernel
theorem dX12_beginsSend_109 : decode cX12_beginsSend 109 = .ok (.iadd, 1) := by decide +kernel
theorem dX12_beginsSend_110 : decode cX12_beginsSend 110 = .ok (.iload 4, 2) := by decide +kernel
theorem dX12_beginsSend_112 : decode cX12_beginsSend 112 = .ok (.iadd, 1) := by decide +kernel
theorem dX12_beginsSend_113 : decode cX12_beginsSend 113 = .ok (.iconst 0, 1) := by decide +kernel
theorem dX12_beginsSend_114 : decode cX12_beginsSend 114 = .ok (.iastore, 1) := by decide +kernel
theorem dX12_beginsSend_115 : decode cX12_beginsSend 115 = .ok (.iinc 4 1, 3) := by decide +kernel
theorem dX12_beginsSend_118 : decode cX12_beginsSend 118 = .ok (.goto (-23), 3) := by decide +kernel
theorem dX12_beginsSend_121 : decode cX12_beginsSend 121 = .ok (.aload_n 0, 1) := by decide +kernel
theorem dX12_beginsSend_122 : decode cX12_beginsSend 122 = .ok (.aload_n 0, 1) := by decide +kernel
theorem dX12_beginsSend_123 : decode cX12_beginsSend 123 = .ok (.getfield 13, 3) := by decide +kernel
theorem dX12_beginsSend_126 : decode cX12_beginsSend 126 = .ok (.iload_n 3, 1) := by decide +kernel
theorem dX12_beginsSend_127 : decode cX12_beginsSend 127 = .ok (.iconst 3, 1) := by decide +kernel
theorem dX12_beginsSend_128 : decode cX12_beginsSend 128 = .ok (.iadd, 1) := by decide +kernel
theorem dX12_beginsSend_129 : decode cX12_beginsSend 129 = .ok (.iaload, 1) := by decide +kernel
theorem dX12_beginsSend_130 : decode cX12_beginsSend 130 = .ok (.invokestatic 207, 3) := by decide +kernel
theorem dX12_beginsSend_133 : decode cX12_beginsSend 133 = .ok (.iload_n 2, 1) := by decide +kernel
theorem dX12_beginsSend_134 : decode cX12_beginsSend 134 = .ok (.invokevirtual 102, 3) := by decide +kernel
theorem dX12_beginsSend_137 : decode cX12_beginsSend 137 = .ok (.aload_n 0, 1) := by decide +kernel
theorem dX12_beginsSend_138 : decode cX12_beginsSend 138 = .ok (.getfield 13, 3) := by decide +kernel
theorem dX12_beginsSend_141 : decode cX12_beginsSend 141 = .ok (.iload_n 3, 1) := by decide +kernel
theorem dX12_beginsSend_142 : decode cX12_beginsSend 142 = .ok (.iconst 3, 1) := by decide +kernel
theorem dX12_beginsSend_143 : decode cX12_beginsSend 143 = .ok (.iadd, 1) := by decide +kernel
theorem dX12_beginsSend_144 : decode cX12_beginsSend 144 = .ok (.dup2, 1) := by decide +kernel
theorem dX12_beginsSend_145 : decode cX12_beginsSend 145 = .ok (.iaload, 1) := by decide +kernel
theorem dX12_beginsSend_146 : decode cX12_beginsSend 146 = .ok (.iconst 1, 1) := by decide +kernel
theorem dX12_beginsSend_147 : decode cX12_beginsSend 147 = .ok (.iadd, 1) := by decide +kernel
theorem dX12_beginsSend_148 : decode cX12_beginsSend 148 = .ok (.iastore, 1) := by decide +kernel
theorem dX12_beginsSend_149 : decode cX12_beginsSend 149 = .ok (.aload_n 0, 1) := by decide +kernel
theorem dX12_beginsSend_150 : decode cX12_beginsSend 150 = .ok (.getfield 13, 3) := by decide +kernel
theorem dX12_beginsSend_153 : decode cX12_beginsSend 153 = .ok (.iload_n 3, 1) := by decide +kernel
theorem dX12_beginsSend_154 : decode cX12_beginsSend 154 = .ok (.iconst 4, 1) := by decide +kernel
theorem dX12_beginsSend_155 : decode cX12_beginsSend 155 = .ok (.iadd, 1) := by decide +kernel
theorem dX12_beginsSend_156 : decode cX12_beginsSend 156 = .ok (.iconst 1, 1) := by decide +kernel
theorem dX12_beginsSend_157 : decode cX12_beginsSend 157 = .ok (.iastore, 1) := by decide +kernel
theorem dX12_beginsSend_158 : decode cX12_beginsSend 158 = .ok (.aload_n 0, 1) := by decide +kernel
theorem dX12_beginsSend_159 : decode cX12_beginsSend 159 = .ok (.getfield 13, 3) := by decide +kernel
theorem dX12_beginsSend_162 : decode cX12_beginsSend 162 = .ok (.iload_n 3, 1) := by decide +kernel
theorem dX12_beginsSend_163 : decode cX12_beginsSend 163 = .ok (.iconst 0, 1) := by decide +kernel
theorem dX12_beginsSend_164 : decode cX12_beginsSend 164 = .ok (.iadd, 1) := by decide +kernel
theorem dX12_beginsSend_165 : decode cX12_beginsSend 165 = .ok (.iaload, 1) := by decide +kernel
theorem dX12_beginsSend_166 : decode cX12_beginsSend 166 = .ok (.aload_n 0, 1) := by decide +kernel
theorem dX12_beginsSend_167 : decode cX12_beginsSend 167 = .ok (.getfield 13, 3) := by decide +kernel
theorem dX12_beginsSend_170 : decode cX12_beginsSend 170 = .ok (.iload_n 3, 1) := by decide +kernel
theorem dX12_beginsSend_171 : decode cX12_beginsSend 171 = .ok (.iconst 1, 1) := by decide +kernel
theorem dX12_beginsSend_172 : decode cX12_beginsSend 172 = .ok (.iadd, 1) := by decide +kernel
theorem dX12_beginsSend_173 : decode cX12_beginsSend 173 = .ok (.iaload, 1) := by decide +kernel
theorem dX12_beginsSend_174 : decode cX12_beginsSend 174 = .ok (.invokestatic 112, 3) := by decide +kernel
theorem dX12_beginsSend_177 : decode cX12_beginsSend 177 = .ok (.istore 4, 2) := by decide +kernel
theorem dX12_beginsSend_179 : decode cX12_beginsSend 179 = .ok (.iconst 0, 1) := by decide +kernel
theorem dX12_beginsSend_180 : decode cX12_beginsSend 180 = .ok (.istore 5, 2) := by decide +kernel
theorem dX12_beginsSend_182 : decode cX12_beginsSend 182 = .ok (.iload 5, 2) := by decide +kernel
theorem dX12_beginsSend_184 : decode cX12_beginsSend 184 = .ok (.iload_n 2, 1) := by decide +kernel
theorem dX12_beginsSend_185 : decode cX12_beginsSend 185 = .ok (.if_icmp .ge 59, 3) := by decide +kernel
theorem dX12_beginsSend_188 : decode cX12_beginsSend 188 = .ok (.aload_n 0, 1) := by decide +kernel
theorem dX12_beginsSend_189 : decode cX12_beginsSend 189 = .ok (.getfield 13, 3) := by decide +kernel
theorem dX12_beginsSend_192 : decode cX12_beginsSend 192 = .ok (.iload_n 3, 1) := by decide +kernel
theorem dX12_beginsSend_193 : decode cX12_beginsSend 193 = .ok (.bipush 49, 2) := by decide +kernel
theorem dX12_beginsSend_195 : decode cX12_beginsSend 195 = .ok (.iadd, 1) := by decide +kernel
theorem dX12_beginsSend_196 : decode cX12_beginsSend 196 = .ok (.aload_n 0, 1) := by decide +kernel
theorem dX12_beginsSend_197 : decode cX12_beginsSend 197 = .ok (.getfield 31, 3) := by decide +kernel
theorem dX12_beginsSend_200 : decode cX12_beginsSend 200 = .ok (.iload 5, 2) := by decide +kernel
theorem dX12_beginsSend_202 : decode cX12_beginsSend 202 = .ok (.iaload, 1) := by decide +kernel
theorem dX12_beginsSend_203 : decode cX12_beginsSend 203 = .ok (.iadd, 1) := by decide +kernel
theorem dX12_beginsSend_204 : decode cX12_beginsSend 204 = .ok (.dup2, 1) := by decide +kernel
theorem dX12_beginsSend_205 : decode cX12_beginsSend 205 = .ok (.iaload, 1) := by decide +kernel
theorem dX12_beginsSend_206 : decode cX12_beginsSend 206 = .ok (.iconst 1, 1) := by decide +kernel
theorem dX12_beginsSend_207 : decode cX12_beginsSend 207 = .ok (.iadd, 1) := by decide +kernel
theorem dX12_beginsSend_208 : decode cX12_beginsSend 208 = .ok (.iastore, 1) := by decide +kernel
theorem dX12_beginsSend_209 : decode cX12_beginsSend 209 = .ok (.aload_n 0, 1) := by decide +kernel
theorem dX12_beginsSend_210 : decode cX12_beginsSend 210 = .ok (.getfield 52, 3) := by decide +kernel
theorem dX12_beginsSend_213 : decode cX12_beginsSend 213 = .ok (.iload 5, 2) := by decide +kernel
theorem dX12_beginsSend_215 : decode cX12_beginsSend 215 = .ok (.iload 4, 2) := by decide +kernel
theorem dX12_beginsSend_217 : decode cX12_beginsSend 217 = .ok (.aload_n 0, 1) := by decide +kernel
theorem dX12_beginsSend_218 : decode cX12_beginsSend 218 = .ok (.getfield 31, 3) := by decide +kernel
theorem dX12_beginsSend_221 : decode cX12_beginsSend 221 = .ok (.iload 5, 2) := by decide +kernel
theorem dX12_beginsSend_223 : decode cX12_beginsSend 223 = .ok (.iaload, 1) := by decide +kernel
theorem dX12_beginsSend_224 : decode cX12_beginsSend 224 = .ok (.invokestatic 82, 3) := by decide +kernel
theorem dX12_beginsSend_227 : decode cX12_beginsSend 227 = .ok (.aload_n 0, 1) := by decide +kernel
theorem dX12_beginsSend_228 : decode cX12_beginsSend 228 = .ok (.getfield 13, 3) := by decide +kernel
theorem dX12_beginsSend_231 : decode cX12_beginsSend 231 = .ok (.bipush 6, 2) := by decide +kernel
theorem dX12_beginsSend_233 : decode cX12_beginsSend 233 = .ok (.iaload, 1) := by decide +kernel
theorem dX12_beginsSend_234 : decode cX12_beginsSend 234 = .ok (.invokestatic 154, 3) := by decide +kernel
theorem dX12_beginsSend_237 : decode cX12_beginsSend 237 = .ok (.iastore, 1) := by decide +kernel
theorem dX12_beginsSend_238 : decode cX12_beginsSend 238 = .ok (.iinc 5 1, 3) := by decide +kernel
theorem dX12_beginsSend_241 : decode cX12_beginsSend 241 = .ok (.goto (-59), 3) := by decide +kernel
theorem dX12_beginsSend_244 : decode cX12_beginsSend 244 = .ok (.return_, 1) := by decide +kernel
theorem dX12_endsSend_0 : decode cX12_endsSend 0 = .ok (.aload_n 0, 1) := by decide +kernel
theorem dX12_endsSend_1 : decode cX12_endsSend 1 = .ok (.iload_n 1, 1) := by decide +kernel
theorem dX12_endsSend_2 : decode cX12_endsSend 2 = .ok (.invokevirtual 188, 3) := by decide +kernel
theorem dX12_endsSend_5 : decode cX12_endsSend 5 = .ok (.istore 4, 2) := by decide +kernel
theorem dX12_endsSend_7 : decode cX12_endsSend 7 = .ok (.aload_n 0, 1) := by decide +kernel
theorem dX12_endsSend_8 : decode cX12_endsSend 8 = .ok (.getfield 13, 3) := by decide +kernel
theorem dX12_endsSend_11 : decode cX12_endsSend 11 = .ok (.iload 4, 2) := by decide +kernel
theorem dX12_endsSend_13 : decode cX12_endsSend 13 = .ok (.iconst 5, 1) := by decide +kernel
theorem dX12_endsSend_14 : decode cX12_endsSend 14 = .ok (.iadd, 1) := by decide +kernel
theorem dX12_endsSend_15 : decode cX12_endsSend 15 = .ok (.iload_n 3, 1) := by decide +kernel
theorem dX12_endsSend_16 : decode cX12_endsSend 16 = .ok (.ifCond .eq 17, 3) := by decide +kernel
theorem dX12_endsSend_19 : decode cX12_endsSend 19 = .ok (.aload_n 0, 1) := by decide +kernel
theorem dX12_endsSend_20 : decode cX12_endsSend 20 = .ok (.getfield 13, 3) := by decide +kernel
theorem dX12_endsSend_23 : decode cX12_endsSend 23 = .ok (.bipush 6, 2) := by decide +kernel
theorem dX12_endsSend_25 : decode cX12_endsSend 25 = .ok (.iaload, 1) := by decide +kernel
theorem dX12_endsSend_26 : decode cX12_endsSend 26 = .ok (.ifCond .le 7, 3) := by decide +kernel
theorem dX12_endsSend_29 : decode cX12_endsSend 29 = .ok (.iconst 1, 1) := by decide +kernel
theorem dX12_endsSend_30 : decode cX12_endsSend 30 = .ok (.goto 4, 3) := by decide +kernel
theorem dX12_endsSend_33 : decode cX12_endsSend 33 = .ok (.iconst 0, 1) := by decide +kernel
theorem dX12_endsSend_34 : decode cX12_endsSend 34 = .ok (.iastore, 1) := by decide +kernel
theorem dX12_endsSend_35 : decode cX12_endsSend 35 = .ok (.aload_n 0, 1) := by decide +kernel
theorem dX12_endsSend_36 : decode cX12_endsSend 36 = .ok (.getfield 13, 3) := by decide +kernel
theorem dX12_endsSend_39 : decode cX12_endsSend 39 = .ok (.iload 4, 2) := by decide +kernel
theorem dX12_endsSend_41 : decode cX12_endsSend 41 = .ok (.iconst 5, 1) := by decide +kernel
theorem dX12_endsSend_42 : decode cX12_endsSend 42 = .ok (.iadd, 1) := by decide +kernel
theorem dX12_endsSend_43 : decode cX12_endsSend 43 = .ok (.iaload, 1) := by decide +kernel
theorem dX12_endsSend_44 : decode cX12_endsSend 44 = .ok (.ifCond .ne 4, 3) := by decide +kernel
theorem dX12_endsSend_47 : decode cX12_endsSend 47 = .ok (.return_, 1) := by decide +kernel
theorem dX12_endsSend_48 : decode cX12_endsSend 48 = .ok (.iconst 0, 1) := by decide +kernel
theorem dX12_endsSend_49 : decode cX12_endsSend 49 = .ok (.istore 5, 2) := by decide +kernel
theorem dX12_endsSend_51 : decode cX12_endsSend 51 = .ok (.iload 5, 2) := by decide +kernel
theorem dX12_endsSend_53 : decode cX12_endsSend 53 = .ok (.iload_n 2, 1) := by decide +kernel
theorem dX12_endsSend_54 : decode cX12_endsSend 54 = .ok (.if_icmp .ge 28, 3) := by decide +kernel
theorem dX12_endsSend_57 : decode cX12_endsSend 57 = .ok (.aload_n 0, 1) := by decide +kernel
theorem dX12_endsSend_58 : decode cX12_endsSend 58 = .ok (.getfield 52, 3) := by decide +kernel
theorem dX12_endsSend_61 : decode cX12_endsSend 61 = .ok (.iload 5, 2) := by decide +kernel
theorem dX12_endsSend_63 : decode cX12_endsSend 63 = .ok (.aload_n 0, 1) := by decide +kernel
theorem dX12_endsSend_64 : decode cX12_endsSend 64 = .ok (.getfield 52, 3) := by decide +kernel
theorem dX12_endsSend_67 : decode cX12_endsSend 67 = .ok (.iload 5, 2) := by decide +kernel
theorem dX12_endsSend_69 : decode cX12_endsSend 69 = .ok (.iaload, 1) := by decide +kernel
theorem dX12_endsSend_70 : decode cX12_endsSend 70 = .ok (.bipush 127, 2) := by decide +kernel
theorem dX12_endsSend_72 : decode cX12_endsSend 72 = .ok (.invokestatic 191, 3) := by decide +kernel
theorem dX12_endsSend_75 : decode cX12_endsSend 75 = .ok (.iastore, 1) := by decide +kernel
theorem dX12_endsSend_76 : decode cX12_endsSend 76 = .ok (.iinc 5 1, 3) := by decide +kernel
theorem dX12_endsSend_79 : decode cX12_endsSend 79 = .ok (.goto (-28), 3) := by decide +kernel
theorem dX12_endsSend_82 : decode cX12_endsSend 82 = .ok (.aload_n 0, 1) := by decide +kernel
theorem dX12_endsSend_83 : decode cX12_endsSend 83 = .ok (.iload_n 1, 1) := by decide +kernel
theorem dX12_endsSend_84 : decode cX12_endsSend 84 = .ok (.aload_n 0, 1) := by decide +kernel
theorem dX12_endsSend_85 : decode cX12_endsSend 85 = .ok (.getfield 13, 3) := by decide +kernel
theorem dX12_endsSend_88 : decode cX12_endsSend 88 = .ok (.iload 4, 2) := by decide +kernel
theorem dX12_endsSend_90 : decode cX12_endsSend 90 = .ok (.iconst 2, 1) := by decide +kernel
theorem dX12_endsSend_91 : decode cX12_endsSend 91 = .ok (.iadd, 1) := by decide +kernel
theorem dX12_endsSend_92 : decode cX12_endsSend 92 = .ok (.iaload, 1) := by decide +kernel
theorem dX12_endsSend_93 : decode cX12_endsSend 93 = .ok (.iload_n 2, 1) := by decide +kernel
theorem dX12_endsSend_94 : decode cX12_endsSend 94 = .ok (.invokevirtual 210, 3) := by decide +kernel
theorem dX12_endsSend_97 : decode cX12_endsSend 97 = .ok (.return_, 1) := by decide +kernel
theorem dX12_isIdle_0 : decode cX12_isIdle 0 = .ok (.aload_n 0, 1) := by decide +kernel
theorem dX12_isIdle_1 : decode cX12_isIdle 1 = .ok (.getfield 13, 3) := by decide +kernel
theorem dX12_isIdle_4 : decode cX12_isIdle 4 = .ok (.aload_n 0, 1) := by decide +kernel
theorem dX12_isIdle_5 : decode cX12_isIdle 5 = .ok (.iload_n 1, 1) := by decide +kernel
theorem dX12_isIdle_6 : decode cX12_isIdle 6 = .ok (.invokevirtual 188, 3) := by decide +kernel
theorem dX12_isIdle_9 : decode cX12_isIdle 9 = .ok (.iconst 0, 1) := by decide +kernel
theorem dX12_isIdle_10 : decode cX12_isIdle 10 = .ok (.iadd, 1) := by decide +kernel
theorem dX12_isIdle_11 : decode cX12_isIdle 11 = .ok (.iconst (-1), 1) := by decide +kernel
theorem dX12_isIdle_12 : decode cX12_isIdle 12 = .ok (.iastore, 1) := by decide +kernel
theorem dX12_isIdle_13 : decode cX12_isIdle 13 = .ok (.aload_n 0, 1) := by decide +kernel
theorem dX12_isIdle_14 : decode cX12_isIdle 14 = .ok (.getfield 13, 3) := by decide +kernel
theorem dX12_isIdle_17 : decode cX12_isIdle 17 = .ok (.aload_n 0, 1) := by decide +kernel
theorem dX12_isIdle_18 : decode cX12_isIdle 18 = .ok (.iload_n 1, 1) := by decide +kernel
theorem dX12_isIdle_19 : decode cX12_isIdle 19 = .ok (.invokevirtual 188, 3) := by decide +kernel
theorem dX12_isIdle_22 : decode cX12_isIdle 22 = .ok (.iconst 3, 1) := by decide +kernel
theorem dX12_isIdle_23 : decode cX12_isIdle 23 = .ok (.iadd, 1) := by decide +kernel
theorem dX12_isIdle_24 : decode cX12_isIdle 24 = .ok (.iconst 0, 1) := by decide +kernel
theorem dX12_isIdle_25 : decode cX12_isIdle 25 = .ok (.iastore, 1) := by decide +kernel
theorem dX12_isIdle_26 : decode cX12_isIdle 26 = .ok (.aload_n 0, 1) := by decide +kernel
theorem dX12_isIdle_27 : decode cX12_isIdle 27 = .ok (.getfield 13, 3) := by decide +kernel
theorem dX12_isIdle_30 : decode cX12_isIdle 30 = .ok (.aload_n 0, 1) := by decide +kernel
theorem dX12_isIdle_31 : decode cX12_isIdle 31 = .ok (.iload_n 1, 1) := by decide +kernel
theorem dX12_isIdle_32 : decode cX12_isIdle 32 = .ok (.invokevirtual 188, 3) := by decide +kernel
theorem dX12_isIdle_35 : decode cX12_isIdle 35 = .ok (.iconst 4, 1) := by decide +kernel
theorem dX12_isIdle_36 : decode cX12_isIdle 36 = .ok (.iadd, 1) := by decide +kernel
theorem dX12_isIdle_37 : decode cX12_isIdle 37 = .ok (.iconst 0, 1) := by decide +kernel
theorem dX12_isIdle_38 : decode cX12_isIdle 38 = .ok (.iastore, 1) := by decide +kernel
theorem dX12_isIdle_39 : decode cX12_isIdle 39 = .ok (.return_, 1) := by decide +kernel
theorem dX12_reads_0 : decode cX12_reads 0 = .ok (.aload_n 0, 1) := by decide +kernel
theorem dX12_reads_1 : decode cX12_reads 1 = .ok (.iload_n 1, 1) := by decide +kernel
theorem dX12_reads_2 : decode cX12_reads 2 = .ok (.invokevirtual 188, 3) := by decide +kernel
theorem dX12_reads_5 : decode cX12_reads 5 = .ok (.istore_n 3, 1) := by decide +kernel
theorem dX12_reads_6 : decode cX12_reads 6 = .ok (.aload_n 0, 1) := by decide +kernel
theorem dX12_reads_7 : decode cX12_reads 7 = .ok (.getfield 13, 3) := by decide +kernel
theorem dX12_reads_10 : decode cX12_reads 10 = .ok (.iload_n 3, 1) := by decide +kernel
theorem dX12_reads_11 : decode cX12_reads 11 = .ok (.iconst 5, 1) := by decide +kernel
theorem dX12_reads_12 : decode cX12_reads 12 = .ok (.iadd, 1) := by decide +kernel
theorem dX12_reads_13 : decode cX12_reads 13 = .ok (.iaload, 1) := by decide +kernel
theorem dX12_reads_14 : decode cX12_reads 14 = .ok (.ifCond .ne 7, 3) := by decide +kernel
theorem dX12_reads_17 : decode cX12_reads 17 = .ok (.iconst (-1), 1) := by decide +kernel
theorem dX12_reads_18 : decode cX12_reads 18 = .ok (.goto 12, 3) := by decide +kernel
theorem dX12_reads_21 : decode cX12_reads 21 = .ok (.aload_n 0, 1) := by decide +kernel
theorem dX12_reads_22 : decode cX12_reads 22 = .ok (.getfield 13, 3) := by decide +kernel
theorem dX12_reads_25 : decode cX12_reads 25 = .ok (.iload_n 3, 1) := by decide +kernel
theorem dX12_reads_26 : decode cX12_reads 26 = .ok (.bipush 8, 2) := by decide +kernel
theorem dX12_reads_28 : decode cX12_reads 28 = .ok (.iadd, 1) := by decide +kernel
theorem dX12_reads_29 : decode cX12_reads 29 = .ok (.iaload, 1) := by decide +kernel
theorem dX12_reads_30 : decode cX12_reads 30 = .ok (.istore 4, 2) := by decide +kernel
theorem dX12_reads_32 : decode cX12_reads 32 = .ok (.iload_n 2, 1) := by decide +kernel
theorem dX12_reads_33 : decode cX12_reads 33 = .ok (.iconst 1, 1) := by decide +kernel
theorem dX12_reads_34 : decode cX12_reads 34 = .ok (.if_icmp .ne 16, 3) := by decide +kernel
theorem dX12_reads_37 : decode cX12_reads 37 = .ok (.iload 4, 2) := by decide +kernel
theorem dX12_reads_39 : decode cX12_reads 39 = .ok (.iconst 1, 1) := by decide +kernel
theorem dX12_reads_40 : decode cX12_reads 40 = .ok (.if_icmp .ne 7, 3) := by decide +kernel
theorem dX12_reads_43 : decode cX12_reads 43 = .ok (.iconst 0, 1) := by decide +kernel
theorem dX12_reads_44 : decode cX12_reads 44 = .ok (.goto 4, 3) := by decide +kernel
theorem dX12_reads_47 : decode cX12_reads 47 = .ok (.iconst 1, 1) := by decide +kernel
theorem dX12_reads_48 : decode cX12_reads 48 = .ok (.istore 4, 2) := by decide +kernel
theorem dX12_reads_50 : decode cX12_reads 50 = .ok (.iload_n 2, 1) := by decide +kernel
theorem dX12_reads_51 : decode cX12_reads 51 = .ok (.iconst 2, 1) := by decide +kernel
theorem dX12_reads_52 : decode cX12_reads 52 = .ok (.if_icmp .ne 6, 3) := by decide +kernel
theorem dX12_reads_55 : decode cX12_reads 55 = .ok (.iconst (-1), 1) := by decide +kernel
theorem dX12_reads_56 : decode cX12_reads 56 = .ok (.istore 4, 2) := by decide +kernel
theorem dX12_reads_58 : decode cX12_reads 58 = .ok (.aload_n 0, 1) := by decide +kernel
theorem dX12_reads_59 : decode cX12_reads 59 = .ok (.getfield 13, 3) := by decide +kernel
theorem dX12_reads_62 : decode cX12_reads 62 = .ok (.iload_n 3, 1) := by decide +kernel
theorem dX12_reads_63 : decode cX12_reads 63 = .ok (.iconst 4, 1) := by decide +kernel
theorem dX12_reads_64 : decode cX12_reads 64 = .ok (.iadd, 1) := by decide +kernel
theorem dX12_reads_65 : decode cX12_reads 65 = .ok (.iconst 0, 1) := by decide +kernel
theorem dX12_reads_66 : decode cX12_reads 66 = .ok (.iastore, 1) := by decide +kernel
theorem dX12_reads_67 : decode cX12_reads 67 = .ok (.iload 4, 2) := by decide +kernel
theorem dX12_reads_69 : decode cX12_reads 69 = .ok (.iconst 1, 1) := by decide +kernel
theorem dX12_reads_70 : decode cX12_reads 70 = .ok (.if_icmp .ne 11, 3) := by decide +kernel
theorem dX12_reads_73 : decode cX12_reads 73 = .ok (.aload_n 0, 1) := by decide +kernel
theorem dX12_reads_74 : decode cX12_reads 74 = .ok (.iload_n 1, 1) := by decide +kernel
theorem dX12_reads_75 : decode cX12_reads 75 = .ok (.invokevirtual 213, 3) := by decide +kernel
theorem dX12_reads_78 : decode cX12_reads 78 = .ok (.goto 36, 3) := by decide +kernel
theorem dX12_reads_81 : decode cX12_reads 81 = .ok (.aload_n 0, 1) := by decide +kernel
theorem dX12_reads_82 : decode cX12_reads 82 = .ok (.getfield 13, 3) := by decide +kernel
theorem dX12_reads_85 : decode cX12_reads 85 = .ok (.iload_n 3, 1) := by decide +kernel
theorem dX12_reads_86 : decode cX12_reads 86 = .ok (.iconst 3, 1) := by decide +kernel
theorem dX12_reads_87 : decode cX12_reads 87 = .ok (.iadd, 1) := by decide +kernel
theorem dX12_reads_88 : decode cX12_reads 88 = .ok (.iaload, 1) := by decide +kernel
theorem dX12_reads_89 : decode cX12_reads 89 = .ok (.aload_n 0, 1) := by decide +kernel
theorem dX12_reads_90 : decode cX12_reads 90 = .ok (.getfield 13, 3) := by decide +kernel
theorem dX12_reads_93 : decode cX12_reads 93 = .ok (.iconst 3, 1) := by decide +kernel
theorem dX12_reads_94 : decode cX12_reads 94 = .ok (.iaload, 1) := by decide +kernel
theorem dX12_reads_95 : decode cX12_reads 95 = .ok (.if_icmp .ne 19, 3) := by decide +kernel
theorem dX12_reads_98 : decode cX12_reads 98 = .ok (.aload_n 0, 1) := by decide +kernel
theorem dX12_reads_99 : decode cX12_reads 99 = .ok (.iload_n 1, 1) := by decide +kernel
theorem dX12_reads_100 : decode cX12_reads 100 = .ok (.invokevirtual 213, 3) := by decide +kernel
theorem dX12_reads_103 : decode cX12_reads 103 = .ok (.aload_n 0, 1) := by decide +kernel
theorem dX12_reads_104 : decode cX12_reads 104 = .ok (.getfield 13, 3) := by decide +kernel
theorem dX12_reads_107 : decode cX12_reads 107 = .ok (.bipush 70, 2) := by decide +kernel
theorem dX12_reads_109 : decode cX12_reads 109 = .ok (.dup2, 1) := by decide +kernel
theorem dX12_reads_110 : decode cX12_reads 110 = .ok (.iaload, 1) := by decide +kernel
theorem dX12_reads_111 : decode cX12_reads 111 = .ok (.iconst 1, 1) := by decide +kernel
theorem dX12_reads_112 : decode cX12_reads 112 = .ok (.iadd, 1) := by decide +kernel
theorem dX12_reads_113 : decode cX12_reads 113 = .ok (.iastore, 1) := by decide +kernel
theorem dX12_reads_114 : decode cX12_reads 114 = .ok (.iload 4, 2) := by decide +kernel
theorem dX12_reads_116 : decode cX12_reads 116 = .ok (.ireturn, 1) := by decide +kernel
theorem dX12_isOnProcess_0 : decode cX12_isOnProcess 0 = .ok (.iconst 0, 1) := by decide +kernel
theorem dX12_isOnProcess_1 : decode cX12_isOnProcess 1 = .ok (.istore_n 2, 1) := by decide +kernel
theorem dX12_isOnProcess_2 : decode cX12_isOnProcess 2 = .ok (.iload_n 2, 1) := by decide +kernel
theorem dX12_isOnProcess_3 : decode cX12_isOnProcess 3 = .ok (.aload_n 0, 1) := by decide +kernel
theorem dX12_isOnProcess_4 : decode cX12_isOnProcess 4 = .ok (.getfield 13, 3) := by decide +kernel
theorem dX12_isOnProcess_7 : decode cX12_isOnProcess 7 = .ok (.iconst 0, 1) := by decide +kernel
theorem dX12_isOnProcess_8 : decode cX12_isOnProcess 8 = .ok (.iaload, 1) := by decide +kernel
theorem dX12_isOnProcess_9 : decode cX12_isOnProcess 9 = .ok (.if_icmp .ge 27, 3) := by decide +kernel
theorem dX12_isOnProcess_12 : decode cX12_isOnProcess 12 = .ok (.aload_n 0, 1) := by decide +kernel
theorem dX12_isOnProcess_13 : decode cX12_isOnProcess 13 = .ok (.getfield 13, 3) := by decide +kernel
theorem dX12_isOnProcess_16 : decode cX12_isOnProcess 16 = .ok (.aload_n 0, 1) := by decide +kernel
theorem dX12_isOnProcess_17 : decode cX12_isOnProcess 17 = .ok (.iload_n 2, 1) := by decide +kernel
theorem dX12_isOnProcess_18 : decode cX12_isOnProcess 18 = .ok (.invokevirtual 188, 3) := by decide +kernel
theorem dX12_isOnProcess_21 : decode cX12_isOnProcess 21 = .ok (.iconst 0, 1) := by decide +kernel
theorem dX12_isOnProcess_22 : decode cX12_isOnProcess 22 = .ok (.iadd, 1) := by decide +kernel
theorem dX12_isOnProcess_23 : decode cX12_isOnProcess 23 = .ok (.iaload, 1) := by decide +kernel
theorem dX12_isOnProcess_24 : decode cX12_isOnProcess 24 = .ok (.iload_n 1, 1) := by decide +kernel
theorem dX12_isOnProcess_25 : decode cX12_isOnProcess 25 = .ok (.if_icmp .ne 5, 3) := by decide +kernel
theorem dX12_isOnProcess_28 : decode cX12_isOnProcess 28 = .ok (.iconst 1, 1) := by decide +kernel
theorem dX12_isOnProcess_29 : decode cX12_isOnProcess 29 = .ok (.ireturn, 1) := by decide +kernel
theorem dX12_isOnProcess_30 : decode cX12_isOnProcess 30 = .ok (.iinc 2 1, 3) := by decide +kernel
theorem dX12_isOnProcess_33 : decode cX12_isOnProcess 33 = .ok (.goto (-31), 3) := by decide +kernel
theorem dX12_isOnProcess_36 : decode cX12_isOnProcess 36 = .ok (.iconst 0, 1) := by decide +kernel
theorem dX12_isOnProcess_37 : decode cX12_isOnProcess 37 = .ok (.ireturn, 1) := by decide +kernel
theorem dX12_resets_0 : decode cX12_resets 0 = .ok (.aload_n 0, 1) := by decide +kernel
theorem dX12_resets_1 : decode cX12_resets 1 = .ok (.getfield 13, 3) := by decide +kernel
theorem dX12_resets_4 : decode cX12_resets 4 = .ok (.bipush 29, 2) := by decide +kernel
theorem dX12_resets_6 : decode cX12_resets 6 = .ok (.aload_n 0, 1) := by decide +kernel
theorem dX12_resets_7 : decode cX12_resets 7 = .ok (.getfield 13, 3) := by decide +kernel
theorem dX12_resets_10 : decode cX12_resets 10 = .ok (.bipush 55, 2) := by decide +kernel
theorem dX12_resets_12 : decode cX12_resets 12 = .ok (.iaload, 1) := by decide +kernel
theorem dX12_resets_13 : decode cX12_resets 13 = .ok (.iastore, 1) := by decide +kernel
theorem dX12_resets_14 : decode cX12_resets 14 = .ok (.aload_n 0, 1) := by decide +kernel
theorem dX12_resets_15 : decode cX12_resets 15 = .ok (.getfield 13, 3) := by decide +kernel
theorem dX12_resets_18 : decode cX12_resets 18 = .ok (.bipush 28, 2) := by decide +kernel
theorem dX12_resets_20 : decode cX12_resets 20 = .ok (.aload_n 0, 1) := by decide +kernel
theorem dX12_resets_21 : decode cX12_resets 21 = .ok (.getfield 13, 3) := by decide +kernel
theorem dX12_resets_24 : decode cX12_resets 24 = .ok (.bipush 55, 2) := by decide +kernel
theorem dX12_resets_26 : decode cX12_resets 26 = .ok (.iaload, 1) := by decide +kernel
theorem dX12_resets_27 : decode cX12_resets 27 = .ok (.iastore, 1) := by decide +kernel
theorem dX12_resets_28 : decode cX12_resets 28 = .ok (.aload_n 0, 1) := by decide +kernel
theorem dX12_resets_29 : decode cX12_resets 29 = .ok (.getfield 13, 3) := by decide +kernel
theorem dX12_resets_32 : decode cX12_resets 32 = .ok (.bipush 30, 2) := by decide +kernel
theorem dX12_resets_34 : decode cX12_resets 34 = .ok (.iconst 0, 1) := by decide +kernel
theorem dX12_resets_35 : decode cX12_resets 35 = .ok (.iastore, 1) := by decide +kernel
theorem dX12_resets_36 : decode cX12_resets 36 = .ok (.aload_n 0, 1) := by decide +kernel
theorem dX12_resets_37 : decode cX12_resets 37 = .ok (.getfield 13, 3) := by decide +kernel
theorem dX12_resets_40 : decode cX12_resets 40 = .ok (.bipush 71, 2) := by decide +kernel
theorem dX12_resets_42 : decode cX12_resets 42 = .ok (.dup2, 1) := by decide +kernel
theorem dX12_resets_43 : decode cX12_resets 43 = .ok (.iaload, 1) := by decide +kernel
theorem dX12_resets_44 : decode cX12_resets 44 = .ok (.iconst 1, 1) := by decide +kernel
theorem dX12_resets_45 : decode cX12_resets 45 = .ok (.iadd, 1) := by decide +kernel
theorem dX12_resets_46 : decode cX12_resets 46 = .ok (.iastore, 1) := by decide +kernel
theorem dX12_resets_47 : decode cX12_resets 47 = .ok (.iconst 0, 1) := by decide +kernel
theorem dX12_resets_48 : decode cX12_resets 48 = .ok (.istore_n 1, 1) := by decide +kernel
theorem dX12_resets_49 : decode cX12_resets 49 = .ok (.iload_n 1, 1) := by decide +kernel
theorem dX12_resets_50 : decode cX12_resets 50 = .ok (.bipush 8, 2) := by decide +kernel
theorem dX12_resets_52 : decode cX12_resets 52 = .ok (.if_icmp .ge 19, 3) := by decide +kernel
theorem dX12_resets_55 : decode cX12_resets 55 = .ok (.aload_n 0, 1) := by decide +kernel
theorem dX12_resets_56 : decode cX12_resets 56 = .ok (.getfield 13, 3) := by decide +kernel
theorem dX12_resets_59 : decode cX12_resets 59 = .ok (.bipush 39, 2) := by decide +kernel
theorem dX12_resets_61 : decode cX12_resets 61 = .ok (.iload_n 1, 1) := by decide +kernel
theorem dX12_resets_62 : decode cX12_resets 62 = .ok (.iadd, 1) := by decide +kernel
theorem dX12_resets_63 : decode cX12_resets 63 = .ok (.iconst (-1), 1) := by decide +kernel
theorem dX12_resets_64 : decode cX12_resets 64 = .ok (.iastore, 1) := by decide +kernel
theorem dX12_resets_65 : decode cX12_resets 65 = .ok (.iinc 1 1, 3) := by decide +kernel
theorem dX12_resets_68 : decode cX12_resets 68 = .ok (.goto (-19), 3) := by decide +kernel
theorem dX12_resets_71 : decode cX12_resets 71 = .ok (.iconst 0, 1) := by decide +kernel
theorem dX12_resets_72 : decode cX12_resets 72 = .ok (.istore_n 1, 1) := by decide +kernel
theorem dX12_resets_73 : decode cX12_resets 73 = .ok (.iload_n 1, 1) := by decide +kernel
theorem dX12_resets_74 : decode cX12_resets 74 = .ok (.aload_n 0, 1) := by decide +kernel
theorem dX12_resets_75 : decode cX12_resets 75 = .ok (.getfield 13, 3) := by decide +kernel
theorem dX12_resets_78 : decode cX12_resets 78 = .ok (.iconst 0, 1) := by decide +kernel
theorem dX12_resets_79 : decode cX12_resets 79 = .ok (.iaload, 1) := by decide +kernel
theorem dX12_resets_80 : decode cX12_resets 80 = .ok (.if_icmp .ge 14, 3) := by decide +kernel
theorem dX12_resets_83 : decode cX12_resets 83 = .ok (.aload_n 0, 1) := by decide +kernel
theorem dX12_resets_84 : decode cX12_resets 84 = .ok (.iload_n 1, 1) := by decide +kernel
theorem dX12_resets_85 : decode cX12_resets 85 = .ok (.invokevirtual 213, 3) := by decide +kernel
theorem dX12_resets_88 : decode cX12_resets 88 = .ok (.iinc 1 1, 3) := by decide +kernel
theorem dX12_resets_91 : decode cX12_resets 91 = .ok (.goto (-18), 3) := by decide +kernel
theorem dX12_resets_94 : decode cX12_resets 94 = .ok (.return_, 1) := by decide +kernel
theorem dX12_reports_0 : decode cX12_reports 0 = .ok (.aload_n 0, 1) := by decide +kernel
theorem dX12_reports_1 : decode cX12_reports 1 = .ok (.getfield 13, 3) := by decide +kernel
theorem dX12_reports_4 : decode cX12_reports 4 = .ok (.bipush 29, 2) := by decide +kernel
theorem dX12_reports_6 : decode cX12_reports 6 = .ok (.iaload, 1) := by decide +kernel
theorem dX12_reports_7 : decode cX12_reports 7 = .ok (.aload_n 0, 1) := by decide +kernel
theorem dX12_reports_8 : decode cX12_reports 8 = .ok (.getfield 13, 3) := by decide +kernel
theorem dX12_reports_11 : decode cX12_reports 11 = .ok (.bipush 55, 2) := by decide +kernel
theorem dX12_reports_13 : decode cX12_reports 13 = .ok (.iaload, 1) := by decide +kernel
theorem dX12_reports_14 : decode cX12_reports 14 = .ok (.invokestatic 182, 3) := by decide +kernel
theorem dX12_reports_17 : decode cX12_reports 17 = .ok (.aload_n 0, 1) := by decide +kernel
theorem dX12_reports_18 : decode cX12_reports 18 = .ok (.getfield 13, 3) := by decide +kernel
theorem dX12_reports_21 : decode cX12_reports 21 = .ok (.bipush 29, 2) := by decide +kernel
theorem dX12_reports_23 : decode cX12_reports 23 = .ok (.iaload, 1) := by decide +kernel
theorem dX12_reports_24 : decode cX12_reports 24 = .ok (.aload_n 0, 1) := by decide +kernel
theorem dX12_reports_25 : decode cX12_reports 25 = .ok (.getfield 13, 3) := by decide +kernel
theorem dX12_reports_28 : decode cX12_reports 28 = .ok (.bipush 28, 2) := by decide +kernel
theorem dX12_reports_30 : decode cX12_reports 30 = .ok (.iaload, 1) := by decide +kernel
theorem dX12_reports_31 : decode cX12_reports 31 = .ok (.invokestatic 182, 3) := by decide +kernel
theorem dX12_reports_34 : decode cX12_reports 34 = .ok (.if_icmp .le 8, 3) := by decide +kernel
theorem dX12_reports_37 : decode cX12_reports 37 = .ok (.aload_n 0, 1) := by decide +kernel
theorem dX12_reports_38 : decode cX12_reports 38 = .ok (.invokevirtual 216, 3) := by decide +kernel
theorem dX12_reports_41 : decode cX12_reports 41 = .ok (.return_, 1) := by decide +kernel
theorem dX12_reports_42 : decode cX12_reports 42 = .ok (.aload_n 0, 1) := by decide +kernel
theorem dX12_reports_43 : decode cX12_reports 43 = .ok (.getfield 13, 3) := by decide +kernel
theorem dX12_reports_46 : decode cX12_reports 46 = .ok (.bipush 29, 2) := by decide +kernel
theorem dX12_reports_48 : decode cX12_reports 48 = .ok (.iaload, 1) := by decide +kernel
theorem dX12_reports_49 : decode cX12_reports 49 = .ok (.aload_n 0, 1) := by decide +kernel
theorem dX12_reports_50 : decode cX12_reports 50 = .ok (.getfield 13, 3) := by decide +kernel
theorem dX12_reports_53 : decode cX12_reports 53 = .ok (.bipush 55, 2) := by decide +kernel
theorem dX12_reports_55 : decode cX12_reports 55 = .ok (.iaload, 1) := by decide +kernel
theorem dX12_reports_56 : decode cX12_reports 56 = .ok (.if_icmp .eq 41, 3) := by decide +kernel
theorem dX12_reports_59 : decode cX12_reports 59 = .ok (.aload_n 0, 1) := by decide +kernel
theorem dX12_reports_60 : decode cX12_reports 60 = .ok (.getfield 13, 3) := by decide +kernel
theorem dX12_reports_63 : decode cX12_reports 63 = .ok (.bipush 39, 2) := by decide +kernel
theorem dX12_reports_65 : decode cX12_reports 65 = .ok (.aload_n 0, 1) := by decide +kernel
theorem dX12_reports_66 : decode cX12_reports 66 = .ok (.getfield 13, 3) := by decide +kernel
theorem dX12_reports_69 : decode cX12_reports 69 = .ok (.bipush 29, 2) := by decide +kernel
theorem dX12_reports_71 : decode cX12_reports 71 = .ok (.iaload, 1) := by decide +kernel
theorem dX12_reports_72 : decode cX12_reports 72 = .ok (.iadd, 1) := by decide +kernel
theorem dX12_reports_73 : decode cX12_reports 73 = .ok (.iconst (-1), 1) := by decide +kernel
theorem dX12_reports_74 : decode cX12_reports 74 = .ok (.iastore, 1) := by decide +kernel
theorem dX12_reports_75 : decode cX12_reports 75 = .ok (.aload_n 0, 1) := by decide +kernel
theorem dX12_reports_76 : decode cX12_reports 76 = .ok (.getfield 13, 3) := by decide +kernel
theorem dX12_reports_79 : decode cX12_reports 79 = .ok (.bipush 29, 2) := by decide +kernel
theorem dX12_reports_81 : decode cX12_reports 81 = .ok (.aload_n 0, 1) := by decide +kernel
theorem dX12_reports_82 : decode cX12_reports 82 = .ok (.getfield 13, 3) := by decide +kernel
theorem dX12_reports_85 : decode cX12_reports 85 = .ok (.bipush 29, 2) := by decide +kernel
theorem dX12_reports_87 : decode cX12_reports 87 = .ok (.iaload, 1) := by decide +kernel
theorem dX12_reports_88 : decode cX12_reports 88 = .ok (.iconst 1, 1) := by decide +kernel
theorem dX12_reports_89 : decode cX12_reports 89 = .ok (.iadd, 1) := by decide +kernel
theorem dX12_reports_90 : decode cX12_reports 90 = .ok (.bipush 7, 2) := by decide +kernel
theorem dX12_reports_92 : decode cX12_reports 92 = .ok (.iand, 1) := by decide +kernel
theorem dX12_reports_93 : decode cX12_reports 93 = .ok (.iastore, 1) := by decide +kernel
theorem dX12_reports_94 : decode cX12_reports 94 = .ok (.goto (-52), 3) := by decide +kernel
theorem dX12_reports_97 : decode cX12_reports 97 = .ok (.iconst 0, 1) := by decide +kernel
theorem dX12_reports_98 : decode cX12_reports 98 = .ok (.istore_n 1, 1) := by decide +kernel
theorem dX12_reports_99 : decode cX12_reports 99 = .ok (.iload_n 1, 1) := by decide +kernel
theorem dX12_reports_100 : decode cX12_reports 100 = .ok (.aload_n 0, 1) := by decide +kernel
theorem dX12_reports_101 : decode cX12_reports 101 = .ok (.getfield 13, 3) := by decide +kernel
theorem dX12_reports_104 : decode cX12_reports 104 = .ok (.iconst 0, 1) := by decide +kernel
theorem dX12_reports_105 : decode cX12_reports 105 = .ok (.iaload, 1) := by decide +kernel
theorem dX12_reports_106 : decode cX12_reports 106 = .ok (.if_icmp .ge 54, 3) := by decide +kernel
theorem dX12_reports_109 : decode cX12_reports 109 = .ok (.aload_n 0, 1) := by decide +kernel
theorem dX12_reports_110 : decode cX12_reports 110 = .ok (.getfield 13, 3) := by decide +kernel
theorem dX12_reports_113 : decode cX12_reports 113 = .ok (.aload_n 0, 1) := by decide +kernel
theorem dX12_reports_114 : decode cX12_reports 114 = .ok (.iload_n 1, 1) := by decide +kernel
theorem dX12_reports_115 : decode cX12_reports 115 = .ok (.invokevirtual 188, 3) := by decide +kernel
theorem dX12_reports_118 : decode cX12_reports 118 = .ok (.iconst 0, 1) := by decide +kernel
theorem dX12_reports_119 : decode cX12_reports 119 = .ok (.iadd, 1) := by decide +kernel
theorem dX12_reports_120 : decode cX12_reports 120 = .ok (.iaload, 1) := by decide +kernel
theorem dX12_reports_121 : decode cX12_reports 121 = .ok (.iconst (-1), 1) := by decide +kernel
theorem dX12_reports_122 : decode cX12_reports 122 = .ok (.if_icmp .eq 32, 3) := by decide +kernel
theorem dX12_reports_125 : decode cX12_reports 125 = .ok (.aload_n 0, 1) := by decide +kernel
theorem dX12_reports_126 : decode cX12_reports 126 = .ok (.getfield 13, 3) := by decide +kernel
theorem dX12_reports_129 : decode cX12_reports 129 = .ok (.bipush 39, 2) := by decide +kernel
theorem dX12_reports_131 : decode cX12_reports 131 = .ok (.aload_n 0, 1) := by decide +kernel
theorem dX12_reports_132 : decode cX12_reports 132 = .ok (.getfield 13, 3) := by decide +kernel
theorem dX12_reports_135 : decode cX12_reports 135 = .ok (.aload_n 0, 1) := by decide +kernel
theorem dX12_reports_136 : decode cX12_reports 136 = .ok (.iload_n 1, 1) := by decide +kernel
theorem dX12_reports_137 : decode cX12_reports 137 = .ok (.invokevirtual 188, 3) := by decide +kernel
theorem dX12_reports_140 : decode cX12_reports 140 = .ok (.iconst 0, 1) := by decide +kernel
theorem dX12_reports_141 : decode cX12_reports 141 = .ok (.iadd, 1) := by decide +kernel
theorem dX12_reports_142 : decode cX12_reports 142 = .ok (.iaload, 1) := by decide +kernel
theorem dX12_reports_143 : decode cX12_reports 143 = .ok (.iadd, 1) := by decide +kernel
theorem dX12_reports_144 : decode cX12_reports 144 = .ok (.iaload, 1) := by decide +kernel
theorem dX12_reports_145 : decode cX12_reports 145 = .ok (.iconst (-1), 1) := by decide +kernel
theorem dX12_reports_146 : decode cX12_reports 146 = .ok (.if_icmp .ne 8, 3) := by decide +kernel
theorem dX12_reports_149 : decode cX12_reports 149 = .ok (.aload_n 0, 1) := by decide +kernel
theorem dX12_reports_150 : decode cX12_reports 150 = .ok (.iload_n 1, 1) := by decide +kernel
theorem dX12_reports_151 : decode cX12_reports 151 = .ok (.invokevirtual 213, 3) := by decide +kernel
theorem dX12_reports_154 : decode cX12_reports 154 = .ok (.iinc 1 1, 3) := by decide +kernel
theorem dX12_reports_157 : decode cX12_reports 157 = .ok (.goto (-58), 3) := by decide +kernel
theorem dX12_reports_160 : decode cX12_reports 160 = .ok (.aload_n 0, 1) := by decide +kernel
theorem dX12_reports_161 : decode cX12_reports 161 = .ok (.getfield 13, 3) := by decide +kernel
theorem dX12_reports_164 : decode cX12_reports 164 = .ok (.bipush 30, 2) := by decide +kernel
theorem dX12_reports_166 : decode cX12_reports 166 = .ok (.iconst 0, 1) := by decide +kernel
theorem dX12_reports_167 : decode cX12_reports 167 = .ok (.iastore, 1) := by decide +kernel
theorem dX12_reports_168 : decode cX12_reports 168 = .ok (.aload_n 0, 1) := by decide +kernel
theorem dX12_reports_169 : decode cX12_reports 169 = .ok (.getfield 13, 3) := by decide +kernel
theorem dX12_reports_172 : decode cX12_reports 172 = .ok (.bipush 29, 2) := by decide +kernel
theorem dX12_reports_174 : decode cX12_reports 174 = .ok (.iaload, 1) := by decide +kernel
theorem dX12_reports_175 : decode cX12_reports 175 = .ok (.istore_n 1, 1) := by decide +kernel
theorem dX12_reports_176 : decode cX12_reports 176 = .ok (.iload_n 1, 1) := by decide +kernel
theorem dX12_reports_177 : decode cX12_reports 177 = .ok (.aload_n 0, 1) := by decide +kernel
theorem dX12_reports_178 : decode cX12_reports 178 = .ok (.getfield 13, 3) := by decide +kernel
theorem dX12_reports_181 : decode cX12_reports 181 = .ok (.bipush 28, 2) := by decide +kernel
theorem dX12_reports_183 : decode cX12_reports 183 = .ok (.iaload, 1) := by decide +kernel
theorem dX12_reports_184 : decode cX12_reports 184 = .ok (.if_icmp .eq 91, 3) := by decide +kernel
theorem dX12_reports_187 : decode cX12_reports 187 = .ok (.aload_n 0, 1) := by decide +kernel
theorem dX12_reports_188 : decode cX12_reports 188 = .ok (.getfield 13, 3) := by decide +kernel
theorem dX12_reports_191 : decode cX12_reports 191 = .ok (.bipush 47, 2) := by decide +kernel
theorem dX12_reports_193 : decode cX12_reports 193 = .ok (.iload_n 1, 1) := by decide +kernel
theorem dX12_reports_194 : decode cX12_reports 194 = .ok (.iadd, 1) := by decide +kernel
theorem dX12_reports_195 : decode cX12_reports 195 = .ok (.aload_n 0, 1) := by decide +kernel
theorem dX12_reports_196 : decode cX12_reports 196 = .ok (.getfield 13, 3) := by decide +kernel
theorem dX12_reports_199 : decode cX12_reports 199 = .ok (.bipush 56, 2) := by decide +kernel
theorem dX12_reports_201 : decode cX12_reports 201 = .ok (.iload_n 1, 1) := by decide +kernel
theorem dX12_reports_202 : decode cX12_reports 202 = .ok (.iadd, 1) := by decide +kernel
theorem dX12_reports_203 : decode cX12_reports 203 = .ok (.iaload, 1) := by decide +kernel
theorem dX12_reports_204 : decode cX12_reports 204 = .ok (.iconst (-1), 1) := by decide +kernel
theorem dX12_reports_205 : decode cX12_reports 205 = .ok (.if_icmp .ne 7, 3) := by decide +kernel
theorem dX12_reports_208 : decode cX12_reports 208 = .ok (.iconst 0, 1) := by decide +kernel
theorem dX12_reports_209 : decode cX12_reports 209 = .ok (.goto 4, 3) := by decide +kernel
theorem dX12_reports_212 : decode cX12_reports 212 = .ok (.iconst 1, 1) := by decide +kernel
theorem dX12_reports_213 : decode cX12_reports 213 = .ok (.iastore, 1) := by decide +kernel
theorem dX12_reports_214 : decode cX12_reports 214 = .ok (.aload_n 0, 1) := by decide +kernel
theorem dX12_reports_215 : decode cX12_reports 215 = .ok (.getfield 13, 3) := by decide +kernel
theorem dX12_reports_218 : decode cX12_reports 218 = .ok (.bipush 47, 2) := by decide +kernel
theorem dX12_reports_220 : decode cX12_reports 220 = .ok (.iload_n 1, 1) := by decide +kernel
theorem dX12_reports_221 : decode cX12_reports 221 = .ok (.iadd, 1) := by decide +kernel
theorem dX12_reports_222 : decode cX12_reports 222 = .ok (.iaload, 1) := by decide +kernel
theorem dX12_reports_223 : decode cX12_reports 223 = .ok (.iconst 1, 1) := by decide +kernel
theorem dX12_reports_224 : decode cX12_reports 224 = .ok (.if_icmp .eq 41, 3) := by decide +kernel
theorem dX12_reports_227 : decode cX12_reports 227 = .ok (.aload_n 0, 1) := by decide +kernel
theorem dX12_reports_228 : decode cX12_reports 228 = .ok (.iload_n 1, 1) := by decide +kernel
theorem dX12_reports_229 : decode cX12_reports 229 = .ok (.invokevirtual 219, 3) := by decide +kernel
theorem dX12_reports_232 : decode cX12_reports 232 = .ok (.ifCond .eq 6, 3) := by decide +kernel
theorem dX12_reports_235 : decode cX12_reports 235 = .ok (.goto 30, 3) := by decide +kernel
theorem dX12_reports_238 : decode cX12_reports 238 = .ok (.aload_n 0, 1) := by decide +kernel
theorem dX12_reports_239 : decode cX12_reports 239 = .ok (.getfield 13, 3) := by decide +kernel
theorem dX12_reports_242 : decode cX12_reports 242 = .ok (.bipush 31, 2) := by decide +kernel
theorem dX12_reports_244 : decode cX12_reports 244 = .ok (.aload_n 0, 1) := by decide +kernel
theorem dX12_reports_245 : decode cX12_reports 245 = .ok (.getfield 13, 3) := by decide +kernel
theorem dX12_reports_248 : decode cX12_reports 248 = .ok (.bipush 30, 2) := by decide +kernel
theorem dX12_reports_250 : decode cX12_reports 250 = .ok (.iaload, 1) := by decide +kernel
theorem dX12_reports_251 : decode cX12_reports 251 = .ok (.iadd, 1) := by decide +kernel
theorem dX12_reports_252 : decode cX12_reports 252 = .ok (.iload_n 1, 1) := by decide +kernel
theorem dX12_reports_253 : decode cX12_reports 253 = .ok (.iastore, 1) := by decide +kernel
theorem dX12_reports_254 : decode cX12_reports 254 = .ok (.aload_n 0, 1) := by decide +kernel
theorem dX12_reports_255 : decode cX12_reports 255 = .ok (.getfield 13, 3) := by decide +kernel
theorem dX12_reports_258 : decode cX12_reports 258 = .ok (.bipush 30, 2) := by decide +kernel
theorem dX12_reports_260 : decode cX12_reports 260 = .ok (.dup2, 1) := by decide +kernel
theorem dX12_reports_261 : decode cX12_reports 261 = .ok (.iaload, 1) := by decide +kernel
theorem dX12_reports_262 : decode cX12_reports 262 = .ok (.iconst 1, 1) := by decide +kernel
theorem dX12_reports_263 : decode cX12_reports 263 = .ok (.iadd, 1) := by decide +kernel
theorem dX12_reports_264 : decode cX12_reports 264 = .ok (.iastore, 1) := by decide +kernel
theorem dX12_reports_265 : decode cX12_reports 265 = .ok (.iload_n 1, 1) := by decide +kernel
theorem dX12_reports_266 : decode cX12_reports 266 = .ok (.iconst 1, 1) := by decide +kernel
theorem dX12_reports_267 : decode cX12_reports 267 = .ok (.iadd, 1) := by decide +kernel
theorem dX12_reports_268 : decode cX12_reports 268 = .ok (.bipush 7, 2) := by decide +kernel
theorem dX12_reports_270 : decode cX12_reports 270 = .ok (.iand, 1) := by decide +kernel
theorem dX12_reports_271 : decode cX12_reports 271 = .ok (.istore_n 1, 1) := by decide +kernel
theorem dX12_reports_272 : decode cX12_reports 272 = .ok (.goto (-96), 3) := by decide +kernel
theorem dX12_reports_275 : decode cX12_reports 275 = .ok (.return_, 1) := by decide +kernel
theorem dX12_noTray_0 : decode cX12_noTray 0 = .ok (.iload_n 1, 1) := by decide +kernel
theorem dX12_noTray_1 : decode cX12_noTray 1 = .ok (.i2l, 1) := by decide +kernel
theorem dX12_noTray_2 : decode cX12_noTray 2 = .ok (.lconst 0, 1) := by decide +kernel
theorem dX12_noTray_3 : decode cX12_noTray 3 = .ok (.ldc2_w 132, 3) := by decide +kernel
theorem dX12_noTray_6 : decode cX12_noTray 6 = .ok (.invokestatic 94, 3) := by decide +kernel
theorem dX12_noTray_9 : decode cX12_noTray 9 = .ok (.ifCond .ne 8, 3) := by decide +kernel
theorem dX12_noTray_12 : decode cX12_noTray 12 = .ok (.bipush (-2), 2) := by decide +kernel
theorem dX12_noTray_14 : decode cX12_noTray 14 = .ok (.goto 19, 3) := by decide +kernel
theorem dX12_noTray_17 : decode cX12_noTray 17 = .ok (.aload_n 0, 1) := by decide +kernel
theorem dX12_noTray_18 : decode cX12_noTray 18 = .ok (.getfield 61, 3) := by decide +kernel
theorem dX12_noTray_21 : decode cX12_noTray 21 = .ok (.iload_n 1, 1) := by decide +kernel
theorem dX12_noTray_22 : decode cX12_noTray 22 = .ok (.iaload, 1) := by decide +kernel
theorem dX12_noTray_23 : decode cX12_noTray 23 = .ok (.iconst (-1), 1) := by decide +kernel
theorem dX12_noTray_24 : decode cX12_noTray 24 = .ok (.if_icmp .ne 8, 3) := by decide +kernel
theorem dX12_noTray_27 : decode cX12_noTray 27 = .ok (.bipush (-6), 2) := by decide +kernel
theorem dX12_noTray_29 : decode cX12_noTray 29 = .ok (.goto 4, 3) := by decide +kernel
theorem dX12_noTray_32 : decode cX12_noTray 32 = .ok (.iconst 0, 1) := by decide +kernel
theorem dX12_noTray_33 : decode cX12_noTray 33 = .ok (.ireturn, 1) := by decide +kernel
theorem dX12_send_0 : decode cX12_send 0 = .ok (.aload_n 0, 1) := by decide +kernel
theorem dX12_send_1 : decode cX12_send 1 = .ok (.iconst 0, 1) := by decide +kernel
theorem dX12_send_2 : decode cX12_send 2 = .ok (.putfield 1, 3) := by decide +kernel
theorem dX12_send_5 : decode cX12_send 5 = .ok (.aload_n 0, 1) := by decide +kernel
