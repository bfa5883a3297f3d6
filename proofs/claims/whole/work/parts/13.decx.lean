theorem dX5_moveOn_0 : decode cX5_moveOn 0 = .ok (.aload_n 0, 1) := by decide +kernel
theorem dX5_moveOn_1 : decode cX5_moveOn 1 = .ok (.getfield 17, 3) := by decide +kernel
theorem dX5_moveOn_4 : decode cX5_moveOn 4 = .ok (.aload_n 0, 1) := by decide +kernel
theorem dX5_moveOn_5 : decode cX5_moveOn 5 = .ok (.getfield 35, 3) := by decide +kernel
theorem dX5_moveOn_8 : decode cX5_moveOn 8 = .ok (.iaload, 1) := by decide +kernel
theorem dX5_moveOn_9 : decode cX5_moveOn 9 = .ok (.istore_n 1, 1) := by decide +kernel
theorem dX5_moveOn_10 : decode cX5_moveOn 10 = .ok (.iload_n 1, 1) := by decide +kernel
theorem dX5_moveOn_11 : decode cX5_moveOn 11 = .ok (.iconst (-1), 1) := by decide +kernel
theorem dX5_moveOn_12 : decode cX5_moveOn 12 = .ok (.if_icmp .ne 16, 3) := by decide +kernel
theorem dX5_moveOn_15 : decode cX5_moveOn 15 = .ok (.aload_n 0, 1) := by decide +kernel
theorem dX5_moveOn_16 : decode cX5_moveOn 16 = .ok (.dup, 1) := by decide +kernel
theorem dX5_moveOn_17 : decode cX5_moveOn 17 = .ok (.getfield 48, 3) := by decide +kernel
theorem dX5_moveOn_20 : decode cX5_moveOn 20 = .ok (.iconst 1, 1) := by decide +kernel
theorem dX5_moveOn_21 : decode cX5_moveOn 21 = .ok (.iadd, 1) := by decide +kernel
theorem dX5_moveOn_22 : decode cX5_moveOn 22 = .ok (.putfield 48, 3) := by decide +kernel
theorem dX5_moveOn_25 : decode cX5_moveOn 25 = .ok (.goto 37, 3) := by decide +kernel
theorem dX5_moveOn_28 : decode cX5_moveOn 28 = .ok (.aload_n 0, 1) := by decide +kernel
theorem dX5_moveOn_29 : decode cX5_moveOn 29 = .ok (.getfield 21, 3) := by decide +kernel
theorem dX5_moveOn_32 : decode cX5_moveOn 32 = .ok (.aload_n 0, 1) := by decide +kernel
theorem dX5_moveOn_33 : decode cX5_moveOn 33 = .ok (.getfield 45, 3) := by decide +kernel
theorem dX5_moveOn_36 : decode cX5_moveOn 36 = .ok (.sipush 255, 3) := by decide +kernel
theorem dX5_moveOn_39 : decode cX5_moveOn 39 = .ok (.iand, 1) := by decide +kernel
theorem dX5_moveOn_40 : decode cX5_moveOn 40 = .ok (.iload_n 1, 1) := by decide +kernel
theorem dX5_moveOn_41 : decode cX5_moveOn 41 = .ok (.iastore, 1) := by decide +kernel
theorem dX5_moveOn_42 : decode cX5_moveOn 42 = .ok (.aload_n 0, 1) := by decide +kernel
theorem dX5_moveOn_43 : decode cX5_moveOn 43 = .ok (.dup, 1) := by decide +kernel
theorem dX5_moveOn_44 : decode cX5_moveOn 44 = .ok (.getfield 45, 3) := by decide +kernel
theorem dX5_moveOn_47 : decode cX5_moveOn 47 = .ok (.iconst 1, 1) := by decide +kernel
theorem dX5_moveOn_48 : decode cX5_moveOn 48 = .ok (.iadd, 1) := by decide +kernel
theorem dX5_moveOn_49 : decode cX5_moveOn 49 = .ok (.putfield 45, 3) := by decide +kernel
theorem dX5_moveOn_52 : decode cX5_moveOn 52 = .ok (.aload_n 0, 1) := by decide +kernel
theorem dX5_moveOn_53 : decode cX5_moveOn 53 = .ok (.getfield 17, 3) := by decide +kernel
theorem dX5_moveOn_56 : decode cX5_moveOn 56 = .ok (.aload_n 0, 1) := by decide +kernel
theorem dX5_moveOn_57 : decode cX5_moveOn 57 = .ok (.getfield 35, 3) := by decide +kernel
theorem dX5_moveOn_60 : decode cX5_moveOn 60 = .ok (.iconst (-1), 1) := by decide +kernel
theorem dX5_moveOn_61 : decode cX5_moveOn 61 = .ok (.iastore, 1) := by decide +kernel
theorem dX5_moveOn_62 : decode cX5_moveOn 62 = .ok (.aload_n 0, 1) := by decide +kernel
theorem dX5_moveOn_63 : decode cX5_moveOn 63 = .ok (.aload_n 0, 1) := by decide +kernel
theorem dX5_moveOn_64 : decode cX5_moveOn 64 = .ok (.getfield 35, 3) := by decide +kernel
theorem dX5_moveOn_67 : decode cX5_moveOn 67 = .ok (.iconst 1, 1) := by decide +kernel
theorem dX5_moveOn_68 : decode cX5_moveOn 68 = .ok (.iadd, 1) := by decide +kernel
theorem dX5_moveOn_69 : decode cX5_moveOn 69 = .ok (.bipush 7, 2) := by decide +kernel
theorem dX5_moveOn_71 : decode cX5_moveOn 71 = .ok (.iand, 1) := by decide +kernel
theorem dX5_moveOn_72 : decode cX5_moveOn 72 = .ok (.putfield 35, 3) := by decide +kernel
theorem dX5_moveOn_75 : decode cX5_moveOn 75 = .ok (.aload_n 0, 1) := by decide +kernel
theorem dX5_moveOn_76 : decode cX5_moveOn 76 = .ok (.getfield 39, 3) := by decide +kernel
theorem dX5_moveOn_79 : decode cX5_moveOn 79 = .ok (.ifCond .le 25, 3) := by decide +kernel
theorem dX5_moveOn_82 : decode cX5_moveOn 82 = .ok (.aload_n 0, 1) := by decide +kernel
theorem dX5_moveOn_83 : decode cX5_moveOn 83 = .ok (.dup, 1) := by decide +kernel
theorem dX5_moveOn_84 : decode cX5_moveOn 84 = .ok (.getfield 42, 3) := by decide +kernel
theorem dX5_moveOn_87 : decode cX5_moveOn 87 = .ok (.iconst 1, 1) := by decide +kernel
theorem dX5_moveOn_88 : decode cX5_moveOn 88 = .ok (.isub, 1) := by decide +kernel
theorem dX5_moveOn_89 : decode cX5_moveOn 89 = .ok (.putfield 42, 3) := by decide +kernel
theorem dX5_moveOn_92 : decode cX5_moveOn 92 = .ok (.aload_n 0, 1) := by decide +kernel
theorem dX5_moveOn_93 : decode cX5_moveOn 93 = .ok (.getfield 42, 3) := by decide +kernel
theorem dX5_moveOn_96 : decode cX5_moveOn 96 = .ok (.ifCond .gt 8, 3) := by decide +kernel
theorem dX5_moveOn_99 : decode cX5_moveOn 99 = .ok (.aload_n 0, 1) := by decide +kernel
theorem dX5_moveOn_100 : decode cX5_moveOn 100 = .ok (.iconst 0, 1) := by decide +kernel
theorem dX5_moveOn_101 : decode cX5_moveOn 101 = .ok (.putfield 39, 3) := by decide +kernel
theorem dX5_moveOn_104 : decode cX5_moveOn 104 = .ok (.return_, 1) := by decide +kernel
