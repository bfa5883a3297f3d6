theorem dX12_send_6 : decode cX12_send 6 = .ok (.iload_n 1, 1) := by decide +kernel
theorem dX12_send_7 : decode cX12_send 7 = .ok (.invokevirtual 222, 3) := by decide +kernel
theorem dX12_send_10 : decode cX12_send 10 = .ok (.ifCond .eq 17, 3) := by decide +kernel
theorem dX12_send_13 : decode cX12_send 13 = .ok (.iload_n 3, 1) := by decide +kernel
theorem dX12_send_14 : decode cX12_send 14 = .ok (.i2l, 1) := by decide +kernel
theorem dX12_send_15 : decode cX12_send 15 = .ok (.ldc2_w 225, 3) := by decide +kernel
theorem dX12_send_18 : decode cX12_send 18 = .ok (.ldc2_w 132, 3) := by decide +kernel
theorem dX12_send_21 : decode cX12_send 21 = .ok (.invokestatic 94, 3) := by decide +kernel
theorem dX12_send_24 : decode cX12_send 24 = .ok (.ifCond .ne 6, 3) := by decide +kernel
theorem dX12_send_27 : decode cX12_send 27 = .ok (.bipush (-2), 2) := by decide +kernel
theorem dX12_send_29 : decode cX12_send 29 = .ok (.ireturn, 1) := by decide +kernel
theorem dX12_send_30 : decode cX12_send 30 = .ok (.iload_n 2, 1) := by decide +kernel
theorem dX12_send_31 : decode cX12_send 31 = .ok (.invokestatic 134, 3) := by decide +kernel
theorem dX12_send_34 : decode cX12_send 34 = .ok (.ifCond .ne 6, 3) := by decide +kernel
theorem dX12_send_37 : decode cX12_send 37 = .ok (.bipush (-3), 2) := by decide +kernel
theorem dX12_send_39 : decode cX12_send 39 = .ok (.ireturn, 1) := by decide +kernel
theorem dX12_send_40 : decode cX12_send 40 = .ok (.iload_n 3, 1) := by decide +kernel
theorem dX12_send_41 : decode cX12_send 41 = .ok (.iconst (-1), 1) := by decide +kernel
theorem dX12_send_42 : decode cX12_send 42 = .ok (.if_icmp .eq 16, 3) := by decide +kernel
theorem dX12_send_45 : decode cX12_send 45 = .ok (.aload_n 0, 1) := by decide +kernel
theorem dX12_send_46 : decode cX12_send 46 = .ok (.getfield 61, 3) := by decide +kernel
theorem dX12_send_49 : decode cX12_send 49 = .ok (.iload_n 3, 1) := by decide +kernel
theorem dX12_send_50 : decode cX12_send 50 = .ok (.iaload, 1) := by decide +kernel
theorem dX12_send_51 : decode cX12_send 51 = .ok (.iconst (-1), 1) := by decide +kernel
theorem dX12_send_52 : decode cX12_send 52 = .ok (.if_icmp .ne 6, 3) := by decide +kernel
theorem dX12_send_55 : decode cX12_send 55 = .ok (.bipush (-6), 2) := by decide +kernel
theorem dX12_send_57 : decode cX12_send 57 = .ok (.ireturn, 1) := by decide +kernel
theorem dX12_send_58 : decode cX12_send 58 = .ok (.aload_n 0, 1) := by decide +kernel
theorem dX12_send_59 : decode cX12_send 59 = .ok (.iload_n 1, 1) := by decide +kernel
theorem dX12_send_60 : decode cX12_send 60 = .ok (.invokevirtual 227, 3) := by decide +kernel
theorem dX12_send_63 : decode cX12_send 63 = .ok (.ifCond .ne 6, 3) := by decide +kernel
theorem dX12_send_66 : decode cX12_send 66 = .ok (.bipush (-5), 2) := by decide +kernel
theorem dX12_send_68 : decode cX12_send 68 = .ok (.ireturn, 1) := by decide +kernel
theorem dX12_send_69 : decode cX12_send 69 = .ok (.aload_n 0, 1) := by decide +kernel
theorem dX12_send_70 : decode cX12_send 70 = .ok (.iload_n 1, 1) := by decide +kernel
theorem dX12_send_71 : decode cX12_send 71 = .ok (.iload_n 2, 1) := by decide +kernel
theorem dX12_send_72 : decode cX12_send 72 = .ok (.invokevirtual 230, 3) := by decide +kernel
theorem dX12_send_75 : decode cX12_send 75 = .ok (.iload_n 3, 1) := by decide +kernel
theorem dX12_send_76 : decode cX12_send 76 = .ok (.iconst (-1), 1) := by decide +kernel
theorem dX12_send_77 : decode cX12_send 77 = .ok (.if_icmp .ne 7, 3) := by decide +kernel
theorem dX12_send_80 : decode cX12_send 80 = .ok (.iconst 0, 1) := by decide +kernel
theorem dX12_send_81 : decode cX12_send 81 = .ok (.goto 9, 3) := by decide +kernel
theorem dX12_send_84 : decode cX12_send 84 = .ok (.aload_n 0, 1) := by decide +kernel
theorem dX12_send_85 : decode cX12_send 85 = .ok (.getfield 61, 3) := by decide +kernel
theorem dX12_send_88 : decode cX12_send 88 = .ok (.iload_n 3, 1) := by decide +kernel
theorem dX12_send_89 : decode cX12_send 89 = .ok (.iaload, 1) := by decide +kernel
theorem dX12_send_90 : decode cX12_send 90 = .ok (.istore 4, 2) := by decide +kernel
theorem dX12_send_92 : decode cX12_send 92 = .ok (.iconst 0, 1) := by decide +kernel
theorem dX12_send_93 : decode cX12_send 93 = .ok (.istore 5, 2) := by decide +kernel
theorem dX12_send_95 : decode cX12_send 95 = .ok (.iload 5, 2) := by decide +kernel
theorem dX12_send_97 : decode cX12_send 97 = .ok (.iload_n 2, 1) := by decide +kernel
theorem dX12_send_98 : decode cX12_send 98 = .ok (.if_icmp .ge 39, 3) := by decide +kernel
theorem dX12_send_101 : decode cX12_send 101 = .ok (.iload 4, 2) := by decide +kernel
theorem dX12_send_103 : decode cX12_send 103 = .ok (.ifCond .le 34, 3) := by decide +kernel
theorem dX12_send_106 : decode cX12_send 106 = .ok (.aload_n 0, 1) := by decide +kernel
theorem dX12_send_107 : decode cX12_send 107 = .ok (.getfield 52, 3) := by decide +kernel
theorem dX12_send_110 : decode cX12_send 110 = .ok (.iload 5, 2) := by decide +kernel
theorem dX12_send_112 : decode cX12_send 112 = .ok (.dup2, 1) := by decide +kernel
theorem dX12_send_113 : decode cX12_send 113 = .ok (.iaload, 1) := by decide +kernel
theorem dX12_send_114 : decode cX12_send 114 = .ok (.aload_n 0, 1) := by decide +kernel
theorem dX12_send_115 : decode cX12_send 115 = .ok (.getfield 64, 3) := by decide +kernel
theorem dX12_send_118 : decode cX12_send 118 = .ok (.bipush 60, 2) := by decide +kernel
theorem dX12_send_120 : decode cX12_send 120 = .ok (.iload_n 3, 1) := by decide +kernel
theorem dX12_send_121 : decode cX12_send 121 = .ok (.imul, 1) := by decide +kernel
theorem dX12_send_122 : decode cX12_send 122 = .ok (.iload 5, 2) := by decide +kernel
theorem dX12_send_124 : decode cX12_send 124 = .ok (.iload 4, 2) := by decide +kernel
theorem dX12_send_126 : decode cX12_send 126 = .ok (.irem, 1) := by decide +kernel
theorem dX12_send_127 : decode cX12_send 127 = .ok (.iadd, 1) := by decide +kernel
theorem dX12_send_128 : decode cX12_send 128 = .ok (.iaload, 1) := by decide +kernel
theorem dX12_send_129 : decode cX12_send 129 = .ok (.iadd, 1) := by decide +kernel
theorem dX12_send_130 : decode cX12_send 130 = .ok (.iastore, 1) := by decide +kernel
theorem dX12_send_131 : decode cX12_send 131 = .ok (.iinc 5 1, 3) := by decide +kernel
theorem dX12_send_134 : decode cX12_send 134 = .ok (.goto (-39), 3) := by decide +kernel
theorem dX12_send_137 : decode cX12_send 137 = .ok (.aload_n 0, 1) := by decide +kernel
theorem dX12_send_138 : decode cX12_send 138 = .ok (.iload_n 1, 1) := by decide +kernel
theorem dX12_send_139 : decode cX12_send 139 = .ok (.iload_n 2, 1) := by decide +kernel
theorem dX12_send_140 : decode cX12_send 140 = .ok (.iconst 1, 1) := by decide +kernel
theorem dX12_send_141 : decode cX12_send 141 = .ok (.invokevirtual 233, 3) := by decide +kernel
theorem dX12_send_144 : decode cX12_send 144 = .ok (.aload_n 0, 1) := by decide +kernel
theorem dX12_send_145 : decode cX12_send 145 = .ok (.getfield 13, 3) := by decide +kernel
theorem dX12_send_148 : decode cX12_send 148 = .ok (.aload_n 0, 1) := by decide +kernel
theorem dX12_send_149 : decode cX12_send 149 = .ok (.iload_n 1, 1) := by decide +kernel
theorem dX12_send_150 : decode cX12_send 150 = .ok (.invokevirtual 188, 3) := by decide +kernel
theorem dX12_send_153 : decode cX12_send 153 = .ok (.iconst 5, 1) := by decide +kernel
theorem dX12_send_154 : decode cX12_send 154 = .ok (.iadd, 1) := by decide +kernel
theorem dX12_send_155 : decode cX12_send 155 = .ok (.iaload, 1) := by decide +kernel
theorem dX12_send_156 : decode cX12_send 156 = .ok (.iconst 1, 1) := by decide +kernel
theorem dX12_send_157 : decode cX12_send 157 = .ok (.if_icmp .ne 19, 3) := by decide +kernel
theorem dX12_send_160 : decode cX12_send 160 = .ok (.aload_n 0, 1) := by decide +kernel
theorem dX12_send_161 : decode cX12_send 161 = .ok (.getfield 13, 3) := by decide +kernel
theorem dX12_send_164 : decode cX12_send 164 = .ok (.aload_n 0, 1) := by decide +kernel
theorem dX12_send_165 : decode cX12_send 165 = .ok (.iload_n 1, 1) := by decide +kernel
theorem dX12_send_166 : decode cX12_send 166 = .ok (.invokevirtual 188, 3) := by decide +kernel
theorem dX12_send_169 : decode cX12_send 169 = .ok (.bipush 8, 2) := by decide +kernel
theorem dX12_send_171 : decode cX12_send 171 = .ok (.iadd, 1) := by decide +kernel
theorem dX12_send_172 : decode cX12_send 172 = .ok (.iaload, 1) := by decide +kernel
theorem dX12_send_173 : decode cX12_send 173 = .ok (.goto 4, 3) := by decide +kernel
theorem dX12_send_176 : decode cX12_send 176 = .ok (.iconst (-1), 1) := by decide +kernel
theorem dX12_send_177 : decode cX12_send 177 = .ok (.ireturn, 1) := by decide +kernel
theorem dX12_answer_0 : decode cX12_answer 0 = .ok (.aload_n 0, 1) := by decide +kernel
theorem dX12_answer_1 : decode cX12_answer 1 = .ok (.iconst 0, 1) := by decide +kernel
theorem dX12_answer_2 : decode cX12_answer 2 = .ok (.putfield 1, 3) := by decide +kernel
theorem dX12_answer_5 : decode cX12_answer 5 = .ok (.aload_n 0, 1) := by decide +kernel
theorem dX12_answer_6 : decode cX12_answer 6 = .ok (.iload_n 1, 1) := by decide +kernel
theorem dX12_answer_7 : decode cX12_answer 7 = .ok (.invokevirtual 222, 3) := by decide +kernel
theorem dX12_answer_10 : decode cX12_answer 10 = .ok (.ifCond .ne 6, 3) := by decide +kernel
theorem dX12_answer_13 : decode cX12_answer 13 = .ok (.bipush (-2), 2) := by decide +kernel
theorem dX12_answer_15 : decode cX12_answer 15 = .ok (.ireturn, 1) := by decide +kernel
theorem dX12_answer_16 : decode cX12_answer 16 = .ok (.iload_n 2, 1) := by decide +kernel
theorem dX12_answer_17 : decode cX12_answer 17 = .ok (.i2l, 1) := by decide +kernel
theorem dX12_answer_18 : decode cX12_answer 18 = .ok (.lconst 0, 1) := by decide +kernel
theorem dX12_answer_19 : decode cX12_answer 19 = .ok (.ldc2_w 237, 3) := by decide +kernel
theorem dX12_answer_22 : decode cX12_answer 22 = .ok (.invokestatic 94, 3) := by decide +kernel
theorem dX12_answer_25 : decode cX12_answer 25 = .ok (.ifCond .ne 6, 3) := by decide +kernel
theorem dX12_answer_28 : decode cX12_answer 28 = .ok (.bipush (-3), 2) := by decide +kernel
theorem dX12_answer_30 : decode cX12_answer 30 = .ok (.ireturn, 1) := by decide +kernel
theorem dX12_answer_31 : decode cX12_answer 31 = .ok (.aload_n 0, 1) := by decide +kernel
theorem dX12_answer_32 : decode cX12_answer 32 = .ok (.getfield 13, 3) := by decide +kernel
theorem dX12_answer_35 : decode cX12_answer 35 = .ok (.aload_n 0, 1) := by decide +kernel
theorem dX12_answer_36 : decode cX12_answer 36 = .ok (.iload_n 1, 1) := by decide +kernel
theorem dX12_answer_37 : decode cX12_answer 37 = .ok (.invokevirtual 188, 3) := by decide +kernel
theorem dX12_answer_40 : decode cX12_answer 40 = .ok (.iconst 4, 1) := by decide +kernel
theorem dX12_answer_41 : decode cX12_answer 41 = .ok (.iadd, 1) := by decide +kernel
theorem dX12_answer_42 : decode cX12_answer 42 = .ok (.iaload, 1) := by decide +kernel
theorem dX12_answer_43 : decode cX12_answer 43 = .ok (.iconst 1, 1) := by decide +kernel
theorem dX12_answer_44 : decode cX12_answer 44 = .ok (.if_icmp .ne 12, 3) := by decide +kernel
theorem dX12_answer_47 : decode cX12_answer 47 = .ok (.aload_n 0, 1) := by decide +kernel
theorem dX12_answer_48 : decode cX12_answer 48 = .ok (.iload_n 1, 1) := by decide +kernel
theorem dX12_answer_49 : decode cX12_answer 49 = .ok (.iload_n 2, 1) := by decide +kernel
theorem dX12_answer_50 : decode cX12_answer 50 = .ok (.invokevirtual 239, 3) := by decide +kernel
theorem dX12_answer_53 : decode cX12_answer 53 = .ok (.goto 5, 3) := by decide +kernel
theorem dX12_answer_56 : decode cX12_answer 56 = .ok (.bipush (-5), 2) := by decide +kernel
theorem dX12_answer_58 : decode cX12_answer 58 = .ok (.ireturn, 1) := by decide +kernel
theorem dX12_burst_0 : decode cX12_burst 0 = .ok (.aload_n 0, 1) := by decide +kernel
theorem dX12_burst_1 : decode cX12_burst 1 = .ok (.iconst 0, 1) := by decide +kernel
theorem dX12_burst_2 : decode cX12_burst 2 = .ok (.putfield 1, 3) := by decide +kernel
theorem dX12_burst_5 : decode cX12_burst 5 = .ok (.aload_n 0, 1) := by decide +kernel
theorem dX12_burst_6 : decode cX12_burst 6 = .ok (.iload_n 1, 1) := by decide +kernel
theorem dX12_burst_7 : decode cX12_burst 7 = .ok (.invokevirtual 222, 3) := by decide +kernel
theorem dX12_burst_10 : decode cX12_burst 10 = .ok (.ifCond .eq 38, 3) := by decide +kernel
theorem dX12_burst_13 : decode cX12_burst 13 = .ok (.iload_n 2, 1) := by decide +kernel
theorem dX12_burst_14 : decode cX12_burst 14 = .ok (.i2l, 1) := by decide +kernel
theorem dX12_burst_15 : decode cX12_burst 15 = .ok (.lconst 0, 1) := by decide +kernel
theorem dX12_burst_16 : decode cX12_burst 16 = .ok (.ldc2_w 132, 3) := by decide +kernel
theorem dX12_burst_19 : decode cX12_burst 19 = .ok (.invokestatic 94, 3) := by decide +kernel
theorem dX12_burst_22 : decode cX12_burst 22 = .ok (.ifCond .eq 26, 3) := by decide +kernel
theorem dX12_burst_25 : decode cX12_burst 25 = .ok (.iload_n 3, 1) := by decide +kernel
theorem dX12_burst_26 : decode cX12_burst 26 = .ok (.i2l, 1) := by decide +kernel
theorem dX12_burst_27 : decode cX12_burst 27 = .ok (.lconst 0, 1) := by decide +kernel
theorem dX12_burst_28 : decode cX12_burst 28 = .ok (.lconst 1, 1) := by decide +kernel
theorem dX12_burst_29 : decode cX12_burst 29 = .ok (.invokestatic 94, 3) := by decide +kernel
theorem dX12_burst_32 : decode cX12_burst 32 = .ok (.ifCond .eq 16, 3) := by decide +kernel
theorem dX12_burst_35 : decode cX12_burst 35 = .ok (.iload 4, 2) := by decide +kernel
theorem dX12_burst_37 : decode cX12_burst 37 = .ok (.i2l, 1) := by decide +kernel
theorem dX12_burst_38 : decode cX12_burst 38 = .ok (.lconst 0, 1) := by decide +kernel
theorem dX12_burst_39 : decode cX12_burst 39 = .ok (.ldc2_w 132, 3) := by decide +kernel
theorem dX12_burst_42 : decode cX12_burst 42 = .ok (.invokestatic 94, 3) := by decide +kernel
theorem dX12_burst_45 : decode cX12_burst 45 = .ok (.ifCond .ne 6, 3) := by decide +kernel
theorem dX12_burst_48 : decode cX12_burst 48 = .ok (.bipush (-2), 2) := by decide +kernel
theorem dX12_burst_50 : decode cX12_burst 50 = .ok (.ireturn, 1) := by decide +kernel
theorem dX12_burst_51 : decode cX12_burst 51 = .ok (.aload_n 0, 1) := by decide +kernel
theorem dX12_burst_52 : decode cX12_burst 52 = .ok (.getfield 61, 3) := by decide +kernel
theorem dX12_burst_55 : decode cX12_burst 55 = .ok (.iload 4, 2) := by decide +kernel
theorem dX12_burst_57 : decode cX12_burst 57 = .ok (.iaload, 1) := by decide +kernel
theorem dX12_burst_58 : decode cX12_burst 58 = .ok (.iconst (-1), 1) := by decide +kernel
theorem dX12_burst_59 : decode cX12_burst 59 = .ok (.if_icmp .ne 6, 3) := by decide +kernel
theorem dX12_burst_62 : decode cX12_burst 62 = .ok (.bipush (-6), 2) := by decide +kernel
theorem dX12_burst_64 : decode cX12_burst 64 = .ok (.ireturn, 1) := by decide +kernel
theorem dX12_burst_65 : decode cX12_burst 65 = .ok (.aload_n 0, 1) := by decide +kernel
theorem dX12_burst_66 : decode cX12_burst 66 = .ok (.getfield 61, 3) := by decide +kernel
theorem dX12_burst_69 : decode cX12_burst 69 = .ok (.iload 4, 2) := by decide +kernel
theorem dX12_burst_71 : decode cX12_burst 71 = .ok (.iaload, 1) := by decide +kernel
theorem dX12_burst_72 : decode cX12_burst 72 = .ok (.istore 5, 2) := by decide +kernel
theorem dX12_burst_74 : decode cX12_burst 74 = .ok (.iload 5, 2) := by decide +kernel
theorem dX12_burst_76 : decode cX12_burst 76 = .ok (.ifCond .ne 6, 3) := by decide +kernel
theorem dX12_burst_79 : decode cX12_burst 79 = .ok (.bipush (-4), 2) := by decide +kernel
theorem dX12_burst_81 : decode cX12_burst 81 = .ok (.ireturn, 1) := by decide +kernel
theorem dX12_burst_82 : decode cX12_burst 82 = .ok (.aload_n 0, 1) := by decide +kernel
theorem dX12_burst_83 : decode cX12_burst 83 = .ok (.iload_n 2, 1) := by decide +kernel
theorem dX12_burst_84 : decode cX12_burst 84 = .ok (.iload 5, 2) := by decide +kernel
theorem dX12_burst_86 : decode cX12_burst 86 = .ok (.invokevirtual 102, 3) := by decide +kernel
theorem dX12_burst_89 : decode cX12_burst 89 = .ok (.iconst 0, 1) := by decide +kernel
theorem dX12_burst_90 : decode cX12_burst 90 = .ok (.istore 6, 2) := by decide +kernel
theorem dX12_burst_92 : decode cX12_burst 92 = .ok (.iload 6, 2) := by decide +kernel
theorem dX12_burst_94 : decode cX12_burst 94 = .ok (.iload 5, 2) := by decide +kernel
theorem dX12_burst_96 : decode cX12_burst 96 = .ok (.if_icmp .ge 29, 3) := by decide +kernel
theorem dX12_burst_99 : decode cX12_burst 99 = .ok (.aload_n 0, 1) := by decide +kernel
theorem dX12_burst_100 : decode cX12_burst 100 = .ok (.getfield 52, 3) := by decide +kernel
theorem dX12_burst_103 : decode cX12_burst 103 = .ok (.iload 6, 2) := by decide +kernel
theorem dX12_burst_105 : decode cX12_burst 105 = .ok (.aload_n 0, 1) := by decide +kernel
theorem dX12_burst_106 : decode cX12_burst 106 = .ok (.getfield 64, 3) := by decide +kernel
theorem dX12_burst_109 : decode cX12_burst 109 = .ok (.bipush 60, 2) := by decide +kernel
theorem dX12_burst_111 : decode cX12_burst 111 = .ok (.iload 4, 2) := by decide +kernel
theorem dX12_burst_113 : decode cX12_burst 113 = .ok (.imul, 1) := by decide +kernel
theorem dX12_burst_114 : decode cX12_burst 114 = .ok (.iload 6, 2) := by decide +kernel
theorem dX12_burst_116 : decode cX12_burst 116 = .ok (.iadd, 1) := by decide +kernel
theorem dX12_burst_117 : decode cX12_burst 117 = .ok (.iaload, 1) := by decide +kernel
theorem dX12_burst_118 : decode cX12_burst 118 = .ok (.iastore, 1) := by decide +kernel
theorem dX12_burst_119 : decode cX12_burst 119 = .ok (.iinc 6 1, 3) := by decide +kernel
theorem dX12_burst_122 : decode cX12_burst 122 = .ok (.goto (-30), 3) := by decide +kernel
theorem dX12_burst_125 : decode cX12_burst 125 = .ok (.aload_n 0, 1) := by decide +kernel
theorem dX12_burst_126 : decode cX12_burst 126 = .ok (.iload_n 1, 1) := by decide +kernel
theorem dX12_burst_127 : decode cX12_burst 127 = .ok (.iload_n 3, 1) := by decide +kernel
theorem dX12_burst_128 : decode cX12_burst 128 = .ok (.iload 5, 2) := by decide +kernel
theorem dX12_burst_130 : decode cX12_burst 130 = .ok (.invokevirtual 210, 3) := by decide +kernel
theorem dX12_burst_133 : decode cX12_burst 133 = .ok (.aload_n 0, 1) := by decide +kernel
theorem dX12_burst_134 : decode cX12_burst 134 = .ok (.getfield 13, 3) := by decide +kernel
theorem dX12_burst_137 : decode cX12_burst 137 = .ok (.aload_n 0, 1) := by decide +kernel
theorem dX12_burst_138 : decode cX12_burst 138 = .ok (.iload_n 1, 1) := by decide +kernel
theorem dX12_burst_139 : decode cX12_burst 139 = .ok (.invokevirtual 188, 3) := by decide +kernel
theorem dX12_burst_142 : decode cX12_burst 142 = .ok (.bipush 8, 2) := by decide +kernel
theorem dX12_burst_144 : decode cX12_burst 144 = .ok (.iadd, 1) := by decide +kernel
theorem dX12_burst_145 : decode cX12_burst 145 = .ok (.iaload, 1) := by decide +kernel
theorem dX12_burst_146 : decode cX12_burst 146 = .ok (.ireturn, 1) := by decide +kernel
theorem dX12_tick_0 : decode cX12_tick 0 = .ok (.aload_n 0, 1) := by decide +kernel
theorem dX12_tick_1 : decode cX12_tick 1 = .ok (.iconst 0, 1) := by decide +kernel
theorem dX12_tick_2 : decode cX12_tick 2 = .ok (.putfield 1, 3) := by decide +kernel
theorem dX12_tick_5 : decode cX12_tick 5 = .ok (.iload_n 1, 1) := by decide +kernel
theorem dX12_tick_6 : decode cX12_tick 6 = .ok (.i2l, 1) := by decide +kernel
theorem dX12_tick_7 : decode cX12_tick 7 = .ok (.lconst 1, 1) := by decide +kernel
theorem dX12_tick_8 : decode cX12_tick 8 = .ok (.ldc2_w 98, 3) := by decide +kernel
theorem dX12_tick_11 : decode cX12_tick 11 = .ok (.invokestatic 94, 3) := by decide +kernel
theorem dX12_tick_14 : decode cX12_tick 14 = .ok (.ifCond .ne 6, 3) := by decide +kernel
theorem dX12_tick_17 : decode cX12_tick 17 = .ok (.bipush (-3), 2) := by decide +kernel
theorem dX12_tick_19 : decode cX12_tick 19 = .ok (.ireturn, 1) := by decide +kernel
theorem dX12_tick_20 : decode cX12_tick 20 = .ok (.aload_n 0, 1) := by decide +kernel
theorem dX12_tick_21 : decode cX12_tick 21 = .ok (.getfield 13, 3) := by decide +kernel
theorem dX12_tick_24 : decode cX12_tick 24 = .ok (.bipush 66, 2) := by decide +kernel
theorem dX12_tick_26 : decode cX12_tick 26 = .ok (.iaload, 1) := by decide +kernel
theorem dX12_tick_27 : decode cX12_tick 27 = .ok (.istore_n 2, 1) := by decide +kernel
theorem dX12_tick_28 : decode cX12_tick 28 = .ok (.iconst 0, 1) := by decide +kernel
theorem dX12_tick_29 : decode cX12_tick 29 = .ok (.istore_n 3, 1) := by decide +kernel
theorem dX12_tick_30 : decode cX12_tick 30 = .ok (.iload_n 3, 1) := by decide +kernel
theorem dX12_tick_31 : decode cX12_tick 31 = .ok (.iload_n 1, 1) := by decide +kernel
theorem dX12_tick_32 : decode cX12_tick 32 = .ok (.if_icmp .ge 13, 3) := by decide +kernel
theorem dX12_tick_35 : decode cX12_tick 35 = .ok (.aload_n 0, 1) := by decide +kernel
theorem dX12_tick_36 : decode cX12_tick 36 = .ok (.invokevirtual 242, 3) := by decide +kernel
theorem dX12_tick_39 : decode cX12_tick 39 = .ok (.iinc 3 1, 3) := by decide +kernel
theorem dX12_tick_42 : decode cX12_tick 42 = .ok (.goto (-12), 3) := by decide +kernel
theorem dX12_tick_45 : decode cX12_tick 45 = .ok (.aload_n 0, 1) := by decide +kernel
theorem dX12_tick_46 : decode cX12_tick 46 = .ok (.getfield 13, 3) := by decide +kernel
theorem dX12_tick_49 : decode cX12_tick 49 = .ok (.bipush 66, 2) := by decide +kernel
theorem dX12_tick_51 : decode cX12_tick 51 = .ok (.iaload, 1) := by decide +kernel
theorem dX12_tick_52 : decode cX12_tick 52 = .ok (.iload_n 2, 1) := by decide +kernel
theorem dX12_tick_53 : decode cX12_tick 53 = .ok (.isub, 1) := by decide +kernel
theorem dX12_tick_54 : decode cX12_tick 54 = .ok (.ireturn, 1) := by decide +kernel
theorem dX12_report_0 : decode cX12_report 0 = .ok (.aload_n 0, 1) := by decide +kernel
theorem dX12_report_1 : decode cX12_report 1 = .ok (.iconst 0, 1) := by decide +kernel
theorem dX12_report_2 : decode cX12_report 2 = .ok (.putfield 1, 3) := by decide +kernel
theorem dX12_report_5 : decode cX12_report 5 = .ok (.aload_n 0, 1) := by decide +kernel
theorem dX12_report_6 : decode cX12_report 6 = .ok (.invokevirtual 245, 3) := by decide +kernel
theorem dX12_report_9 : decode cX12_report 9 = .ok (.aload_n 0, 1) := by decide +kernel
theorem dX12_report_10 : decode cX12_report 10 = .ok (.getfield 13, 3) := by decide +kernel
theorem dX12_report_13 : decode cX12_report 13 = .ok (.bipush 30, 2) := by decide +kernel
theorem dX12_report_15 : decode cX12_report 15 = .ok (.iaload, 1) := by decide +kernel
theorem dX12_report_16 : decode cX12_report 16 = .ok (.ireturn, 1) := by decide +kernel
theorem dX12_draw_0 : decode cX12_draw 0 = .ok (.aload_n 0, 1) := by decide +kernel
theorem dX12_draw_1 : decode cX12_draw 1 = .ok (.ldc 248, 2) := by decide +kernel
theorem dX12_draw_3 : decode cX12_draw 3 = .ok (.aload_n 0, 1) := by decide +kernel
theorem dX12_draw_4 : decode cX12_draw 4 = .ok (.getfield 249, 3) := by decide +kernel
theorem dX12_draw_7 : decode cX12_draw 7 = .ok (.imul, 1) := by decide +kernel
theorem dX12_draw_8 : decode cX12_draw 8 = .ok (.sipush 12345, 3) := by decide +kernel
theorem dX12_draw_11 : decode cX12_draw 11 = .ok (.iadd, 1) := by decide +kernel
theorem dX12_draw_12 : decode cX12_draw 12 = .ok (.putfield 249, 3) := by decide +kernel
theorem dX12_draw_15 : decode cX12_draw 15 = .ok (.aload_n 0, 1) := by decide +kernel
theorem dX12_draw_16 : decode cX12_draw 16 = .ok (.getfield 249, 3) := by decide +kernel
theorem dX12_draw_19 : decode cX12_draw 19 = .ok (.bipush 16, 2) := by decide +kernel
theorem dX12_draw_21 : decode cX12_draw 21 = .ok (.iushr, 1) := by decide +kernel
theorem dX12_draw_22 : decode cX12_draw 22 = .ok (.iload_n 1, 1) := by decide +kernel
theorem dX12_draw_23 : decode cX12_draw 23 = .ok (.irem, 1) := by decide +kernel
theorem dX12_draw_24 : decode cX12_draw 24 = .ok (.ireturn, 1) := by decide +kernel
theorem dX12_goesRound_0 : decode cX12_goesRound 0 = .ok (.aload_n 0, 1) := by decide +kernel
theorem dX12_goesRound_1 : decode cX12_goesRound 1 = .ok (.getfield 13, 3) := by decide +kernel
theorem dX12_goesRound_4 : decode cX12_goesRound 4 = .ok (.aload_n 0, 1) := by decide +kernel
theorem dX12_goesRound_5 : decode cX12_goesRound 5 = .ok (.iload_n 1, 1) := by decide +kernel
theorem dX12_goesRound_6 : decode cX12_goesRound 6 = .ok (.invokevirtual 188, 3) := by decide +kernel
theorem dX12_goesRound_9 : decode cX12_goesRound 9 = .ok (.iconst 4, 1) := by decide +kernel
theorem dX12_goesRound_10 : decode cX12_goesRound 10 = .ok (.iadd, 1) := by decide +kernel
theorem dX12_goesRound_11 : decode cX12_goesRound 11 = .ok (.iaload, 1) := by decide +kernel
theorem dX12_goesRound_12 : decode cX12_goesRound 12 = .ok (.iconst 1, 1) := by decide +kernel
theorem dX12_goesRound_13 : decode cX12_goesRound 13 = .ok (.if_icmp .ne 37, 3) := by decide +kernel
theorem dX12_goesRound_16 : decode cX12_goesRound 16 = .ok (.aload_n 0, 1) := by decide +kernel
theorem dX12_goesRound_17 : decode cX12_goesRound 17 = .ok (.bipush 8, 2) := by decide +kernel
theorem dX12_goesRound_19 : decode cX12_goesRound 19 = .ok (.invokevirtual 252, 3) := by decide +kernel
theorem dX12_goesRound_22 : decode cX12_goesRound 22 = .ok (.istore 4, 2) := by decide +kernel
theorem dX12_goesRound_24 : decode cX12_goesRound 24 = .ok (.aload_n 0, 1) := by decide +kernel
theorem dX12_goesRound_25 : decode cX12_goesRound 25 = .ok (.iload_n 1, 1) := by decide +kernel
theorem dX12_goesRound_26 : decode cX12_goesRound 26 = .ok (.iload 4, 2) := by decide +kernel
theorem dX12_goesRound_28 : decode cX12_goesRound 28 = .ok (.ifCond .ne 7, 3) := by decide +kernel
theorem dX12_goesRound_31 : decode cX12_goesRound 31 = .ok (.iconst 1, 1) := by decide +kernel
theorem dX12_goesRound_32 : decode cX12_goesRound 32 = .ok (.goto 14, 3) := by decide +kernel
theorem dX12_goesRound_35 : decode cX12_goesRound 35 = .ok (.iload 4, 2) := by decide +kernel
theorem dX12_goesRound_37 : decode cX12_goesRound 37 = .ok (.iconst 1, 1) := by decide +kernel
theorem dX12_goesRound_38 : decode cX12_goesRound 38 = .ok (.if_icmp .ne 7, 3) := by decide +kernel
theorem dX12_goesRound_41 : decode cX12_goesRound 41 = .ok (.iconst 2, 1) := by decide +kernel
theorem dX12_goesRound_42 : decode cX12_goesRound 42 = .ok (.goto 4, 3) := by decide +kernel
theorem dX12_goesRound_45 : decode cX12_goesRound 45 = .ok (.iconst 0, 1) := by decide +kernel
theorem dX12_goesRound_46 : decode cX12_goesRound 46 = .ok (.invokevirtual 239, 3) := by decide +kernel
theorem dX12_goesRound_49 : decode cX12_goesRound 49 = .ok (.pop, 1) := by decide +kernel
theorem dX12_goesRound_50 : decode cX12_goesRound 50 = .ok (.aload_n 0, 1) := by decide +kernel
theorem dX12_goesRound_51 : decode cX12_goesRound 51 = .ok (.iload_n 1, 1) := by decide +kernel
theorem dX12_goesRound_52 : decode cX12_goesRound 52 = .ok (.invokevirtual 227, 3) := by decide +kernel
theorem dX12_goesRound_55 : decode cX12_goesRound 55 = .ok (.ifCond .eq 69, 3) := by decide +kernel
theorem dX12_goesRound_58 : decode cX12_goesRound 58 = .ok (.aload_n 0, 1) := by decide +kernel
theorem dX12_goesRound_59 : decode cX12_goesRound 59 = .ok (.iload_n 1, 1) := by decide +kernel
theorem dX12_goesRound_60 : decode cX12_goesRound 60 = .ok (.iload_n 2, 1) := by decide +kernel
theorem dX12_goesRound_61 : decode cX12_goesRound 61 = .ok (.invokevirtual 230, 3) := by decide +kernel
theorem dX12_goesRound_64 : decode cX12_goesRound 64 = .ok (.aload_n 0, 1) := by decide +kernel
theorem dX12_goesRound_65 : decode cX12_goesRound 65 = .ok (.bipush 16, 2) := by decide +kernel
theorem dX12_goesRound_67 : decode cX12_goesRound 67 = .ok (.invokevirtual 252, 3) := by decide +kernel
theorem dX12_goesRound_70 : decode cX12_goesRound 70 = .ok (.ifCond .eq 7, 3) := by decide +kernel
theorem dX12_goesRound_73 : decode cX12_goesRound 73 = .ok (.iconst 1, 1) := by decide +kernel
theorem dX12_goesRound_74 : decode cX12_goesRound 74 = .ok (.goto 4, 3) := by decide +kernel
theorem dX12_goesRound_77 : decode cX12_goesRound 77 = .ok (.iconst 0, 1) := by decide +kernel
theorem dX12_goesRound_78 : decode cX12_goesRound 78 = .ok (.istore 4, 2) := by decide +kernel
theorem dX12_goesRound_80 : decode cX12_goesRound 80 = .ok (.iconst 0, 1) := by decide +kernel
theorem dX12_goesRound_81 : decode cX12_goesRound 81 = .ok (.istore 5, 2) := by decide +kernel
theorem dX12_goesRound_83 : decode cX12_goesRound 83 = .ok (.iload 5, 2) := by decide +kernel
theorem dX12_goesRound_85 : decode cX12_goesRound 85 = .ok (.iload_n 2, 1) := by decide +kernel
theorem dX12_goesRound_86 : decode cX12_goesRound 86 = .ok (.if_icmp .ge 30, 3) := by decide +kernel
theorem dX12_goesRound_89 : decode cX12_goesRound 89 = .ok (.aload_n 0, 1) := by decide +kernel
theorem dX12_goesRound_90 : decode cX12_goesRound 90 = .ok (.getfield 52, 3) := by decide +kernel
theorem dX12_goesRound_93 : decode cX12_goesRound 93 = .ok (.iload 5, 2) := by decide +kernel
theorem dX12_goesRound_95 : decode cX12_goesRound 95 = .ok (.dup2, 1) := by decide +kernel
theorem dX12_goesRound_96 : decode cX12_goesRound 96 = .ok (.iaload, 1) := by decide +kernel
theorem dX12_goesRound_97 : decode cX12_goesRound 97 = .ok (.aload_n 0, 1) := by decide +kernel
theorem dX12_goesRound_98 : decode cX12_goesRound 98 = .ok (.iconst 2, 1) := by decide +kernel
theorem dX12_goesRound_99 : decode cX12_goesRound 99 = .ok (.iload_n 3, 1) := by decide +kernel
theorem dX12_goesRound_100 : decode cX12_goesRound 100 = .ok (.imul, 1) := by decide +kernel
theorem dX12_goesRound_101 : decode cX12_goesRound 101 = .ok (.iconst 1, 1) := by decide +kernel
theorem dX12_goesRound_102 : decode cX12_goesRound 102 = .ok (.iadd, 1) := by decide +kernel
theorem dX12_goesRound_103 : decode cX12_goesRound 103 = .ok (.invokevirtual 252, 3) := by decide +kernel
theorem dX12_goesRound_106 : decode cX12_goesRound 106 = .ok (.iload_n 3, 1) := by decide +kernel
theorem dX12_goesRound_107 : decode cX12_goesRound 107 = .ok (.isub, 1) := by decide +kernel
theorem dX12_goesRound_108 : decode cX12_goesRound 108 = .ok (.iadd, 1) := by decide +kernel
theorem dX12_goesRound_109 : decode cX12_goesRound 109 = .ok (.iastore, 1) := by decide +kernel
theorem dX12_goesRound_110 : decode cX12_goesRound 110 = .ok (.iinc 5 1, 3) := by decide +kernel
theorem dX12_goesRound_113 : decode cX12_goesRound 113 = .ok (.goto (-30), 3) := by decide +kernel
theorem dX12_goesRound_116 : decode cX12_goesRound 116 = .ok (.aload_n 0, 1) := by decide +kernel
theorem dX12_goesRound_117 : decode cX12_goesRound 117 = .ok (.iload_n 1, 1) := by decide +kernel
theorem dX12_goesRound_118 : decode cX12_goesRound 118 = .ok (.iload_n 2, 1) := by decide +kernel
theorem dX12_goesRound_119 : decode cX12_goesRound 119 = .ok (.iload 4, 2) := by decide +kernel
theorem dX12_goesRound_121 : decode cX12_goesRound 121 = .ok (.invokevirtual 233, 3) := by decide +kernel
theorem dX12_goesRound_124 : decode cX12_goesRound 124 = .ok (.aload_n 0, 1) := by decide +kernel
theorem dX12_goesRound_125 : decode cX12_goesRound 125 = .ok (.invokevirtual 242, 3) := by decide +kernel
theorem dX12_goesRound_128 : decode cX12_goesRound 128 = .ok (.return_, 1) := by decide +kernel
theorem dX12_run_0 : decode cX12_run 0 = .ok (.aload_n 0, 1) := by decide +kernel
theorem dX12_run_1 : decode cX12_run 1 = .ok (.iconst 0, 1) := by decide +kernel
theorem dX12_run_2 : decode cX12_run 2 = .ok (.putfield 1, 3) := by decide +kernel
theorem dX12_run_5 : decode cX12_run 5 = .ok (.iload_n 2, 1) := by decide +kernel
theorem dX12_run_6 : decode cX12_run 6 = .ok (.i2l, 1) := by decide +kernel
theorem dX12_run_7 : decode cX12_run 7 = .ok (.lconst 1, 1) := by decide +kernel
theorem dX12_run_8 : decode cX12_run 8 = .ok (.ldc2_w 98, 3) := by decide +kernel
theorem dX12_run_11 : decode cX12_run 11 = .ok (.invokestatic 94, 3) := by decide +kernel
theorem dX12_run_14 : decode cX12_run 14 = .ok (.ifCond .eq 23, 3) := by decide +kernel
theorem dX12_run_17 : decode cX12_run 17 = .ok (.iload_n 3, 1) := by decide +kernel
theorem dX12_run_18 : decode cX12_run 18 = .ok (.invokestatic 134, 3) := by decide +kernel
theorem dX12_run_21 : decode cX12_run 21 = .ok (.ifCond .eq 16, 3) := by decide +kernel
theorem dX12_run_24 : decode cX12_run 24 = .ok (.iload 4, 2) := by decide +kernel
theorem dX12_run_26 : decode cX12_run 26 = .ok (.i2l, 1) := by decide +kernel
theorem dX12_run_27 : decode cX12_run 27 = .ok (.lconst 0, 1) := by decide +kernel
theorem dX12_run_28 : decode cX12_run 28 = .ok (.ldc2_w 255, 3) := by decide +kernel
theorem dX12_run_31 : decode cX12_run 31 = .ok (.invokestatic 94, 3) := by decide +kernel
theorem dX12_run_34 : decode cX12_run 34 = .ok (.ifCond .ne 6, 3) := by decide +kernel
theorem dX12_run_37 : decode cX12_run 37 = .ok (.bipush (-3), 2) := by decide +kernel
theorem dX12_run_39 : decode cX12_run 39 = .ok (.ireturn, 1) := by decide +kernel
theorem dX12_run_40 : decode cX12_run 40 = .ok (.aload_n 0, 1) := by decide +kernel
theorem dX12_run_41 : decode cX12_run 41 = .ok (.iload_n 1, 1) := by decide +kernel
theorem dX12_run_42 : decode cX12_run 42 = .ok (.putfield 249, 3) := by decide +kernel
theorem dX12_run_45 : decode cX12_run 45 = .ok (.aload_n 0, 1) := by decide +kernel
theorem dX12_run_46 : decode cX12_run 46 = .ok (.getfield 13, 3) := by decide +kernel
theorem dX12_run_49 : decode cX12_run 49 = .ok (.bipush 66, 2) := by decide +kernel
theorem dX12_run_51 : decode cX12_run 51 = .ok (.iaload, 1) := by decide +kernel
theorem dX12_run_52 : decode cX12_run 52 = .ok (.istore 5, 2) := by decide +kernel
theorem dX12_run_54 : decode cX12_run 54 = .ok (.iconst 0, 1) := by decide +kernel
theorem dX12_run_55 : decode cX12_run 55 = .ok (.istore 6, 2) := by decide +kernel
theorem dX12_run_57 : decode cX12_run 57 = .ok (.iload 6, 2) := by decide +kernel
theorem dX12_run_59 : decode cX12_run 59 = .ok (.iload_n 2, 1) := by decide +kernel
theorem dX12_run_60 : decode cX12_run 60 = .ok (.if_icmp .ge 39, 3) := by decide +kernel
theorem dX12_run_63 : decode cX12_run 63 = .ok (.aload_n 0, 1) := by decide +kernel
theorem dX12_run_64 : decode cX12_run 64 = .ok (.iload 6, 2) := by decide +kernel
theorem dX12_run_66 : decode cX12_run 66 = .ok (.aload_n 0, 1) := by decide +kernel
theorem dX12_run_67 : decode cX12_run 67 = .ok (.getfield 13, 3) := by decide +kernel
theorem dX12_run_70 : decode cX12_run 70 = .ok (.iconst 0, 1) := by decide +kernel
theorem dX12_run_71 : decode cX12_run 71 = .ok (.iaload, 1) := by decide +kernel
theorem dX12_run_72 : decode cX12_run 72 = .ok (.irem, 1) := by decide +kernel
theorem dX12_run_73 : decode cX12_run 73 = .ok (.iload_n 3, 1) := by decide +kernel
theorem dX12_run_74 : decode cX12_run 74 = .ok (.iload 4, 2) := by decide +kernel
theorem dX12_run_76 : decode cX12_run 76 = .ok (.invokevirtual 257, 3) := by decide +kernel
theorem dX12_run_79 : decode cX12_run 79 = .ok (.iload 6, 2) := by decide +kernel
theorem dX12_run_81 : decode cX12_run 81 = .ok (.bipush 8, 2) := by decide +kernel
theorem dX12_run_83 : decode cX12_run 83 = .ok (.irem, 1) := by decide +kernel
theorem dX12_run_84 : decode cX12_run 84 = .ok (.bipush 7, 2) := by decide +kernel
theorem dX12_run_86 : decode cX12_run 86 = .ok (.if_icmp .ne 7, 3) := by decide +kernel
theorem dX12_run_89 : decode cX12_run 89 = .ok (.aload_n 0, 1) := by decide +kernel
theorem dX12_run_90 : decode cX12_run 90 = .ok (.invokevirtual 245, 3) := by decide +kernel
theorem dX12_run_93 : decode cX12_run 93 = .ok (.iinc 6 1, 3) := by decide +kernel
theorem dX12_run_96 : decode cX12_run 96 = .ok (.goto (-39), 3) := by decide +kernel
theorem dX12_run_99 : decode cX12_run 99 = .ok (.aload_n 0, 1) := by decide +kernel
theorem dX12_run_100 : decode cX12_run 100 = .ok (.getfield 13, 3) := by decide +kernel
theorem dX12_run_103 : decode cX12_run 103 = .ok (.bipush 66, 2) := by decide +kernel
theorem dX12_run_105 : decode cX12_run 105 = .ok (.iaload, 1) := by decide +kernel
theorem dX12_run_106 : decode cX12_run 106 = .ok (.iload 5, 2) := by decide +kernel
theorem dX12_run_108 : decode cX12_run 108 = .ok (.isub, 1) := by decide +kernel
theorem dX12_run_109 : decode cX12_run 109 = .ok (.ireturn, 1) := by decide +kernel
theorem dX12_goesClean_0 : decode cX12_goesClean 0 = .ok (.iconst 0, 1) := by decide +kernel
theorem dX12_goesClean_1 : decode cX12_goesClean 1 = .ok (.istore_n 2, 1) := by decide +kernel
theorem dX12_goesClean_2 : decode cX12_goesClean 2 = .ok (.iload_n 2, 1) := by decide +kernel
theorem dX12_goesClean_3 : decode cX12_goesClean 3 = .ok (.aload_n 0, 1) := by decide +kernel
theorem dX12_goesClean_4 : decode cX12_goesClean 4 = .ok (.getfield 13, 3) := by decide +kernel
theorem dX12_goesClean_7 : decode cX12_goesClean 7 = .ok (.iconst 0, 1) := by decide +kernel
theorem dX12_goesClean_8 : decode cX12_goesClean 8 = .ok (.iaload, 1) := by decide +kernel
theorem dX12_goesClean_9 : decode cX12_goesClean 9 = .ok (.if_icmp .ge 58, 3) := by decide +kernel
theorem dX12_goesClean_12 : decode cX12_goesClean 12 = .ok (.aload_n 0, 1) := by decide +kernel
theorem dX12_goesClean_13 : decode cX12_goesClean 13 = .ok (.getfield 13, 3) := by decide +kernel
theorem dX12_goesClean_16 : decode cX12_goesClean 16 = .ok (.aload_n 0, 1) := by decide +kernel
theorem dX12_goesClean_17 : decode cX12_goesClean 17 = .ok (.iload_n 2, 1) := by decide +kernel
theorem dX12_goesClean_18 : decode cX12_goesClean 18 = .ok (.invokevirtual 188, 3) := by decide +kernel
theorem dX12_goesClean_21 : decode cX12_goesClean 21 = .ok (.iconst 4, 1) := by decide +kernel
theorem dX12_goesClean_22 : decode cX12_goesClean 22 = .ok (.iadd, 1) := by decide +kernel
theorem dX12_goesClean_23 : decode cX12_goesClean 23 = .ok (.iaload, 1) := by decide +kernel
theorem dX12_goesClean_24 : decode cX12_goesClean 24 = .ok (.iconst 1, 1) := by decide +kernel
theorem dX12_goesClean_25 : decode cX12_goesClean 25 = .ok (.if_icmp .ne 10, 3) := by decide +kernel
theorem dX12_goesClean_28 : decode cX12_goesClean 28 = .ok (.aload_n 0, 1) := by decide +kernel
theorem dX12_goesClean_29 : decode cX12_goesClean 29 = .ok (.iload_n 2, 1) := by decide +kernel
theorem dX12_goesClean_30 : decode cX12_goesClean 30 = .ok (.iload_n 1, 1) := by decide +kernel
theorem dX12_goesClean_31 : decode cX12_goesClean 31 = .ok (.invokevirtual 239, 3) := by decide +kernel
theorem dX12_goesClean_34 : decode cX12_goesClean 34 = .ok (.pop, 1) := by decide +kernel
theorem dX12_goesClean_35 : decode cX12_goesClean 35 = .ok (.aload_n 0, 1) := by decide +kernel
theorem dX12_goesClean_36 : decode cX12_goesClean 36 = .ok (.iload_n 2, 1) := by decide +kernel
theorem dX12_goesClean_37 : decode cX12_goesClean 37 = .ok (.invokevirtual 227, 3) := by decide +kernel
theorem dX12_goesClean_40 : decode cX12_goesClean 40 = .ok (.ifCond .ne 6, 3) := by decide +kernel
theorem dX12_goesClean_43 : decode cX12_goesClean 43 = .ok (.goto 18, 3) := by decide +kernel
theorem dX12_goesClean_46 : decode cX12_goesClean 46 = .ok (.aload_n 0, 1) := by decide +kernel
theorem dX12_goesClean_47 : decode cX12_goesClean 47 = .ok (.iload_n 2, 1) := by decide +kernel
theorem dX12_goesClean_48 : decode cX12_goesClean 48 = .ok (.bipush 39, 2) := by decide +kernel
theorem dX12_goesClean_50 : decode cX12_goesClean 50 = .ok (.invokevirtual 230, 3) := by decide +kernel
theorem dX12_goesClean_53 : decode cX12_goesClean 53 = .ok (.aload_n 0, 1) := by decide +kernel
theorem dX12_goesClean_54 : decode cX12_goesClean 54 = .ok (.iload_n 2, 1) := by decide +kernel
theorem dX12_goesClean_55 : decode cX12_goesClean 55 = .ok (.bipush 39, 2) := by decide +kernel
theorem dX12_goesClean_57 : decode cX12_goesClean 57 = .ok (.iconst 1, 1) := by decide +kernel
theorem dX12_goesClean_58 : decode cX12_goesClean 58 = .ok (.invokevirtual 233, 3) := by decide +kernel
theorem dX12_goesClean_61 : decode cX12_goesClean 61 = .ok (.iinc 2 1, 3) := by decide +kernel
theorem dX12_goesClean_64 : decode cX12_goesClean 64 = .ok (.goto (-62), 3) := by decide +kernel
theorem dX12_goesClean_67 : decode cX12_goesClean 67 = .ok (.aload_n 0, 1) := by decide +kernel
theorem dX12_goesClean_68 : decode cX12_goesClean 68 = .ok (.invokevirtual 242, 3) := by decide +kernel
theorem dX12_goesClean_71 : decode cX12_goesClean 71 = .ok (.aload_n 0, 1) := by decide +kernel
theorem dX12_goesClean_72 : decode cX12_goesClean 72 = .ok (.invokevirtual 245, 3) := by decide +kernel
theorem dX12_goesClean_75 : decode cX12_goesClean 75 = .ok (.return_, 1) := by decide +kernel
theorem dX12_isDrained_0 : decode cX12_isDrained 0 = .ok (.aload_n 0, 1) := by decide +kernel
theorem dX12_isDrained_1 : decode cX12_isDrained 1 = .ok (.getfield 13, 3) := by decide +kernel
theorem dX12_isDrained_4 : decode cX12_isDrained 4 = .ok (.bipush 7, 2) := by decide +kernel
theorem dX12_isDrained_6 : decode cX12_isDrained 6 = .ok (.iaload, 1) := by decide +kernel
theorem dX12_isDrained_7 : decode cX12_isDrained 7 = .ok (.ifCond .ne 24, 3) := by decide +kernel
theorem dX12_isDrained_10 : decode cX12_isDrained 10 = .ok (.aload_n 0, 1) := by decide +kernel
theorem dX12_isDrained_11 : decode cX12_isDrained 11 = .ok (.getfield 13, 3) := by decide +kernel
theorem dX12_isDrained_14 : decode cX12_isDrained 14 = .ok (.bipush 29, 2) := by decide +kernel
theorem dX12_isDrained_16 : decode cX12_isDrained 16 = .ok (.iaload, 1) := by decide +kernel
theorem dX12_isDrained_17 : decode cX12_isDrained 17 = .ok (.aload_n 0, 1) := by decide +kernel
theorem dX12_isDrained_18 : decode cX12_isDrained 18 = .ok (.getfield 13, 3) := by decide +kernel
theorem dX12_isDrained_21 : decode cX12_isDrained 21 = .ok (.bipush 28, 2) := by decide +kernel
theorem dX12_isDrained_23 : decode cX12_isDrained 23 = .ok (.iaload, 1) := by decide +kernel
theorem dX12_isDrained_24 : decode cX12_isDrained 24 = .ok (.if_icmp .ne 7, 3) := by decide +kernel
theorem dX12_isDrained_27 : decode cX12_isDrained 27 = .ok (.iconst 1, 1) := by decide +kernel
theorem dX12_isDrained_28 : decode cX12_isDrained 28 = .ok (.goto 4, 3) := by decide +kernel
theorem dX12_isDrained_31 : decode cX12_isDrained 31 = .ok (.iconst 0, 1) := by decide +kernel
theorem dX12_isDrained_32 : decode cX12_isDrained 32 = .ok (.ireturn, 1) := by decide +kernel
theorem dX12_goesDrain_0 : decode cX12_goesDrain 0 = .ok (.aload_n 0, 1) := by decide +kernel
theorem dX12_goesDrain_1 : decode cX12_goesDrain 1 = .ok (.getfield 13, 3) := by decide +kernel
theorem dX12_goesDrain_4 : decode cX12_goesDrain 4 = .ok (.bipush 6, 2) := by decide +kernel
theorem dX12_goesDrain_6 : decode cX12_goesDrain 6 = .ok (.bipush 20, 2) := by decide +kernel
theorem dX12_goesDrain_8 : decode cX12_goesDrain 8 = .ok (.iastore, 1) := by decide +kernel
theorem dX12_goesDrain_9 : decode cX12_goesDrain 9 = .ok (.iconst 0, 1) := by decide +kernel
theorem dX12_goesDrain_10 : decode cX12_goesDrain 10 = .ok (.istore_n 2, 1) := by decide +kernel
theorem dX12_goesDrain_11 : decode cX12_goesDrain 11 = .ok (.iload_n 2, 1) := by decide +kernel
theorem dX12_goesDrain_12 : decode cX12_goesDrain 12 = .ok (.bipush 30, 2) := by decide +kernel
theorem dX12_goesDrain_14 : decode cX12_goesDrain 14 = .ok (.if_icmp .gt 33, 3) := by decide +kernel
theorem dX12_goesDrain_17 : decode cX12_goesDrain 17 = .ok (.aload_n 0, 1) := by decide +kernel
theorem dX12_goesDrain_18 : decode cX12_goesDrain 18 = .ok (.invokevirtual 260, 3) := by decide +kernel
theorem dX12_goesDrain_21 : decode cX12_goesDrain 21 = .ok (.ifCond .eq 5, 3) := by decide +kernel
theorem dX12_goesDrain_24 : decode cX12_goesDrain 24 = .ok (.iload_n 2, 1) := by decide +kernel
theorem dX12_goesDrain_25 : decode cX12_goesDrain 25 = .ok (.ireturn, 1) := by decide +kernel
theorem dX12_goesDrain_26 : decode cX12_goesDrain 26 = .ok (.iload_n 2, 1) := by decide +kernel
theorem dX12_goesDrain_27 : decode cX12_goesDrain 27 = .ok (.bipush 30, 2) := by decide +kernel
theorem dX12_goesDrain_29 : decode cX12_goesDrain 29 = .ok (.if_icmp .ge 12, 3) := by decide +kernel
theorem dX12_goesDrain_32 : decode cX12_goesDrain 32 = .ok (.aload_n 0, 1) := by decide +kernel
theorem dX12_goesDrain_33 : decode cX12_goesDrain 33 = .ok (.iload_n 1, 1) := by decide +kernel
theorem dX12_goesDrain_34 : decode cX12_goesDrain 34 = .ok (.iload_n 2, 1) := by decide +kernel
theorem dX12_goesDrain_35 : decode cX12_goesDrain 35 = .ok (.ishr, 1) := by decide +kernel
theorem dX12_goesDrain_36 : decode cX12_goesDrain 36 = .ok (.iconst 1, 1) := by decide +kernel
theorem dX12_goesDrain_37 : decode cX12_goesDrain 37 = .ok (.iand, 1) := by decide +kernel
theorem dX12_goesDrain_38 : decode cX12_goesDrain 38 = .ok (.invokevirtual 264, 3) := by decide +kernel
theorem dX12_goesDrain_41 : decode cX12_goesDrain 41 = .ok (.iinc 2 1, 3) := by decide +kernel
theorem dX12_goesDrain_44 : decode cX12_goesDrain 44 = .ok (.goto (-33), 3) := by decide +kernel
theorem dX12_goesDrain_47 : decode cX12_goesDrain 47 = .ok (.iconst (-1), 1) := by decide +kernel
theorem dX12_goesDrain_48 : decode cX12_goesDrain 48 = .ok (.ireturn, 1) := by decide +kernel
theorem dX12_stores_0 : decode cX12_stores 0 = .ok (.iconst 0, 1) := by decide +kernel
theorem dX12_stores_1 : decode cX12_stores 1 = .ok (.istore_n 1, 1) := by decide +kernel
theorem dX12_stores_2 : decode cX12_stores 2 = .ok (.iload_n 1, 1) := by decide +kernel
theorem dX12_stores_3 : decode cX12_stores 3 = .ok (.sipush 1033, 3) := by decide +kernel
theorem dX12_stores_6 : decode cX12_stores 6 = .ok (.if_icmp .ge 21, 3) := by decide +kernel
theorem dX12_stores_9 : decode cX12_stores 9 = .ok (.aload_n 0, 1) := by decide +kernel
theorem dX12_stores_10 : decode cX12_stores 10 = .ok (.getfield 17, 3) := by decide +kernel
theorem dX12_stores_13 : decode cX12_stores 13 = .ok (.iload_n 1, 1) := by decide +kernel
theorem dX12_stores_14 : decode cX12_stores 14 = .ok (.aload_n 0, 1) := by decide +kernel
theorem dX12_stores_15 : decode cX12_stores 15 = .ok (.getfield 13, 3) := by decide +kernel
theorem dX12_stores_18 : decode cX12_stores 18 = .ok (.iload_n 1, 1) := by decide +kernel
theorem dX12_stores_19 : decode cX12_stores 19 = .ok (.iaload, 1) := by decide +kernel
theorem dX12_stores_20 : decode cX12_stores 20 = .ok (.iastore, 1) := by decide +kernel
theorem dX12_stores_21 : decode cX12_stores 21 = .ok (.iinc 1 1, 3) := by decide +kernel
theorem dX12_stores_24 : decode cX12_stores 24 = .ok (.goto (-22), 3) := by decide +kernel
theorem dX12_stores_27 : decode cX12_stores 27 = .ok (.return_, 1) := by decide +kernel
theorem dX12_isAgain_0 : decode cX12_isAgain 0 = .ok (.iconst 0, 1) := by decide +kernel
theorem dX12_isAgain_1 : decode cX12_isAgain 1 = .ok (.istore_n 1, 1) := by decide +kernel
theorem dX12_isAgain_2 : decode cX12_isAgain 2 = .ok (.iload_n 1, 1) := by decide +kernel
theorem dX12_isAgain_3 : decode cX12_isAgain 3 = .ok (.sipush 1033, 3) := by decide +kernel
theorem dX12_isAgain_6 : decode cX12_isAgain 6 = .ok (.if_icmp .ge 21, 3) := by decide +kernel
theorem dX12_isAgain_9 : decode cX12_isAgain 9 = .ok (.aload_n 0, 1) := by decide +kernel
theorem dX12_isAgain_10 : decode cX12_isAgain 10 = .ok (.getfield 13, 3) := by decide +kernel
theorem dX12_isAgain_13 : decode cX12_isAgain 13 = .ok (.iload_n 1, 1) := by decide +kernel
theorem dX12_isAgain_14 : decode cX12_isAgain 14 = .ok (.aload_n 0, 1) := by decide +kernel
theorem dX12_isAgain_15 : decode cX12_isAgain 15 = .ok (.getfield 17, 3) := by decide +kernel
theorem dX12_isAgain_18 : decode cX12_isAgain 18 = .ok (.iload_n 1, 1) := by decide +kernel
theorem dX12_isAgain_19 : decode cX12_isAgain 19 = .ok (.iaload, 1) := by decide +kernel
theorem dX12_isAgain_20 : decode cX12_isAgain 20 = .ok (.iastore, 1) := by decide +kernel
theorem dX12_isAgain_21 : decode cX12_isAgain 21 = .ok (.iinc 1 1, 3) := by decide +kernel
theorem dX12_isAgain_24 : decode cX12_isAgain 24 = .ok (.goto (-22), 3) := by decide +kernel
theorem dX12_isAgain_27 : decode cX12_isAgain 27 = .ok (.return_, 1) := by decide +kernel
theorem dX12_drain_0 : decode cX12_drain 0 = .ok (.aload_n 0, 1) := by decide +kernel
theorem dX12_drain_1 : decode cX12_drain 1 = .ok (.iconst 0, 1) := by decide +kernel
theorem dX12_drain_2 : decode cX12_drain 2 = .ok (.putfield 1, 3) := by decide +kernel
theorem dX12_drain_5 : decode cX12_drain 5 = .ok (.aload_n 0, 1) := by decide +kernel
theorem dX12_drain_6 : decode cX12_drain 6 = .ok (.invokevirtual 267, 3) := by decide +kernel
theorem dX12_drain_9 : decode cX12_drain 9 = .ok (.aload_n 0, 1) := by decide +kernel
theorem dX12_drain_10 : decode cX12_drain 10 = .ok (.iconst 0, 1) := by decide +kernel
theorem dX12_drain_11 : decode cX12_drain 11 = .ok (.invokevirtual 270, 3) := by decide +kernel
theorem dX12_drain_14 : decode cX12_drain 14 = .ok (.istore_n 1, 1) := by decide +kernel
theorem dX12_drain_15 : decode cX12_drain 15 = .ok (.aload_n 0, 1) := by decide +kernel
theorem dX12_drain_16 : decode cX12_drain 16 = .ok (.invokevirtual 273, 3) := by decide +kernel
theorem dX12_drain_19 : decode cX12_drain 19 = .ok (.iload_n 1, 1) := by decide +kernel
theorem dX12_drain_20 : decode cX12_drain 20 = .ok (.ireturn, 1) := by decide +kernel
theorem dX12_drained_0 : decode cX12_drained 0 = .ok (.aload_n 0, 1) := by decide +kernel
theorem dX12_drained_1 : decode cX12_drained 1 = .ok (.iconst 0, 1) := by decide +kernel
theorem dX12_drained_2 : decode cX12_drained 2 = .ok (.putfield 1, 3) := by decide +kernel
theorem dX12_drained_5 : decode cX12_drained 5 = .ok (.iload_n 1, 1) := by decide +kernel
theorem dX12_drained_6 : decode cX12_drained 6 = .ok (.ifCond .ge 6, 3) := by decide +kernel
theorem dX12_drained_9 : decode cX12_drained 9 = .ok (.bipush (-3), 2) := by decide +kernel
theorem dX12_drained_11 : decode cX12_drained 11 = .ok (.ireturn, 1) := by decide +kernel
theorem dX12_drained_12 : decode cX12_drained 12 = .ok (.aload_n 0, 1) := by decide +kernel
theorem dX12_drained_13 : decode cX12_drained 13 = .ok (.invokevirtual 267, 3) := by decide +kernel
theorem dX12_drained_16 : decode cX12_drained 16 = .ok (.aload_n 0, 1) := by decide +kernel
theorem dX12_drained_17 : decode cX12_drained 17 = .ok (.getfield 13, 3) := by decide +kernel
theorem dX12_drained_20 : decode cX12_drained 20 = .ok (.bipush 66, 2) := by decide +kernel
theorem dX12_drained_22 : decode cX12_drained 22 = .ok (.iaload, 1) := by decide +kernel
theorem dX12_drained_23 : decode cX12_drained 23 = .ok (.istore_n 2, 1) := by decide +kernel
theorem dX12_drained_24 : decode cX12_drained 24 = .ok (.aload_n 0, 1) := by decide +kernel
theorem dX12_drained_25 : decode cX12_drained 25 = .ok (.iconst 0, 1) := by decide +kernel
theorem dX12_drained_26 : decode cX12_drained 26 = .ok (.invokevirtual 270, 3) := by decide +kernel
theorem dX12_drained_29 : decode cX12_drained 29 = .ok (.pop, 1) := by decide +kernel
theorem dX12_drained_30 : decode cX12_drained 30 = .ok (.iload_n 1, 1) := by decide +kernel
theorem dX12_drained_31 : decode cX12_drained 31 = .ok (.aload_n 0, 1) := by decide +kernel
theorem dX12_drained_32 : decode cX12_drained 32 = .ok (.getfield 13, 3) := by decide +kernel
theorem dX12_drained_35 : decode cX12_drained 35 = .ok (.bipush 66, 2) := by decide +kernel
theorem dX12_drained_37 : decode cX12_drained 37 = .ok (.iaload, 1) := by decide +kernel
theorem dX12_drained_38 : decode cX12_drained 38 = .ok (.iload_n 2, 1) := by decide +kernel
theorem dX12_drained_39 : decode cX12_drained 39 = .ok (.isub, 1) := by decide +kernel
theorem dX12_drained_40 : decode cX12_drained 40 = .ok (.if_icmp .ge 21, 3) := by decide +kernel
theorem dX12_drained_43 : decode cX12_drained 43 = .ok (.aload_n 0, 1) := by decide +kernel
theorem dX12_drained_44 : decode cX12_drained 44 = .ok (.getfield 13, 3) := by decide +kernel
theorem dX12_drained_47 : decode cX12_drained 47 = .ok (.bipush 73, 2) := by decide +kernel
theorem dX12_drained_49 : decode cX12_drained 49 = .ok (.iload_n 2, 1) := by decide +kernel
theorem dX12_drained_50 : decode cX12_drained 50 = .ok (.iload_n 1, 1) := by decide +kernel
theorem dX12_drained_51 : decode cX12_drained 51 = .ok (.iadd, 1) := by decide +kernel
theorem dX12_drained_52 : decode cX12_drained 52 = .ok (.sipush 256, 3) := by decide +kernel
theorem dX12_drained_55 : decode cX12_drained 55 = .ok (.irem, 1) := by decide +kernel
theorem dX12_drained_56 : decode cX12_drained 56 = .ok (.iadd, 1) := by decide +kernel
theorem dX12_drained_57 : decode cX12_drained 57 = .ok (.iaload, 1) := by decide +kernel
theorem dX12_drained_58 : decode cX12_drained 58 = .ok (.goto 4, 3) := by decide +kernel
theorem dX12_drained_61 : decode cX12_drained 61 = .ok (.iconst (-1), 1) := by decide +kernel
theorem dX12_drained_62 : decode cX12_drained 62 = .ok (.istore_n 3, 1) := by decide +kernel
theorem dX12_drained_63 : decode cX12_drained 63 = .ok (.aload_n 0, 1) := by decide +kernel
theorem dX12_drained_64 : decode cX12_drained 64 = .ok (.invokevirtual 273, 3) := by decide +kernel
theorem dX12_drained_67 : decode cX12_drained 67 = .ok (.iload_n 3, 1) := by decide +kernel
theorem dX12_drained_68 : decode cX12_drained 68 = .ok (.ireturn, 1) := by decide +kernel
theorem dX12_worst_0 : decode cX12_worst 0 = .ok (.aload_n 0, 1) := by decide +kernel
theorem dX12_worst_1 : decode cX12_worst 1 = .ok (.iconst 0, 1) := by decide +kernel
theorem dX12_worst_2 : decode cX12_worst 2 = .ok (.putfield 1, 3) := by decide +kernel
theorem dX12_worst_5 : decode cX12_worst 5 = .ok (.iload_n 2, 1) := by decide +kernel
theorem dX12_worst_6 : decode cX12_worst 6 = .ok (.i2l, 1) := by decide +kernel
theorem dX12_worst_7 : decode cX12_worst 7 = .ok (.lconst 0, 1) := by decide +kernel
theorem dX12_worst_8 : decode cX12_worst 8 = .ok (.lconst 1, 1) := by decide +kernel
theorem dX12_worst_9 : decode cX12_worst 9 = .ok (.invokestatic 94, 3) := by decide +kernel
theorem dX12_worst_12 : decode cX12_worst 12 = .ok (.ifCond .ne 6, 3) := by decide +kernel
theorem dX12_worst_15 : decode cX12_worst 15 = .ok (.bipush (-2), 2) := by decide +kernel
theorem dX12_worst_17 : decode cX12_worst 17 = .ok (.ireturn, 1) := by decide +kernel
theorem dX12_worst_18 : decode cX12_worst 18 = .ok (.iload_n 1, 1) := by decide +kernel
theorem dX12_worst_19 : decode cX12_worst 19 = .ok (.i2l, 1) := by decide +kernel
theorem dX12_worst_20 : decode cX12_worst 20 = .ok (.lconst 0, 1) := by decide +kernel
theorem dX12_worst_21 : decode cX12_worst 21 = .ok (.ldc2_w 132, 3) := by decide +kernel
theorem dX12_worst_24 : decode cX12_worst 24 = .ok (.invokestatic 94, 3) := by decide +kernel
theorem dX12_worst_27 : decode cX12_worst 27 = .ok (.ifCond .ne 6, 3) := by decide +kernel
theorem dX12_worst_30 : decode cX12_worst 30 = .ok (.bipush (-3), 2) := by decide +kernel
theorem dX12_worst_32 : decode cX12_worst 32 = .ok (.ireturn, 1) := by decide +kernel
theorem dX12_worst_33 : decode cX12_worst 33 = .ok (.aload_n 0, 1) := by decide +kernel
theorem dX12_worst_34 : decode cX12_worst 34 = .ok (.invokevirtual 267, 3) := by decide +kernel
theorem dX12_worst_37 : decode cX12_worst 37 = .ok (.iconst (-1), 1) := by decide +kernel
theorem dX12_worst_38 : decode cX12_worst 38 = .ok (.istore_n 3, 1) := by decide +kernel
theorem dX12_worst_39 : decode cX12_worst 39 = .ok (.iconst 0, 1) := by decide +kernel
theorem dX12_worst_40 : decode cX12_worst 40 = .ok (.istore 4, 2) := by decide +kernel
theorem dX12_worst_42 : decode cX12_worst 42 = .ok (.iconst 0, 1) := by decide +kernel
theorem dX12_worst_43 : decode cX12_worst 43 = .ok (.istore 5, 2) := by decide +kernel
theorem dX12_worst_45 : decode cX12_worst 45 = .ok (.iload 5, 2) := by decide +kernel
theorem dX12_worst_47 : decode cX12_worst 47 = .ok (.iconst 1, 1) := by decide +kernel
theorem dX12_worst_48 : decode cX12_worst 48 = .ok (.iload_n 1, 1) := by decide +kernel
theorem dX12_worst_49 : decode cX12_worst 49 = .ok (.ishl, 1) := by decide +kernel
theorem dX12_worst_50 : decode cX12_worst 50 = .ok (.if_icmp .ge 47, 3) := by decide +kernel
theorem dX12_worst_53 : decode cX12_worst 53 = .ok (.aload_n 0, 1) := by decide +kernel
theorem dX12_worst_54 : decode cX12_worst 54 = .ok (.iload 5, 2) := by decide +kernel
theorem dX12_worst_56 : decode cX12_worst 56 = .ok (.invokevirtual 270, 3) := by decide +kernel
theorem dX12_worst_59 : decode cX12_worst 59 = .ok (.istore 6, 2) := by decide +kernel
theorem dX12_worst_61 : decode cX12_worst 61 = .ok (.aload_n 0, 1) := by decide +kernel
theorem dX12_worst_62 : decode cX12_worst 62 = .ok (.invokevirtual 273, 3) := by decide +kernel
theorem dX12_worst_65 : decode cX12_worst 65 = .ok (.iload 6, 2) := by decide +kernel
theorem dX12_worst_67 : decode cX12_worst 67 = .ok (.iconst (-1), 1) := by decide +kernel
theorem dX12_worst_68 : decode cX12_worst 68 = .ok (.if_icmp .ne 7, 3) := by decide +kernel
theorem dX12_worst_71 : decode cX12_worst 71 = .ok (.bipush 31, 2) := by decide +kernel
theorem dX12_worst_73 : decode cX12_worst 73 = .ok (.istore 6, 2) := by decide +kernel
theorem dX12_worst_75 : decode cX12_worst 75 = .ok (.iload 6, 2) := by decide +kernel
theorem dX12_worst_77 : decode cX12_worst 77 = .ok (.iload_n 3, 1) := by decide +kernel
theorem dX12_worst_78 : decode cX12_worst 78 = .ok (.if_icmp .gt 6, 3) := by decide +kernel
theorem dX12_worst_81 : decode cX12_worst 81 = .ok (.goto 10, 3) := by decide +kernel
theorem dX12_worst_84 : decode cX12_worst 84 = .ok (.iload 6, 2) := by decide +kernel
theorem dX12_worst_86 : decode cX12_worst 86 = .ok (.istore_n 3, 1) := by decide +kernel
theorem dX12_worst_87 : decode cX12_worst 87 = .ok (.iload 5, 2) := by decide +kernel
theorem dX12_worst_89 : decode cX12_worst 89 = .ok (.istore 4, 2) := by decide +kernel
theorem dX12_worst_91 : decode cX12_worst 91 = .ok (.iinc 5 1, 3) := by decide +kernel
theorem dX12_worst_94 : decode cX12_worst 94 = .ok (.goto (-49), 3) := by decide +kernel
theorem dX12_worst_97 : decode cX12_worst 97 = .ok (.iload_n 2, 1) := by decide +kernel
theorem dX12_worst_98 : decode cX12_worst 98 = .ok (.iconst 1, 1) := by decide +kernel
theorem dX12_worst_99 : decode cX12_worst 99 = .ok (.if_icmp .ne 8, 3) := by decide +kernel
theorem dX12_worst_102 : decode cX12_worst 102 = .ok (.iload 4, 2) := by decide +kernel
theorem dX12_worst_104 : decode cX12_worst 104 = .ok (.goto 14, 3) := by decide +kernel
theorem dX12_worst_107 : decode cX12_worst 107 = .ok (.iload_n 3, 1) := by decide +kernel
theorem dX12_worst_108 : decode cX12_worst 108 = .ok (.bipush 30, 2) := by decide +kernel
theorem dX12_worst_110 : decode cX12_worst 110 = .ok (.if_icmp .le 7, 3) := by decide +kernel
theorem dX12_worst_113 : decode cX12_worst 113 = .ok (.iconst (-1), 1) := by decide +kernel
theorem dX12_worst_114 : decode cX12_worst 114 = .ok (.goto 4, 3) := by decide +kernel
theorem dX12_worst_117 : decode cX12_worst 117 = .ok (.iload_n 3, 1) := by decide +kernel
theorem dX12_worst_118 : decode cX12_worst 118 = .ok (.ireturn, 1) := by decide +kernel
theorem dX12_process_0 : decode cX12_process 0 = .ok (.aload_n 0, 1) := by decide +kernel
theorem dX12_process_1 : decode cX12_process 1 = .ok (.iconst 0, 1) := by decide +kernel
theorem dX12_process_2 : decode cX12_process 2 = .ok (.putfield 1, 3) := by decide +kernel
theorem dX12_process_5 : decode cX12_process 5 = .ok (.aload_n 0, 1) := by decide +kernel
theorem dX12_process_6 : decode cX12_process 6 = .ok (.iload_n 1, 1) := by decide +kernel
theorem dX12_process_7 : decode cX12_process 7 = .ok (.invokevirtual 222, 3) := by decide +kernel
theorem dX12_process_10 : decode cX12_process 10 = .ok (.ifCond .eq 15, 3) := by decide +kernel
theorem dX12_process_13 : decode cX12_process 13 = .ok (.iload_n 2, 1) := by decide +kernel
theorem dX12_process_14 : decode cX12_process 14 = .ok (.i2l, 1) := by decide +kernel
theorem dX12_process_15 : decode cX12_process 15 = .ok (.lconst 0, 1) := by decide +kernel
theorem dX12_process_16 : decode cX12_process 16 = .ok (.ldc2_w 276, 3) := by decide +kernel
theorem dX12_process_19 : decode cX12_process 19 = .ok (.invokestatic 94, 3) := by decide +kernel
theorem dX12_process_22 : decode cX12_process 22 = .ok (.ifCond .ne 6, 3) := by decide +kernel
theorem dX12_process_25 : decode cX12_process 25 = .ok (.bipush (-2), 2) := by decide +kernel
theorem dX12_process_27 : decode cX12_process 27 = .ok (.ireturn, 1) := by decide +kernel
theorem dX12_process_28 : decode cX12_process 28 = .ok (.aload_n 0, 1) := by decide +kernel
theorem dX12_process_29 : decode cX12_process 29 = .ok (.iload_n 1, 1) := by decide +kernel
theorem dX12_process_30 : decode cX12_process 30 = .ok (.invokevirtual 188, 3) := by decide +kernel
theorem dX12_process_33 : decode cX12_process 33 = .ok (.istore_n 3, 1) := by decide +kernel
theorem dX12_process_34 : decode cX12_process 34 = .ok (.iload_n 2, 1) := by decide +kernel
theorem dX12_process_35 : decode cX12_process 35 = .ok (.tableswitch 94 0 4 #[33, 42, 67, 76, 85], 33) := by decide +kernel
theorem dX12_process_68 : decode cX12_process 68 = .ok (.aload_n 0, 1) := by decide +kernel
theorem dX12_process_69 : decode cX12_process 69 = .ok (.getfield 13, 3) := by decide +kernel
theorem dX12_process_72 : decode cX12_process 72 = .ok (.iload_n 3, 1) := by decide +kernel
theorem dX12_process_73 : decode cX12_process 73 = .ok (.iconst 0, 1) := by decide +kernel
theorem dX12_process_74 : decode cX12_process 74 = .ok (.iadd, 1) := by decide +kernel
theorem dX12_process_75 : decode cX12_process 75 = .ok (.iaload, 1) := by decide +kernel
theorem dX12_process_76 : decode cX12_process 76 = .ok (.ireturn, 1) := by decide +kernel
theorem dX12_process_77 : decode cX12_process 77 = .ok (.aload_n 0, 1) := by decide +kernel
theorem dX12_process_78 : decode cX12_process 78 = .ok (.getfield 13, 3) := by decide +kernel
theorem dX12_process_81 : decode cX12_process 81 = .ok (.iload_n 3, 1) := by decide +kernel
theorem dX12_process_82 : decode cX12_process 82 = .ok (.iconst 0, 1) := by decide +kernel
theorem dX12_process_83 : decode cX12_process 83 = .ok (.iadd, 1) := by decide +kernel
theorem dX12_process_84 : decode cX12_process 84 = .ok (.iaload, 1) := by decide +kernel
theorem dX12_process_85 : decode cX12_process 85 = .ok (.iconst (-1), 1) := by decide +kernel
theorem dX12_process_86 : decode cX12_process 86 = .ok (.if_icmp .ne 7, 3) := by decide +kernel
theorem dX12_process_89 : decode cX12_process 89 = .ok (.iconst (-1), 1) := by decide +kernel
theorem dX12_process_90 : decode cX12_process 90 = .ok (.goto 11, 3) := by decide +kernel
theorem dX12_process_93 : decode cX12_process 93 = .ok (.aload_n 0, 1) := by decide +kernel
theorem dX12_process_94 : decode cX12_process 94 = .ok (.getfield 13, 3) := by decide +kernel
theorem dX12_process_97 : decode cX12_process 97 = .ok (.iload_n 3, 1) := by decide +kernel
theorem dX12_process_98 : decode cX12_process 98 = .ok (.iconst 1, 1) := by decide +kernel
theorem dX12_process_99 : decode cX12_process 99 = .ok (.iadd, 1) := by decide +kernel
theorem dX12_process_100 : decode cX12_process 100 = .ok (.iaload, 1) := by decide +kernel
theorem dX12_process_101 : decode cX12_process 101 = .ok (.ireturn, 1) := by decide +kernel
theorem dX12_process_102 : decode cX12_process 102 = .ok (.aload_n 0, 1) := by decide +kernel
theorem dX12_process_103 : decode cX12_process 103 = .ok (.getfield 13, 3) := by decide +kernel
theorem dX12_process_106 : decode cX12_process 106 = .ok (.iload_n 3, 1) := by decide +kernel
theorem dX12_process_107 : decode cX12_process 107 = .ok (.iconst 2, 1) := by decide +kernel
theorem dX12_process_108 : decode cX12_process 108 = .ok (.iadd, 1) := by decide +kernel
theorem dX12_process_109 : decode cX12_process 109 = .ok (.iaload, 1) := by decide +kernel
theorem dX12_process_110 : decode cX12_process 110 = .ok (.ireturn, 1) := by decide +kernel
theorem dX12_process_111 : decode cX12_process 111 = .ok (.aload_n 0, 1) := by decide +kernel
theorem dX12_process_112 : decode cX12_process 112 = .ok (.getfield 13, 3) := by decide +kernel
theorem dX12_process_115 : decode cX12_process 115 = .ok (.iload_n 3, 1) := by decide +kernel
theorem dX12_process_116 : decode cX12_process 116 = .ok (.iconst 3, 1) := by decide +kernel
theorem dX12_process_117 : decode cX12_process 117 = .ok (.iadd, 1) := by decide +kernel
theorem dX12_process_118 : decode cX12_process 118 = .ok (.iaload, 1) := by decide +kernel
theorem dX12_process_119 : decode cX12_process 119 = .ok (.ireturn, 1) := by decide +kernel
theorem dX12_process_120 : decode cX12_process 120 = .ok (.aload_n 0, 1) := by decide +kernel
theorem dX12_process_121 : decode cX12_process 121 = .ok (.getfield 13, 3) := by decide +kernel
theorem dX12_process_124 : decode cX12_process 124 = .ok (.iload_n 3, 1) := by decide +kernel
theorem dX12_process_125 : decode cX12_process 125 = .ok (.iconst 4, 1) := by decide +kernel
theorem dX12_process_126 : decode cX12_process 126 = .ok (.iadd, 1) := by decide +kernel
theorem dX12_process_127 : decode cX12_process 127 = .ok (.iaload, 1) := by decide +kernel
theorem dX12_process_128 : decode cX12_process 128 = .ok (.ireturn, 1) := by decide +kernel
theorem dX12_process_129 : decode cX12_process 129 = .ok (.aload_n 0, 1) := by decide +kernel
theorem dX12_process_130 : decode cX12_process 130 = .ok (.getfield 13, 3) := by decide +kernel
theorem dX12_process_133 : decode cX12_process 133 = .ok (.iload_n 3, 1) := by decide +kernel
theorem dX12_process_134 : decode cX12_process 134 = .ok (.iconst 0, 1) := by decide +kernel
theorem dX12_process_135 : decode cX12_process 135 = .ok (.iadd, 1) := by decide +kernel
theorem dX12_process_136 : decode cX12_process 136 = .ok (.iaload, 1) := by decide +kernel
theorem dX12_process_137 : decode cX12_process 137 = .ok (.iconst (-1), 1) := by decide +kernel
theorem dX12_process_138 : decode cX12_process 138 = .ok (.if_icmp .ne 7, 3) := by decide +kernel
theorem dX12_process_141 : decode cX12_process 141 = .ok (.iconst (-1), 1) := by decide +kernel
theorem dX12_process_142 : decode cX12_process 142 = .ok (.goto 14, 3) := by decide +kernel
theorem dX12_process_145 : decode cX12_process 145 = .ok (.aload_n 0, 1) := by decide +kernel
theorem dX12_process_146 : decode cX12_process 146 = .ok (.getfield 13, 3) := by decide +kernel
theorem dX12_process_149 : decode cX12_process 149 = .ok (.iload_n 3, 1) := by decide +kernel
theorem dX12_process_150 : decode cX12_process 150 = .ok (.iconst 3, 1) := by decide +kernel
theorem dX12_process_151 : decode cX12_process 151 = .ok (.iadd, 1) := by decide +kernel
theorem dX12_process_152 : decode cX12_process 152 = .ok (.iaload, 1) := by decide +kernel
theorem dX12_process_153 : decode cX12_process 153 = .ok (.invokestatic 207, 3) := by decide +kernel
theorem dX12_process_156 : decode cX12_process 156 = .ok (.ireturn, 1) := by decide +kernel
theorem dX12_kept_0 : decode cX12_kept 0 = .ok (.aload_n 0, 1) := by decide +kernel
theorem dX12_kept_1 : decode cX12_kept 1 = .ok (.iconst 0, 1) := by decide +kernel
theorem dX12_kept_2 : decode cX12_kept 2 = .ok (.putfield 1, 3) := by decide +kernel
theorem dX12_kept_5 : decode cX12_kept 5 = .ok (.iload_n 1, 1) := by decide +kernel
theorem dX12_kept_6 : decode cX12_kept 6 = .ok (.i2l, 1) := by decide +kernel
theorem dX12_kept_7 : decode cX12_kept 7 = .ok (.lconst 0, 1) := by decide +kernel
theorem dX12_kept_8 : decode cX12_kept 8 = .ok (.ldc2_w 123, 3) := by decide +kernel
theorem dX12_kept_11 : decode cX12_kept 11 = .ok (.invokestatic 94, 3) := by decide +kernel
theorem dX12_kept_14 : decode cX12_kept 14 = .ok (.ifCond .eq 13, 3) := by decide +kernel
theorem dX12_kept_17 : decode cX12_kept 17 = .ok (.iload_n 2, 1) := by decide +kernel
theorem dX12_kept_18 : decode cX12_kept 18 = .ok (.i2l, 1) := by decide +kernel
theorem dX12_kept_19 : decode cX12_kept 19 = .ok (.lconst 0, 1) := by decide +kernel
theorem dX12_kept_20 : decode cX12_kept 20 = .ok (.lconst 1, 1) := by decide +kernel
theorem dX12_kept_21 : decode cX12_kept 21 = .ok (.invokestatic 94, 3) := by decide +kernel
theorem dX12_kept_24 : decode cX12_kept 24 = .ok (.ifCond .ne 6, 3) := by decide +kernel
theorem dX12_kept_27 : decode cX12_kept 27 = .ok (.bipush (-2), 2) := by decide +kernel
theorem dX12_kept_29 : decode cX12_kept 29 = .ok (.ireturn, 1) := by decide +kernel
theorem dX12_kept_30 : decode cX12_kept 30 = .ok (.aload_n 0, 1) := by decide +kernel
theorem dX12_kept_31 : decode cX12_kept 31 = .ok (.getfield 13, 3) := by decide +kernel
theorem dX12_kept_34 : decode cX12_kept 34 = .ok (.bipush 39, 2) := by decide +kernel
theorem dX12_kept_36 : decode cX12_kept 36 = .ok (.iload_n 1, 1) := by decide +kernel
theorem dX12_kept_37 : decode cX12_kept 37 = .ok (.iadd, 1) := by decide +kernel
theorem dX12_kept_38 : decode cX12_kept 38 = .ok (.iaload, 1) := by decide +kernel
theorem dX12_kept_39 : decode cX12_kept 39 = .ok (.iconst (-1), 1) := by decide +kernel
theorem dX12_kept_40 : decode cX12_kept 40 = .ok (.if_icmp .ne 5, 3) := by decide +kernel
theorem dX12_kept_43 : decode cX12_kept 43 = .ok (.iconst (-1), 1) := by decide +kernel
theorem dX12_kept_44 : decode cX12_kept 44 = .ok (.ireturn, 1) := by decide +kernel
theorem dX12_kept_45 : decode cX12_kept 45 = .ok (.iload_n 2, 1) := by decide +kernel
theorem dX12_kept_46 : decode cX12_kept 46 = .ok (.ifCond .ne 15, 3) := by decide +kernel
theorem dX12_kept_49 : decode cX12_kept 49 = .ok (.aload_n 0, 1) := by decide +kernel
theorem dX12_kept_50 : decode cX12_kept 50 = .ok (.getfield 13, 3) := by decide +kernel
theorem dX12_kept_53 : decode cX12_kept 53 = .ok (.bipush 39, 2) := by decide +kernel
theorem dX12_kept_55 : decode cX12_kept 55 = .ok (.iload_n 1, 1) := by decide +kernel
theorem dX12_kept_56 : decode cX12_kept 56 = .ok (.iadd, 1) := by decide +kernel
theorem dX12_kept_57 : decode cX12_kept 57 = .ok (.iaload, 1) := by decide +kernel
theorem dX12_kept_58 : decode cX12_kept 58 = .ok (.goto 12, 3) := by decide +kernel
theorem dX12_kept_61 : decode cX12_kept 61 = .ok (.aload_n 0, 1) := by decide +kernel
theorem dX12_kept_62 : decode cX12_kept 62 = .ok (.getfield 13, 3) := by decide +kernel
theorem dX12_kept_65 : decode cX12_kept 65 = .ok (.bipush 47, 2) := by decide +kernel
theorem dX12_kept_67 : decode cX12_kept 67 = .ok (.iload_n 1, 1) := by decide +kernel
theorem dX12_kept_68 : decode cX12_kept 68 = .ok (.iadd, 1) := by decide +kernel
theorem dX12_kept_69 : decode cX12_kept 69 = .ok (.iaload, 1) := by decide +kernel
theorem dX12_kept_70 : decode cX12_kept 70 = .ok (.ireturn, 1) := by decide +kernel
theorem dX12_again_0 : decode cX12_again 0 = .ok (.aload_n 0, 1) := by decide +kernel
theorem dX12_again_1 : decode cX12_again 1 = .ok (.iconst 0, 1) := by decide +kernel
theorem dX12_again_2 : decode cX12_again 2 = .ok (.putfield 1, 3) := by decide +kernel
theorem dX12_again_5 : decode cX12_again 5 = .ok (.iload_n 1, 1) := by decide +kernel
theorem dX12_again_6 : decode cX12_again 6 = .ok (.ifCond .ge 6, 3) := by decide +kernel
theorem dX12_again_9 : decode cX12_again 9 = .ok (.bipush (-3), 2) := by decide +kernel
theorem dX12_again_11 : decode cX12_again 11 = .ok (.ireturn, 1) := by decide +kernel
theorem dX12_again_12 : decode cX12_again 12 = .ok (.iload_n 1, 1) := by decide +kernel
theorem dX12_again_13 : decode cX12_again 13 = .ok (.aload_n 0, 1) := by decide +kernel
theorem dX12_again_14 : decode cX12_again 14 = .ok (.getfield 13, 3) := by decide +kernel
theorem dX12_again_17 : decode cX12_again 17 = .ok (.bipush 30, 2) := by decide +kernel
theorem dX12_again_19 : decode cX12_again 19 = .ok (.iaload, 1) := by decide +kernel
theorem dX12_again_20 : decode cX12_again 20 = .ok (.if_icmp .ge 15, 3) := by decide +kernel
theorem dX12_again_23 : decode cX12_again 23 = .ok (.aload_n 0, 1) := by decide +kernel
theorem dX12_again_24 : decode cX12_again 24 = .ok (.getfield 13, 3) := by decide +kernel
theorem dX12_again_27 : decode cX12_again 27 = .ok (.bipush 31, 2) := by decide +kernel
theorem dX12_again_29 : decode cX12_again 29 = .ok (.iload_n 1, 1) := by decide +kernel
theorem dX12_again_30 : decode cX12_again 30 = .ok (.iadd, 1) := by decide +kernel
theorem dX12_again_31 : decode cX12_again 31 = .ok (.iaload, 1) := by decide +kernel
theorem dX12_again_32 : decode cX12_again 32 = .ok (.goto 4, 3) := by decide +kernel
theorem dX12_again_35 : decode cX12_again 35 = .ok (.iconst (-1), 1) := by decide +kernel
theorem dX12_again_36 : decode cX12_again 36 = .ok (.ireturn, 1) := by decide +kernel
theorem dX12_waiting_0 : decode cX12_waiting 0 = .ok (.aload_n 0, 1) := by decide +kernel
theorem dX12_waiting_1 : decode cX12_waiting 1 = .ok (.iconst 0, 1) := by decide +kernel
theorem dX12_waiting_2 : decode cX12_waiting 2 = .ok (.putfield 1, 3) := by decide +kernel
theorem dX12_waiting_5 : decode cX12_waiting 5 = .ok (.iload_n 1, 1) := by decide +kernel
theorem dX12_waiting_6 : decode cX12_waiting 6 = .ok (.ifCond .ge 6, 3) := by decide +kernel
theorem dX12_waiting_9 : decode cX12_waiting 9 = .ok (.bipush (-3), 2) := by decide +kernel
theorem dX12_waiting_11 : decode cX12_waiting 11 = .ok (.ireturn, 1) := by decide +kernel
theorem dX12_waiting_12 : decode cX12_waiting 12 = .ok (.iload_n 1, 1) := by decide +kernel
theorem dX12_waiting_13 : decode cX12_waiting 13 = .ok (.aload_n 0, 1) := by decide +kernel
theorem dX12_waiting_14 : decode cX12_waiting 14 = .ok (.getfield 13, 3) := by decide +kernel
theorem dX12_waiting_17 : decode cX12_waiting 17 = .ok (.bipush 7, 2) := by decide +kernel
theorem dX12_waiting_19 : decode cX12_waiting 19 = .ok (.iaload, 1) := by decide +kernel
theorem dX12_waiting_20 : decode cX12_waiting 20 = .ok (.if_icmp .ge 15, 3) := by decide +kernel
theorem dX12_waiting_23 : decode cX12_waiting 23 = .ok (.aload_n 0, 1) := by decide +kernel
theorem dX12_waiting_24 : decode cX12_waiting 24 = .ok (.getfield 13, 3) := by decide +kernel
theorem dX12_waiting_27 : decode cX12_waiting 27 = .ok (.bipush 8, 2) := by decide +kernel
theorem dX12_waiting_29 : decode cX12_waiting 29 = .ok (.iload_n 1, 1) := by decide +kernel
theorem dX12_waiting_30 : decode cX12_waiting 30 = .ok (.iadd, 1) := by decide +kernel
theorem dX12_waiting_31 : decode cX12_waiting 31 = .ok (.iaload, 1) := by decide +kernel
theorem dX12_waiting_32 : decode cX12_waiting 32 = .ok (.goto 4, 3) := by decide +kernel
theorem dX12_waiting_35 : decode cX12_waiting 35 = .ok (.iconst (-1), 1) := by decide +kernel
theorem dX12_waiting_36 : decode cX12_waiting 36 = .ok (.ireturn, 1) := by decide +kernel
theorem dX12_next_0 : decode cX12_next 0 = .ok (.aload_n 0, 1) := by decide +kernel
theorem dX12_next_1 : decode cX12_next 1 = .ok (.iconst 0, 1) := by decide +kernel
theorem dX12_next_2 : decode cX12_next 2 = .ok (.putfield 1, 3) := by decide +kernel
theorem dX12_next_5 : decode cX12_next 5 = .ok (.aload_n 0, 1) := by decide +kernel
theorem dX12_next_6 : decode cX12_next 6 = .ok (.iload_n 1, 1) := by decide +kernel
theorem dX12_next_7 : decode cX12_next 7 = .ok (.invokevirtual 222, 3) := by decide +kernel
theorem dX12_next_10 : decode cX12_next 10 = .ok (.ifCond .ne 6, 3) := by decide +kernel
theorem dX12_next_13 : decode cX12_next 13 = .ok (.bipush (-2), 2) := by decide +kernel
theorem dX12_next_15 : decode cX12_next 15 = .ok (.ireturn, 1) := by decide +kernel
theorem dX12_next_16 : decode cX12_next 16 = .ok (.iload_n 2, 1) := by decide +kernel
theorem dX12_next_17 : decode cX12_next 17 = .ok (.invokestatic 134, 3) := by decide +kernel
theorem dX12_next_20 : decode cX12_next 20 = .ok (.ifCond .ne 6, 3) := by decide +kernel
theorem dX12_next_23 : decode cX12_next 23 = .ok (.bipush (-3), 2) := by decide +kernel
theorem dX12_next_25 : decode cX12_next 25 = .ok (.ireturn, 1) := by decide +kernel
theorem dX12_next_26 : decode cX12_next 26 = .ok (.aload_n 0, 1) := by decide +kernel
theorem dX12_next_27 : decode cX12_next 27 = .ok (.getfield 13, 3) := by decide +kernel
theorem dX12_next_30 : decode cX12_next 30 = .ok (.aload_n 0, 1) := by decide +kernel
theorem dX12_next_31 : decode cX12_next 31 = .ok (.iload_n 1, 1) := by decide +kernel
theorem dX12_next_32 : decode cX12_next 32 = .ok (.invokevirtual 188, 3) := by decide +kernel
theorem dX12_next_35 : decode cX12_next 35 = .ok (.iconst 0, 1) := by decide +kernel
theorem dX12_next_36 : decode cX12_next 36 = .ok (.iadd, 1) := by decide +kernel
theorem dX12_next_37 : decode cX12_next 37 = .ok (.iaload, 1) := by decide +kernel
theorem dX12_next_38 : decode cX12_next 38 = .ok (.iconst (-1), 1) := by decide +kernel
theorem dX12_next_39 : decode cX12_next 39 = .ok (.if_icmp .ne 6, 3) := by decide +kernel
theorem dX12_next_42 : decode cX12_next 42 = .ok (.bipush (-5), 2) := by decide +kernel
theorem dX12_next_44 : decode cX12_next 44 = .ok (.ireturn, 1) := by decide +kernel
theorem dX12_next_45 : decode cX12_next 45 = .ok (.iconst (-1), 1) := by decide +kernel
theorem dX12_next_46 : decode cX12_next 46 = .ok (.istore_n 3, 1) := by decide +kernel
theorem dX12_next_47 : decode cX12_next 47 = .ok (.iconst (-1), 1) := by decide +kernel
theorem dX12_next_48 : decode cX12_next 48 = .ok (.istore 4, 2) := by decide +kernel
theorem dX12_next_50 : decode cX12_next 50 = .ok (.iconst 0, 1) := by decide +kernel
theorem dX12_next_51 : decode cX12_next 51 = .ok (.istore 5, 2) := by decide +kernel
theorem dX12_next_53 : decode cX12_next 53 = .ok (.iload 5, 2) := by decide +kernel
theorem dX12_next_55 : decode cX12_next 55 = .ok (.iconst 4, 1) := by decide +kernel
theorem dX12_next_56 : decode cX12_next 56 = .ok (.if_icmp .ge 79, 3) := by decide +kernel
theorem dX12_next_59 : decode cX12_next 59 = .ok (.iconst 0, 1) := by decide +kernel
theorem dX12_next_60 : decode cX12_next 60 = .ok (.istore 6, 2) := by decide +kernel
theorem dX12_next_62 : decode cX12_next 62 = .ok (.iload 6, 2) := by decide +kernel
theorem dX12_next_64 : decode cX12_next 64 = .ok (.bipush 39, 2) := by decide +kernel
theorem dX12_next_66 : decode cX12_next 66 = .ok (.if_icmp .ge 32, 3) := by decide +kernel
theorem dX12_next_69 : decode cX12_next 69 = .ok (.aload_n 0, 1) := by decide +kernel
theorem dX12_next_70 : decode cX12_next 70 = .ok (.getfield 34, 3) := by decide +kernel
theorem dX12_next_73 : decode cX12_next 73 = .ok (.iload 6, 2) := by decide +kernel
theorem dX12_next_75 : decode cX12_next 75 = .ok (.aload_n 0, 1) := by decide +kernel
theorem dX12_next_76 : decode cX12_next 76 = .ok (.getfield 13, 3) := by decide +kernel
theorem dX12_next_79 : decode cX12_next 79 = .ok (.aload_n 0, 1) := by decide +kernel
theorem dX12_next_80 : decode cX12_next 80 = .ok (.iload_n 1, 1) := by decide +kernel
theorem dX12_next_81 : decode cX12_next 81 = .ok (.invokevirtual 188, 3) := by decide +kernel
theorem dX12_next_84 : decode cX12_next 84 = .ok (.bipush 49, 2) := by decide +kernel
theorem dX12_next_86 : decode cX12_next 86 = .ok (.iadd, 1) := by decide +kernel
theorem dX12_next_87 : decode cX12_next 87 = .ok (.iload 6, 2) := by decide +kernel
theorem dX12_next_89 : decode cX12_next 89 = .ok (.iadd, 1) := by decide +kernel
theorem dX12_next_90 : decode cX12_next 90 = .ok (.iaload, 1) := by decide +kernel
theorem dX12_next_91 : decode cX12_next 91 = .ok (.iastore, 1) := by decide +kernel
theorem dX12_next_92 : decode cX12_next 92 = .ok (.iinc 6 1, 3) := by decide +kernel
theorem dX12_next_95 : decode cX12_next 95 = .ok (.goto (-33), 3) := by decide +kernel
theorem dX12_next_98 : decode cX12_next 98 = .ok (.aload_n 0, 1) := by decide +kernel
theorem dX12_next_99 : decode cX12_next 99 = .ok (.iload 5, 2) := by decide +kernel
theorem dX12_next_101 : decode cX12_next 101 = .ok (.iload_n 2, 1) := by decide +kernel
theorem dX12_next_102 : decode cX12_next 102 = .ok (.invokevirtual 109, 3) := by decide +kernel
theorem dX12_next_105 : decode cX12_next 105 = .ok (.aload_n 0, 1) := by decide +kernel
theorem dX12_next_106 : decode cX12_next 106 = .ok (.iconst 1, 1) := by decide +kernel
theorem dX12_next_107 : decode cX12_next 107 = .ok (.invokevirtual 143, 3) := by decide +kernel
theorem dX12_next_110 : decode cX12_next 110 = .ok (.istore 6, 2) := by decide +kernel
theorem dX12_next_112 : decode cX12_next 112 = .ok (.iload 6, 2) := by decide +kernel
theorem dX12_next_114 : decode cX12_next 114 = .ok (.iload 4, 2) := by decide +kernel
theorem dX12_next_116 : decode cX12_next 116 = .ok (.if_icmp .gt 6, 3) := by decide +kernel
theorem dX12_next_119 : decode cX12_next 119 = .ok (.goto 10, 3) := by decide +kernel
theorem dX12_next_122 : decode cX12_next 122 = .ok (.iload 6, 2) := by decide +kernel
theorem dX12_next_124 : decode cX12_next 124 = .ok (.istore 4, 2) := by decide +kernel
theorem dX12_next_126 : decode cX12_next 126 = .ok (.iload 5, 2) := by decide +kernel
theorem dX12_next_128 : decode cX12_next 128 = .ok (.istore_n 3, 1) := by decide +kernel
theorem dX12_next_129 : decode cX12_next 129 = .ok (.iinc 5 1, 3) := by decide +kernel
theorem dX12_next_132 : decode cX12_next 132 = .ok (.goto (-79), 3) := by decide +kernel
theorem dX12_next_135 : decode cX12_next 135 = .ok (.iload_n 3, 1) := by decide +kernel
theorem dX12_next_136 : decode cX12_next 136 = .ok (.ireturn, 1) := by decide +kernel
theorem dX12_enough_0 : decode cX12_enough 0 = .ok (.aload_n 0, 1) := by decide +kernel
theorem dX12_enough_1 : decode cX12_enough 1 = .ok (.iconst 0, 1) := by decide +kernel
theorem dX12_enough_2 : decode cX12_enough 2 = .ok (.putfield 1, 3) := by decide +kernel
theorem dX12_enough_5 : decode cX12_enough 5 = .ok (.aload_n 0, 1) := by decide +kernel
theorem dX12_enough_6 : decode cX12_enough 6 = .ok (.iload_n 1, 1) := by decide +kernel
theorem dX12_enough_7 : decode cX12_enough 7 = .ok (.invokevirtual 222, 3) := by decide +kernel
theorem dX12_enough_10 : decode cX12_enough 10 = .ok (.ifCond .ne 6, 3) := by decide +kernel
theorem dX12_enough_13 : decode cX12_enough 13 = .ok (.bipush (-2), 2) := by decide +kernel
theorem dX12_enough_15 : decode cX12_enough 15 = .ok (.ireturn, 1) := by decide +kernel
theorem dX12_enough_16 : decode cX12_enough 16 = .ok (.iload_n 2, 1) := by decide +kernel
theorem dX12_enough_17 : decode cX12_enough 17 = .ok (.invokestatic 134, 3) := by decide +kernel
theorem dX12_enough_20 : decode cX12_enough 20 = .ok (.ifCond .eq 15, 3) := by decide +kernel
theorem dX12_enough_23 : decode cX12_enough 23 = .ok (.iload_n 3, 1) := by decide +kernel
theorem dX12_enough_24 : decode cX12_enough 24 = .ok (.i2l, 1) := by decide +kernel
theorem dX12_enough_25 : decode cX12_enough 25 = .ok (.lconst 1, 1) := by decide +kernel
theorem dX12_enough_26 : decode cX12_enough 26 = .ok (.ldc2_w 98, 3) := by decide +kernel
theorem dX12_enough_29 : decode cX12_enough 29 = .ok (.invokestatic 94, 3) := by decide +kernel
theorem dX12_enough_32 : decode cX12_enough 32 = .ok (.ifCond .ne 6, 3) := by decide +kernel
theorem dX12_enough_35 : decode cX12_enough 35 = .ok (.bipush (-3), 2) := by decide +kernel
theorem dX12_enough_37 : decode cX12_enough 37 = .ok (.ireturn, 1) := by decide +kernel
theorem dX12_enough_38 : decode cX12_enough 38 = .ok (.aload_n 0, 1) := by decide +kernel
theorem dX12_enough_39 : decode cX12_enough 39 = .ok (.iload_n 1, 1) := by decide +kernel
theorem dX12_enough_40 : decode cX12_enough 40 = .ok (.invokevirtual 188, 3) := by decide +kernel
theorem dX12_enough_43 : decode cX12_enough 43 = .ok (.istore 4, 2) := by decide +kernel
theorem dX12_enough_45 : decode cX12_enough 45 = .ok (.aload_n 0, 1) := by decide +kernel
theorem dX12_enough_46 : decode cX12_enough 46 = .ok (.getfield 13, 3) := by decide +kernel
theorem dX12_enough_49 : decode cX12_enough 49 = .ok (.iload 4, 2) := by decide +kernel
theorem dX12_enough_51 : decode cX12_enough 51 = .ok (.iconst 0, 1) := by decide +kernel
theorem dX12_enough_52 : decode cX12_enough 52 = .ok (.iadd, 1) := by decide +kernel
theorem dX12_enough_53 : decode cX12_enough 53 = .ok (.iaload, 1) := by decide +kernel
theorem dX12_enough_54 : decode cX12_enough 54 = .ok (.iconst (-1), 1) := by decide +kernel
theorem dX12_enough_55 : decode cX12_enough 55 = .ok (.if_icmp .ne 6, 3) := by decide +kernel
theorem dX12_enough_58 : decode cX12_enough 58 = .ok (.bipush (-5), 2) := by decide +kernel
theorem dX12_enough_60 : decode cX12_enough 60 = .ok (.ireturn, 1) := by decide +kernel
theorem dX12_enough_61 : decode cX12_enough 61 = .ok (.aload_n 0, 1) := by decide +kernel
theorem dX12_enough_62 : decode cX12_enough 62 = .ok (.getfield 13, 3) := by decide +kernel
theorem dX12_enough_65 : decode cX12_enough 65 = .ok (.iload 4, 2) := by decide +kernel
theorem dX12_enough_67 : decode cX12_enough 67 = .ok (.iconst 0, 1) := by decide +kernel
theorem dX12_enough_68 : decode cX12_enough 68 = .ok (.iadd, 1) := by decide +kernel
theorem dX12_enough_69 : decode cX12_enough 69 = .ok (.iaload, 1) := by decide +kernel
theorem dX12_enough_70 : decode cX12_enough 70 = .ok (.aload_n 0, 1) := by decide +kernel
theorem dX12_enough_71 : decode cX12_enough 71 = .ok (.getfield 13, 3) := by decide +kernel
theorem dX12_enough_74 : decode cX12_enough 74 = .ok (.iload 4, 2) := by decide +kernel
theorem dX12_enough_76 : decode cX12_enough 76 = .ok (.iconst 1, 1) := by decide +kernel
theorem dX12_enough_77 : decode cX12_enough 77 = .ok (.iadd, 1) := by decide +kernel
theorem dX12_enough_78 : decode cX12_enough 78 = .ok (.iaload, 1) := by decide +kernel
theorem dX12_enough_79 : decode cX12_enough 79 = .ok (.invokestatic 112, 3) := by decide +kernel
theorem dX12_enough_82 : decode cX12_enough 82 = .ok (.istore 5, 2) := by decide +kernel
theorem dX12_enough_84 : decode cX12_enough 84 = .ok (.iconst 0, 1) := by decide +kernel
theorem dX12_enough_85 : decode cX12_enough 85 = .ok (.istore 6, 2) := by decide +kernel
theorem dX12_enough_87 : decode cX12_enough 87 = .ok (.iload 6, 2) := by decide +kernel
theorem dX12_enough_89 : decode cX12_enough 89 = .ok (.bipush 39, 2) := by decide +kernel
theorem dX12_enough_91 : decode cX12_enough 91 = .ok (.if_icmp .ge 55, 3) := by decide +kernel
theorem dX12_enough_94 : decode cX12_enough 94 = .ok (.aload_n 0, 1) := by decide +kernel
theorem dX12_enough_95 : decode cX12_enough 95 = .ok (.getfield 37, 3) := by decide +kernel
theorem dX12_enough_98 : decode cX12_enough 98 = .ok (.iload 6, 2) := by decide +kernel
theorem dX12_enough_100 : decode cX12_enough 100 = .ok (.aload_n 0, 1) := by decide +kernel
theorem dX12_enough_101 : decode cX12_enough 101 = .ok (.getfield 13, 3) := by decide +kernel
theorem dX12_enough_104 : decode cX12_enough 104 = .ok (.iload 4, 2) := by decide +kernel
theorem dX12_enough_106 : decode cX12_enough 106 = .ok (.bipush 6, 2) := by decide +kernel
theorem dX12_enough_108 : decode cX12_enough 108 = .ok (.iadd, 1) := by decide +kernel
theorem dX12_enough_109 : decode cX12_enough 109 = .ok (.iaload, 1) := by decide +kernel
theorem dX12_enough_110 : decode cX12_enough 110 = .ok (.aload_n 0, 1) := by decide +kernel
theorem dX12_enough_111 : decode cX12_enough 111 = .ok (.getfield 13, 3) := by decide +kernel
theorem dX12_enough_114 : decode cX12_enough 114 = .ok (.iload 4, 2) := by decide +kernel
theorem dX12_enough_116 : decode cX12_enough 116 = .ok (.iconst 2, 1) := by decide +kernel
theorem dX12_enough_117 : decode cX12_enough 117 = .ok (.iadd, 1) := by decide +kernel
theorem dX12_enough_118 : decode cX12_enough 118 = .ok (.iaload, 1) := by decide +kernel
theorem dX12_enough_119 : decode cX12_enough 119 = .ok (.if_icmp .ne 19, 3) := by decide +kernel
theorem dX12_enough_122 : decode cX12_enough 122 = .ok (.aload_n 0, 1) := by decide +kernel
theorem dX12_enough_123 : decode cX12_enough 123 = .ok (.getfield 13, 3) := by decide +kernel
theorem dX12_enough_126 : decode cX12_enough 126 = .ok (.iload 4, 2) := by decide +kernel
theorem dX12_enough_128 : decode cX12_enough 128 = .ok (.bipush 10, 2) := by decide +kernel
theorem dX12_enough_130 : decode cX12_enough 130 = .ok (.iadd, 1) := by decide +kernel
theorem dX12_enough_131 : decode cX12_enough 131 = .ok (.iload 6, 2) := by decide +kernel
theorem dX12_enough_133 : decode cX12_enough 133 = .ok (.iadd, 1) := by decide +kernel
theorem dX12_enough_134 : decode cX12_enough 134 = .ok (.iaload, 1) := by decide +kernel
theorem dX12_enough_135 : decode cX12_enough 135 = .ok (.goto 4, 3) := by decide +kernel
theorem dX12_enough_138 : decode cX12_enough 138 = .ok (.iconst 0, 1) := by decide +kernel
theorem dX12_enough_139 : decode cX12_enough 139 = .ok (.iastore, 1) := by decide +kernel
theorem dX12_enough_140 : decode cX12_enough 140 = .ok (.iinc 6 1, 3) := by decide +kernel
theorem dX12_enough_143 : decode cX12_enough 143 = .ok (.goto (-56), 3) := by decide +kernel
theorem dX12_enough_146 : decode cX12_enough 146 = .ok (.iconst 1, 1) := by decide +kernel
theorem dX12_enough_147 : decode cX12_enough 147 = .ok (.istore 6, 2) := by decide +kernel
theorem dX12_enough_149 : decode cX12_enough 149 = .ok (.iload 6, 2) := by decide +kernel
theorem dX12_enough_151 : decode cX12_enough 151 = .ok (.bipush 8, 2) := by decide +kernel
theorem dX12_enough_153 : decode cX12_enough 153 = .ok (.if_icmp .gt 102, 3) := by decide +kernel
theorem dX12_enough_156 : decode cX12_enough 156 = .ok (.aload_n 0, 1) := by decide +kernel
theorem dX12_enough_157 : decode cX12_enough 157 = .ok (.aload_n 0, 1) := by decide +kernel
theorem dX12_enough_158 : decode cX12_enough 158 = .ok (.getfield 13, 3) := by decide +kernel
theorem dX12_enough_161 : decode cX12_enough 161 = .ok (.iload 4, 2) := by decide +kernel
theorem dX12_enough_163 : decode cX12_enough 163 = .ok (.iconst 3, 1) := by decide +kernel
theorem dX12_enough_164 : decode cX12_enough 164 = .ok (.iadd, 1) := by decide +kernel
theorem dX12_enough_165 : decode cX12_enough 165 = .ok (.iaload, 1) := by decide +kernel
theorem dX12_enough_166 : decode cX12_enough 166 = .ok (.iload 6, 2) := by decide +kernel
theorem dX12_enough_168 : decode cX12_enough 168 = .ok (.iadd, 1) := by decide +kernel
theorem dX12_enough_169 : decode cX12_enough 169 = .ok (.iconst 1, 1) := by decide +kernel
theorem dX12_enough_170 : decode cX12_enough 170 = .ok (.isub, 1) := by decide +kernel
theorem dX12_enough_171 : decode cX12_enough 171 = .ok (.invokestatic 207, 3) := by decide +kernel
theorem dX12_enough_174 : decode cX12_enough 174 = .ok (.iload_n 2, 1) := by decide +kernel
theorem dX12_enough_175 : decode cX12_enough 175 = .ok (.invokevirtual 102, 3) := by decide +kernel
theorem dX12_enough_178 : decode cX12_enough 178 = .ok (.iconst 0, 1) := by decide +kernel
theorem dX12_enough_179 : decode cX12_enough 179 = .ok (.istore 7, 2) := by decide +kernel
theorem dX12_enough_181 : decode cX12_enough 181 = .ok (.iload 7, 2) := by decide +kernel
theorem dX12_enough_183 : decode cX12_enough 183 = .ok (.iload_n 2, 1) := by decide +kernel
theorem dX12_enough_184 : decode cX12_enough 184 = .ok (.if_icmp .ge 53, 3) := by decide +kernel
theorem dX12_enough_187 : decode cX12_enough 187 = .ok (.aload_n 0, 1) := by decide +kernel
theorem dX12_enough_188 : decode cX12_enough 188 = .ok (.getfield 31, 3) := by decide +kernel
theorem dX12_enough_191 : decode cX12_enough 191 = .ok (.iload 7, 2) := by decide +kernel
theorem dX12_enough_193 : decode cX12_enough 193 = .ok (.iaload, 1) := by decide +kernel
theorem dX12_enough_194 : decode cX12_enough 194 = .ok (.istore 8, 2) := by decide +kernel
theorem dX12_enough_196 : decode cX12_enough 196 = .ok (.aload_n 0, 1) := by decide +kernel
theorem dX12_enough_197 : decode cX12_enough 197 = .ok (.getfield 37, 3) := by decide +kernel
theorem dX12_enough_200 : decode cX12_enough 200 = .ok (.iload 8, 2) := by decide +kernel
theorem dX12_enough_202 : decode cX12_enough 202 = .ok (.aload_n 0, 1) := by decide +kernel
theorem dX12_enough_203 : decode cX12_enough 203 = .ok (.getfield 37, 3) := by decide +kernel
theorem dX12_enough_206 : decode cX12_enough 206 = .ok (.iload 8, 2) := by decide +kernel
theorem dX12_enough_208 : decode cX12_enough 208 = .ok (.iaload, 1) := by decide +kernel
theorem dX12_enough_209 : decode cX12_enough 209 = .ok (.iload 5, 2) := by decide +kernel
theorem dX12_enough_211 : decode cX12_enough 211 = .ok (.iload 8, 2) := by decide +kernel
theorem dX12_enough_213 : decode cX12_enough 213 = .ok (.invokestatic 82, 3) := by decide +kernel
theorem dX12_enough_216 : decode cX12_enough 216 = .ok (.iload_n 3, 1) := by decide +kernel
theorem dX12_enough_217 : decode cX12_enough 217 = .ok (.invokestatic 154, 3) := by decide +kernel
theorem dX12_enough_220 : decode cX12_enough 220 = .ok (.iadd, 1) := by decide +kernel
theorem dX12_enough_221 : decode cX12_enough 221 = .ok (.aload_n 0, 1) := by decide +kernel
theorem dX12_enough_222 : decode cX12_enough 222 = .ok (.getfield 13, 3) := by decide +kernel
theorem dX12_enough_225 : decode cX12_enough 225 = .ok (.iconst 5, 1) := by decide +kernel
theorem dX12_enough_226 : decode cX12_enough 226 = .ok (.iaload, 1) := by decide +kernel
theorem dX12_enough_227 : decode cX12_enough 227 = .ok (.invokestatic 191, 3) := by decide +kernel
theorem dX12_enough_230 : decode cX12_enough 230 = .ok (.iastore, 1) := by decide +kernel
theorem dX12_enough_231 : decode cX12_enough 231 = .ok (.iinc 7 1, 3) := by decide +kernel
theorem dX12_enough_234 : decode cX12_enough 234 = .ok (.goto (-53), 3) := by decide +kernel
theorem dX12_enough_237 : decode cX12_enough 237 = .ok (.aload_n 0, 1) := by decide +kernel
theorem dX12_enough_238 : decode cX12_enough 238 = .ok (.invokevirtual 162, 3) := by decide +kernel
theorem dX12_enough_241 : decode cX12_enough 241 = .ok (.iload 5, 2) := by decide +kernel
theorem dX12_enough_243 : decode cX12_enough 243 = .ok (.if_icmp .ne 6, 3) := by decide +kernel
theorem dX12_enough_246 : decode cX12_enough 246 = .ok (.iload 6, 2) := by decide +kernel
theorem dX12_enough_248 : decode cX12_enough 248 = .ok (.ireturn, 1) := by decide +kernel
theorem dX12_enough_249 : decode cX12_enough 249 = .ok (.iinc 6 1, 3) := by decide +kernel
theorem dX12_enough_252 : decode cX12_enough 252 = .ok (.goto (-103), 3) := by decide +kernel
theorem dX12_enough_255 : decode cX12_enough 255 = .ok (.iconst (-1), 1) := by decide +kernel
theorem dX12_enough_256 : decode cX12_enough 256 = .ok (.ireturn, 1) := by decide +kernel
theorem dX12_sumNow_0 : decode cX12_sumNow 0 = .ok (.iconst 0, 1) := by decide +kernel
theorem dX12_sumNow_1 : decode cX12_sumNow 1 = .ok (.istore_n 2, 1) := by decide +kernel
theorem dX12_sumNow_2 : decode cX12_sumNow 2 = .ok (.iconst 0, 1) := by decide +kernel
theorem dX12_sumNow_3 : decode cX12_sumNow 3 = .ok (.istore_n 3, 1) := by decide +kernel
theorem dX12_sumNow_4 : decode cX12_sumNow 4 = .ok (.iload_n 3, 1) := by decide +kernel
theorem dX12_sumNow_5 : decode cX12_sumNow 5 = .ok (.bipush 39, 2) := by decide +kernel
theorem dX12_sumNow_7 : decode cX12_sumNow 7 = .ok (.if_icmp .ge 32, 3) := by decide +kernel
theorem dX12_sumNow_10 : decode cX12_sumNow 10 = .ok (.iload_n 2, 1) := by decide +kernel
theorem dX12_sumNow_11 : decode cX12_sumNow 11 = .ok (.aload_n 0, 1) := by decide +kernel
theorem dX12_sumNow_12 : decode cX12_sumNow 12 = .ok (.getfield 24, 3) := by decide +kernel
theorem dX12_sumNow_15 : decode cX12_sumNow 15 = .ok (.iload_n 1, 1) := by decide +kernel
theorem dX12_sumNow_16 : decode cX12_sumNow 16 = .ok (.laload, 1) := by decide +kernel
theorem dX12_sumNow_17 : decode cX12_sumNow 17 = .ok (.iload_n 3, 1) := by decide +kernel
theorem dX12_sumNow_18 : decode cX12_sumNow 18 = .ok (.lshr, 1) := by decide +kernel
theorem dX12_sumNow_19 : decode cX12_sumNow 19 = .ok (.lconst 1, 1) := by decide +kernel
theorem dX12_sumNow_20 : decode cX12_sumNow 20 = .ok (.land, 1) := by decide +kernel
theorem dX12_sumNow_21 : decode cX12_sumNow 21 = .ok (.l2i, 1) := by decide +kernel
theorem dX12_sumNow_22 : decode cX12_sumNow 22 = .ok (.aload_n 0, 1) := by decide +kernel
theorem dX12_sumNow_23 : decode cX12_sumNow 23 = .ok (.getfield 37, 3) := by decide +kernel
theorem dX12_sumNow_26 : decode cX12_sumNow 26 = .ok (.iload_n 3, 1) := by decide +kernel
theorem dX12_sumNow_27 : decode cX12_sumNow 27 = .ok (.iaload, 1) := by decide +kernel
theorem dX12_sumNow_28 : decode cX12_sumNow 28 = .ok (.invokestatic 154, 3) := by decide +kernel
theorem dX12_sumNow_31 : decode cX12_sumNow 31 = .ok (.iadd, 1) := by decide +kernel
theorem dX12_sumNow_32 : decode cX12_sumNow 32 = .ok (.istore_n 2, 1) := by decide +kernel
theorem dX12_sumNow_33 : decode cX12_sumNow 33 = .ok (.iinc 3 1, 3) := by decide +kernel
theorem dX12_sumNow_36 : decode cX12_sumNow 36 = .ok (.goto (-32), 3) := by decide +kernel
theorem dX12_sumNow_39 : decode cX12_sumNow 39 = .ok (.iload_n 2, 1) := by decide +kernel
theorem dX12_sumNow_40 : decode cX12_sumNow 40 = .ok (.ireturn, 1) := by decide +kernel
theorem dX12_noSoft_0 : decode cX12_noSoft 0 = .ok (.aload_n 0, 1) := by decide +kernel
theorem dX12_noSoft_1 : decode cX12_noSoft 1 = .ok (.iload_n 1, 1) := by decide +kernel
theorem dX12_noSoft_2 : decode cX12_noSoft 2 = .ok (.invokevirtual 222, 3) := by decide +kernel
theorem dX12_noSoft_5 : decode cX12_noSoft 5 = .ok (.ifCond .ne 6, 3) := by decide +kernel
theorem dX12_noSoft_8 : decode cX12_noSoft 8 = .ok (.bipush (-2), 2) := by decide +kernel
theorem dX12_noSoft_10 : decode cX12_noSoft 10 = .ok (.ireturn, 1) := by decide +kernel
theorem dX12_noSoft_11 : decode cX12_noSoft 11 = .ok (.aload_n 0, 1) := by decide +kernel
theorem dX12_noSoft_12 : decode cX12_noSoft 12 = .ok (.getfield 13, 3) := by decide +kernel
theorem dX12_noSoft_15 : decode cX12_noSoft 15 = .ok (.aload_n 0, 1) := by decide +kernel
theorem dX12_noSoft_16 : decode cX12_noSoft 16 = .ok (.iload_n 1, 1) := by decide +kernel
theorem dX12_noSoft_17 : decode cX12_noSoft 17 = .ok (.invokevirtual 188, 3) := by decide +kernel
theorem dX12_noSoft_20 : decode cX12_noSoft 20 = .ok (.bipush 9, 2) := by decide +kernel
theorem dX12_noSoft_22 : decode cX12_noSoft 22 = .ok (.iadd, 1) := by decide +kernel
theorem dX12_noSoft_23 : decode cX12_noSoft 23 = .ok (.iaload, 1) := by decide +kernel
theorem dX12_noSoft_24 : decode cX12_noSoft 24 = .ok (.ifCond .ne 6, 3) := by decide +kernel
theorem dX12_noSoft_27 : decode cX12_noSoft 27 = .ok (.bipush (-6), 2) := by decide +kernel
theorem dX12_noSoft_29 : decode cX12_noSoft 29 = .ok (.ireturn, 1) := by decide +kernel
theorem dX12_noSoft_30 : decode cX12_noSoft 30 = .ok (.aload_n 0, 1) := by decide +kernel
theorem dX12_noSoft_31 : decode cX12_noSoft 31 = .ok (.iload_n 1, 1) := by decide +kernel
theorem dX12_noSoft_32 : decode cX12_noSoft 32 = .ok (.invokevirtual 194, 3) := by decide +kernel
theorem dX12_noSoft_35 : decode cX12_noSoft 35 = .ok (.iconst 0, 1) := by decide +kernel
theorem dX12_noSoft_36 : decode cX12_noSoft 36 = .ok (.ireturn, 1) := by decide +kernel
theorem dX12_secondNow_0 : decode cX12_secondNow 0 = .ok (.iconst (-1), 1) := by decide +kernel
theorem dX12_secondNow_1 : decode cX12_secondNow 1 = .ok (.istore_n 2, 1) := by decide +kernel
theorem dX12_secondNow_2 : decode cX12_secondNow 2 = .ok (.iconst 0, 1) := by decide +kernel
theorem dX12_secondNow_3 : decode cX12_secondNow 3 = .ok (.istore_n 3, 1) := by decide +kernel
theorem dX12_secondNow_4 : decode cX12_secondNow 4 = .ok (.iconst 0, 1) := by decide +kernel
theorem dX12_secondNow_5 : decode cX12_secondNow 5 = .ok (.istore 4, 2) := by decide +kernel
theorem dX12_secondNow_7 : decode cX12_secondNow 7 = .ok (.iload 4, 2) := by decide +kernel
theorem dX12_secondNow_9 : decode cX12_secondNow 9 = .ok (.sipush 2048, 3) := by decide +kernel
theorem dX12_secondNow_12 : decode cX12_secondNow 12 = .ok (.if_icmp .ge 46, 3) := by decide +kernel
theorem dX12_secondNow_15 : decode cX12_secondNow 15 = .ok (.iload 4, 2) := by decide +kernel
theorem dX12_secondNow_17 : decode cX12_secondNow 17 = .ok (.iload_n 1, 1) := by decide +kernel
theorem dX12_secondNow_18 : decode cX12_secondNow 18 = .ok (.if_icmp .ne 6, 3) := by decide +kernel
theorem dX12_secondNow_21 : decode cX12_secondNow 21 = .ok (.goto 31, 3) := by decide +kernel
theorem dX12_secondNow_24 : decode cX12_secondNow 24 = .ok (.aload_n 0, 1) := by decide +kernel
theorem dX12_secondNow_25 : decode cX12_secondNow 25 = .ok (.iload 4, 2) := by decide +kernel
theorem dX12_secondNow_27 : decode cX12_secondNow 27 = .ok (.invokevirtual 278, 3) := by decide +kernel
theorem dX12_secondNow_30 : decode cX12_secondNow 30 = .ok (.istore 5, 2) := by decide +kernel
theorem dX12_secondNow_32 : decode cX12_secondNow 32 = .ok (.iload_n 2, 1) := by decide +kernel
theorem dX12_secondNow_33 : decode cX12_secondNow 33 = .ok (.iconst (-1), 1) := by decide +kernel
theorem dX12_secondNow_34 : decode cX12_secondNow 34 = .ok (.if_icmp .eq 12, 3) := by decide +kernel
theorem dX12_secondNow_37 : decode cX12_secondNow 37 = .ok (.iload 5, 2) := by decide +kernel
theorem dX12_secondNow_39 : decode cX12_secondNow 39 = .ok (.iload_n 3, 1) := by decide +kernel
theorem dX12_secondNow_40 : decode cX12_secondNow 40 = .ok (.if_icmp .gt 6, 3) := by decide +kernel
theorem dX12_secondNow_43 : decode cX12_secondNow 43 = .ok (.goto 9, 3) := by decide +kernel
theorem dX12_secondNow_46 : decode cX12_secondNow 46 = .ok (.iload 4, 2) := by decide +kernel
theorem dX12_secondNow_48 : decode cX12_secondNow 48 = .ok (.istore_n 2, 1) := by decide +kernel
theorem dX12_secondNow_49 : decode cX12_secondNow 49 = .ok (.iload 5, 2) := by decide +kernel
theorem dX12_secondNow_51 : decode cX12_secondNow 51 = .ok (.istore_n 3, 1) := by decide +kernel
theorem dX12_secondNow_52 : decode cX12_secondNow 52 = .ok (.iinc 4 1, 3) := by decide +kernel
theorem dX12_secondNow_55 : decode cX12_secondNow 55 = .ok (.goto (-48), 3) := by decide +kernel
theorem dX12_secondNow_58 : decode cX12_secondNow 58 = .ok (.iload_n 2, 1) := by decide +kernel
theorem dX12_secondNow_59 : decode cX12_secondNow 59 = .ok (.ireturn, 1) := by decide +kernel
theorem dX12_soft_0 : decode cX12_soft 0 = .ok (.aload_n 0, 1) := by decide +kernel
theorem dX12_soft_1 : decode cX12_soft 1 = .ok (.iconst 0, 1) := by decide +kernel
theorem dX12_soft_2 : decode cX12_soft 2 = .ok (.putfield 1, 3) := by decide +kernel
theorem dX12_soft_5 : decode cX12_soft 5 = .ok (.aload_n 0, 1) := by decide +kernel
theorem dX12_soft_6 : decode cX12_soft 6 = .ok (.iload_n 1, 1) := by decide +kernel
theorem dX12_soft_7 : decode cX12_soft 7 = .ok (.invokevirtual 281, 3) := by decide +kernel
theorem dX12_soft_10 : decode cX12_soft 10 = .ok (.istore_n 3, 1) := by decide +kernel
theorem dX12_soft_11 : decode cX12_soft 11 = .ok (.iload_n 3, 1) := by decide +kernel
theorem dX12_soft_12 : decode cX12_soft 12 = .ok (.ifCond .eq 9, 3) := by decide +kernel
theorem dX12_soft_15 : decode cX12_soft 15 = .ok (.ldc_w 284, 3) := by decide +kernel
theorem dX12_soft_18 : decode cX12_soft 18 = .ok (.iload_n 3, 1) := by decide +kernel
theorem dX12_soft_19 : decode cX12_soft 19 = .ok (.iadd, 1) := by decide +kernel
theorem dX12_soft_20 : decode cX12_soft 20 = .ok (.ireturn, 1) := by decide +kernel
theorem dX12_soft_21 : decode cX12_soft 21 = .ok (.iload_n 2, 1) := by decide +kernel
theorem dX12_soft_22 : decode cX12_soft 22 = .ok (.i2l, 1) := by decide +kernel
theorem dX12_soft_23 : decode cX12_soft 23 = .ok (.lconst 0, 1) := by decide +kernel
theorem dX12_soft_24 : decode cX12_soft 24 = .ok (.ldc2_w 285, 3) := by decide +kernel
theorem dX12_soft_27 : decode cX12_soft 27 = .ok (.invokestatic 94, 3) := by decide +kernel
theorem dX12_soft_30 : decode cX12_soft 30 = .ok (.ifCond .eq 12, 3) := by decide +kernel
theorem dX12_soft_33 : decode cX12_soft 33 = .ok (.aload_n 0, 1) := by decide +kernel
theorem dX12_soft_34 : decode cX12_soft 34 = .ok (.getfield 37, 3) := by decide +kernel
theorem dX12_soft_37 : decode cX12_soft 37 = .ok (.iload_n 2, 1) := by decide +kernel
theorem dX12_soft_38 : decode cX12_soft 38 = .ok (.iaload, 1) := by decide +kernel
theorem dX12_soft_39 : decode cX12_soft 39 = .ok (.goto 6, 3) := by decide +kernel
theorem dX12_soft_42 : decode cX12_soft 42 = .ok (.ldc_w 287, 3) := by decide +kernel
theorem dX12_soft_45 : decode cX12_soft 45 = .ok (.ireturn, 1) := by decide +kernel
theorem dX12_heard_0 : decode cX12_heard 0 = .ok (.aload_n 0, 1) := by decide +kernel
theorem dX12_heard_1 : decode cX12_heard 1 = .ok (.iconst 0, 1) := by decide +kernel
theorem dX12_heard_2 : decode cX12_heard 2 = .ok (.putfield 1, 3) := by decide +kernel
theorem dX12_heard_5 : decode cX12_heard 5 = .ok (.aload_n 0, 1) := by decide +kernel
theorem dX12_heard_6 : decode cX12_heard 6 = .ok (.iload_n 1, 1) := by decide +kernel
theorem dX12_heard_7 : decode cX12_heard 7 = .ok (.invokevirtual 222, 3) := by decide +kernel
theorem dX12_heard_10 : decode cX12_heard 10 = .ok (.ifCond .eq 15, 3) := by decide +kernel
theorem dX12_heard_13 : decode cX12_heard 13 = .ok (.iload_n 2, 1) := by decide +kernel
theorem dX12_heard_14 : decode cX12_heard 14 = .ok (.i2l, 1) := by decide +kernel
theorem dX12_heard_15 : decode cX12_heard 15 = .ok (.lconst 0, 1) := by decide +kernel
theorem dX12_heard_16 : decode cX12_heard 16 = .ok (.ldc2_w 237, 3) := by decide +kernel
theorem dX12_heard_19 : decode cX12_heard 19 = .ok (.invokestatic 94, 3) := by decide +kernel
theorem dX12_heard_22 : decode cX12_heard 22 = .ok (.ifCond .ne 6, 3) := by decide +kernel
theorem dX12_heard_25 : decode cX12_heard 25 = .ok (.bipush (-2), 2) := by decide +kernel
theorem dX12_heard_27 : decode cX12_heard 27 = .ok (.ireturn, 1) := by decide +kernel
theorem dX12_heard_28 : decode cX12_heard 28 = .ok (.aload_n 0, 1) := by decide +kernel
theorem dX12_heard_29 : decode cX12_heard 29 = .ok (.getfield 13, 3) := by decide +kernel
theorem dX12_heard_32 : decode cX12_heard 32 = .ok (.aload_n 0, 1) := by decide +kernel
theorem dX12_heard_33 : decode cX12_heard 33 = .ok (.iload_n 1, 1) := by decide +kernel
theorem dX12_heard_34 : decode cX12_heard 34 = .ok (.invokevirtual 188, 3) := by decide +kernel
theorem dX12_heard_37 : decode cX12_heard 37 = .ok (.bipush 6, 2) := by decide +kernel
theorem dX12_heard_39 : decode cX12_heard 39 = .ok (.iadd, 1) := by decide +kernel
theorem dX12_heard_40 : decode cX12_heard 40 = .ok (.iload_n 2, 1) := by decide +kernel
theorem dX12_heard_41 : decode cX12_heard 41 = .ok (.iadd, 1) := by decide +kernel
theorem dX12_heard_42 : decode cX12_heard 42 = .ok (.iaload, 1) := by decide +kernel
theorem dX12_heard_43 : decode cX12_heard 43 = .ok (.ireturn, 1) := by decide +kernel
theorem dX12_best_0 : decode cX12_best 0 = .ok (.aload_n 0, 1) := by decide +kernel
theorem dX12_best_1 : decode cX12_best 1 = .ok (.iconst 0, 1) := by decide +kernel
theorem dX12_best_2 : decode cX12_best 2 = .ok (.putfield 1, 3) := by decide +kernel
theorem dX12_best_5 : decode cX12_best 5 = .ok (.aload_n 0, 1) := by decide +kernel
theorem dX12_best_6 : decode cX12_best 6 = .ok (.iload_n 1, 1) := by decide +kernel
theorem dX12_best_7 : decode cX12_best 7 = .ok (.invokevirtual 281, 3) := by decide +kernel
theorem dX12_best_10 : decode cX12_best 10 = .ok (.istore_n 2, 1) := by decide +kernel
theorem dX12_best_11 : decode cX12_best 11 = .ok (.iload_n 2, 1) := by decide +kernel
theorem dX12_best_12 : decode cX12_best 12 = .ok (.ifCond .eq 7, 3) := by decide +kernel
theorem dX12_best_15 : decode cX12_best 15 = .ok (.iload_n 2, 1) := by decide +kernel
theorem dX12_best_16 : decode cX12_best 16 = .ok (.goto 7, 3) := by decide +kernel
theorem dX12_best_19 : decode cX12_best 19 = .ok (.aload_n 0, 1) := by decide +kernel
theorem dX12_best_20 : decode cX12_best 20 = .ok (.invokevirtual 162, 3) := by decide +kernel
theorem dX12_best_23 : decode cX12_best 23 = .ok (.ireturn, 1) := by decide +kernel
theorem dX12_sum_0 : decode cX12_sum 0 = .ok (.aload_n 0, 1) := by decide +kernel
theorem dX12_sum_1 : decode cX12_sum 1 = .ok (.iconst 0, 1) := by decide +kernel
theorem dX12_sum_2 : decode cX12_sum 2 = .ok (.putfield 1, 3) := by decide +kernel
theorem dX12_sum_5 : decode cX12_sum 5 = .ok (.aload_n 0, 1) := by decide +kernel
theorem dX12_sum_6 : decode cX12_sum 6 = .ok (.iload_n 1, 1) := by decide +kernel
theorem dX12_sum_7 : decode cX12_sum 7 = .ok (.invokevirtual 222, 3) := by decide +kernel
theorem dX12_sum_10 : decode cX12_sum 10 = .ok (.ifCond .ne 7, 3) := by decide +kernel
theorem dX12_sum_13 : decode cX12_sum 13 = .ok (.ldc_w 288, 3) := by decide +kernel
theorem dX12_sum_16 : decode cX12_sum 16 = .ok (.ireturn, 1) := by decide +kernel
theorem dX12_sum_17 : decode cX12_sum 17 = .ok (.iload_n 2, 1) := by decide +kernel
theorem dX12_sum_18 : decode cX12_sum 18 = .ok (.invokestatic 127, 3) := by decide +kernel
theorem dX12_sum_21 : decode cX12_sum 21 = .ok (.ifCond .ne 7, 3) := by decide +kernel
theorem dX12_sum_24 : decode cX12_sum 24 = .ok (.ldc_w 289, 3) := by decide +kernel
theorem dX12_sum_27 : decode cX12_sum 27 = .ok (.ireturn, 1) := by decide +kernel
theorem dX12_sum_28 : decode cX12_sum 28 = .ok (.aload_n 0, 1) := by decide +kernel
theorem dX12_sum_29 : decode cX12_sum 29 = .ok (.iload_n 1, 1) := by decide +kernel
theorem dX12_sum_30 : decode cX12_sum 30 = .ok (.invokevirtual 281, 3) := by decide +kernel
theorem dX12_sum_33 : decode cX12_sum 33 = .ok (.istore_n 3, 1) := by decide +kernel
theorem dX12_sum_34 : decode cX12_sum 34 = .ok (.iload_n 3, 1) := by decide +kernel
theorem dX12_sum_35 : decode cX12_sum 35 = .ok (.ifCond .eq 11, 3) := by decide +kernel
theorem dX12_sum_38 : decode cX12_sum 38 = .ok (.ldc_w 284, 3) := by decide +kernel
theorem dX12_sum_41 : decode cX12_sum 41 = .ok (.iload_n 3, 1) := by decide +kernel
theorem dX12_sum_42 : decode cX12_sum 42 = .ok (.iadd, 1) := by decide +kernel
theorem dX12_sum_43 : decode cX12_sum 43 = .ok (.goto 8, 3) := by decide +kernel
theorem dX12_sum_46 : decode cX12_sum 46 = .ok (.aload_n 0, 1) := by decide +kernel
theorem dX12_sum_47 : decode cX12_sum 47 = .ok (.iload_n 2, 1) := by decide +kernel
theorem dX12_sum_48 : decode cX12_sum 48 = .ok (.invokevirtual 278, 3) := by decide +kernel
theorem dX12_sum_51 : decode cX12_sum 51 = .ok (.ireturn, 1) := by decide +kernel
theorem dX12_margin_0 : decode cX12_margin 0 = .ok (.aload_n 0, 1) := by decide +kernel
theorem dX12_margin_1 : decode cX12_margin 1 = .ok (.iconst 0, 1) := by decide +kernel
theorem dX12_margin_2 : decode cX12_margin 2 = .ok (.putfield 1, 3) := by decide +kernel
theorem dX12_margin_5 : decode cX12_margin 5 = .ok (.aload_n 0, 1) := by decide +kernel
theorem dX12_margin_6 : decode cX12_margin 6 = .ok (.iload_n 1, 1) := by decide +kernel
theorem dX12_margin_7 : decode cX12_margin 7 = .ok (.invokevirtual 281, 3) := by decide +kernel
theorem dX12_margin_10 : decode cX12_margin 10 = .ok (.istore_n 2, 1) := by decide +kernel
theorem dX12_margin_11 : decode cX12_margin 11 = .ok (.iload_n 2, 1) := by decide +kernel
theorem dX12_margin_12 : decode cX12_margin 12 = .ok (.ifCond .eq 5, 3) := by decide +kernel
theorem dX12_margin_15 : decode cX12_margin 15 = .ok (.iload_n 2, 1) := by decide +kernel
theorem dX12_margin_16 : decode cX12_margin 16 = .ok (.ireturn, 1) := by decide +kernel
theorem dX12_margin_17 : decode cX12_margin 17 = .ok (.aload_n 0, 1) := by decide +kernel
theorem dX12_margin_18 : decode cX12_margin 18 = .ok (.invokevirtual 162, 3) := by decide +kernel
theorem dX12_margin_21 : decode cX12_margin 21 = .ok (.istore_n 3, 1) := by decide +kernel
theorem dX12_margin_22 : decode cX12_margin 22 = .ok (.aload_n 0, 1) := by decide +kernel
theorem dX12_margin_23 : decode cX12_margin 23 = .ok (.iload_n 3, 1) := by decide +kernel
theorem dX12_margin_24 : decode cX12_margin 24 = .ok (.invokevirtual 278, 3) := by decide +kernel
theorem dX12_margin_27 : decode cX12_margin 27 = .ok (.aload_n 0, 1) := by decide +kernel
theorem dX12_margin_28 : decode cX12_margin 28 = .ok (.aload_n 0, 1) := by decide +kernel
theorem dX12_margin_29 : decode cX12_margin 29 = .ok (.iload_n 3, 1) := by decide +kernel
theorem dX12_margin_30 : decode cX12_margin 30 = .ok (.invokevirtual 290, 3) := by decide +kernel
theorem dX12_margin_33 : decode cX12_margin 33 = .ok (.invokevirtual 278, 3) := by decide +kernel
theorem dX12_margin_36 : decode cX12_margin 36 = .ok (.isub, 1) := by decide +kernel
theorem dX12_margin_37 : decode cX12_margin 37 = .ok (.ireturn, 1) := by decide +kernel
theorem dX12_second_0 : decode cX12_second 0 = .ok (.aload_n 0, 1) := by decide +kernel
theorem dX12_second_1 : decode cX12_second 1 = .ok (.iconst 0, 1) := by decide +kernel
theorem dX12_second_2 : decode cX12_second 2 = .ok (.putfield 1, 3) := by decide +kernel
theorem dX12_second_5 : decode cX12_second 5 = .ok (.aload_n 0, 1) := by decide +kernel
theorem dX12_second_6 : decode cX12_second 6 = .ok (.iload_n 1, 1) := by decide +kernel
theorem dX12_second_7 : decode cX12_second 7 = .ok (.invokevirtual 281, 3) := by decide +kernel
theorem dX12_second_10 : decode cX12_second 10 = .ok (.istore_n 2, 1) := by decide +kernel
theorem dX12_second_11 : decode cX12_second 11 = .ok (.iload_n 2, 1) := by decide +kernel
theorem dX12_second_12 : decode cX12_second 12 = .ok (.ifCond .eq 7, 3) := by decide +kernel
theorem dX12_second_15 : decode cX12_second 15 = .ok (.iload_n 2, 1) := by decide +kernel
theorem dX12_second_16 : decode cX12_second 16 = .ok (.goto 11, 3) := by decide +kernel
theorem dX12_second_19 : decode cX12_second 19 = .ok (.aload_n 0, 1) := by decide +kernel
theorem dX12_second_20 : decode cX12_second 20 = .ok (.aload_n 0, 1) := by decide +kernel
theorem dX12_second_21 : decode cX12_second 21 = .ok (.invokevirtual 162, 3) := by decide +kernel
theorem dX12_second_24 : decode cX12_second 24 = .ok (.invokevirtual 290, 3) := by decide +kernel
theorem dX12_second_27 : decode cX12_second 27 = .ok (.ireturn, 1) := by decide +kernel
theorem dX12_greatestOf_0 : decode cX12_greatestOf 0 = .ok (.ldc 157, 2) := by decide +kernel
theorem dX12_greatestOf_2 : decode cX12_greatestOf 2 = .ok (.istore_n 3, 1) := by decide +kernel
theorem dX12_greatestOf_3 : decode cX12_greatestOf 3 = .ok (.iconst 0, 1) := by decide +kernel
theorem dX12_greatestOf_4 : decode cX12_greatestOf 4 = .ok (.istore 4, 2) := by decide +kernel
theorem dX12_greatestOf_6 : decode cX12_greatestOf 6 = .ok (.iload 4, 2) := by decide +kernel
theorem dX12_greatestOf_8 : decode cX12_greatestOf 8 = .ok (.sipush 2048, 3) := by decide +kernel
theorem dX12_greatestOf_11 : decode cX12_greatestOf 11 = .ok (.if_icmp .ge 43, 3) := by decide +kernel
theorem dX12_greatestOf_14 : decode cX12_greatestOf 14 = .ok (.iload 4, 2) := by decide +kernel
theorem dX12_greatestOf_16 : decode cX12_greatestOf 16 = .ok (.iload_n 1, 1) := by decide +kernel
theorem dX12_greatestOf_17 : decode cX12_greatestOf 17 = .ok (.invokestatic 78, 3) := by decide +kernel
theorem dX12_greatestOf_20 : decode cX12_greatestOf 20 = .ok (.iload_n 2, 1) := by decide +kernel
theorem dX12_greatestOf_21 : decode cX12_greatestOf 21 = .ok (.if_icmp .eq 6, 3) := by decide +kernel
theorem dX12_greatestOf_24 : decode cX12_greatestOf 24 = .ok (.goto 24, 3) := by decide +kernel
theorem dX12_greatestOf_27 : decode cX12_greatestOf 27 = .ok (.aload_n 0, 1) := by decide +kernel
theorem dX12_greatestOf_28 : decode cX12_greatestOf 28 = .ok (.iload 4, 2) := by decide +kernel
theorem dX12_greatestOf_30 : decode cX12_greatestOf 30 = .ok (.invokevirtual 278, 3) := by decide +kernel
theorem dX12_greatestOf_33 : decode cX12_greatestOf 33 = .ok (.istore 5, 2) := by decide +kernel
theorem dX12_greatestOf_35 : decode cX12_greatestOf 35 = .ok (.iload 5, 2) := by decide +kernel
theorem dX12_greatestOf_37 : decode cX12_greatestOf 37 = .ok (.iload_n 3, 1) := by decide +kernel
theorem dX12_greatestOf_38 : decode cX12_greatestOf 38 = .ok (.if_icmp .le 8, 3) := by decide +kernel
theorem dX12_greatestOf_41 : decode cX12_greatestOf 41 = .ok (.iload 5, 2) := by decide +kernel
theorem dX12_greatestOf_43 : decode cX12_greatestOf 43 = .ok (.goto 4, 3) := by decide +kernel
theorem dX12_greatestOf_46 : decode cX12_greatestOf 46 = .ok (.iload_n 3, 1) := by decide +kernel
theorem dX12_greatestOf_47 : decode cX12_greatestOf 47 = .ok (.istore_n 3, 1) := by decide +kernel
theorem dX12_greatestOf_48 : decode cX12_greatestOf 48 = .ok (.iinc 4 1, 3) := by decide +kernel
theorem dX12_greatestOf_51 : decode cX12_greatestOf 51 = .ok (.goto (-45), 3) := by decide +kernel
theorem dX12_greatestOf_54 : decode cX12_greatestOf 54 = .ok (.iload_n 3, 1) := by decide +kernel
theorem dX12_greatestOf_55 : decode cX12_greatestOf 55 = .ok (.ireturn, 1) := by decide +kernel
theorem dX12_lean_0 : decode cX12_lean 0 = .ok (.aload_n 0, 1) := by decide +kernel
theorem dX12_lean_1 : decode cX12_lean 1 = .ok (.iconst 0, 1) := by decide +kernel
theorem dX12_lean_2 : decode cX12_lean 2 = .ok (.putfield 1, 3) := by decide +kernel
theorem dX12_lean_5 : decode cX12_lean 5 = .ok (.aload_n 0, 1) := by decide +kernel
theorem dX12_lean_6 : decode cX12_lean 6 = .ok (.iload_n 1, 1) := by decide +kernel
theorem dX12_lean_7 : decode cX12_lean 7 = .ok (.invokevirtual 222, 3) := by decide +kernel
theorem dX12_lean_10 : decode cX12_lean 10 = .ok (.ifCond .ne 7, 3) := by decide +kernel
theorem dX12_lean_13 : decode cX12_lean 13 = .ok (.ldc_w 288, 3) := by decide +kernel
theorem dX12_lean_16 : decode cX12_lean 16 = .ok (.ireturn, 1) := by decide +kernel
theorem dX12_lean_17 : decode cX12_lean 17 = .ok (.iload_n 2, 1) := by decide +kernel
theorem dX12_lean_18 : decode cX12_lean 18 = .ok (.i2l, 1) := by decide +kernel
theorem dX12_lean_19 : decode cX12_lean 19 = .ok (.lconst 0, 1) := by decide +kernel
theorem dX12_lean_20 : decode cX12_lean 20 = .ok (.ldc2_w 293, 3) := by decide +kernel
theorem dX12_lean_23 : decode cX12_lean 23 = .ok (.invokestatic 94, 3) := by decide +kernel
theorem dX12_lean_26 : decode cX12_lean 26 = .ok (.ifCond .ne 7, 3) := by decide +kernel
theorem dX12_lean_29 : decode cX12_lean 29 = .ok (.ldc_w 289, 3) := by decide +kernel
theorem dX12_lean_32 : decode cX12_lean 32 = .ok (.ireturn, 1) := by decide +kernel
theorem dX12_lean_33 : decode cX12_lean 33 = .ok (.aload_n 0, 1) := by decide +kernel
theorem dX12_lean_34 : decode cX12_lean 34 = .ok (.iload_n 1, 1) := by decide +kernel
theorem dX12_lean_35 : decode cX12_lean 35 = .ok (.invokevirtual 281, 3) := by decide +kernel
theorem dX12_lean_38 : decode cX12_lean 38 = .ok (.istore_n 3, 1) := by decide +kernel
theorem dX12_lean_39 : decode cX12_lean 39 = .ok (.iload_n 3, 1) := by decide +kernel
theorem dX12_lean_40 : decode cX12_lean 40 = .ok (.ifCond .eq 11, 3) := by decide +kernel
theorem dX12_lean_43 : decode cX12_lean 43 = .ok (.ldc_w 284, 3) := by decide +kernel
theorem dX12_lean_46 : decode cX12_lean 46 = .ok (.iload_n 3, 1) := by decide +kernel
theorem dX12_lean_47 : decode cX12_lean 47 = .ok (.iadd, 1) := by decide +kernel
theorem dX12_lean_48 : decode cX12_lean 48 = .ok (.goto 16, 3) := by decide +kernel
theorem dX12_lean_51 : decode cX12_lean 51 = .ok (.aload_n 0, 1) := by decide +kernel
theorem dX12_lean_52 : decode cX12_lean 52 = .ok (.iload_n 2, 1) := by decide +kernel
theorem dX12_lean_53 : decode cX12_lean 53 = .ok (.iconst 1, 1) := by decide +kernel
theorem dX12_lean_54 : decode cX12_lean 54 = .ok (.invokevirtual 295, 3) := by decide +kernel
theorem dX12_lean_57 : decode cX12_lean 57 = .ok (.aload_n 0, 1) := by decide +kernel
theorem dX12_lean_58 : decode cX12_lean 58 = .ok (.iload_n 2, 1) := by decide +kernel
theorem dX12_lean_59 : decode cX12_lean 59 = .ok (.iconst 0, 1) := by decide +kernel
theorem dX12_lean_60 : decode cX12_lean 60 = .ok (.invokevirtual 295, 3) := by decide +kernel
theorem dX12_lean_63 : decode cX12_lean 63 = .ok (.isub, 1) := by decide +kernel
theorem dX12_lean_64 : decode cX12_lean 64 = .ok (.ireturn, 1) := by decide +kernel
theorem dX12_ties_0 : decode cX12_ties 0 = .ok (.aload_n 0, 1) := by decide +kernel
theorem dX12_ties_1 : decode cX12_ties 1 = .ok (.iconst 0, 1) := by decide +kernel
theorem dX12_ties_2 : decode cX12_ties 2 = .ok (.putfield 1, 3) := by decide +kernel
theorem dX12_ties_5 : decode cX12_ties 5 = .ok (.aload_n 0, 1) := by decide +kernel
theorem dX12_ties_6 : decode cX12_ties 6 = .ok (.iload_n 1, 1) := by decide +kernel
theorem dX12_ties_7 : decode cX12_ties 7 = .ok (.invokevirtual 222, 3) := by decide +kernel
theorem dX12_ties_10 : decode cX12_ties 10 = .ok (.ifCond .eq 13, 3) := by decide +kernel
theorem dX12_ties_13 : decode cX12_ties 13 = .ok (.iload_n 2, 1) := by decide +kernel
theorem dX12_ties_14 : decode cX12_ties 14 = .ok (.i2l, 1) := by decide +kernel
theorem dX12_ties_15 : decode cX12_ties 15 = .ok (.lconst 0, 1) := by decide +kernel
theorem dX12_ties_16 : decode cX12_ties 16 = .ok (.lconst 1, 1) := by decide +kernel
theorem dX12_ties_17 : decode cX12_ties 17 = .ok (.invokestatic 94, 3) := by decide +kernel
theorem dX12_ties_20 : decode cX12_ties 20 = .ok (.ifCond .ne 6, 3) := by decide +kernel
theorem dX12_ties_23 : decode cX12_ties 23 = .ok (.bipush (-2), 2) := by decide +kernel
theorem dX12_ties_25 : decode cX12_ties 25 = .ok (.ireturn, 1) := by decide +kernel
theorem dX12_ties_26 : decode cX12_ties 26 = .ok (.aload_n 0, 1) := by decide +kernel
theorem dX12_ties_27 : decode cX12_ties 27 = .ok (.iload_n 1, 1) := by decide +kernel
theorem dX12_ties_28 : decode cX12_ties 28 = .ok (.invokevirtual 281, 3) := by decide +kernel
theorem dX12_ties_31 : decode cX12_ties 31 = .ok (.istore_n 3, 1) := by decide +kernel
theorem dX12_ties_32 : decode cX12_ties 32 = .ok (.iload_n 3, 1) := by decide +kernel
theorem dX12_ties_33 : decode cX12_ties 33 = .ok (.ifCond .eq 5, 3) := by decide +kernel
theorem dX12_ties_36 : decode cX12_ties 36 = .ok (.iload_n 3, 1) := by decide +kernel
theorem dX12_ties_37 : decode cX12_ties 37 = .ok (.ireturn, 1) := by decide +kernel
theorem dX12_ties_38 : decode cX12_ties 38 = .ok (.aload_n 0, 1) := by decide +kernel
theorem dX12_ties_39 : decode cX12_ties 39 = .ok (.aload_n 0, 1) := by decide +kernel
theorem dX12_ties_40 : decode cX12_ties 40 = .ok (.invokevirtual 162, 3) := by decide +kernel
theorem dX12_ties_43 : decode cX12_ties 43 = .ok (.invokevirtual 278, 3) := by decide +kernel
theorem dX12_ties_46 : decode cX12_ties 46 = .ok (.istore 4, 2) := by decide +kernel
theorem dX12_ties_48 : decode cX12_ties 48 = .ok (.iconst 0, 1) := by decide +kernel
theorem dX12_ties_49 : decode cX12_ties 49 = .ok (.istore 5, 2) := by decide +kernel
theorem dX12_ties_51 : decode cX12_ties 51 = .ok (.iconst 0, 1) := by decide +kernel
theorem dX12_ties_52 : decode cX12_ties 52 = .ok (.istore 6, 2) := by decide +kernel
theorem dX12_ties_54 : decode cX12_ties 54 = .ok (.iload 6, 2) := by decide +kernel
theorem dX12_ties_56 : decode cX12_ties 56 = .ok (.sipush 2048, 3) := by decide +kernel
theorem dX12_ties_59 : decode cX12_ties 59 = .ok (.if_icmp .ge 42, 3) := by decide +kernel
theorem dX12_ties_62 : decode cX12_ties 62 = .ok (.iload 5, 2) := by decide +kernel
theorem dX12_ties_64 : decode cX12_ties 64 = .ok (.aload_n 0, 1) := by decide +kernel
theorem dX12_ties_65 : decode cX12_ties 65 = .ok (.iload 6, 2) := by decide +kernel
theorem dX12_ties_67 : decode cX12_ties 67 = .ok (.invokevirtual 278, 3) := by decide +kernel
theorem dX12_ties_70 : decode cX12_ties 70 = .ok (.iload 4, 2) := by decide +kernel
theorem dX12_ties_72 : decode cX12_ties 72 = .ok (.if_icmp .ne 19, 3) := by decide +kernel
theorem dX12_ties_75 : decode cX12_ties 75 = .ok (.iload_n 2, 1) := by decide +kernel
theorem dX12_ties_76 : decode cX12_ties 76 = .ok (.ifCond .eq 11, 3) := by decide +kernel
theorem dX12_ties_79 : decode cX12_ties 79 = .ok (.iload 6, 2) := by decide +kernel
theorem dX12_ties_81 : decode cX12_ties 81 = .ok (.invokestatic 116, 3) := by decide +kernel
theorem dX12_ties_84 : decode cX12_ties 84 = .ok (.ifCond .eq 7, 3) := by decide +kernel
theorem dX12_ties_87 : decode cX12_ties 87 = .ok (.iconst 1, 1) := by decide +kernel
theorem dX12_ties_88 : decode cX12_ties 88 = .ok (.goto 4, 3) := by decide +kernel
theorem dX12_ties_91 : decode cX12_ties 91 = .ok (.iconst 0, 1) := by decide +kernel
theorem dX12_ties_92 : decode cX12_ties 92 = .ok (.iadd, 1) := by decide +kernel
theorem dX12_ties_93 : decode cX12_ties 93 = .ok (.istore 5, 2) := by decide +kernel
theorem dX12_ties_95 : decode cX12_ties 95 = .ok (.iinc 6 1, 3) := by decide +kernel
theorem dX12_ties_98 : decode cX12_ties 98 = .ok (.goto (-44), 3) := by decide +kernel
theorem dX12_ties_101 : decode cX12_ties 101 = .ok (.iload 5, 2) := by decide +kernel
theorem dX12_ties_103 : decode cX12_ties 103 = .ok (.ireturn, 1) := by decide +kernel
theorem dX12_rank_0 : decode cX12_rank 0 = .ok (.aload_n 0, 1) := by decide +kernel
theorem dX12_rank_1 : decode cX12_rank 1 = .ok (.iconst 0, 1) := by decide +kernel
theorem dX12_rank_2 : decode cX12_rank 2 = .ok (.putfield 1, 3) := by decide +kernel
theorem dX12_rank_5 : decode cX12_rank 5 = .ok (.aload_n 0, 1) := by decide +kernel
theorem dX12_rank_6 : decode cX12_rank 6 = .ok (.iload_n 1, 1) := by decide +kernel
theorem dX12_rank_7 : decode cX12_rank 7 = .ok (.invokevirtual 222, 3) := by decide +kernel
theorem dX12_rank_10 : decode cX12_rank 10 = .ok (.ifCond .ne 6, 3) := by decide +kernel
theorem dX12_rank_13 : decode cX12_rank 13 = .ok (.bipush (-2), 2) := by decide +kernel
theorem dX12_rank_15 : decode cX12_rank 15 = .ok (.ireturn, 1) := by decide +kernel
theorem dX12_rank_16 : decode cX12_rank 16 = .ok (.iload_n 2, 1) := by decide +kernel
theorem dX12_rank_17 : decode cX12_rank 17 = .ok (.invokestatic 127, 3) := by decide +kernel
theorem dX12_rank_20 : decode cX12_rank 20 = .ok (.ifCond .ne 6, 3) := by decide +kernel
theorem dX12_rank_23 : decode cX12_rank 23 = .ok (.bipush (-3), 2) := by decide +kernel
theorem dX12_rank_25 : decode cX12_rank 25 = .ok (.ireturn, 1) := by decide +kernel
theorem dX12_rank_26 : decode cX12_rank 26 = .ok (.aload_n 0, 1) := by decide +kernel
theorem dX12_rank_27 : decode cX12_rank 27 = .ok (.iload_n 1, 1) := by decide +kernel
theorem dX12_rank_28 : decode cX12_rank 28 = .ok (.invokevirtual 281, 3) := by decide +kernel
theorem dX12_rank_31 : decode cX12_rank 31 = .ok (.istore_n 3, 1) := by decide +kernel
theorem dX12_rank_32 : decode cX12_rank 32 = .ok (.iload_n 3, 1) := by decide +kernel
theorem dX12_rank_33 : decode cX12_rank 33 = .ok (.ifCond .eq 5, 3) := by decide +kernel
theorem dX12_rank_36 : decode cX12_rank 36 = .ok (.iload_n 3, 1) := by decide +kernel
theorem dX12_rank_37 : decode cX12_rank 37 = .ok (.ireturn, 1) := by decide +kernel
theorem dX12_rank_38 : decode cX12_rank 38 = .ok (.aload_n 0, 1) := by decide +kernel
theorem dX12_rank_39 : decode cX12_rank 39 = .ok (.iload_n 2, 1) := by decide +kernel
theorem dX12_rank_40 : decode cX12_rank 40 = .ok (.invokevirtual 278, 3) := by decide +kernel
theorem dX12_rank_43 : decode cX12_rank 43 = .ok (.istore 4, 2) := by decide +kernel
theorem dX12_rank_45 : decode cX12_rank 45 = .ok (.iconst 0, 1) := by decide +kernel
theorem dX12_rank_46 : decode cX12_rank 46 = .ok (.istore 5, 2) := by decide +kernel
theorem dX12_rank_48 : decode cX12_rank 48 = .ok (.iconst 0, 1) := by decide +kernel
theorem dX12_rank_49 : decode cX12_rank 49 = .ok (.istore 6, 2) := by decide +kernel
theorem dX12_rank_51 : decode cX12_rank 51 = .ok (.iload 6, 2) := by decide +kernel
theorem dX12_rank_53 : decode cX12_rank 53 = .ok (.sipush 2048, 3) := by decide +kernel
theorem dX12_rank_56 : decode cX12_rank 56 = .ok (.if_icmp .ge 30, 3) := by decide +kernel
theorem dX12_rank_59 : decode cX12_rank 59 = .ok (.iload 5, 2) := by decide +kernel
theorem dX12_rank_61 : decode cX12_rank 61 = .ok (.aload_n 0, 1) := by decide +kernel
theorem dX12_rank_62 : decode cX12_rank 62 = .ok (.iload 6, 2) := by decide +kernel
theorem dX12_rank_64 : decode cX12_rank 64 = .ok (.invokevirtual 278, 3) := by decide +kernel
theorem dX12_rank_67 : decode cX12_rank 67 = .ok (.iload 4, 2) := by decide +kernel
theorem dX12_rank_69 : decode cX12_rank 69 = .ok (.if_icmp .le 7, 3) := by decide +kernel
theorem dX12_rank_72 : decode cX12_rank 72 = .ok (.iconst 1, 1) := by decide +kernel
theorem dX12_rank_73 : decode cX12_rank 73 = .ok (.goto 4, 3) := by decide +kernel
theorem dX12_rank_76 : decode cX12_rank 76 = .ok (.iconst 0, 1) := by decide +kernel
theorem dX12_rank_77 : decode cX12_rank 77 = .ok (.iadd, 1) := by decide +kernel
theorem dX12_rank_78 : decode cX12_rank 78 = .ok (.istore 5, 2) := by decide +kernel
theorem dX12_rank_80 : decode cX12_rank 80 = .ok (.iinc 6 1, 3) := by decide +kernel
theorem dX12_rank_83 : decode cX12_rank 83 = .ok (.goto (-32), 3) := by decide +kernel
theorem dX12_rank_86 : decode cX12_rank 86 = .ok (.iload 5, 2) := by decide +kernel
theorem dX12_rank_88 : decode cX12_rank 88 = .ok (.ireturn, 1) := by decide +kernel
theorem dX12_againstNow_0 : decode cX12_againstNow 0 = .ok (.iconst 0, 1) := by decide +kernel
theorem dX12_againstNow_1 : decode cX12_againstNow 1 = .ok (.istore_n 2, 1) := by decide +kernel
theorem dX12_againstNow_2 : decode cX12_againstNow 2 = .ok (.iconst 0, 1) := by decide +kernel
theorem dX12_againstNow_3 : decode cX12_againstNow 3 = .ok (.istore_n 3, 1) := by decide +kernel
theorem dX12_againstNow_4 : decode cX12_againstNow 4 = .ok (.iload_n 3, 1) := by decide +kernel
theorem dX12_againstNow_5 : decode cX12_againstNow 5 = .ok (.bipush 39, 2) := by decide +kernel
theorem dX12_againstNow_7 : decode cX12_againstNow 7 = .ok (.if_icmp .ge 34, 3) := by decide +kernel
theorem dX12_againstNow_10 : decode cX12_againstNow 10 = .ok (.iload_n 2, 1) := by decide +kernel
theorem dX12_againstNow_11 : decode cX12_againstNow 11 = .ok (.iload_n 1, 1) := by decide +kernel
theorem dX12_againstNow_12 : decode cX12_againstNow 12 = .ok (.iload_n 3, 1) := by decide +kernel
theorem dX12_againstNow_13 : decode cX12_againstNow 13 = .ok (.invokestatic 82, 3) := by decide +kernel
theorem dX12_againstNow_16 : decode cX12_againstNow 16 = .ok (.aload_n 0, 1) := by decide +kernel
theorem dX12_againstNow_17 : decode cX12_againstNow 17 = .ok (.getfield 37, 3) := by decide +kernel
theorem dX12_againstNow_20 : decode cX12_againstNow 20 = .ok (.iload_n 3, 1) := by decide +kernel
theorem dX12_againstNow_21 : decode cX12_againstNow 21 = .ok (.iaload, 1) := by decide +kernel
theorem dX12_againstNow_22 : decode cX12_againstNow 22 = .ok (.invokestatic 154, 3) := by decide +kernel
theorem dX12_againstNow_25 : decode cX12_againstNow 25 = .ok (.ifCond .ge 7, 3) := by decide +kernel
theorem dX12_againstNow_28 : decode cX12_againstNow 28 = .ok (.iconst 1, 1) := by decide +kernel
theorem dX12_againstNow_29 : decode cX12_againstNow 29 = .ok (.goto 4, 3) := by decide +kernel
theorem dX12_againstNow_32 : decode cX12_againstNow 32 = .ok (.iconst 0, 1) := by decide +kernel
theorem dX12_againstNow_33 : decode cX12_againstNow 33 = .ok (.iadd, 1) := by decide +kernel
theorem dX12_againstNow_34 : decode cX12_againstNow 34 = .ok (.istore_n 2, 1) := by decide +kernel
theorem dX12_againstNow_35 : decode cX12_againstNow 35 = .ok (.iinc 3 1, 3) := by decide +kernel
theorem dX12_againstNow_38 : decode cX12_againstNow 38 = .ok (.goto (-34), 3) := by decide +kernel
theorem dX12_againstNow_41 : decode cX12_againstNow 41 = .ok (.iload_n 2, 1) := by decide +kernel
theorem dX12_againstNow_42 : decode cX12_againstNow 42 = .ok (.ireturn, 1) := by decide +kernel
theorem dX12_wrong_0 : decode cX12_wrong 0 = .ok (.aload_n 0, 1) := by decide +kernel
theorem dX12_wrong_1 : decode cX12_wrong 1 = .ok (.iconst 0, 1) := by decide +kernel
theorem dX12_wrong_2 : decode cX12_wrong 2 = .ok (.putfield 1, 3) := by decide +kernel
theorem dX12_wrong_5 : decode cX12_wrong 5 = .ok (.aload_n 0, 1) := by decide +kernel
theorem dX12_wrong_6 : decode cX12_wrong 6 = .ok (.iload_n 1, 1) := by decide +kernel
theorem dX12_wrong_7 : decode cX12_wrong 7 = .ok (.invokevirtual 281, 3) := by decide +kernel
theorem dX12_wrong_10 : decode cX12_wrong 10 = .ok (.istore_n 2, 1) := by decide +kernel
theorem dX12_wrong_11 : decode cX12_wrong 11 = .ok (.iload_n 2, 1) := by decide +kernel
theorem dX12_wrong_12 : decode cX12_wrong 12 = .ok (.ifCond .eq 7, 3) := by decide +kernel
theorem dX12_wrong_15 : decode cX12_wrong 15 = .ok (.iload_n 2, 1) := by decide +kernel
theorem dX12_wrong_16 : decode cX12_wrong 16 = .ok (.goto 11, 3) := by decide +kernel
theorem dX12_wrong_19 : decode cX12_wrong 19 = .ok (.aload_n 0, 1) := by decide +kernel
theorem dX12_wrong_20 : decode cX12_wrong 20 = .ok (.aload_n 0, 1) := by decide +kernel
theorem dX12_wrong_21 : decode cX12_wrong 21 = .ok (.invokevirtual 162, 3) := by decide +kernel
theorem dX12_wrong_24 : decode cX12_wrong 24 = .ok (.invokevirtual 298, 3) := by decide +kernel
theorem dX12_wrong_27 : decode cX12_wrong 27 = .ok (.ireturn, 1) := by decide +kernel
theorem dX12_against_0 : decode cX12_against 0 = .ok (.aload_n 0, 1) := by decide +kernel
theorem dX12_against_1 : decode cX12_against 1 = .ok (.iconst 0, 1) := by decide +kernel
theorem dX12_against_2 : decode cX12_against 2 = .ok (.putfield 1, 3) := by decide +kernel
theorem dX12_against_5 : decode cX12_against 5 = .ok (.aload_n 0, 1) := by decide +kernel
theorem dX12_against_6 : decode cX12_against 6 = .ok (.iload_n 1, 1) := by decide +kernel
theorem dX12_against_7 : decode cX12_against 7 = .ok (.invokevirtual 222, 3) := by decide +kernel
theorem dX12_against_10 : decode cX12_against 10 = .ok (.ifCond .ne 6, 3) := by decide +kernel
theorem dX12_against_13 : decode cX12_against 13 = .ok (.bipush (-2), 2) := by decide +kernel
theorem dX12_against_15 : decode cX12_against 15 = .ok (.ireturn, 1) := by decide +kernel
theorem dX12_against_16 : decode cX12_against 16 = .ok (.iload_n 2, 1) := by decide +kernel
theorem dX12_against_17 : decode cX12_against 17 = .ok (.invokestatic 127, 3) := by decide +kernel
theorem dX12_against_20 : decode cX12_against 20 = .ok (.ifCond .ne 6, 3) := by decide +kernel
theorem dX12_against_23 : decode cX12_against 23 = .ok (.bipush (-3), 2) := by decide +kernel
theorem dX12_against_25 : decode cX12_against 25 = .ok (.ireturn, 1) := by decide +kernel
theorem dX12_against_26 : decode cX12_against 26 = .ok (.aload_n 0, 1) := by decide +kernel
theorem dX12_against_27 : decode cX12_against 27 = .ok (.iload_n 1, 1) := by decide +kernel
theorem dX12_against_28 : decode cX12_against 28 = .ok (.invokevirtual 281, 3) := by decide +kernel
theorem dX12_against_31 : decode cX12_against 31 = .ok (.istore_n 3, 1) := by decide +kernel
theorem dX12_against_32 : decode cX12_against 32 = .ok (.iload_n 3, 1) := by decide +kernel
theorem dX12_against_33 : decode cX12_against 33 = .ok (.ifCond .eq 7, 3) := by decide +kernel
theorem dX12_against_36 : decode cX12_against 36 = .ok (.iload_n 3, 1) := by decide +kernel
theorem dX12_against_37 : decode cX12_against 37 = .ok (.goto 8, 3) := by decide +kernel
theorem dX12_against_40 : decode cX12_against 40 = .ok (.aload_n 0, 1) := by decide +kernel
theorem dX12_against_41 : decode cX12_against 41 = .ok (.iload_n 2, 1) := by decide +kernel
theorem dX12_against_42 : decode cX12_against 42 = .ok (.invokevirtual 298, 3) := by decide +kernel
theorem dX12_against_45 : decode cX12_against 45 = .ok (.ireturn, 1) := by decide +kernel
theorem dX12_listed_0 : decode cX12_listed 0 = .ok (.aload_n 0, 1) := by decide +kernel
theorem dX12_listed_1 : decode cX12_listed 1 = .ok (.iconst 0, 1) := by decide +kernel
theorem dX12_listed_2 : decode cX12_listed 2 = .ok (.putfield 1, 3) := by decide +kernel
theorem dX12_listed_5 : decode cX12_listed 5 = .ok (.aload_n 0, 1) := by decide +kernel
theorem dX12_listed_6 : decode cX12_listed 6 = .ok (.iload_n 1, 1) := by decide +kernel
theorem dX12_listed_7 : decode cX12_listed 7 = .ok (.invokevirtual 222, 3) := by decide +kernel
theorem dX12_listed_10 : decode cX12_listed 10 = .ok (.ifCond .ne 6, 3) := by decide +kernel
theorem dX12_listed_13 : decode cX12_listed 13 = .ok (.bipush (-2), 2) := by decide +kernel
theorem dX12_listed_15 : decode cX12_listed 15 = .ok (.ireturn, 1) := by decide +kernel
theorem dX12_listed_16 : decode cX12_listed 16 = .ok (.iload_n 2, 1) := by decide +kernel
theorem dX12_listed_17 : decode cX12_listed 17 = .ok (.i2l, 1) := by decide +kernel
theorem dX12_listed_18 : decode cX12_listed 18 = .ok (.lconst 0, 1) := by decide +kernel
theorem dX12_listed_19 : decode cX12_listed 19 = .ok (.ldc2_w 301, 3) := by decide +kernel
theorem dX12_listed_22 : decode cX12_listed 22 = .ok (.invokestatic 94, 3) := by decide +kernel
theorem dX12_listed_25 : decode cX12_listed 25 = .ok (.ifCond .ne 6, 3) := by decide +kernel
theorem dX12_listed_28 : decode cX12_listed 28 = .ok (.bipush (-3), 2) := by decide +kernel
theorem dX12_listed_30 : decode cX12_listed 30 = .ok (.ireturn, 1) := by decide +kernel
theorem dX12_listed_31 : decode cX12_listed 31 = .ok (.aload_n 0, 1) := by decide +kernel
theorem dX12_listed_32 : decode cX12_listed 32 = .ok (.iload_n 1, 1) := by decide +kernel
theorem dX12_listed_33 : decode cX12_listed 33 = .ok (.invokevirtual 281, 3) := by decide +kernel
theorem dX12_listed_36 : decode cX12_listed 36 = .ok (.istore_n 3, 1) := by decide +kernel
theorem dX12_listed_37 : decode cX12_listed 37 = .ok (.iload_n 3, 1) := by decide +kernel
theorem dX12_listed_38 : decode cX12_listed 38 = .ok (.ifCond .eq 5, 3) := by decide +kernel
theorem dX12_listed_41 : decode cX12_listed 41 = .ok (.iload_n 3, 1) := by decide +kernel
theorem dX12_listed_42 : decode cX12_listed 42 = .ok (.ireturn, 1) := by decide +kernel
theorem dX12_listed_43 : decode cX12_listed 43 = .ok (.iconst 0, 1) := by decide +kernel
theorem dX12_listed_44 : decode cX12_listed 44 = .ok (.istore 4, 2) := by decide +kernel
theorem dX12_listed_46 : decode cX12_listed 46 = .ok (.iload 4, 2) := by decide +kernel
theorem dX12_listed_48 : decode cX12_listed 48 = .ok (.sipush 256, 3) := by decide +kernel
theorem dX12_listed_51 : decode cX12_listed 51 = .ok (.if_icmp .ge 47, 3) := by decide +kernel
theorem dX12_listed_54 : decode cX12_listed 54 = .ok (.aload_n 0, 1) := by decide +kernel
theorem dX12_listed_55 : decode cX12_listed 55 = .ok (.getfield 55, 3) := by decide +kernel
theorem dX12_listed_58 : decode cX12_listed 58 = .ok (.iload 4, 2) := by decide +kernel
theorem dX12_listed_60 : decode cX12_listed 60 = .ok (.iload 4, 2) := by decide +kernel
theorem dX12_listed_62 : decode cX12_listed 62 = .ok (.bipush 32, 2) := by decide +kernel
theorem dX12_listed_64 : decode cX12_listed 64 = .ok (.idiv, 1) := by decide +kernel
theorem dX12_listed_65 : decode cX12_listed 65 = .ok (.iload 4, 2) := by decide +kernel
theorem dX12_listed_67 : decode cX12_listed 67 = .ok (.bipush 32, 2) := by decide +kernel
theorem dX12_listed_69 : decode cX12_listed 69 = .ok (.irem, 1) := by decide +kernel
theorem dX12_listed_70 : decode cX12_listed 70 = .ok (.invokestatic 112, 3) := by decide +kernel
theorem dX12_listed_73 : decode cX12_listed 73 = .ok (.iastore, 1) := by decide +kernel
theorem dX12_listed_74 : decode cX12_listed 74 = .ok (.aload_n 0, 1) := by decide +kernel
theorem dX12_listed_75 : decode cX12_listed 75 = .ok (.getfield 58, 3) := by decide +kernel
theorem dX12_listed_78 : decode cX12_listed 78 = .ok (.iload 4, 2) := by decide +kernel
theorem dX12_listed_80 : decode cX12_listed 80 = .ok (.aload_n 0, 1) := by decide +kernel
theorem dX12_listed_81 : decode cX12_listed 81 = .ok (.aload_n 0, 1) := by decide +kernel
theorem dX12_listed_82 : decode cX12_listed 82 = .ok (.getfield 55, 3) := by decide +kernel
theorem dX12_listed_85 : decode cX12_listed 85 = .ok (.iload 4, 2) := by decide +kernel
theorem dX12_listed_87 : decode cX12_listed 87 = .ok (.iaload, 1) := by decide +kernel
theorem dX12_listed_88 : decode cX12_listed 88 = .ok (.invokevirtual 278, 3) := by decide +kernel
theorem dX12_listed_91 : decode cX12_listed 91 = .ok (.iastore, 1) := by decide +kernel
theorem dX12_listed_92 : decode cX12_listed 92 = .ok (.iinc 4 1, 3) := by decide +kernel
theorem dX12_listed_95 : decode cX12_listed 95 = .ok (.goto (-49), 3) := by decide +kernel
theorem dX12_listed_98 : decode cX12_listed 98 = .ok (.iconst 0, 1) := by decide +kernel
theorem dX12_listed_99 : decode cX12_listed 99 = .ok (.istore 4, 2) := by decide +kernel
theorem dX12_listed_101 : decode cX12_listed 101 = .ok (.iload 4, 2) := by decide +kernel
theorem dX12_listed_103 : decode cX12_listed 103 = .ok (.sipush 256, 3) := by decide +kernel
theorem dX12_listed_106 : decode cX12_listed 106 = .ok (.if_icmp .ge 94, 3) := by decide +kernel
theorem dX12_listed_109 : decode cX12_listed 109 = .ok (.iconst 0, 1) := by decide +kernel
theorem dX12_listed_110 : decode cX12_listed 110 = .ok (.istore 5, 2) := by decide +kernel
theorem dX12_listed_112 : decode cX12_listed 112 = .ok (.iconst 0, 1) := by decide +kernel
theorem dX12_listed_113 : decode cX12_listed 113 = .ok (.istore 6, 2) := by decide +kernel
theorem dX12_listed_115 : decode cX12_listed 115 = .ok (.iload 6, 2) := by decide +kernel
theorem dX12_listed_117 : decode cX12_listed 117 = .ok (.sipush 256, 3) := by decide +kernel
theorem dX12_listed_120 : decode cX12_listed 120 = .ok (.if_icmp .ge 60, 3) := by decide +kernel
theorem dX12_listed_123 : decode cX12_listed 123 = .ok (.iload 5, 2) := by decide +kernel
theorem dX12_listed_125 : decode cX12_listed 125 = .ok (.aload_n 0, 1) := by decide +kernel
theorem dX12_listed_126 : decode cX12_listed 126 = .ok (.getfield 58, 3) := by decide +kernel
theorem dX12_listed_129 : decode cX12_listed 129 = .ok (.iload 6, 2) := by decide +kernel
theorem dX12_listed_131 : decode cX12_listed 131 = .ok (.iaload, 1) := by decide +kernel
theorem dX12_listed_132 : decode cX12_listed 132 = .ok (.aload_n 0, 1) := by decide +kernel
theorem dX12_listed_133 : decode cX12_listed 133 = .ok (.getfield 58, 3) := by decide +kernel
theorem dX12_listed_136 : decode cX12_listed 136 = .ok (.iload 4, 2) := by decide +kernel
theorem dX12_listed_138 : decode cX12_listed 138 = .ok (.iaload, 1) := by decide +kernel
theorem dX12_listed_139 : decode cX12_listed 139 = .ok (.if_icmp .gt 27, 3) := by decide +kernel
theorem dX12_listed_142 : decode cX12_listed 142 = .ok (.aload_n 0, 1) := by decide +kernel
theorem dX12_listed_143 : decode cX12_listed 143 = .ok (.getfield 58, 3) := by decide +kernel
theorem dX12_listed_146 : decode cX12_listed 146 = .ok (.iload 6, 2) := by decide +kernel
theorem dX12_listed_148 : decode cX12_listed 148 = .ok (.iaload, 1) := by decide +kernel
theorem dX12_listed_149 : decode cX12_listed 149 = .ok (.aload_n 0, 1) := by decide +kernel
theorem dX12_listed_150 : decode cX12_listed 150 = .ok (.getfield 58, 3) := by decide +kernel
theorem dX12_listed_153 : decode cX12_listed 153 = .ok (.iload 4, 2) := by decide +kernel
theorem dX12_listed_155 : decode cX12_listed 155 = .ok (.iaload, 1) := by decide +kernel
theorem dX12_listed_156 : decode cX12_listed 156 = .ok (.if_icmp .ne 14, 3) := by decide +kernel
theorem dX12_listed_159 : decode cX12_listed 159 = .ok (.iload 6, 2) := by decide +kernel
theorem dX12_listed_161 : decode cX12_listed 161 = .ok (.iload 4, 2) := by decide +kernel
theorem dX12_listed_163 : decode cX12_listed 163 = .ok (.if_icmp .ge 7, 3) := by decide +kernel
theorem dX12_listed_166 : decode cX12_listed 166 = .ok (.iconst 1, 1) := by decide +kernel
theorem dX12_listed_167 : decode cX12_listed 167 = .ok (.goto 4, 3) := by decide +kernel
theorem dX12_listed_170 : decode cX12_listed 170 = .ok (.iconst 0, 1) := by decide +kernel
theorem dX12_listed_171 : decode cX12_listed 171 = .ok (.iadd, 1) := by decide +kernel
theorem dX12_listed_172 : decode cX12_listed 172 = .ok (.istore 5, 2) := by decide +kernel
theorem dX12_listed_174 : decode cX12_listed 174 = .ok (.iinc 6 1, 3) := by decide +kernel
theorem dX12_listed_177 : decode cX12_listed 177 = .ok (.goto (-62), 3) := by decide +kernel
theorem dX12_listed_180 : decode cX12_listed 180 = .ok (.iload 5, 2) := by decide +kernel
theorem dX12_listed_182 : decode cX12_listed 182 = .ok (.iload_n 2, 1) := by decide +kernel
theorem dX12_listed_183 : decode cX12_listed 183 = .ok (.if_icmp .ne 11, 3) := by decide +kernel
theorem dX12_listed_186 : decode cX12_listed 186 = .ok (.aload_n 0, 1) := by decide +kernel
theorem dX12_listed_187 : decode cX12_listed 187 = .ok (.getfield 55, 3) := by decide +kernel
theorem dX12_listed_190 : decode cX12_listed 190 = .ok (.iload 4, 2) := by decide +kernel
theorem dX12_listed_192 : decode cX12_listed 192 = .ok (.iaload, 1) := by decide +kernel
theorem dX12_listed_193 : decode cX12_listed 193 = .ok (.ireturn, 1) := by decide +kernel
theorem dX12_listed_194 : decode cX12_listed 194 = .ok (.iinc 4 1, 3) := by decide +kernel
theorem dX12_listed_197 : decode cX12_listed 197 = .ok (.goto (-96), 3) := by decide +kernel
theorem dX12_listed_200 : decode cX12_listed 200 = .ok (.iconst (-1), 1) := by decide +kernel
theorem dX12_listed_201 : decode cX12_listed 201 = .ok (.ireturn, 1) := by decide +kernel
theorem dX12_known_0 : decode cX12_known 0 = .ok (.aload_n 0, 1) := by decide +kernel
theorem dX12_known_1 : decode cX12_known 1 = .ok (.iconst 0, 1) := by decide +kernel
theorem dX12_known_2 : decode cX12_known 2 = .ok (.putfield 1, 3) := by decide +kernel
theorem dX12_known_5 : decode cX12_known 5 = .ok (.aload_n 0, 1) := by decide +kernel
theorem dX12_known_6 : decode cX12_known 6 = .ok (.iload_n 1, 1) := by decide +kernel
theorem dX12_known_7 : decode cX12_known 7 = .ok (.invokevirtual 222, 3) := by decide +kernel
theorem dX12_known_10 : decode cX12_known 10 = .ok (.ifCond .eq 13, 3) := by decide +kernel
theorem dX12_known_13 : decode cX12_known 13 = .ok (.iload_n 2, 1) := by decide +kernel
theorem dX12_known_14 : decode cX12_known 14 = .ok (.i2l, 1) := by decide +kernel
theorem dX12_known_15 : decode cX12_known 15 = .ok (.lconst 0, 1) := by decide +kernel
theorem dX12_known_16 : decode cX12_known 16 = .ok (.lconst 1, 1) := by decide +kernel
theorem dX12_known_17 : decode cX12_known 17 = .ok (.invokestatic 94, 3) := by decide +kernel
theorem dX12_known_20 : decode cX12_known 20 = .ok (.ifCond .ne 6, 3) := by decide +kernel
theorem dX12_known_23 : decode cX12_known 23 = .ok (.bipush (-2), 2) := by decide +kernel
theorem dX12_known_25 : decode cX12_known 25 = .ok (.ireturn, 1) := by decide +kernel
theorem dX12_known_26 : decode cX12_known 26 = .ok (.aload_n 0, 1) := by decide +kernel
theorem dX12_known_27 : decode cX12_known 27 = .ok (.iload_n 1, 1) := by decide +kernel
theorem dX12_known_28 : decode cX12_known 28 = .ok (.invokevirtual 281, 3) := by decide +kernel
theorem dX12_known_31 : decode cX12_known 31 = .ok (.istore_n 3, 1) := by decide +kernel
theorem dX12_known_32 : decode cX12_known 32 = .ok (.iload_n 3, 1) := by decide +kernel
theorem dX12_known_33 : decode cX12_known 33 = .ok (.ifCond .eq 5, 3) := by decide +kernel
theorem dX12_known_36 : decode cX12_known 36 = .ok (.iload_n 3, 1) := by decide +kernel
theorem dX12_known_37 : decode cX12_known 37 = .ok (.ireturn, 1) := by decide +kernel
theorem dX12_known_38 : decode cX12_known 38 = .ok (.iconst 0, 1) := by decide +kernel
theorem dX12_known_39 : decode cX12_known 39 = .ok (.istore 4, 2) := by decide +kernel
theorem dX12_known_41 : decode cX12_known 41 = .ok (.iconst 0, 1) := by decide +kernel
theorem dX12_known_42 : decode cX12_known 42 = .ok (.istore 5, 2) := by decide +kernel
theorem dX12_known_44 : decode cX12_known 44 = .ok (.iload 5, 2) := by decide +kernel
theorem dX12_known_46 : decode cX12_known 46 = .ok (.bipush 39, 2) := by decide +kernel
theorem dX12_known_48 : decode cX12_known 48 = .ok (.if_icmp .ge 43, 3) := by decide +kernel
theorem dX12_known_51 : decode cX12_known 51 = .ok (.aload_n 0, 1) := by decide +kernel
theorem dX12_known_52 : decode cX12_known 52 = .ok (.getfield 34, 3) := by decide +kernel
theorem dX12_known_55 : decode cX12_known 55 = .ok (.iload 5, 2) := by decide +kernel
theorem dX12_known_57 : decode cX12_known 57 = .ok (.aload_n 0, 1) := by decide +kernel
theorem dX12_known_58 : decode cX12_known 58 = .ok (.getfield 37, 3) := by decide +kernel
theorem dX12_known_61 : decode cX12_known 61 = .ok (.iload 5, 2) := by decide +kernel
theorem dX12_known_63 : decode cX12_known 63 = .ok (.iaload, 1) := by decide +kernel
theorem dX12_known_64 : decode cX12_known 64 = .ok (.ifCond .ne 7, 3) := by decide +kernel
theorem dX12_known_67 : decode cX12_known 67 = .ok (.iconst 0, 1) := by decide +kernel
theorem dX12_known_68 : decode cX12_known 68 = .ok (.goto 4, 3) := by decide +kernel
theorem dX12_known_71 : decode cX12_known 71 = .ok (.iconst 1, 1) := by decide +kernel
theorem dX12_known_72 : decode cX12_known 72 = .ok (.iastore, 1) := by decide +kernel
theorem dX12_known_73 : decode cX12_known 73 = .ok (.iload 4, 2) := by decide +kernel
theorem dX12_known_75 : decode cX12_known 75 = .ok (.aload_n 0, 1) := by decide +kernel
theorem dX12_known_76 : decode cX12_known 76 = .ok (.getfield 34, 3) := by decide +kernel
theorem dX12_known_79 : decode cX12_known 79 = .ok (.iload 5, 2) := by decide +kernel
theorem dX12_known_81 : decode cX12_known 81 = .ok (.iaload, 1) := by decide +kernel
theorem dX12_known_82 : decode cX12_known 82 = .ok (.iadd, 1) := by decide +kernel
theorem dX12_known_83 : decode cX12_known 83 = .ok (.istore 4, 2) := by decide +kernel
theorem dX12_known_85 : decode cX12_known 85 = .ok (.iinc 5 1, 3) := by decide +kernel
theorem dX12_known_88 : decode cX12_known 88 = .ok (.goto (-44), 3) := by decide +kernel
theorem dX12_known_91 : decode cX12_known 91 = .ok (.iload_n 2, 1) := by decide +kernel
theorem dX12_known_92 : decode cX12_known 92 = .ok (.ifCond .ne 8, 3) := by decide +kernel
theorem dX12_known_95 : decode cX12_known 95 = .ok (.iload 4, 2) := by decide +kernel
theorem dX12_known_97 : decode cX12_known 97 = .ok (.goto 8, 3) := by decide +kernel
theorem dX12_known_100 : decode cX12_known 100 = .ok (.aload_n 0, 1) := by decide +kernel
theorem dX12_known_101 : decode cX12_known 101 = .ok (.iconst 1, 1) := by decide +kernel
theorem dX12_known_102 : decode cX12_known 102 = .ok (.invokevirtual 143, 3) := by decide +kernel
theorem dX12_known_105 : decode cX12_known 105 = .ok (.ireturn, 1) := by decide +kernel
theorem dX12_stored_0 : decode cX12_stored 0 = .ok (.aload_n 0, 1) := by decide +kernel
theorem dX12_stored_1 : decode cX12_stored 1 = .ok (.iconst 0, 1) := by decide +kernel
theorem dX12_stored_2 : decode cX12_stored 2 = .ok (.putfield 1, 3) := by decide +kernel
theorem dX12_stored_5 : decode cX12_stored 5 = .ok (.iload_n 1, 1) := by decide +kernel
theorem dX12_stored_6 : decode cX12_stored 6 = .ok (.i2l, 1) := by decide +kernel
theorem dX12_stored_7 : decode cX12_stored 7 = .ok (.lconst 0, 1) := by decide +kernel
theorem dX12_stored_8 : decode cX12_stored 8 = .ok (.ldc2_w 123, 3) := by decide +kernel
theorem dX12_stored_11 : decode cX12_stored 11 = .ok (.invokestatic 94, 3) := by decide +kernel
theorem dX12_stored_14 : decode cX12_stored 14 = .ok (.ifCond .ne 6, 3) := by decide +kernel
theorem dX12_stored_17 : decode cX12_stored 17 = .ok (.bipush (-7), 2) := by decide +kernel
theorem dX12_stored_19 : decode cX12_stored 19 = .ok (.ireturn, 1) := by decide +kernel
theorem dX12_stored_20 : decode cX12_stored 20 = .ok (.aload_n 0, 1) := by decide +kernel
theorem dX12_stored_21 : decode cX12_stored 21 = .ok (.getfield 13, 3) := by decide +kernel
theorem dX12_stored_24 : decode cX12_stored 24 = .ok (.bipush 56, 2) := by decide +kernel
theorem dX12_stored_26 : decode cX12_stored 26 = .ok (.iload_n 1, 1) := by decide +kernel
theorem dX12_stored_27 : decode cX12_stored 27 = .ok (.iadd, 1) := by decide +kernel
theorem dX12_stored_28 : decode cX12_stored 28 = .ok (.iaload, 1) := by decide +kernel
theorem dX12_stored_29 : decode cX12_stored 29 = .ok (.iconst (-1), 1) := by decide +kernel
theorem dX12_stored_30 : decode cX12_stored 30 = .ok (.if_icmp .ne 8, 3) := by decide +kernel
theorem dX12_stored_33 : decode cX12_stored 33 = .ok (.bipush (-6), 2) := by decide +kernel
theorem dX12_stored_35 : decode cX12_stored 35 = .ok (.goto 12, 3) := by decide +kernel
theorem dX12_stored_38 : decode cX12_stored 38 = .ok (.aload_n 0, 1) := by decide +kernel
theorem dX12_stored_39 : decode cX12_stored 39 = .ok (.getfield 13, 3) := by decide +kernel
theorem dX12_stored_42 : decode cX12_stored 42 = .ok (.bipush 56, 2) := by decide +kernel
theorem dX12_stored_44 : decode cX12_stored 44 = .ok (.iload_n 1, 1) := by decide +kernel
theorem dX12_stored_45 : decode cX12_stored 45 = .ok (.iadd, 1) := by decide +kernel
theorem dX12_stored_46 : decode cX12_stored 46 = .ok (.iaload, 1) := by decide +kernel
theorem dX12_stored_47 : decode cX12_stored 47 = .ok (.ireturn, 1) := by decide +kernel
theorem dX12_given_0 : decode cX12_given 0 = .ok (.aload_n 0, 1) := by decide +kernel
theorem dX12_given_1 : decode cX12_given 1 = .ok (.iconst 0, 1) := by decide +kernel
theorem dX12_given_2 : decode cX12_given 2 = .ok (.putfield 1, 3) := by decide +kernel
theorem dX12_given_5 : decode cX12_given 5 = .ok (.iload_n 1, 1) := by decide +kernel
theorem dX12_given_6 : decode cX12_given 6 = .ok (.ifCond .ge 6, 3) := by decide +kernel
theorem dX12_given_9 : decode cX12_given 9 = .ok (.bipush (-3), 2) := by decide +kernel
theorem dX12_given_11 : decode cX12_given 11 = .ok (.ireturn, 1) := by decide +kernel
theorem dX12_given_12 : decode cX12_given 12 = .ok (.iload_n 1, 1) := by decide +kernel
theorem dX12_given_13 : decode cX12_given 13 = .ok (.aload_n 0, 1) := by decide +kernel
theorem dX12_given_14 : decode cX12_given 14 = .ok (.getfield 13, 3) := by decide +kernel
theorem dX12_given_17 : decode cX12_given 17 = .ok (.bipush 66, 2) := by decide +kernel
theorem dX12_given_19 : decode cX12_given 19 = .ok (.iaload, 1) := by decide +kernel
theorem dX12_given_20 : decode cX12_given 20 = .ok (.if_icmp .ge 36, 3) := by decide +kernel
theorem dX12_given_23 : decode cX12_given 23 = .ok (.iload_n 1, 1) := by decide +kernel
theorem dX12_given_24 : decode cX12_given 24 = .ok (.sipush 256, 3) := by decide +kernel
theorem dX12_given_27 : decode cX12_given 27 = .ok (.if_icmp .ge 29, 3) := by decide +kernel
theorem dX12_given_30 : decode cX12_given 30 = .ok (.aload_n 0, 1) := by decide +kernel
theorem dX12_given_31 : decode cX12_given 31 = .ok (.getfield 13, 3) := by decide +kernel
theorem dX12_given_34 : decode cX12_given 34 = .ok (.bipush 73, 2) := by decide +kernel
theorem dX12_given_36 : decode cX12_given 36 = .ok (.aload_n 0, 1) := by decide +kernel
theorem dX12_given_37 : decode cX12_given 37 = .ok (.getfield 13, 3) := by decide +kernel
theorem dX12_given_40 : decode cX12_given 40 = .ok (.bipush 66, 2) := by decide +kernel
theorem dX12_given_42 : decode cX12_given 42 = .ok (.iaload, 1) := by decide +kernel
theorem dX12_given_43 : decode cX12_given 43 = .ok (.iconst 1, 1) := by decide +kernel
theorem dX12_given_44 : decode cX12_given 44 = .ok (.isub, 1) := by decide +kernel
theorem dX12_given_45 : decode cX12_given 45 = .ok (.iload_n 1, 1) := by decide +kernel
theorem dX12_given_46 : decode cX12_given 46 = .ok (.isub, 1) := by decide +kernel
theorem dX12_given_47 : decode cX12_given 47 = .ok (.sipush 256, 3) := by decide +kernel
theorem dX12_given_50 : decode cX12_given 50 = .ok (.irem, 1) := by decide +kernel
theorem dX12_given_51 : decode cX12_given 51 = .ok (.iadd, 1) := by decide +kernel
theorem dX12_given_52 : decode cX12_given 52 = .ok (.iaload, 1) := by decide +kernel
theorem dX12_given_53 : decode cX12_given 53 = .ok (.goto 4, 3) := by decide +kernel
theorem dX12_given_56 : decode cX12_given 56 = .ok (.iconst (-1), 1) := by decide +kernel
theorem dX12_given_57 : decode cX12_given 57 = .ok (.ireturn, 1) := by decide +kernel
theorem dX12_would_0 : decode cX12_would 0 = .ok (.aload_n 0, 1) := by decide +kernel
theorem dX12_would_1 : decode cX12_would 1 = .ok (.iconst 0, 1) := by decide +kernel
theorem dX12_would_2 : decode cX12_would 2 = .ok (.putfield 1, 3) := by decide +kernel
theorem dX12_would_5 : decode cX12_would 5 = .ok (.iload_n 1, 1) := by decide +kernel
theorem dX12_would_6 : decode cX12_would 6 = .ok (.i2l, 1) := by decide +kernel
theorem dX12_would_7 : decode cX12_would 7 = .ok (.lconst 0, 1) := by decide +kernel
theorem dX12_would_8 : decode cX12_would 8 = .ok (.ldc2_w 123, 3) := by decide +kernel
theorem dX12_would_11 : decode cX12_would 11 = .ok (.invokestatic 94, 3) := by decide +kernel
theorem dX12_would_14 : decode cX12_would 14 = .ok (.ifCond .eq 13, 3) := by decide +kernel
theorem dX12_would_17 : decode cX12_would 17 = .ok (.iload_n 2, 1) := by decide +kernel
theorem dX12_would_18 : decode cX12_would 18 = .ok (.i2l, 1) := by decide +kernel
theorem dX12_would_19 : decode cX12_would 19 = .ok (.lconst 0, 1) := by decide +kernel
theorem dX12_would_20 : decode cX12_would 20 = .ok (.lconst 1, 1) := by decide +kernel
theorem dX12_would_21 : decode cX12_would 21 = .ok (.invokestatic 94, 3) := by decide +kernel
theorem dX12_would_24 : decode cX12_would 24 = .ok (.ifCond .ne 6, 3) := by decide +kernel
theorem dX12_would_27 : decode cX12_would 27 = .ok (.bipush (-2), 2) := by decide +kernel
theorem dX12_would_29 : decode cX12_would 29 = .ok (.ireturn, 1) := by decide +kernel
theorem dX12_would_30 : decode cX12_would 30 = .ok (.aload_n 0, 1) := by decide +kernel
theorem dX12_would_31 : decode cX12_would 31 = .ok (.getfield 13, 3) := by decide +kernel
theorem dX12_would_34 : decode cX12_would 34 = .ok (.bipush 55, 2) := by decide +kernel
theorem dX12_would_36 : decode cX12_would 36 = .ok (.iaload, 1) := by decide +kernel
theorem dX12_would_37 : decode cX12_would 37 = .ok (.iload_n 1, 1) := by decide +kernel
theorem dX12_would_38 : decode cX12_would 38 = .ok (.invokestatic 182, 3) := by decide +kernel
theorem dX12_would_41 : decode cX12_would 41 = .ok (.istore_n 3, 1) := by decide +kernel
theorem dX12_would_42 : decode cX12_would 42 = .ok (.iload_n 3, 1) := by decide +kernel
theorem dX12_would_43 : decode cX12_would 43 = .ok (.ifCond .gt 7, 3) := by decide +kernel
theorem dX12_would_46 : decode cX12_would 46 = .ok (.iload_n 2, 1) := by decide +kernel
theorem dX12_would_47 : decode cX12_would 47 = .ok (.ifCond .ne 53, 3) := by decide +kernel
theorem dX12_would_50 : decode cX12_would 50 = .ok (.iload_n 2, 1) := by decide +kernel
theorem dX12_would_51 : decode cX12_would 51 = .ok (.iconst 1, 1) := by decide +kernel
theorem dX12_would_52 : decode cX12_would 52 = .ok (.if_icmp .ne 7, 3) := by decide +kernel
theorem dX12_would_55 : decode cX12_would 55 = .ok (.iconst 0, 1) := by decide +kernel
theorem dX12_would_56 : decode cX12_would 56 = .ok (.goto 43, 3) := by decide +kernel
theorem dX12_would_59 : decode cX12_would 59 = .ok (.iload_n 3, 1) := by decide +kernel
theorem dX12_would_60 : decode cX12_would 60 = .ok (.aload_n 0, 1) := by decide +kernel
theorem dX12_would_61 : decode cX12_would 61 = .ok (.getfield 13, 3) := by decide +kernel
theorem dX12_would_64 : decode cX12_would 64 = .ok (.iconst 1, 1) := by decide +kernel
theorem dX12_would_65 : decode cX12_would 65 = .ok (.iaload, 1) := by decide +kernel
theorem dX12_would_66 : decode cX12_would 66 = .ok (.if_icmp .lt 7, 3) := by decide +kernel
theorem dX12_would_69 : decode cX12_would 69 = .ok (.iconst 3, 1) := by decide +kernel
theorem dX12_would_70 : decode cX12_would 70 = .ok (.goto 29, 3) := by decide +kernel
theorem dX12_would_73 : decode cX12_would 73 = .ok (.aload_n 0, 1) := by decide +kernel
theorem dX12_would_74 : decode cX12_would 74 = .ok (.getfield 13, 3) := by decide +kernel
theorem dX12_would_77 : decode cX12_would 77 = .ok (.bipush 56, 2) := by decide +kernel
theorem dX12_would_79 : decode cX12_would 79 = .ok (.iload_n 1, 1) := by decide +kernel
theorem dX12_would_80 : decode cX12_would 80 = .ok (.iadd, 1) := by decide +kernel
theorem dX12_would_81 : decode cX12_would 81 = .ok (.iaload, 1) := by decide +kernel
theorem dX12_would_82 : decode cX12_would 82 = .ok (.iconst (-1), 1) := by decide +kernel
theorem dX12_would_83 : decode cX12_would 83 = .ok (.if_icmp .eq 7, 3) := by decide +kernel
theorem dX12_would_86 : decode cX12_would 86 = .ok (.iconst 2, 1) := by decide +kernel
theorem dX12_would_87 : decode cX12_would 87 = .ok (.goto 12, 3) := by decide +kernel
theorem dX12_would_90 : decode cX12_would 90 = .ok (.iload_n 3, 1) := by decide +kernel
theorem dX12_would_91 : decode cX12_would 91 = .ok (.ifCond .le 7, 3) := by decide +kernel
theorem dX12_would_94 : decode cX12_would 94 = .ok (.iconst 1, 1) := by decide +kernel
theorem dX12_would_95 : decode cX12_would 95 = .ok (.goto 4, 3) := by decide +kernel
theorem dX12_would_98 : decode cX12_would 98 = .ok (.iconst 0, 1) := by decide +kernel
theorem dX12_would_99 : decode cX12_would 99 = .ok (.ireturn, 1) := by decide +kernel
theorem dX12_would_100 : decode cX12_would 100 = .ok (.iconst 1, 1) := by decide +kernel
theorem dX12_would_101 : decode cX12_would 101 = .ok (.istore 4, 2) := by decide +kernel
theorem dX12_would_103 : decode cX12_would 103 = .ok (.iload 4, 2) := by decide +kernel
theorem dX12_would_105 : decode cX12_would 105 = .ok (.bipush 8, 2) := by decide +kernel
theorem dX12_would_107 : decode cX12_would 107 = .ok (.if_icmp .ge 28, 3) := by decide +kernel
theorem dX12_would_110 : decode cX12_would 110 = .ok (.aload_n 0, 1) := by decide +kernel
theorem dX12_would_111 : decode cX12_would 111 = .ok (.getfield 13, 3) := by decide +kernel
theorem dX12_would_114 : decode cX12_would 114 = .ok (.bipush 56, 2) := by decide +kernel
theorem dX12_would_116 : decode cX12_would 116 = .ok (.iload_n 1, 1) := by decide +kernel
theorem dX12_would_117 : decode cX12_would 117 = .ok (.iload 4, 2) := by decide +kernel
theorem dX12_would_119 : decode cX12_would 119 = .ok (.iadd, 1) := by decide +kernel
theorem dX12_would_120 : decode cX12_would 120 = .ok (.bipush 7, 2) := by decide +kernel
theorem dX12_would_122 : decode cX12_would 122 = .ok (.iand, 1) := by decide +kernel
theorem dX12_would_123 : decode cX12_would 123 = .ok (.iadd, 1) := by decide +kernel
theorem dX12_would_124 : decode cX12_would 124 = .ok (.iaload, 1) := by decide +kernel
theorem dX12_would_125 : decode cX12_would 125 = .ok (.iconst (-1), 1) := by decide +kernel
theorem dX12_would_126 : decode cX12_would 126 = .ok (.if_icmp .eq 9, 3) := by decide +kernel
theorem dX12_would_129 : decode cX12_would 129 = .ok (.iinc 4 1, 3) := by decide +kernel
theorem dX12_would_132 : decode cX12_would 132 = .ok (.goto (-29), 3) := by decide +kernel
theorem dX12_would_135 : decode cX12_would 135 = .ok (.iload 4, 2) := by decide +kernel
theorem dX12_would_137 : decode cX12_would 137 = .ok (.ireturn, 1) := by decide +kernel
theorem dX12_gaps_0 : decode cX12_gaps 0 = .ok (.aload_n 0, 1) := by decide +kernel
theorem dX12_gaps_1 : decode cX12_gaps 1 = .ok (.iconst 0, 1) := by decide +kernel
theorem dX12_gaps_2 : decode cX12_gaps 2 = .ok (.putfield 1, 3) := by decide +kernel
theorem dX12_gaps_5 : decode cX12_gaps 5 = .ok (.iload_n 1, 1) := by decide +kernel
theorem dX12_gaps_6 : decode cX12_gaps 6 = .ok (.i2l, 1) := by decide +kernel
theorem dX12_gaps_7 : decode cX12_gaps 7 = .ok (.lconst 0, 1) := by decide +kernel
theorem dX12_gaps_8 : decode cX12_gaps 8 = .ok (.ldc2_w 237, 3) := by decide +kernel
theorem dX12_gaps_11 : decode cX12_gaps 11 = .ok (.invokestatic 94, 3) := by decide +kernel
theorem dX12_gaps_14 : decode cX12_gaps 14 = .ok (.ifCond .ne 6, 3) := by decide +kernel
theorem dX12_gaps_17 : decode cX12_gaps 17 = .ok (.bipush (-2), 2) := by decide +kernel
theorem dX12_gaps_19 : decode cX12_gaps 19 = .ok (.ireturn, 1) := by decide +kernel
theorem dX12_gaps_20 : decode cX12_gaps 20 = .ok (.iconst (-1), 1) := by decide +kernel
theorem dX12_gaps_21 : decode cX12_gaps 21 = .ok (.istore_n 2, 1) := by decide +kernel
theorem dX12_gaps_22 : decode cX12_gaps 22 = .ok (.iconst (-1), 1) := by decide +kernel
theorem dX12_gaps_23 : decode cX12_gaps 23 = .ok (.istore_n 3, 1) := by decide +kernel
theorem dX12_gaps_24 : decode cX12_gaps 24 = .ok (.iconst 0, 1) := by decide +kernel
theorem dX12_gaps_25 : decode cX12_gaps 25 = .ok (.istore 4, 2) := by decide +kernel
theorem dX12_gaps_27 : decode cX12_gaps 27 = .ok (.iconst 0, 1) := by decide +kernel
theorem dX12_gaps_28 : decode cX12_gaps 28 = .ok (.istore 5, 2) := by decide +kernel
theorem dX12_gaps_30 : decode cX12_gaps 30 = .ok (.iload 5, 2) := by decide +kernel
theorem dX12_gaps_32 : decode cX12_gaps 32 = .ok (.bipush 8, 2) := by decide +kernel
theorem dX12_gaps_34 : decode cX12_gaps 34 = .ok (.if_icmp .ge 59, 3) := by decide +kernel
theorem dX12_gaps_37 : decode cX12_gaps 37 = .ok (.aload_n 0, 1) := by decide +kernel
theorem dX12_gaps_38 : decode cX12_gaps 38 = .ok (.getfield 13, 3) := by decide +kernel
theorem dX12_gaps_41 : decode cX12_gaps 41 = .ok (.bipush 55, 2) := by decide +kernel
theorem dX12_gaps_43 : decode cX12_gaps 43 = .ok (.iaload, 1) := by decide +kernel
theorem dX12_gaps_44 : decode cX12_gaps 44 = .ok (.iload 5, 2) := by decide +kernel
theorem dX12_gaps_46 : decode cX12_gaps 46 = .ok (.iadd, 1) := by decide +kernel
theorem dX12_gaps_47 : decode cX12_gaps 47 = .ok (.bipush 7, 2) := by decide +kernel
theorem dX12_gaps_49 : decode cX12_gaps 49 = .ok (.iand, 1) := by decide +kernel
theorem dX12_gaps_50 : decode cX12_gaps 50 = .ok (.istore 6, 2) := by decide +kernel
theorem dX12_gaps_52 : decode cX12_gaps 52 = .ok (.aload_n 0, 1) := by decide +kernel
theorem dX12_gaps_53 : decode cX12_gaps 53 = .ok (.getfield 13, 3) := by decide +kernel
theorem dX12_gaps_56 : decode cX12_gaps 56 = .ok (.bipush 56, 2) := by decide +kernel
theorem dX12_gaps_58 : decode cX12_gaps 58 = .ok (.iload 6, 2) := by decide +kernel
theorem dX12_gaps_60 : decode cX12_gaps 60 = .ok (.iadd, 1) := by decide +kernel
theorem dX12_gaps_61 : decode cX12_gaps 61 = .ok (.iaload, 1) := by decide +kernel
theorem dX12_gaps_62 : decode cX12_gaps 62 = .ok (.iconst (-1), 1) := by decide +kernel
theorem dX12_gaps_63 : decode cX12_gaps 63 = .ok (.if_icmp .ne 6, 3) := by decide +kernel
theorem dX12_gaps_66 : decode cX12_gaps 66 = .ok (.goto 21, 3) := by decide +kernel
theorem dX12_gaps_69 : decode cX12_gaps 69 = .ok (.iload_n 2, 1) := by decide +kernel
theorem dX12_gaps_70 : decode cX12_gaps 70 = .ok (.iconst (-1), 1) := by decide +kernel
theorem dX12_gaps_71 : decode cX12_gaps 71 = .ok (.if_icmp .ne 8, 3) := by decide +kernel
theorem dX12_gaps_74 : decode cX12_gaps 74 = .ok (.iload 6, 2) := by decide +kernel
theorem dX12_gaps_76 : decode cX12_gaps 76 = .ok (.goto 4, 3) := by decide +kernel
theorem dX12_gaps_79 : decode cX12_gaps 79 = .ok (.iload_n 2, 1) := by decide +kernel
theorem dX12_gaps_80 : decode cX12_gaps 80 = .ok (.istore_n 2, 1) := by decide +kernel
theorem dX12_gaps_81 : decode cX12_gaps 81 = .ok (.iload 5, 2) := by decide +kernel
theorem dX12_gaps_83 : decode cX12_gaps 83 = .ok (.istore_n 3, 1) := by decide +kernel
theorem dX12_gaps_84 : decode cX12_gaps 84 = .ok (.iinc 4 1, 3) := by decide +kernel
theorem dX12_gaps_87 : decode cX12_gaps 87 = .ok (.iinc 5 1, 3) := by decide +kernel
theorem dX12_gaps_90 : decode cX12_gaps 90 = .ok (.goto (-60), 3) := by decide +kernel
theorem dX12_gaps_93 : decode cX12_gaps 93 = .ok (.iload_n 1, 1) := by decide +kernel
theorem dX12_gaps_94 : decode cX12_gaps 94 = .ok (.iconst 1, 1) := by decide +kernel
theorem dX12_gaps_95 : decode cX12_gaps 95 = .ok (.if_icmp .ne 7, 3) := by decide +kernel
theorem dX12_gaps_98 : decode cX12_gaps 98 = .ok (.iload_n 2, 1) := by decide +kernel
theorem dX12_gaps_99 : decode cX12_gaps 99 = .ok (.goto 20, 3) := by decide +kernel
theorem dX12_gaps_102 : decode cX12_gaps 102 = .ok (.iload_n 1, 1) := by decide +kernel
theorem dX12_gaps_103 : decode cX12_gaps 103 = .ok (.iconst 2, 1) := by decide +kernel
theorem dX12_gaps_104 : decode cX12_gaps 104 = .ok (.if_icmp .ne 9, 3) := by decide +kernel
theorem dX12_gaps_107 : decode cX12_gaps 107 = .ok (.iload_n 3, 1) := by decide +kernel
theorem dX12_gaps_108 : decode cX12_gaps 108 = .ok (.iconst 1, 1) := by decide +kernel
theorem dX12_gaps_109 : decode cX12_gaps 109 = .ok (.iadd, 1) := by decide +kernel
theorem dX12_gaps_110 : decode cX12_gaps 110 = .ok (.goto 9, 3) := by decide +kernel
theorem dX12_gaps_113 : decode cX12_gaps 113 = .ok (.iload_n 3, 1) := by decide +kernel
theorem dX12_gaps_114 : decode cX12_gaps 114 = .ok (.iconst 1, 1) := by decide +kernel
theorem dX12_gaps_115 : decode cX12_gaps 115 = .ok (.iadd, 1) := by decide +kernel
theorem dX12_gaps_116 : decode cX12_gaps 116 = .ok (.iload 4, 2) := by decide +kernel
theorem dX12_gaps_118 : decode cX12_gaps 118 = .ok (.isub, 1) := by decide +kernel
theorem dX12_gaps_119 : decode cX12_gaps 119 = .ok (.ireturn, 1) := by decide +kernel
theorem dX12_tray_0 : decode cX12_tray 0 = .ok (.aload_n 0, 1) := by decide +kernel
theorem dX12_tray_1 : decode cX12_tray 1 = .ok (.iconst 0, 1) := by decide +kernel
theorem dX12_tray_2 : decode cX12_tray 2 = .ok (.putfield 1, 3) := by decide +kernel
theorem dX12_tray_5 : decode cX12_tray 5 = .ok (.iload_n 1, 1) := by decide +kernel
theorem dX12_tray_6 : decode cX12_tray 6 = .ok (.i2l, 1) := by decide +kernel
theorem dX12_tray_7 : decode cX12_tray 7 = .ok (.lconst 0, 1) := by decide +kernel
theorem dX12_tray_8 : decode cX12_tray 8 = .ok (.ldc2_w 132, 3) := by decide +kernel
theorem dX12_tray_11 : decode cX12_tray 11 = .ok (.invokestatic 94, 3) := by decide +kernel
theorem dX12_tray_14 : decode cX12_tray 14 = .ok (.ifCond .ne 6, 3) := by decide +kernel
theorem dX12_tray_17 : decode cX12_tray 17 = .ok (.bipush (-2), 2) := by decide +kernel
theorem dX12_tray_19 : decode cX12_tray 19 = .ok (.ireturn, 1) := by decide +kernel
theorem dX12_tray_20 : decode cX12_tray 20 = .ok (.iload_n 2, 1) := by decide +kernel
theorem dX12_tray_21 : decode cX12_tray 21 = .ok (.i2l, 1) := by decide +kernel
theorem dX12_tray_22 : decode cX12_tray 22 = .ok (.lconst 0, 1) := by decide +kernel
theorem dX12_tray_23 : decode cX12_tray 23 = .ok (.ldc2_w 98, 3) := by decide +kernel
theorem dX12_tray_26 : decode cX12_tray 26 = .ok (.invokestatic 94, 3) := by decide +kernel
theorem dX12_tray_29 : decode cX12_tray 29 = .ok (.ifCond .ne 6, 3) := by decide +kernel
theorem dX12_tray_32 : decode cX12_tray 32 = .ok (.bipush (-3), 2) := by decide +kernel
theorem dX12_tray_34 : decode cX12_tray 34 = .ok (.ireturn, 1) := by decide +kernel
theorem dX12_tray_35 : decode cX12_tray 35 = .ok (.aload_n 0, 1) := by decide +kernel
theorem dX12_tray_36 : decode cX12_tray 36 = .ok (.getfield 61, 3) := by decide +kernel
theorem dX12_tray_39 : decode cX12_tray 39 = .ok (.iload_n 1, 1) := by decide +kernel
theorem dX12_tray_40 : decode cX12_tray 40 = .ok (.iload_n 2, 1) := by decide +kernel
theorem dX12_tray_41 : decode cX12_tray 41 = .ok (.iastore, 1) := by decide +kernel
theorem dX12_tray_42 : decode cX12_tray 42 = .ok (.iconst 0, 1) := by decide +kernel
theorem dX12_tray_43 : decode cX12_tray 43 = .ok (.istore_n 3, 1) := by decide +kernel
theorem dX12_tray_44 : decode cX12_tray 44 = .ok (.iload_n 3, 1) := by decide +kernel
theorem dX12_tray_45 : decode cX12_tray 45 = .ok (.iload_n 2, 1) := by decide +kernel
theorem dX12_tray_46 : decode cX12_tray 46 = .ok (.if_icmp .ge 21, 3) := by decide +kernel
theorem dX12_tray_49 : decode cX12_tray 49 = .ok (.aload_n 0, 1) := by decide +kernel
theorem dX12_tray_50 : decode cX12_tray 50 = .ok (.getfield 64, 3) := by decide +kernel
theorem dX12_tray_53 : decode cX12_tray 53 = .ok (.bipush 60, 2) := by decide +kernel
theorem dX12_tray_55 : decode cX12_tray 55 = .ok (.iload_n 1, 1) := by decide +kernel
theorem dX12_tray_56 : decode cX12_tray 56 = .ok (.imul, 1) := by decide +kernel
theorem dX12_tray_57 : decode cX12_tray 57 = .ok (.iload_n 3, 1) := by decide +kernel
theorem dX12_tray_58 : decode cX12_tray 58 = .ok (.iadd, 1) := by decide +kernel
theorem dX12_tray_59 : decode cX12_tray 59 = .ok (.iconst 0, 1) := by decide +kernel
theorem dX12_tray_60 : decode cX12_tray 60 = .ok (.iastore, 1) := by decide +kernel
theorem dX12_tray_61 : decode cX12_tray 61 = .ok (.iinc 3 1, 3) := by decide +kernel
theorem dX12_tray_64 : decode cX12_tray 64 = .ok (.goto (-20), 3) := by decide +kernel
theorem dX12_tray_67 : decode cX12_tray 67 = .ok (.iconst 0, 1) := by decide +kernel
theorem dX12_tray_68 : decode cX12_tray 68 = .ok (.ireturn, 1) := by decide +kernel
theorem dX12_write_0 : decode cX12_write 0 = .ok (.aload_n 0, 1) := by decide +kernel
theorem dX12_write_1 : decode cX12_write 1 = .ok (.iconst 0, 1) := by decide +kernel
theorem dX12_write_2 : decode cX12_write 2 = .ok (.putfield 1, 3) := by decide +kernel
theorem dX12_write_5 : decode cX12_write 5 = .ok (.aload_n 0, 1) := by decide +kernel
theorem dX12_write_6 : decode cX12_write 6 = .ok (.iload_n 1, 1) := by decide +kernel
theorem dX12_write_7 : decode cX12_write 7 = .ok (.invokevirtual 303, 3) := by decide +kernel
theorem dX12_write_10 : decode cX12_write 10 = .ok (.istore 4, 2) := by decide +kernel
theorem dX12_write_12 : decode cX12_write 12 = .ok (.iload 4, 2) := by decide +kernel
theorem dX12_write_14 : decode cX12_write 14 = .ok (.ifCond .eq 10, 3) := by decide +kernel
theorem dX12_write_17 : decode cX12_write 17 = .ok (.iload 4, 2) := by decide +kernel
theorem dX12_write_19 : decode cX12_write 19 = .ok (.sipush 1000, 3) := by decide +kernel
theorem dX12_write_22 : decode cX12_write 22 = .ok (.isub, 1) := by decide +kernel
theorem dX12_write_23 : decode cX12_write 23 = .ok (.ireturn, 1) := by decide +kernel
theorem dX12_write_24 : decode cX12_write 24 = .ok (.iload_n 2, 1) := by decide +kernel
theorem dX12_write_25 : decode cX12_write 25 = .ok (.i2l, 1) := by decide +kernel
theorem dX12_write_26 : decode cX12_write 26 = .ok (.lconst 0, 1) := by decide +kernel
theorem dX12_write_27 : decode cX12_write 27 = .ok (.aload_n 0, 1) := by decide +kernel
theorem dX12_write_28 : decode cX12_write 28 = .ok (.getfield 61, 3) := by decide +kernel
theorem dX12_write_31 : decode cX12_write 31 = .ok (.iload_n 1, 1) := by decide +kernel
theorem dX12_write_32 : decode cX12_write 32 = .ok (.iaload, 1) := by decide +kernel
theorem dX12_write_33 : decode cX12_write 33 = .ok (.iconst 1, 1) := by decide +kernel
theorem dX12_write_34 : decode cX12_write 34 = .ok (.isub, 1) := by decide +kernel
theorem dX12_write_35 : decode cX12_write 35 = .ok (.i2l, 1) := by decide +kernel
theorem dX12_write_36 : decode cX12_write 36 = .ok (.invokestatic 94, 3) := by decide +kernel
theorem dX12_write_39 : decode cX12_write 39 = .ok (.ifCond .ne 7, 3) := by decide +kernel
theorem dX12_write_42 : decode cX12_write 42 = .ok (.sipush (-1007), 3) := by decide +kernel
theorem dX12_write_45 : decode cX12_write 45 = .ok (.ireturn, 1) := by decide +kernel
theorem dX12_write_46 : decode cX12_write 46 = .ok (.aload_n 0, 1) := by decide +kernel
theorem dX12_write_47 : decode cX12_write 47 = .ok (.getfield 64, 3) := by decide +kernel
theorem dX12_write_50 : decode cX12_write 50 = .ok (.bipush 60, 2) := by decide +kernel
theorem dX12_write_52 : decode cX12_write 52 = .ok (.iload_n 1, 1) := by decide +kernel
theorem dX12_write_53 : decode cX12_write 53 = .ok (.imul, 1) := by decide +kernel
theorem dX12_write_54 : decode cX12_write 54 = .ok (.iload_n 2, 1) := by decide +kernel
theorem dX12_write_55 : decode cX12_write 55 = .ok (.iadd, 1) := by decide +kernel
theorem dX12_write_56 : decode cX12_write 56 = .ok (.iload_n 3, 1) := by decide +kernel
theorem dX12_write_57 : decode cX12_write 57 = .ok (.i2b, 1) := by decide +kernel
theorem dX12_write_58 : decode cX12_write 58 = .ok (.iastore, 1) := by decide +kernel
theorem dX12_write_59 : decode cX12_write 59 = .ok (.aload_n 0, 1) := by decide +kernel
theorem dX12_write_60 : decode cX12_write 60 = .ok (.getfield 64, 3) := by decide +kernel
theorem dX12_write_63 : decode cX12_write 63 = .ok (.bipush 60, 2) := by decide +kernel
theorem dX12_write_65 : decode cX12_write 65 = .ok (.iload_n 1, 1) := by decide +kernel
theorem dX12_write_66 : decode cX12_write 66 = .ok (.imul, 1) := by decide +kernel
theorem dX12_write_67 : decode cX12_write 67 = .ok (.iload_n 2, 1) := by decide +kernel
theorem dX12_write_68 : decode cX12_write 68 = .ok (.iadd, 1) := by decide +kernel
theorem dX12_write_69 : decode cX12_write 69 = .ok (.iaload, 1) := by decide +kernel
theorem dX12_write_70 : decode cX12_write 70 = .ok (.ireturn, 1) := by decide +kernel
theorem dX12_lists_0 : decode cX12_lists 0 = .ok (.aload_n 0, 1) := by decide +kernel
theorem dX12_lists_1 : decode cX12_lists 1 = .ok (.iconst 0, 1) := by decide +kernel
theorem dX12_lists_2 : decode cX12_lists 2 = .ok (.putfield 1, 3) := by decide +kernel
theorem dX12_lists_5 : decode cX12_lists 5 = .ok (.iload_n 1, 1) := by decide +kernel
theorem dX12_lists_6 : decode cX12_lists 6 = .ok (.i2l, 1) := by decide +kernel
theorem dX12_lists_7 : decode cX12_lists 7 = .ok (.lconst 0, 1) := by decide +kernel
theorem dX12_lists_8 : decode cX12_lists 8 = .ok (.ldc2_w 132, 3) := by decide +kernel
theorem dX12_lists_11 : decode cX12_lists 11 = .ok (.invokestatic 94, 3) := by decide +kernel
theorem dX12_lists_14 : decode cX12_lists 14 = .ok (.ifCond .eq 11, 3) := by decide +kernel
theorem dX12_lists_17 : decode cX12_lists 17 = .ok (.aload_n 0, 1) := by decide +kernel
theorem dX12_lists_18 : decode cX12_lists 18 = .ok (.iload_n 2, 1) := by decide +kernel
theorem dX12_lists_19 : decode cX12_lists 19 = .ok (.invokevirtual 222, 3) := by decide +kernel
theorem dX12_lists_22 : decode cX12_lists 22 = .ok (.ifCond .ne 6, 3) := by decide +kernel
theorem dX12_lists_25 : decode cX12_lists 25 = .ok (.bipush (-2), 2) := by decide +kernel
theorem dX12_lists_27 : decode cX12_lists 27 = .ok (.ireturn, 1) := by decide +kernel
theorem dX12_lists_28 : decode cX12_lists 28 = .ok (.aload_n 0, 1) := by decide +kernel
theorem dX12_lists_29 : decode cX12_lists 29 = .ok (.getfield 61, 3) := by decide +kernel
theorem dX12_lists_32 : decode cX12_lists 32 = .ok (.iload_n 1, 1) := by decide +kernel
theorem dX12_lists_33 : decode cX12_lists 33 = .ok (.iaload, 1) := by decide +kernel
theorem dX12_lists_34 : decode cX12_lists 34 = .ok (.iconst (-1), 1) := by decide +kernel
theorem dX12_lists_35 : decode cX12_lists 35 = .ok (.if_icmp .eq 11, 3) := by decide +kernel
theorem dX12_lists_38 : decode cX12_lists 38 = .ok (.aload_n 0, 1) := by decide +kernel
theorem dX12_lists_39 : decode cX12_lists 39 = .ok (.iload_n 2, 1) := by decide +kernel
theorem dX12_lists_40 : decode cX12_lists 40 = .ok (.invokevirtual 281, 3) := by decide +kernel
theorem dX12_lists_43 : decode cX12_lists 43 = .ok (.ifCond .eq 6, 3) := by decide +kernel
theorem dX12_lists_46 : decode cX12_lists 46 = .ok (.bipush (-6), 2) := by decide +kernel
theorem dX12_lists_48 : decode cX12_lists 48 = .ok (.ireturn, 1) := by decide +kernel
theorem dX12_lists_49 : decode cX12_lists 49 = .ok (.aload_n 0, 1) := by decide +kernel
theorem dX12_lists_50 : decode cX12_lists 50 = .ok (.getfield 61, 3) := by decide +kernel
theorem dX12_lists_53 : decode cX12_lists 53 = .ok (.iload_n 1, 1) := by decide +kernel
theorem dX12_lists_54 : decode cX12_lists 54 = .ok (.iaload, 1) := by decide +kernel
theorem dX12_lists_55 : decode cX12_lists 55 = .ok (.bipush 39, 2) := by decide +kernel
theorem dX12_lists_57 : decode cX12_lists 57 = .ok (.if_icmp .ge 12, 3) := by decide +kernel
theorem dX12_lists_60 : decode cX12_lists 60 = .ok (.aload_n 0, 1) := by decide +kernel
theorem dX12_lists_61 : decode cX12_lists 61 = .ok (.getfield 61, 3) := by decide +kernel
theorem dX12_lists_64 : decode cX12_lists 64 = .ok (.iload_n 1, 1) := by decide +kernel
theorem dX12_lists_65 : decode cX12_lists 65 = .ok (.iaload, 1) := by decide +kernel
theorem dX12_lists_66 : decode cX12_lists 66 = .ok (.goto 5, 3) := by decide +kernel
theorem dX12_lists_69 : decode cX12_lists 69 = .ok (.bipush 39, 2) := by decide +kernel
theorem dX12_lists_71 : decode cX12_lists 71 = .ok (.istore_n 3, 1) := by decide +kernel
theorem dX12_lists_72 : decode cX12_lists 72 = .ok (.iconst 0, 1) := by decide +kernel
theorem dX12_lists_73 : decode cX12_lists 73 = .ok (.istore 4, 2) := by decide +kernel
theorem dX12_lists_75 : decode cX12_lists 75 = .ok (.iload 4, 2) := by decide +kernel
theorem dX12_lists_77 : decode cX12_lists 77 = .ok (.iload_n 3, 1) := by decide +kernel
theorem dX12_lists_78 : decode cX12_lists 78 = .ok (.if_icmp .ge 33, 3) := by decide +kernel
theorem dX12_lists_81 : decode cX12_lists 81 = .ok (.aload_n 0, 1) := by decide +kernel
theorem dX12_lists_82 : decode cX12_lists 82 = .ok (.getfield 64, 3) := by decide +kernel
theorem dX12_lists_85 : decode cX12_lists 85 = .ok (.bipush 60, 2) := by decide +kernel
theorem dX12_lists_87 : decode cX12_lists 87 = .ok (.iload_n 1, 1) := by decide +kernel
theorem dX12_lists_88 : decode cX12_lists 88 = .ok (.imul, 1) := by decide +kernel
theorem dX12_lists_89 : decode cX12_lists 89 = .ok (.iload 4, 2) := by decide +kernel
theorem dX12_lists_91 : decode cX12_lists 91 = .ok (.iadd, 1) := by decide +kernel
theorem dX12_lists_92 : decode cX12_lists 92 = .ok (.aload_n 0, 1) := by decide +kernel
theorem dX12_lists_93 : decode cX12_lists 93 = .ok (.getfield 37, 3) := by decide +kernel
theorem dX12_lists_96 : decode cX12_lists 96 = .ok (.iload 4, 2) := by decide +kernel
theorem dX12_lists_98 : decode cX12_lists 98 = .ok (.iaload, 1) := by decide +kernel
theorem dX12_lists_99 : decode cX12_lists 99 = .ok (.bipush 127, 2) := by decide +kernel
theorem dX12_lists_101 : decode cX12_lists 101 = .ok (.invokestatic 191, 3) := by decide +kernel
theorem dX12_lists_104 : decode cX12_lists 104 = .ok (.iastore, 1) := by decide +kernel
theorem dX12_lists_105 : decode cX12_lists 105 = .ok (.iinc 4 1, 3) := by decide +kernel
theorem dX12_lists_108 : decode cX12_lists 108 = .ok (.goto (-33), 3) := by decide +kernel
theorem dX12_lists_111 : decode cX12_lists 111 = .ok (.iload_n 3, 1) := by decide +kernel
theorem dX12_lists_112 : decode cX12_lists 112 = .ok (.ireturn, 1) := by decide +kernel
theorem dX12_image_0 : decode cX12_image 0 = .ok (.aload_n 0, 1) := by decide +kernel
theorem dX12_image_1 : decode cX12_image 1 = .ok (.iconst 0, 1) := by decide +kernel
theorem dX12_image_2 : decode cX12_image 2 = .ok (.putfield 1, 3) := by decide +kernel
theorem dX12_image_5 : decode cX12_image 5 = .ok (.iload_n 1, 1) := by decide +kernel
theorem dX12_image_6 : decode cX12_image 6 = .ok (.i2l, 1) := by decide +kernel
theorem dX12_image_7 : decode cX12_image 7 = .ok (.lconst 0, 1) := by decide +kernel
theorem dX12_image_8 : decode cX12_image 8 = .ok (.lconst 1, 1) := by decide +kernel
theorem dX12_image_9 : decode cX12_image 9 = .ok (.invokestatic 94, 3) := by decide +kernel
theorem dX12_image_12 : decode cX12_image 12 = .ok (.ifCond .ne 6, 3) := by decide +kernel
theorem dX12_image_15 : decode cX12_image 15 = .ok (.bipush (-2), 2) := by decide +kernel
theorem dX12_image_17 : decode cX12_image 17 = .ok (.ireturn, 1) := by decide +kernel
theorem dX12_image_18 : decode cX12_image 18 = .ok (.iconst 0, 1) := by decide +kernel
theorem dX12_image_19 : decode cX12_image 19 = .ok (.istore_n 2, 1) := by decide +kernel
theorem dX12_image_20 : decode cX12_image 20 = .ok (.iload_n 2, 1) := by decide +kernel
theorem dX12_image_21 : decode cX12_image 21 = .ok (.sipush 1033, 3) := by decide +kernel
theorem dX12_image_24 : decode cX12_image 24 = .ok (.if_icmp .ge 29, 3) := by decide +kernel
theorem dX12_image_27 : decode cX12_image 27 = .ok (.aload_n 0, 1) := by decide +kernel
theorem dX12_image_28 : decode cX12_image 28 = .ok (.getfield 13, 3) := by decide +kernel
theorem dX12_image_31 : decode cX12_image 31 = .ok (.sipush 1033, 3) := by decide +kernel
theorem dX12_image_34 : decode cX12_image 34 = .ok (.iload_n 1, 1) := by decide +kernel
theorem dX12_image_35 : decode cX12_image 35 = .ok (.iconst 1, 1) := by decide +kernel
theorem dX12_image_36 : decode cX12_image 36 = .ok (.iadd, 1) := by decide +kernel
theorem dX12_image_37 : decode cX12_image 37 = .ok (.imul, 1) := by decide +kernel
theorem dX12_image_38 : decode cX12_image 38 = .ok (.iload_n 2, 1) := by decide +kernel
theorem dX12_image_39 : decode cX12_image 39 = .ok (.iadd, 1) := by decide +kernel
theorem dX12_image_40 : decode cX12_image 40 = .ok (.aload_n 0, 1) := by decide +kernel
theorem dX12_image_41 : decode cX12_image 41 = .ok (.getfield 13, 3) := by decide +kernel
theorem dX12_image_44 : decode cX12_image 44 = .ok (.iload_n 2, 1) := by decide +kernel
theorem dX12_image_45 : decode cX12_image 45 = .ok (.iaload, 1) := by decide +kernel
theorem dX12_image_46 : decode cX12_image 46 = .ok (.iastore, 1) := by decide +kernel
theorem dX12_image_47 : decode cX12_image 47 = .ok (.iinc 2 1, 3) := by decide +kernel
theorem dX12_image_50 : decode cX12_image 50 = .ok (.goto (-30), 3) := by decide +kernel
theorem dX12_image_53 : decode cX12_image 53 = .ok (.aload_n 0, 1) := by decide +kernel
theorem dX12_image_54 : decode cX12_image 54 = .ok (.getfield 20, 3) := by decide +kernel
theorem dX12_image_57 : decode cX12_image 57 = .ok (.iload_n 1, 1) := by decide +kernel
theorem dX12_image_58 : decode cX12_image 58 = .ok (.iconst 1, 1) := by decide +kernel
theorem dX12_image_59 : decode cX12_image 59 = .ok (.bastore, 1) := by decide +kernel
theorem dX12_image_60 : decode cX12_image 60 = .ok (.iconst 0, 1) := by decide +kernel
theorem dX12_image_61 : decode cX12_image 61 = .ok (.ireturn, 1) := by decide +kernel
theorem dX12_restore_0 : decode cX12_restore 0 = .ok (.aload_n 0, 1) := by decide +kernel
theorem dX12_restore_1 : decode cX12_restore 1 = .ok (.iconst 0, 1) := by decide +kernel
theorem dX12_restore_2 : decode cX12_restore 2 = .ok (.putfield 1, 3) := by decide +kernel
theorem dX12_restore_5 : decode cX12_restore 5 = .ok (.iload_n 1, 1) := by decide +kernel
theorem dX12_restore_6 : decode cX12_restore 6 = .ok (.i2l, 1) := by decide +kernel
theorem dX12_restore_7 : decode cX12_restore 7 = .ok (.lconst 0, 1) := by decide +kernel
theorem dX12_restore_8 : decode cX12_restore 8 = .ok (.lconst 1, 1) := by decide +kernel
theorem dX12_restore_9 : decode cX12_restore 9 = .ok (.invokestatic 94, 3) := by decide +kernel
theorem dX12_restore_12 : decode cX12_restore 12 = .ok (.ifCond .ne 6, 3) := by decide +kernel
theorem dX12_restore_15 : decode cX12_restore 15 = .ok (.bipush (-2), 2) := by decide +kernel
theorem dX12_restore_17 : decode cX12_restore 17 = .ok (.ireturn, 1) := by decide +kernel
theorem dX12_restore_18 : decode cX12_restore 18 = .ok (.aload_n 0, 1) := by decide +kernel
theorem dX12_restore_19 : decode cX12_restore 19 = .ok (.getfield 20, 3) := by decide +kernel
theorem dX12_restore_22 : decode cX12_restore 22 = .ok (.iload_n 1, 1) := by decide +kernel
theorem dX12_restore_23 : decode cX12_restore 23 = .ok (.baload, 1) := by decide +kernel
theorem dX12_restore_24 : decode cX12_restore 24 = .ok (.ifCond .ne 6, 3) := by decide +kernel
theorem dX12_restore_27 : decode cX12_restore 27 = .ok (.bipush (-5), 2) := by decide +kernel
theorem dX12_restore_29 : decode cX12_restore 29 = .ok (.ireturn, 1) := by decide +kernel
theorem dX12_restore_30 : decode cX12_restore 30 = .ok (.iconst 0, 1) := by decide +kernel
theorem dX12_restore_31 : decode cX12_restore 31 = .ok (.istore_n 2, 1) := by decide +kernel
theorem dX12_restore_32 : decode cX12_restore 32 = .ok (.iload_n 2, 1) := by decide +kernel
theorem dX12_restore_33 : decode cX12_restore 33 = .ok (.sipush 1033, 3) := by decide +kernel
theorem dX12_restore_36 : decode cX12_restore 36 = .ok (.if_icmp .ge 29, 3) := by decide +kernel
theorem dX12_restore_39 : decode cX12_restore 39 = .ok (.aload_n 0, 1) := by decide +kernel
theorem dX12_restore_40 : decode cX12_restore 40 = .ok (.getfield 13, 3) := by decide +kernel
theorem dX12_restore_43 : decode cX12_restore 43 = .ok (.iload_n 2, 1) := by decide +kernel
theorem dX12_restore_44 : decode cX12_restore 44 = .ok (.aload_n 0, 1) := by decide +kernel
theorem dX12_restore_45 : decode cX12_restore 45 = .ok (.getfield 13, 3) := by decide +kernel
theorem dX12_restore_48 : decode cX12_restore 48 = .ok (.sipush 1033, 3) := by decide +kernel
theorem dX12_restore_51 : decode cX12_restore 51 = .ok (.iload_n 1, 1) := by decide +kernel
theorem dX12_restore_52 : decode cX12_restore 52 = .ok (.iconst 1, 1) := by decide +kernel
theorem dX12_restore_53 : decode cX12_restore 53 = .ok (.iadd, 1) := by decide +kernel
theorem dX12_restore_54 : decode cX12_restore 54 = .ok (.imul, 1) := by decide +kernel
theorem dX12_restore_55 : decode cX12_restore 55 = .ok (.iload_n 2, 1) := by decide +kernel
theorem dX12_restore_56 : decode cX12_restore 56 = .ok (.iadd, 1) := by decide +kernel
theorem dX12_restore_57 : decode cX12_restore 57 = .ok (.iaload, 1) := by decide +kernel
theorem dX12_restore_58 : decode cX12_restore 58 = .ok (.iastore, 1) := by decide +kernel
theorem dX12_restore_59 : decode cX12_restore 59 = .ok (.iinc 2 1, 3) := by decide +kernel
theorem dX12_restore_62 : decode cX12_restore 62 = .ok (.goto (-30), 3) := by decide +kernel
theorem dX12_restore_65 : decode cX12_restore 65 = .ok (.iconst 0, 1) := by decide +kernel
theorem dX12_restore_66 : decode cX12_restore 66 = .ok (.ireturn, 1) := by decide +kernel
theorem dX12_manyStored_0 : decode cX12_manyStored 0 = .ok (.iconst 0, 1) := by decide +kernel
theorem dX12_manyStored_1 : decode cX12_manyStored 1 = .ok (.istore_n 1, 1) := by decide +kernel
theorem dX12_manyStored_2 : decode cX12_manyStored 2 = .ok (.iconst 0, 1) := by decide +kernel
theorem dX12_manyStored_3 : decode cX12_manyStored 3 = .ok (.istore_n 2, 1) := by decide +kernel
theorem dX12_manyStored_4 : decode cX12_manyStored 4 = .ok (.iload_n 2, 1) := by decide +kernel
theorem dX12_manyStored_5 : decode cX12_manyStored 5 = .ok (.bipush 8, 2) := by decide +kernel
theorem dX12_manyStored_7 : decode cX12_manyStored 7 = .ok (.if_icmp .ge 30, 3) := by decide +kernel
theorem dX12_manyStored_10 : decode cX12_manyStored 10 = .ok (.iload_n 1, 1) := by decide +kernel
theorem dX12_manyStored_11 : decode cX12_manyStored 11 = .ok (.aload_n 0, 1) := by decide +kernel
theorem dX12_manyStored_12 : decode cX12_manyStored 12 = .ok (.getfield 13, 3) := by decide +kernel
theorem dX12_manyStored_15 : decode cX12_manyStored 15 = .ok (.bipush 56, 2) := by decide +kernel
theorem dX12_manyStored_17 : decode cX12_manyStored 17 = .ok (.iload_n 2, 1) := by decide +kernel
theorem dX12_manyStored_18 : decode cX12_manyStored 18 = .ok (.iadd, 1) := by decide +kernel
theorem dX12_manyStored_19 : decode cX12_manyStored 19 = .ok (.iaload, 1) := by decide +kernel
theorem dX12_manyStored_20 : decode cX12_manyStored 20 = .ok (.iconst (-1), 1) := by decide +kernel
theorem dX12_manyStored_21 : decode cX12_manyStored 21 = .ok (.if_icmp .ne 7, 3) := by decide +kernel
theorem dX12_manyStored_24 : decode cX12_manyStored 24 = .ok (.iconst 0, 1) := by decide +kernel
theorem dX12_manyStored_25 : decode cX12_manyStored 25 = .ok (.goto 4, 3) := by decide +kernel
theorem dX12_manyStored_28 : decode cX12_manyStored 28 = .ok (.iconst 1, 1) := by decide +kernel
theorem dX12_manyStored_29 : decode cX12_manyStored 29 = .ok (.iadd, 1) := by decide +kernel
theorem dX12_manyStored_30 : decode cX12_manyStored 30 = .ok (.istore_n 1, 1) := by decide +kernel
theorem dX12_manyStored_31 : decode cX12_manyStored 31 = .ok (.iinc 2 1, 3) := by decide +kernel
theorem dX12_manyStored_34 : decode cX12_manyStored 34 = .ok (.goto (-30), 3) := by decide +kernel
theorem dX12_manyStored_37 : decode cX12_manyStored 37 = .ok (.iload_n 1, 1) := by decide +kernel
theorem dX12_manyStored_38 : decode cX12_manyStored 38 = .ok (.ireturn, 1) := by decide +kernel
theorem dX12_count_0 : decode cX12_count 0 = .ok (.aload_n 0, 1) := by decide +kernel
theorem dX12_count_1 : decode cX12_count 1 = .ok (.iconst 0, 1) := by decide +kernel
theorem dX12_count_2 : decode cX12_count 2 = .ok (.putfield 1, 3) := by decide +kernel
theorem dX12_count_5 : decode cX12_count 5 = .ok (.iload_n 1, 1) := by decide +kernel
theorem dX12_count_6 : decode cX12_count 6 = .ok (.tableswitch 247 0 19 #[94, 102, 110, 118, 126, 134, 139, 147, 155, 163, 171, 179, 187, 195, 203, 211, 218, 225, 232, 239], 94) := by decide +kernel
theorem dX12_count_100 : decode cX12_count 100 = .ok (.aload_n 0, 1) := by decide +kernel
theorem dX12_count_101 : decode cX12_count 101 = .ok (.getfield 13, 3) := by decide +kernel
theorem dX12_count_104 : decode cX12_count 104 = .ok (.bipush 7, 2) := by decide +kernel
theorem dX12_count_106 : decode cX12_count 106 = .ok (.iaload, 1) := by decide +kernel
theorem dX12_count_107 : decode cX12_count 107 = .ok (.ireturn, 1) := by decide +kernel
theorem dX12_count_108 : decode cX12_count 108 = .ok (.aload_n 0, 1) := by decide +kernel
theorem dX12_count_109 : decode cX12_count 109 = .ok (.getfield 13, 3) := by decide +kernel
theorem dX12_count_112 : decode cX12_count 112 = .ok (.bipush 28, 2) := by decide +kernel
theorem dX12_count_114 : decode cX12_count 114 = .ok (.iaload, 1) := by decide +kernel
theorem dX12_count_115 : decode cX12_count 115 = .ok (.ireturn, 1) := by decide +kernel
theorem dX12_count_116 : decode cX12_count 116 = .ok (.aload_n 0, 1) := by decide +kernel
theorem dX12_count_117 : decode cX12_count 117 = .ok (.getfield 13, 3) := by decide +kernel
theorem dX12_count_120 : decode cX12_count 120 = .ok (.bipush 29, 2) := by decide +kernel
theorem dX12_count_122 : decode cX12_count 122 = .ok (.iaload, 1) := by decide +kernel
theorem dX12_count_123 : decode cX12_count 123 = .ok (.ireturn, 1) := by decide +kernel
theorem dX12_count_124 : decode cX12_count 124 = .ok (.aload_n 0, 1) := by decide +kernel
theorem dX12_count_125 : decode cX12_count 125 = .ok (.getfield 13, 3) := by decide +kernel
theorem dX12_count_128 : decode cX12_count 128 = .ok (.bipush 30, 2) := by decide +kernel
theorem dX12_count_130 : decode cX12_count 130 = .ok (.iaload, 1) := by decide +kernel
theorem dX12_count_131 : decode cX12_count 131 = .ok (.ireturn, 1) := by decide +kernel
theorem dX12_count_132 : decode cX12_count 132 = .ok (.aload_n 0, 1) := by decide +kernel
theorem dX12_count_133 : decode cX12_count 133 = .ok (.getfield 13, 3) := by decide +kernel
theorem dX12_count_136 : decode cX12_count 136 = .ok (.bipush 55, 2) := by decide +kernel
theorem dX12_count_138 : decode cX12_count 138 = .ok (.iaload, 1) := by decide +kernel
theorem dX12_count_139 : decode cX12_count 139 = .ok (.ireturn, 1) := by decide +kernel
theorem dX12_count_140 : decode cX12_count 140 = .ok (.aload_n 0, 1) := by decide +kernel
theorem dX12_count_141 : decode cX12_count 141 = .ok (.invokevirtual 306, 3) := by decide +kernel
theorem dX12_count_144 : decode cX12_count 144 = .ok (.ireturn, 1) := by decide +kernel
theorem dX12_count_145 : decode cX12_count 145 = .ok (.aload_n 0, 1) := by decide +kernel
theorem dX12_count_146 : decode cX12_count 146 = .ok (.getfield 13, 3) := by decide +kernel
theorem dX12_count_149 : decode cX12_count 149 = .ok (.bipush 64, 2) := by decide +kernel
theorem dX12_count_151 : decode cX12_count 151 = .ok (.iaload, 1) := by decide +kernel
theorem dX12_count_152 : decode cX12_count 152 = .ok (.ireturn, 1) := by decide +kernel
theorem dX12_count_153 : decode cX12_count 153 = .ok (.aload_n 0, 1) := by decide +kernel
theorem dX12_count_154 : decode cX12_count 154 = .ok (.getfield 13, 3) := by decide +kernel
theorem dX12_count_157 : decode cX12_count 157 = .ok (.bipush 65, 2) := by decide +kernel
theorem dX12_count_159 : decode cX12_count 159 = .ok (.iaload, 1) := by decide +kernel
theorem dX12_count_160 : decode cX12_count 160 = .ok (.ireturn, 1) := by decide +kernel
theorem dX12_count_161 : decode cX12_count 161 = .ok (.aload_n 0, 1) := by decide +kernel
theorem dX12_count_162 : decode cX12_count 162 = .ok (.getfield 13, 3) := by decide +kernel
theorem dX12_count_165 : decode cX12_count 165 = .ok (.bipush 66, 2) := by decide +kernel
theorem dX12_count_167 : decode cX12_count 167 = .ok (.iaload, 1) := by decide +kernel
theorem dX12_count_168 : decode cX12_count 168 = .ok (.ireturn, 1) := by decide +kernel
theorem dX12_count_169 : decode cX12_count 169 = .ok (.aload_n 0, 1) := by decide +kernel
theorem dX12_count_170 : decode cX12_count 170 = .ok (.getfield 13, 3) := by decide +kernel
theorem dX12_count_173 : decode cX12_count 173 = .ok (.bipush 67, 2) := by decide +kernel
theorem dX12_count_175 : decode cX12_count 175 = .ok (.iaload, 1) := by decide +kernel
theorem dX12_count_176 : decode cX12_count 176 = .ok (.ireturn, 1) := by decide +kernel
theorem dX12_count_177 : decode cX12_count 177 = .ok (.aload_n 0, 1) := by decide +kernel
theorem dX12_count_178 : decode cX12_count 178 = .ok (.getfield 13, 3) := by decide +kernel
theorem dX12_count_181 : decode cX12_count 181 = .ok (.bipush 68, 2) := by decide +kernel
theorem dX12_count_183 : decode cX12_count 183 = .ok (.iaload, 1) := by decide +kernel
theorem dX12_count_184 : decode cX12_count 184 = .ok (.ireturn, 1) := by decide +kernel
theorem dX12_count_185 : decode cX12_count 185 = .ok (.aload_n 0, 1) := by decide +kernel
theorem dX12_count_186 : decode cX12_count 186 = .ok (.getfield 13, 3) := by decide +kernel
theorem dX12_count_189 : decode cX12_count 189 = .ok (.bipush 69, 2) := by decide +kernel
theorem dX12_count_191 : decode cX12_count 191 = .ok (.iaload, 1) := by decide +kernel
theorem dX12_count_192 : decode cX12_count 192 = .ok (.ireturn, 1) := by decide +kernel
theorem dX12_count_193 : decode cX12_count 193 = .ok (.aload_n 0, 1) := by decide +kernel
theorem dX12_count_194 : decode cX12_count 194 = .ok (.getfield 13, 3) := by decide +kernel
theorem dX12_count_197 : decode cX12_count 197 = .ok (.bipush 70, 2) := by decide +kernel
theorem dX12_count_199 : decode cX12_count 199 = .ok (.iaload, 1) := by decide +kernel
theorem dX12_count_200 : decode cX12_count 200 = .ok (.ireturn, 1) := by decide +kernel
theorem dX12_count_201 : decode cX12_count 201 = .ok (.aload_n 0, 1) := by decide +kernel
theorem dX12_count_202 : decode cX12_count 202 = .ok (.getfield 13, 3) := by decide +kernel
theorem dX12_count_205 : decode cX12_count 205 = .ok (.bipush 71, 2) := by decide +kernel
theorem dX12_count_207 : decode cX12_count 207 = .ok (.iaload, 1) := by decide +kernel
theorem dX12_count_208 : decode cX12_count 208 = .ok (.ireturn, 1) := by decide +kernel
theorem dX12_count_209 : decode cX12_count 209 = .ok (.aload_n 0, 1) := by decide +kernel
theorem dX12_count_210 : decode cX12_count 210 = .ok (.getfield 13, 3) := by decide +kernel
theorem dX12_count_213 : decode cX12_count 213 = .ok (.bipush 72, 2) := by decide +kernel
theorem dX12_count_215 : decode cX12_count 215 = .ok (.iaload, 1) := by decide +kernel
theorem dX12_count_216 : decode cX12_count 216 = .ok (.ireturn, 1) := by decide +kernel
theorem dX12_count_217 : decode cX12_count 217 = .ok (.aload_n 0, 1) := by decide +kernel
theorem dX12_count_218 : decode cX12_count 218 = .ok (.getfield 13, 3) := by decide +kernel
theorem dX12_count_221 : decode cX12_count 221 = .ok (.iconst 0, 1) := by decide +kernel
theorem dX12_count_222 : decode cX12_count 222 = .ok (.iaload, 1) := by decide +kernel
theorem dX12_count_223 : decode cX12_count 223 = .ok (.ireturn, 1) := by decide +kernel
theorem dX12_count_224 : decode cX12_count 224 = .ok (.aload_n 0, 1) := by decide +kernel
theorem dX12_count_225 : decode cX12_count 225 = .ok (.getfield 13, 3) := by decide +kernel
theorem dX12_count_228 : decode cX12_count 228 = .ok (.iconst 1, 1) := by decide +kernel
theorem dX12_count_229 : decode cX12_count 229 = .ok (.iaload, 1) := by decide +kernel
theorem dX12_count_230 : decode cX12_count 230 = .ok (.ireturn, 1) := by decide +kernel
theorem dX12_count_231 : decode cX12_count 231 = .ok (.aload_n 0, 1) := by decide +kernel
theorem dX12_count_232 : decode cX12_count 232 = .ok (.getfield 13, 3) := by decide +kernel
theorem dX12_count_235 : decode cX12_count 235 = .ok (.iconst 4, 1) := by decide +kernel
theorem dX12_count_236 : decode cX12_count 236 = .ok (.iaload, 1) := by decide +kernel
theorem dX12_count_237 : decode cX12_count 237 = .ok (.ireturn, 1) := by decide +kernel
theorem dX12_count_238 : decode cX12_count 238 = .ok (.aload_n 0, 1) := by decide +kernel
theorem dX12_count_239 : decode cX12_count 239 = .ok (.getfield 13, 3) := by decide +kernel
theorem dX12_count_242 : decode cX12_count 242 = .ok (.iconst 5, 1) := by decide +kernel
theorem dX12_count_243 : decode cX12_count 243 = .ok (.iaload, 1) := by decide +kernel
theorem dX12_count_244 : decode cX12_count 244 = .ok (.ireturn, 1) := by decide +kernel
theorem dX12_count_245 : decode cX12_count 245 = .ok (.aload_n 0, 1) := by decide +kernel
theorem dX12_count_246 : decode cX12_count 246 = .ok (.getfield 13, 3) := by decide +kernel
theorem dX12_count_249 : decode cX12_count 249 = .ok (.bipush 6, 2) := by decide +kernel
theorem dX12_count_251 : decode cX12_count 251 = .ok (.iaload, 1) := by decide +kernel
theorem dX12_count_252 : decode cX12_count 252 = .ok (.ireturn, 1) := by decide +kernel
theorem dX12_count_253 : decode cX12_count 253 = .ok (.iconst (-1), 1) := by decide +kernel
theorem dX12_count_254 : decode cX12_count 254 = .ok (.ireturn, 1) := by decide +kernel
theorem dJ6_bitCount_0f7a4_0 : decode cJ6_bitCount_0f7a4 0 = .ok (.iload_n 0, 1) := by decide +kernel
theorem dJ6_bitCount_0f7a4_1 : decode cJ6_bitCount_0f7a4 1 = .ok (.iload_n 0, 1) := by decide +kernel
theorem dJ6_bitCount_0f7a4_2 : decode cJ6_bitCount_0f7a4 2 = .ok (.iconst 1, 1) := by decide +kernel
theorem dJ6_bitCount_0f7a4_3 : decode cJ6_bitCount_0f7a4 3 = .ok (.iushr, 1) := by decide +kernel
theorem dJ6_bitCount_0f7a4_4 : decode cJ6_bitCount_0f7a4 4 = .ok (.ldc_w 265, 3) := by decide +kernel
theorem dJ6_bitCount_0f7a4_7 : decode cJ6_bitCount_0f7a4 7 = .ok (.iand, 1) := by decide +kernel
theorem dJ6_bitCount_0f7a4_8 : decode cJ6_bitCount_0f7a4 8 = .ok (.isub, 1) := by decide +kernel
theorem dJ6_bitCount_0f7a4_9 : decode cJ6_bitCount_0f7a4 9 = .ok (.istore_n 0, 1) := by decide +kernel
theorem dJ6_bitCount_0f7a4_10 : decode cJ6_bitCount_0f7a4 10 = .ok (.iload_n 0, 1) := by decide +kernel
theorem dJ6_bitCount_0f7a4_11 : decode cJ6_bitCount_0f7a4 11 = .ok (.ldc_w 266, 3) := by decide +kernel
theorem dJ6_bitCount_0f7a4_14 : decode cJ6_bitCount_0f7a4 14 = .ok (.iand, 1) := by decide +kernel
theorem dJ6_bitCount_0f7a4_15 : decode cJ6_bitCount_0f7a4 15 = .ok (.iload_n 0, 1) := by decide +kernel
theorem dJ6_bitCount_0f7a4_16 : decode cJ6_bitCount_0f7a4 16 = .ok (.iconst 2, 1) := by decide +kernel
theorem dJ6_bitCount_0f7a4_17 : decode cJ6_bitCount_0f7a4 17 = .ok (.iushr, 1) := by decide +kernel
theorem dJ6_bitCount_0f7a4_18 : decode cJ6_bitCount_0f7a4 18 = .ok (.ldc_w 266, 3) := by decide +kernel
theorem dJ6_bitCount_0f7a4_21 : decode cJ6_bitCount_0f7a4 21 = .ok (.iand, 1) := by decide +kernel
theorem dJ6_bitCount_0f7a4_22 : decode cJ6_bitCount_0f7a4 22 = .ok (.iadd, 1) := by decide +kernel
theorem dJ6_bitCount_0f7a4_23 : decode cJ6_bitCount_0f7a4 23 = .ok (.istore_n 0, 1) := by decide +kernel
theorem dJ6_bitCount_0f7a4_24 : decode cJ6_bitCount_0f7a4 24 = .ok (.iload_n 0, 1) := by decide +kernel
theorem dJ6_bitCount_0f7a4_25 : decode cJ6_bitCount_0f7a4 25 = .ok (.iload_n 0, 1) := by decide +kernel
theorem dJ6_bitCount_0f7a4_26 : decode cJ6_bitCount_0f7a4 26 = .ok (.iconst 4, 1) := by decide +kernel
theorem dJ6_bitCount_0f7a4_27 : decode cJ6_bitCount_0f7a4 27 = .ok (.iushr, 1) := by decide +kernel
theorem dJ6_bitCount_0f7a4_28 : decode cJ6_bitCount_0f7a4 28 = .ok (.iadd, 1) := by decide +kernel
theorem dJ6_bitCount_0f7a4_29 : decode cJ6_bitCount_0f7a4 29 = .ok (.ldc_w 267, 3) := by decide +kernel
theorem dJ6_bitCount_0f7a4_32 : decode cJ6_bitCount_0f7a4 32 = .ok (.iand, 1) := by decide +kernel
theorem dJ6_bitCount_0f7a4_33 : decode cJ6_bitCount_0f7a4 33 = .ok (.istore_n 0, 1) := by decide +kernel
theorem dJ6_bitCount_0f7a4_34 : decode cJ6_bitCount_0f7a4 34 = .ok (.iload_n 0, 1) := by decide +kernel
theorem dJ6_bitCount_0f7a4_35 : decode cJ6_bitCount_0f7a4 35 = .ok (.iload_n 0, 1) := by decide +kernel
theorem dJ6_bitCount_0f7a4_36 : decode cJ6_bitCount_0f7a4 36 = .ok (.bipush 8, 2) := by decide +kernel
theorem dJ6_bitCount_0f7a4_38 : decode cJ6_bitCount_0f7a4 38 = .ok (.iushr, 1) := by decide +kernel
theorem dJ6_bitCount_0f7a4_39 : decode cJ6_bitCount_0f7a4 39 = .ok (.iadd, 1) := by decide +kernel
theorem dJ6_bitCount_0f7a4_40 : decode cJ6_bitCount_0f7a4 40 = .ok (.istore_n 0, 1) := by decide +kernel
theorem dJ6_bitCount_0f7a4_41 : decode cJ6_bitCount_0f7a4 41 = .ok (.iload_n 0, 1) := by decide +kernel
theorem dJ6_bitCount_0f7a4_42 : decode cJ6_bitCount_0f7a4 42 = .ok (.iload_n 0, 1) := by decide +kernel
theorem dJ6_bitCount_0f7a4_43 : decode cJ6_bitCount_0f7a4 43 = .ok (.bipush 16, 2) := by decide +kernel
theorem dJ6_bitCount_0f7a4_45 : decode cJ6_bitCount_0f7a4 45 = .ok (.iushr, 1) := by decide +kernel
theorem dJ6_bitCount_0f7a4_46 : decode cJ6_bitCount_0f7a4 46 = .ok (.iadd, 1) := by decide +kernel
theorem dJ6_bitCount_0f7a4_47 : decode cJ6_bitCount_0f7a4 47 = .ok (.istore_n 0, 1) := by decide +kernel
theorem dJ6_bitCount_0f7a4_48 : decode cJ6_bitCount_0f7a4 48 = .ok (.iload_n 0, 1) := by decide +kernel
theorem dJ6_bitCount_0f7a4_49 : decode cJ6_bitCount_0f7a4 49 = .ok (.bipush 63, 2) := by decide +kernel
theorem dJ6_bitCount_0f7a4_51 : decode cJ6_bitCount_0f7a4 51 = .ok (.iand, 1) := by decide +kernel
theorem dJ6_bitCount_0f7a4_52 : decode cJ6_bitCount_0f7a4 52 = .ok (.ireturn, 1) := by decide +kernel
theorem dJ13_bitCount_95d88_0 : decode cJ13_bitCount_95d88 0 = .ok (.lload_n 0, 1) := by decide +kernel
theorem dJ13_bitCount_95d88_1 : decode cJ13_bitCount_95d88 1 = .ok (.lload_n 0, 1) := by decide +kernel
theorem dJ13_bitCount_95d88_2 : decode cJ13_bitCount_95d88 2 = .ok (.iconst 1, 1) := by decide +kernel
theorem dJ13_bitCount_95d88_3 : decode cJ13_bitCount_95d88 3 = .ok (.lushr, 1) := by decide +kernel
theorem dJ13_bitCount_95d88_4 : decode cJ13_bitCount_95d88 4 = .ok (.ldc2_w 314, 3) := by decide +kernel
theorem dJ13_bitCount_95d88_7 : decode cJ13_bitCount_95d88 7 = .ok (.land, 1) := by decide +kernel
theorem dJ13_bitCount_95d88_8 : decode cJ13_bitCount_95d88 8 = .ok (.lsub, 1) := by decide +kernel
theorem dJ13_bitCount_95d88_9 : decode cJ13_bitCount_95d88 9 = .ok (.lstore_n 0, 1) := by decide +kernel
theorem dJ13_bitCount_95d88_10 : decode cJ13_bitCount_95d88 10 = .ok (.lload_n 0, 1) := by decide +kernel
theorem dJ13_bitCount_95d88_11 : decode cJ13_bitCount_95d88 11 = .ok (.ldc2_w 316, 3) := by decide +kernel
theorem dJ13_bitCount_95d88_14 : decode cJ13_bitCount_95d88 14 = .ok (.land, 1) := by decide +kernel
theorem dJ13_bitCount_95d88_15 : decode cJ13_bitCount_95d88 15 = .ok (.lload_n 0, 1) := by decide +kernel
theorem dJ13_bitCount_95d88_16 : decode cJ13_bitCount_95d88 16 = .ok (.iconst 2, 1) := by decide +kernel
theorem dJ13_bitCount_95d88_17 : decode cJ13_bitCount_95d88 17 = .ok (.lushr, 1) := by decide +kernel
theorem dJ13_bitCount_95d88_18 : decode cJ13_bitCount_95d88 18 = .ok (.ldc2_w 316, 3) := by decide +kernel
theorem dJ13_bitCount_95d88_21 : decode cJ13_bitCount_95d88 21 = .ok (.land, 1) := by decide +kernel
theorem dJ13_bitCount_95d88_22 : decode cJ13_bitCount_95d88 22 = .ok (.ladd, 1) := by decide +kernel
theorem dJ13_bitCount_95d88_23 : decode cJ13_bitCount_95d88 23 = .ok (.lstore_n 0, 1) := by decide +kernel
theorem dJ13_bitCount_95d88_24 : decode cJ13_bitCount_95d88 24 = .ok (.lload_n 0, 1) := by decide +kernel
theorem dJ13_bitCount_95d88_25 : decode cJ13_bitCount_95d88 25 = .ok (.lload_n 0, 1) := by decide +kernel
theorem dJ13_bitCount_95d88_26 : decode cJ13_bitCount_95d88 26 = .ok (.iconst 4, 1) := by decide +kernel
theorem dJ13_bitCount_95d88_27 : decode cJ13_bitCount_95d88 27 = .ok (.lushr, 1) := by decide +kernel
theorem dJ13_bitCount_95d88_28 : decode cJ13_bitCount_95d88 28 = .ok (.ladd, 1) := by decide +kernel
theorem dJ13_bitCount_95d88_29 : decode cJ13_bitCount_95d88 29 = .ok (.ldc2_w 318, 3) := by decide +kernel
theorem dJ13_bitCount_95d88_32 : decode cJ13_bitCount_95d88 32 = .ok (.land, 1) := by decide +kernel
theorem dJ13_bitCount_95d88_33 : decode cJ13_bitCount_95d88 33 = .ok (.lstore_n 0, 1) := by decide +kernel
theorem dJ13_bitCount_95d88_34 : decode cJ13_bitCount_95d88 34 = .ok (.lload_n 0, 1) := by decide +kernel
theorem dJ13_bitCount_95d88_35 : decode cJ13_bitCount_95d88 35 = .ok (.lload_n 0, 1) := by decide +kernel
theorem dJ13_bitCount_95d88_36 : decode cJ13_bitCount_95d88 36 = .ok (.bipush 8, 2) := by decide +kernel
theorem dJ13_bitCount_95d88_38 : decode cJ13_bitCount_95d88 38 = .ok (.lushr, 1) := by decide +kernel
theorem dJ13_bitCount_95d88_39 : decode cJ13_bitCount_95d88 39 = .ok (.ladd, 1) := by decide +kernel
theorem dJ13_bitCount_95d88_40 : decode cJ13_bitCount_95d88 40 = .ok (.lstore_n 0, 1) := by decide +kernel
theorem dJ13_bitCount_95d88_41 : decode cJ13_bitCount_95d88 41 = .ok (.lload_n 0, 1) := by decide +kernel
theorem dJ13_bitCount_95d88_42 : decode cJ13_bitCount_95d88 42 = .ok (.lload_n 0, 1) := by decide +kernel
theorem dJ13_bitCount_95d88_43 : decode cJ13_bitCount_95d88 43 = .ok (.bipush 16, 2) := by decide +kernel
theorem dJ13_bitCount_95d88_45 : decode cJ13_bitCount_95d88 45 = .ok (.lushr, 1) := by decide +kernel
theorem dJ13_bitCount_95d88_46 : decode cJ13_bitCount_95d88 46 = .ok (.ladd, 1) := by decide +kernel
theorem dJ13_bitCount_95d88_47 : decode cJ13_bitCount_95d88 47 = .ok (.lstore_n 0, 1) := by decide +kernel
theorem dJ13_bitCount_95d88_48 : decode cJ13_bitCount_95d88 48 = .ok (.lload_n 0, 1) := by decide +kernel
theorem dJ13_bitCount_95d88_49 : decode cJ13_bitCount_95d88 49 = .ok (.lload_n 0, 1) := by decide +kernel
theorem dJ13_bitCount_95d88_50 : decode cJ13_bitCount_95d88 50 = .ok (.bipush 32, 2) := by decide +kernel
theorem dJ13_bitCount_95d88_52 : decode cJ13_bitCount_95d88 52 = .ok (.lushr, 1) := by decide +kernel
theorem dJ13_bitCount_95d88_53 : decode cJ13_bitCount_95d88 53 = .ok (.ladd, 1) := by decide +kernel
theorem dJ13_bitCount_95d88_54 : decode cJ13_bitCount_95d88 54 = .ok (.lstore_n 0, 1) := by decide +kernel
theorem dJ13_bitCount_95d88_55 : decode cJ13_bitCount_95d88 55 = .ok (.lload_n 0, 1) := by decide +kernel
theorem dJ13_bitCount_95d88_56 : decode cJ13_bitCount_95d88 56 = .ok (.l2i, 1) := by decide +kernel
theorem dJ13_bitCount_95d88_57 : decode cJ13_bitCount_95d88 57 = .ok (.bipush 127, 2) := by decide +kernel
theorem dJ13_bitCount_95d88_59 : decode cJ13_bitCount_95d88 59 = .ok (.iand, 1) := by decide +kernel
theorem dJ13_bitCount_95d88_60 : decode cJ13_bitCount_95d88 60 = .ok (.ireturn, 1) := by decide +kernel
theorem dJ9_max_7cf53_0 : decode cJ9_max_7cf53 0 = .ok (.iload_n 0, 1) := by decide +kernel
theorem dJ9_max_7cf53_1 : decode cJ9_max_7cf53 1 = .ok (.iload_n 1, 1) := by decide +kernel
theorem dJ9_max_7cf53_2 : decode cJ9_max_7cf53 2 = .ok (.if_icmp .lt 7, 3) := by decide +kernel
theorem dJ9_max_7cf53_5 : decode cJ9_max_7cf53 5 = .ok (.iload_n 0, 1) := by decide +kernel
theorem dJ9_max_7cf53_6 : decode cJ9_max_7cf53 6 = .ok (.goto 4, 3) := by decide +kernel
theorem dJ9_max_7cf53_9 : decode cJ9_max_7cf53 9 = .ok (.iload_n 1, 1) := by decide +kernel
theorem dJ9_max_7cf53_10 : decode cJ9_max_7cf53 10 = .ok (.ireturn, 1) := by decide +kernel
theorem dJ9_min_7cf53_0 : decode cJ9_min_7cf53 0 = .ok (.iload_n 0, 1) := by decide +kernel
theorem dJ9_min_7cf53_1 : decode cJ9_min_7cf53 1 = .ok (.iload_n 1, 1) := by decide +kernel
theorem dJ9_min_7cf53_2 : decode cJ9_min_7cf53 2 = .ok (.if_icmp .gt 7, 3) := by decide +kernel
theorem dJ9_min_7cf53_5 : decode cJ9_min_7cf53 5 = .ok (.iload_n 0, 1) := by decide +kernel
theorem dJ9_min_7cf53_6 : decode cJ9_min_7cf53 6 = .ok (.goto 4, 3) := by decide +kernel
theorem dJ9_min_7cf53_9 : decode cJ9_min_7cf53 9 = .ok (.iload_n 1, 1) := by decide +kernel
theorem dJ9_min_7cf53_10 : decode cJ9_min_7cf53 10 = .ok (.ireturn, 1) := by decide +kernel
theorem dJ7_fill_d0a16_0 : decode cJ7_fill_d0a16 0 = .ok (.iconst 0, 1) := by decide +kernel
theorem dJ7_fill_d0a16_1 : decode cJ7_fill_d0a16 1 = .ok (.istore_n 3, 1) := by decide +kernel
theorem dJ7_fill_d0a16_2 : decode cJ7_fill_d0a16 2 = .ok (.aload_n 0, 1) := by decide +kernel
theorem dJ7_fill_d0a16_3 : decode cJ7_fill_d0a16 3 = .ok (.arraylength, 1) := by decide +kernel
theorem dJ7_fill_d0a16_4 : decode cJ7_fill_d0a16 4 = .ok (.istore 4, 2) := by decide +kernel
theorem dJ7_fill_d0a16_6 : decode cJ7_fill_d0a16 6 = .ok (.iload_n 3, 1) := by decide +kernel
theorem dJ7_fill_d0a16_7 : decode cJ7_fill_d0a16 7 = .ok (.iload 4, 2) := by decide +kernel
theorem dJ7_fill_d0a16_9 : decode cJ7_fill_d0a16 9 = .ok (.if_icmp .ge 13, 3) := by decide +kernel
theorem dJ7_fill_d0a16_12 : decode cJ7_fill_d0a16 12 = .ok (.aload_n 0, 1) := by decide +kernel
theorem dJ7_fill_d0a16_13 : decode cJ7_fill_d0a16 13 = .ok (.iload_n 3, 1) := by decide +kernel
theorem dJ7_fill_d0a16_14 : decode cJ7_fill_d0a16 14 = .ok (.lload_n 1, 1) := by decide +kernel
theorem dJ7_fill_d0a16_15 : decode cJ7_fill_d0a16 15 = .ok (.lastore, 1) := by decide +kernel
theorem dJ7_fill_d0a16_16 : decode cJ7_fill_d0a16 16 = .ok (.iinc 3 1, 3) := by decide +kernel
theorem dJ7_fill_d0a16_19 : decode cJ7_fill_d0a16 19 = .ok (.goto (-13), 3) := by decide +kernel
theorem dJ7_fill_d0a16_22 : decode cJ7_fill_d0a16 22 = .ok (.return_, 1) := by decide +kernel
theorem dJ7_fill_53178_0 : decode cJ7_fill_53178 0 = .ok (.iconst 0, 1) := by decide +kernel
theorem dJ7_fill_53178_1 : decode cJ7_fill_53178 1 = .ok (.istore_n 2, 1) := by decide +kernel
theorem dJ7_fill_53178_2 : decode cJ7_fill_53178 2 = .ok (.aload_n 0, 1) := by decide +kernel
theorem dJ7_fill_53178_3 : decode cJ7_fill_53178 3 = .ok (.arraylength, 1) := by decide +kernel
theorem dJ7_fill_53178_4 : decode cJ7_fill_53178 4 = .ok (.istore_n 3, 1) := by decide +kernel
theorem dJ7_fill_53178_5 : decode cJ7_fill_53178 5 = .ok (.iload_n 2, 1) := by decide +kernel
theorem dJ7_fill_53178_6 : decode cJ7_fill_53178 6 = .ok (.iload_n 3, 1) := by decide +kernel
theorem dJ7_fill_53178_7 : decode cJ7_fill_53178 7 = .ok (.if_icmp .ge 13, 3) := by decide +kernel
theorem dJ7_fill_53178_10 : decode cJ7_fill_53178 10 = .ok (.aload_n 0, 1) := by decide +kernel
theorem dJ7_fill_53178_11 : decode cJ7_fill_53178 11 = .ok (.iload_n 2, 1) := by decide +kernel
theorem dJ7_fill_53178_12 : decode cJ7_fill_53178 12 = .ok (.iload_n 1, 1) := by decide +kernel
theorem dJ7_fill_53178_13 : decode cJ7_fill_53178 13 = .ok (.iastore, 1) := by decide +kernel
theorem dJ7_fill_53178_14 : decode cJ7_fill_53178 14 = .ok (.iinc 2 1, 3) := by decide +kernel
theorem dJ7_fill_53178_17 : decode cJ7_fill_53178 17 = .ok (.goto (-12), 3) := by decide +kernel
theorem dJ7_fill_53178_20 : decode cJ7_fill_53178 20 = .ok (.return_, 1) := by decide +kernel
theorem dJ7_fill_031fb_0 : decode cJ7_fill_031fb 0 = .ok (.iconst 0, 1) := by decide +kernel
theorem dJ7_fill_031fb_1 : decode cJ7_fill_031fb 1 = .ok (.istore_n 2, 1) := by decide +kernel
theorem dJ7_fill_031fb_2 : decode cJ7_fill_031fb 2 = .ok (.aload_n 0, 1) := by decide +kernel
theorem dJ7_fill_031fb_3 : decode cJ7_fill_031fb 3 = .ok (.arraylength, 1) := by decide +kernel
theorem dJ7_fill_031fb_4 : decode cJ7_fill_031fb 4 = .ok (.istore_n 3, 1) := by decide +kernel
theorem dJ7_fill_031fb_5 : decode cJ7_fill_031fb 5 = .ok (.iload_n 2, 1) := by decide +kernel
theorem dJ7_fill_031fb_6 : decode cJ7_fill_031fb 6 = .ok (.iload_n 3, 1) := by decide +kernel
theorem dJ7_fill_031fb_7 : decode cJ7_fill_031fb 7 = .ok (.if_icmp .ge 13, 3) := by decide +kernel
theorem dJ7_fill_031fb_10 : decode cJ7_fill_031fb 10 = .ok (.aload_n 0, 1) := by decide +kernel
theorem dJ7_fill_031fb_11 : decode cJ7_fill_031fb 11 = .ok (.iload_n 2, 1) := by decide +kernel
theorem dJ7_fill_031fb_12 : decode cJ7_fill_031fb 12 = .ok (.iload_n 1, 1) := by decide +kernel
theorem dJ7_fill_031fb_13 : decode cJ7_fill_031fb 13 = .ok (.bastore, 1) := by decide +kernel
theorem dJ7_fill_031fb_14 : decode cJ7_fill_031fb 14 = .ok (.iinc 2 1, 3) := by decide +kernel
theorem dJ7_fill_031fb_17 : decode cJ7_fill_031fb 17 = .ok (.goto (-12), 3) := by decide +kernel
theorem dJ7_fill_031fb_20 : decode cJ7_fill_031fb 20 = .ok (.return_, 1) := by decide +kernel
theorem dL_law_0 : decode cL_law 0 = .ok (.new 7, 3) := by decide +kernel
theorem dL_law_3 : decode cL_law 3 = .ok (.dup, 1) := by decide +kernel
theorem dL_law_4 : decode cL_law 4 = .ok (.invokespecial 9, 3) := by decide +kernel
theorem dL_law_7 : decode cL_law 7 = .ok (.astore_n 1, 1) := by decide +kernel
theorem dL_law_8 : decode cL_law 8 = .ok (.new 10, 3) := by decide +kernel
theorem dL_law_11 : decode cL_law 11 = .ok (.dup, 1) := by decide +kernel
theorem dL_law_12 : decode cL_law 12 = .ok (.invokespecial 12, 3) := by decide +kernel
theorem dL_law_15 : decode cL_law 15 = .ok (.astore_n 2, 1) := by decide +kernel
theorem dL_law_16 : decode cL_law 16 = .ok (.iconst 0, 1) := by decide +kernel
theorem dL_law_17 : decode cL_law 17 = .ok (.istore_n 3, 1) := by decide +kernel
theorem dL_law_18 : decode cL_law 18 = .ok (.iload_n 3, 1) := by decide +kernel
theorem dL_law_19 : decode cL_law 19 = .ok (.aload_n 0, 1) := by decide +kernel
theorem dL_law_20 : decode cL_law 20 = .ok (.arraylength, 1) := by decide +kernel
theorem dL_law_21 : decode cL_law 21 = .ok (.bipush 6, 2) := by decide +kernel
theorem dL_law_23 : decode cL_law 23 = .ok (.isub, 1) := by decide +kernel
theorem dL_law_24 : decode cL_law 24 = .ok (.if_icmp .gt 1940, 3) := by decide +kernel
theorem dL_law_27 : decode cL_law 27 = .ok (.aload_n 0, 1) := by decide +kernel
theorem dL_law_28 : decode cL_law 28 = .ok (.iload_n 3, 1) := by decide +kernel
theorem dL_law_29 : decode cL_law 29 = .ok (.iaload, 1) := by decide +kernel
theorem dL_law_30 : decode cL_law 30 = .ok (.bipush 63, 2) := by decide +kernel
theorem dL_law_32 : decode cL_law 32 = .ok (.iand, 1) := by decide +kernel
theorem dL_law_33 : decode cL_law 33 = .ok (.tableswitch 1925 0 53 #[231, 264, 287, 311, 334, 377, 410, 444, 497, 540, 573, 606, 649, 712, 735, 758, 781, 824, 857, 910, 933, 946, 999, 1012, 1035, 1068, 1101, 1134, 1157, 1180, 1213, 1256, 1289, 1322, 1345, 1378, 1401, 1424, 1457, 1490, 1523, 1556, 1589, 1622, 1645, 1668, 1691, 1714, 1747, 1780, 1823, 1856, 1879, 1902], 231) := by decide +kernel
theorem dL_law_264 : decode cL_law 264 = .ok (.aload_n 1, 1) := by decide +kernel
theorem dL_law_265 : decode cL_law 265 = .ok (.aload_n 0, 1) := by decide +kernel
theorem dL_law_266 : decode cL_law 266 = .ok (.iload_n 3, 1) := by decide +kernel
theorem dL_law_267 : decode cL_law 267 = .ok (.iconst 1, 1) := by decide +kernel
theorem dL_law_268 : decode cL_law 268 = .ok (.iadd, 1) := by decide +kernel
theorem dL_law_269 : decode cL_law 269 = .ok (.iaload, 1) := by decide +kernel
theorem dL_law_270 : decode cL_law 270 = .ok (.aload_n 0, 1) := by decide +kernel
theorem dL_law_271 : decode cL_law 271 = .ok (.iload_n 3, 1) := by decide +kernel
theorem dL_law_272 : decode cL_law 272 = .ok (.iconst 2, 1) := by decide +kernel
theorem dL_law_273 : decode cL_law 273 = .ok (.iadd, 1) := by decide +kernel
theorem dL_law_274 : decode cL_law 274 = .ok (.iaload, 1) := by decide +kernel
theorem dL_law_275 : decode cL_law 275 = .ok (.invokevirtual 13, 3) := by decide +kernel
theorem dL_law_278 : decode cL_law 278 = .ok (.aload_n 2, 1) := by decide +kernel
theorem dL_law_279 : decode cL_law 279 = .ok (.aload_n 0, 1) := by decide +kernel
theorem dL_law_280 : decode cL_law 280 = .ok (.iload_n 3, 1) := by decide +kernel
theorem dL_law_281 : decode cL_law 281 = .ok (.iconst 1, 1) := by decide +kernel
theorem dL_law_282 : decode cL_law 282 = .ok (.iadd, 1) := by decide +kernel
theorem dL_law_283 : decode cL_law 283 = .ok (.iaload, 1) := by decide +kernel
theorem dL_law_284 : decode cL_law 284 = .ok (.aload_n 0, 1) := by decide +kernel
theorem dL_law_285 : decode cL_law 285 = .ok (.iload_n 3, 1) := by decide +kernel
theorem dL_law_286 : decode cL_law 286 = .ok (.iconst 2, 1) := by decide +kernel
theorem dL_law_287 : decode cL_law 287 = .ok (.iadd, 1) := by decide +kernel
theorem dL_law_288 : decode cL_law 288 = .ok (.iaload, 1) := by decide +kernel
theorem dL_law_289 : decode cL_law 289 = .ok (.invokevirtual 17, 3) := by decide +kernel
theorem dL_law_292 : decode cL_law 292 = .ok (.if_icmp .eq 1666, 3) := by decide +kernel
theorem dL_law_295 : decode cL_law 295 = .ok (.iconst 0, 1) := by decide +kernel
theorem dL_law_296 : decode cL_law 296 = .ok (.ireturn, 1) := by decide +kernel
theorem dL_law_297 : decode cL_law 297 = .ok (.aload_n 1, 1) := by decide +kernel
theorem dL_law_298 : decode cL_law 298 = .ok (.aload_n 0, 1) := by decide +kernel
theorem dL_law_299 : decode cL_law 299 = .ok (.iload_n 3, 1) := by decide +kernel
theorem dL_law_300 : decode cL_law 300 = .ok (.iconst 1, 1) := by decide +kernel
theorem dL_law_301 : decode cL_law 301 = .ok (.iadd, 1) := by decide +kernel
theorem dL_law_302 : decode cL_law 302 = .ok (.iaload, 1) := by decide +kernel
theorem dL_law_303 : decode cL_law 303 = .ok (.invokevirtual 18, 3) := by decide +kernel
theorem dL_law_306 : decode cL_law 306 = .ok (.aload_n 2, 1) := by decide +kernel
theorem dL_law_307 : decode cL_law 307 = .ok (.aload_n 0, 1) := by decide +kernel
theorem dL_law_308 : decode cL_law 308 = .ok (.iload_n 3, 1) := by decide +kernel
theorem dL_law_309 : decode cL_law 309 = .ok (.iconst 1, 1) := by decide +kernel
theorem dL_law_310 : decode cL_law 310 = .ok (.iadd, 1) := by decide +kernel
theorem dL_law_311 : decode cL_law 311 = .ok (.iaload, 1) := by decide +kernel
theorem dL_law_312 : decode cL_law 312 = .ok (.invokevirtual 22, 3) := by decide +kernel
theorem dL_law_315 : decode cL_law 315 = .ok (.if_icmp .eq 1643, 3) := by decide +kernel
theorem dL_law_318 : decode cL_law 318 = .ok (.iconst 0, 1) := by decide +kernel
theorem dL_law_319 : decode cL_law 319 = .ok (.ireturn, 1) := by decide +kernel
theorem dL_law_320 : decode cL_law 320 = .ok (.aload_n 1, 1) := by decide +kernel
theorem dL_law_321 : decode cL_law 321 = .ok (.aload_n 0, 1) := by decide +kernel
theorem dL_law_322 : decode cL_law 322 = .ok (.iload_n 3, 1) := by decide +kernel
theorem dL_law_323 : decode cL_law 323 = .ok (.iconst 1, 1) := by decide +kernel
theorem dL_law_324 : decode cL_law 324 = .ok (.iadd, 1) := by decide +kernel
theorem dL_law_325 : decode cL_law 325 = .ok (.iaload, 1) := by decide +kernel
theorem dL_law_326 : decode cL_law 326 = .ok (.invokevirtual 23, 3) := by decide +kernel
theorem dL_law_329 : decode cL_law 329 = .ok (.aload_n 2, 1) := by decide +kernel
theorem dL_law_330 : decode cL_law 330 = .ok (.aload_n 0, 1) := by decide +kernel
theorem dL_law_331 : decode cL_law 331 = .ok (.iload_n 3, 1) := by decide +kernel
theorem dL_law_332 : decode cL_law 332 = .ok (.iconst 1, 1) := by decide +kernel
theorem dL_law_333 : decode cL_law 333 = .ok (.iadd, 1) := by decide +kernel
theorem dL_law_334 : decode cL_law 334 = .ok (.iaload, 1) := by decide +kernel
theorem dL_law_335 : decode cL_law 335 = .ok (.invokevirtual 27, 3) := by decide +kernel
theorem dL_law_338 : decode cL_law 338 = .ok (.lcmp, 1) := by decide +kernel
theorem dL_law_339 : decode cL_law 339 = .ok (.ifCond .eq 1619, 3) := by decide +kernel
theorem dL_law_342 : decode cL_law 342 = .ok (.iconst 0, 1) := by decide +kernel
theorem dL_law_343 : decode cL_law 343 = .ok (.ireturn, 1) := by decide +kernel
theorem dL_law_344 : decode cL_law 344 = .ok (.aload_n 1, 1) := by decide +kernel
theorem dL_law_345 : decode cL_law 345 = .ok (.aload_n 0, 1) := by decide +kernel
theorem dL_law_346 : decode cL_law 346 = .ok (.iload_n 3, 1) := by decide +kernel
theorem dL_law_347 : decode cL_law 347 = .ok (.iconst 1, 1) := by decide +kernel
theorem dL_law_348 : decode cL_law 348 = .ok (.iadd, 1) := by decide +kernel
theorem dL_law_349 : decode cL_law 349 = .ok (.iaload, 1) := by decide +kernel
theorem dL_law_350 : decode cL_law 350 = .ok (.invokevirtual 28, 3) := by decide +kernel
theorem dL_law_353 : decode cL_law 353 = .ok (.aload_n 2, 1) := by decide +kernel
theorem dL_law_354 : decode cL_law 354 = .ok (.aload_n 0, 1) := by decide +kernel
theorem dL_law_355 : decode cL_law 355 = .ok (.iload_n 3, 1) := by decide +kernel
theorem dL_law_356 : decode cL_law 356 = .ok (.iconst 1, 1) := by decide +kernel
theorem dL_law_357 : decode cL_law 357 = .ok (.iadd, 1) := by decide +kernel
theorem dL_law_358 : decode cL_law 358 = .ok (.iaload, 1) := by decide +kernel
theorem dL_law_359 : decode cL_law 359 = .ok (.invokevirtual 31, 3) := by decide +kernel
theorem dL_law_362 : decode cL_law 362 = .ok (.if_icmp .eq 1596, 3) := by decide +kernel
theorem dL_law_365 : decode cL_law 365 = .ok (.iconst 0, 1) := by decide +kernel
theorem dL_law_366 : decode cL_law 366 = .ok (.ireturn, 1) := by decide +kernel
theorem dL_law_367 : decode cL_law 367 = .ok (.aload_n 1, 1) := by decide +kernel
theorem dL_law_368 : decode cL_law 368 = .ok (.aload_n 0, 1) := by decide +kernel
theorem dL_law_369 : decode cL_law 369 = .ok (.iload_n 3, 1) := by decide +kernel
theorem dL_law_370 : decode cL_law 370 = .ok (.iconst 1, 1) := by decide +kernel
theorem dL_law_371 : decode cL_law 371 = .ok (.iadd, 1) := by decide +kernel
theorem dL_law_372 : decode cL_law 372 = .ok (.iaload, 1) := by decide +kernel
theorem dL_law_373 : decode cL_law 373 = .ok (.aload_n 0, 1) := by decide +kernel
theorem dL_law_374 : decode cL_law 374 = .ok (.iload_n 3, 1) := by decide +kernel
theorem dL_law_375 : decode cL_law 375 = .ok (.iconst 2, 1) := by decide +kernel
theorem dL_law_376 : decode cL_law 376 = .ok (.iadd, 1) := by decide +kernel
theorem dL_law_377 : decode cL_law 377 = .ok (.iaload, 1) := by decide +kernel
theorem dL_law_378 : decode cL_law 378 = .ok (.aload_n 0, 1) := by decide +kernel
theorem dL_law_379 : decode cL_law 379 = .ok (.iload_n 3, 1) := by decide +kernel
theorem dL_law_380 : decode cL_law 380 = .ok (.iconst 3, 1) := by decide +kernel
theorem dL_law_381 : decode cL_law 381 = .ok (.iadd, 1) := by decide +kernel
theorem dL_law_382 : decode cL_law 382 = .ok (.iaload, 1) := by decide +kernel
theorem dL_law_383 : decode cL_law 383 = .ok (.invokevirtual 32, 3) := by decide +kernel
theorem dL_law_386 : decode cL_law 386 = .ok (.aload_n 2, 1) := by decide +kernel
theorem dL_law_387 : decode cL_law 387 = .ok (.aload_n 0, 1) := by decide +kernel
theorem dL_law_388 : decode cL_law 388 = .ok (.iload_n 3, 1) := by decide +kernel
theorem dL_law_389 : decode cL_law 389 = .ok (.iconst 1, 1) := by decide +kernel
theorem dL_law_390 : decode cL_law 390 = .ok (.iadd, 1) := by decide +kernel
theorem dL_law_391 : decode cL_law 391 = .ok (.iaload, 1) := by decide +kernel
theorem dL_law_392 : decode cL_law 392 = .ok (.aload_n 0, 1) := by decide +kernel
theorem dL_law_393 : decode cL_law 393 = .ok (.iload_n 3, 1) := by decide +kernel
theorem dL_law_394 : decode cL_law 394 = .ok (.iconst 2, 1) := by decide +kernel
theorem dL_law_395 : decode cL_law 395 = .ok (.iadd, 1) := by decide +kernel
theorem dL_law_396 : decode cL_law 396 = .ok (.iaload, 1) := by decide +kernel
theorem dL_law_397 : decode cL_law 397 = .ok (.aload_n 0, 1) := by decide +kernel
theorem dL_law_398 : decode cL_law 398 = .ok (.iload_n 3, 1) := by decide +kernel
theorem dL_law_399 : decode cL_law 399 = .ok (.iconst 3, 1) := by decide +kernel
theorem dL_law_400 : decode cL_law 400 = .ok (.iadd, 1) := by decide +kernel
theorem dL_law_401 : decode cL_law 401 = .ok (.iaload, 1) := by decide +kernel
theorem dL_law_402 : decode cL_law 402 = .ok (.invokevirtual 36, 3) := by decide +kernel
theorem dL_law_405 : decode cL_law 405 = .ok (.if_icmp .eq 1553, 3) := by decide +kernel
theorem dL_law_408 : decode cL_law 408 = .ok (.iconst 0, 1) := by decide +kernel
theorem dL_law_409 : decode cL_law 409 = .ok (.ireturn, 1) := by decide +kernel
theorem dL_law_410 : decode cL_law 410 = .ok (.aload_n 1, 1) := by decide +kernel
theorem dL_law_411 : decode cL_law 411 = .ok (.aload_n 0, 1) := by decide +kernel
theorem dL_law_412 : decode cL_law 412 = .ok (.iload_n 3, 1) := by decide +kernel
theorem dL_law_413 : decode cL_law 413 = .ok (.iconst 1, 1) := by decide +kernel
theorem dL_law_414 : decode cL_law 414 = .ok (.iadd, 1) := by decide +kernel
theorem dL_law_415 : decode cL_law 415 = .ok (.iaload, 1) := by decide +kernel
theorem dL_law_416 : decode cL_law 416 = .ok (.aload_n 0, 1) := by decide +kernel
theorem dL_law_417 : decode cL_law 417 = .ok (.iload_n 3, 1) := by decide +kernel
theorem dL_law_418 : decode cL_law 418 = .ok (.iconst 2, 1) := by decide +kernel
theorem dL_law_419 : decode cL_law 419 = .ok (.iadd, 1) := by decide +kernel
theorem dL_law_420 : decode cL_law 420 = .ok (.iaload, 1) := by decide +kernel
theorem dL_law_421 : decode cL_law 421 = .ok (.invokevirtual 37, 3) := by decide +kernel
theorem dL_law_424 : decode cL_law 424 = .ok (.aload_n 2, 1) := by decide +kernel
theorem dL_law_425 : decode cL_law 425 = .ok (.aload_n 0, 1) := by decide +kernel
theorem dL_law_426 : decode cL_law 426 = .ok (.iload_n 3, 1) := by decide +kernel
theorem dL_law_427 : decode cL_law 427 = .ok (.iconst 1, 1) := by decide +kernel
theorem dL_law_428 : decode cL_law 428 = .ok (.iadd, 1) := by decide +kernel
theorem dL_law_429 : decode cL_law 429 = .ok (.iaload, 1) := by decide +kernel
theorem dL_law_430 : decode cL_law 430 = .ok (.aload_n 0, 1) := by decide +kernel
theorem dL_law_431 : decode cL_law 431 = .ok (.iload_n 3, 1) := by decide +kernel
theorem dL_law_432 : decode cL_law 432 = .ok (.iconst 2, 1) := by decide +kernel
theorem dL_law_433 : decode cL_law 433 = .ok (.iadd, 1) := by decide +kernel
theorem dL_law_434 : decode cL_law 434 = .ok (.iaload, 1) := by decide +kernel
theorem dL_law_435 : decode cL_law 435 = .ok (.invokevirtual 40, 3) := by decide +kernel
theorem dL_law_438 : decode cL_law 438 = .ok (.if_icmp .eq 1520, 3) := by decide +kernel
theorem dL_law_441 : decode cL_law 441 = .ok (.iconst 0, 1) := by decide +kernel
theorem dL_law_442 : decode cL_law 442 = .ok (.ireturn, 1) := by decide +kernel
theorem dL_law_443 : decode cL_law 443 = .ok (.aload_n 1, 1) := by decide +kernel
theorem dL_law_444 : decode cL_law 444 = .ok (.aload_n 0, 1) := by decide +kernel
theorem dL_law_445 : decode cL_law 445 = .ok (.iload_n 3, 1) := by decide +kernel
theorem dL_law_446 : decode cL_law 446 = .ok (.iconst 1, 1) := by decide +kernel
theorem dL_law_447 : decode cL_law 447 = .ok (.iadd, 1) := by decide +kernel
theorem dL_law_448 : decode cL_law 448 = .ok (.iaload, 1) := by decide +kernel
theorem dL_law_449 : decode cL_law 449 = .ok (.aload_n 0, 1) := by decide +kernel
theorem dL_law_450 : decode cL_law 450 = .ok (.iload_n 3, 1) := by decide +kernel
theorem dL_law_451 : decode cL_law 451 = .ok (.iconst 2, 1) := by decide +kernel
theorem dL_law_452 : decode cL_law 452 = .ok (.iadd, 1) := by decide +kernel
theorem dL_law_453 : decode cL_law 453 = .ok (.iaload, 1) := by decide +kernel
theorem dL_law_454 : decode cL_law 454 = .ok (.invokevirtual 41, 3) := by decide +kernel
theorem dL_law_457 : decode cL_law 457 = .ok (.aload_n 2, 1) := by decide +kernel
theorem dL_law_458 : decode cL_law 458 = .ok (.aload_n 0, 1) := by decide +kernel
theorem dL_law_459 : decode cL_law 459 = .ok (.iload_n 3, 1) := by decide +kernel
theorem dL_law_460 : decode cL_law 460 = .ok (.iconst 1, 1) := by decide +kernel
theorem dL_law_461 : decode cL_law 461 = .ok (.iadd, 1) := by decide +kernel
theorem dL_law_462 : decode cL_law 462 = .ok (.iaload, 1) := by decide +kernel
theorem dL_law_463 : decode cL_law 463 = .ok (.aload_n 0, 1) := by decide +kernel
theorem dL_law_464 : decode cL_law 464 = .ok (.iload_n 3, 1) := by decide +kernel
theorem dL_law_465 : decode cL_law 465 = .ok (.iconst 2, 1) := by decide +kernel
theorem dL_law_466 : decode cL_law 466 = .ok (.iadd, 1) := by decide +kernel
theorem dL_law_467 : decode cL_law 467 = .ok (.iaload, 1) := by decide +kernel
theorem dL_law_468 : decode cL_law 468 = .ok (.invokevirtual 45, 3) := by decide +kernel
theorem dL_law_471 : decode cL_law 471 = .ok (.lcmp, 1) := by decide +kernel
theorem dL_law_472 : decode cL_law 472 = .ok (.ifCond .eq 1486, 3) := by decide +kernel
theorem dL_law_475 : decode cL_law 475 = .ok (.iconst 0, 1) := by decide +kernel
theorem dL_law_476 : decode cL_law 476 = .ok (.ireturn, 1) := by decide +kernel
theorem dL_law_477 : decode cL_law 477 = .ok (.aload_n 1, 1) := by decide +kernel
theorem dL_law_478 : decode cL_law 478 = .ok (.aload_n 0, 1) := by decide +kernel
theorem dL_law_479 : decode cL_law 479 = .ok (.iload_n 3, 1) := by decide +kernel
theorem dL_law_480 : decode cL_law 480 = .ok (.iconst 1, 1) := by decide +kernel
theorem dL_law_481 : decode cL_law 481 = .ok (.iadd, 1) := by decide +kernel
theorem dL_law_482 : decode cL_law 482 = .ok (.iaload, 1) := by decide +kernel
theorem dL_law_483 : decode cL_law 483 = .ok (.aload_n 0, 1) := by decide +kernel
theorem dL_law_484 : decode cL_law 484 = .ok (.iload_n 3, 1) := by decide +kernel
theorem dL_law_485 : decode cL_law 485 = .ok (.iconst 2, 1) := by decide +kernel
theorem dL_law_486 : decode cL_law 486 = .ok (.iadd, 1) := by decide +kernel
theorem dL_law_487 : decode cL_law 487 = .ok (.iaload, 1) := by decide +kernel
theorem dL_law_488 : decode cL_law 488 = .ok (.aload_n 0, 1) := by decide +kernel
theorem dL_law_489 : decode cL_law 489 = .ok (.iload_n 3, 1) := by decide +kernel
theorem dL_law_490 : decode cL_law 490 = .ok (.iconst 3, 1) := by decide +kernel
theorem dL_law_491 : decode cL_law 491 = .ok (.iadd, 1) := by decide +kernel
theorem dL_law_492 : decode cL_law 492 = .ok (.iaload, 1) := by decide +kernel
theorem dL_law_493 : decode cL_law 493 = .ok (.aload_n 0, 1) := by decide +kernel
theorem dL_law_494 : decode cL_law 494 = .ok (.iload_n 3, 1) := by decide +kernel
theorem dL_law_495 : decode cL_law 495 = .ok (.iconst 4, 1) := by decide +kernel
theorem dL_law_496 : decode cL_law 496 = .ok (.iadd, 1) := by decide +kernel
theorem dL_law_497 : decode cL_law 497 = .ok (.iaload, 1) := by decide +kernel
theorem dL_law_498 : decode cL_law 498 = .ok (.invokevirtual 46, 3) := by decide +kernel
theorem dL_law_501 : decode cL_law 501 = .ok (.aload_n 2, 1) := by decide +kernel
theorem dL_law_502 : decode cL_law 502 = .ok (.aload_n 0, 1) := by decide +kernel
theorem dL_law_503 : decode cL_law 503 = .ok (.iload_n 3, 1) := by decide +kernel
theorem dL_law_504 : decode cL_law 504 = .ok (.iconst 1, 1) := by decide +kernel
theorem dL_law_505 : decode cL_law 505 = .ok (.iadd, 1) := by decide +kernel
theorem dL_law_506 : decode cL_law 506 = .ok (.iaload, 1) := by decide +kernel
theorem dL_law_507 : decode cL_law 507 = .ok (.aload_n 0, 1) := by decide +kernel
theorem dL_law_508 : decode cL_law 508 = .ok (.iload_n 3, 1) := by decide +kernel
theorem dL_law_509 : decode cL_law 509 = .ok (.iconst 2, 1) := by decide +kernel
theorem dL_law_510 : decode cL_law 510 = .ok (.iadd, 1) := by decide +kernel
theorem dL_law_511 : decode cL_law 511 = .ok (.iaload, 1) := by decide +kernel
theorem dL_law_512 : decode cL_law 512 = .ok (.aload_n 0, 1) := by decide +kernel
theorem dL_law_513 : decode cL_law 513 = .ok (.iload_n 3, 1) := by decide +kernel
theorem dL_law_514 : decode cL_law 514 = .ok (.iconst 3, 1) := by decide +kernel
theorem dL_law_515 : decode cL_law 515 = .ok (.iadd, 1) := by decide +kernel
theorem dL_law_516 : decode cL_law 516 = .ok (.iaload, 1) := by decide +kernel
theorem dL_law_517 : decode cL_law 517 = .ok (.aload_n 0, 1) := by decide +kernel
theorem dL_law_518 : decode cL_law 518 = .ok (.iload_n 3, 1) := by decide +kernel
theorem dL_law_519 : decode cL_law 519 = .ok (.iconst 4, 1) := by decide +kernel
theorem dL_law_520 : decode cL_law 520 = .ok (.iadd, 1) := by decide +kernel
theorem dL_law_521 : decode cL_law 521 = .ok (.iaload, 1) := by decide +kernel
theorem dL_law_522 : decode cL_law 522 = .ok (.invokevirtual 50, 3) := by decide +kernel
theorem dL_law_525 : decode cL_law 525 = .ok (.if_icmp .eq 1433, 3) := by decide +kernel
theorem dL_law_528 : decode cL_law 528 = .ok (.iconst 0, 1) := by decide +kernel
theorem dL_law_529 : decode cL_law 529 = .ok (.ireturn, 1) := by decide +kernel
theorem dL_law_530 : decode cL_law 530 = .ok (.aload_n 1, 1) := by decide +kernel
theorem dL_law_531 : decode cL_law 531 = .ok (.aload_n 0, 1) := by decide +kernel
theorem dL_law_532 : decode cL_law 532 = .ok (.iload_n 3, 1) := by decide +kernel
theorem dL_law_533 : decode cL_law 533 = .ok (.iconst 1, 1) := by decide +kernel
theorem dL_law_534 : decode cL_law 534 = .ok (.iadd, 1) := by decide +kernel
theorem dL_law_535 : decode cL_law 535 = .ok (.iaload, 1) := by decide +kernel
theorem dL_law_536 : decode cL_law 536 = .ok (.aload_n 0, 1) := by decide +kernel
theorem dL_law_537 : decode cL_law 537 = .ok (.iload_n 3, 1) := by decide +kernel
theorem dL_law_538 : decode cL_law 538 = .ok (.iconst 2, 1) := by decide +kernel
theorem dL_law_539 : decode cL_law 539 = .ok (.iadd, 1) := by decide +kernel
theorem dL_law_540 : decode cL_law 540 = .ok (.iaload, 1) := by decide +kernel
theorem dL_law_541 : decode cL_law 541 = .ok (.aload_n 0, 1) := by decide +kernel
theorem dL_law_542 : decode cL_law 542 = .ok (.iload_n 3, 1) := by decide +kernel
theorem dL_law_543 : decode cL_law 543 = .ok (.iconst 3, 1) := by decide +kernel
theorem dL_law_544 : decode cL_law 544 = .ok (.iadd, 1) := by decide +kernel
theorem dL_law_545 : decode cL_law 545 = .ok (.iaload, 1) := by decide +kernel
theorem dL_law_546 : decode cL_law 546 = .ok (.invokevirtual 51, 3) := by decide +kernel
theorem dL_law_549 : decode cL_law 549 = .ok (.aload_n 2, 1) := by decide +kernel
theorem dL_law_550 : decode cL_law 550 = .ok (.aload_n 0, 1) := by decide +kernel
theorem dL_law_551 : decode cL_law 551 = .ok (.iload_n 3, 1) := by decide +kernel
theorem dL_law_552 : decode cL_law 552 = .ok (.iconst 1, 1) := by decide +kernel
theorem dL_law_553 : decode cL_law 553 = .ok (.iadd, 1) := by decide +kernel
theorem dL_law_554 : decode cL_law 554 = .ok (.iaload, 1) := by decide +kernel
theorem dL_law_555 : decode cL_law 555 = .ok (.aload_n 0, 1) := by decide +kernel
theorem dL_law_556 : decode cL_law 556 = .ok (.iload_n 3, 1) := by decide +kernel
theorem dL_law_557 : decode cL_law 557 = .ok (.iconst 2, 1) := by decide +kernel
theorem dL_law_558 : decode cL_law 558 = .ok (.iadd, 1) := by decide +kernel
theorem dL_law_559 : decode cL_law 559 = .ok (.iaload, 1) := by decide +kernel
theorem dL_law_560 : decode cL_law 560 = .ok (.aload_n 0, 1) := by decide +kernel
theorem dL_law_561 : decode cL_law 561 = .ok (.iload_n 3, 1) := by decide +kernel
theorem dL_law_562 : decode cL_law 562 = .ok (.iconst 3, 1) := by decide +kernel
theorem dL_law_563 : decode cL_law 563 = .ok (.iadd, 1) := by decide +kernel
theorem dL_law_564 : decode cL_law 564 = .ok (.iaload, 1) := by decide +kernel
theorem dL_law_565 : decode cL_law 565 = .ok (.invokevirtual 54, 3) := by decide +kernel
theorem dL_law_568 : decode cL_law 568 = .ok (.if_icmp .eq 1390, 3) := by decide +kernel
theorem dL_law_571 : decode cL_law 571 = .ok (.iconst 0, 1) := by decide +kernel
theorem dL_law_572 : decode cL_law 572 = .ok (.ireturn, 1) := by decide +kernel
theorem dL_law_573 : decode cL_law 573 = .ok (.aload_n 1, 1) := by decide +kernel
theorem dL_law_574 : decode cL_law 574 = .ok (.aload_n 0, 1) := by decide +kernel
theorem dL_law_575 : decode cL_law 575 = .ok (.iload_n 3, 1) := by decide +kernel
theorem dL_law_576 : decode cL_law 576 = .ok (.iconst 1, 1) := by decide +kernel
theorem dL_law_577 : decode cL_law 577 = .ok (.iadd, 1) := by decide +kernel
theorem dL_law_578 : decode cL_law 578 = .ok (.iaload, 1) := by decide +kernel
theorem dL_law_579 : decode cL_law 579 = .ok (.aload_n 0, 1) := by decide +kernel
theorem dL_law_580 : decode cL_law 580 = .ok (.iload_n 3, 1) := by decide +kernel
theorem dL_law_581 : decode cL_law 581 = .ok (.iconst 2, 1) := by decide +kernel
theorem dL_law_582 : decode cL_law 582 = .ok (.iadd, 1) := by decide +kernel
theorem dL_law_583 : decode cL_law 583 = .ok (.iaload, 1) := by decide +kernel
theorem dL_law_584 : decode cL_law 584 = .ok (.invokevirtual 55, 3) := by decide +kernel
theorem dL_law_587 : decode cL_law 587 = .ok (.aload_n 2, 1) := by decide +kernel
theorem dL_law_588 : decode cL_law 588 = .ok (.aload_n 0, 1) := by decide +kernel
theorem dL_law_589 : decode cL_law 589 = .ok (.iload_n 3, 1) := by decide +kernel
theorem dL_law_590 : decode cL_law 590 = .ok (.iconst 1, 1) := by decide +kernel
theorem dL_law_591 : decode cL_law 591 = .ok (.iadd, 1) := by decide +kernel
theorem dL_law_592 : decode cL_law 592 = .ok (.iaload, 1) := by decide +kernel
theorem dL_law_593 : decode cL_law 593 = .ok (.aload_n 0, 1) := by decide +kernel
theorem dL_law_594 : decode cL_law 594 = .ok (.iload_n 3, 1) := by decide +kernel
theorem dL_law_595 : decode cL_law 595 = .ok (.iconst 2, 1) := by decide +kernel
theorem dL_law_596 : decode cL_law 596 = .ok (.iadd, 1) := by decide +kernel
theorem dL_law_597 : decode cL_law 597 = .ok (.iaload, 1) := by decide +kernel
theorem dL_law_598 : decode cL_law 598 = .ok (.invokevirtual 58, 3) := by decide +kernel
theorem dL_law_601 : decode cL_law 601 = .ok (.if_icmp .eq 1357, 3) := by decide +kernel
theorem dL_law_604 : decode cL_law 604 = .ok (.iconst 0, 1) := by decide +kernel
theorem dL_law_605 : decode cL_law 605 = .ok (.ireturn, 1) := by decide +kernel
theorem dL_law_606 : decode cL_law 606 = .ok (.aload_n 1, 1) := by decide +kernel
theorem dL_law_607 : decode cL_law 607 = .ok (.aload_n 0, 1) := by decide +kernel
theorem dL_law_608 : decode cL_law 608 = .ok (.iload_n 3, 1) := by decide +kernel
theorem dL_law_609 : decode cL_law 609 = .ok (.iconst 1, 1) := by decide +kernel
theorem dL_law_610 : decode cL_law 610 = .ok (.iadd, 1) := by decide +kernel
theorem dL_law_611 : decode cL_law 611 = .ok (.iaload, 1) := by decide +kernel
theorem dL_law_612 : decode cL_law 612 = .ok (.aload_n 0, 1) := by decide +kernel
theorem dL_law_613 : decode cL_law 613 = .ok (.iload_n 3, 1) := by decide +kernel
theorem dL_law_614 : decode cL_law 614 = .ok (.iconst 2, 1) := by decide +kernel
theorem dL_law_615 : decode cL_law 615 = .ok (.iadd, 1) := by decide +kernel
theorem dL_law_616 : decode cL_law 616 = .ok (.iaload, 1) := by decide +kernel
theorem dL_law_617 : decode cL_law 617 = .ok (.invokevirtual 59, 3) := by decide +kernel
theorem dL_law_620 : decode cL_law 620 = .ok (.aload_n 2, 1) := by decide +kernel
theorem dL_law_621 : decode cL_law 621 = .ok (.aload_n 0, 1) := by decide +kernel
theorem dL_law_622 : decode cL_law 622 = .ok (.iload_n 3, 1) := by decide +kernel
theorem dL_law_623 : decode cL_law 623 = .ok (.iconst 1, 1) := by decide +kernel
theorem dL_law_624 : decode cL_law 624 = .ok (.iadd, 1) := by decide +kernel
theorem dL_law_625 : decode cL_law 625 = .ok (.iaload, 1) := by decide +kernel
theorem dL_law_626 : decode cL_law 626 = .ok (.aload_n 0, 1) := by decide +kernel
theorem dL_law_627 : decode cL_law 627 = .ok (.iload_n 3, 1) := by decide +kernel
theorem dL_law_628 : decode cL_law 628 = .ok (.iconst 2, 1) := by decide +kernel
theorem dL_law_629 : decode cL_law 629 = .ok (.iadd, 1) := by decide +kernel
theorem dL_law_630 : decode cL_law 630 = .ok (.iaload, 1) := by decide +kernel
theorem dL_law_631 : decode cL_law 631 = .ok (.invokevirtual 62, 3) := by decide +kernel
theorem dL_law_634 : decode cL_law 634 = .ok (.if_icmp .eq 1324, 3) := by decide +kernel
theorem dL_law_637 : decode cL_law 637 = .ok (.iconst 0, 1) := by decide +kernel
theorem dL_law_638 : decode cL_law 638 = .ok (.ireturn, 1) := by decide +kernel
theorem dL_law_639 : decode cL_law 639 = .ok (.aload_n 1, 1) := by decide +kernel
theorem dL_law_640 : decode cL_law 640 = .ok (.aload_n 0, 1) := by decide +kernel
theorem dL_law_641 : decode cL_law 641 = .ok (.iload_n 3, 1) := by decide +kernel
theorem dL_law_642 : decode cL_law 642 = .ok (.iconst 1, 1) := by decide +kernel
theorem dL_law_643 : decode cL_law 643 = .ok (.iadd, 1) := by decide +kernel
theorem dL_law_644 : decode cL_law 644 = .ok (.iaload, 1) := by decide +kernel
theorem dL_law_645 : decode cL_law 645 = .ok (.aload_n 0, 1) := by decide +kernel
theorem dL_law_646 : decode cL_law 646 = .ok (.iload_n 3, 1) := by decide +kernel
theorem dL_law_647 : decode cL_law 647 = .ok (.iconst 2, 1) := by decide +kernel
theorem dL_law_648 : decode cL_law 648 = .ok (.iadd, 1) := by decide +kernel
theorem dL_law_649 : decode cL_law 649 = .ok (.iaload, 1) := by decide +kernel
theorem dL_law_650 : decode cL_law 650 = .ok (.aload_n 0, 1) := by decide +kernel
theorem dL_law_651 : decode cL_law 651 = .ok (.iload_n 3, 1) := by decide +kernel
theorem dL_law_652 : decode cL_law 652 = .ok (.iconst 3, 1) := by decide +kernel
theorem dL_law_653 : decode cL_law 653 = .ok (.iadd, 1) := by decide +kernel
theorem dL_law_654 : decode cL_law 654 = .ok (.iaload, 1) := by decide +kernel
theorem dL_law_655 : decode cL_law 655 = .ok (.invokevirtual 63, 3) := by decide +kernel
theorem dL_law_658 : decode cL_law 658 = .ok (.aload_n 2, 1) := by decide +kernel
theorem dL_law_659 : decode cL_law 659 = .ok (.aload_n 0, 1) := by decide +kernel
theorem dL_law_660 : decode cL_law 660 = .ok (.iload_n 3, 1) := by decide +kernel
theorem dL_law_661 : decode cL_law 661 = .ok (.iconst 1, 1) := by decide +kernel
theorem dL_law_662 : decode cL_law 662 = .ok (.iadd, 1) := by decide +kernel
theorem dL_law_663 : decode cL_law 663 = .ok (.iaload, 1) := by decide +kernel
theorem dL_law_664 : decode cL_law 664 = .ok (.aload_n 0, 1) := by decide +kernel
theorem dL_law_665 : decode cL_law 665 = .ok (.iload_n 3, 1) := by decide +kernel
theorem dL_law_666 : decode cL_law 666 = .ok (.iconst 2, 1) := by decide +kernel
theorem dL_law_667 : decode cL_law 667 = .ok (.iadd, 1) := by decide +kernel
theorem dL_law_668 : decode cL_law 668 = .ok (.iaload, 1) := by decide +kernel
theorem dL_law_669 : decode cL_law 669 = .ok (.aload_n 0, 1) := by decide +kernel
theorem dL_law_670 : decode cL_law 670 = .ok (.iload_n 3, 1) := by decide +kernel
theorem dL_law_671 : decode cL_law 671 = .ok (.iconst 3, 1) := by decide +kernel
theorem dL_law_672 : decode cL_law 672 = .ok (.iadd, 1) := by decide +kernel
theorem dL_law_673 : decode cL_law 673 = .ok (.iaload, 1) := by decide +kernel
theorem dL_law_674 : decode cL_law 674 = .ok (.invokevirtual 66, 3) := by decide +kernel
theorem dL_law_677 : decode cL_law 677 = .ok (.if_icmp .eq 1281, 3) := by decide +kernel
theorem dL_law_680 : decode cL_law 680 = .ok (.iconst 0, 1) := by decide +kernel
theorem dL_law_681 : decode cL_law 681 = .ok (.ireturn, 1) := by decide +kernel
theorem dL_law_682 : decode cL_law 682 = .ok (.aload_n 1, 1) := by decide +kernel
theorem dL_law_683 : decode cL_law 683 = .ok (.aload_n 0, 1) := by decide +kernel
theorem dL_law_684 : decode cL_law 684 = .ok (.iload_n 3, 1) := by decide +kernel
theorem dL_law_685 : decode cL_law 685 = .ok (.iconst 1, 1) := by decide +kernel
theorem dL_law_686 : decode cL_law 686 = .ok (.iadd, 1) := by decide +kernel
theorem dL_law_687 : decode cL_law 687 = .ok (.iaload, 1) := by decide +kernel
theorem dL_law_688 : decode cL_law 688 = .ok (.aload_n 0, 1) := by decide +kernel
theorem dL_law_689 : decode cL_law 689 = .ok (.iload_n 3, 1) := by decide +kernel
theorem dL_law_690 : decode cL_law 690 = .ok (.iconst 2, 1) := by decide +kernel
theorem dL_law_691 : decode cL_law 691 = .ok (.iadd, 1) := by decide +kernel
theorem dL_law_692 : decode cL_law 692 = .ok (.iaload, 1) := by decide +kernel
theorem dL_law_693 : decode cL_law 693 = .ok (.aload_n 0, 1) := by decide +kernel
theorem dL_law_694 : decode cL_law 694 = .ok (.iload_n 3, 1) := by decide +kernel
theorem dL_law_695 : decode cL_law 695 = .ok (.iconst 3, 1) := by decide +kernel
theorem dL_law_696 : decode cL_law 696 = .ok (.iadd, 1) := by decide +kernel
theorem dL_law_697 : decode cL_law 697 = .ok (.iaload, 1) := by decide +kernel
theorem dL_law_698 : decode cL_law 698 = .ok (.aload_n 0, 1) := by decide +kernel
theorem dL_law_699 : decode cL_law 699 = .ok (.iload_n 3, 1) := by decide +kernel
theorem dL_law_700 : decode cL_law 700 = .ok (.iconst 4, 1) := by decide +kernel
theorem dL_law_701 : decode cL_law 701 = .ok (.iadd, 1) := by decide +kernel
theorem dL_law_702 : decode cL_law 702 = .ok (.iaload, 1) := by decide +kernel
theorem dL_law_703 : decode cL_law 703 = .ok (.aload_n 0, 1) := by decide +kernel
theorem dL_law_704 : decode cL_law 704 = .ok (.iload_n 3, 1) := by decide +kernel
theorem dL_law_705 : decode cL_law 705 = .ok (.iconst 5, 1) := by decide +kernel
theorem dL_law_706 : decode cL_law 706 = .ok (.iadd, 1) := by decide +kernel
theorem dL_law_707 : decode cL_law 707 = .ok (.iaload, 1) := by decide +kernel
theorem dL_law_708 : decode cL_law 708 = .ok (.invokevirtual 67, 3) := by decide +kernel
theorem dL_law_711 : decode cL_law 711 = .ok (.aload_n 2, 1) := by decide +kernel
theorem dL_law_712 : decode cL_law 712 = .ok (.aload_n 0, 1) := by decide +kernel
theorem dL_law_713 : decode cL_law 713 = .ok (.iload_n 3, 1) := by decide +kernel
theorem dL_law_714 : decode cL_law 714 = .ok (.iconst 1, 1) := by decide +kernel
theorem dL_law_715 : decode cL_law 715 = .ok (.iadd, 1) := by decide +kernel
theorem dL_law_716 : decode cL_law 716 = .ok (.iaload, 1) := by decide +kernel
theorem dL_law_717 : decode cL_law 717 = .ok (.aload_n 0, 1) := by decide +kernel
theorem dL_law_718 : decode cL_law 718 = .ok (.iload_n 3, 1) := by decide +kernel
theorem dL_law_719 : decode cL_law 719 = .ok (.iconst 2, 1) := by decide +kernel
theorem dL_law_720 : decode cL_law 720 = .ok (.iadd, 1) := by decide +kernel
theorem dL_law_721 : decode cL_law 721 = .ok (.iaload, 1) := by decide +kernel
theorem dL_law_722 : decode cL_law 722 = .ok (.aload_n 0, 1) := by decide +kernel
theorem dL_law_723 : decode cL_law 723 = .ok (.iload_n 3, 1) := by decide +kernel
theorem dL_law_724 : decode cL_law 724 = .ok (.iconst 3, 1) := by decide +kernel
theorem dL_law_725 : decode cL_law 725 = .ok (.iadd, 1) := by decide +kernel
theorem dL_law_726 : decode cL_law 726 = .ok (.iaload, 1) := by decide +kernel
theorem dL_law_727 : decode cL_law 727 = .ok (.aload_n 0, 1) := by decide +kernel
theorem dL_law_728 : decode cL_law 728 = .ok (.iload_n 3, 1) := by decide +kernel
theorem dL_law_729 : decode cL_law 729 = .ok (.iconst 4, 1) := by decide +kernel
theorem dL_law_730 : decode cL_law 730 = .ok (.iadd, 1) := by decide +kernel
theorem dL_law_731 : decode cL_law 731 = .ok (.iaload, 1) := by decide +kernel
theorem dL_law_732 : decode cL_law 732 = .ok (.aload_n 0, 1) := by decide +kernel
theorem dL_law_733 : decode cL_law 733 = .ok (.iload_n 3, 1) := by decide +kernel
theorem dL_law_734 : decode cL_law 734 = .ok (.iconst 5, 1) := by decide +kernel
theorem dL_law_735 : decode cL_law 735 = .ok (.iadd, 1) := by decide +kernel
theorem dL_law_736 : decode cL_law 736 = .ok (.iaload, 1) := by decide +kernel
theorem dL_law_737 : decode cL_law 737 = .ok (.invokevirtual 71, 3) := by decide +kernel
theorem dL_law_740 : decode cL_law 740 = .ok (.if_icmp .eq 1218, 3) := by decide +kernel
theorem dL_law_743 : decode cL_law 743 = .ok (.iconst 0, 1) := by decide +kernel
theorem dL_law_744 : decode cL_law 744 = .ok (.ireturn, 1) := by decide +kernel
theorem dL_law_745 : decode cL_law 745 = .ok (.aload_n 1, 1) := by decide +kernel
theorem dL_law_746 : decode cL_law 746 = .ok (.aload_n 0, 1) := by decide +kernel
theorem dL_law_747 : decode cL_law 747 = .ok (.iload_n 3, 1) := by decide +kernel
theorem dL_law_748 : decode cL_law 748 = .ok (.iconst 1, 1) := by decide +kernel
theorem dL_law_749 : decode cL_law 749 = .ok (.iadd, 1) := by decide +kernel
theorem dL_law_750 : decode cL_law 750 = .ok (.iaload, 1) := by decide +kernel
theorem dL_law_751 : decode cL_law 751 = .ok (.invokevirtual 72, 3) := by decide +kernel
theorem dL_law_754 : decode cL_law 754 = .ok (.aload_n 2, 1) := by decide +kernel
theorem dL_law_755 : decode cL_law 755 = .ok (.aload_n 0, 1) := by decide +kernel
theorem dL_law_756 : decode cL_law 756 = .ok (.iload_n 3, 1) := by decide +kernel
theorem dL_law_757 : decode cL_law 757 = .ok (.iconst 1, 1) := by decide +kernel
theorem dL_law_758 : decode cL_law 758 = .ok (.iadd, 1) := by decide +kernel
theorem dL_law_759 : decode cL_law 759 = .ok (.iaload, 1) := by decide +kernel
theorem dL_law_760 : decode cL_law 760 = .ok (.invokevirtual 75, 3) := by decide +kernel
theorem dL_law_763 : decode cL_law 763 = .ok (.if_icmp .eq 1195, 3) := by decide +kernel
theorem dL_law_766 : decode cL_law 766 = .ok (.iconst 0, 1) := by decide +kernel
theorem dL_law_767 : decode cL_law 767 = .ok (.ireturn, 1) := by decide +kernel
theorem dL_law_768 : decode cL_law 768 = .ok (.aload_n 1, 1) := by decide +kernel
theorem dL_law_769 : decode cL_law 769 = .ok (.aload_n 0, 1) := by decide +kernel
theorem dL_law_770 : decode cL_law 770 = .ok (.iload_n 3, 1) := by decide +kernel
theorem dL_law_771 : decode cL_law 771 = .ok (.iconst 1, 1) := by decide +kernel
theorem dL_law_772 : decode cL_law 772 = .ok (.iadd, 1) := by decide +kernel
theorem dL_law_773 : decode cL_law 773 = .ok (.iaload, 1) := by decide +kernel
theorem dL_law_774 : decode cL_law 774 = .ok (.invokevirtual 76, 3) := by decide +kernel
theorem dL_law_777 : decode cL_law 777 = .ok (.aload_n 2, 1) := by decide +kernel
theorem dL_law_778 : decode cL_law 778 = .ok (.aload_n 0, 1) := by decide +kernel
theorem dL_law_779 : decode cL_law 779 = .ok (.iload_n 3, 1) := by decide +kernel
theorem dL_law_780 : decode cL_law 780 = .ok (.iconst 1, 1) := by decide +kernel
theorem dL_law_781 : decode cL_law 781 = .ok (.iadd, 1) := by decide +kernel
theorem dL_law_782 : decode cL_law 782 = .ok (.iaload, 1) := by decide +kernel
theorem dL_law_783 : decode cL_law 783 = .ok (.invokevirtual 79, 3) := by decide +kernel
theorem dL_law_786 : decode cL_law 786 = .ok (.if_icmp .eq 1172, 3) := by decide +kernel
theorem dL_law_789 : decode cL_law 789 = .ok (.iconst 0, 1) := by decide +kernel
theorem dL_law_790 : decode cL_law 790 = .ok (.ireturn, 1) := by decide +kernel
theorem dL_law_791 : decode cL_law 791 = .ok (.aload_n 1, 1) := by decide +kernel
theorem dL_law_792 : decode cL_law 792 = .ok (.aload_n 0, 1) := by decide +kernel
theorem dL_law_793 : decode cL_law 793 = .ok (.iload_n 3, 1) := by decide +kernel
theorem dL_law_794 : decode cL_law 794 = .ok (.iconst 1, 1) := by decide +kernel
theorem dL_law_795 : decode cL_law 795 = .ok (.iadd, 1) := by decide +kernel
theorem dL_law_796 : decode cL_law 796 = .ok (.iaload, 1) := by decide +kernel
theorem dL_law_797 : decode cL_law 797 = .ok (.invokevirtual 80, 3) := by decide +kernel
theorem dL_law_800 : decode cL_law 800 = .ok (.aload_n 2, 1) := by decide +kernel
theorem dL_law_801 : decode cL_law 801 = .ok (.aload_n 0, 1) := by decide +kernel
theorem dL_law_802 : decode cL_law 802 = .ok (.iload_n 3, 1) := by decide +kernel
theorem dL_law_803 : decode cL_law 803 = .ok (.iconst 1, 1) := by decide +kernel
theorem dL_law_804 : decode cL_law 804 = .ok (.iadd, 1) := by decide +kernel
theorem dL_law_805 : decode cL_law 805 = .ok (.iaload, 1) := by decide +kernel
theorem dL_law_806 : decode cL_law 806 = .ok (.invokevirtual 83, 3) := by decide +kernel
theorem dL_law_809 : decode cL_law 809 = .ok (.if_icmp .eq 1149, 3) := by decide +kernel
theorem dL_law_812 : decode cL_law 812 = .ok (.iconst 0, 1) := by decide +kernel
theorem dL_law_813 : decode cL_law 813 = .ok (.ireturn, 1) := by decide +kernel
theorem dL_law_814 : decode cL_law 814 = .ok (.aload_n 1, 1) := by decide +kernel
theorem dL_law_815 : decode cL_law 815 = .ok (.aload_n 0, 1) := by decide +kernel
theorem dL_law_816 : decode cL_law 816 = .ok (.iload_n 3, 1) := by decide +kernel
theorem dL_law_817 : decode cL_law 817 = .ok (.iconst 1, 1) := by decide +kernel
theorem dL_law_818 : decode cL_law 818 = .ok (.iadd, 1) := by decide +kernel
theorem dL_law_819 : decode cL_law 819 = .ok (.iaload, 1) := by decide +kernel
theorem dL_law_820 : decode cL_law 820 = .ok (.aload_n 0, 1) := by decide +kernel
theorem dL_law_821 : decode cL_law 821 = .ok (.iload_n 3, 1) := by decide +kernel
theorem dL_law_822 : decode cL_law 822 = .ok (.iconst 2, 1) := by decide +kernel
theorem dL_law_823 : decode cL_law 823 = .ok (.iadd, 1) := by decide +kernel
theorem dL_law_824 : decode cL_law 824 = .ok (.iaload, 1) := by decide +kernel
theorem dL_law_825 : decode cL_law 825 = .ok (.aload_n 0, 1) := by decide +kernel
theorem dL_law_826 : decode cL_law 826 = .ok (.iload_n 3, 1) := by decide +kernel
theorem dL_law_827 : decode cL_law 827 = .ok (.iconst 3, 1) := by decide +kernel
theorem dL_law_828 : decode cL_law 828 = .ok (.iadd, 1) := by decide +kernel
theorem dL_law_829 : decode cL_law 829 = .ok (.iaload, 1) := by decide +kernel
theorem dL_law_830 : decode cL_law 830 = .ok (.invokevirtual 84, 3) := by decide +kernel
theorem dL_law_833 : decode cL_law 833 = .ok (.aload_n 2, 1) := by decide +kernel
theorem dL_law_834 : decode cL_law 834 = .ok (.aload_n 0, 1) := by decide +kernel
theorem dL_law_835 : decode cL_law 835 = .ok (.iload_n 3, 1) := by decide +kernel
theorem dL_law_836 : decode cL_law 836 = .ok (.iconst 1, 1) := by decide +kernel
theorem dL_law_837 : decode cL_law 837 = .ok (.iadd, 1) := by decide +kernel
theorem dL_law_838 : decode cL_law 838 = .ok (.iaload, 1) := by decide +kernel
theorem dL_law_839 : decode cL_law 839 = .ok (.aload_n 0, 1) := by decide +kernel
theorem dL_law_840 : decode cL_law 840 = .ok (.iload_n 3, 1) := by decide +kernel
theorem dL_law_841 : decode cL_law 841 = .ok (.iconst 2, 1) := by decide +kernel
theorem dL_law_842 : decode cL_law 842 = .ok (.iadd, 1) := by decide +kernel
theorem dL_law_843 : decode cL_law 843 = .ok (.iaload, 1) := by decide +kernel
theorem dL_law_844 : decode cL_law 844 = .ok (.aload_n 0, 1) := by decide +kernel
theorem dL_law_845 : decode cL_law 845 = .ok (.iload_n 3, 1) := by decide +kernel
theorem dL_law_846 : decode cL_law 846 = .ok (.iconst 3, 1) := by decide +kernel
theorem dL_law_847 : decode cL_law 847 = .ok (.iadd, 1) := by decide +kernel
theorem dL_law_848 : decode cL_law 848 = .ok (.iaload, 1) := by decide +kernel
theorem dL_law_849 : decode cL_law 849 = .ok (.invokevirtual 87, 3) := by decide +kernel
theorem dL_law_852 : decode cL_law 852 = .ok (.if_icmp .eq 1106, 3) := by decide +kernel
theorem dL_law_855 : decode cL_law 855 = .ok (.iconst 0, 1) := by decide +kernel
theorem dL_law_856 : decode cL_law 856 = .ok (.ireturn, 1) := by decide +kernel
theorem dL_law_857 : decode cL_law 857 = .ok (.aload_n 1, 1) := by decide +kernel
theorem dL_law_858 : decode cL_law 858 = .ok (.aload_n 0, 1) := by decide +kernel
theorem dL_law_859 : decode cL_law 859 = .ok (.iload_n 3, 1) := by decide +kernel
theorem dL_law_860 : decode cL_law 860 = .ok (.iconst 1, 1) := by decide +kernel
theorem dL_law_861 : decode cL_law 861 = .ok (.iadd, 1) := by decide +kernel
theorem dL_law_862 : decode cL_law 862 = .ok (.iaload, 1) := by decide +kernel
theorem dL_law_863 : decode cL_law 863 = .ok (.aload_n 0, 1) := by decide +kernel
theorem dL_law_864 : decode cL_law 864 = .ok (.iload_n 3, 1) := by decide +kernel
theorem dL_law_865 : decode cL_law 865 = .ok (.iconst 2, 1) := by decide +kernel
theorem dL_law_866 : decode cL_law 866 = .ok (.iadd, 1) := by decide +kernel
theorem dL_law_867 : decode cL_law 867 = .ok (.iaload, 1) := by decide +kernel
theorem dL_law_868 : decode cL_law 868 = .ok (.invokevirtual 88, 3) := by decide +kernel
theorem dL_law_871 : decode cL_law 871 = .ok (.aload_n 2, 1) := by decide +kernel
theorem dL_law_872 : decode cL_law 872 = .ok (.aload_n 0, 1) := by decide +kernel
theorem dL_law_873 : decode cL_law 873 = .ok (.iload_n 3, 1) := by decide +kernel
theorem dL_law_874 : decode cL_law 874 = .ok (.iconst 1, 1) := by decide +kernel
theorem dL_law_875 : decode cL_law 875 = .ok (.iadd, 1) := by decide +kernel
theorem dL_law_876 : decode cL_law 876 = .ok (.iaload, 1) := by decide +kernel
theorem dL_law_877 : decode cL_law 877 = .ok (.aload_n 0, 1) := by decide +kernel
theorem dL_law_878 : decode cL_law 878 = .ok (.iload_n 3, 1) := by decide +kernel
theorem dL_law_879 : decode cL_law 879 = .ok (.iconst 2, 1) := by decide +kernel
theorem dL_law_880 : decode cL_law 880 = .ok (.iadd, 1) := by decide +kernel
theorem dL_law_881 : decode cL_law 881 = .ok (.iaload, 1) := by decide +kernel
theorem dL_law_882 : decode cL_law 882 = .ok (.invokevirtual 91, 3) := by decide +kernel
theorem dL_law_885 : decode cL_law 885 = .ok (.if_icmp .eq 1073, 3) := by decide +kernel
theorem dL_law_888 : decode cL_law 888 = .ok (.iconst 0, 1) := by decide +kernel
theorem dL_law_889 : decode cL_law 889 = .ok (.ireturn, 1) := by decide +kernel
theorem dL_law_890 : decode cL_law 890 = .ok (.aload_n 1, 1) := by decide +kernel
theorem dL_law_891 : decode cL_law 891 = .ok (.aload_n 0, 1) := by decide +kernel
theorem dL_law_892 : decode cL_law 892 = .ok (.iload_n 3, 1) := by decide +kernel
theorem dL_law_893 : decode cL_law 893 = .ok (.iconst 1, 1) := by decide +kernel
theorem dL_law_894 : decode cL_law 894 = .ok (.iadd, 1) := by decide +kernel
theorem dL_law_895 : decode cL_law 895 = .ok (.iaload, 1) := by decide +kernel
theorem dL_law_896 : decode cL_law 896 = .ok (.aload_n 0, 1) := by decide +kernel
theorem dL_law_897 : decode cL_law 897 = .ok (.iload_n 3, 1) := by decide +kernel
theorem dL_law_898 : decode cL_law 898 = .ok (.iconst 2, 1) := by decide +kernel
theorem dL_law_899 : decode cL_law 899 = .ok (.iadd, 1) := by decide +kernel
theorem dL_law_900 : decode cL_law 900 = .ok (.iaload, 1) := by decide +kernel
theorem dL_law_901 : decode cL_law 901 = .ok (.aload_n 0, 1) := by decide +kernel
theorem dL_law_902 : decode cL_law 902 = .ok (.iload_n 3, 1) := by decide +kernel
theorem dL_law_903 : decode cL_law 903 = .ok (.iconst 3, 1) := by decide +kernel
theorem dL_law_904 : decode cL_law 904 = .ok (.iadd, 1) := by decide +kernel
theorem dL_law_905 : decode cL_law 905 = .ok (.iaload, 1) := by decide +kernel
theorem dL_law_906 : decode cL_law 906 = .ok (.aload_n 0, 1) := by decide +kernel
theorem dL_law_907 : decode cL_law 907 = .ok (.iload_n 3, 1) := by decide +kernel
theorem dL_law_908 : decode cL_law 908 = .ok (.iconst 4, 1) := by decide +kernel
theorem dL_law_909 : decode cL_law 909 = .ok (.iadd, 1) := by decide +kernel
theorem dL_law_910 : decode cL_law 910 = .ok (.iaload, 1) := by decide +kernel
theorem dL_law_911 : decode cL_law 911 = .ok (.invokevirtual 92, 3) := by decide +kernel
theorem dL_law_914 : decode cL_law 914 = .ok (.aload_n 2, 1) := by decide +kernel
theorem dL_law_915 : decode cL_law 915 = .ok (.aload_n 0, 1) := by decide +kernel
theorem dL_law_916 : decode cL_law 916 = .ok (.iload_n 3, 1) := by decide +kernel
theorem dL_law_917 : decode cL_law 917 = .ok (.iconst 1, 1) := by decide +kernel
theorem dL_law_918 : decode cL_law 918 = .ok (.iadd, 1) := by decide +kernel
theorem dL_law_919 : decode cL_law 919 = .ok (.iaload, 1) := by decide +kernel
theorem dL_law_920 : decode cL_law 920 = .ok (.aload_n 0, 1) := by decide +kernel
theorem dL_law_921 : decode cL_law 921 = .ok (.iload_n 3, 1) := by decide +kernel
theorem dL_law_922 : decode cL_law 922 = .ok (.iconst 2, 1) := by decide +kernel
theorem dL_law_923 : decode cL_law 923 = .ok (.iadd, 1) := by decide +kernel
theorem dL_law_924 : decode cL_law 924 = .ok (.iaload, 1) := by decide +kernel
theorem dL_law_925 : decode cL_law 925 = .ok (.aload_n 0, 1) := by decide +kernel
theorem dL_law_926 : decode cL_law 926 = .ok (.iload_n 3, 1) := by decide +kernel
theorem dL_law_927 : decode cL_law 927 = .ok (.iconst 3, 1) := by decide +kernel
theorem dL_law_928 : decode cL_law 928 = .ok (.iadd, 1) := by decide +kernel
theorem dL_law_929 : decode cL_law 929 = .ok (.iaload, 1) := by decide +kernel
theorem dL_law_930 : decode cL_law 930 = .ok (.aload_n 0, 1) := by decide +kernel
theorem dL_law_931 : decode cL_law 931 = .ok (.iload_n 3, 1) := by decide +kernel
theorem dL_law_932 : decode cL_law 932 = .ok (.iconst 4, 1) := by decide +kernel
theorem dL_law_933 : decode cL_law 933 = .ok (.iadd, 1) := by decide +kernel
theorem dL_law_934 : decode cL_law 934 = .ok (.iaload, 1) := by decide +kernel
theorem dL_law_935 : decode cL_law 935 = .ok (.invokevirtual 95, 3) := by decide +kernel
theorem dL_law_938 : decode cL_law 938 = .ok (.if_icmp .eq 1020, 3) := by decide +kernel
theorem dL_law_941 : decode cL_law 941 = .ok (.iconst 0, 1) := by decide +kernel
theorem dL_law_942 : decode cL_law 942 = .ok (.ireturn, 1) := by decide +kernel
theorem dL_law_943 : decode cL_law 943 = .ok (.aload_n 1, 1) := by decide +kernel
theorem dL_law_944 : decode cL_law 944 = .ok (.aload_n 0, 1) := by decide +kernel
theorem dL_law_945 : decode cL_law 945 = .ok (.iload_n 3, 1) := by decide +kernel
theorem dL_law_946 : decode cL_law 946 = .ok (.iconst 1, 1) := by decide +kernel
theorem dL_law_947 : decode cL_law 947 = .ok (.iadd, 1) := by decide +kernel
theorem dL_law_948 : decode cL_law 948 = .ok (.iaload, 1) := by decide +kernel
theorem dL_law_949 : decode cL_law 949 = .ok (.invokevirtual 96, 3) := by decide +kernel
theorem dL_law_952 : decode cL_law 952 = .ok (.aload_n 2, 1) := by decide +kernel
theorem dL_law_953 : decode cL_law 953 = .ok (.aload_n 0, 1) := by decide +kernel
theorem dL_law_954 : decode cL_law 954 = .ok (.iload_n 3, 1) := by decide +kernel
theorem dL_law_955 : decode cL_law 955 = .ok (.iconst 1, 1) := by decide +kernel
theorem dL_law_956 : decode cL_law 956 = .ok (.iadd, 1) := by decide +kernel
theorem dL_law_957 : decode cL_law 957 = .ok (.iaload, 1) := by decide +kernel
theorem dL_law_958 : decode cL_law 958 = .ok (.invokevirtual 99, 3) := by decide +kernel
theorem dL_law_961 : decode cL_law 961 = .ok (.if_icmp .eq 997, 3) := by decide +kernel
theorem dL_law_964 : decode cL_law 964 = .ok (.iconst 0, 1) := by decide +kernel
theorem dL_law_965 : decode cL_law 965 = .ok (.ireturn, 1) := by decide +kernel
theorem dL_law_966 : decode cL_law 966 = .ok (.aload_n 1, 1) := by decide +kernel
theorem dL_law_967 : decode cL_law 967 = .ok (.invokevirtual 100, 3) := by decide +kernel
theorem dL_law_970 : decode cL_law 970 = .ok (.aload_n 2, 1) := by decide +kernel
theorem dL_law_971 : decode cL_law 971 = .ok (.invokevirtual 104, 3) := by decide +kernel
theorem dL_law_974 : decode cL_law 974 = .ok (.if_icmp .eq 984, 3) := by decide +kernel
theorem dL_law_977 : decode cL_law 977 = .ok (.iconst 0, 1) := by decide +kernel
theorem dL_law_978 : decode cL_law 978 = .ok (.ireturn, 1) := by decide +kernel
theorem dL_law_979 : decode cL_law 979 = .ok (.aload_n 1, 1) := by decide +kernel
theorem dL_law_980 : decode cL_law 980 = .ok (.aload_n 0, 1) := by decide +kernel
theorem dL_law_981 : decode cL_law 981 = .ok (.iload_n 3, 1) := by decide +kernel
theorem dL_law_982 : decode cL_law 982 = .ok (.iconst 1, 1) := by decide +kernel
theorem dL_law_983 : decode cL_law 983 = .ok (.iadd, 1) := by decide +kernel
theorem dL_law_984 : decode cL_law 984 = .ok (.iaload, 1) := by decide +kernel
theorem dL_law_985 : decode cL_law 985 = .ok (.aload_n 0, 1) := by decide +kernel
theorem dL_law_986 : decode cL_law 986 = .ok (.iload_n 3, 1) := by decide +kernel
theorem dL_law_987 : decode cL_law 987 = .ok (.iconst 2, 1) := by decide +kernel
theorem dL_law_988 : decode cL_law 988 = .ok (.iadd, 1) := by decide +kernel
theorem dL_law_989 : decode cL_law 989 = .ok (.iaload, 1) := by decide +kernel
theorem dL_law_990 : decode cL_law 990 = .ok (.aload_n 0, 1) := by decide +kernel
theorem dL_law_991 : decode cL_law 991 = .ok (.iload_n 3, 1) := by decide +kernel
theorem dL_law_992 : decode cL_law 992 = .ok (.iconst 3, 1) := by decide +kernel
theorem dL_law_993 : decode cL_law 993 = .ok (.iadd, 1) := by decide +kernel
theorem dL_law_994 : decode cL_law 994 = .ok (.iaload, 1) := by decide +kernel
theorem dL_law_995 : decode cL_law 995 = .ok (.aload_n 0, 1) := by decide +kernel
theorem dL_law_996 : decode cL_law 996 = .ok (.iload_n 3, 1) := by decide +kernel
theorem dL_law_997 : decode cL_law 997 = .ok (.iconst 4, 1) := by decide +kernel
theorem dL_law_998 : decode cL_law 998 = .ok (.iadd, 1) := by decide +kernel
theorem dL_law_999 : decode cL_law 999 = .ok (.iaload, 1) := by decide +kernel
theorem dL_law_1000 : decode cL_law 1000 = .ok (.invokevirtual 105, 3) := by decide +kernel
theorem dL_law_1003 : decode cL_law 1003 = .ok (.aload_n 2, 1) := by decide +kernel
theorem dL_law_1004 : decode cL_law 1004 = .ok (.aload_n 0, 1) := by decide +kernel
theorem dL_law_1005 : decode cL_law 1005 = .ok (.iload_n 3, 1) := by decide +kernel
theorem dL_law_1006 : decode cL_law 1006 = .ok (.iconst 1, 1) := by decide +kernel
theorem dL_law_1007 : decode cL_law 1007 = .ok (.iadd, 1) := by decide +kernel
theorem dL_law_1008 : decode cL_law 1008 = .ok (.iaload, 1) := by decide +kernel
theorem dL_law_1009 : decode cL_law 1009 = .ok (.aload_n 0, 1) := by decide +kernel
theorem dL_law_1010 : decode cL_law 1010 = .ok (.iload_n 3, 1) := by decide +kernel
theorem dL_law_1011 : decode cL_law 1011 = .ok (.iconst 2, 1) := by decide +kernel
theorem dL_law_1012 : decode cL_law 1012 = .ok (.iadd, 1) := by decide +kernel
theorem dL_law_1013 : decode cL_law 1013 = .ok (.iaload, 1) := by decide +kernel
theorem dL_law_1014 : decode cL_law 1014 = .ok (.aload_n 0, 1) := by decide +kernel
theorem dL_law_1015 : decode cL_law 1015 = .ok (.iload_n 3, 1) := by decide +kernel
theorem dL_law_1016 : decode cL_law 1016 = .ok (.iconst 3, 1) := by decide +kernel
theorem dL_law_1017 : decode cL_law 1017 = .ok (.iadd, 1) := by decide +kernel
theorem dL_law_1018 : decode cL_law 1018 = .ok (.iaload, 1) := by decide +kernel
theorem dL_law_1019 : decode cL_law 1019 = .ok (.aload_n 0, 1) := by decide +kernel
theorem dL_law_1020 : decode cL_law 1020 = .ok (.iload_n 3, 1) := by decide +kernel
theorem dL_law_1021 : decode cL_law 1021 = .ok (.iconst 4, 1) := by decide +kernel
theorem dL_law_1022 : decode cL_law 1022 = .ok (.iadd, 1) := by decide +kernel
theorem dL_law_1023 : decode cL_law 1023 = .ok (.iaload, 1) := by decide +kernel
theorem dL_law_1024 : decode cL_law 1024 = .ok (.invokevirtual 108, 3) := by decide +kernel
theorem dL_law_1027 : decode cL_law 1027 = .ok (.if_icmp .eq 931, 3) := by decide +kernel
theorem dL_law_1030 : decode cL_law 1030 = .ok (.iconst 0, 1) := by decide +kernel
theorem dL_law_1031 : decode cL_law 1031 = .ok (.ireturn, 1) := by decide +kernel
theorem dL_law_1032 : decode cL_law 1032 = .ok (.aload_n 1, 1) := by decide +kernel
theorem dL_law_1033 : decode cL_law 1033 = .ok (.invokevirtual 109, 3) := by decide +kernel
theorem dL_law_1036 : decode cL_law 1036 = .ok (.aload_n 2, 1) := by decide +kernel
theorem dL_law_1037 : decode cL_law 1037 = .ok (.invokevirtual 112, 3) := by decide +kernel
theorem dL_law_1040 : decode cL_law 1040 = .ok (.if_icmp .eq 918, 3) := by decide +kernel
theorem dL_law_1043 : decode cL_law 1043 = .ok (.iconst 0, 1) := by decide +kernel
theorem dL_law_1044 : decode cL_law 1044 = .ok (.ireturn, 1) := by decide +kernel
theorem dL_law_1045 : decode cL_law 1045 = .ok (.aload_n 1, 1) := by decide +kernel
theorem dL_law_1046 : decode cL_law 1046 = .ok (.aload_n 0, 1) := by decide +kernel
theorem dL_law_1047 : decode cL_law 1047 = .ok (.iload_n 3, 1) := by decide +kernel
theorem dL_law_1048 : decode cL_law 1048 = .ok (.iconst 1, 1) := by decide +kernel
theorem dL_law_1049 : decode cL_law 1049 = .ok (.iadd, 1) := by decide +kernel
theorem dL_law_1050 : decode cL_law 1050 = .ok (.iaload, 1) := by decide +kernel
theorem dL_law_1051 : decode cL_law 1051 = .ok (.invokevirtual 113, 3) := by decide +kernel
theorem dL_law_1054 : decode cL_law 1054 = .ok (.aload_n 2, 1) := by decide +kernel
theorem dL_law_1055 : decode cL_law 1055 = .ok (.aload_n 0, 1) := by decide +kernel
theorem dL_law_1056 : decode cL_law 1056 = .ok (.iload_n 3, 1) := by decide +kernel
theorem dL_law_1057 : decode cL_law 1057 = .ok (.iconst 1, 1) := by decide +kernel
theorem dL_law_1058 : decode cL_law 1058 = .ok (.iadd, 1) := by decide +kernel
theorem dL_law_1059 : decode cL_law 1059 = .ok (.iaload, 1) := by decide +kernel
theorem dL_law_1060 : decode cL_law 1060 = .ok (.invokevirtual 116, 3) := by decide +kernel
theorem dL_law_1063 : decode cL_law 1063 = .ok (.if_icmp .eq 895, 3) := by decide +kernel
theorem dL_law_1066 : decode cL_law 1066 = .ok (.iconst 0, 1) := by decide +kernel
theorem dL_law_1067 : decode cL_law 1067 = .ok (.ireturn, 1) := by decide +kernel
theorem dL_law_1068 : decode cL_law 1068 = .ok (.aload_n 1, 1) := by decide +kernel
theorem dL_law_1069 : decode cL_law 1069 = .ok (.aload_n 0, 1) := by decide +kernel
theorem dL_law_1070 : decode cL_law 1070 = .ok (.iload_n 3, 1) := by decide +kernel
theorem dL_law_1071 : decode cL_law 1071 = .ok (.iconst 1, 1) := by decide +kernel
theorem dL_law_1072 : decode cL_law 1072 = .ok (.iadd, 1) := by decide +kernel
theorem dL_law_1073 : decode cL_law 1073 = .ok (.iaload, 1) := by decide +kernel
theorem dL_law_1074 : decode cL_law 1074 = .ok (.aload_n 0, 1) := by decide +kernel
theorem dL_law_1075 : decode cL_law 1075 = .ok (.iload_n 3, 1) := by decide +kernel
theorem dL_law_1076 : decode cL_law 1076 = .ok (.iconst 2, 1) := by decide +kernel
theorem dL_law_1077 : decode cL_law 1077 = .ok (.iadd, 1) := by decide +kernel
theorem dL_law_1078 : decode cL_law 1078 = .ok (.iaload, 1) := by decide +kernel
theorem dL_law_1079 : decode cL_law 1079 = .ok (.invokevirtual 117, 3) := by decide +kernel
theorem dL_law_1082 : decode cL_law 1082 = .ok (.aload_n 2, 1) := by decide +kernel
theorem dL_law_1083 : decode cL_law 1083 = .ok (.aload_n 0, 1) := by decide +kernel
theorem dL_law_1084 : decode cL_law 1084 = .ok (.iload_n 3, 1) := by decide +kernel
theorem dL_law_1085 : decode cL_law 1085 = .ok (.iconst 1, 1) := by decide +kernel
theorem dL_law_1086 : decode cL_law 1086 = .ok (.iadd, 1) := by decide +kernel
theorem dL_law_1087 : decode cL_law 1087 = .ok (.iaload, 1) := by decide +kernel
theorem dL_law_1088 : decode cL_law 1088 = .ok (.aload_n 0, 1) := by decide +kernel
theorem dL_law_1089 : decode cL_law 1089 = .ok (.iload_n 3, 1) := by decide +kernel
theorem dL_law_1090 : decode cL_law 1090 = .ok (.iconst 2, 1) := by decide +kernel
theorem dL_law_1091 : decode cL_law 1091 = .ok (.iadd, 1) := by decide +kernel
theorem dL_law_1092 : decode cL_law 1092 = .ok (.iaload, 1) := by decide +kernel
theorem dL_law_1093 : decode cL_law 1093 = .ok (.invokevirtual 120, 3) := by decide +kernel
theorem dL_law_1096 : decode cL_law 1096 = .ok (.if_icmp .eq 862, 3) := by decide +kernel
theorem dL_law_1099 : decode cL_law 1099 = .ok (.iconst 0, 1) := by decide +kernel
theorem dL_law_1100 : decode cL_law 1100 = .ok (.ireturn, 1) := by decide +kernel
theorem dL_law_1101 : decode cL_law 1101 = .ok (.aload_n 1, 1) := by decide +kernel
theorem dL_law_1102 : decode cL_law 1102 = .ok (.aload_n 0, 1) := by decide +kernel
theorem dL_law_1103 : decode cL_law 1103 = .ok (.iload_n 3, 1) := by decide +kernel
theorem dL_law_1104 : decode cL_law 1104 = .ok (.iconst 1, 1) := by decide +kernel
theorem dL_law_1105 : decode cL_law 1105 = .ok (.iadd, 1) := by decide +kernel
theorem dL_law_1106 : decode cL_law 1106 = .ok (.iaload, 1) := by decide +kernel
theorem dL_law_1107 : decode cL_law 1107 = .ok (.aload_n 0, 1) := by decide +kernel
theorem dL_law_1108 : decode cL_law 1108 = .ok (.iload_n 3, 1) := by decide +kernel
theorem dL_law_1109 : decode cL_law 1109 = .ok (.iconst 2, 1) := by decide +kernel
theorem dL_law_1110 : decode cL_law 1110 = .ok (.iadd, 1) := by decide +kernel
theorem dL_law_1111 : decode cL_law 1111 = .ok (.iaload, 1) := by decide +kernel
theorem dL_law_1112 : decode cL_law 1112 = .ok (.invokevirtual 121, 3) := by decide +kernel
theorem dL_law_1115 : decode cL_law 1115 = .ok (.aload_n 2, 1) := by decide +kernel
theorem dL_law_1116 : decode cL_law 1116 = .ok (.aload_n 0, 1) := by decide +kernel
theorem dL_law_1117 : decode cL_law 1117 = .ok (.iload_n 3, 1) := by decide +kernel
theorem dL_law_1118 : decode cL_law 1118 = .ok (.iconst 1, 1) := by decide +kernel
theorem dL_law_1119 : decode cL_law 1119 = .ok (.iadd, 1) := by decide +kernel
theorem dL_law_1120 : decode cL_law 1120 = .ok (.iaload, 1) := by decide +kernel
theorem dL_law_1121 : decode cL_law 1121 = .ok (.aload_n 0, 1) := by decide +kernel
theorem dL_law_1122 : decode cL_law 1122 = .ok (.iload_n 3, 1) := by decide +kernel
theorem dL_law_1123 : decode cL_law 1123 = .ok (.iconst 2, 1) := by decide +kernel
theorem dL_law_1124 : decode cL_law 1124 = .ok (.iadd, 1) := by decide +kernel
theorem dL_law_1125 : decode cL_law 1125 = .ok (.iaload, 1) := by decide +kernel
theorem dL_law_1126 : decode cL_law 1126 = .ok (.invokevirtual 124, 3) := by decide +kernel
theorem dL_law_1129 : decode cL_law 1129 = .ok (.if_icmp .eq 829, 3) := by decide +kernel
theorem dL_law_1132 : decode cL_law 1132 = .ok (.iconst 0, 1) := by decide +kernel
theorem dL_law_1133 : decode cL_law 1133 = .ok (.ireturn, 1) := by decide +kernel
theorem dL_law_1134 : decode cL_law 1134 = .ok (.aload_n 1, 1) := by decide +kernel
theorem dL_law_1135 : decode cL_law 1135 = .ok (.aload_n 0, 1) := by decide +kernel
theorem dL_law_1136 : decode cL_law 1136 = .ok (.iload_n 3, 1) := by decide +kernel
theorem dL_law_1137 : decode cL_law 1137 = .ok (.iconst 1, 1) := by decide +kernel
theorem dL_law_1138 : decode cL_law 1138 = .ok (.iadd, 1) := by decide +kernel
theorem dL_law_1139 : decode cL_law 1139 = .ok (.iaload, 1) := by decide +kernel
theorem dL_law_1140 : decode cL_law 1140 = .ok (.aload_n 0, 1) := by decide +kernel
theorem dL_law_1141 : decode cL_law 1141 = .ok (.iload_n 3, 1) := by decide +kernel
theorem dL_law_1142 : decode cL_law 1142 = .ok (.iconst 2, 1) := by decide +kernel
theorem dL_law_1143 : decode cL_law 1143 = .ok (.iadd, 1) := by decide +kernel
theorem dL_law_1144 : decode cL_law 1144 = .ok (.iaload, 1) := by decide +kernel
theorem dL_law_1145 : decode cL_law 1145 = .ok (.invokevirtual 125, 3) := by decide +kernel
theorem dL_law_1148 : decode cL_law 1148 = .ok (.aload_n 2, 1) := by decide +kernel
theorem dL_law_1149 : decode cL_law 1149 = .ok (.aload_n 0, 1) := by decide +kernel
theorem dL_law_1150 : decode cL_law 1150 = .ok (.iload_n 3, 1) := by decide +kernel
theorem dL_law_1151 : decode cL_law 1151 = .ok (.iconst 1, 1) := by decide +kernel
theorem dL_law_1152 : decode cL_law 1152 = .ok (.iadd, 1) := by decide +kernel
theorem dL_law_1153 : decode cL_law 1153 = .ok (.iaload, 1) := by decide +kernel
theorem dL_law_1154 : decode cL_law 1154 = .ok (.aload_n 0, 1) := by decide +kernel
theorem dL_law_1155 : decode cL_law 1155 = .ok (.iload_n 3, 1) := by decide +kernel
theorem dL_law_1156 : decode cL_law 1156 = .ok (.iconst 2, 1) := by decide +kernel
theorem dL_law_1157 : decode cL_law 1157 = .ok (.iadd, 1) := by decide +kernel
theorem dL_law_1158 : decode cL_law 1158 = .ok (.iaload, 1) := by decide +kernel
theorem dL_law_1159 : decode cL_law 1159 = .ok (.invokevirtual 128, 3) := by decide +kernel
theorem dL_law_1162 : decode cL_law 1162 = .ok (.if_icmp .eq 796, 3) := by decide +kernel
theorem dL_law_1165 : decode cL_law 1165 = .ok (.iconst 0, 1) := by decide +kernel
theorem dL_law_1166 : decode cL_law 1166 = .ok (.ireturn, 1) := by decide +kernel
theorem dL_law_1167 : decode cL_law 1167 = .ok (.aload_n 1, 1) := by decide +kernel
theorem dL_law_1168 : decode cL_law 1168 = .ok (.aload_n 0, 1) := by decide +kernel
theorem dL_law_1169 : decode cL_law 1169 = .ok (.iload_n 3, 1) := by decide +kernel
theorem dL_law_1170 : decode cL_law 1170 = .ok (.iconst 1, 1) := by decide +kernel
theorem dL_law_1171 : decode cL_law 1171 = .ok (.iadd, 1) := by decide +kernel
theorem dL_law_1172 : decode cL_law 1172 = .ok (.iaload, 1) := by decide +kernel
theorem dL_law_1173 : decode cL_law 1173 = .ok (.invokevirtual 129, 3) := by decide +kernel
theorem dL_law_1176 : decode cL_law 1176 = .ok (.aload_n 2, 1) := by decide +kernel
theorem dL_law_1177 : decode cL_law 1177 = .ok (.aload_n 0, 1) := by decide +kernel
theorem dL_law_1178 : decode cL_law 1178 = .ok (.iload_n 3, 1) := by decide +kernel
theorem dL_law_1179 : decode cL_law 1179 = .ok (.iconst 1, 1) := by decide +kernel
theorem dL_law_1180 : decode cL_law 1180 = .ok (.iadd, 1) := by decide +kernel
theorem dL_law_1181 : decode cL_law 1181 = .ok (.iaload, 1) := by decide +kernel
theorem dL_law_1182 : decode cL_law 1182 = .ok (.invokevirtual 132, 3) := by decide +kernel
theorem dL_law_1185 : decode cL_law 1185 = .ok (.if_icmp .eq 773, 3) := by decide +kernel
theorem dL_law_1188 : decode cL_law 1188 = .ok (.iconst 0, 1) := by decide +kernel
theorem dL_law_1189 : decode cL_law 1189 = .ok (.ireturn, 1) := by decide +kernel
theorem dL_law_1190 : decode cL_law 1190 = .ok (.aload_n 1, 1) := by decide +kernel
theorem dL_law_1191 : decode cL_law 1191 = .ok (.aload_n 0, 1) := by decide +kernel
theorem dL_law_1192 : decode cL_law 1192 = .ok (.iload_n 3, 1) := by decide +kernel
theorem dL_law_1193 : decode cL_law 1193 = .ok (.iconst 1, 1) := by decide +kernel
theorem dL_law_1194 : decode cL_law 1194 = .ok (.iadd, 1) := by decide +kernel
theorem dL_law_1195 : decode cL_law 1195 = .ok (.iaload, 1) := by decide +kernel
theorem dL_law_1196 : decode cL_law 1196 = .ok (.invokevirtual 133, 3) := by decide +kernel
theorem dL_law_1199 : decode cL_law 1199 = .ok (.aload_n 2, 1) := by decide +kernel
theorem dL_law_1200 : decode cL_law 1200 = .ok (.aload_n 0, 1) := by decide +kernel
theorem dL_law_1201 : decode cL_law 1201 = .ok (.iload_n 3, 1) := by decide +kernel
theorem dL_law_1202 : decode cL_law 1202 = .ok (.iconst 1, 1) := by decide +kernel
theorem dL_law_1203 : decode cL_law 1203 = .ok (.iadd, 1) := by decide +kernel
theorem dL_law_1204 : decode cL_law 1204 = .ok (.iaload, 1) := by decide +kernel
theorem dL_law_1205 : decode cL_law 1205 = .ok (.invokevirtual 136, 3) := by decide +kernel
theorem dL_law_1208 : decode cL_law 1208 = .ok (.if_icmp .eq 750, 3) := by decide +kernel
theorem dL_law_1211 : decode cL_law 1211 = .ok (.iconst 0, 1) := by decide +kernel
theorem dL_law_1212 : decode cL_law 1212 = .ok (.ireturn, 1) := by decide +kernel
theorem dL_law_1213 : decode cL_law 1213 = .ok (.aload_n 1, 1) := by decide +kernel
theorem dL_law_1214 : decode cL_law 1214 = .ok (.aload_n 0, 1) := by decide +kernel
theorem dL_law_1215 : decode cL_law 1215 = .ok (.iload_n 3, 1) := by decide +kernel
theorem dL_law_1216 : decode cL_law 1216 = .ok (.iconst 1, 1) := by decide +kernel
theorem dL_law_1217 : decode cL_law 1217 = .ok (.iadd, 1) := by decide +kernel
theorem dL_law_1218 : decode cL_law 1218 = .ok (.iaload, 1) := by decide +kernel
theorem dL_law_1219 : decode cL_law 1219 = .ok (.aload_n 0, 1) := by decide +kernel
theorem dL_law_1220 : decode cL_law 1220 = .ok (.iload_n 3, 1) := by decide +kernel
theorem dL_law_1221 : decode cL_law 1221 = .ok (.iconst 2, 1) := by decide +kernel
theorem dL_law_1222 : decode cL_law 1222 = .ok (.iadd, 1) := by decide +kernel
theorem dL_law_1223 : decode cL_law 1223 = .ok (.iaload, 1) := by decide +kernel
theorem dL_law_1224 : decode cL_law 1224 = .ok (.invokevirtual 137, 3) := by decide +kernel
theorem dL_law_1227 : decode cL_law 1227 = .ok (.aload_n 2, 1) := by decide +kernel
theorem dL_law_1228 : decode cL_law 1228 = .ok (.aload_n 0, 1) := by decide +kernel
theorem dL_law_1229 : decode cL_law 1229 = .ok (.iload_n 3, 1) := by decide +kernel
theorem dL_law_1230 : decode cL_law 1230 = .ok (.iconst 1, 1) := by decide +kernel
theorem dL_law_1231 : decode cL_law 1231 = .ok (.iadd, 1) := by decide +kernel
theorem dL_law_1232 : decode cL_law 1232 = .ok (.iaload, 1) := by decide +kernel
theorem dL_law_1233 : decode cL_law 1233 = .ok (.aload_n 0, 1) := by decide +kernel
theorem dL_law_1234 : decode cL_law 1234 = .ok (.iload_n 3, 1) := by decide +kernel
theorem dL_law_1235 : decode cL_law 1235 = .ok (.iconst 2, 1) := by decide +kernel
theorem dL_law_1236 : decode cL_law 1236 = .ok (.iadd, 1) := by decide +kernel
theorem dL_law_1237 : decode cL_law 1237 = .ok (.iaload, 1) := by decide +kernel
theorem dL_law_1238 : decode cL_law 1238 = .ok (.invokevirtual 140, 3) := by decide +kernel
theorem dL_law_1241 : decode cL_law 1241 = .ok (.if_icmp .eq 717, 3) := by decide +kernel
theorem dL_law_1244 : decode cL_law 1244 = .ok (.iconst 0, 1) := by decide +kernel
theorem dL_law_1245 : decode cL_law 1245 = .ok (.ireturn, 1) := by decide +kernel
theorem dL_law_1246 : decode cL_law 1246 = .ok (.aload_n 1, 1) := by decide +kernel
theorem dL_law_1247 : decode cL_law 1247 = .ok (.aload_n 0, 1) := by decide +kernel
theorem dL_law_1248 : decode cL_law 1248 = .ok (.iload_n 3, 1) := by decide +kernel
theorem dL_law_1249 : decode cL_law 1249 = .ok (.iconst 1, 1) := by decide +kernel
theorem dL_law_1250 : decode cL_law 1250 = .ok (.iadd, 1) := by decide +kernel
theorem dL_law_1251 : decode cL_law 1251 = .ok (.iaload, 1) := by decide +kernel
theorem dL_law_1252 : decode cL_law 1252 = .ok (.aload_n 0, 1) := by decide +kernel
theorem dL_law_1253 : decode cL_law 1253 = .ok (.iload_n 3, 1) := by decide +kernel
theorem dL_law_1254 : decode cL_law 1254 = .ok (.iconst 2, 1) := by decide +kernel
theorem dL_law_1255 : decode cL_law 1255 = .ok (.iadd, 1) := by decide +kernel
theorem dL_law_1256 : decode cL_law 1256 = .ok (.iaload, 1) := by decide +kernel
theorem dL_law_1257 : decode cL_law 1257 = .ok (.aload_n 0, 1) := by decide +kernel
theorem dL_law_1258 : decode cL_law 1258 = .ok (.iload_n 3, 1) := by decide +kernel
theorem dL_law_1259 : decode cL_law 1259 = .ok (.iconst 3, 1) := by decide +kernel
theorem dL_law_1260 : decode cL_law 1260 = .ok (.iadd, 1) := by decide +kernel
theorem dL_law_1261 : decode cL_law 1261 = .ok (.iaload, 1) := by decide +kernel
theorem dL_law_1262 : decode cL_law 1262 = .ok (.invokevirtual 141, 3) := by decide +kernel
theorem dL_law_1265 : decode cL_law 1265 = .ok (.aload_n 2, 1) := by decide +kernel
theorem dL_law_1266 : decode cL_law 1266 = .ok (.aload_n 0, 1) := by decide +kernel
theorem dL_law_1267 : decode cL_law 1267 = .ok (.iload_n 3, 1) := by decide +kernel
theorem dL_law_1268 : decode cL_law 1268 = .ok (.iconst 1, 1) := by decide +kernel
theorem dL_law_1269 : decode cL_law 1269 = .ok (.iadd, 1) := by decide +kernel
theorem dL_law_1270 : decode cL_law 1270 = .ok (.iaload, 1) := by decide +kernel
theorem dL_law_1271 : decode cL_law 1271 = .ok (.aload_n 0, 1) := by decide +kernel
theorem dL_law_1272 : decode cL_law 1272 = .ok (.iload_n 3, 1) := by decide +kernel
theorem dL_law_1273 : decode cL_law 1273 = .ok (.iconst 2, 1) := by decide +kernel
theorem dL_law_1274 : decode cL_law 1274 = .ok (.iadd, 1) := by decide +kernel
theorem dL_law_1275 : decode cL_law 1275 = .ok (.iaload, 1) := by decide +kernel
theorem dL_law_1276 : decode cL_law 1276 = .ok (.aload_n 0, 1) := by decide +kernel
theorem dL_law_1277 : decode cL_law 1277 = .ok (.iload_n 3, 1) := by decide +kernel
theorem dL_law_1278 : decode cL_law 1278 = .ok (.iconst 3, 1) := by decide +kernel
theorem dL_law_1279 : decode cL_law 1279 = .ok (.iadd, 1) := by decide +kernel
theorem dL_law_1280 : decode cL_law 1280 = .ok (.iaload, 1) := by decide +kernel
theorem dL_law_1281 : decode cL_law 1281 = .ok (.invokevirtual 144, 3) := by decide +kernel
theorem dL_law_1284 : decode cL_law 1284 = .ok (.if_icmp .eq 674, 3) := by decide +kernel
theorem dL_law_1287 : decode cL_law 1287 = .ok (.iconst 0, 1) := by decide +kernel
theorem dL_law_1288 : decode cL_law 1288 = .ok (.ireturn, 1) := by decide +kernel
theorem dL_law_1289 : decode cL_law 1289 = .ok (.aload_n 1, 1) := by decide +kernel
theorem dL_law_1290 : decode cL_law 1290 = .ok (.aload_n 0, 1) := by decide +kernel
theorem dL_law_1291 : decode cL_law 1291 = .ok (.iload_n 3, 1) := by decide +kernel
theorem dL_law_1292 : decode cL_law 1292 = .ok (.iconst 1, 1) := by decide +kernel
theorem dL_law_1293 : decode cL_law 1293 = .ok (.iadd, 1) := by decide +kernel
theorem dL_law_1294 : decode cL_law 1294 = .ok (.iaload, 1) := by decide +kernel
theorem dL_law_1295 : decode cL_law 1295 = .ok (.aload_n 0, 1) := by decide +kernel
theorem dL_law_1296 : decode cL_law 1296 = .ok (.iload_n 3, 1) := by decide +kernel
theorem dL_law_1297 : decode cL_law 1297 = .ok (.iconst 2, 1) := by decide +kernel
theorem dL_law_1298 : decode cL_law 1298 = .ok (.iadd, 1) := by decide +kernel
theorem dL_law_1299 : decode cL_law 1299 = .ok (.iaload, 1) := by decide +kernel
theorem dL_law_1300 : decode cL_law 1300 = .ok (.invokevirtual 145, 3) := by decide +kernel
theorem dL_law_1303 : decode cL_law 1303 = .ok (.aload_n 2, 1) := by decide +kernel
theorem dL_law_1304 : decode cL_law 1304 = .ok (.aload_n 0, 1) := by decide +kernel
theorem dL_law_1305 : decode cL_law 1305 = .ok (.iload_n 3, 1) := by decide +kernel
theorem dL_law_1306 : decode cL_law 1306 = .ok (.iconst 1, 1) := by decide +kernel
theorem dL_law_1307 : decode cL_law 1307 = .ok (.iadd, 1) := by decide +kernel
theorem dL_law_1308 : decode cL_law 1308 = .ok (.iaload, 1) := by decide +kernel
theorem dL_law_1309 : decode cL_law 1309 = .ok (.aload_n 0, 1) := by decide +kernel
theorem dL_law_1310 : decode cL_law 1310 = .ok (.iload_n 3, 1) := by decide +kernel
theorem dL_law_1311 : decode cL_law 1311 = .ok (.iconst 2, 1) := by decide +kernel
theorem dL_law_1312 : decode cL_law 1312 = .ok (.iadd, 1) := by decide +kernel
theorem dL_law_1313 : decode cL_law 1313 = .ok (.iaload, 1) := by decide +kernel
theorem dL_law_1314 : decode cL_law 1314 = .ok (.invokevirtual 148, 3) := by decide +kernel
theorem dL_law_1317 : decode cL_law 1317 = .ok (.if_icmp .eq 641, 3) := by decide +kernel
theorem dL_law_1320 : decode cL_law 1320 = .ok (.iconst 0, 1) := by decide +kernel
theorem dL_law_1321 : decode cL_law 1321 = .ok (.ireturn, 1) := by decide +kernel
theorem dL_law_1322 : decode cL_law 1322 = .ok (.aload_n 1, 1) := by decide +kernel
theorem dL_law_1323 : decode cL_law 1323 = .ok (.aload_n 0, 1) := by decide +kernel
theorem dL_law_1324 : decode cL_law 1324 = .ok (.iload_n 3, 1) := by decide +kernel
theorem dL_law_1325 : decode cL_law 1325 = .ok (.iconst 1, 1) := by decide +kernel
theorem dL_law_1326 : decode cL_law 1326 = .ok (.iadd, 1) := by decide +kernel
theorem dL_law_1327 : decode cL_law 1327 = .ok (.iaload, 1) := by decide +kernel
theorem dL_law_1328 : decode cL_law 1328 = .ok (.aload_n 0, 1) := by decide +kernel
theorem dL_law_1329 : decode cL_law 1329 = .ok (.iload_n 3, 1) := by decide +kernel
theorem dL_law_1330 : decode cL_law 1330 = .ok (.iconst 2, 1) := by decide +kernel
theorem dL_law_1331 : decode cL_law 1331 = .ok (.iadd, 1) := by decide +kernel
theorem dL_law_1332 : decode cL_law 1332 = .ok (.iaload, 1) := by decide +kernel
theorem dL_law_1333 : decode cL_law 1333 = .ok (.invokevirtual 149, 3) := by decide +kernel
theorem dL_law_1336 : decode cL_law 1336 = .ok (.aload_n 2, 1) := by decide +kernel
theorem dL_law_1337 : decode cL_law 1337 = .ok (.aload_n 0, 1) := by decide +kernel
theorem dL_law_1338 : decode cL_law 1338 = .ok (.iload_n 3, 1) := by decide +kernel
theorem dL_law_1339 : decode cL_law 1339 = .ok (.iconst 1, 1) := by decide +kernel
theorem dL_law_1340 : decode cL_law 1340 = .ok (.iadd, 1) := by decide +kernel
theorem dL_law_1341 : decode cL_law 1341 = .ok (.iaload, 1) := by decide +kernel
theorem dL_law_1342 : decode cL_law 1342 = .ok (.aload_n 0, 1) := by decide +kernel
theorem dL_law_1343 : decode cL_law 1343 = .ok (.iload_n 3, 1) := by decide +kernel
theorem dL_law_1344 : decode cL_law 1344 = .ok (.iconst 2, 1) := by decide +kernel
theorem dL_law_1345 : decode cL_law 1345 = .ok (.iadd, 1) := by decide +kernel
theorem dL_law_1346 : decode cL_law 1346 = .ok (.iaload, 1) := by decide +kernel
theorem dL_law_1347 : decode cL_law 1347 = .ok (.invokevirtual 152, 3) := by decide +kernel
theorem dL_law_1350 : decode cL_law 1350 = .ok (.if_icmp .eq 608, 3) := by decide +kernel
theorem dL_law_1353 : decode cL_law 1353 = .ok (.iconst 0, 1) := by decide +kernel
theorem dL_law_1354 : decode cL_law 1354 = .ok (.ireturn, 1) := by decide +kernel
theorem dL_law_1355 : decode cL_law 1355 = .ok (.aload_n 1, 1) := by decide +kernel
theorem dL_law_1356 : decode cL_law 1356 = .ok (.aload_n 0, 1) := by decide +kernel
theorem dL_law_1357 : decode cL_law 1357 = .ok (.iload_n 3, 1) := by decide +kernel
theorem dL_law_1358 : decode cL_law 1358 = .ok (.iconst 1, 1) := by decide +kernel
theorem dL_law_1359 : decode cL_law 1359 = .ok (.iadd, 1) := by decide +kernel
theorem dL_law_1360 : decode cL_law 1360 = .ok (.iaload, 1) := by decide +kernel
theorem dL_law_1361 : decode cL_law 1361 = .ok (.invokevirtual 153, 3) := by decide +kernel
theorem dL_law_1364 : decode cL_law 1364 = .ok (.aload_n 2, 1) := by decide +kernel
theorem dL_law_1365 : decode cL_law 1365 = .ok (.aload_n 0, 1) := by decide +kernel
theorem dL_law_1366 : decode cL_law 1366 = .ok (.iload_n 3, 1) := by decide +kernel
theorem dL_law_1367 : decode cL_law 1367 = .ok (.iconst 1, 1) := by decide +kernel
theorem dL_law_1368 : decode cL_law 1368 = .ok (.iadd, 1) := by decide +kernel
theorem dL_law_1369 : decode cL_law 1369 = .ok (.iaload, 1) := by decide +kernel
theorem dL_law_1370 : decode cL_law 1370 = .ok (.invokevirtual 156, 3) := by decide +kernel
theorem dL_law_1373 : decode cL_law 1373 = .ok (.if_icmp .eq 585, 3) := by decide +kernel
theorem dL_law_1376 : decode cL_law 1376 = .ok (.iconst 0, 1) := by decide +kernel
theorem dL_law_1377 : decode cL_law 1377 = .ok (.ireturn, 1) := by decide +kernel
theorem dL_law_1378 : decode cL_law 1378 = .ok (.aload_n 1, 1) := by decide +kernel
theorem dL_law_1379 : decode cL_law 1379 = .ok (.aload_n 0, 1) := by decide +kernel
theorem dL_law_1380 : decode cL_law 1380 = .ok (.iload_n 3, 1) := by decide +kernel
theorem dL_law_1381 : decode cL_law 1381 = .ok (.iconst 1, 1) := by decide +kernel
theorem dL_law_1382 : decode cL_law 1382 = .ok (.iadd, 1) := by decide +kernel
theorem dL_law_1383 : decode cL_law 1383 = .ok (.iaload, 1) := by decide +kernel
theorem dL_law_1384 : decode cL_law 1384 = .ok (.aload_n 0, 1) := by decide +kernel
theorem dL_law_1385 : decode cL_law 1385 = .ok (.iload_n 3, 1) := by decide +kernel
theorem dL_law_1386 : decode cL_law 1386 = .ok (.iconst 2, 1) := by decide +kernel
theorem dL_law_1387 : decode cL_law 1387 = .ok (.iadd, 1) := by decide +kernel
theorem dL_law_1388 : decode cL_law 1388 = .ok (.iaload, 1) := by decide +kernel
theorem dL_law_1389 : decode cL_law 1389 = .ok (.invokevirtual 157, 3) := by decide +kernel
theorem dL_law_1392 : decode cL_law 1392 = .ok (.aload_n 2, 1) := by decide +kernel
theorem dL_law_1393 : decode cL_law 1393 = .ok (.aload_n 0, 1) := by decide +kernel
theorem dL_law_1394 : decode cL_law 1394 = .ok (.iload_n 3, 1) := by decide +kernel
theorem dL_law_1395 : decode cL_law 1395 = .ok (.iconst 1, 1) := by decide +kernel
theorem dL_law_1396 : decode cL_law 1396 = .ok (.iadd, 1) := by decide +kernel
theorem dL_law_1397 : decode cL_law 1397 = .ok (.iaload, 1) := by decide +kernel
theorem dL_law_1398 : decode cL_law 1398 = .ok (.aload_n 0, 1) := by decide +kernel
theorem dL_law_1399 : decode cL_law 1399 = .ok (.iload_n 3, 1) := by decide +kernel
theorem dL_law_1400 : decode cL_law 1400 = .ok (.iconst 2, 1) := by decide +kernel
theorem dL_law_1401 : decode cL_law 1401 = .ok (.iadd, 1) := by decide +kernel
theorem dL_law_1402 : decode cL_law 1402 = .ok (.iaload, 1) := by decide +kernel
theorem dL_law_1403 : decode cL_law 1403 = .ok (.invokevirtual 160, 3) := by decide +kernel
theorem dL_law_1406 : decode cL_law 1406 = .ok (.if_icmp .eq 552, 3) := by decide +kernel
theorem dL_law_1409 : decode cL_law 1409 = .ok (.iconst 0, 1) := by decide +kernel
theorem dL_law_1410 : decode cL_law 1410 = .ok (.ireturn, 1) := by decide +kernel
theorem dL_law_1411 : decode cL_law 1411 = .ok (.aload_n 1, 1) := by decide +kernel
theorem dL_law_1412 : decode cL_law 1412 = .ok (.aload_n 0, 1) := by decide +kernel
theorem dL_law_1413 : decode cL_law 1413 = .ok (.iload_n 3, 1) := by decide +kernel
theorem dL_law_1414 : decode cL_law 1414 = .ok (.iconst 1, 1) := by decide +kernel
theorem dL_law_1415 : decode cL_law 1415 = .ok (.iadd, 1) := by decide +kernel
theorem dL_law_1416 : decode cL_law 1416 = .ok (.iaload, 1) := by decide +kernel
theorem dL_law_1417 : decode cL_law 1417 = .ok (.invokevirtual 161, 3) := by decide +kernel
theorem dL_law_1420 : decode cL_law 1420 = .ok (.aload_n 2, 1) := by decide +kernel
theorem dL_law_1421 : decode cL_law 1421 = .ok (.aload_n 0, 1) := by decide +kernel
theorem dL_law_1422 : decode cL_law 1422 = .ok (.iload_n 3, 1) := by decide +kernel
theorem dL_law_1423 : decode cL_law 1423 = .ok (.iconst 1, 1) := by decide +kernel
theorem dL_law_1424 : decode cL_law 1424 = .ok (.iadd, 1) := by decide +kernel
theorem dL_law_1425 : decode cL_law 1425 = .ok (.iaload, 1) := by decide +kernel
theorem dL_law_1426 : decode cL_law 1426 = .ok (.invokevirtual 164, 3) := by decide +kernel
theorem dL_law_1429 : decode cL_law 1429 = .ok (.if_icmp .eq 529, 3) := by decide +kernel
theorem dL_law_1432 : decode cL_law 1432 = .ok (.iconst 0, 1) := by decide +kernel
theorem dL_law_1433 : decode cL_law 1433 = .ok (.ireturn, 1) := by decide +kernel
theorem dL_law_1434 : decode cL_law 1434 = .ok (.aload_n 1, 1) := by decide +kernel
theorem dL_law_1435 : decode cL_law 1435 = .ok (.aload_n 0, 1) := by decide +kernel
theorem dL_law_1436 : decode cL_law 1436 = .ok (.iload_n 3, 1) := by decide +kernel
theorem dL_law_1437 : decode cL_law 1437 = .ok (.iconst 1, 1) := by decide +kernel
theorem dL_law_1438 : decode cL_law 1438 = .ok (.iadd, 1) := by decide +kernel
theorem dL_law_1439 : decode cL_law 1439 = .ok (.iaload, 1) := by decide +kernel
theorem dL_law_1440 : decode cL_law 1440 = .ok (.invokevirtual 165, 3) := by decide +kernel
theorem dL_law_1443 : decode cL_law 1443 = .ok (.aload_n 2, 1) := by decide +kernel
theorem dL_law_1444 : decode cL_law 1444 = .ok (.aload_n 0, 1) := by decide +kernel
theorem dL_law_1445 : decode cL_law 1445 = .ok (.iload_n 3, 1) := by decide +kernel
theorem dL_law_1446 : decode cL_law 1446 = .ok (.iconst 1, 1) := by decide +kernel
theorem dL_law_1447 : decode cL_law 1447 = .ok (.iadd, 1) := by decide +kernel
theorem dL_law_1448 : decode cL_law 1448 = .ok (.iaload, 1) := by decide +kernel
theorem dL_law_1449 : decode cL_law 1449 = .ok (.invokevirtual 168, 3) := by decide +kernel
theorem dL_law_1452 : decode cL_law 1452 = .ok (.if_icmp .eq 506, 3) := by decide +kernel
theorem dL_law_1455 : decode cL_law 1455 = .ok (.iconst 0, 1) := by decide +kernel
theorem dL_law_1456 : decode cL_law 1456 = .ok (.ireturn, 1) := by decide +kernel
theorem dL_law_1457 : decode cL_law 1457 = .ok (.aload_n 1, 1) := by decide +kernel
theorem dL_law_1458 : decode cL_law 1458 = .ok (.aload_n 0, 1) := by decide +kernel
theorem dL_law_1459 : decode cL_law 1459 = .ok (.iload_n 3, 1) := by decide +kernel
theorem dL_law_1460 : decode cL_law 1460 = .ok (.iconst 1, 1) := by decide +kernel
theorem dL_law_1461 : decode cL_law 1461 = .ok (.iadd, 1) := by decide +kernel
theorem dL_law_1462 : decode cL_law 1462 = .ok (.iaload, 1) := by decide +kernel
theorem dL_law_1463 : decode cL_law 1463 = .ok (.aload_n 0, 1) := by decide +kernel
theorem dL_law_1464 : decode cL_law 1464 = .ok (.iload_n 3, 1) := by decide +kernel
theorem dL_law_1465 : decode cL_law 1465 = .ok (.iconst 2, 1) := by decide +kernel
theorem dL_law_1466 : decode cL_law 1466 = .ok (.iadd, 1) := by decide +kernel
theorem dL_law_1467 : decode cL_law 1467 = .ok (.iaload, 1) := by decide +kernel
theorem dL_law_1468 : decode cL_law 1468 = .ok (.invokevirtual 169, 3) := by decide +kernel
theorem dL_law_1471 : decode cL_law 1471 = .ok (.aload_n 2, 1) := by decide +kernel
theorem dL_law_1472 : decode cL_law 1472 = .ok (.aload_n 0, 1) := by decide +kernel
theorem dL_law_1473 : decode cL_law 1473 = .ok (.iload_n 3, 1) := by decide +kernel
theorem dL_law_1474 : decode cL_law 1474 = .ok (.iconst 1, 1) := by decide +kernel
theorem dL_law_1475 : decode cL_law 1475 = .ok (.iadd, 1) := by decide +kernel
theorem dL_law_1476 : decode cL_law 1476 = .ok (.iaload, 1) := by decide +kernel
theorem dL_law_1477 : decode cL_law 1477 = .ok (.aload_n 0, 1) := by decide +kernel
theorem dL_law_1478 : decode cL_law 1478 = .ok (.iload_n 3, 1) := by decide +kernel
theorem dL_law_1479 : decode cL_law 1479 = .ok (.iconst 2, 1) := by decide +kernel
theorem dL_law_1480 : decode cL_law 1480 = .ok (.iadd, 1) := by decide +kernel
theorem dL_law_1481 : decode cL_law 1481 = .ok (.iaload, 1) := by decide +kernel
theorem dL_law_1482 : decode cL_law 1482 = .ok (.invokevirtual 172, 3) := by decide +kernel
theorem dL_law_1485 : decode cL_law 1485 = .ok (.if_icmp .eq 473, 3) := by decide +kernel
theorem dL_law_1488 : decode cL_law 1488 = .ok (.iconst 0, 1) := by decide +kernel
theorem dL_law_1489 : decode cL_law 1489 = .ok (.ireturn, 1) := by decide +kernel
theorem dL_law_1490 : decode cL_law 1490 = .ok (.aload_n 1, 1) := by decide +kernel
theorem dL_law_1491 : decode cL_law 1491 = .ok (.aload_n 0, 1) := by decide +kernel
theorem dL_law_1492 : decode cL_law 1492 = .ok (.iload_n 3, 1) := by decide +kernel
theorem dL_law_1493 : decode cL_law 1493 = .ok (.iconst 1, 1) := by decide +kernel
theorem dL_law_1494 : decode cL_law 1494 = .ok (.iadd, 1) := by decide +kernel
theorem dL_law_1495 : decode cL_law 1495 = .ok (.iaload, 1) := by decide +kernel
theorem dL_law_1496 : decode cL_law 1496 = .ok (.aload_n 0, 1) := by decide +kernel
theorem dL_law_1497 : decode cL_law 1497 = .ok (.iload_n 3, 1) := by decide +kernel
theorem dL_law_1498 : decode cL_law 1498 = .ok (.iconst 2, 1) := by decide +kernel
theorem dL_law_1499 : decode cL_law 1499 = .ok (.iadd, 1) := by decide +kernel
theorem dL_law_1500 : decode cL_law 1500 = .ok (.iaload, 1) := by decide +kernel
theorem dL_law_1501 : decode cL_law 1501 = .ok (.invokevirtual 173, 3) := by decide +kernel
theorem dL_law_1504 : decode cL_law 1504 = .ok (.aload_n 2, 1) := by decide +kernel
theorem dL_law_1505 : decode cL_law 1505 = .ok (.aload_n 0, 1) := by decide +kernel
theorem dL_law_1506 : decode cL_law 1506 = .ok (.iload_n 3, 1) := by decide +kernel
theorem dL_law_1507 : decode cL_law 1507 = .ok (.iconst 1, 1) := by decide +kernel
theorem dL_law_1508 : decode cL_law 1508 = .ok (.iadd, 1) := by decide +kernel
theorem dL_law_1509 : decode cL_law 1509 = .ok (.iaload, 1) := by decide +kernel
theorem dL_law_1510 : decode cL_law 1510 = .ok (.aload_n 0, 1) := by decide +kernel
theorem dL_law_1511 : decode cL_law 1511 = .ok (.iload_n 3, 1) := by decide +kernel
theorem dL_law_1512 : decode cL_law 1512 = .ok (.iconst 2, 1) := by decide +kernel
theorem dL_law_1513 : decode cL_law 1513 = .ok (.iadd, 1) := by decide +kernel
theorem dL_law_1514 : decode cL_law 1514 = .ok (.iaload, 1) := by decide +kernel
theorem dL_law_1515 : decode cL_law 1515 = .ok (.invokevirtual 176, 3) := by decide +kernel
theorem dL_law_1518 : decode cL_law 1518 = .ok (.if_icmp .eq 440, 3) := by decide +kernel
theorem dL_law_1521 : decode cL_law 1521 = .ok (.iconst 0, 1) := by decide +kernel
theorem dL_law_1522 : decode cL_law 1522 = .ok (.ireturn, 1) := by decide +kernel
theorem dL_law_1523 : decode cL_law 1523 = .ok (.aload_n 1, 1) := by decide +kernel
theorem dL_law_1524 : decode cL_law 1524 = .ok (.aload_n 0, 1) := by decide +kernel
theorem dL_law_1525 : decode cL_law 1525 = .ok (.iload_n 3, 1) := by decide +kernel
theorem dL_law_1526 : decode cL_law 1526 = .ok (.iconst 1, 1) := by decide +kernel
theorem dL_law_1527 : decode cL_law 1527 = .ok (.iadd, 1) := by decide +kernel
theorem dL_law_1528 : decode cL_law 1528 = .ok (.iaload, 1) := by decide +kernel
theorem dL_law_1529 : decode cL_law 1529 = .ok (.aload_n 0, 1) := by decide +kernel
theorem dL_law_1530 : decode cL_law 1530 = .ok (.iload_n 3, 1) := by decide +kernel
theorem dL_law_1531 : decode cL_law 1531 = .ok (.iconst 2, 1) := by decide +kernel
theorem dL_law_1532 : decode cL_law 1532 = .ok (.iadd, 1) := by decide +kernel
theorem dL_law_1533 : decode cL_law 1533 = .ok (.iaload, 1) := by decide +kernel
theorem dL_law_1534 : decode cL_law 1534 = .ok (.invokevirtual 177, 3) := by decide +kernel
theorem dL_law_1537 : decode cL_law 1537 = .ok (.aload_n 2, 1) := by decide +kernel
theorem dL_law_1538 : decode cL_law 1538 = .ok (.aload_n 0, 1) := by decide +kernel
theorem dL_law_1539 : decode cL_law 1539 = .ok (.iload_n 3, 1) := by decide +kernel
theorem dL_law_1540 : decode cL_law 1540 = .ok (.iconst 1, 1) := by decide +kernel
theorem dL_law_1541 : decode cL_law 1541 = .ok (.iadd, 1) := by decide +kernel
theorem dL_law_1542 : decode cL_law 1542 = .ok (.iaload, 1) := by decide +kernel
theorem dL_law_1543 : decode cL_law 1543 = .ok (.aload_n 0, 1) := by decide +kernel
theorem dL_law_1544 : decode cL_law 1544 = .ok (.iload_n 3, 1) := by decide +kernel
theorem dL_law_1545 : decode cL_law 1545 = .ok (.iconst 2, 1) := by decide +kernel
theorem dL_law_1546 : decode cL_law 1546 = .ok (.iadd, 1) := by decide +kernel
theorem dL_law_1547 : decode cL_law 1547 = .ok (.iaload, 1) := by decide +kernel
theorem dL_law_1548 : decode cL_law 1548 = .ok (.invokevirtual 180, 3) := by decide +kernel
theorem dL_law_1551 : decode cL_law 1551 = .ok (.if_icmp .eq 407, 3) := by decide +kernel
theorem dL_law_1554 : decode cL_law 1554 = .ok (.iconst 0, 1) := by decide +kernel
theorem dL_law_1555 : decode cL_law 1555 = .ok (.ireturn, 1) := by decide +kernel
theorem dL_law_1556 : decode cL_law 1556 = .ok (.aload_n 1, 1) := by decide +kernel
theorem dL_law_1557 : decode cL_law 1557 = .ok (.aload_n 0, 1) := by decide +kernel
theorem dL_law_1558 : decode cL_law 1558 = .ok (.iload_n 3, 1) := by decide +kernel
theorem dL_law_1559 : decode cL_law 1559 = .ok (.iconst 1, 1) := by decide +kernel
theorem dL_law_1560 : decode cL_law 1560 = .ok (.iadd, 1) := by decide +kernel
theorem dL_law_1561 : decode cL_law 1561 = .ok (.iaload, 1) := by decide +kernel
theorem dL_law_1562 : decode cL_law 1562 = .ok (.aload_n 0, 1) := by decide +kernel
theorem dL_law_1563 : decode cL_law 1563 = .ok (.iload_n 3, 1) := by decide +kernel
theorem dL_law_1564 : decode cL_law 1564 = .ok (.iconst 2, 1) := by decide +kernel
theorem dL_law_1565 : decode cL_law 1565 = .ok (.iadd, 1) := by decide +kernel
theorem dL_law_1566 : decode cL_law 1566 = .ok (.iaload, 1) := by decide +kernel
theorem dL_law_1567 : decode cL_law 1567 = .ok (.invokevirtual 181, 3) := by decide +kernel
theorem dL_law_1570 : decode cL_law 1570 = .ok (.aload_n 2, 1) := by decide +kernel
theorem dL_law_1571 : decode cL_law 1571 = .ok (.aload_n 0, 1) := by decide +kernel
theorem dL_law_1572 : decode cL_law 1572 = .ok (.iload_n 3, 1) := by decide +kernel
theorem dL_law_1573 : decode cL_law 1573 = .ok (.iconst 1, 1) := by decide +kernel
theorem dL_law_1574 : decode cL_law 1574 = .ok (.iadd, 1) := by decide +kernel
theorem dL_law_1575 : decode cL_law 1575 = .ok (.iaload, 1) := by decide +kernel
theorem dL_law_1576 : decode cL_law 1576 = .ok (.aload_n 0, 1) := by decide +kernel
theorem dL_law_1577 : decode cL_law 1577 = .ok (.iload_n 3, 1) := by decide +kernel
theorem dL_law_1578 : decode cL_law 1578 = .ok (.iconst 2, 1) := by decide +kernel
theorem dL_law_1579 : decode cL_law 1579 = .ok (.iadd, 1) := by decide +kernel
theorem dL_law_1580 : decode cL_law 1580 = .ok (.iaload, 1) := by decide +kernel
theorem dL_law_1581 : decode cL_law 1581 = .ok (.invokevirtual 184, 3) := by decide +kernel
theorem dL_law_1584 : decode cL_law 1584 = .ok (.if_icmp .eq 374, 3) := by decide +kernel
theorem dL_law_1587 : decode cL_law 1587 = .ok (.iconst 0, 1) := by decide +kernel
theorem dL_law_1588 : decode cL_law 1588 = .ok (.ireturn, 1) := by decide +kernel
theorem dL_law_1589 : decode cL_law 1589 = .ok (.aload_n 1, 1) := by decide +kernel
theorem dL_law_1590 : decode cL_law 1590 = .ok (.aload_n 0, 1) := by decide +kernel
theorem dL_law_1591 : decode cL_law 1591 = .ok (.iload_n 3, 1) := by decide +kernel
theorem dL_law_1592 : decode cL_law 1592 = .ok (.iconst 1, 1) := by decide +kernel
theorem dL_law_1593 : decode cL_law 1593 = .ok (.iadd, 1) := by decide +kernel
theorem dL_law_1594 : decode cL_law 1594 = .ok (.iaload, 1) := by decide +kernel
theorem dL_law_1595 : decode cL_law 1595 = .ok (.aload_n 0, 1) := by decide +kernel
theorem dL_law_1596 : decode cL_law 1596 = .ok (.iload_n 3, 1) := by decide +kernel
theorem dL_law_1597 : decode cL_law 1597 = .ok (.iconst 2, 1) := by decide +kernel
theorem dL_law_1598 : decode cL_law 1598 = .ok (.iadd, 1) := by decide +kernel
theorem dL_law_1599 : decode cL_law 1599 = .ok (.iaload, 1) := by decide +kernel
theorem dL_law_1600 : decode cL_law 1600 = .ok (.invokevirtual 185, 3) := by decide +kernel
theorem dL_law_1603 : decode cL_law 1603 = .ok (.aload_n 2, 1) := by decide +kernel
theorem dL_law_1604 : decode cL_law 1604 = .ok (.aload_n 0, 1) := by decide +kernel
theorem dL_law_1605 : decode cL_law 1605 = .ok (.iload_n 3, 1) := by decide +kernel
theorem dL_law_1606 : decode cL_law 1606 = .ok (.iconst 1, 1) := by decide +kernel
theorem dL_law_1607 : decode cL_law 1607 = .ok (.iadd, 1) := by decide +kernel
theorem dL_law_1608 : decode cL_law 1608 = .ok (.iaload, 1) := by decide +kernel
theorem dL_law_1609 : decode cL_law 1609 = .ok (.aload_n 0, 1) := by decide +kernel
theorem dL_law_1610 : decode cL_law 1610 = .ok (.iload_n 3, 1) := by decide +kernel
theorem dL_law_1611 : decode cL_law 1611 = .ok (.iconst 2, 1) := by decide +kernel
theorem dL_law_1612 : decode cL_law 1612 = .ok (.iadd, 1) := by decide +kernel
theorem dL_law_1613 : decode cL_law 1613 = .ok (.iaload, 1) := by decide +kernel
theorem dL_law_1614 : decode cL_law 1614 = .ok (.invokevirtual 188, 3) := by decide +kernel
theorem dL_law_1617 : decode cL_law 1617 = .ok (.if_icmp .eq 341, 3) := by decide +kernel
theorem dL_law_1620 : decode cL_law 1620 = .ok (.iconst 0, 1) := by decide +kernel
theorem dL_law_1621 : decode cL_law 1621 = .ok (.ireturn, 1) := by decide +kernel
theorem dL_law_1622 : decode cL_law 1622 = .ok (.aload_n 1, 1) := by decide +kernel
theorem dL_law_1623 : decode cL_law 1623 = .ok (.aload_n 0, 1) := by decide +kernel
theorem dL_law_1624 : decode cL_law 1624 = .ok (.iload_n 3, 1) := by decide +kernel
theorem dL_law_1625 : decode cL_law 1625 = .ok (.iconst 1, 1) := by decide +kernel
theorem dL_law_1626 : decode cL_law 1626 = .ok (.iadd, 1) := by decide +kernel
theorem dL_law_1627 : decode cL_law 1627 = .ok (.iaload, 1) := by decide +kernel
theorem dL_law_1628 : decode cL_law 1628 = .ok (.aload_n 0, 1) := by decide +kernel
theorem dL_law_1629 : decode cL_law 1629 = .ok (.iload_n 3, 1) := by decide +kernel
theorem dL_law_1630 : decode cL_law 1630 = .ok (.iconst 2, 1) := by decide +kernel
theorem dL_law_1631 : decode cL_law 1631 = .ok (.iadd, 1) := by decide +kernel
theorem dL_law_1632 : decode cL_law 1632 = .ok (.iaload, 1) := by decide +kernel
theorem dL_law_1633 : decode cL_law 1633 = .ok (.invokevirtual 189, 3) := by decide +kernel
theorem dL_law_1636 : decode cL_law 1636 = .ok (.aload_n 2, 1) := by decide +kernel
theorem dL_law_1637 : decode cL_law 1637 = .ok (.aload_n 0, 1) := by decide +kernel
theorem dL_law_1638 : decode cL_law 1638 = .ok (.iload_n 3, 1) := by decide +kernel
theorem dL_law_1639 : decode cL_law 1639 = .ok (.iconst 1, 1) := by decide +kernel
theorem dL_law_1640 : decode cL_law 1640 = .ok (.iadd, 1) := by decide +kernel
theorem dL_law_1641 : decode cL_law 1641 = .ok (.iaload, 1) := by decide +kernel
theorem dL_law_1642 : decode cL_law 1642 = .ok (.aload_n 0, 1) := by decide +kernel
theorem dL_law_1643 : decode cL_law 1643 = .ok (.iload_n 3, 1) := by decide +kernel
theorem dL_law_1644 : decode cL_law 1644 = .ok (.iconst 2, 1) := by decide +kernel
theorem dL_law_1645 : decode cL_law 1645 = .ok (.iadd, 1) := by decide +kernel
theorem dL_law_1646 : decode cL_law 1646 = .ok (.iaload, 1) := by decide +kernel
theorem dL_law_1647 : decode cL_law 1647 = .ok (.invokevirtual 192, 3) := by decide +kernel
theorem dL_law_1650 : decode cL_law 1650 = .ok (.if_icmp .eq 308, 3) := by decide +kernel
theorem dL_law_1653 : decode cL_law 1653 = .ok (.iconst 0, 1) := by decide +kernel
theorem dL_law_1654 : decode cL_law 1654 = .ok (.ireturn, 1) := by decide +kernel
theorem dL_law_1655 : decode cL_law 1655 = .ok (.aload_n 1, 1) := by decide +kernel
theorem dL_law_1656 : decode cL_law 1656 = .ok (.aload_n 0, 1) := by decide +kernel
theorem dL_law_1657 : decode cL_law 1657 = .ok (.iload_n 3, 1) := by decide +kernel
theorem dL_law_1658 : decode cL_law 1658 = .ok (.iconst 1, 1) := by decide +kernel
theorem dL_law_1659 : decode cL_law 1659 = .ok (.iadd, 1) := by decide +kernel
theorem dL_law_1660 : decode cL_law 1660 = .ok (.iaload, 1) := by decide +kernel
theorem dL_law_1661 : decode cL_law 1661 = .ok (.invokevirtual 193, 3) := by decide +kernel
theorem dL_law_1664 : decode cL_law 1664 = .ok (.aload_n 2, 1) := by decide +kernel
theorem dL_law_1665 : decode cL_law 1665 = .ok (.aload_n 0, 1) := by decide +kernel
theorem dL_law_1666 : decode cL_law 1666 = .ok (.iload_n 3, 1) := by decide +kernel
theorem dL_law_1667 : decode cL_law 1667 = .ok (.iconst 1, 1) := by decide +kernel
theorem dL_law_1668 : decode cL_law 1668 = .ok (.iadd, 1) := by decide +kernel
theorem dL_law_1669 : decode cL_law 1669 = .ok (.iaload, 1) := by decide +kernel
theorem dL_law_1670 : decode cL_law 1670 = .ok (.invokevirtual 196, 3) := by decide +kernel
theorem dL_law_1673 : decode cL_law 1673 = .ok (.if_icmp .eq 285, 3) := by decide +kernel
theorem dL_law_1676 : decode cL_law 1676 = .ok (.iconst 0, 1) := by decide +kernel
theorem dL_law_1677 : decode cL_law 1677 = .ok (.ireturn, 1) := by decide +kernel
theorem dL_law_1678 : decode cL_law 1678 = .ok (.aload_n 1, 1) := by decide +kernel
theorem dL_law_1679 : decode cL_law 1679 = .ok (.aload_n 0, 1) := by decide +kernel
theorem dL_law_1680 : decode cL_law 1680 = .ok (.iload_n 3, 1) := by decide +kernel
theorem dL_law_1681 : decode cL_law 1681 = .ok (.iconst 1, 1) := by decide +kernel
theorem dL_law_1682 : decode cL_law 1682 = .ok (.iadd, 1) := by decide +kernel
theorem dL_law_1683 : decode cL_law 1683 = .ok (.iaload, 1) := by decide +kernel
theorem dL_law_1684 : decode cL_law 1684 = .ok (.invokevirtual 197, 3) := by decide +kernel
theorem dL_law_1687 : decode cL_law 1687 = .ok (.aload_n 2, 1) := by decide +kernel
theorem dL_law_1688 : decode cL_law 1688 = .ok (.aload_n 0, 1) := by decide +kernel
theorem dL_law_1689 : decode cL_law 1689 = .ok (.iload_n 3, 1) := by decide +kernel
theorem dL_law_1690 : decode cL_law 1690 = .ok (.iconst 1, 1) := by decide +kernel
theorem dL_law_1691 : decode cL_law 1691 = .ok (.iadd, 1) := by decide +kernel
theorem dL_law_1692 : decode cL_law 1692 = .ok (.iaload, 1) := by decide +kernel
theorem dL_law_1693 : decode cL_law 1693 = .ok (.invokevirtual 200, 3) := by decide +kernel
theorem dL_law_1696 : decode cL_law 1696 = .ok (.if_icmp .eq 262, 3) := by decide +kernel
theorem dL_law_1699 : decode cL_law 1699 = .ok (.iconst 0, 1) := by decide +kernel
theorem dL_law_1700 : decode cL_law 1700 = .ok (.ireturn, 1) := by decide +kernel
theorem dL_law_1701 : decode cL_law 1701 = .ok (.aload_n 1, 1) := by decide +kernel
theorem dL_law_1702 : decode cL_law 1702 = .ok (.aload_n 0, 1) := by decide +kernel
theorem dL_law_1703 : decode cL_law 1703 = .ok (.iload_n 3, 1) := by decide +kernel
theorem dL_law_1704 : decode cL_law 1704 = .ok (.iconst 1, 1) := by decide +kernel
theorem dL_law_1705 : decode cL_law 1705 = .ok (.iadd, 1) := by decide +kernel
theorem dL_law_1706 : decode cL_law 1706 = .ok (.iaload, 1) := by decide +kernel
theorem dL_law_1707 : decode cL_law 1707 = .ok (.invokevirtual 201, 3) := by decide +kernel
theorem dL_law_1710 : decode cL_law 1710 = .ok (.aload_n 2, 1) := by decide +kernel
theorem dL_law_1711 : decode cL_law 1711 = .ok (.aload_n 0, 1) := by decide +kernel
theorem dL_law_1712 : decode cL_law 1712 = .ok (.iload_n 3, 1) := by decide +kernel
theorem dL_law_1713 : decode cL_law 1713 = .ok (.iconst 1, 1) := by decide +kernel
theorem dL_law_1714 : decode cL_law 1714 = .ok (.iadd, 1) := by decide +kernel
theorem dL_law_1715 : decode cL_law 1715 = .ok (.iaload, 1) := by decide +kernel
theorem dL_law_1716 : decode cL_law 1716 = .ok (.invokevirtual 204, 3) := by decide +kernel
theorem dL_law_1719 : decode cL_law 1719 = .ok (.if_icmp .eq 239, 3) := by decide +kernel
theorem dL_law_1722 : decode cL_law 1722 = .ok (.iconst 0, 1) := by decide +kernel
theorem dL_law_1723 : decode cL_law 1723 = .ok (.ireturn, 1) := by decide +kernel
theorem dL_law_1724 : decode cL_law 1724 = .ok (.aload_n 1, 1) := by decide +kernel
theorem dL_law_1725 : decode cL_law 1725 = .ok (.aload_n 0, 1) := by decide +kernel
theorem dL_law_1726 : decode cL_law 1726 = .ok (.iload_n 3, 1) := by decide +kernel
theorem dL_law_1727 : decode cL_law 1727 = .ok (.iconst 1, 1) := by decide +kernel
theorem dL_law_1728 : decode cL_law 1728 = .ok (.iadd, 1) := by decide +kernel
theorem dL_law_1729 : decode cL_law 1729 = .ok (.iaload, 1) := by decide +kernel
theorem dL_law_1730 : decode cL_law 1730 = .ok (.invokevirtual 205, 3) := by decide +kernel
theorem dL_law_1733 : decode cL_law 1733 = .ok (.aload_n 2, 1) := by decide +kernel
theorem dL_law_1734 : decode cL_law 1734 = .ok (.aload_n 0, 1) := by decide +kernel
theorem dL_law_1735 : decode cL_law 1735 = .ok (.iload_n 3, 1) := by decide +kernel
theorem dL_law_1736 : decode cL_law 1736 = .ok (.iconst 1, 1) := by decide +kernel
theorem dL_law_1737 : decode cL_law 1737 = .ok (.iadd, 1) := by decide +kernel
theorem dL_law_1738 : decode cL_law 1738 = .ok (.iaload, 1) := by decide +kernel
theorem dL_law_1739 : decode cL_law 1739 = .ok (.invokevirtual 208, 3) := by decide +kernel
theorem dL_law_1742 : decode cL_law 1742 = .ok (.if_icmp .eq 216, 3) := by decide +kernel
theorem dL_law_1745 : decode cL_law 1745 = .ok (.iconst 0, 1) := by decide +kernel
theorem dL_law_1746 : decode cL_law 1746 = .ok (.ireturn, 1) := by decide +kernel
theorem dL_law_1747 : decode cL_law 1747 = .ok (.aload_n 1, 1) := by decide +kernel
theorem dL_law_1748 : decode cL_law 1748 = .ok (.aload_n 0, 1) := by decide +kernel
theorem dL_law_1749 : decode cL_law 1749 = .ok (.iload_n 3, 1) := by decide +kernel
theorem dL_law_1750 : decode cL_law 1750 = .ok (.iconst 1, 1) := by decide +kernel
theorem dL_law_1751 : decode cL_law 1751 = .ok (.iadd, 1) := by decide +kernel
theorem dL_law_1752 : decode cL_law 1752 = .ok (.iaload, 1) := by decide +kernel
theorem dL_law_1753 : decode cL_law 1753 = .ok (.aload_n 0, 1) := by decide +kernel
theorem dL_law_1754 : decode cL_law 1754 = .ok (.iload_n 3, 1) := by decide +kernel
theorem dL_law_1755 : decode cL_law 1755 = .ok (.iconst 2, 1) := by decide +kernel
theorem dL_law_1756 : decode cL_law 1756 = .ok (.iadd, 1) := by decide +kernel
theorem dL_law_1757 : decode cL_law 1757 = .ok (.iaload, 1) := by decide +kernel
theorem dL_law_1758 : decode cL_law 1758 = .ok (.invokevirtual 209, 3) := by decide +kernel
theorem dL_law_1761 : decode cL_law 1761 = .ok (.aload_n 2, 1) := by decide +kernel
theorem dL_law_1762 : decode cL_law 1762 = .ok (.aload_n 0, 1) := by decide +kernel
theorem dL_law_1763 : decode cL_law 1763 = .ok (.iload_n 3, 1) := by decide +kernel
theorem dL_law_1764 : decode cL_law 1764 = .ok (.iconst 1, 1) := by decide +kernel
theorem dL_law_1765 : decode cL_law 1765 = .ok (.iadd, 1) := by decide +kernel
theorem dL_law_1766 : decode cL_law 1766 = .ok (.iaload, 1) := by decide +kernel
theorem dL_law_1767 : decode cL_law 1767 = .ok (.aload_n 0, 1) := by decide +kernel
theorem dL_law_1768 : decode cL_law 1768 = .ok (.iload_n 3, 1) := by decide +kernel
theorem dL_law_1769 : decode cL_law 1769 = .ok (.iconst 2, 1) := by decide +kernel
theorem dL_law_1770 : decode cL_law 1770 = .ok (.iadd, 1) := by decide +kernel
theorem dL_law_1771 : decode cL_law 1771 = .ok (.iaload, 1) := by decide +kernel
theorem dL_law_1772 : decode cL_law 1772 = .ok (.invokevirtual 212, 3) := by decide +kernel
theorem dL_law_1775 : decode cL_law 1775 = .ok (.if_icmp .eq 183, 3) := by decide +kernel
theorem dL_law_1778 : decode cL_law 1778 = .ok (.iconst 0, 1) := by decide +kernel
theorem dL_law_1779 : decode cL_law 1779 = .ok (.ireturn, 1) := by decide +kernel
theorem dL_law_1780 : decode cL_law 1780 = .ok (.aload_n 1, 1) := by decide +kernel
theorem dL_law_1781 : decode cL_law 1781 = .ok (.aload_n 0, 1) := by decide +kernel
theorem dL_law_1782 : decode cL_law 1782 = .ok (.iload_n 3, 1) := by decide +kernel
theorem dL_law_1783 : decode cL_law 1783 = .ok (.iconst 1, 1) := by decide +kernel
theorem dL_law_1784 : decode cL_law 1784 = .ok (.iadd, 1) := by decide +kernel
theorem dL_law_1785 : decode cL_law 1785 = .ok (.iaload, 1) := by decide +kernel
theorem dL_law_1786 : decode cL_law 1786 = .ok (.aload_n 0, 1) := by decide +kernel
theorem dL_law_1787 : decode cL_law 1787 = .ok (.iload_n 3, 1) := by decide +kernel
theorem dL_law_1788 : decode cL_law 1788 = .ok (.iconst 2, 1) := by decide +kernel
theorem dL_law_1789 : decode cL_law 1789 = .ok (.iadd, 1) := by decide +kernel
theorem dL_law_1790 : decode cL_law 1790 = .ok (.iaload, 1) := by decide +kernel
theorem dL_law_1791 : decode cL_law 1791 = .ok (.invokevirtual 213, 3) := by decide +kernel
theorem dL_law_1794 : decode cL_law 1794 = .ok (.aload_n 2, 1) := by decide +kernel
theorem dL_law_1795 : decode cL_law 1795 = .ok (.aload_n 0, 1) := by decide +kernel
theorem dL_law_1796 : decode cL_law 1796 = .ok (.iload_n 3, 1) := by decide +kernel
theorem dL_law_1797 : decode cL_law 1797 = .ok (.iconst 1, 1) := by decide +kernel
theorem dL_law_1798 : decode cL_law 1798 = .ok (.iadd, 1) := by decide +kernel
theorem dL_law_1799 : decode cL_law 1799 = .ok (.iaload, 1) := by decide +kernel
theorem dL_law_1800 : decode cL_law 1800 = .ok (.aload_n 0, 1) := by decide +kernel
theorem dL_law_1801 : decode cL_law 1801 = .ok (.iload_n 3, 1) := by decide +kernel
theorem dL_law_1802 : decode cL_law 1802 = .ok (.iconst 2, 1) := by decide +kernel
theorem dL_law_1803 : decode cL_law 1803 = .ok (.iadd, 1) := by decide +kernel
theorem dL_law_1804 : decode cL_law 1804 = .ok (.iaload, 1) := by decide +kernel
theorem dL_law_1805 : decode cL_law 1805 = .ok (.invokevirtual 216, 3) := by decide +kernel
theorem dL_law_1808 : decode cL_law 1808 = .ok (.if_icmp .eq 150, 3) := by decide +kernel
theorem dL_law_1811 : decode cL_law 1811 = .ok (.iconst 0, 1) := by decide +kernel
theorem dL_law_1812 : decode cL_law 1812 = .ok (.ireturn, 1) := by decide +kernel
theorem dL_law_1813 : decode cL_law 1813 = .ok (.aload_n 1, 1) := by decide +kernel
theorem dL_law_1814 : decode cL_law 1814 = .ok (.aload_n 0, 1) := by decide +kernel
theorem dL_law_1815 : decode cL_law 1815 = .ok (.iload_n 3, 1) := by decide +kernel
theorem dL_law_1816 : decode cL_law 1816 = .ok (.iconst 1, 1) := by decide +kernel
theorem dL_law_1817 : decode cL_law 1817 = .ok (.iadd, 1) := by decide +kernel
theorem dL_law_1818 : decode cL_law 1818 = .ok (.iaload, 1) := by decide +kernel
theorem dL_law_1819 : decode cL_law 1819 = .ok (.aload_n 0, 1) := by decide +kernel
theorem dL_law_1820 : decode cL_law 1820 = .ok (.iload_n 3, 1) := by decide +kernel
theorem dL_law_1821 : decode cL_law 1821 = .ok (.iconst 2, 1) := by decide +kernel
theorem dL_law_1822 : decode cL_law 1822 = .ok (.iadd, 1) := by decide +kernel
theorem dL_law_1823 : decode cL_law 1823 = .ok (.iaload, 1) := by decide +kernel
theorem dL_law_1824 : decode cL_law 1824 = .ok (.aload_n 0, 1) := by decide +kernel
theorem dL_law_1825 : decode cL_law 1825 = .ok (.iload_n 3, 1) := by decide +kernel
theorem dL_law_1826 : decode cL_law 1826 = .ok (.iconst 3, 1) := by decide +kernel
theorem dL_law_1827 : decode cL_law 1827 = .ok (.iadd, 1) := by decide +kernel
theorem dL_law_1828 : decode cL_law 1828 = .ok (.iaload, 1) := by decide +kernel
theorem dL_law_1829 : decode cL_law 1829 = .ok (.invokevirtual 217, 3) := by decide +kernel
theorem dL_law_1832 : decode cL_law 1832 = .ok (.aload_n 2, 1) := by decide +kernel
theorem dL_law_1833 : decode cL_law 1833 = .ok (.aload_n 0, 1) := by decide +kernel
theorem dL_law_1834 : decode cL_law 1834 = .ok (.iload_n 3, 1) := by decide +kernel
theorem dL_law_1835 : decode cL_law 1835 = .ok (.iconst 1, 1) := by decide +kernel
theorem dL_law_1836 : decode cL_law 1836 = .ok (.iadd, 1) := by decide +kernel
theorem dL_law_1837 : decode cL_law 1837 = .ok (.iaload, 1) := by decide +kernel
theorem dL_law_1838 : decode cL_law 1838 = .ok (.aload_n 0, 1) := by decide +kernel
theorem dL_law_1839 : decode cL_law 1839 = .ok (.iload_n 3, 1) := by decide +kernel
theorem dL_law_1840 : decode cL_law 1840 = .ok (.iconst 2, 1) := by decide +kernel
theorem dL_law_1841 : decode cL_law 1841 = .ok (.iadd, 1) := by decide +kernel
theorem dL_law_1842 : decode cL_law 1842 = .ok (.iaload, 1) := by decide +kernel
theorem dL_law_1843 : decode cL_law 1843 = .ok (.aload_n 0, 1) := by decide +kernel
theorem dL_law_1844 : decode cL_law 1844 = .ok (.iload_n 3, 1) := by decide +kernel
theorem dL_law_1845 : decode cL_law 1845 = .ok (.iconst 3, 1) := by decide +kernel
theorem dL_law_1846 : decode cL_law 1846 = .ok (.iadd, 1) := by decide +kernel
theorem dL_law_1847 : decode cL_law 1847 = .ok (.iaload, 1) := by decide +kernel
theorem dL_law_1848 : decode cL_law 1848 = .ok (.invokevirtual 220, 3) := by decide +kernel
theorem dL_law_1851 : decode cL_law 1851 = .ok (.if_icmp .eq 107, 3) := by decide +kernel
theorem dL_law_1854 : decode cL_law 1854 = .ok (.iconst 0, 1) := by decide +kernel
theorem dL_law_1855 : decode cL_law 1855 = .ok (.ireturn, 1) := by decide +kernel
theorem dL_law_1856 : decode cL_law 1856 = .ok (.aload_n 1, 1) := by decide +kernel
theorem dL_law_1857 : decode cL_law 1857 = .ok (.aload_n 0, 1) := by decide +kernel
theorem dL_law_1858 : decode cL_law 1858 = .ok (.iload_n 3, 1) := by decide +kernel
theorem dL_law_1859 : decode cL_law 1859 = .ok (.iconst 1, 1) := by decide +kernel
theorem dL_law_1860 : decode cL_law 1860 = .ok (.iadd, 1) := by decide +kernel
theorem dL_law_1861 : decode cL_law 1861 = .ok (.iaload, 1) := by decide +kernel
theorem dL_law_1862 : decode cL_law 1862 = .ok (.aload_n 0, 1) := by decide +kernel
theorem dL_law_1863 : decode cL_law 1863 = .ok (.iload_n 3, 1) := by decide +kernel
theorem dL_law_1864 : decode cL_law 1864 = .ok (.iconst 2, 1) := by decide +kernel
theorem dL_law_1865 : decode cL_law 1865 = .ok (.iadd, 1) := by decide +kernel
theorem dL_law_1866 : decode cL_law 1866 = .ok (.iaload, 1) := by decide +kernel
theorem dL_law_1867 : decode cL_law 1867 = .ok (.invokevirtual 221, 3) := by decide +kernel
theorem dL_law_1870 : decode cL_law 1870 = .ok (.aload_n 2, 1) := by decide +kernel
theorem dL_law_1871 : decode cL_law 1871 = .ok (.aload_n 0, 1) := by decide +kernel
theorem dL_law_1872 : decode cL_law 1872 = .ok (.iload_n 3, 1) := by decide +kernel
theorem dL_law_1873 : decode cL_law 1873 = .ok (.iconst 1, 1) := by decide +kernel
theorem dL_law_1874 : decode cL_law 1874 = .ok (.iadd, 1) := by decide +kernel
theorem dL_law_1875 : decode cL_law 1875 = .ok (.iaload, 1) := by decide +kernel
theorem dL_law_1876 : decode cL_law 1876 = .ok (.aload_n 0, 1) := by decide +kernel
theorem dL_law_1877 : decode cL_law 1877 = .ok (.iload_n 3, 1) := by decide +kernel
theorem dL_law_1878 : decode cL_law 1878 = .ok (.iconst 2, 1) := by decide +kernel
theorem dL_law_1879 : decode cL_law 1879 = .ok (.iadd, 1) := by decide +kernel
theorem dL_law_1880 : decode cL_law 1880 = .ok (.iaload, 1) := by decide +kernel
theorem dL_law_1881 : decode cL_law 1881 = .ok (.invokevirtual 224, 3) := by decide +kernel
theorem dL_law_1884 : decode cL_law 1884 = .ok (.if_icmp .eq 74, 3) := by decide +kernel
theorem dL_law_1887 : decode cL_law 1887 = .ok (.iconst 0, 1) := by decide +kernel
theorem dL_law_1888 : decode cL_law 1888 = .ok (.ireturn, 1) := by decide +kernel
theorem dL_law_1889 : decode cL_law 1889 = .ok (.aload_n 1, 1) := by decide +kernel
theorem dL_law_1890 : decode cL_law 1890 = .ok (.aload_n 0, 1) := by decide +kernel
theorem dL_law_1891 : decode cL_law 1891 = .ok (.iload_n 3, 1) := by decide +kernel
theorem dL_law_1892 : decode cL_law 1892 = .ok (.iconst 1, 1) := by decide +kernel
theorem dL_law_1893 : decode cL_law 1893 = .ok (.iadd, 1) := by decide +kernel
theorem dL_law_1894 : decode cL_law 1894 = .ok (.iaload, 1) := by decide +kernel
theorem dL_law_1895 : decode cL_law 1895 = .ok (.invokevirtual 225, 3) := by decide +kernel
theorem dL_law_1898 : decode cL_law 1898 = .ok (.aload_n 2, 1) := by decide +kernel
theorem dL_law_1899 : decode cL_law 1899 = .ok (.aload_n 0, 1) := by decide +kernel
theorem dL_law_1900 : decode cL_law 1900 = .ok (.iload_n 3, 1) := by decide +kernel
theorem dL_law_1901 : decode cL_law 1901 = .ok (.iconst 1, 1) := by decide +kernel
theorem dL_law_1902 : decode cL_law 1902 = .ok (.iadd, 1) := by decide +kernel
theorem dL_law_1903 : decode cL_law 1903 = .ok (.iaload, 1) := by decide +kernel
theorem dL_law_1904 : decode cL_law 1904 = .ok (.invokevirtual 228, 3) := by decide +kernel
theorem dL_law_1907 : decode cL_law 1907 = .ok (.if_icmp .eq 51, 3) := by decide +kernel
theorem dL_law_1910 : decode cL_law 1910 = .ok (.iconst 0, 1) := by decide +kernel
theorem dL_law_1911 : decode cL_law 1911 = .ok (.ireturn, 1) := by decide +kernel
theorem dL_law_1912 : decode cL_law 1912 = .ok (.aload_n 1, 1) := by decide +kernel
theorem dL_law_1913 : decode cL_law 1913 = .ok (.aload_n 0, 1) := by decide +kernel
theorem dL_law_1914 : decode cL_law 1914 = .ok (.iload_n 3, 1) := by decide +kernel
theorem dL_law_1915 : decode cL_law 1915 = .ok (.iconst 1, 1) := by decide +kernel
theorem dL_law_1916 : decode cL_law 1916 = .ok (.iadd, 1) := by decide +kernel
theorem dL_law_1917 : decode cL_law 1917 = .ok (.iaload, 1) := by decide +kernel
theorem dL_law_1918 : decode cL_law 1918 = .ok (.invokevirtual 229, 3) := by decide +kernel
theorem dL_law_1921 : decode cL_law 1921 = .ok (.aload_n 2, 1) := by decide +kernel
theorem dL_law_1922 : decode cL_law 1922 = .ok (.aload_n 0, 1) := by decide +kernel
theorem dL_law_1923 : decode cL_law 1923 = .ok (.iload_n 3, 1) := by decide +kernel
theorem dL_law_1924 : decode cL_law 1924 = .ok (.iconst 1, 1) := by decide +kernel
theorem dL_law_1925 : decode cL_law 1925 = .ok (.iadd, 1) := by decide +kernel
theorem dL_law_1926 : decode cL_law 1926 = .ok (.iaload, 1) := by decide +kernel
theorem dL_law_1927 : decode cL_law 1927 = .ok (.invokevirtual 232, 3) := by decide +kernel
theorem dL_law_1930 : decode cL_law 1930 = .ok (.if_icmp .eq 28, 3) := by decide +kernel
theorem dL_law_1933 : decode cL_law 1933 = .ok (.iconst 0, 1) := by decide +kernel
theorem dL_law_1934 : decode cL_law 1934 = .ok (.ireturn, 1) := by decide +kernel
theorem dL_law_1935 : decode cL_law 1935 = .ok (.aload_n 1, 1) := by decide +kernel
theorem dL_law_1936 : decode cL_law 1936 = .ok (.aload_n 0, 1) := by decide +kernel
theorem dL_law_1937 : decode cL_law 1937 = .ok (.iload_n 3, 1) := by decide +kernel
theorem dL_law_1938 : decode cL_law 1938 = .ok (.iconst 1, 1) := by decide +kernel
theorem dL_law_1939 : decode cL_law 1939 = .ok (.iadd, 1) := by decide +kernel
theorem dL_law_1940 : decode cL_law 1940 = .ok (.iaload, 1) := by decide +kernel
theorem dL_law_1941 : decode cL_law 1941 = .ok (.invokevirtual 233, 3) := by decide +kernel
theorem dL_law_1944 : decode cL_law 1944 = .ok (.aload_n 2, 1) := by decide +kernel
theorem dL_law_1945 : decode cL_law 1945 = .ok (.aload_n 0, 1) := by decide +kernel
theorem dL_law_1946 : decode cL_law 1946 = .ok (.iload_n 3, 1) := by decide +kernel
theorem dL_law_1947 : decode cL_law 1947 = .ok (.iconst 1, 1) := by decide +kernel
theorem dL_law_1948 : decode cL_law 1948 = .ok (.iadd, 1) := by decide +kernel
theorem dL_law_1949 : decode cL_law 1949 = .ok (.iaload, 1) := by decide +kernel
theorem dL_law_1950 : decode cL_law 1950 = .ok (.invokevirtual 236, 3) := by decide +kernel
theorem dL_law_1953 : decode cL_law 1953 = .ok (.if_icmp .eq 5, 3) := by decide +kernel
theorem dL_law_1956 : decode cL_law 1956 = .ok (.iconst 0, 1) := by decide +kernel
theorem dL_law_1957 : decode cL_law 1957 = .ok (.ireturn, 1) := by decide +kernel
theorem dL_law_1958 : decode cL_law 1958 = .ok (.iinc 3 6, 3) := by decide +kernel
theorem dL_law_1961 : decode cL_law 1961 = .ok (.goto (-1943), 3) := by decide +kernel
theorem dL_law_1964 : decode cL_law 1964 = .ok (.iconst 1, 1) := by decide +kernel
theorem dL_law_1965 : decode cL_law 1965 = .ok (.ireturn, 1) := by decide +kernel
