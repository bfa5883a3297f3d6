theorem dX0_init_0 : decode cX0_init 0 = .ok (.aload_n 0, 1) := by decide +kernel
theorem dX0_init_1 : decode cX0_init 1 = .ok (.invokespecial 3, 3) := by decide +kernel
theorem dX0_init_4 : decode cX0_init 4 = .ok (.aload_n 0, 1) := by decide +kernel
theorem dX0_init_5 : decode cX0_init 5 = .ok (.bipush 60, 2) := by decide +kernel
theorem dX0_init_7 : decode cX0_init 7 = .ok (.newarray .int, 2) := by decide +kernel
theorem dX0_init_9 : decode cX0_init 9 = .ok (.putfield 9, 3) := by decide +kernel
theorem dX0_init_12 : decode cX0_init 12 = .ok (.aload_n 0, 1) := by decide +kernel
theorem dX0_init_13 : decode cX0_init 13 = .ok (.new 15, 3) := by decide +kernel
theorem dX0_init_16 : decode cX0_init 16 = .ok (.dup, 1) := by decide +kernel
theorem dX0_init_17 : decode cX0_init 17 = .ok (.invokespecial 17, 3) := by decide +kernel
theorem dX0_init_20 : decode cX0_init 20 = .ok (.putfield 18, 3) := by decide +kernel
theorem dX0_init_23 : decode cX0_init 23 = .ok (.aload_n 0, 1) := by decide +kernel
theorem dX0_init_24 : decode cX0_init 24 = .ok (.aload_n 1, 1) := by decide +kernel
theorem dX0_init_25 : decode cX0_init 25 = .ok (.putfield 22, 3) := by decide +kernel
theorem dX0_init_28 : decode cX0_init 28 = .ok (.aload_n 0, 1) := by decide +kernel
theorem dX0_init_29 : decode cX0_init 29 = .ok (.aload_n 2, 1) := by decide +kernel
theorem dX0_init_30 : decode cX0_init 30 = .ok (.putfield 26, 3) := by decide +kernel
theorem dX0_init_33 : decode cX0_init 33 = .ok (.aload_n 0, 1) := by decide +kernel
theorem dX0_init_34 : decode cX0_init 34 = .ok (.aload_n 3, 1) := by decide +kernel
theorem dX0_init_35 : decode cX0_init 35 = .ok (.putfield 30, 3) := by decide +kernel
theorem dX0_init_38 : decode cX0_init 38 = .ok (.return_, 1) := by decide +kernel
theorem dX0_within_0 : decode cX0_within 0 = .ok (.iload_n 1, 1) := by decide +kernel
theorem dX0_within_1 : decode cX0_within 1 = .ok (.ineg, 1) := by decide +kernel
theorem dX0_within_2 : decode cX0_within 2 = .ok (.iload_n 1, 1) := by decide +kernel
theorem dX0_within_3 : decode cX0_within 3 = .ok (.iload_n 0, 1) := by decide +kernel
theorem dX0_within_4 : decode cX0_within 4 = .ok (.invokestatic 34, 3) := by decide +kernel
theorem dX0_within_7 : decode cX0_within 7 = .ok (.invokestatic 40, 3) := by decide +kernel
theorem dX0_within_10 : decode cX0_within 10 = .ok (.ireturn, 1) := by decide +kernel
theorem dX0_quiet_0 : decode cX0_quiet 0 = .ok (.aload_n 0, 1) := by decide +kernel
theorem dX0_quiet_1 : decode cX0_quiet 1 = .ok (.getfield 9, 3) := by decide +kernel
theorem dX0_quiet_4 : decode cX0_quiet 4 = .ok (.iconst 0, 1) := by decide +kernel
theorem dX0_quiet_5 : decode cX0_quiet 5 = .ok (.invokestatic 43, 3) := by decide +kernel
theorem dX0_quiet_8 : decode cX0_quiet 8 = .ok (.return_, 1) := by decide +kernel
theorem dX0_transmit_0 : decode cX0_transmit 0 = .ok (.aload_n 1, 1) := by decide +kernel
theorem dX0_transmit_1 : decode cX0_transmit 1 = .ok (.getfield 49, 3) := by decide +kernel
theorem dX0_transmit_4 : decode cX0_transmit 4 = .ok (.getfield 53, 3) := by decide +kernel
theorem dX0_transmit_7 : decode cX0_transmit 7 = .ok (.iload_n 2, 1) := by decide +kernel
theorem dX0_transmit_8 : decode cX0_transmit 8 = .ok (.aaload, 1) := by decide +kernel
theorem dX0_transmit_9 : decode cX0_transmit 9 = .ok (.astore 5, 2) := by decide +kernel
theorem dX0_transmit_11 : decode cX0_transmit 11 = .ok (.aload 5, 2) := by decide +kernel
theorem dX0_transmit_13 : decode cX0_transmit 13 = .ok (.getfield 59, 3) := by decide +kernel
theorem dX0_transmit_16 : decode cX0_transmit 16 = .ok (.iconst (-1), 1) := by decide +kernel
theorem dX0_transmit_17 : decode cX0_transmit 17 = .ok (.if_icmp .ne 12, 3) := by decide +kernel
theorem dX0_transmit_20 : decode cX0_transmit 20 = .ok (.aload_n 1, 1) := by decide +kernel
theorem dX0_transmit_21 : decode cX0_transmit 21 = .ok (.getfield 49, 3) := by decide +kernel
theorem dX0_transmit_24 : decode cX0_transmit 24 = .ok (.aload 5, 2) := by decide +kernel
theorem dX0_transmit_26 : decode cX0_transmit 26 = .ok (.invokevirtual 65, 3) := by decide +kernel
theorem dX0_transmit_29 : decode cX0_transmit 29 = .ok (.aload_n 0, 1) := by decide +kernel
theorem dX0_transmit_30 : decode cX0_transmit 30 = .ok (.getfield 26, 3) := by decide +kernel
theorem dX0_transmit_33 : decode cX0_transmit 33 = .ok (.aload_n 1, 1) := by decide +kernel
theorem dX0_transmit_34 : decode cX0_transmit 34 = .ok (.getfield 68, 3) := by decide +kernel
theorem dX0_transmit_37 : decode cX0_transmit 37 = .ok (.getstatic 71, 3) := by decide +kernel
theorem dX0_transmit_40 : decode cX0_transmit 40 = .ok (.aload 5, 2) := by decide +kernel
theorem dX0_transmit_42 : decode cX0_transmit 42 = .ok (.getfield 74, 3) := by decide +kernel
theorem dX0_transmit_45 : decode cX0_transmit 45 = .ok (.iconst 3, 1) := by decide +kernel
theorem dX0_transmit_46 : decode cX0_transmit 46 = .ok (.iand, 1) := by decide +kernel
theorem dX0_transmit_47 : decode cX0_transmit 47 = .ok (.iaload, 1) := by decide +kernel
theorem dX0_transmit_48 : decode cX0_transmit 48 = .ok (.iload_n 3, 1) := by decide +kernel
theorem dX0_transmit_49 : decode cX0_transmit 49 = .ok (.invokevirtual 77, 3) := by decide +kernel
theorem dX0_transmit_52 : decode cX0_transmit 52 = .ok (.aload_n 0, 1) := by decide +kernel
theorem dX0_transmit_53 : decode cX0_transmit 53 = .ok (.getfield 26, 3) := by decide +kernel
theorem dX0_transmit_56 : decode cX0_transmit 56 = .ok (.aload 5, 2) := by decide +kernel
theorem dX0_transmit_58 : decode cX0_transmit 58 = .ok (.getfield 83, 3) := by decide +kernel
theorem dX0_transmit_61 : decode cX0_transmit 61 = .ok (.iload_n 3, 1) := by decide +kernel
theorem dX0_transmit_62 : decode cX0_transmit 62 = .ok (.invokevirtual 86, 3) := by decide +kernel
theorem dX0_transmit_65 : decode cX0_transmit 65 = .ok (.aload 5, 2) := by decide +kernel
theorem dX0_transmit_67 : decode cX0_transmit 67 = .ok (.dup, 1) := by decide +kernel
theorem dX0_transmit_68 : decode cX0_transmit 68 = .ok (.getfield 74, 3) := by decide +kernel
theorem dX0_transmit_71 : decode cX0_transmit 71 = .ok (.iconst 1, 1) := by decide +kernel
theorem dX0_transmit_72 : decode cX0_transmit 72 = .ok (.iadd, 1) := by decide +kernel
theorem dX0_transmit_73 : decode cX0_transmit 73 = .ok (.putfield 74, 3) := by decide +kernel
theorem dX0_transmit_76 : decode cX0_transmit 76 = .ok (.aload 5, 2) := by decide +kernel
theorem dX0_transmit_78 : decode cX0_transmit 78 = .ok (.iconst 1, 1) := by decide +kernel
theorem dX0_transmit_79 : decode cX0_transmit 79 = .ok (.putfield 89, 3) := by decide +kernel
theorem dX0_transmit_82 : decode cX0_transmit 82 = .ok (.aload 5, 2) := by decide +kernel
theorem dX0_transmit_84 : decode cX0_transmit 84 = .ok (.iload 4, 2) := by decide +kernel
theorem dX0_transmit_86 : decode cX0_transmit 86 = .ok (.ifCond .eq 14, 3) := by decide +kernel
theorem dX0_transmit_89 : decode cX0_transmit 89 = .ok (.aload_n 1, 1) := by decide +kernel
theorem dX0_transmit_90 : decode cX0_transmit 90 = .ok (.getfield 93, 3) := by decide +kernel
theorem dX0_transmit_93 : decode cX0_transmit 93 = .ok (.ifCond .le 7, 3) := by decide +kernel
theorem dX0_transmit_96 : decode cX0_transmit 96 = .ok (.iconst 1, 1) := by decide +kernel
theorem dX0_transmit_97 : decode cX0_transmit 97 = .ok (.goto 4, 3) := by decide +kernel
theorem dX0_transmit_100 : decode cX0_transmit 100 = .ok (.iconst 0, 1) := by decide +kernel
theorem dX0_transmit_101 : decode cX0_transmit 101 = .ok (.putfield 96, 3) := by decide +kernel
theorem dX0_transmit_104 : decode cX0_transmit 104 = .ok (.aload 5, 2) := by decide +kernel
theorem dX0_transmit_106 : decode cX0_transmit 106 = .ok (.getfield 96, 3) := by decide +kernel
theorem dX0_transmit_109 : decode cX0_transmit 109 = .ok (.ifCond .ne 5, 3) := by decide +kernel
theorem dX0_transmit_112 : decode cX0_transmit 112 = .ok (.iconst (-1), 1) := by decide +kernel
theorem dX0_transmit_113 : decode cX0_transmit 113 = .ok (.ireturn, 1) := by decide +kernel
theorem dX0_transmit_114 : decode cX0_transmit 114 = .ok (.aload_n 0, 1) := by decide +kernel
theorem dX0_transmit_115 : decode cX0_transmit 115 = .ok (.getfield 22, 3) := by decide +kernel
theorem dX0_transmit_118 : decode cX0_transmit 118 = .ok (.getfield 99, 3) := by decide +kernel
theorem dX0_transmit_121 : decode cX0_transmit 121 = .ok (.aload_n 1, 1) := by decide +kernel
theorem dX0_transmit_122 : decode cX0_transmit 122 = .ok (.getfield 49, 3) := by decide +kernel
theorem dX0_transmit_125 : decode cX0_transmit 125 = .ok (.aload 5, 2) := by decide +kernel
theorem dX0_transmit_127 : decode cX0_transmit 127 = .ok (.invokevirtual 105, 3) := by decide +kernel
theorem dX0_transmit_130 : decode cX0_transmit 130 = .ok (.laload, 1) := by decide +kernel
theorem dX0_transmit_131 : decode cX0_transmit 131 = .ok (.lstore 6, 2) := by decide +kernel
theorem dX0_transmit_133 : decode cX0_transmit 133 = .ok (.iconst 0, 1) := by decide +kernel
theorem dX0_transmit_134 : decode cX0_transmit 134 = .ok (.istore 8, 2) := by decide +kernel
theorem dX0_transmit_136 : decode cX0_transmit 136 = .ok (.iload 8, 2) := by decide +kernel
theorem dX0_transmit_138 : decode cX0_transmit 138 = .ok (.iload_n 3, 1) := by decide +kernel
theorem dX0_transmit_139 : decode cX0_transmit 139 = .ok (.if_icmp .ge 63, 3) := by decide +kernel
theorem dX0_transmit_142 : decode cX0_transmit 142 = .ok (.lload 6, 2) := by decide +kernel
theorem dX0_transmit_144 : decode cX0_transmit 144 = .ok (.aload_n 0, 1) := by decide +kernel
theorem dX0_transmit_145 : decode cX0_transmit 145 = .ok (.getfield 26, 3) := by decide +kernel
theorem dX0_transmit_148 : decode cX0_transmit 148 = .ok (.getfield 109, 3) := by decide +kernel
theorem dX0_transmit_151 : decode cX0_transmit 151 = .ok (.iload 8, 2) := by decide +kernel
theorem dX0_transmit_153 : decode cX0_transmit 153 = .ok (.iaload, 1) := by decide +kernel
theorem dX0_transmit_154 : decode cX0_transmit 154 = .ok (.invokestatic 112, 3) := by decide +kernel
theorem dX0_transmit_157 : decode cX0_transmit 157 = .ok (.ifCond .eq 10, 3) := by decide +kernel
theorem dX0_transmit_160 : decode cX0_transmit 160 = .ok (.aload_n 1, 1) := by decide +kernel
theorem dX0_transmit_161 : decode cX0_transmit 161 = .ok (.getfield 93, 3) := by decide +kernel
theorem dX0_transmit_164 : decode cX0_transmit 164 = .ok (.goto 8, 3) := by decide +kernel
theorem dX0_transmit_167 : decode cX0_transmit 167 = .ok (.aload_n 1, 1) := by decide +kernel
theorem dX0_transmit_168 : decode cX0_transmit 168 = .ok (.getfield 93, 3) := by decide +kernel
theorem dX0_transmit_171 : decode cX0_transmit 171 = .ok (.ineg, 1) := by decide +kernel
theorem dX0_transmit_172 : decode cX0_transmit 172 = .ok (.istore 9, 2) := by decide +kernel
theorem dX0_transmit_174 : decode cX0_transmit 174 = .ok (.aload_n 0, 1) := by decide +kernel
theorem dX0_transmit_175 : decode cX0_transmit 175 = .ok (.getfield 9, 3) := by decide +kernel
theorem dX0_transmit_178 : decode cX0_transmit 178 = .ok (.iload 8, 2) := by decide +kernel
theorem dX0_transmit_180 : decode cX0_transmit 180 = .ok (.iload 9, 2) := by decide +kernel
theorem dX0_transmit_182 : decode cX0_transmit 182 = .ok (.aload_n 0, 1) := by decide +kernel
theorem dX0_transmit_183 : decode cX0_transmit 183 = .ok (.getfield 9, 3) := by decide +kernel
theorem dX0_transmit_186 : decode cX0_transmit 186 = .ok (.iload 8, 2) := by decide +kernel
theorem dX0_transmit_188 : decode cX0_transmit 188 = .ok (.iaload, 1) := by decide +kernel
theorem dX0_transmit_189 : decode cX0_transmit 189 = .ok (.iadd, 1) := by decide +kernel
theorem dX0_transmit_190 : decode cX0_transmit 190 = .ok (.bipush 127, 2) := by decide +kernel
theorem dX0_transmit_192 : decode cX0_transmit 192 = .ok (.invokestatic 116, 3) := by decide +kernel
theorem dX0_transmit_195 : decode cX0_transmit 195 = .ok (.iastore, 1) := by decide +kernel
theorem dX0_transmit_196 : decode cX0_transmit 196 = .ok (.iinc 8 1, 3) := by decide +kernel
theorem dX0_transmit_199 : decode cX0_transmit 199 = .ok (.goto (-63), 3) := by decide +kernel
theorem dX0_transmit_202 : decode cX0_transmit 202 = .ok (.aload_n 0, 1) := by decide +kernel
theorem dX0_transmit_203 : decode cX0_transmit 203 = .ok (.aload_n 1, 1) := by decide +kernel
theorem dX0_transmit_204 : decode cX0_transmit 204 = .ok (.iload_n 2, 1) := by decide +kernel
theorem dX0_transmit_205 : decode cX0_transmit 205 = .ok (.aload 5, 2) := by decide +kernel
theorem dX0_transmit_207 : decode cX0_transmit 207 = .ok (.getfield 119, 3) := by decide +kernel
theorem dX0_transmit_210 : decode cX0_transmit 210 = .ok (.iload_n 3, 1) := by decide +kernel
theorem dX0_transmit_211 : decode cX0_transmit 211 = .ok (.invokevirtual 122, 3) := by decide +kernel
theorem dX0_transmit_214 : decode cX0_transmit 214 = .ok (.ireturn, 1) := by decide +kernel
theorem dX0_hear_0 : decode cX0_hear 0 = .ok (.aload_n 1, 1) := by decide +kernel
theorem dX0_hear_1 : decode cX0_hear 1 = .ok (.getfield 126, 3) := by decide +kernel
theorem dX0_hear_4 : decode cX0_hear 4 = .ok (.astore 5, 2) := by decide +kernel
theorem dX0_hear_6 : decode cX0_hear 6 = .ok (.aload 5, 2) := by decide +kernel
theorem dX0_hear_8 : decode cX0_hear 8 = .ok (.getfield 130, 3) := by decide +kernel
theorem dX0_hear_11 : decode cX0_hear 11 = .ok (.iload_n 2, 1) := by decide +kernel
theorem dX0_hear_12 : decode cX0_hear 12 = .ok (.aaload, 1) := by decide +kernel
theorem dX0_hear_13 : decode cX0_hear 13 = .ok (.astore 6, 2) := by decide +kernel
theorem dX0_hear_15 : decode cX0_hear 15 = .ok (.aload 6, 2) := by decide +kernel
theorem dX0_hear_17 : decode cX0_hear 17 = .ok (.getfield 136, 3) := by decide +kernel
theorem dX0_hear_20 : decode cX0_hear 20 = .ok (.iload_n 3, 1) := by decide +kernel
theorem dX0_hear_21 : decode cX0_hear 21 = .ok (.if_icmp .eq 9, 3) := by decide +kernel
theorem dX0_hear_24 : decode cX0_hear 24 = .ok (.aload 6, 2) := by decide +kernel
theorem dX0_hear_26 : decode cX0_hear 26 = .ok (.iload_n 3, 1) := by decide +kernel
theorem dX0_hear_27 : decode cX0_hear 27 = .ok (.invokevirtual 141, 3) := by decide +kernel
theorem dX0_hear_30 : decode cX0_hear 30 = .ok (.aload 6, 2) := by decide +kernel
theorem dX0_hear_32 : decode cX0_hear 32 = .ok (.getfield 145, 3) := by decide +kernel
theorem dX0_hear_35 : decode cX0_hear 35 = .ok (.ifCond .eq 16, 3) := by decide +kernel
theorem dX0_hear_38 : decode cX0_hear 38 = .ok (.aload 5, 2) := by decide +kernel
theorem dX0_hear_40 : decode cX0_hear 40 = .ok (.dup, 1) := by decide +kernel
theorem dX0_hear_41 : decode cX0_hear 41 = .ok (.getfield 148, 3) := by decide +kernel
theorem dX0_hear_44 : decode cX0_hear 44 = .ok (.iconst 1, 1) := by decide +kernel
theorem dX0_hear_45 : decode cX0_hear 45 = .ok (.iadd, 1) := by decide +kernel
theorem dX0_hear_46 : decode cX0_hear 46 = .ok (.putfield 148, 3) := by decide +kernel
theorem dX0_hear_49 : decode cX0_hear 49 = .ok (.iconst 1, 1) := by decide +kernel
theorem dX0_hear_50 : decode cX0_hear 50 = .ok (.ireturn, 1) := by decide +kernel
theorem dX0_hear_51 : decode cX0_hear 51 = .ok (.aload 6, 2) := by decide +kernel
theorem dX0_hear_53 : decode cX0_hear 53 = .ok (.dup, 1) := by decide +kernel
theorem dX0_hear_54 : decode cX0_hear 54 = .ok (.getfield 151, 3) := by decide +kernel
theorem dX0_hear_57 : decode cX0_hear 57 = .ok (.iconst 1, 1) := by decide +kernel
theorem dX0_hear_58 : decode cX0_hear 58 = .ok (.iadd, 1) := by decide +kernel
theorem dX0_hear_59 : decode cX0_hear 59 = .ok (.putfield 151, 3) := by decide +kernel
theorem dX0_hear_62 : decode cX0_hear 62 = .ok (.iconst 0, 1) := by decide +kernel
theorem dX0_hear_63 : decode cX0_hear 63 = .ok (.istore 7, 2) := by decide +kernel
theorem dX0_hear_65 : decode cX0_hear 65 = .ok (.iload 7, 2) := by decide +kernel
theorem dX0_hear_67 : decode cX0_hear 67 = .ok (.iload 4, 2) := by decide +kernel
theorem dX0_hear_69 : decode cX0_hear 69 = .ok (.if_icmp .ge 52, 3) := by decide +kernel
theorem dX0_hear_72 : decode cX0_hear 72 = .ok (.aload_n 0, 1) := by decide +kernel
theorem dX0_hear_73 : decode cX0_hear 73 = .ok (.getfield 26, 3) := by decide +kernel
theorem dX0_hear_76 : decode cX0_hear 76 = .ok (.getfield 109, 3) := by decide +kernel
theorem dX0_hear_79 : decode cX0_hear 79 = .ok (.iload 7, 2) := by decide +kernel
theorem dX0_hear_81 : decode cX0_hear 81 = .ok (.iaload, 1) := by decide +kernel
theorem dX0_hear_82 : decode cX0_hear 82 = .ok (.istore 8, 2) := by decide +kernel
theorem dX0_hear_84 : decode cX0_hear 84 = .ok (.aload 6, 2) := by decide +kernel
theorem dX0_hear_86 : decode cX0_hear 86 = .ok (.getfield 154, 3) := by decide +kernel
theorem dX0_hear_89 : decode cX0_hear 89 = .ok (.iload 8, 2) := by decide +kernel
theorem dX0_hear_91 : decode cX0_hear 91 = .ok (.aload 6, 2) := by decide +kernel
theorem dX0_hear_93 : decode cX0_hear 93 = .ok (.getfield 154, 3) := by decide +kernel
theorem dX0_hear_96 : decode cX0_hear 96 = .ok (.iload 8, 2) := by decide +kernel
theorem dX0_hear_98 : decode cX0_hear 98 = .ok (.iaload, 1) := by decide +kernel
theorem dX0_hear_99 : decode cX0_hear 99 = .ok (.aload_n 0, 1) := by decide +kernel
theorem dX0_hear_100 : decode cX0_hear 100 = .ok (.getfield 9, 3) := by decide +kernel
theorem dX0_hear_103 : decode cX0_hear 103 = .ok (.iload 7, 2) := by decide +kernel
theorem dX0_hear_105 : decode cX0_hear 105 = .ok (.iaload, 1) := by decide +kernel
theorem dX0_hear_106 : decode cX0_hear 106 = .ok (.iadd, 1) := by decide +kernel
theorem dX0_hear_107 : decode cX0_hear 107 = .ok (.aload_n 1, 1) := by decide +kernel
theorem dX0_hear_108 : decode cX0_hear 108 = .ok (.getfield 157, 3) := by decide +kernel
theorem dX0_hear_111 : decode cX0_hear 111 = .ok (.invokestatic 116, 3) := by decide +kernel
theorem dX0_hear_114 : decode cX0_hear 114 = .ok (.iastore, 1) := by decide +kernel
theorem dX0_hear_115 : decode cX0_hear 115 = .ok (.iinc 7 1, 3) := by decide +kernel
theorem dX0_hear_118 : decode cX0_hear 118 = .ok (.goto (-53), 3) := by decide +kernel
theorem dX0_hear_121 : decode cX0_hear 121 = .ok (.aload_n 0, 1) := by decide +kernel
theorem dX0_hear_122 : decode cX0_hear 122 = .ok (.getfield 30, 3) := by decide +kernel
theorem dX0_hear_125 : decode cX0_hear 125 = .ok (.aload 6, 2) := by decide +kernel
theorem dX0_hear_127 : decode cX0_hear 127 = .ok (.getfield 154, 3) := by decide +kernel
theorem dX0_hear_130 : decode cX0_hear 130 = .ok (.invokevirtual 160, 3) := by decide +kernel
theorem dX0_hear_133 : decode cX0_hear 133 = .ok (.istore 7, 2) := by decide +kernel
theorem dX0_hear_135 : decode cX0_hear 135 = .ok (.iload 7, 2) := by decide +kernel
theorem dX0_hear_137 : decode cX0_hear 137 = .ok (.invokestatic 166, 3) := by decide +kernel
theorem dX0_hear_140 : decode cX0_hear 140 = .ok (.ifCond .ne 5, 3) := by decide +kernel
theorem dX0_hear_143 : decode cX0_hear 143 = .ok (.iconst 0, 1) := by decide +kernel
theorem dX0_hear_144 : decode cX0_hear 144 = .ok (.ireturn, 1) := by decide +kernel
theorem dX0_hear_145 : decode cX0_hear 145 = .ok (.aload 6, 2) := by decide +kernel
theorem dX0_hear_147 : decode cX0_hear 147 = .ok (.iconst 1, 1) := by decide +kernel
theorem dX0_hear_148 : decode cX0_hear 148 = .ok (.putfield 145, 3) := by decide +kernel
theorem dX0_hear_151 : decode cX0_hear 151 = .ok (.aload 5, 2) := by decide +kernel
theorem dX0_hear_153 : decode cX0_hear 153 = .ok (.iload 7, 2) := by decide +kernel
theorem dX0_hear_155 : decode cX0_hear 155 = .ok (.bipush 8, 2) := by decide +kernel
theorem dX0_hear_157 : decode cX0_hear 157 = .ok (.ishr, 1) := by decide +kernel
theorem dX0_hear_158 : decode cX0_hear 158 = .ok (.bipush 7, 2) := by decide +kernel
theorem dX0_hear_160 : decode cX0_hear 160 = .ok (.iand, 1) := by decide +kernel
theorem dX0_hear_161 : decode cX0_hear 161 = .ok (.iload 7, 2) := by decide +kernel
theorem dX0_hear_163 : decode cX0_hear 163 = .ok (.iconst 3, 1) := by decide +kernel
theorem dX0_hear_164 : decode cX0_hear 164 = .ok (.ishr, 1) := by decide +kernel
theorem dX0_hear_165 : decode cX0_hear 165 = .ok (.bipush 31, 2) := by decide +kernel
theorem dX0_hear_167 : decode cX0_hear 167 = .ok (.iand, 1) := by decide +kernel
theorem dX0_hear_168 : decode cX0_hear 168 = .ok (.aload_n 1, 1) := by decide +kernel
theorem dX0_hear_169 : decode cX0_hear 169 = .ok (.getfield 170, 3) := by decide +kernel
theorem dX0_hear_172 : decode cX0_hear 172 = .ok (.invokevirtual 173, 3) := by decide +kernel
theorem dX0_hear_175 : decode cX0_hear 175 = .ok (.aload 5, 2) := by decide +kernel
theorem dX0_hear_177 : decode cX0_hear 177 = .ok (.aload_n 1, 1) := by decide +kernel
theorem dX0_hear_178 : decode cX0_hear 178 = .ok (.getfield 176, 3) := by decide +kernel
theorem dX0_hear_181 : decode cX0_hear 181 = .ok (.invokevirtual 179, 3) := by decide +kernel
theorem dX0_hear_184 : decode cX0_hear 184 = .ok (.iconst 1, 1) := by decide +kernel
theorem dX0_hear_185 : decode cX0_hear 185 = .ok (.ireturn, 1) := by decide +kernel
theorem dX0_addClean_0 : decode cX0_addClean 0 = .ok (.iconst 0, 1) := by decide +kernel
theorem dX0_addClean_1 : decode cX0_addClean 1 = .ok (.istore 7, 2) := by decide +kernel
theorem dX0_addClean_3 : decode cX0_addClean 3 = .ok (.iload 7, 2) := by decide +kernel
theorem dX0_addClean_5 : decode cX0_addClean 5 = .ok (.iload 4, 2) := by decide +kernel
theorem dX0_addClean_7 : decode cX0_addClean 7 = .ok (.if_icmp .ge 52, 3) := by decide +kernel
theorem dX0_addClean_10 : decode cX0_addClean 10 = .ok (.aload_n 0, 1) := by decide +kernel
theorem dX0_addClean_11 : decode cX0_addClean 11 = .ok (.getfield 26, 3) := by decide +kernel
theorem dX0_addClean_14 : decode cX0_addClean 14 = .ok (.getfield 109, 3) := by decide +kernel
theorem dX0_addClean_17 : decode cX0_addClean 17 = .ok (.iload 7, 2) := by decide +kernel
theorem dX0_addClean_19 : decode cX0_addClean 19 = .ok (.iaload, 1) := by decide +kernel
theorem dX0_addClean_20 : decode cX0_addClean 20 = .ok (.istore 8, 2) := by decide +kernel
theorem dX0_addClean_22 : decode cX0_addClean 22 = .ok (.aload_n 1, 1) := by decide +kernel
theorem dX0_addClean_23 : decode cX0_addClean 23 = .ok (.iload 8, 2) := by decide +kernel
theorem dX0_addClean_25 : decode cX0_addClean 25 = .ok (.aload_n 1, 1) := by decide +kernel
theorem dX0_addClean_26 : decode cX0_addClean 26 = .ok (.iload 8, 2) := by decide +kernel
theorem dX0_addClean_28 : decode cX0_addClean 28 = .ok (.iaload, 1) := by decide +kernel
theorem dX0_addClean_29 : decode cX0_addClean 29 = .ok (.lload_n 2, 1) := by decide +kernel
theorem dX0_addClean_30 : decode cX0_addClean 30 = .ok (.iload 8, 2) := by decide +kernel
theorem dX0_addClean_32 : decode cX0_addClean 32 = .ok (.invokestatic 112, 3) := by decide +kernel
theorem dX0_addClean_35 : decode cX0_addClean 35 = .ok (.ifCond .eq 8, 3) := by decide +kernel
theorem dX0_addClean_38 : decode cX0_addClean 38 = .ok (.iload 5, 2) := by decide +kernel
theorem dX0_addClean_40 : decode cX0_addClean 40 = .ok (.goto 6, 3) := by decide +kernel
theorem dX0_addClean_43 : decode cX0_addClean 43 = .ok (.iload 5, 2) := by decide +kernel
theorem dX0_addClean_45 : decode cX0_addClean 45 = .ok (.ineg, 1) := by decide +kernel
theorem dX0_addClean_46 : decode cX0_addClean 46 = .ok (.iadd, 1) := by decide +kernel
theorem dX0_addClean_47 : decode cX0_addClean 47 = .ok (.iload 6, 2) := by decide +kernel
theorem dX0_addClean_49 : decode cX0_addClean 49 = .ok (.invokestatic 116, 3) := by decide +kernel
theorem dX0_addClean_52 : decode cX0_addClean 52 = .ok (.iastore, 1) := by decide +kernel
theorem dX0_addClean_53 : decode cX0_addClean 53 = .ok (.iinc 7 1, 3) := by decide +kernel
theorem dX0_addClean_56 : decode cX0_addClean 56 = .ok (.goto (-53), 3) := by decide +kernel
theorem dX0_addClean_59 : decode cX0_addClean 59 = .ok (.return_, 1) := by decide +kernel
theorem dX0_draw_0 : decode cX0_draw 0 = .ok (.aload_n 0, 1) := by decide +kernel
theorem dX0_draw_1 : decode cX0_draw 1 = .ok (.ldc 182, 2) := by decide +kernel
theorem dX0_draw_3 : decode cX0_draw 3 = .ok (.aload_n 0, 1) := by decide +kernel
theorem dX0_draw_4 : decode cX0_draw 4 = .ok (.getfield 183, 3) := by decide +kernel
theorem dX0_draw_7 : decode cX0_draw 7 = .ok (.imul, 1) := by decide +kernel
theorem dX0_draw_8 : decode cX0_draw 8 = .ok (.sipush 12345, 3) := by decide +kernel
theorem dX0_draw_11 : decode cX0_draw 11 = .ok (.iadd, 1) := by decide +kernel
theorem dX0_draw_12 : decode cX0_draw 12 = .ok (.putfield 183, 3) := by decide +kernel
theorem dX0_draw_15 : decode cX0_draw 15 = .ok (.aload_n 0, 1) := by decide +kernel
theorem dX0_draw_16 : decode cX0_draw 16 = .ok (.getfield 183, 3) := by decide +kernel
theorem dX0_draw_19 : decode cX0_draw 19 = .ok (.bipush 16, 2) := by decide +kernel
theorem dX0_draw_21 : decode cX0_draw 21 = .ok (.iushr, 1) := by decide +kernel
theorem dX0_draw_22 : decode cX0_draw 22 = .ok (.ireturn, 1) := by decide +kernel
theorem dX0_drawnRound_0 : decode cX0_drawnRound 0 = .ok (.iload_n 2, 1) := by decide +kernel
theorem dX0_drawnRound_1 : decode cX0_drawnRound 1 = .ok (.iconst 1, 1) := by decide +kernel
theorem dX0_drawnRound_2 : decode cX0_drawnRound 2 = .ok (.aload_n 1, 1) := by decide +kernel
theorem dX0_drawnRound_3 : decode cX0_drawnRound 3 = .ok (.getfield 186, 3) := by decide +kernel
theorem dX0_drawnRound_6 : decode cX0_drawnRound 6 = .ok (.invokestatic 40, 3) := by decide +kernel
theorem dX0_drawnRound_9 : decode cX0_drawnRound 9 = .ok (.irem, 1) := by decide +kernel
theorem dX0_drawnRound_10 : decode cX0_drawnRound 10 = .ok (.istore 5, 2) := by decide +kernel
theorem dX0_drawnRound_12 : decode cX0_drawnRound 12 = .ok (.aload_n 1, 1) := by decide +kernel
theorem dX0_drawnRound_13 : decode cX0_drawnRound 13 = .ok (.getfield 49, 3) := by decide +kernel
theorem dX0_drawnRound_16 : decode cX0_drawnRound 16 = .ok (.getfield 53, 3) := by decide +kernel
theorem dX0_drawnRound_19 : decode cX0_drawnRound 19 = .ok (.iload 5, 2) := by decide +kernel
theorem dX0_drawnRound_21 : decode cX0_drawnRound 21 = .ok (.aaload, 1) := by decide +kernel
theorem dX0_drawnRound_22 : decode cX0_drawnRound 22 = .ok (.getfield 89, 3) := by decide +kernel
theorem dX0_drawnRound_25 : decode cX0_drawnRound 25 = .ok (.ifCond .eq 39, 3) := by decide +kernel
theorem dX0_drawnRound_28 : decode cX0_drawnRound 28 = .ok (.aload_n 0, 1) := by decide +kernel
theorem dX0_drawnRound_29 : decode cX0_drawnRound 29 = .ok (.invokevirtual 189, 3) := by decide +kernel
theorem dX0_drawnRound_32 : decode cX0_drawnRound 32 = .ok (.bipush 7, 2) := by decide +kernel
theorem dX0_drawnRound_34 : decode cX0_drawnRound 34 = .ok (.iand, 1) := by decide +kernel
theorem dX0_drawnRound_35 : decode cX0_drawnRound 35 = .ok (.istore 6, 2) := by decide +kernel
theorem dX0_drawnRound_37 : decode cX0_drawnRound 37 = .ok (.aload_n 1, 1) := by decide +kernel
theorem dX0_drawnRound_38 : decode cX0_drawnRound 38 = .ok (.iload 5, 2) := by decide +kernel
theorem dX0_drawnRound_40 : decode cX0_drawnRound 40 = .ok (.iload 6, 2) := by decide +kernel
theorem dX0_drawnRound_42 : decode cX0_drawnRound 42 = .ok (.ifCond .ne 7, 3) := by decide +kernel
theorem dX0_drawnRound_45 : decode cX0_drawnRound 45 = .ok (.iconst 1, 1) := by decide +kernel
theorem dX0_drawnRound_46 : decode cX0_drawnRound 46 = .ok (.goto 14, 3) := by decide +kernel
theorem dX0_drawnRound_49 : decode cX0_drawnRound 49 = .ok (.iload 6, 2) := by decide +kernel
theorem dX0_drawnRound_51 : decode cX0_drawnRound 51 = .ok (.iconst 1, 1) := by decide +kernel
theorem dX0_drawnRound_52 : decode cX0_drawnRound 52 = .ok (.if_icmp .ne 7, 3) := by decide +kernel
theorem dX0_drawnRound_55 : decode cX0_drawnRound 55 = .ok (.iconst 2, 1) := by decide +kernel
theorem dX0_drawnRound_56 : decode cX0_drawnRound 56 = .ok (.goto 4, 3) := by decide +kernel
theorem dX0_drawnRound_59 : decode cX0_drawnRound 59 = .ok (.iconst 0, 1) := by decide +kernel
theorem dX0_drawnRound_60 : decode cX0_drawnRound 60 = .ok (.invokevirtual 193, 3) := by decide +kernel
theorem dX0_drawnRound_63 : decode cX0_drawnRound 63 = .ok (.pop, 1) := by decide +kernel
theorem dX0_drawnRound_64 : decode cX0_drawnRound 64 = .ok (.aload_n 1, 1) := by decide +kernel
theorem dX0_drawnRound_65 : decode cX0_drawnRound 65 = .ok (.getfield 49, 3) := by decide +kernel
theorem dX0_drawnRound_68 : decode cX0_drawnRound 68 = .ok (.iload 5, 2) := by decide +kernel
theorem dX0_drawnRound_70 : decode cX0_drawnRound 70 = .ok (.aload_n 1, 1) := by decide +kernel
theorem dX0_drawnRound_71 : decode cX0_drawnRound 71 = .ok (.getfield 170, 3) := by decide +kernel
theorem dX0_drawnRound_74 : decode cX0_drawnRound 74 = .ok (.invokevirtual 196, 3) := by decide +kernel
theorem dX0_drawnRound_77 : decode cX0_drawnRound 77 = .ok (.ifCond .eq 67, 3) := by decide +kernel
theorem dX0_drawnRound_80 : decode cX0_drawnRound 80 = .ok (.aload_n 0, 1) := by decide +kernel
theorem dX0_drawnRound_81 : decode cX0_drawnRound 81 = .ok (.invokevirtual 189, 3) := by decide +kernel
theorem dX0_drawnRound_84 : decode cX0_drawnRound 84 = .ok (.bipush 15, 2) := by decide +kernel
theorem dX0_drawnRound_86 : decode cX0_drawnRound 86 = .ok (.iand, 1) := by decide +kernel
theorem dX0_drawnRound_87 : decode cX0_drawnRound 87 = .ok (.ifCond .eq 7, 3) := by decide +kernel
theorem dX0_drawnRound_90 : decode cX0_drawnRound 90 = .ok (.iconst 1, 1) := by decide +kernel
theorem dX0_drawnRound_91 : decode cX0_drawnRound 91 = .ok (.goto 4, 3) := by decide +kernel
theorem dX0_drawnRound_94 : decode cX0_drawnRound 94 = .ok (.iconst 0, 1) := by decide +kernel
theorem dX0_drawnRound_95 : decode cX0_drawnRound 95 = .ok (.istore 6, 2) := by decide +kernel
theorem dX0_drawnRound_97 : decode cX0_drawnRound 97 = .ok (.iconst 0, 1) := by decide +kernel
theorem dX0_drawnRound_98 : decode cX0_drawnRound 98 = .ok (.istore 7, 2) := by decide +kernel
theorem dX0_drawnRound_100 : decode cX0_drawnRound 100 = .ok (.iload 7, 2) := by decide +kernel
theorem dX0_drawnRound_102 : decode cX0_drawnRound 102 = .ok (.iload_n 3, 1) := by decide +kernel
theorem dX0_drawnRound_103 : decode cX0_drawnRound 103 = .ok (.if_icmp .ge 30, 3) := by decide +kernel
theorem dX0_drawnRound_106 : decode cX0_drawnRound 106 = .ok (.aload_n 0, 1) := by decide +kernel
theorem dX0_drawnRound_107 : decode cX0_drawnRound 107 = .ok (.getfield 9, 3) := by decide +kernel
theorem dX0_drawnRound_110 : decode cX0_drawnRound 110 = .ok (.iload 7, 2) := by decide +kernel
theorem dX0_drawnRound_112 : decode cX0_drawnRound 112 = .ok (.aload_n 0, 1) := by decide +kernel
theorem dX0_drawnRound_113 : decode cX0_drawnRound 113 = .ok (.invokevirtual 189, 3) := by decide +kernel
theorem dX0_drawnRound_116 : decode cX0_drawnRound 116 = .ok (.iconst 2, 1) := by decide +kernel
theorem dX0_drawnRound_117 : decode cX0_drawnRound 117 = .ok (.iload 4, 2) := by decide +kernel
theorem dX0_drawnRound_119 : decode cX0_drawnRound 119 = .ok (.imul, 1) := by decide +kernel
theorem dX0_drawnRound_120 : decode cX0_drawnRound 120 = .ok (.iconst 1, 1) := by decide +kernel
theorem dX0_drawnRound_121 : decode cX0_drawnRound 121 = .ok (.iadd, 1) := by decide +kernel
theorem dX0_drawnRound_122 : decode cX0_drawnRound 122 = .ok (.irem, 1) := by decide +kernel
theorem dX0_drawnRound_123 : decode cX0_drawnRound 123 = .ok (.iload 4, 2) := by decide +kernel
theorem dX0_drawnRound_125 : decode cX0_drawnRound 125 = .ok (.isub, 1) := by decide +kernel
theorem dX0_drawnRound_126 : decode cX0_drawnRound 126 = .ok (.iastore, 1) := by decide +kernel
theorem dX0_drawnRound_127 : decode cX0_drawnRound 127 = .ok (.iinc 7 1, 3) := by decide +kernel
theorem dX0_drawnRound_130 : decode cX0_drawnRound 130 = .ok (.goto (-30), 3) := by decide +kernel
theorem dX0_drawnRound_133 : decode cX0_drawnRound 133 = .ok (.aload_n 0, 1) := by decide +kernel
theorem dX0_drawnRound_134 : decode cX0_drawnRound 134 = .ok (.aload_n 1, 1) := by decide +kernel
theorem dX0_drawnRound_135 : decode cX0_drawnRound 135 = .ok (.iload 5, 2) := by decide +kernel
theorem dX0_drawnRound_137 : decode cX0_drawnRound 137 = .ok (.iload_n 3, 1) := by decide +kernel
theorem dX0_drawnRound_138 : decode cX0_drawnRound 138 = .ok (.iload 6, 2) := by decide +kernel
theorem dX0_drawnRound_140 : decode cX0_drawnRound 140 = .ok (.invokevirtual 200, 3) := by decide +kernel
theorem dX0_drawnRound_143 : decode cX0_drawnRound 143 = .ok (.pop, 1) := by decide +kernel
theorem dX0_drawnRound_144 : decode cX0_drawnRound 144 = .ok (.aload_n 1, 1) := by decide +kernel
theorem dX0_drawnRound_145 : decode cX0_drawnRound 145 = .ok (.getfield 126, 3) := by decide +kernel
theorem dX0_drawnRound_148 : decode cX0_drawnRound 148 = .ok (.aload_n 1, 1) := by decide +kernel
theorem dX0_drawnRound_149 : decode cX0_drawnRound 149 = .ok (.getfield 176, 3) := by decide +kernel
theorem dX0_drawnRound_152 : decode cX0_drawnRound 152 = .ok (.invokevirtual 204, 3) := by decide +kernel
theorem dX0_drawnRound_155 : decode cX0_drawnRound 155 = .ok (.iload_n 2, 1) := by decide +kernel
theorem dX0_drawnRound_156 : decode cX0_drawnRound 156 = .ok (.bipush 7, 2) := by decide +kernel
theorem dX0_drawnRound_158 : decode cX0_drawnRound 158 = .ok (.iand, 1) := by decide +kernel
theorem dX0_drawnRound_159 : decode cX0_drawnRound 159 = .ok (.bipush 7, 2) := by decide +kernel
theorem dX0_drawnRound_161 : decode cX0_drawnRound 161 = .ok (.if_icmp .ne 14, 3) := by decide +kernel
theorem dX0_drawnRound_164 : decode cX0_drawnRound 164 = .ok (.aload_n 1, 1) := by decide +kernel
theorem dX0_drawnRound_165 : decode cX0_drawnRound 165 = .ok (.getfield 49, 3) := by decide +kernel
theorem dX0_drawnRound_168 : decode cX0_drawnRound 168 = .ok (.aload_n 1, 1) := by decide +kernel
theorem dX0_drawnRound_169 : decode cX0_drawnRound 169 = .ok (.getfield 126, 3) := by decide +kernel
theorem dX0_drawnRound_172 : decode cX0_drawnRound 172 = .ok (.invokevirtual 207, 3) := by decide +kernel
theorem dX0_drawnRound_175 : decode cX0_drawnRound 175 = .ok (.return_, 1) := by decide +kernel
theorem dX0_cleanRound_0 : decode cX0_cleanRound 0 = .ok (.iconst 0, 1) := by decide +kernel
theorem dX0_cleanRound_1 : decode cX0_cleanRound 1 = .ok (.istore_n 3, 1) := by decide +kernel
theorem dX0_cleanRound_2 : decode cX0_cleanRound 2 = .ok (.iload_n 3, 1) := by decide +kernel
theorem dX0_cleanRound_3 : decode cX0_cleanRound 3 = .ok (.aload_n 1, 1) := by decide +kernel
theorem dX0_cleanRound_4 : decode cX0_cleanRound 4 = .ok (.getfield 186, 3) := by decide +kernel
theorem dX0_cleanRound_7 : decode cX0_cleanRound 7 = .ok (.if_icmp .ge 60, 3) := by decide +kernel
theorem dX0_cleanRound_10 : decode cX0_cleanRound 10 = .ok (.aload_n 1, 1) := by decide +kernel
theorem dX0_cleanRound_11 : decode cX0_cleanRound 11 = .ok (.getfield 49, 3) := by decide +kernel
theorem dX0_cleanRound_14 : decode cX0_cleanRound 14 = .ok (.getfield 53, 3) := by decide +kernel
theorem dX0_cleanRound_17 : decode cX0_cleanRound 17 = .ok (.iload_n 3, 1) := by decide +kernel
theorem dX0_cleanRound_18 : decode cX0_cleanRound 18 = .ok (.aaload, 1) := by decide +kernel
theorem dX0_cleanRound_19 : decode cX0_cleanRound 19 = .ok (.getfield 89, 3) := by decide +kernel
theorem dX0_cleanRound_22 : decode cX0_cleanRound 22 = .ok (.ifCond .eq 10, 3) := by decide +kernel
theorem dX0_cleanRound_25 : decode cX0_cleanRound 25 = .ok (.aload_n 1, 1) := by decide +kernel
theorem dX0_cleanRound_26 : decode cX0_cleanRound 26 = .ok (.iload_n 3, 1) := by decide +kernel
theorem dX0_cleanRound_27 : decode cX0_cleanRound 27 = .ok (.iload_n 2, 1) := by decide +kernel
theorem dX0_cleanRound_28 : decode cX0_cleanRound 28 = .ok (.invokevirtual 193, 3) := by decide +kernel
theorem dX0_cleanRound_31 : decode cX0_cleanRound 31 = .ok (.pop, 1) := by decide +kernel
theorem dX0_cleanRound_32 : decode cX0_cleanRound 32 = .ok (.aload_n 1, 1) := by decide +kernel
theorem dX0_cleanRound_33 : decode cX0_cleanRound 33 = .ok (.getfield 49, 3) := by decide +kernel
theorem dX0_cleanRound_36 : decode cX0_cleanRound 36 = .ok (.iload_n 3, 1) := by decide +kernel
theorem dX0_cleanRound_37 : decode cX0_cleanRound 37 = .ok (.aload_n 1, 1) := by decide +kernel
theorem dX0_cleanRound_38 : decode cX0_cleanRound 38 = .ok (.getfield 170, 3) := by decide +kernel
theorem dX0_cleanRound_41 : decode cX0_cleanRound 41 = .ok (.invokevirtual 196, 3) := by decide +kernel
theorem dX0_cleanRound_44 : decode cX0_cleanRound 44 = .ok (.ifCond .eq 17, 3) := by decide +kernel
theorem dX0_cleanRound_47 : decode cX0_cleanRound 47 = .ok (.aload_n 0, 1) := by decide +kernel
theorem dX0_cleanRound_48 : decode cX0_cleanRound 48 = .ok (.invokevirtual 211, 3) := by decide +kernel
theorem dX0_cleanRound_51 : decode cX0_cleanRound 51 = .ok (.aload_n 0, 1) := by decide +kernel
theorem dX0_cleanRound_52 : decode cX0_cleanRound 52 = .ok (.aload_n 1, 1) := by decide +kernel
theorem dX0_cleanRound_53 : decode cX0_cleanRound 53 = .ok (.iload_n 3, 1) := by decide +kernel
theorem dX0_cleanRound_54 : decode cX0_cleanRound 54 = .ok (.bipush 39, 2) := by decide +kernel
theorem dX0_cleanRound_56 : decode cX0_cleanRound 56 = .ok (.iconst 1, 1) := by decide +kernel
theorem dX0_cleanRound_57 : decode cX0_cleanRound 57 = .ok (.invokevirtual 200, 3) := by decide +kernel
theorem dX0_cleanRound_60 : decode cX0_cleanRound 60 = .ok (.pop, 1) := by decide +kernel
theorem dX0_cleanRound_61 : decode cX0_cleanRound 61 = .ok (.iinc 3 1, 3) := by decide +kernel
theorem dX0_cleanRound_64 : decode cX0_cleanRound 64 = .ok (.goto (-62), 3) := by decide +kernel
theorem dX0_cleanRound_67 : decode cX0_cleanRound 67 = .ok (.aload_n 1, 1) := by decide +kernel
theorem dX0_cleanRound_68 : decode cX0_cleanRound 68 = .ok (.getfield 126, 3) := by decide +kernel
theorem dX0_cleanRound_71 : decode cX0_cleanRound 71 = .ok (.aload_n 1, 1) := by decide +kernel
theorem dX0_cleanRound_72 : decode cX0_cleanRound 72 = .ok (.getfield 176, 3) := by decide +kernel
theorem dX0_cleanRound_75 : decode cX0_cleanRound 75 = .ok (.invokevirtual 204, 3) := by decide +kernel
theorem dX0_cleanRound_78 : decode cX0_cleanRound 78 = .ok (.aload_n 1, 1) := by decide +kernel
theorem dX0_cleanRound_79 : decode cX0_cleanRound 79 = .ok (.getfield 49, 3) := by decide +kernel
theorem dX0_cleanRound_82 : decode cX0_cleanRound 82 = .ok (.aload_n 1, 1) := by decide +kernel
theorem dX0_cleanRound_83 : decode cX0_cleanRound 83 = .ok (.getfield 126, 3) := by decide +kernel
theorem dX0_cleanRound_86 : decode cX0_cleanRound 86 = .ok (.invokevirtual 207, 3) := by decide +kernel
theorem dX0_cleanRound_89 : decode cX0_cleanRound 89 = .ok (.return_, 1) := by decide +kernel
theorem dX0_roundsTillClear_0 : decode cX0_roundsTillClear 0 = .ok (.aload_n 0, 1) := by decide +kernel
theorem dX0_roundsTillClear_1 : decode cX0_roundsTillClear 1 = .ok (.getfield 18, 3) := by decide +kernel
theorem dX0_roundsTillClear_4 : decode cX0_roundsTillClear 4 = .ok (.aload_n 1, 1) := by decide +kernel
theorem dX0_roundsTillClear_5 : decode cX0_roundsTillClear 5 = .ok (.invokevirtual 214, 3) := by decide +kernel
theorem dX0_roundsTillClear_8 : decode cX0_roundsTillClear 8 = .ok (.aload_n 0, 1) := by decide +kernel
theorem dX0_roundsTillClear_9 : decode cX0_roundsTillClear 9 = .ok (.getfield 18, 3) := by decide +kernel
theorem dX0_roundsTillClear_12 : decode cX0_roundsTillClear 12 = .ok (.bipush 20, 2) := by decide +kernel
theorem dX0_roundsTillClear_14 : decode cX0_roundsTillClear 14 = .ok (.putfield 93, 3) := by decide +kernel
theorem dX0_roundsTillClear_17 : decode cX0_roundsTillClear 17 = .ok (.iconst 0, 1) := by decide +kernel
theorem dX0_roundsTillClear_18 : decode cX0_roundsTillClear 18 = .ok (.istore_n 3, 1) := by decide +kernel
theorem dX0_roundsTillClear_19 : decode cX0_roundsTillClear 19 = .ok (.iload_n 3, 1) := by decide +kernel
theorem dX0_roundsTillClear_20 : decode cX0_roundsTillClear 20 = .ok (.bipush 30, 2) := by decide +kernel
theorem dX0_roundsTillClear_22 : decode cX0_roundsTillClear 22 = .ok (.if_icmp .ge 46, 3) := by decide +kernel
theorem dX0_roundsTillClear_25 : decode cX0_roundsTillClear 25 = .ok (.aload_n 0, 1) := by decide +kernel
theorem dX0_roundsTillClear_26 : decode cX0_roundsTillClear 26 = .ok (.getfield 18, 3) := by decide +kernel
theorem dX0_roundsTillClear_29 : decode cX0_roundsTillClear 29 = .ok (.getfield 49, 3) := by decide +kernel
theorem dX0_roundsTillClear_32 : decode cX0_roundsTillClear 32 = .ok (.invokevirtual 218, 3) := by decide +kernel
theorem dX0_roundsTillClear_35 : decode cX0_roundsTillClear 35 = .ok (.ifCond .eq 5, 3) := by decide +kernel
theorem dX0_roundsTillClear_38 : decode cX0_roundsTillClear 38 = .ok (.iload_n 3, 1) := by decide +kernel
theorem dX0_roundsTillClear_39 : decode cX0_roundsTillClear 39 = .ok (.ireturn, 1) := by decide +kernel
theorem dX0_roundsTillClear_40 : decode cX0_roundsTillClear 40 = .ok (.aload_n 0, 1) := by decide +kernel
theorem dX0_roundsTillClear_41 : decode cX0_roundsTillClear 41 = .ok (.aload_n 0, 1) := by decide +kernel
theorem dX0_roundsTillClear_42 : decode cX0_roundsTillClear 42 = .ok (.getfield 18, 3) := by decide +kernel
theorem dX0_roundsTillClear_45 : decode cX0_roundsTillClear 45 = .ok (.iload_n 2, 1) := by decide +kernel
theorem dX0_roundsTillClear_46 : decode cX0_roundsTillClear 46 = .ok (.iload_n 3, 1) := by decide +kernel
theorem dX0_roundsTillClear_47 : decode cX0_roundsTillClear 47 = .ok (.ishr, 1) := by decide +kernel
theorem dX0_roundsTillClear_48 : decode cX0_roundsTillClear 48 = .ok (.iconst 1, 1) := by decide +kernel
theorem dX0_roundsTillClear_49 : decode cX0_roundsTillClear 49 = .ok (.iand, 1) := by decide +kernel
theorem dX0_roundsTillClear_50 : decode cX0_roundsTillClear 50 = .ok (.iconst 1, 1) := by decide +kernel
theorem dX0_roundsTillClear_51 : decode cX0_roundsTillClear 51 = .ok (.if_icmp .ne 7, 3) := by decide +kernel
theorem dX0_roundsTillClear_54 : decode cX0_roundsTillClear 54 = .ok (.iconst 1, 1) := by decide +kernel
theorem dX0_roundsTillClear_55 : decode cX0_roundsTillClear 55 = .ok (.goto 4, 3) := by decide +kernel
theorem dX0_roundsTillClear_58 : decode cX0_roundsTillClear 58 = .ok (.iconst 0, 1) := by decide +kernel
theorem dX0_roundsTillClear_59 : decode cX0_roundsTillClear 59 = .ok (.invokevirtual 222, 3) := by decide +kernel
theorem dX0_roundsTillClear_62 : decode cX0_roundsTillClear 62 = .ok (.iinc 3 1, 3) := by decide +kernel
theorem dX0_roundsTillClear_65 : decode cX0_roundsTillClear 65 = .ok (.goto (-46), 3) := by decide +kernel
theorem dX0_roundsTillClear_68 : decode cX0_roundsTillClear 68 = .ok (.aload_n 0, 1) := by decide +kernel
theorem dX0_roundsTillClear_69 : decode cX0_roundsTillClear 69 = .ok (.getfield 18, 3) := by decide +kernel
theorem dX0_roundsTillClear_72 : decode cX0_roundsTillClear 72 = .ok (.getfield 49, 3) := by decide +kernel
theorem dX0_roundsTillClear_75 : decode cX0_roundsTillClear 75 = .ok (.invokevirtual 218, 3) := by decide +kernel
theorem dX0_roundsTillClear_78 : decode cX0_roundsTillClear 78 = .ok (.ifCond .eq 8, 3) := by decide +kernel
theorem dX0_roundsTillClear_81 : decode cX0_roundsTillClear 81 = .ok (.bipush 30, 2) := by decide +kernel
theorem dX0_roundsTillClear_83 : decode cX0_roundsTillClear 83 = .ok (.goto 4, 3) := by decide +kernel
theorem dX0_roundsTillClear_86 : decode cX0_roundsTillClear 86 = .ok (.iconst (-1), 1) := by decide +kernel
theorem dX0_roundsTillClear_87 : decode cX0_roundsTillClear 87 = .ok (.ireturn, 1) := by decide +kernel
theorem dX1_init_0 : decode cX1_init 0 = .ok (.aload_n 0, 1) := by decide +kernel
theorem dX1_init_1 : decode cX1_init 1 = .ok (.invokespecial 3, 3) := by decide +kernel
theorem dX1_init_4 : decode cX1_init 4 = .ok (.aload_n 0, 1) := by decide +kernel
theorem dX1_init_5 : decode cX1_init 5 = .ok (.sipush 2048, 3) := by decide +kernel
theorem dX1_init_8 : decode cX1_init 8 = .ok (.newarray .long, 2) := by decide +kernel
theorem dX1_init_10 : decode cX1_init 10 = .ok (.putfield 9, 3) := by decide +kernel
theorem dX1_init_13 : decode cX1_init 13 = .ok (.aload_n 0, 1) := by decide +kernel
theorem dX1_init_14 : decode cX1_init 14 = .ok (.sipush 256, 3) := by decide +kernel
theorem dX1_init_17 : decode cX1_init 17 = .ok (.newarray .long, 2) := by decide +kernel
theorem dX1_init_19 : decode cX1_init 19 = .ok (.putfield 15, 3) := by decide +kernel
theorem dX1_init_22 : decode cX1_init 22 = .ok (.bipush 10, 2) := by decide +kernel
theorem dX1_init_24 : decode cX1_init 24 = .ok (.istore_n 1, 1) := by decide +kernel
theorem dX1_init_25 : decode cX1_init 25 = .ok (.iload_n 1, 1) := by decide +kernel
theorem dX1_init_26 : decode cX1_init 26 = .ok (.ifCond .lt 49, 3) := by decide +kernel
theorem dX1_init_29 : decode cX1_init 29 = .ok (.iconst 1, 1) := by decide +kernel
theorem dX1_init_30 : decode cX1_init 30 = .ok (.bipush 10, 2) := by decide +kernel
theorem dX1_init_32 : decode cX1_init 32 = .ok (.iload_n 1, 1) := by decide +kernel
theorem dX1_init_33 : decode cX1_init 33 = .ok (.isub, 1) := by decide +kernel
theorem dX1_init_34 : decode cX1_init 34 = .ok (.ishl, 1) := by decide +kernel
theorem dX1_init_35 : decode cX1_init 35 = .ok (.istore_n 2, 1) := by decide +kernel
theorem dX1_init_36 : decode cX1_init 36 = .ok (.iconst 0, 1) := by decide +kernel
theorem dX1_init_37 : decode cX1_init 37 = .ok (.istore_n 3, 1) := by decide +kernel
theorem dX1_init_38 : decode cX1_init 38 = .ok (.iload_n 3, 1) := by decide +kernel
theorem dX1_init_39 : decode cX1_init 39 = .ok (.iload_n 2, 1) := by decide +kernel
theorem dX1_init_40 : decode cX1_init 40 = .ok (.if_icmp .ge 29, 3) := by decide +kernel
theorem dX1_init_43 : decode cX1_init 43 = .ok (.aload_n 0, 1) := by decide +kernel
theorem dX1_init_44 : decode cX1_init 44 = .ok (.getfield 9, 3) := by decide +kernel
theorem dX1_init_47 : decode cX1_init 47 = .ok (.iload_n 2, 1) := by decide +kernel
theorem dX1_init_48 : decode cX1_init 48 = .ok (.iload_n 3, 1) := by decide +kernel
theorem dX1_init_49 : decode cX1_init 49 = .ok (.iadd, 1) := by decide +kernel
theorem dX1_init_50 : decode cX1_init 50 = .ok (.aload_n 0, 1) := by decide +kernel
theorem dX1_init_51 : decode cX1_init 51 = .ok (.getfield 9, 3) := by decide +kernel
theorem dX1_init_54 : decode cX1_init 54 = .ok (.iload_n 3, 1) := by decide +kernel
theorem dX1_init_55 : decode cX1_init 55 = .ok (.laload, 1) := by decide +kernel
theorem dX1_init_56 : decode cX1_init 56 = .ok (.ldc2_w 18, 3) := by decide +kernel
theorem dX1_init_59 : decode cX1_init 59 = .ok (.iload_n 1, 1) := by decide +kernel
theorem dX1_init_60 : decode cX1_init 60 = .ok (.lshl, 1) := by decide +kernel
theorem dX1_init_61 : decode cX1_init 61 = .ok (.lxor, 1) := by decide +kernel
theorem dX1_init_62 : decode cX1_init 62 = .ok (.lastore, 1) := by decide +kernel
theorem dX1_init_63 : decode cX1_init 63 = .ok (.iinc 3 1, 3) := by decide +kernel
theorem dX1_init_66 : decode cX1_init 66 = .ok (.goto (-28), 3) := by decide +kernel
theorem dX1_init_69 : decode cX1_init 69 = .ok (.iinc 1 (-1), 3) := by decide +kernel
theorem dX1_init_72 : decode cX1_init 72 = .ok (.goto (-47), 3) := by decide +kernel
theorem dX1_init_75 : decode cX1_init 75 = .ok (.iconst 1, 1) := by decide +kernel
theorem dX1_init_76 : decode cX1_init 76 = .ok (.istore_n 1, 1) := by decide +kernel
theorem dX1_init_77 : decode cX1_init 77 = .ok (.iload_n 1, 1) := by decide +kernel
theorem dX1_init_78 : decode cX1_init 78 = .ok (.sipush 256, 3) := by decide +kernel
theorem dX1_init_81 : decode cX1_init 81 = .ok (.if_icmp .ge 34, 3) := by decide +kernel
theorem dX1_init_84 : decode cX1_init 84 = .ok (.aload_n 0, 1) := by decide +kernel
theorem dX1_init_85 : decode cX1_init 85 = .ok (.getfield 15, 3) := by decide +kernel
theorem dX1_init_88 : decode cX1_init 88 = .ok (.iload_n 1, 1) := by decide +kernel
theorem dX1_init_89 : decode cX1_init 89 = .ok (.aload_n 0, 1) := by decide +kernel
theorem dX1_init_90 : decode cX1_init 90 = .ok (.getfield 9, 3) := by decide +kernel
theorem dX1_init_93 : decode cX1_init 93 = .ok (.iload_n 1, 1) := by decide +kernel
theorem dX1_init_94 : decode cX1_init 94 = .ok (.invokestatic 20, 3) := by decide +kernel
theorem dX1_init_97 : decode cX1_init 97 = .ok (.laload, 1) := by decide +kernel
theorem dX1_init_98 : decode cX1_init 98 = .ok (.aload_n 0, 1) := by decide +kernel
theorem dX1_init_99 : decode cX1_init 99 = .ok (.getfield 9, 3) := by decide +kernel
theorem dX1_init_102 : decode cX1_init 102 = .ok (.iconst 0, 1) := by decide +kernel
theorem dX1_init_103 : decode cX1_init 103 = .ok (.invokestatic 20, 3) := by decide +kernel
theorem dX1_init_106 : decode cX1_init 106 = .ok (.laload, 1) := by decide +kernel
theorem dX1_init_107 : decode cX1_init 107 = .ok (.lxor, 1) := by decide +kernel
theorem dX1_init_108 : decode cX1_init 108 = .ok (.lastore, 1) := by decide +kernel
theorem dX1_init_109 : decode cX1_init 109 = .ok (.iinc 1 1, 3) := by decide +kernel
theorem dX1_init_112 : decode cX1_init 112 = .ok (.goto (-35), 3) := by decide +kernel
theorem dX1_init_115 : decode cX1_init 115 = .ok (.return_, 1) := by decide +kernel
theorem dX1_restOf_0 : decode cX1_restOf 0 = .ok (.iload_n 0, 1) := by decide +kernel
theorem dX1_restOf_1 : decode cX1_restOf 1 = .ok (.istore_n 1, 1) := by decide +kernel
theorem dX1_restOf_2 : decode cX1_restOf 2 = .ok (.bipush 10, 2) := by decide +kernel
theorem dX1_restOf_4 : decode cX1_restOf 4 = .ok (.istore_n 2, 1) := by decide +kernel
theorem dX1_restOf_5 : decode cX1_restOf 5 = .ok (.iload_n 2, 1) := by decide +kernel
theorem dX1_restOf_6 : decode cX1_restOf 6 = .ok (.iconst 3, 1) := by decide +kernel
theorem dX1_restOf_7 : decode cX1_restOf 7 = .ok (.if_icmp .lt 27, 3) := by decide +kernel
theorem dX1_restOf_10 : decode cX1_restOf 10 = .ok (.iload_n 1, 1) := by decide +kernel
theorem dX1_restOf_11 : decode cX1_restOf 11 = .ok (.iload_n 2, 1) := by decide +kernel
theorem dX1_restOf_12 : decode cX1_restOf 12 = .ok (.ishr, 1) := by decide +kernel
theorem dX1_restOf_13 : decode cX1_restOf 13 = .ok (.iconst 1, 1) := by decide +kernel
theorem dX1_restOf_14 : decode cX1_restOf 14 = .ok (.iand, 1) := by decide +kernel
theorem dX1_restOf_15 : decode cX1_restOf 15 = .ok (.iconst 1, 1) := by decide +kernel
theorem dX1_restOf_16 : decode cX1_restOf 16 = .ok (.if_icmp .ne 12, 3) := by decide +kernel
theorem dX1_restOf_19 : decode cX1_restOf 19 = .ok (.iload_n 1, 1) := by decide +kernel
theorem dX1_restOf_20 : decode cX1_restOf 20 = .ok (.bipush 11, 2) := by decide +kernel
theorem dX1_restOf_22 : decode cX1_restOf 22 = .ok (.iload_n 2, 1) := by decide +kernel
theorem dX1_restOf_23 : decode cX1_restOf 23 = .ok (.iconst 3, 1) := by decide +kernel
theorem dX1_restOf_24 : decode cX1_restOf 24 = .ok (.isub, 1) := by decide +kernel
theorem dX1_restOf_25 : decode cX1_restOf 25 = .ok (.ishl, 1) := by decide +kernel
theorem dX1_restOf_26 : decode cX1_restOf 26 = .ok (.ixor, 1) := by decide +kernel
theorem dX1_restOf_27 : decode cX1_restOf 27 = .ok (.istore_n 1, 1) := by decide +kernel
theorem dX1_restOf_28 : decode cX1_restOf 28 = .ok (.iinc 2 (-1), 3) := by decide +kernel
theorem dX1_restOf_31 : decode cX1_restOf 31 = .ok (.goto (-26), 3) := by decide +kernel
theorem dX1_restOf_34 : decode cX1_restOf 34 = .ok (.iload_n 1, 1) := by decide +kernel
theorem dX1_restOf_35 : decode cX1_restOf 35 = .ok (.ireturn, 1) := by decide +kernel
theorem dX1_isWhole_0 : decode cX1_isWhole 0 = .ok (.iload_n 0, 1) := by decide +kernel
theorem dX1_isWhole_1 : decode cX1_isWhole 1 = .ok (.invokestatic 24, 3) := by decide +kernel
theorem dX1_isWhole_4 : decode cX1_isWhole 4 = .ok (.iconst 5, 1) := by decide +kernel
theorem dX1_isWhole_5 : decode cX1_isWhole 5 = .ok (.if_icmp .ne 7, 3) := by decide +kernel
theorem dX1_isWhole_8 : decode cX1_isWhole 8 = .ok (.iconst 1, 1) := by decide +kernel
theorem dX1_isWhole_9 : decode cX1_isWhole 9 = .ok (.goto 4, 3) := by decide +kernel
theorem dX1_isWhole_12 : decode cX1_isWhole 12 = .ok (.iconst 0, 1) := by decide +kernel
theorem dX1_isWhole_13 : decode cX1_isWhole 13 = .ok (.ireturn, 1) := by decide +kernel
theorem dX1_wholeWord_0 : decode cX1_wholeWord 0 = .ok (.iload_n 0, 1) := by decide +kernel
theorem dX1_wholeWord_1 : decode cX1_wholeWord 1 = .ok (.iconst 3, 1) := by decide +kernel
theorem dX1_wholeWord_2 : decode cX1_wholeWord 2 = .ok (.ishl, 1) := by decide +kernel
theorem dX1_wholeWord_3 : decode cX1_wholeWord 3 = .ok (.istore_n 1, 1) := by decide +kernel
theorem dX1_wholeWord_4 : decode cX1_wholeWord 4 = .ok (.iload_n 1, 1) := by decide +kernel
theorem dX1_wholeWord_5 : decode cX1_wholeWord 5 = .ok (.iload_n 1, 1) := by decide +kernel
theorem dX1_wholeWord_6 : decode cX1_wholeWord 6 = .ok (.invokestatic 24, 3) := by decide +kernel
theorem dX1_wholeWord_9 : decode cX1_wholeWord 9 = .ok (.iconst 5, 1) := by decide +kernel
theorem dX1_wholeWord_10 : decode cX1_wholeWord 10 = .ok (.ixor, 1) := by decide +kernel
theorem dX1_wholeWord_11 : decode cX1_wholeWord 11 = .ok (.ior, 1) := by decide +kernel
theorem dX1_wholeWord_12 : decode cX1_wholeWord 12 = .ok (.ireturn, 1) := by decide +kernel
theorem dX1_isOne_0 : decode cX1_isOne 0 = .ok (.lload_n 0, 1) := by decide +kernel
theorem dX1_isOne_1 : decode cX1_isOne 1 = .ok (.iload_n 2, 1) := by decide +kernel
theorem dX1_isOne_2 : decode cX1_isOne 2 = .ok (.lshr, 1) := by decide +kernel
theorem dX1_isOne_3 : decode cX1_isOne 3 = .ok (.lconst 1, 1) := by decide +kernel
theorem dX1_isOne_4 : decode cX1_isOne 4 = .ok (.land, 1) := by decide +kernel
theorem dX1_isOne_5 : decode cX1_isOne 5 = .ok (.lconst 1, 1) := by decide +kernel
theorem dX1_isOne_6 : decode cX1_isOne 6 = .ok (.lcmp, 1) := by decide +kernel
theorem dX1_isOne_7 : decode cX1_isOne 7 = .ok (.ifCond .ne 7, 3) := by decide +kernel
theorem dX1_isOne_10 : decode cX1_isOne 10 = .ok (.iconst 1, 1) := by decide +kernel
theorem dX1_isOne_11 : decode cX1_isOne 11 = .ok (.goto 4, 3) := by decide +kernel
theorem dX1_isOne_14 : decode cX1_isOne 14 = .ok (.iconst 0, 1) := by decide +kernel
theorem dX1_isOne_15 : decode cX1_isOne 15 = .ok (.ireturn, 1) := by decide +kernel
theorem dX2_init_0 : decode cX2_init 0 = .ok (.aload_n 0, 1) := by decide +kernel
theorem dX2_init_1 : decode cX2_init 1 = .ok (.invokespecial 3, 3) := by decide +kernel
theorem dX2_init_4 : decode cX2_init 4 = .ok (.aload_n 0, 1) := by decide +kernel
theorem dX2_init_5 : decode cX2_init 5 = .ok (.bipush 104, 2) := by decide +kernel
theorem dX2_init_7 : decode cX2_init 7 = .ok (.newarray .int, 2) := by decide +kernel
theorem dX2_init_9 : decode cX2_init 9 = .ok (.putfield 9, 3) := by decide +kernel
theorem dX2_init_12 : decode cX2_init 12 = .ok (.aload_n 0, 1) := by decide +kernel
theorem dX2_init_13 : decode cX2_init 13 = .ok (.sipush 2048, 3) := by decide +kernel
theorem dX2_init_16 : decode cX2_init 16 = .ok (.newarray .int, 2) := by decide +kernel
theorem dX2_init_18 : decode cX2_init 18 = .ok (.putfield 15, 3) := by decide +kernel
theorem dX2_init_21 : decode cX2_init 21 = .ok (.aload_n 0, 1) := by decide +kernel
theorem dX2_init_22 : decode cX2_init 22 = .ok (.iconst 4, 1) := by decide +kernel
theorem dX2_init_23 : decode cX2_init 23 = .ok (.newarray .int, 2) := by decide +kernel
theorem dX2_init_25 : decode cX2_init 25 = .ok (.putfield 18, 3) := by decide +kernel
theorem dX2_init_28 : decode cX2_init 28 = .ok (.aload_n 0, 1) := by decide +kernel
theorem dX2_init_29 : decode cX2_init 29 = .ok (.iconst 4, 1) := by decide +kernel
theorem dX2_init_30 : decode cX2_init 30 = .ok (.newarray .int, 2) := by decide +kernel
theorem dX2_init_32 : decode cX2_init 32 = .ok (.putfield 21, 3) := by decide +kernel
theorem dX2_init_35 : decode cX2_init 35 = .ok (.aload_n 0, 1) := by decide +kernel
theorem dX2_init_36 : decode cX2_init 36 = .ok (.iconst 4, 1) := by decide +kernel
theorem dX2_init_37 : decode cX2_init 37 = .ok (.newarray .int, 2) := by decide +kernel
theorem dX2_init_39 : decode cX2_init 39 = .ok (.putfield 24, 3) := by decide +kernel
theorem dX2_init_42 : decode cX2_init 42 = .ok (.aload_n 0, 1) := by decide +kernel
theorem dX2_init_43 : decode cX2_init 43 = .ok (.iconst 4, 1) := by decide +kernel
theorem dX2_init_44 : decode cX2_init 44 = .ok (.newarray .int, 2) := by decide +kernel
theorem dX2_init_46 : decode cX2_init 46 = .ok (.putfield 27, 3) := by decide +kernel
theorem dX2_init_49 : decode cX2_init 49 = .ok (.return_, 1) := by decide +kernel
theorem dX2_measure_0 : decode cX2_measure 0 = .ok (.iconst 0, 1) := by decide +kernel
theorem dX2_measure_1 : decode cX2_measure 1 = .ok (.istore_n 2, 1) := by decide +kernel
theorem dX2_measure_2 : decode cX2_measure 2 = .ok (.iload_n 2, 1) := by decide +kernel
theorem dX2_measure_3 : decode cX2_measure 3 = .ok (.bipush 13, 2) := by decide +kernel
theorem dX2_measure_5 : decode cX2_measure 5 = .ok (.if_icmp .ge 167, 3) := by decide +kernel
theorem dX2_measure_8 : decode cX2_measure 8 = .ok (.aload_n 1, 1) := by decide +kernel
theorem dX2_measure_9 : decode cX2_measure 9 = .ok (.iload_n 2, 1) := by decide +kernel
theorem dX2_measure_10 : decode cX2_measure 10 = .ok (.iaload, 1) := by decide +kernel
theorem dX2_measure_11 : decode cX2_measure 11 = .ok (.istore_n 3, 1) := by decide +kernel
theorem dX2_measure_12 : decode cX2_measure 12 = .ok (.aload_n 1, 1) := by decide +kernel
theorem dX2_measure_13 : decode cX2_measure 13 = .ok (.bipush 13, 2) := by decide +kernel
theorem dX2_measure_15 : decode cX2_measure 15 = .ok (.iload_n 2, 1) := by decide +kernel
theorem dX2_measure_16 : decode cX2_measure 16 = .ok (.iadd, 1) := by decide +kernel
theorem dX2_measure_17 : decode cX2_measure 17 = .ok (.iaload, 1) := by decide +kernel
theorem dX2_measure_18 : decode cX2_measure 18 = .ok (.istore 4, 2) := by decide +kernel
theorem dX2_measure_20 : decode cX2_measure 20 = .ok (.aload_n 1, 1) := by decide +kernel
theorem dX2_measure_21 : decode cX2_measure 21 = .ok (.bipush 26, 2) := by decide +kernel
theorem dX2_measure_23 : decode cX2_measure 23 = .ok (.iload_n 2, 1) := by decide +kernel
theorem dX2_measure_24 : decode cX2_measure 24 = .ok (.iadd, 1) := by decide +kernel
theorem dX2_measure_25 : decode cX2_measure 25 = .ok (.iaload, 1) := by decide +kernel
theorem dX2_measure_26 : decode cX2_measure 26 = .ok (.istore 5, 2) := by decide +kernel
theorem dX2_measure_28 : decode cX2_measure 28 = .ok (.bipush 8, 2) := by decide +kernel
theorem dX2_measure_30 : decode cX2_measure 30 = .ok (.iload_n 2, 1) := by decide +kernel
theorem dX2_measure_31 : decode cX2_measure 31 = .ok (.imul, 1) := by decide +kernel
theorem dX2_measure_32 : decode cX2_measure 32 = .ok (.istore 6, 2) := by decide +kernel
theorem dX2_measure_34 : decode cX2_measure 34 = .ok (.aload_n 0, 1) := by decide +kernel
theorem dX2_measure_35 : decode cX2_measure 35 = .ok (.getfield 9, 3) := by decide +kernel
theorem dX2_measure_38 : decode cX2_measure 38 = .ok (.iload 6, 2) := by decide +kernel
theorem dX2_measure_40 : decode cX2_measure 40 = .ok (.iload_n 3, 1) := by decide +kernel
theorem dX2_measure_41 : decode cX2_measure 41 = .ok (.ineg, 1) := by decide +kernel
theorem dX2_measure_42 : decode cX2_measure 42 = .ok (.iload 4, 2) := by decide +kernel
theorem dX2_measure_44 : decode cX2_measure 44 = .ok (.isub, 1) := by decide +kernel
theorem dX2_measure_45 : decode cX2_measure 45 = .ok (.iload 5, 2) := by decide +kernel
theorem dX2_measure_47 : decode cX2_measure 47 = .ok (.isub, 1) := by decide +kernel
theorem dX2_measure_48 : decode cX2_measure 48 = .ok (.iastore, 1) := by decide +kernel
theorem dX2_measure_49 : decode cX2_measure 49 = .ok (.aload_n 0, 1) := by decide +kernel
theorem dX2_measure_50 : decode cX2_measure 50 = .ok (.getfield 9, 3) := by decide +kernel
theorem dX2_measure_53 : decode cX2_measure 53 = .ok (.iload 6, 2) := by decide +kernel
theorem dX2_measure_55 : decode cX2_measure 55 = .ok (.iconst 1, 1) := by decide +kernel
theorem dX2_measure_56 : decode cX2_measure 56 = .ok (.iadd, 1) := by decide +kernel
theorem dX2_measure_57 : decode cX2_measure 57 = .ok (.iload_n 3, 1) := by decide +kernel
theorem dX2_measure_58 : decode cX2_measure 58 = .ok (.iload 4, 2) := by decide +kernel
theorem dX2_measure_60 : decode cX2_measure 60 = .ok (.iadd, 1) := by decide +kernel
theorem dX2_measure_61 : decode cX2_measure 61 = .ok (.iload 5, 2) := by decide +kernel
theorem dX2_measure_63 : decode cX2_measure 63 = .ok (.iadd, 1) := by decide +kernel
theorem dX2_measure_64 : decode cX2_measure 64 = .ok (.iastore, 1) := by decide +kernel
theorem dX2_measure_65 : decode cX2_measure 65 = .ok (.aload_n 0, 1) := by decide +kernel
theorem dX2_measure_66 : decode cX2_measure 66 = .ok (.getfield 9, 3) := by decide +kernel
theorem dX2_measure_69 : decode cX2_measure 69 = .ok (.iload 6, 2) := by decide +kernel
theorem dX2_measure_71 : decode cX2_measure 71 = .ok (.iconst 2, 1) := by decide +kernel
theorem dX2_measure_72 : decode cX2_measure 72 = .ok (.iadd, 1) := by decide +kernel
theorem dX2_measure_73 : decode cX2_measure 73 = .ok (.iload_n 3, 1) := by decide +kernel
theorem dX2_measure_74 : decode cX2_measure 74 = .ok (.ineg, 1) := by decide +kernel
theorem dX2_measure_75 : decode cX2_measure 75 = .ok (.iload 4, 2) := by decide +kernel
theorem dX2_measure_77 : decode cX2_measure 77 = .ok (.iadd, 1) := by decide +kernel
theorem dX2_measure_78 : decode cX2_measure 78 = .ok (.iload 5, 2) := by decide +kernel
theorem dX2_measure_80 : decode cX2_measure 80 = .ok (.isub, 1) := by decide +kernel
theorem dX2_measure_81 : decode cX2_measure 81 = .ok (.iastore, 1) := by decide +kernel
theorem dX2_measure_82 : decode cX2_measure 82 = .ok (.aload_n 0, 1) := by decide +kernel
theorem dX2_measure_83 : decode cX2_measure 83 = .ok (.getfield 9, 3) := by decide +kernel
theorem dX2_measure_86 : decode cX2_measure 86 = .ok (.iload 6, 2) := by decide +kernel
theorem dX2_measure_88 : decode cX2_measure 88 = .ok (.iconst 3, 1) := by decide +kernel
theorem dX2_measure_89 : decode cX2_measure 89 = .ok (.iadd, 1) := by decide +kernel
theorem dX2_measure_90 : decode cX2_measure 90 = .ok (.iload_n 3, 1) := by decide +kernel
theorem dX2_measure_91 : decode cX2_measure 91 = .ok (.iload 4, 2) := by decide +kernel
theorem dX2_measure_93 : decode cX2_measure 93 = .ok (.isub, 1) := by decide +kernel
theorem dX2_measure_94 : decode cX2_measure 94 = .ok (.iload 5, 2) := by decide +kernel
theorem dX2_measure_96 : decode cX2_measure 96 = .ok (.iadd, 1) := by decide +kernel
theorem dX2_measure_97 : decode cX2_measure 97 = .ok (.iastore, 1) := by decide +kernel
theorem dX2_measure_98 : decode cX2_measure 98 = .ok (.aload_n 0, 1) := by decide +kernel
theorem dX2_measure_99 : decode cX2_measure 99 = .ok (.getfield 9, 3) := by decide +kernel
theorem dX2_measure_102 : decode cX2_measure 102 = .ok (.iload 6, 2) := by decide +kernel
theorem dX2_measure_104 : decode cX2_measure 104 = .ok (.iconst 4, 1) := by decide +kernel
theorem dX2_measure_105 : decode cX2_measure 105 = .ok (.iadd, 1) := by decide +kernel
theorem dX2_measure_106 : decode cX2_measure 106 = .ok (.iload_n 3, 1) := by decide +kernel
theorem dX2_measure_107 : decode cX2_measure 107 = .ok (.ineg, 1) := by decide +kernel
theorem dX2_measure_108 : decode cX2_measure 108 = .ok (.iload 4, 2) := by decide +kernel
theorem dX2_measure_110 : decode cX2_measure 110 = .ok (.iadd, 1) := by decide +kernel
theorem dX2_measure_111 : decode cX2_measure 111 = .ok (.iload 5, 2) := by decide +kernel
theorem dX2_measure_113 : decode cX2_measure 113 = .ok (.iadd, 1) := by decide +kernel
theorem dX2_measure_114 : decode cX2_measure 114 = .ok (.iastore, 1) := by decide +kernel
theorem dX2_measure_115 : decode cX2_measure 115 = .ok (.aload_n 0, 1) := by decide +kernel
theorem dX2_measure_116 : decode cX2_measure 116 = .ok (.getfield 9, 3) := by decide +kernel
theorem dX2_measure_119 : decode cX2_measure 119 = .ok (.iload 6, 2) := by decide +kernel
theorem dX2_measure_121 : decode cX2_measure 121 = .ok (.iconst 5, 1) := by decide +kernel
theorem dX2_measure_122 : decode cX2_measure 122 = .ok (.iadd, 1) := by decide +kernel
theorem dX2_measure_123 : decode cX2_measure 123 = .ok (.iload_n 3, 1) := by decide +kernel
theorem dX2_measure_124 : decode cX2_measure 124 = .ok (.iload 4, 2) := by decide +kernel
theorem dX2_measure_126 : decode cX2_measure 126 = .ok (.isub, 1) := by decide +kernel
theorem dX2_measure_127 : decode cX2_measure 127 = .ok (.iload 5, 2) := by decide +kernel
theorem dX2_measure_129 : decode cX2_measure 129 = .ok (.isub, 1) := by decide +kernel
theorem dX2_measure_130 : decode cX2_measure 130 = .ok (.iastore, 1) := by decide +kernel
theorem dX2_measure_131 : decode cX2_measure 131 = .ok (.aload_n 0, 1) := by decide +kernel
theorem dX2_measure_132 : decode cX2_measure 132 = .ok (.getfield 9, 3) := by decide +kernel
theorem dX2_measure_135 : decode cX2_measure 135 = .ok (.iload 6, 2) := by decide +kernel
theorem dX2_measure_137 : decode cX2_measure 137 = .ok (.bipush 6, 2) := by decide +kernel
theorem dX2_measure_139 : decode cX2_measure 139 = .ok (.iadd, 1) := by decide +kernel
theorem dX2_measure_140 : decode cX2_measure 140 = .ok (.iload_n 3, 1) := by decide +kernel
theorem dX2_measure_141 : decode cX2_measure 141 = .ok (.ineg, 1) := by decide +kernel
theorem dX2_measure_142 : decode cX2_measure 142 = .ok (.iload 4, 2) := by decide +kernel
theorem dX2_measure_144 : decode cX2_measure 144 = .ok (.isub, 1) := by decide +kernel
theorem dX2_measure_145 : decode cX2_measure 145 = .ok (.iload 5, 2) := by decide +kernel
theorem dX2_measure_147 : decode cX2_measure 147 = .ok (.iadd, 1) := by decide +kernel
theorem dX2_measure_148 : decode cX2_measure 148 = .ok (.iastore, 1) := by decide +kernel
theorem dX2_measure_149 : decode cX2_measure 149 = .ok (.aload_n 0, 1) := by decide +kernel
theorem dX2_measure_150 : decode cX2_measure 150 = .ok (.getfield 9, 3) := by decide +kernel
theorem dX2_measure_153 : decode cX2_measure 153 = .ok (.iload 6, 2) := by decide +kernel
theorem dX2_measure_155 : decode cX2_measure 155 = .ok (.bipush 7, 2) := by decide +kernel
theorem dX2_measure_157 : decode cX2_measure 157 = .ok (.iadd, 1) := by decide +kernel
theorem dX2_measure_158 : decode cX2_measure 158 = .ok (.iload_n 3, 1) := by decide +kernel
theorem dX2_measure_159 : decode cX2_measure 159 = .ok (.iload 4, 2) := by decide +kernel
theorem dX2_measure_161 : decode cX2_measure 161 = .ok (.iadd, 1) := by decide +kernel
theorem dX2_measure_162 : decode cX2_measure 162 = .ok (.iload 5, 2) := by decide +kernel
theorem dX2_measure_164 : decode cX2_measure 164 = .ok (.isub, 1) := by decide +kernel
theorem dX2_measure_165 : decode cX2_measure 165 = .ok (.iastore, 1) := by decide +kernel
theorem dX2_measure_166 : decode cX2_measure 166 = .ok (.iinc 2 1, 3) := by decide +kernel
theorem dX2_measure_169 : decode cX2_measure 169 = .ok (.goto (-167), 3) := by decide +kernel
theorem dX2_measure_172 : decode cX2_measure 172 = .ok (.return_, 1) := by decide +kernel
theorem dX2_tailGain_0 : decode cX2_tailGain 0 = .ok (.aload_n 0, 1) := by decide +kernel
theorem dX2_tailGain_1 : decode cX2_tailGain 1 = .ok (.getfield 9, 3) := by decide +kernel
theorem dX2_tailGain_4 : decode cX2_tailGain 4 = .ok (.bipush 88, 2) := by decide +kernel
theorem dX2_tailGain_6 : decode cX2_tailGain 6 = .ok (.iload_n 1, 1) := by decide +kernel
theorem dX2_tailGain_7 : decode cX2_tailGain 7 = .ok (.iconst 1, 1) := by decide +kernel
theorem dX2_tailGain_8 : decode cX2_tailGain 8 = .ok (.ishl, 1) := by decide +kernel
theorem dX2_tailGain_9 : decode cX2_tailGain 9 = .ok (.bipush 7, 2) := by decide +kernel
theorem dX2_tailGain_11 : decode cX2_tailGain 11 = .ok (.iand, 1) := by decide +kernel
theorem dX2_tailGain_12 : decode cX2_tailGain 12 = .ok (.iadd, 1) := by decide +kernel
theorem dX2_tailGain_13 : decode cX2_tailGain 13 = .ok (.iaload, 1) := by decide +kernel
theorem dX2_tailGain_14 : decode cX2_tailGain 14 = .ok (.aload_n 0, 1) := by decide +kernel
theorem dX2_tailGain_15 : decode cX2_tailGain 15 = .ok (.getfield 9, 3) := by decide +kernel
theorem dX2_tailGain_18 : decode cX2_tailGain 18 = .ok (.bipush 96, 2) := by decide +kernel
theorem dX2_tailGain_20 : decode cX2_tailGain 20 = .ok (.iload_n 1, 1) := by decide +kernel
theorem dX2_tailGain_21 : decode cX2_tailGain 21 = .ok (.iconst 2, 1) := by decide +kernel
theorem dX2_tailGain_22 : decode cX2_tailGain 22 = .ok (.ishl, 1) := by decide +kernel
theorem dX2_tailGain_23 : decode cX2_tailGain 23 = .ok (.bipush 7, 2) := by decide +kernel
theorem dX2_tailGain_25 : decode cX2_tailGain 25 = .ok (.iand, 1) := by decide +kernel
theorem dX2_tailGain_26 : decode cX2_tailGain 26 = .ok (.iadd, 1) := by decide +kernel
theorem dX2_tailGain_27 : decode cX2_tailGain 27 = .ok (.iaload, 1) := by decide +kernel
theorem dX2_tailGain_28 : decode cX2_tailGain 28 = .ok (.iadd, 1) := by decide +kernel
theorem dX2_tailGain_29 : decode cX2_tailGain 29 = .ok (.ireturn, 1) := by decide +kernel
theorem dX2_sumAll_0 : decode cX2_sumAll 0 = .ok (.aload_n 0, 1) := by decide +kernel
theorem dX2_sumAll_1 : decode cX2_sumAll 1 = .ok (.aload_n 1, 1) := by decide +kernel
theorem dX2_sumAll_2 : decode cX2_sumAll 2 = .ok (.invokevirtual 30, 3) := by decide +kernel
theorem dX2_sumAll_5 : decode cX2_sumAll 5 = .ok (.aload_n 0, 1) := by decide +kernel
theorem dX2_sumAll_6 : decode cX2_sumAll 6 = .ok (.getfield 15, 3) := by decide +kernel
theorem dX2_sumAll_9 : decode cX2_sumAll 9 = .ok (.iconst 0, 1) := by decide +kernel
theorem dX2_sumAll_10 : decode cX2_sumAll 10 = .ok (.iconst 0, 1) := by decide +kernel
theorem dX2_sumAll_11 : decode cX2_sumAll 11 = .ok (.iastore, 1) := by decide +kernel
theorem dX2_sumAll_12 : decode cX2_sumAll 12 = .ok (.iconst 0, 1) := by decide +kernel
theorem dX2_sumAll_13 : decode cX2_sumAll 13 = .ok (.istore_n 2, 1) := by decide +kernel
theorem dX2_sumAll_14 : decode cX2_sumAll 14 = .ok (.iload_n 2, 1) := by decide +kernel
theorem dX2_sumAll_15 : decode cX2_sumAll 15 = .ok (.bipush 11, 2) := by decide +kernel
theorem dX2_sumAll_17 : decode cX2_sumAll 17 = .ok (.if_icmp .ge 54, 3) := by decide +kernel
theorem dX2_sumAll_20 : decode cX2_sumAll 20 = .ok (.iconst 2, 1) := by decide +kernel
theorem dX2_sumAll_21 : decode cX2_sumAll 21 = .ok (.iload_n 2, 1) := by decide +kernel
theorem dX2_sumAll_22 : decode cX2_sumAll 22 = .ok (.ishl, 1) := by decide +kernel
theorem dX2_sumAll_23 : decode cX2_sumAll 23 = .ok (.iconst 1, 1) := by decide +kernel
theorem dX2_sumAll_24 : decode cX2_sumAll 24 = .ok (.isub, 1) := by decide +kernel
theorem dX2_sumAll_25 : decode cX2_sumAll 25 = .ok (.istore_n 3, 1) := by decide +kernel
theorem dX2_sumAll_26 : decode cX2_sumAll 26 = .ok (.iload_n 3, 1) := by decide +kernel
theorem dX2_sumAll_27 : decode cX2_sumAll 27 = .ok (.ifCond .lt 38, 3) := by decide +kernel
theorem dX2_sumAll_30 : decode cX2_sumAll 30 = .ok (.aload_n 0, 1) := by decide +kernel
theorem dX2_sumAll_31 : decode cX2_sumAll 31 = .ok (.getfield 15, 3) := by decide +kernel
theorem dX2_sumAll_34 : decode cX2_sumAll 34 = .ok (.iload_n 3, 1) := by decide +kernel
theorem dX2_sumAll_35 : decode cX2_sumAll 35 = .ok (.aload_n 0, 1) := by decide +kernel
theorem dX2_sumAll_36 : decode cX2_sumAll 36 = .ok (.getfield 15, 3) := by decide +kernel
theorem dX2_sumAll_39 : decode cX2_sumAll 39 = .ok (.iload_n 3, 1) := by decide +kernel
theorem dX2_sumAll_40 : decode cX2_sumAll 40 = .ok (.iconst 1, 1) := by decide +kernel
theorem dX2_sumAll_41 : decode cX2_sumAll 41 = .ok (.ishr, 1) := by decide +kernel
theorem dX2_sumAll_42 : decode cX2_sumAll 42 = .ok (.iaload, 1) := by decide +kernel
theorem dX2_sumAll_43 : decode cX2_sumAll 43 = .ok (.aload_n 0, 1) := by decide +kernel
theorem dX2_sumAll_44 : decode cX2_sumAll 44 = .ok (.getfield 9, 3) := by decide +kernel
theorem dX2_sumAll_47 : decode cX2_sumAll 47 = .ok (.bipush 8, 2) := by decide +kernel
theorem dX2_sumAll_49 : decode cX2_sumAll 49 = .ok (.iload_n 2, 1) := by decide +kernel
theorem dX2_sumAll_50 : decode cX2_sumAll 50 = .ok (.imul, 1) := by decide +kernel
theorem dX2_sumAll_51 : decode cX2_sumAll 51 = .ok (.iload_n 3, 1) := by decide +kernel
theorem dX2_sumAll_52 : decode cX2_sumAll 52 = .ok (.bipush 7, 2) := by decide +kernel
theorem dX2_sumAll_54 : decode cX2_sumAll 54 = .ok (.iand, 1) := by decide +kernel
theorem dX2_sumAll_55 : decode cX2_sumAll 55 = .ok (.iadd, 1) := by decide +kernel
theorem dX2_sumAll_56 : decode cX2_sumAll 56 = .ok (.iaload, 1) := by decide +kernel
theorem dX2_sumAll_57 : decode cX2_sumAll 57 = .ok (.iadd, 1) := by decide +kernel
theorem dX2_sumAll_58 : decode cX2_sumAll 58 = .ok (.iastore, 1) := by decide +kernel
theorem dX2_sumAll_59 : decode cX2_sumAll 59 = .ok (.iinc 3 (-1), 3) := by decide +kernel
theorem dX2_sumAll_62 : decode cX2_sumAll 62 = .ok (.goto (-36), 3) := by decide +kernel
theorem dX2_sumAll_65 : decode cX2_sumAll 65 = .ok (.iinc 2 1, 3) := by decide +kernel
theorem dX2_sumAll_68 : decode cX2_sumAll 68 = .ok (.goto (-54), 3) := by decide +kernel
theorem dX2_sumAll_71 : decode cX2_sumAll 71 = .ok (.iconst 0, 1) := by decide +kernel
theorem dX2_sumAll_72 : decode cX2_sumAll 72 = .ok (.istore_n 2, 1) := by decide +kernel
theorem dX2_sumAll_73 : decode cX2_sumAll 73 = .ok (.iload_n 2, 1) := by decide +kernel
theorem dX2_sumAll_74 : decode cX2_sumAll 74 = .ok (.sipush 2048, 3) := by decide +kernel
theorem dX2_sumAll_77 : decode cX2_sumAll 77 = .ok (.if_icmp .ge 25, 3) := by decide +kernel
theorem dX2_sumAll_80 : decode cX2_sumAll 80 = .ok (.aload_n 0, 1) := by decide +kernel
theorem dX2_sumAll_81 : decode cX2_sumAll 81 = .ok (.getfield 15, 3) := by decide +kernel
theorem dX2_sumAll_84 : decode cX2_sumAll 84 = .ok (.iload_n 2, 1) := by decide +kernel
theorem dX2_sumAll_85 : decode cX2_sumAll 85 = .ok (.dup2, 1) := by decide +kernel
theorem dX2_sumAll_86 : decode cX2_sumAll 86 = .ok (.iaload, 1) := by decide +kernel
theorem dX2_sumAll_87 : decode cX2_sumAll 87 = .ok (.aload_n 0, 1) := by decide +kernel
theorem dX2_sumAll_88 : decode cX2_sumAll 88 = .ok (.iload_n 2, 1) := by decide +kernel
theorem dX2_sumAll_89 : decode cX2_sumAll 89 = .ok (.iconst 3, 1) := by decide +kernel
theorem dX2_sumAll_90 : decode cX2_sumAll 90 = .ok (.iand, 1) := by decide +kernel
theorem dX2_sumAll_91 : decode cX2_sumAll 91 = .ok (.invokevirtual 34, 3) := by decide +kernel
theorem dX2_sumAll_94 : decode cX2_sumAll 94 = .ok (.iadd, 1) := by decide +kernel
theorem dX2_sumAll_95 : decode cX2_sumAll 95 = .ok (.iastore, 1) := by decide +kernel
theorem dX2_sumAll_96 : decode cX2_sumAll 96 = .ok (.iinc 2 1, 3) := by decide +kernel
theorem dX2_sumAll_99 : decode cX2_sumAll 99 = .ok (.goto (-26), 3) := by decide +kernel
theorem dX2_sumAll_102 : decode cX2_sumAll 102 = .ok (.return_, 1) := by decide +kernel
theorem dX2_bestWord_0 : decode cX2_bestWord 0 = .ok (.aload_n 0, 1) := by decide +kernel
theorem dX2_bestWord_1 : decode cX2_bestWord 1 = .ok (.aload_n 1, 1) := by decide +kernel
theorem dX2_bestWord_2 : decode cX2_bestWord 2 = .ok (.invokevirtual 30, 3) := by decide +kernel
theorem dX2_bestWord_5 : decode cX2_bestWord 5 = .ok (.aload_n 0, 1) := by decide +kernel
theorem dX2_bestWord_6 : decode cX2_bestWord 6 = .ok (.getfield 18, 3) := by decide +kernel
theorem dX2_bestWord_9 : decode cX2_bestWord 9 = .ok (.ldc 38, 2) := by decide +kernel
theorem dX2_bestWord_11 : decode cX2_bestWord 11 = .ok (.invokestatic 39, 3) := by decide +kernel
theorem dX2_bestWord_14 : decode cX2_bestWord 14 = .ok (.aload_n 0, 1) := by decide +kernel
theorem dX2_bestWord_15 : decode cX2_bestWord 15 = .ok (.getfield 21, 3) := by decide +kernel
theorem dX2_bestWord_18 : decode cX2_bestWord 18 = .ok (.iconst 0, 1) := by decide +kernel
theorem dX2_bestWord_19 : decode cX2_bestWord 19 = .ok (.invokestatic 39, 3) := by decide +kernel
theorem dX2_bestWord_22 : decode cX2_bestWord 22 = .ok (.aload_n 0, 1) := by decide +kernel
theorem dX2_bestWord_23 : decode cX2_bestWord 23 = .ok (.getfield 18, 3) := by decide +kernel
theorem dX2_bestWord_26 : decode cX2_bestWord 26 = .ok (.iconst 0, 1) := by decide +kernel
theorem dX2_bestWord_27 : decode cX2_bestWord 27 = .ok (.iconst 0, 1) := by decide +kernel
theorem dX2_bestWord_28 : decode cX2_bestWord 28 = .ok (.iastore, 1) := by decide +kernel
theorem dX2_bestWord_29 : decode cX2_bestWord 29 = .ok (.iconst 0, 1) := by decide +kernel
theorem dX2_bestWord_30 : decode cX2_bestWord 30 = .ok (.istore_n 2, 1) := by decide +kernel
theorem dX2_bestWord_31 : decode cX2_bestWord 31 = .ok (.iload_n 2, 1) := by decide +kernel
theorem dX2_bestWord_32 : decode cX2_bestWord 32 = .ok (.bipush 11, 2) := by decide +kernel
theorem dX2_bestWord_34 : decode cX2_bestWord 34 = .ok (.if_icmp .ge 59, 3) := by decide +kernel
theorem dX2_bestWord_37 : decode cX2_bestWord 37 = .ok (.iconst 0, 1) := by decide +kernel
theorem dX2_bestWord_38 : decode cX2_bestWord 38 = .ok (.istore_n 3, 1) := by decide +kernel
theorem dX2_bestWord_39 : decode cX2_bestWord 39 = .ok (.iload_n 3, 1) := by decide +kernel
theorem dX2_bestWord_40 : decode cX2_bestWord 40 = .ok (.iconst 4, 1) := by decide +kernel
theorem dX2_bestWord_41 : decode cX2_bestWord 41 = .ok (.if_icmp .ge 18, 3) := by decide +kernel
theorem dX2_bestWord_44 : decode cX2_bestWord 44 = .ok (.aload_n 0, 1) := by decide +kernel
theorem dX2_bestWord_45 : decode cX2_bestWord 45 = .ok (.iload_n 3, 1) := by decide +kernel
theorem dX2_bestWord_46 : decode cX2_bestWord 46 = .ok (.bipush 8, 2) := by decide +kernel
theorem dX2_bestWord_48 : decode cX2_bestWord 48 = .ok (.iload_n 2, 1) := by decide +kernel
theorem dX2_bestWord_49 : decode cX2_bestWord 49 = .ok (.imul, 1) := by decide +kernel
theorem dX2_bestWord_50 : decode cX2_bestWord 50 = .ok (.invokevirtual 45, 3) := by decide +kernel
theorem dX2_bestWord_53 : decode cX2_bestWord 53 = .ok (.iinc 3 1, 3) := by decide +kernel
theorem dX2_bestWord_56 : decode cX2_bestWord 56 = .ok (.goto (-17), 3) := by decide +kernel
theorem dX2_bestWord_59 : decode cX2_bestWord 59 = .ok (.aload_n 0, 1) := by decide +kernel
theorem dX2_bestWord_60 : decode cX2_bestWord 60 = .ok (.getfield 24, 3) := by decide +kernel
theorem dX2_bestWord_63 : decode cX2_bestWord 63 = .ok (.iconst 0, 1) := by decide +kernel
theorem dX2_bestWord_64 : decode cX2_bestWord 64 = .ok (.aload_n 0, 1) := by decide +kernel
theorem dX2_bestWord_65 : decode cX2_bestWord 65 = .ok (.getfield 18, 3) := by decide +kernel
theorem dX2_bestWord_68 : decode cX2_bestWord 68 = .ok (.iconst 0, 1) := by decide +kernel
theorem dX2_bestWord_69 : decode cX2_bestWord 69 = .ok (.iconst 4, 1) := by decide +kernel
theorem dX2_bestWord_70 : decode cX2_bestWord 70 = .ok (.invokestatic 49, 3) := by decide +kernel
theorem dX2_bestWord_73 : decode cX2_bestWord 73 = .ok (.aload_n 0, 1) := by decide +kernel
theorem dX2_bestWord_74 : decode cX2_bestWord 74 = .ok (.getfield 27, 3) := by decide +kernel
theorem dX2_bestWord_77 : decode cX2_bestWord 77 = .ok (.iconst 0, 1) := by decide +kernel
theorem dX2_bestWord_78 : decode cX2_bestWord 78 = .ok (.aload_n 0, 1) := by decide +kernel
theorem dX2_bestWord_79 : decode cX2_bestWord 79 = .ok (.getfield 21, 3) := by decide +kernel
theorem dX2_bestWord_82 : decode cX2_bestWord 82 = .ok (.iconst 0, 1) := by decide +kernel
theorem dX2_bestWord_83 : decode cX2_bestWord 83 = .ok (.iconst 4, 1) := by decide +kernel
theorem dX2_bestWord_84 : decode cX2_bestWord 84 = .ok (.invokestatic 49, 3) := by decide +kernel
theorem dX2_bestWord_87 : decode cX2_bestWord 87 = .ok (.iinc 2 1, 3) := by decide +kernel
theorem dX2_bestWord_90 : decode cX2_bestWord 90 = .ok (.goto (-59), 3) := by decide +kernel
theorem dX2_bestWord_93 : decode cX2_bestWord 93 = .ok (.iconst 0, 1) := by decide +kernel
theorem dX2_bestWord_94 : decode cX2_bestWord 94 = .ok (.istore_n 2, 1) := by decide +kernel
theorem dX2_bestWord_95 : decode cX2_bestWord 95 = .ok (.ldc 38, 2) := by decide +kernel
theorem dX2_bestWord_97 : decode cX2_bestWord 97 = .ok (.istore_n 3, 1) := by decide +kernel
theorem dX2_bestWord_98 : decode cX2_bestWord 98 = .ok (.iconst 0, 1) := by decide +kernel
theorem dX2_bestWord_99 : decode cX2_bestWord 99 = .ok (.istore 4, 2) := by decide +kernel
theorem dX2_bestWord_101 : decode cX2_bestWord 101 = .ok (.iload 4, 2) := by decide +kernel
theorem dX2_bestWord_103 : decode cX2_bestWord 103 = .ok (.iconst 4, 1) := by decide +kernel
theorem dX2_bestWord_104 : decode cX2_bestWord 104 = .ok (.if_icmp .ge 59, 3) := by decide +kernel
theorem dX2_bestWord_107 : decode cX2_bestWord 107 = .ok (.aload_n 0, 1) := by decide +kernel
theorem dX2_bestWord_108 : decode cX2_bestWord 108 = .ok (.getfield 18, 3) := by decide +kernel
theorem dX2_bestWord_111 : decode cX2_bestWord 111 = .ok (.iload 4, 2) := by decide +kernel
theorem dX2_bestWord_113 : decode cX2_bestWord 113 = .ok (.iaload, 1) := by decide +kernel
theorem dX2_bestWord_114 : decode cX2_bestWord 114 = .ok (.aload_n 0, 1) := by decide +kernel
theorem dX2_bestWord_115 : decode cX2_bestWord 115 = .ok (.iload 4, 2) := by decide +kernel
theorem dX2_bestWord_117 : decode cX2_bestWord 117 = .ok (.invokevirtual 34, 3) := by decide +kernel
theorem dX2_bestWord_120 : decode cX2_bestWord 120 = .ok (.iadd, 1) := by decide +kernel
theorem dX2_bestWord_121 : decode cX2_bestWord 121 = .ok (.istore 5, 2) := by decide +kernel
theorem dX2_bestWord_123 : decode cX2_bestWord 123 = .ok (.iload 5, 2) := by decide +kernel
theorem dX2_bestWord_125 : decode cX2_bestWord 125 = .ok (.iload_n 3, 1) := by decide +kernel
theorem dX2_bestWord_126 : decode cX2_bestWord 126 = .ok (.if_icmp .gt 20, 3) := by decide +kernel
theorem dX2_bestWord_129 : decode cX2_bestWord 129 = .ok (.iload 5, 2) := by decide +kernel
theorem dX2_bestWord_131 : decode cX2_bestWord 131 = .ok (.iload_n 3, 1) := by decide +kernel
theorem dX2_bestWord_132 : decode cX2_bestWord 132 = .ok (.if_icmp .ne 25, 3) := by decide +kernel
theorem dX2_bestWord_135 : decode cX2_bestWord 135 = .ok (.aload_n 0, 1) := by decide +kernel
theorem dX2_bestWord_136 : decode cX2_bestWord 136 = .ok (.getfield 21, 3) := by decide +kernel
theorem dX2_bestWord_139 : decode cX2_bestWord 139 = .ok (.iload 4, 2) := by decide +kernel
theorem dX2_bestWord_141 : decode cX2_bestWord 141 = .ok (.iaload, 1) := by decide +kernel
theorem dX2_bestWord_142 : decode cX2_bestWord 142 = .ok (.iload_n 2, 1) := by decide +kernel
theorem dX2_bestWord_143 : decode cX2_bestWord 143 = .ok (.if_icmp .ge 14, 3) := by decide +kernel
theorem dX2_bestWord_146 : decode cX2_bestWord 146 = .ok (.iload 5, 2) := by decide +kernel
theorem dX2_bestWord_148 : decode cX2_bestWord 148 = .ok (.istore_n 3, 1) := by decide +kernel
theorem dX2_bestWord_149 : decode cX2_bestWord 149 = .ok (.aload_n 0, 1) := by decide +kernel
theorem dX2_bestWord_150 : decode cX2_bestWord 150 = .ok (.getfield 21, 3) := by decide +kernel
theorem dX2_bestWord_153 : decode cX2_bestWord 153 = .ok (.iload 4, 2) := by decide +kernel
theorem dX2_bestWord_155 : decode cX2_bestWord 155 = .ok (.iaload, 1) := by decide +kernel
theorem dX2_bestWord_156 : decode cX2_bestWord 156 = .ok (.istore_n 2, 1) := by decide +kernel
theorem dX2_bestWord_157 : decode cX2_bestWord 157 = .ok (.iinc 4 1, 3) := by decide +kernel
theorem dX2_bestWord_160 : decode cX2_bestWord 160 = .ok (.goto (-59), 3) := by decide +kernel
theorem dX2_bestWord_163 : decode cX2_bestWord 163 = .ok (.iload_n 2, 1) := by decide +kernel
theorem dX2_bestWord_164 : decode cX2_bestWord 164 = .ok (.ireturn, 1) := by decide +kernel
theorem dX2_extend_0 : decode cX2_extend 0 = .ok (.iload_n 1, 1) := by decide +kernel
theorem dX2_extend_1 : decode cX2_extend 1 = .ok (.iconst 1, 1) := by decide +kernel
theorem dX2_extend_2 : decode cX2_extend 2 = .ok (.ishr, 1) := by decide +kernel
theorem dX2_extend_3 : decode cX2_extend 3 = .ok (.istore_n 3, 1) := by decide +kernel
theorem dX2_extend_4 : decode cX2_extend 4 = .ok (.iload_n 3, 1) := by decide +kernel
theorem dX2_extend_5 : decode cX2_extend 5 = .ok (.iconst 2, 1) := by decide +kernel
theorem dX2_extend_6 : decode cX2_extend 6 = .ok (.iadd, 1) := by decide +kernel
theorem dX2_extend_7 : decode cX2_extend 7 = .ok (.istore 4, 2) := by decide +kernel
theorem dX2_extend_9 : decode cX2_extend 9 = .ok (.aload_n 0, 1) := by decide +kernel
theorem dX2_extend_10 : decode cX2_extend 10 = .ok (.getfield 18, 3) := by decide +kernel
theorem dX2_extend_13 : decode cX2_extend 13 = .ok (.iload_n 3, 1) := by decide +kernel
theorem dX2_extend_14 : decode cX2_extend 14 = .ok (.iaload, 1) := by decide +kernel
theorem dX2_extend_15 : decode cX2_extend 15 = .ok (.aload_n 0, 1) := by decide +kernel
theorem dX2_extend_16 : decode cX2_extend 16 = .ok (.getfield 9, 3) := by decide +kernel
theorem dX2_extend_19 : decode cX2_extend 19 = .ok (.iload_n 2, 1) := by decide +kernel
theorem dX2_extend_20 : decode cX2_extend 20 = .ok (.iload_n 1, 1) := by decide +kernel
theorem dX2_extend_21 : decode cX2_extend 21 = .ok (.iadd, 1) := by decide +kernel
theorem dX2_extend_22 : decode cX2_extend 22 = .ok (.iaload, 1) := by decide +kernel
theorem dX2_extend_23 : decode cX2_extend 23 = .ok (.iadd, 1) := by decide +kernel
theorem dX2_extend_24 : decode cX2_extend 24 = .ok (.istore 5, 2) := by decide +kernel
theorem dX2_extend_26 : decode cX2_extend 26 = .ok (.aload_n 0, 1) := by decide +kernel
theorem dX2_extend_27 : decode cX2_extend 27 = .ok (.getfield 18, 3) := by decide +kernel
theorem dX2_extend_30 : decode cX2_extend 30 = .ok (.iload 4, 2) := by decide +kernel
theorem dX2_extend_32 : decode cX2_extend 32 = .ok (.iaload, 1) := by decide +kernel
theorem dX2_extend_33 : decode cX2_extend 33 = .ok (.aload_n 0, 1) := by decide +kernel
theorem dX2_extend_34 : decode cX2_extend 34 = .ok (.getfield 9, 3) := by decide +kernel
theorem dX2_extend_37 : decode cX2_extend 37 = .ok (.iload_n 2, 1) := by decide +kernel
theorem dX2_extend_38 : decode cX2_extend 38 = .ok (.iload_n 1, 1) := by decide +kernel
theorem dX2_extend_39 : decode cX2_extend 39 = .ok (.iadd, 1) := by decide +kernel
theorem dX2_extend_40 : decode cX2_extend 40 = .ok (.iconst 4, 1) := by decide +kernel
theorem dX2_extend_41 : decode cX2_extend 41 = .ok (.iadd, 1) := by decide +kernel
theorem dX2_extend_42 : decode cX2_extend 42 = .ok (.iaload, 1) := by decide +kernel
theorem dX2_extend_43 : decode cX2_extend 43 = .ok (.iadd, 1) := by decide +kernel
theorem dX2_extend_44 : decode cX2_extend 44 = .ok (.istore 6, 2) := by decide +kernel
theorem dX2_extend_46 : decode cX2_extend 46 = .ok (.iload 5, 2) := by decide +kernel
theorem dX2_extend_48 : decode cX2_extend 48 = .ok (.iload 6, 2) := by decide +kernel
theorem dX2_extend_50 : decode cX2_extend 50 = .ok (.if_icmp .gt 26, 3) := by decide +kernel
theorem dX2_extend_53 : decode cX2_extend 53 = .ok (.iload 5, 2) := by decide +kernel
theorem dX2_extend_55 : decode cX2_extend 55 = .ok (.iload 6, 2) := by decide +kernel
theorem dX2_extend_57 : decode cX2_extend 57 = .ok (.if_icmp .ne 23, 3) := by decide +kernel
theorem dX2_extend_60 : decode cX2_extend 60 = .ok (.aload_n 0, 1) := by decide +kernel
theorem dX2_extend_61 : decode cX2_extend 61 = .ok (.getfield 21, 3) := by decide +kernel
theorem dX2_extend_64 : decode cX2_extend 64 = .ok (.iload_n 3, 1) := by decide +kernel
theorem dX2_extend_65 : decode cX2_extend 65 = .ok (.iaload, 1) := by decide +kernel
theorem dX2_extend_66 : decode cX2_extend 66 = .ok (.aload_n 0, 1) := by decide +kernel
theorem dX2_extend_67 : decode cX2_extend 67 = .ok (.getfield 21, 3) := by decide +kernel
theorem dX2_extend_70 : decode cX2_extend 70 = .ok (.iload 4, 2) := by decide +kernel
theorem dX2_extend_72 : decode cX2_extend 72 = .ok (.iaload, 1) := by decide +kernel
theorem dX2_extend_73 : decode cX2_extend 73 = .ok (.if_icmp .ge 7, 3) := by decide +kernel
theorem dX2_extend_76 : decode cX2_extend 76 = .ok (.iconst 1, 1) := by decide +kernel
theorem dX2_extend_77 : decode cX2_extend 77 = .ok (.goto 4, 3) := by decide +kernel
theorem dX2_extend_80 : decode cX2_extend 80 = .ok (.iconst 0, 1) := by decide +kernel
theorem dX2_extend_81 : decode cX2_extend 81 = .ok (.istore 7, 2) := by decide +kernel
theorem dX2_extend_83 : decode cX2_extend 83 = .ok (.aload_n 0, 1) := by decide +kernel
theorem dX2_extend_84 : decode cX2_extend 84 = .ok (.getfield 24, 3) := by decide +kernel
theorem dX2_extend_87 : decode cX2_extend 87 = .ok (.iload_n 1, 1) := by decide +kernel
theorem dX2_extend_88 : decode cX2_extend 88 = .ok (.iload 7, 2) := by decide +kernel
theorem dX2_extend_90 : decode cX2_extend 90 = .ok (.ifCond .eq 8, 3) := by decide +kernel
theorem dX2_extend_93 : decode cX2_extend 93 = .ok (.iload 5, 2) := by decide +kernel
theorem dX2_extend_95 : decode cX2_extend 95 = .ok (.goto 5, 3) := by decide +kernel
theorem dX2_extend_98 : decode cX2_extend 98 = .ok (.iload 6, 2) := by decide +kernel
theorem dX2_extend_100 : decode cX2_extend 100 = .ok (.iastore, 1) := by decide +kernel
theorem dX2_extend_101 : decode cX2_extend 101 = .ok (.aload_n 0, 1) := by decide +kernel
theorem dX2_extend_102 : decode cX2_extend 102 = .ok (.getfield 27, 3) := by decide +kernel
theorem dX2_extend_105 : decode cX2_extend 105 = .ok (.iload_n 1, 1) := by decide +kernel
theorem dX2_extend_106 : decode cX2_extend 106 = .ok (.iload 7, 2) := by decide +kernel
theorem dX2_extend_108 : decode cX2_extend 108 = .ok (.ifCond .eq 12, 3) := by decide +kernel
theorem dX2_extend_111 : decode cX2_extend 111 = .ok (.aload_n 0, 1) := by decide +kernel
theorem dX2_extend_112 : decode cX2_extend 112 = .ok (.getfield 21, 3) := by decide +kernel
theorem dX2_extend_115 : decode cX2_extend 115 = .ok (.iload_n 3, 1) := by decide +kernel
theorem dX2_extend_116 : decode cX2_extend 116 = .ok (.iaload, 1) := by decide +kernel
theorem dX2_extend_117 : decode cX2_extend 117 = .ok (.goto 10, 3) := by decide +kernel
theorem dX2_extend_120 : decode cX2_extend 120 = .ok (.aload_n 0, 1) := by decide +kernel
theorem dX2_extend_121 : decode cX2_extend 121 = .ok (.getfield 21, 3) := by decide +kernel
theorem dX2_extend_124 : decode cX2_extend 124 = .ok (.iload 4, 2) := by decide +kernel
theorem dX2_extend_126 : decode cX2_extend 126 = .ok (.iaload, 1) := by decide +kernel
theorem dX2_extend_127 : decode cX2_extend 127 = .ok (.iconst 1, 1) := by decide +kernel
theorem dX2_extend_128 : decode cX2_extend 128 = .ok (.ishl, 1) := by decide +kernel
theorem dX2_extend_129 : decode cX2_extend 129 = .ok (.iload_n 1, 1) := by decide +kernel
theorem dX2_extend_130 : decode cX2_extend 130 = .ok (.iconst 1, 1) := by decide +kernel
theorem dX2_extend_131 : decode cX2_extend 131 = .ok (.iand, 1) := by decide +kernel
theorem dX2_extend_132 : decode cX2_extend 132 = .ok (.ior, 1) := by decide +kernel
theorem dX2_extend_133 : decode cX2_extend 133 = .ok (.iastore, 1) := by decide +kernel
theorem dX2_extend_134 : decode cX2_extend 134 = .ok (.return_, 1) := by decide +kernel
theorem dX2_greatestBut_0 : decode cX2_greatestBut 0 = .ok (.iload_n 1, 1) := by decide +kernel
theorem dX2_greatestBut_1 : decode cX2_greatestBut 1 = .ok (.ifCond .ne 7, 3) := by decide +kernel
theorem dX2_greatestBut_4 : decode cX2_greatestBut 4 = .ok (.iconst 1, 1) := by decide +kernel
theorem dX2_greatestBut_5 : decode cX2_greatestBut 5 = .ok (.goto 4, 3) := by decide +kernel
theorem dX2_greatestBut_8 : decode cX2_greatestBut 8 = .ok (.iconst 0, 1) := by decide +kernel
theorem dX2_greatestBut_9 : decode cX2_greatestBut 9 = .ok (.istore_n 2, 1) := by decide +kernel
theorem dX2_greatestBut_10 : decode cX2_greatestBut 10 = .ok (.iload_n 2, 1) := by decide +kernel
theorem dX2_greatestBut_11 : decode cX2_greatestBut 11 = .ok (.iconst 1, 1) := by decide +kernel
theorem dX2_greatestBut_12 : decode cX2_greatestBut 12 = .ok (.iadd, 1) := by decide +kernel
theorem dX2_greatestBut_13 : decode cX2_greatestBut 13 = .ok (.istore_n 3, 1) := by decide +kernel
theorem dX2_greatestBut_14 : decode cX2_greatestBut 14 = .ok (.iload_n 3, 1) := by decide +kernel
theorem dX2_greatestBut_15 : decode cX2_greatestBut 15 = .ok (.sipush 2048, 3) := by decide +kernel
theorem dX2_greatestBut_18 : decode cX2_greatestBut 18 = .ok (.if_icmp .ge 31, 3) := by decide +kernel
theorem dX2_greatestBut_21 : decode cX2_greatestBut 21 = .ok (.iload_n 3, 1) := by decide +kernel
theorem dX2_greatestBut_22 : decode cX2_greatestBut 22 = .ok (.iload_n 1, 1) := by decide +kernel
theorem dX2_greatestBut_23 : decode cX2_greatestBut 23 = .ok (.if_icmp .eq 20, 3) := by decide +kernel
theorem dX2_greatestBut_26 : decode cX2_greatestBut 26 = .ok (.aload_n 0, 1) := by decide +kernel
theorem dX2_greatestBut_27 : decode cX2_greatestBut 27 = .ok (.getfield 15, 3) := by decide +kernel
theorem dX2_greatestBut_30 : decode cX2_greatestBut 30 = .ok (.iload_n 3, 1) := by decide +kernel
theorem dX2_greatestBut_31 : decode cX2_greatestBut 31 = .ok (.iaload, 1) := by decide +kernel
theorem dX2_greatestBut_32 : decode cX2_greatestBut 32 = .ok (.aload_n 0, 1) := by decide +kernel
theorem dX2_greatestBut_33 : decode cX2_greatestBut 33 = .ok (.getfield 15, 3) := by decide +kernel
theorem dX2_greatestBut_36 : decode cX2_greatestBut 36 = .ok (.iload_n 2, 1) := by decide +kernel
theorem dX2_greatestBut_37 : decode cX2_greatestBut 37 = .ok (.iaload, 1) := by decide +kernel
theorem dX2_greatestBut_38 : decode cX2_greatestBut 38 = .ok (.if_icmp .le 5, 3) := by decide +kernel
theorem dX2_greatestBut_41 : decode cX2_greatestBut 41 = .ok (.iload_n 3, 1) := by decide +kernel
theorem dX2_greatestBut_42 : decode cX2_greatestBut 42 = .ok (.istore_n 2, 1) := by decide +kernel
theorem dX2_greatestBut_43 : decode cX2_greatestBut 43 = .ok (.iinc 3 1, 3) := by decide +kernel
theorem dX2_greatestBut_46 : decode cX2_greatestBut 46 = .ok (.goto (-32), 3) := by decide +kernel
theorem dX2_greatestBut_49 : decode cX2_greatestBut 49 = .ok (.iload_n 2, 1) := by decide +kernel
theorem dX2_greatestBut_50 : decode cX2_greatestBut 50 = .ok (.ireturn, 1) := by decide +kernel
theorem dX2_greatestWith_0 : decode cX2_greatestWith 0 = .ok (.ldc 38, 2) := by decide +kernel
theorem dX2_greatestWith_2 : decode cX2_greatestWith 2 = .ok (.istore_n 3, 1) := by decide +kernel
theorem dX2_greatestWith_3 : decode cX2_greatestWith 3 = .ok (.iconst 0, 1) := by decide +kernel
theorem dX2_greatestWith_4 : decode cX2_greatestWith 4 = .ok (.istore 4, 2) := by decide +kernel
theorem dX2_greatestWith_6 : decode cX2_greatestWith 6 = .ok (.iload 4, 2) := by decide +kernel
theorem dX2_greatestWith_8 : decode cX2_greatestWith 8 = .ok (.sipush 2048, 3) := by decide +kernel
theorem dX2_greatestWith_11 : decode cX2_greatestWith 11 = .ok (.if_icmp .ge 31, 3) := by decide +kernel
theorem dX2_greatestWith_14 : decode cX2_greatestWith 14 = .ok (.iload 4, 2) := by decide +kernel
theorem dX2_greatestWith_16 : decode cX2_greatestWith 16 = .ok (.iload_n 1, 1) := by decide +kernel
theorem dX2_greatestWith_17 : decode cX2_greatestWith 17 = .ok (.ishr, 1) := by decide +kernel
theorem dX2_greatestWith_18 : decode cX2_greatestWith 18 = .ok (.iconst 1, 1) := by decide +kernel
theorem dX2_greatestWith_19 : decode cX2_greatestWith 19 = .ok (.iand, 1) := by decide +kernel
theorem dX2_greatestWith_20 : decode cX2_greatestWith 20 = .ok (.iload_n 2, 1) := by decide +kernel
theorem dX2_greatestWith_21 : decode cX2_greatestWith 21 = .ok (.if_icmp .ne 15, 3) := by decide +kernel
theorem dX2_greatestWith_24 : decode cX2_greatestWith 24 = .ok (.iload_n 3, 1) := by decide +kernel
theorem dX2_greatestWith_25 : decode cX2_greatestWith 25 = .ok (.aload_n 0, 1) := by decide +kernel
theorem dX2_greatestWith_26 : decode cX2_greatestWith 26 = .ok (.getfield 15, 3) := by decide +kernel
theorem dX2_greatestWith_29 : decode cX2_greatestWith 29 = .ok (.iload 4, 2) := by decide +kernel
theorem dX2_greatestWith_31 : decode cX2_greatestWith 31 = .ok (.iaload, 1) := by decide +kernel
theorem dX2_greatestWith_32 : decode cX2_greatestWith 32 = .ok (.invokestatic 55, 3) := by decide +kernel
theorem dX2_greatestWith_35 : decode cX2_greatestWith 35 = .ok (.istore_n 3, 1) := by decide +kernel
theorem dX2_greatestWith_36 : decode cX2_greatestWith 36 = .ok (.iinc 4 1, 3) := by decide +kernel
theorem dX2_greatestWith_39 : decode cX2_greatestWith 39 = .ok (.goto (-33), 3) := by decide +kernel
theorem dX2_greatestWith_42 : decode cX2_greatestWith 42 = .ok (.iload_n 3, 1) := by decide +kernel
theorem dX2_greatestWith_43 : decode cX2_greatestWith 43 = .ok (.ireturn, 1) := by decide +kernel
theorem dX3_init_0 : decode cX3_init 0 = .ok (.aload_n 0, 1) := by decide +kernel
theorem dX3_init_1 : decode cX3_init 1 = .ok (.invokespecial 3, 3) := by decide +kernel
theorem dX3_init_4 : decode cX3_init 4 = .ok (.aload_n 0, 1) := by decide +kernel
theorem dX3_init_5 : decode cX3_init 5 = .ok (.iconst (-1), 1) := by decide +kernel
theorem dX3_init_6 : decode cX3_init 6 = .ok (.putfield 9, 3) := by decide +kernel
theorem dX3_init_9 : decode cX3_init 9 = .ok (.aload_n 0, 1) := by decide +kernel
theorem dX3_init_10 : decode cX3_init 10 = .ok (.bipush 39, 2) := by decide +kernel
theorem dX3_init_12 : decode cX3_init 12 = .ok (.newarray .int, 2) := by decide +kernel
theorem dX3_init_14 : decode cX3_init 14 = .ok (.putfield 15, 3) := by decide +kernel
theorem dX3_init_17 : decode cX3_init 17 = .ok (.return_, 1) := by decide +kernel
theorem dX3_begin_0 : decode cX3_begin 0 = .ok (.aload_n 0, 1) := by decide +kernel
theorem dX3_begin_1 : decode cX3_begin 1 = .ok (.iload_n 1, 1) := by decide +kernel
theorem dX3_begin_2 : decode cX3_begin 2 = .ok (.putfield 9, 3) := by decide +kernel
theorem dX3_begin_5 : decode cX3_begin 5 = .ok (.aload_n 0, 1) := by decide +kernel
theorem dX3_begin_6 : decode cX3_begin 6 = .ok (.iconst 0, 1) := by decide +kernel
theorem dX3_begin_7 : decode cX3_begin 7 = .ok (.putfield 19, 3) := by decide +kernel
theorem dX3_begin_10 : decode cX3_begin 10 = .ok (.aload_n 0, 1) := by decide +kernel
theorem dX3_begin_11 : decode cX3_begin 11 = .ok (.iconst 0, 1) := by decide +kernel
theorem dX3_begin_12 : decode cX3_begin 12 = .ok (.putfield 22, 3) := by decide +kernel
theorem dX3_begin_15 : decode cX3_begin 15 = .ok (.aload_n 0, 1) := by decide +kernel
theorem dX3_begin_16 : decode cX3_begin 16 = .ok (.getfield 15, 3) := by decide +kernel
theorem dX3_begin_19 : decode cX3_begin 19 = .ok (.iconst 0, 1) := by decide +kernel
theorem dX3_begin_20 : decode cX3_begin 20 = .ok (.invokestatic 26, 3) := by decide +kernel
theorem dX3_begin_23 : decode cX3_begin 23 = .ok (.return_, 1) := by decide +kernel
theorem dX3_copyFrom_0 : decode cX3_copyFrom 0 = .ok (.aload_n 0, 1) := by decide +kernel
theorem dX3_copyFrom_1 : decode cX3_copyFrom 1 = .ok (.aload_n 1, 1) := by decide +kernel
theorem dX3_copyFrom_2 : decode cX3_copyFrom 2 = .ok (.getfield 9, 3) := by decide +kernel
theorem dX3_copyFrom_5 : decode cX3_copyFrom 5 = .ok (.putfield 9, 3) := by decide +kernel
theorem dX3_copyFrom_8 : decode cX3_copyFrom 8 = .ok (.aload_n 0, 1) := by decide +kernel
theorem dX3_copyFrom_9 : decode cX3_copyFrom 9 = .ok (.aload_n 1, 1) := by decide +kernel
theorem dX3_copyFrom_10 : decode cX3_copyFrom 10 = .ok (.getfield 19, 3) := by decide +kernel
theorem dX3_copyFrom_13 : decode cX3_copyFrom 13 = .ok (.putfield 19, 3) := by decide +kernel
theorem dX3_copyFrom_16 : decode cX3_copyFrom 16 = .ok (.aload_n 0, 1) := by decide +kernel
theorem dX3_copyFrom_17 : decode cX3_copyFrom 17 = .ok (.aload_n 1, 1) := by decide +kernel
theorem dX3_copyFrom_18 : decode cX3_copyFrom 18 = .ok (.getfield 22, 3) := by decide +kernel
theorem dX3_copyFrom_21 : decode cX3_copyFrom 21 = .ok (.putfield 22, 3) := by decide +kernel
theorem dX3_copyFrom_24 : decode cX3_copyFrom 24 = .ok (.aload_n 1, 1) := by decide +kernel
theorem dX3_copyFrom_25 : decode cX3_copyFrom 25 = .ok (.getfield 15, 3) := by decide +kernel
theorem dX3_copyFrom_28 : decode cX3_copyFrom 28 = .ok (.iconst 0, 1) := by decide +kernel
theorem dX3_copyFrom_29 : decode cX3_copyFrom 29 = .ok (.aload_n 0, 1) := by decide +kernel
theorem dX3_copyFrom_30 : decode cX3_copyFrom 30 = .ok (.getfield 15, 3) := by decide +kernel
theorem dX3_copyFrom_33 : decode cX3_copyFrom 33 = .ok (.iconst 0, 1) := by decide +kernel
theorem dX3_copyFrom_34 : decode cX3_copyFrom 34 = .ok (.bipush 39, 2) := by decide +kernel
theorem dX3_copyFrom_36 : decode cX3_copyFrom 36 = .ok (.invokestatic 32, 3) := by decide +kernel
theorem dX3_copyFrom_39 : decode cX3_copyFrom 39 = .ok (.return_, 1) := by decide +kernel
theorem dX4_init_0 : decode cX4_init 0 = .ok (.aload_n 0, 1) := by decide +kernel
theorem dX4_init_1 : decode cX4_init 1 = .ok (.invokespecial 3, 3) := by decide +kernel
theorem dX4_init_4 : decode cX4_init 4 = .ok (.aload_n 0, 1) := by decide +kernel
theorem dX4_init_5 : decode cX4_init 5 = .ok (.iconst 4, 1) := by decide +kernel
theorem dX4_init_6 : decode cX4_init 6 = .ok (.putfield 9, 3) := by decide +kernel
theorem dX4_init_9 : decode cX4_init 9 = .ok (.aload_n 0, 1) := by decide +kernel
theorem dX4_init_10 : decode cX4_init 10 = .ok (.iconst 4, 1) := by decide +kernel
theorem dX4_init_11 : decode cX4_init 11 = .ok (.putfield 15, 3) := by decide +kernel
theorem dX4_init_14 : decode cX4_init 14 = .ok (.aload_n 0, 1) := by decide +kernel
theorem dX4_init_15 : decode cX4_init 15 = .ok (.bipush 12, 2) := by decide +kernel
theorem dX4_init_17 : decode cX4_init 17 = .ok (.putfield 18, 3) := by decide +kernel
theorem dX4_init_20 : decode cX4_init 20 = .ok (.aload_n 0, 1) := by decide +kernel
theorem dX4_init_21 : decode cX4_init 21 = .ok (.iconst 4, 1) := by decide +kernel
theorem dX4_init_22 : decode cX4_init 22 = .ok (.putfield 21, 3) := by decide +kernel
theorem dX4_init_25 : decode cX4_init 25 = .ok (.aload_n 0, 1) := by decide +kernel
theorem dX4_init_26 : decode cX4_init 26 = .ok (.bipush 48, 2) := by decide +kernel
theorem dX4_init_28 : decode cX4_init 28 = .ok (.putfield 24, 3) := by decide +kernel
theorem dX4_init_31 : decode cX4_init 31 = .ok (.aload_n 0, 1) := by decide +kernel
theorem dX4_init_32 : decode cX4_init 32 = .ok (.sipush 500, 3) := by decide +kernel
theorem dX4_init_35 : decode cX4_init 35 = .ok (.putfield 27, 3) := by decide +kernel
theorem dX4_init_38 : decode cX4_init 38 = .ok (.aload_n 0, 1) := by decide +kernel
theorem dX4_init_39 : decode cX4_init 39 = .ok (.bipush 20, 2) := by decide +kernel
theorem dX4_init_41 : decode cX4_init 41 = .ok (.putfield 30, 3) := by decide +kernel
theorem dX4_init_44 : decode cX4_init 44 = .ok (.aload_n 0, 1) := by decide +kernel
theorem dX4_init_45 : decode cX4_init 45 = .ok (.new 33, 3) := by decide +kernel
theorem dX4_init_48 : decode cX4_init 48 = .ok (.dup, 1) := by decide +kernel
theorem dX4_init_49 : decode cX4_init 49 = .ok (.invokespecial 35, 3) := by decide +kernel
theorem dX4_init_52 : decode cX4_init 52 = .ok (.putfield 36, 3) := by decide +kernel
theorem dX4_init_55 : decode cX4_init 55 = .ok (.aload_n 0, 1) := by decide +kernel
theorem dX4_init_56 : decode cX4_init 56 = .ok (.new 40, 3) := by decide +kernel
theorem dX4_init_59 : decode cX4_init 59 = .ok (.dup, 1) := by decide +kernel
theorem dX4_init_60 : decode cX4_init 60 = .ok (.invokespecial 42, 3) := by decide +kernel
theorem dX4_init_63 : decode cX4_init 63 = .ok (.putfield 43, 3) := by decide +kernel
theorem dX4_init_66 : decode cX4_init 66 = .ok (.return_, 1) := by decide +kernel
theorem dX4_begin_0 : decode cX4_begin 0 = .ok (.aload_n 0, 1) := by decide +kernel
theorem dX4_begin_1 : decode cX4_begin 1 = .ok (.sipush 500, 3) := by decide +kernel
theorem dX4_begin_4 : decode cX4_begin 4 = .ok (.putfield 27, 3) := by decide +kernel
theorem dX4_begin_7 : decode cX4_begin 7 = .ok (.aload_n 0, 1) := by decide +kernel
theorem dX4_begin_8 : decode cX4_begin 8 = .ok (.bipush 20, 2) := by decide +kernel
theorem dX4_begin_10 : decode cX4_begin 10 = .ok (.putfield 30, 3) := by decide +kernel
theorem dX4_begin_13 : decode cX4_begin 13 = .ok (.aload_n 0, 1) := by decide +kernel
theorem dX4_begin_14 : decode cX4_begin 14 = .ok (.getfield 36, 3) := by decide +kernel
theorem dX4_begin_17 : decode cX4_begin 17 = .ok (.invokevirtual 47, 3) := by decide +kernel
theorem dX4_begin_20 : decode cX4_begin 20 = .ok (.aload_n 0, 1) := by decide +kernel
theorem dX4_begin_21 : decode cX4_begin 21 = .ok (.getfield 43, 3) := by decide +kernel
theorem dX4_begin_24 : decode cX4_begin 24 = .ok (.invokevirtual 50, 3) := by decide +kernel
theorem dX4_begin_27 : decode cX4_begin 27 = .ok (.return_, 1) := by decide +kernel
theorem dX4_copyFrom_0 : decode cX4_copyFrom 0 = .ok (.aload_n 0, 1) := by decide +kernel
theorem dX4_copyFrom_1 : decode cX4_copyFrom 1 = .ok (.aload_n 1, 1) := by decide +kernel
theorem dX4_copyFrom_2 : decode cX4_copyFrom 2 = .ok (.getfield 9, 3) := by decide +kernel
theorem dX4_copyFrom_5 : decode cX4_copyFrom 5 = .ok (.putfield 9, 3) := by decide +kernel
theorem dX4_copyFrom_8 : decode cX4_copyFrom 8 = .ok (.aload_n 0, 1) := by decide +kernel
theorem dX4_copyFrom_9 : decode cX4_copyFrom 9 = .ok (.aload_n 1, 1) := by decide +kernel
theorem dX4_copyFrom_10 : decode cX4_copyFrom 10 = .ok (.getfield 15, 3) := by decide +kernel
theorem dX4_copyFrom_13 : decode cX4_copyFrom 13 = .ok (.putfield 15, 3) := by decide +kernel
theorem dX4_copyFrom_16 : decode cX4_copyFrom 16 = .ok (.aload_n 0, 1) := by decide +kernel
theorem dX4_copyFrom_17 : decode cX4_copyFrom 17 = .ok (.aload_n 1, 1) := by decide +kernel
theorem dX4_copyFrom_18 : decode cX4_copyFrom 18 = .ok (.getfield 18, 3) := by decide +kernel
theorem dX4_copyFrom_21 : decode cX4_copyFrom 21 = .ok (.putfield 18, 3) := by decide +kernel
theorem dX4_copyFrom_24 : decode cX4_copyFrom 24 = .ok (.aload_n 0, 1) := by decide +kernel
theorem dX4_copyFrom_25 : decode cX4_copyFrom 25 = .ok (.aload_n 1, 1) := by decide +kernel
theorem dX4_copyFrom_26 : decode cX4_copyFrom 26 = .ok (.getfield 21, 3) := by decide +kernel
theorem dX4_copyFrom_29 : decode cX4_copyFrom 29 = .ok (.putfield 21, 3) := by decide +kernel
theorem dX4_copyFrom_32 : decode cX4_copyFrom 32 = .ok (.aload_n 0, 1) := by decide +kernel
theorem dX4_copyFrom_33 : decode cX4_copyFrom 33 = .ok (.aload_n 1, 1) := by decide +kernel
theorem dX4_copyFrom_34 : decode cX4_copyFrom 34 = .ok (.getfield 24, 3) := by decide +kernel
theorem dX4_copyFrom_37 : decode cX4_copyFrom 37 = .ok (.putfield 24, 3) := by decide +kernel
theorem dX4_copyFrom_40 : decode cX4_copyFrom 40 = .ok (.aload_n 0, 1) := by decide +kernel
theorem dX4_copyFrom_41 : decode cX4_copyFrom 41 = .ok (.aload_n 1, 1) := by decide +kernel
theorem dX4_copyFrom_42 : decode cX4_copyFrom 42 = .ok (.getfield 27, 3) := by decide +kernel
theorem dX4_copyFrom_45 : decode cX4_copyFrom 45 = .ok (.putfield 27, 3) := by decide +kernel
theorem dX4_copyFrom_48 : decode cX4_copyFrom 48 = .ok (.aload_n 0, 1) := by decide +kernel
theorem dX4_copyFrom_49 : decode cX4_copyFrom 49 = .ok (.aload_n 1, 1) := by decide +kernel
theorem dX4_copyFrom_50 : decode cX4_copyFrom 50 = .ok (.getfield 30, 3) := by decide +kernel
theorem dX4_copyFrom_53 : decode cX4_copyFrom 53 = .ok (.putfield 30, 3) := by decide +kernel
theorem dX4_copyFrom_56 : decode cX4_copyFrom 56 = .ok (.aload_n 0, 1) := by decide +kernel
theorem dX4_copyFrom_57 : decode cX4_copyFrom 57 = .ok (.getfield 36, 3) := by decide +kernel
theorem dX4_copyFrom_60 : decode cX4_copyFrom 60 = .ok (.aload_n 1, 1) := by decide +kernel
theorem dX4_copyFrom_61 : decode cX4_copyFrom 61 = .ok (.getfield 36, 3) := by decide +kernel
theorem dX4_copyFrom_64 : decode cX4_copyFrom 64 = .ok (.invokevirtual 51, 3) := by decide +kernel
theorem dX4_copyFrom_67 : decode cX4_copyFrom 67 = .ok (.aload_n 0, 1) := by decide +kernel
theorem dX4_copyFrom_68 : decode cX4_copyFrom 68 = .ok (.getfield 43, 3) := by decide +kernel
theorem dX4_copyFrom_71 : decode cX4_copyFrom 71 = .ok (.aload_n 1, 1) := by decide +kernel
theorem dX4_copyFrom_72 : decode cX4_copyFrom 72 = .ok (.getfield 43, 3) := by decide +kernel
theorem dX4_copyFrom_75 : decode cX4_copyFrom 75 = .ok (.invokevirtual 55, 3) := by decide +kernel
theorem dX4_copyFrom_78 : decode cX4_copyFrom 78 = .ok (.return_, 1) := by decide +kernel
theorem dX4_readAnswer_0 : decode cX4_readAnswer 0 = .ok (.aload_n 0, 1) := by decide +kernel
theorem dX4_readAnswer_1 : decode cX4_readAnswer 1 = .ok (.getfield 36, 3) := by decide +kernel
theorem dX4_readAnswer_4 : decode cX4_readAnswer 4 = .ok (.getfield 58, 3) := by decide +kernel
theorem dX4_readAnswer_7 : decode cX4_readAnswer 7 = .ok (.iload_n 1, 1) := by decide +kernel
theorem dX4_readAnswer_8 : decode cX4_readAnswer 8 = .ok (.aaload, 1) := by decide +kernel
theorem dX4_readAnswer_9 : decode cX4_readAnswer 9 = .ok (.astore_n 3, 1) := by decide +kernel
theorem dX4_readAnswer_10 : decode cX4_readAnswer 10 = .ok (.iconst (-1), 1) := by decide +kernel
theorem dX4_readAnswer_11 : decode cX4_readAnswer 11 = .ok (.istore 4, 2) := by decide +kernel
theorem dX4_readAnswer_13 : decode cX4_readAnswer 13 = .ok (.iload_n 2, 1) := by decide +kernel
theorem dX4_readAnswer_14 : decode cX4_readAnswer 14 = .ok (.iconst 2, 1) := by decide +kernel
theorem dX4_readAnswer_15 : decode cX4_readAnswer 15 = .ok (.if_icmp .eq 32, 3) := by decide +kernel
theorem dX4_readAnswer_18 : decode cX4_readAnswer 18 = .ok (.aload_n 3, 1) := by decide +kernel
theorem dX4_readAnswer_19 : decode cX4_readAnswer 19 = .ok (.getfield 62, 3) := by decide +kernel
theorem dX4_readAnswer_22 : decode cX4_readAnswer 22 = .ok (.ifCond .eq 25, 3) := by decide +kernel
theorem dX4_readAnswer_25 : decode cX4_readAnswer 25 = .ok (.aload_n 0, 1) := by decide +kernel
theorem dX4_readAnswer_26 : decode cX4_readAnswer 26 = .ok (.getfield 43, 3) := by decide +kernel
theorem dX4_readAnswer_29 : decode cX4_readAnswer 29 = .ok (.getfield 68, 3) := by decide +kernel
theorem dX4_readAnswer_32 : decode cX4_readAnswer 32 = .ok (.iload_n 1, 1) := by decide +kernel
theorem dX4_readAnswer_33 : decode cX4_readAnswer 33 = .ok (.aaload, 1) := by decide +kernel
theorem dX4_readAnswer_34 : decode cX4_readAnswer 34 = .ok (.getfield 72, 3) := by decide +kernel
theorem dX4_readAnswer_37 : decode cX4_readAnswer 37 = .ok (.ifCond .eq 7, 3) := by decide +kernel
theorem dX4_readAnswer_40 : decode cX4_readAnswer 40 = .ok (.iconst 1, 1) := by decide +kernel
theorem dX4_readAnswer_41 : decode cX4_readAnswer 41 = .ok (.goto 4, 3) := by decide +kernel
theorem dX4_readAnswer_44 : decode cX4_readAnswer 44 = .ok (.iconst 0, 1) := by decide +kernel
theorem dX4_readAnswer_45 : decode cX4_readAnswer 45 = .ok (.istore 4, 2) := by decide +kernel
theorem dX4_readAnswer_47 : decode cX4_readAnswer 47 = .ok (.iload_n 2, 1) := by decide +kernel
theorem dX4_readAnswer_48 : decode cX4_readAnswer 48 = .ok (.iconst 1, 1) := by decide +kernel
theorem dX4_readAnswer_49 : decode cX4_readAnswer 49 = .ok (.if_icmp .ne 16, 3) := by decide +kernel
theorem dX4_readAnswer_52 : decode cX4_readAnswer 52 = .ok (.iload 4, 2) := by decide +kernel
theorem dX4_readAnswer_54 : decode cX4_readAnswer 54 = .ok (.iconst 1, 1) := by decide +kernel
theorem dX4_readAnswer_55 : decode cX4_readAnswer 55 = .ok (.if_icmp .ne 7, 3) := by decide +kernel
theorem dX4_readAnswer_58 : decode cX4_readAnswer 58 = .ok (.iconst 0, 1) := by decide +kernel
theorem dX4_readAnswer_59 : decode cX4_readAnswer 59 = .ok (.goto 4, 3) := by decide +kernel
theorem dX4_readAnswer_62 : decode cX4_readAnswer 62 = .ok (.iconst 1, 1) := by decide +kernel
theorem dX4_readAnswer_63 : decode cX4_readAnswer 63 = .ok (.istore 4, 2) := by decide +kernel
theorem dX4_readAnswer_65 : decode cX4_readAnswer 65 = .ok (.aload_n 3, 1) := by decide +kernel
theorem dX4_readAnswer_66 : decode cX4_readAnswer 66 = .ok (.iconst 0, 1) := by decide +kernel
theorem dX4_readAnswer_67 : decode cX4_readAnswer 67 = .ok (.putfield 77, 3) := by decide +kernel
theorem dX4_readAnswer_70 : decode cX4_readAnswer 70 = .ok (.iload 4, 2) := by decide +kernel
theorem dX4_readAnswer_72 : decode cX4_readAnswer 72 = .ok (.iconst 1, 1) := by decide +kernel
theorem dX4_readAnswer_73 : decode cX4_readAnswer 73 = .ok (.if_icmp .ne 10, 3) := by decide +kernel
theorem dX4_readAnswer_76 : decode cX4_readAnswer 76 = .ok (.aload_n 3, 1) := by decide +kernel
theorem dX4_readAnswer_77 : decode cX4_readAnswer 77 = .ok (.invokevirtual 80, 3) := by decide +kernel
theorem dX4_readAnswer_80 : decode cX4_readAnswer 80 = .ok (.goto 31, 3) := by decide +kernel
theorem dX4_readAnswer_83 : decode cX4_readAnswer 83 = .ok (.aload_n 3, 1) := by decide +kernel
theorem dX4_readAnswer_84 : decode cX4_readAnswer 84 = .ok (.getfield 83, 3) := by decide +kernel
theorem dX4_readAnswer_87 : decode cX4_readAnswer 87 = .ok (.aload_n 0, 1) := by decide +kernel
theorem dX4_readAnswer_88 : decode cX4_readAnswer 88 = .ok (.getfield 21, 3) := by decide +kernel
theorem dX4_readAnswer_91 : decode cX4_readAnswer 91 = .ok (.if_icmp .lt 20, 3) := by decide +kernel
theorem dX4_readAnswer_94 : decode cX4_readAnswer 94 = .ok (.aload_n 3, 1) := by decide +kernel
theorem dX4_readAnswer_95 : decode cX4_readAnswer 95 = .ok (.invokevirtual 80, 3) := by decide +kernel
theorem dX4_readAnswer_98 : decode cX4_readAnswer 98 = .ok (.aload_n 0, 1) := by decide +kernel
theorem dX4_readAnswer_99 : decode cX4_readAnswer 99 = .ok (.getfield 36, 3) := by decide +kernel
theorem dX4_readAnswer_102 : decode cX4_readAnswer 102 = .ok (.dup, 1) := by decide +kernel
theorem dX4_readAnswer_103 : decode cX4_readAnswer 103 = .ok (.getfield 86, 3) := by decide +kernel
theorem dX4_readAnswer_106 : decode cX4_readAnswer 106 = .ok (.iconst 1, 1) := by decide +kernel
theorem dX4_readAnswer_107 : decode cX4_readAnswer 107 = .ok (.iadd, 1) := by decide +kernel
theorem dX4_readAnswer_108 : decode cX4_readAnswer 108 = .ok (.putfield 86, 3) := by decide +kernel
theorem dX4_readAnswer_111 : decode cX4_readAnswer 111 = .ok (.iload 4, 2) := by decide +kernel
theorem dX4_readAnswer_113 : decode cX4_readAnswer 113 = .ok (.ireturn, 1) := by decide +kernel
theorem dX5_init_0 : decode cX5_init 0 = .ok (.aload_n 0, 1) := by decide +kernel
theorem dX5_init_1 : decode cX5_init 1 = .ok (.invokespecial 3, 3) := by decide +kernel
theorem dX5_init_4 : decode cX5_init 4 = .ok (.aload_n 0, 1) := by decide +kernel
theorem dX5_init_5 : decode cX5_init 5 = .ok (.bipush 8, 2) := by decide +kernel
theorem dX5_init_7 : decode cX5_init 7 = .ok (.anewarray 9, 3) := by decide +kernel
theorem dX5_init_10 : decode cX5_init 10 = .ok (.putfield 11, 3) := by decide +kernel
theorem dX5_init_13 : decode cX5_init 13 = .ok (.aload_n 0, 1) := by decide +kernel
theorem dX5_init_14 : decode cX5_init 14 = .ok (.bipush 8, 2) := by decide +kernel
theorem dX5_init_16 : decode cX5_init 16 = .ok (.newarray .int, 2) := by decide +kernel
theorem dX5_init_18 : decode cX5_init 18 = .ok (.putfield 17, 3) := by decide +kernel
theorem dX5_init_21 : decode cX5_init 21 = .ok (.aload_n 0, 1) := by decide +kernel
theorem dX5_init_22 : decode cX5_init 22 = .ok (.sipush 256, 3) := by decide +kernel
theorem dX5_init_25 : decode cX5_init 25 = .ok (.newarray .int, 2) := by decide +kernel
theorem dX5_init_27 : decode cX5_init 27 = .ok (.putfield 21, 3) := by decide +kernel
theorem dX5_init_30 : decode cX5_init 30 = .ok (.iconst 0, 1) := by decide +kernel
theorem dX5_init_31 : decode cX5_init 31 = .ok (.istore_n 1, 1) := by decide +kernel
theorem dX5_init_32 : decode cX5_init 32 = .ok (.iload_n 1, 1) := by decide +kernel
theorem dX5_init_33 : decode cX5_init 33 = .ok (.bipush 8, 2) := by decide +kernel
theorem dX5_init_35 : decode cX5_init 35 = .ok (.if_icmp .ge 22, 3) := by decide +kernel
theorem dX5_init_38 : decode cX5_init 38 = .ok (.aload_n 0, 1) := by decide +kernel
theorem dX5_init_39 : decode cX5_init 39 = .ok (.getfield 11, 3) := by decide +kernel
theorem dX5_init_42 : decode cX5_init 42 = .ok (.iload_n 1, 1) := by decide +kernel
theorem dX5_init_43 : decode cX5_init 43 = .ok (.new 9, 3) := by decide +kernel
theorem dX5_init_46 : decode cX5_init 46 = .ok (.dup, 1) := by decide +kernel
theorem dX5_init_47 : decode cX5_init 47 = .ok (.invokespecial 24, 3) := by decide +kernel
theorem dX5_init_50 : decode cX5_init 50 = .ok (.aastore, 1) := by decide +kernel
theorem dX5_init_51 : decode cX5_init 51 = .ok (.iinc 1 1, 3) := by decide +kernel
theorem dX5_init_54 : decode cX5_init 54 = .ok (.goto (-22), 3) := by decide +kernel
theorem dX5_init_57 : decode cX5_init 57 = .ok (.aload_n 0, 1) := by decide +kernel
theorem dX5_init_58 : decode cX5_init 58 = .ok (.getfield 17, 3) := by decide +kernel
theorem dX5_init_61 : decode cX5_init 61 = .ok (.iconst (-1), 1) := by decide +kernel
theorem dX5_init_62 : decode cX5_init 62 = .ok (.invokestatic 25, 3) := by decide +kernel
theorem dX5_init_65 : decode cX5_init 65 = .ok (.return_, 1) := by decide +kernel
theorem dX5_begin_0 : decode cX5_begin 0 = .ok (.iconst 0, 1) := by decide +kernel
theorem dX5_begin_1 : decode cX5_begin 1 = .ok (.istore_n 1, 1) := by decide +kernel
theorem dX5_begin_2 : decode cX5_begin 2 = .ok (.iload_n 1, 1) := by decide +kernel
theorem dX5_begin_3 : decode cX5_begin 3 = .ok (.bipush 8, 2) := by decide +kernel
theorem dX5_begin_5 : decode cX5_begin 5 = .ok (.if_icmp .ge 19, 3) := by decide +kernel
theorem dX5_begin_8 : decode cX5_begin 8 = .ok (.aload_n 0, 1) := by decide +kernel
theorem dX5_begin_9 : decode cX5_begin 9 = .ok (.getfield 11, 3) := by decide +kernel
theorem dX5_begin_12 : decode cX5_begin 12 = .ok (.iload_n 1, 1) := by decide +kernel
theorem dX5_begin_13 : decode cX5_begin 13 = .ok (.aaload, 1) := by decide +kernel
theorem dX5_begin_14 : decode cX5_begin 14 = .ok (.iconst (-1), 1) := by decide +kernel
theorem dX5_begin_15 : decode cX5_begin 15 = .ok (.invokevirtual 31, 3) := by decide +kernel
theorem dX5_begin_18 : decode cX5_begin 18 = .ok (.iinc 1 1, 3) := by decide +kernel
theorem dX5_begin_21 : decode cX5_begin 21 = .ok (.goto (-19), 3) := by decide +kernel
theorem dX5_begin_24 : decode cX5_begin 24 = .ok (.aload_n 0, 1) := by decide +kernel
theorem dX5_begin_25 : decode cX5_begin 25 = .ok (.getfield 17, 3) := by decide +kernel
theorem dX5_begin_28 : decode cX5_begin 28 = .ok (.iconst (-1), 1) := by decide +kernel
theorem dX5_begin_29 : decode cX5_begin 29 = .ok (.invokestatic 25, 3) := by decide +kernel
theorem dX5_begin_32 : decode cX5_begin 32 = .ok (.aload_n 0, 1) := by decide +kernel
theorem dX5_begin_33 : decode cX5_begin 33 = .ok (.iconst 0, 1) := by decide +kernel
theorem dX5_begin_34 : decode cX5_begin 34 = .ok (.putfield 35, 3) := by decide +kernel
theorem dX5_begin_37 : decode cX5_begin 37 = .ok (.aload_n 0, 1) := by decide +kernel
theorem dX5_begin_38 : decode cX5_begin 38 = .ok (.iconst 0, 1) := by decide +kernel
theorem dX5_begin_39 : decode cX5_begin 39 = .ok (.putfield 39, 3) := by decide +kernel
theorem dX5_begin_42 : decode cX5_begin 42 = .ok (.aload_n 0, 1) := by decide +kernel
theorem dX5_begin_43 : decode cX5_begin 43 = .ok (.iconst 0, 1) := by decide +kernel
theorem dX5_begin_44 : decode cX5_begin 44 = .ok (.putfield 42, 3) := by decide +kernel
theorem dX5_begin_47 : decode cX5_begin 47 = .ok (.aload_n 0, 1) := by decide +kernel
theorem dX5_begin_48 : decode cX5_begin 48 = .ok (.iconst 0, 1) := by decide +kernel
theorem dX5_begin_49 : decode cX5_begin 49 = .ok (.putfield 45, 3) := by decide +kernel
theorem dX5_begin_52 : decode cX5_begin 52 = .ok (.aload_n 0, 1) := by decide +kernel
theorem dX5_begin_53 : decode cX5_begin 53 = .ok (.iconst 0, 1) := by decide +kernel
theorem dX5_begin_54 : decode cX5_begin 54 = .ok (.putfield 48, 3) := by decide +kernel
theorem dX5_begin_57 : decode cX5_begin 57 = .ok (.aload_n 0, 1) := by decide +kernel
theorem dX5_begin_58 : decode cX5_begin 58 = .ok (.iconst 0, 1) := by decide +kernel
theorem dX5_begin_59 : decode cX5_begin 59 = .ok (.putfield 51, 3) := by decide +kernel
theorem dX5_begin_62 : decode cX5_begin 62 = .ok (.aload_n 0, 1) := by decide +kernel
theorem dX5_begin_63 : decode cX5_begin 63 = .ok (.iconst 0, 1) := by decide +kernel
theorem dX5_begin_64 : decode cX5_begin 64 = .ok (.putfield 54, 3) := by decide +kernel
theorem dX5_begin_67 : decode cX5_begin 67 = .ok (.aload_n 0, 1) := by decide +kernel
theorem dX5_begin_68 : decode cX5_begin 68 = .ok (.iconst 0, 1) := by decide +kernel
theorem dX5_begin_69 : decode cX5_begin 69 = .ok (.putfield 57, 3) := by decide +kernel
theorem dX5_begin_72 : decode cX5_begin 72 = .ok (.return_, 1) := by decide +kernel
theorem dX5_copyFrom_0 : decode cX5_copyFrom 0 = .ok (.iconst 0, 1) := by decide +kernel
theorem dX5_copyFrom_1 : decode cX5_copyFrom 1 = .ok (.istore_n 2, 1) := by decide +kernel
theorem dX5_copyFrom_2 : decode cX5_copyFrom 2 = .ok (.iload_n 2, 1) := by decide +kernel
theorem dX5_copyFrom_3 : decode cX5_copyFrom 3 = .ok (.bipush 8, 2) := by decide +kernel
theorem dX5_copyFrom_5 : decode cX5_copyFrom 5 = .ok (.if_icmp .ge 24, 3) := by decide +kernel
theorem dX5_copyFrom_8 : decode cX5_copyFrom 8 = .ok (.aload_n 0, 1) := by decide +kernel
theorem dX5_copyFrom_9 : decode cX5_copyFrom 9 = .ok (.getfield 11, 3) := by decide +kernel
theorem dX5_copyFrom_12 : decode cX5_copyFrom 12 = .ok (.iload_n 2, 1) := by decide +kernel
theorem dX5_copyFrom_13 : decode cX5_copyFrom 13 = .ok (.aaload, 1) := by decide +kernel
theorem dX5_copyFrom_14 : decode cX5_copyFrom 14 = .ok (.aload_n 1, 1) := by decide +kernel
theorem dX5_copyFrom_15 : decode cX5_copyFrom 15 = .ok (.getfield 11, 3) := by decide +kernel
theorem dX5_copyFrom_18 : decode cX5_copyFrom 18 = .ok (.iload_n 2, 1) := by decide +kernel
theorem dX5_copyFrom_19 : decode cX5_copyFrom 19 = .ok (.aaload, 1) := by decide +kernel
theorem dX5_copyFrom_20 : decode cX5_copyFrom 20 = .ok (.invokevirtual 60, 3) := by decide +kernel
theorem dX5_copyFrom_23 : decode cX5_copyFrom 23 = .ok (.iinc 2 1, 3) := by decide +kernel
theorem dX5_copyFrom_26 : decode cX5_copyFrom 26 = .ok (.goto (-24), 3) := by decide +kernel
theorem dX5_copyFrom_29 : decode cX5_copyFrom 29 = .ok (.aload_n 1, 1) := by decide +kernel
theorem dX5_copyFrom_30 : decode cX5_copyFrom 30 = .ok (.getfield 17, 3) := by decide +kernel
theorem dX5_copyFrom_33 : decode cX5_copyFrom 33 = .ok (.iconst 0, 1) := by decide +kernel
theorem dX5_copyFrom_34 : decode cX5_copyFrom 34 = .ok (.aload_n 0, 1) := by decide +kernel
theorem dX5_copyFrom_35 : decode cX5_copyFrom 35 = .ok (.getfield 17, 3) := by decide +kernel
theorem dX5_copyFrom_38 : decode cX5_copyFrom 38 = .ok (.iconst 0, 1) := by decide +kernel
theorem dX5_copyFrom_39 : decode cX5_copyFrom 39 = .ok (.bipush 8, 2) := by decide +kernel
theorem dX5_copyFrom_41 : decode cX5_copyFrom 41 = .ok (.invokestatic 64, 3) := by decide +kernel
theorem dX5_copyFrom_44 : decode cX5_copyFrom 44 = .ok (.aload_n 1, 1) := by decide +kernel
theorem dX5_copyFrom_45 : decode cX5_copyFrom 45 = .ok (.getfield 21, 3) := by decide +kernel
theorem dX5_copyFrom_48 : decode cX5_copyFrom 48 = .ok (.iconst 0, 1) := by decide +kernel
theorem dX5_copyFrom_49 : decode cX5_copyFrom 49 = .ok (.aload_n 0, 1) := by decide +kernel
theorem dX5_copyFrom_50 : decode cX5_copyFrom 50 = .ok (.getfield 21, 3) := by decide +kernel
theorem dX5_copyFrom_53 : decode cX5_copyFrom 53 = .ok (.iconst 0, 1) := by decide +kernel
theorem dX5_copyFrom_54 : decode cX5_copyFrom 54 = .ok (.sipush 256, 3) := by decide +kernel
theorem dX5_copyFrom_57 : decode cX5_copyFrom 57 = .ok (.invokestatic 64, 3) := by decide +kernel
theorem dX5_copyFrom_60 : decode cX5_copyFrom 60 = .ok (.aload_n 0, 1) := by decide +kernel
theorem dX5_copyFrom_61 : decode cX5_copyFrom 61 = .ok (.aload_n 1, 1) := by decide +kernel
theorem dX5_copyFrom_62 : decode cX5_copyFrom 62 = .ok (.getfield 35, 3) := by decide +kernel
theorem dX5_copyFrom_65 : decode cX5_copyFrom 65 = .ok (.putfield 35, 3) := by decide +kernel
theorem dX5_copyFrom_68 : decode cX5_copyFrom 68 = .ok (.aload_n 0, 1) := by decide +kernel
theorem dX5_copyFrom_69 : decode cX5_copyFrom 69 = .ok (.aload_n 1, 1) := by decide +kernel
theorem dX5_copyFrom_70 : decode cX5_copyFrom 70 = .ok (.getfield 39, 3) := by decide +kernel
theorem dX5_copyFrom_73 : decode cX5_copyFrom 73 = .ok (.putfield 39, 3) := by decide +kernel
theorem dX5_copyFrom_76 : decode cX5_copyFrom 76 = .ok (.aload_n 0, 1) := by decide +kernel
theorem dX5_copyFrom_77 : decode cX5_copyFrom 77 = .ok (.aload_n 1, 1) := by decide +kernel
theorem dX5_copyFrom_78 : decode cX5_copyFrom 78 = .ok (.getfield 42, 3) := by decide +kernel
theorem dX5_copyFrom_81 : decode cX5_copyFrom 81 = .ok (.putfield 42, 3) := by decide +kernel
theorem dX5_copyFrom_84 : decode cX5_copyFrom 84 = .ok (.aload_n 0, 1) := by decide +kernel
theorem dX5_copyFrom_85 : decode cX5_copyFrom 85 = .ok (.aload_n 1, 1) := by decide +kernel
theorem dX5_copyFrom_86 : decode cX5_copyFrom 86 = .ok (.getfield 45, 3) := by decide +kernel
theorem dX5_copyFrom_89 : decode cX5_copyFrom 89 = .ok (.putfield 45, 3) := by decide +kernel
theorem dX5_copyFrom_92 : decode cX5_copyFrom 92 = .ok (.aload_n 0, 1) := by decide +kernel
theorem dX5_copyFrom_93 : decode cX5_copyFrom 93 = .ok (.aload_n 1, 1) := by decide +kernel
theorem dX5_copyFrom_94 : decode cX5_copyFrom 94 = .ok (.getfield 48, 3) := by decide +kernel
theorem dX5_copyFrom_97 : decode cX5_copyFrom 97 = .ok (.putfield 48, 3) := by decide +kernel
theorem dX5_copyFrom_100 : decode cX5_copyFrom 100 = .ok (.aload_n 0, 1) := by decide +kernel
theorem dX5_copyFrom_101 : decode cX5_copyFrom 101 = .ok (.aload_n 1, 1) := by decide +kernel
theorem dX5_copyFrom_102 : decode cX5_copyFrom 102 = .ok (.getfield 51, 3) := by decide +kernel
theorem dX5_copyFrom_105 : decode cX5_copyFrom 105 = .ok (.putfield 51, 3) := by decide +kernel
theorem dX5_copyFrom_108 : decode cX5_copyFrom 108 = .ok (.aload_n 0, 1) := by decide +kernel
theorem dX5_copyFrom_109 : decode cX5_copyFrom 109 = .ok (.aload_n 1, 1) := by decide +kernel
theorem dX5_copyFrom_110 : decode cX5_copyFrom 110 = .ok (.getfield 54, 3) := by decide +kernel
theorem dX5_copyFrom_113 : decode cX5_copyFrom 113 = .ok (.putfield 54, 3) := by decide +kernel
theorem dX5_copyFrom_116 : decode cX5_copyFrom 116 = .ok (.aload_n 0, 1) := by decide +kernel
theorem dX5_copyFrom_117 : decode cX5_copyFrom 117 = .ok (.aload_n 1, 1) := by decide +kernel
theorem dX5_copyFrom_118 : decode cX5_copyFrom 118 = .ok (.getfield 57, 3) := by decide +kernel
theorem dX5_copyFrom_121 : decode cX5_copyFrom 121 = .ok (.putfield 57, 3) := by decide +kernel
theorem dX5_copyFrom_124 : decode cX5_copyFrom 124 = .ok (.return_, 1) := by decide +kernel
theorem dX5_fateOf_0 : decode cX5_fateOf 0 = .ok (.iload_n 1, 1) := by decide +kernel
theorem dX5_fateOf_1 : decode cX5_fateOf 1 = .ok (.aload_n 0, 1) := by decide +kernel
theorem dX5_fateOf_2 : decode cX5_fateOf 2 = .ok (.getfield 35, 3) := by decide +kernel
theorem dX5_fateOf_5 : decode cX5_fateOf 5 = .ok (.isub, 1) := by decide +kernel
theorem dX5_fateOf_6 : decode cX5_fateOf 6 = .ok (.bipush 7, 2) := by decide +kernel
theorem dX5_fateOf_8 : decode cX5_fateOf 8 = .ok (.iand, 1) := by decide +kernel
theorem dX5_fateOf_9 : decode cX5_fateOf 9 = .ok (.istore_n 3, 1) := by decide +kernel
theorem dX5_fateOf_10 : decode cX5_fateOf 10 = .ok (.iload_n 3, 1) := by decide +kernel
theorem dX5_fateOf_11 : decode cX5_fateOf 11 = .ok (.iload_n 2, 1) := by decide +kernel
theorem dX5_fateOf_12 : decode cX5_fateOf 12 = .ok (.if_icmp .lt 5, 3) := by decide +kernel
theorem dX5_fateOf_15 : decode cX5_fateOf 15 = .ok (.iconst 3, 1) := by decide +kernel
theorem dX5_fateOf_16 : decode cX5_fateOf 16 = .ok (.ireturn, 1) := by decide +kernel
theorem dX5_fateOf_17 : decode cX5_fateOf 17 = .ok (.aload_n 0, 1) := by decide +kernel
theorem dX5_fateOf_18 : decode cX5_fateOf 18 = .ok (.getfield 17, 3) := by decide +kernel
theorem dX5_fateOf_21 : decode cX5_fateOf 21 = .ok (.iload_n 1, 1) := by decide +kernel
theorem dX5_fateOf_22 : decode cX5_fateOf 22 = .ok (.iaload, 1) := by decide +kernel
theorem dX5_fateOf_23 : decode cX5_fateOf 23 = .ok (.iconst (-1), 1) := by decide +kernel
theorem dX5_fateOf_24 : decode cX5_fateOf 24 = .ok (.if_icmp .eq 5, 3) := by decide +kernel
theorem dX5_fateOf_27 : decode cX5_fateOf 27 = .ok (.iconst 2, 1) := by decide +kernel
theorem dX5_fateOf_28 : decode cX5_fateOf 28 = .ok (.ireturn, 1) := by decide +kernel
theorem dX5_fateOf_29 : decode cX5_fateOf 29 = .ok (.iload_n 3, 1) := by decide +kernel
theorem dX5_fateOf_30 : decode cX5_fateOf 30 = .ok (.ifCond .ne 7, 3) := by decide +kernel
theorem dX5_fateOf_33 : decode cX5_fateOf 33 = .ok (.iconst 0, 1) := by decide +kernel
theorem dX5_fateOf_34 : decode cX5_fateOf 34 = .ok (.goto 4, 3) := by decide +kernel
theorem dX5_fateOf_37 : decode cX5_fateOf 37 = .ok (.iconst 1, 1) := by decide +kernel
theorem dX5_fateOf_38 : decode cX5_fateOf 38 = .ok (.ireturn, 1) := by decide +kernel
theorem dX5_shelve_0 : decode cX5_shelve 0 = .ok (.aload_n 0, 1) := by decide +kernel
theorem dX5_shelve_1 : decode cX5_shelve 1 = .ok (.iload_n 1, 1) := by decide +kernel
theorem dX5_shelve_2 : decode cX5_shelve 2 = .ok (.iload_n 3, 1) := by decide +kernel
theorem dX5_shelve_3 : decode cX5_shelve 3 = .ok (.invokevirtual 70, 3) := by decide +kernel
theorem dX5_shelve_6 : decode cX5_shelve 6 = .ok (.istore 4, 2) := by decide +kernel
theorem dX5_shelve_8 : decode cX5_shelve 8 = .ok (.iload 4, 2) := by decide +kernel
theorem dX5_shelve_10 : decode cX5_shelve 10 = .ok (.iconst 3, 1) := by decide +kernel
theorem dX5_shelve_11 : decode cX5_shelve 11 = .ok (.if_icmp .ne 16, 3) := by decide +kernel
theorem dX5_shelve_14 : decode cX5_shelve 14 = .ok (.aload_n 0, 1) := by decide +kernel
theorem dX5_shelve_15 : decode cX5_shelve 15 = .ok (.dup, 1) := by decide +kernel
theorem dX5_shelve_16 : decode cX5_shelve 16 = .ok (.getfield 51, 3) := by decide +kernel
theorem dX5_shelve_19 : decode cX5_shelve 19 = .ok (.iconst 1, 1) := by decide +kernel
theorem dX5_shelve_20 : decode cX5_shelve 20 = .ok (.iadd, 1) := by decide +kernel
theorem dX5_shelve_21 : decode cX5_shelve 21 = .ok (.putfield 51, 3) := by decide +kernel
theorem dX5_shelve_24 : decode cX5_shelve 24 = .ok (.goto 29, 3) := by decide +kernel
theorem dX5_shelve_27 : decode cX5_shelve 27 = .ok (.iload 4, 2) := by decide +kernel
theorem dX5_shelve_29 : decode cX5_shelve 29 = .ok (.iconst 2, 1) := by decide +kernel
theorem dX5_shelve_30 : decode cX5_shelve 30 = .ok (.if_icmp .ne 16, 3) := by decide +kernel
theorem dX5_shelve_33 : decode cX5_shelve 33 = .ok (.aload_n 0, 1) := by decide +kernel
theorem dX5_shelve_34 : decode cX5_shelve 34 = .ok (.dup, 1) := by decide +kernel
theorem dX5_shelve_35 : decode cX5_shelve 35 = .ok (.getfield 54, 3) := by decide +kernel
theorem dX5_shelve_38 : decode cX5_shelve 38 = .ok (.iconst 1, 1) := by decide +kernel
theorem dX5_shelve_39 : decode cX5_shelve 39 = .ok (.iadd, 1) := by decide +kernel
theorem dX5_shelve_40 : decode cX5_shelve 40 = .ok (.putfield 54, 3) := by decide +kernel
theorem dX5_shelve_43 : decode cX5_shelve 43 = .ok (.goto 10, 3) := by decide +kernel
theorem dX5_shelve_46 : decode cX5_shelve 46 = .ok (.aload_n 0, 1) := by decide +kernel
theorem dX5_shelve_47 : decode cX5_shelve 47 = .ok (.getfield 17, 3) := by decide +kernel
theorem dX5_shelve_50 : decode cX5_shelve 50 = .ok (.iload_n 1, 1) := by decide +kernel
theorem dX5_shelve_51 : decode cX5_shelve 51 = .ok (.iload_n 2, 1) := by decide +kernel
theorem dX5_shelve_52 : decode cX5_shelve 52 = .ok (.iastore, 1) := by decide +kernel
theorem dX5_shelve_53 : decode cX5_shelve 53 = .ok (.return_, 1) := by decide +kernel
theorem dX5_settle_0 : decode cX5_settle 0 = .ok (.iconst 0, 1) := by decide +kernel
theorem dX5_settle_1 : decode cX5_settle 1 = .ok (.istore_n 2, 1) := by decide +kernel
theorem dX5_settle_2 : decode cX5_settle 2 = .ok (.iload_n 2, 1) := by decide +kernel
theorem dX5_settle_3 : decode cX5_settle 3 = .ok (.bipush 8, 2) := by decide +kernel
theorem dX5_settle_5 : decode cX5_settle 5 = .ok (.if_icmp .ge 26, 3) := by decide +kernel
theorem dX5_settle_8 : decode cX5_settle 8 = .ok (.aload_n 0, 1) := by decide +kernel
theorem dX5_settle_9 : decode cX5_settle 9 = .ok (.getfield 17, 3) := by decide +kernel
theorem dX5_settle_12 : decode cX5_settle 12 = .ok (.aload_n 0, 1) := by decide +kernel
theorem dX5_settle_13 : decode cX5_settle 13 = .ok (.getfield 35, 3) := by decide +kernel
theorem dX5_settle_16 : decode cX5_settle 16 = .ok (.iaload, 1) := by decide +kernel
theorem dX5_settle_17 : decode cX5_settle 17 = .ok (.iconst (-1), 1) := by decide +kernel
theorem dX5_settle_18 : decode cX5_settle 18 = .ok (.if_icmp .eq 13, 3) := by decide +kernel
theorem dX5_settle_21 : decode cX5_settle 21 = .ok (.aload_n 0, 1) := by decide +kernel
theorem dX5_settle_22 : decode cX5_settle 22 = .ok (.invokevirtual 74, 3) := by decide +kernel
theorem dX5_settle_25 : decode cX5_settle 25 = .ok (.iinc 2 1, 3) := by decide +kernel
theorem dX5_settle_28 : decode cX5_settle 28 = .ok (.goto (-26), 3) := by decide +kernel
theorem dX5_settle_31 : decode cX5_settle 31 = .ok (.aload_n 0, 1) := by decide +kernel
theorem dX5_settle_32 : decode cX5_settle 32 = .ok (.invokevirtual 77, 3) := by decide +kernel
theorem dX5_settle_35 : decode cX5_settle 35 = .ok (.istore_n 2, 1) := by decide +kernel
theorem dX5_settle_36 : decode cX5_settle 36 = .ok (.aload_n 0, 1) := by decide +kernel
theorem dX5_settle_37 : decode cX5_settle 37 = .ok (.getfield 39, 3) := by decide +kernel
theorem dX5_settle_40 : decode cX5_settle 40 = .ok (.ifCond .ne 20, 3) := by decide +kernel
theorem dX5_settle_43 : decode cX5_settle 43 = .ok (.iload_n 2, 1) := by decide +kernel
theorem dX5_settle_44 : decode cX5_settle 44 = .ok (.iconst (-1), 1) := by decide +kernel
theorem dX5_settle_45 : decode cX5_settle 45 = .ok (.if_icmp .eq 15, 3) := by decide +kernel
theorem dX5_settle_48 : decode cX5_settle 48 = .ok (.aload_n 0, 1) := by decide +kernel
theorem dX5_settle_49 : decode cX5_settle 49 = .ok (.iload_n 1, 1) := by decide +kernel
theorem dX5_settle_50 : decode cX5_settle 50 = .ok (.putfield 39, 3) := by decide +kernel
theorem dX5_settle_53 : decode cX5_settle 53 = .ok (.aload_n 0, 1) := by decide +kernel
theorem dX5_settle_54 : decode cX5_settle 54 = .ok (.iload_n 2, 1) := by decide +kernel
theorem dX5_settle_55 : decode cX5_settle 55 = .ok (.iconst 1, 1) := by decide +kernel
theorem dX5_settle_56 : decode cX5_settle 56 = .ok (.iadd, 1) := by decide +kernel
theorem dX5_settle_57 : decode cX5_settle 57 = .ok (.putfield 42, 3) := by decide +kernel
theorem dX5_settle_60 : decode cX5_settle 60 = .ok (.return_, 1) := by decide +kernel
theorem dX5_moveOn_0 : decode cX5_moveOn 0 = .ok (.aload_n 0, 1) := by decide +kernel
theorem dX5_moveOn_1 : decode cX5_moveOn 1 = .ok (.getfield 17, 3) := by decide +kernel
theorem dX5_moveOn_4 : decode cX5_moveOn 4 = .ok (.aload_n 0, 1) := by decide +kernel
theorem dX5_moveOn_5 : decode cX5_moveOn 5 = .ok (.getfield 35, 3) := by decide +kernel
theorem dX5_moveOn_8 : decode cX5_moveOn 8 = .ok (.iaload, 1) := by decide +kernel
theorem dX5_moveOn_9 : decode cX5_moveOn 9 = .ok (.istore_n 1, 1) := by decide +kernel
theorem dX5_moveOn_10 : decode cX5_moveOn 10 = .ok (.iload_n 1, 1) := by decide +kernel
theorem dX5_moveOn_11 : decode cX5_moveOn 11 = .ok (.iconst (-1), 1) := by decide +kernel
theorem dX5_moveOn_12 : decode cX5_moveOn 12 = .ok (.if_icmp .ne 16, 3) := by decide +kernel
theorem dX5_moveOn_15 : decode cX5_moveOn 15 = .ok (.aload_n 0, 1) := by decide +kernel
theorem dX5_moveOn_16 : decode cX5_moveOn 16 = .ok (.dup, 1) := by decide +kernel
theorem dX5_moveOn_17 : decode cX5_moveOn 17 = .ok (.getfield 48, 3) := by decide +kernel
theorem dX5_moveOn_20 : decode cX5_moveOn 20 = .ok (.iconst 1, 1) := by decide +kernel
theorem dX5_moveOn_21 : decode cX5_moveOn 21 = .ok (.iadd, 1) := by decide +kernel
theorem dX5_moveOn_22 : decode cX5_moveOn 22 = .ok (.putfield 48, 3) := by decide +kernel
theorem dX5_moveOn_25 : decode cX5_moveOn 25 = .ok (.goto 37, 3) := by decide +kernel
theorem dX5_moveOn_28 : decode cX5_moveOn 28 = .ok (.aload_n 0, 1) := by decide +kernel
theorem dX5_moveOn_29 : decode cX5_moveOn 29 = .ok (.getfield 21, 3) := by decide +kernel
theorem dX5_moveOn_32 : decode cX5_moveOn 32 = .ok (.aload_n 0, 1) := by decide +kernel
theorem dX5_moveOn_33 : decode cX5_moveOn 33 = .ok (.getfield 45, 3) := by decide +kernel
theorem dX5_moveOn_36 : decode cX5_moveOn 36 = .ok (.sipush 255, 3) := by decide +kernel
theorem dX5_moveOn_39 : decode cX5_moveOn 39 = .ok (.iand, 1) := by decide +kernel
theorem dX5_moveOn_40 : decode cX5_moveOn 40 = .ok (.iload_n 1, 1) := by decide +kernel
theorem dX5_moveOn_41 : decode cX5_moveOn 41 = .ok (.iastore, 1) := by decide +kernel
theorem dX5_moveOn_42 : decode cX5_moveOn 42 = .ok (.aload_n 0, 1) := by decide +kernel
theorem dX5_moveOn_43 : decode cX5_moveOn 43 = .ok (.dup, 1) := by decide +kernel
theorem dX5_moveOn_44 : decode cX5_moveOn 44 = .ok (.getfield 45, 3) := by decide +kernel
theorem dX5_moveOn_47 : decode cX5_moveOn 47 = .ok (.iconst 1, 1) := by decide +kernel
theorem dX5_moveOn_48 : decode cX5_moveOn 48 = .ok (.iadd, 1) := by decide +kernel
theorem dX5_moveOn_49 : decode cX5_moveOn 49 = .ok (.putfield 45, 3) := by decide +kernel
theorem dX5_moveOn_52 : decode cX5_moveOn 52 = .ok (.aload_n 0, 1) := by decide +kernel
theorem dX5_moveOn_53 : decode cX5_moveOn 53 = .ok (.getfield 17, 3) := by decide +kernel
theorem dX5_moveOn_56 : decode cX5_moveOn 56 = .ok (.aload_n 0, 1) := by decide +kernel
theorem dX5_moveOn_57 : decode cX5_moveOn 57 = .ok (.getfield 35, 3) := by decide +kernel
theorem dX5_moveOn_60 : decode cX5_moveOn 60 = .ok (.iconst (-1), 1) := by decide +kernel
theorem dX5_moveOn_61 : decode cX5_moveOn 61 = .ok (.iastore, 1) := by decide +kernel
theorem dX5_moveOn_62 : decode cX5_moveOn 62 = .ok (.aload_n 0, 1) := by decide +kernel
theorem dX5_moveOn_63 : decode cX5_moveOn 63 = .ok (.aload_n 0, 1) := by decide +kernel
theorem dX5_moveOn_64 : decode cX5_moveOn 64 = .ok (.getfield 35, 3) := by decide +kernel
theorem dX5_moveOn_67 : decode cX5_moveOn 67 = .ok (.iconst 1, 1) := by decide +kernel
theorem dX5_moveOn_68 : decode cX5_moveOn 68 = .ok (.iadd, 1) := by decide +kernel
theorem dX5_moveOn_69 : decode cX5_moveOn 69 = .ok (.bipush 7, 2) := by decide +kernel
theorem dX5_moveOn_71 : decode cX5_moveOn 71 = .ok (.iand, 1) := by decide +kernel
theorem dX5_moveOn_72 : decode cX5_moveOn 72 = .ok (.putfield 35, 3) := by decide +kernel
theorem dX5_moveOn_75 : decode cX5_moveOn 75 = .ok (.aload_n 0, 1) := by decide +kernel
theorem dX5_moveOn_76 : decode cX5_moveOn 76 = .ok (.getfield 39, 3) := by decide +kernel
theorem dX5_moveOn_79 : decode cX5_moveOn 79 = .ok (.ifCond .le 25, 3) := by decide +kernel
theorem dX5_moveOn_82 : decode cX5_moveOn 82 = .ok (.aload_n 0, 1) := by decide +kernel
theorem dX5_moveOn_83 : decode cX5_moveOn 83 = .ok (.dup, 1) := by decide +kernel
theorem dX5_moveOn_84 : decode cX5_moveOn 84 = .ok (.getfield 42, 3) := by decide +kernel
theorem dX5_moveOn_87 : decode cX5_moveOn 87 = .ok (.iconst 1, 1) := by decide +kernel
theorem dX5_moveOn_88 : decode cX5_moveOn 88 = .ok (.isub, 1) := by decide +kernel
theorem dX5_moveOn_89 : decode cX5_moveOn 89 = .ok (.putfield 42, 3) := by decide +kernel
theorem dX5_moveOn_92 : decode cX5_moveOn 92 = .ok (.aload_n 0, 1) := by decide +kernel
theorem dX5_moveOn_93 : decode cX5_moveOn 93 = .ok (.getfield 42, 3) := by decide +kernel
theorem dX5_moveOn_96 : decode cX5_moveOn 96 = .ok (.ifCond .gt 8, 3) := by decide +kernel
theorem dX5_moveOn_99 : decode cX5_moveOn 99 = .ok (.aload_n 0, 1) := by decide +kernel
theorem dX5_moveOn_100 : decode cX5_moveOn 100 = .ok (.iconst 0, 1) := by decide +kernel
theorem dX5_moveOn_101 : decode cX5_moveOn 101 = .ok (.putfield 39, 3) := by decide +kernel
theorem dX5_moveOn_104 : decode cX5_moveOn 104 = .ok (.return_, 1) := by decide +kernel
theorem dX5_passTime_0 : decode cX5_passTime 0 = .ok (.aload_n 0, 1) := by decide +kernel
theorem dX5_passTime_1 : decode cX5_passTime 1 = .ok (.getfield 39, 3) := by decide +kernel
theorem dX5_passTime_4 : decode cX5_passTime 4 = .ok (.ifCond .ne 4, 3) := by decide +kernel
theorem dX5_passTime_7 : decode cX5_passTime 7 = .ok (.return_, 1) := by decide +kernel
theorem dX5_passTime_8 : decode cX5_passTime 8 = .ok (.aload_n 0, 1) := by decide +kernel
theorem dX5_passTime_9 : decode cX5_passTime 9 = .ok (.dup, 1) := by decide +kernel
theorem dX5_passTime_10 : decode cX5_passTime 10 = .ok (.getfield 39, 3) := by decide +kernel
theorem dX5_passTime_13 : decode cX5_passTime 13 = .ok (.iconst 1, 1) := by decide +kernel
theorem dX5_passTime_14 : decode cX5_passTime 14 = .ok (.isub, 1) := by decide +kernel
theorem dX5_passTime_15 : decode cX5_passTime 15 = .ok (.putfield 39, 3) := by decide +kernel
theorem dX5_passTime_18 : decode cX5_passTime 18 = .ok (.aload_n 0, 1) := by decide +kernel
theorem dX5_passTime_19 : decode cX5_passTime 19 = .ok (.getfield 39, 3) := by decide +kernel
theorem dX5_passTime_22 : decode cX5_passTime 22 = .ok (.ifCond .le 4, 3) := by decide +kernel
theorem dX5_passTime_25 : decode cX5_passTime 25 = .ok (.return_, 1) := by decide +kernel
theorem dX5_passTime_26 : decode cX5_passTime 26 = .ok (.aload_n 0, 1) := by decide +kernel
theorem dX5_passTime_27 : decode cX5_passTime 27 = .ok (.getfield 42, 3) := by decide +kernel
theorem dX5_passTime_30 : decode cX5_passTime 30 = .ok (.istore_n 2, 1) := by decide +kernel
theorem dX5_passTime_31 : decode cX5_passTime 31 = .ok (.iload_n 2, 1) := by decide +kernel
theorem dX5_passTime_32 : decode cX5_passTime 32 = .ok (.ifCond .le 13, 3) := by decide +kernel
theorem dX5_passTime_35 : decode cX5_passTime 35 = .ok (.aload_n 0, 1) := by decide +kernel
theorem dX5_passTime_36 : decode cX5_passTime 36 = .ok (.invokevirtual 74, 3) := by decide +kernel
theorem dX5_passTime_39 : decode cX5_passTime 39 = .ok (.iinc 2 (-1), 3) := by decide +kernel
theorem dX5_passTime_42 : decode cX5_passTime 42 = .ok (.goto (-11), 3) := by decide +kernel
theorem dX5_passTime_45 : decode cX5_passTime 45 = .ok (.aload_n 0, 1) := by decide +kernel
theorem dX5_passTime_46 : decode cX5_passTime 46 = .ok (.iload_n 1, 1) := by decide +kernel
theorem dX5_passTime_47 : decode cX5_passTime 47 = .ok (.invokevirtual 81, 3) := by decide +kernel
theorem dX5_passTime_50 : decode cX5_passTime 50 = .ok (.return_, 1) := by decide +kernel
theorem dX5_farthestStored_0 : decode cX5_farthestStored 0 = .ok (.iconst (-1), 1) := by decide +kernel
theorem dX5_farthestStored_1 : decode cX5_farthestStored 1 = .ok (.istore_n 1, 1) := by decide +kernel
theorem dX5_farthestStored_2 : decode cX5_farthestStored 2 = .ok (.iconst 0, 1) := by decide +kernel
theorem dX5_farthestStored_3 : decode cX5_farthestStored 3 = .ok (.istore_n 2, 1) := by decide +kernel
theorem dX5_farthestStored_4 : decode cX5_farthestStored 4 = .ok (.iload_n 2, 1) := by decide +kernel
theorem dX5_farthestStored_5 : decode cX5_farthestStored 5 = .ok (.bipush 8, 2) := by decide +kernel
theorem dX5_farthestStored_7 : decode cX5_farthestStored 7 = .ok (.if_icmp .ge 29, 3) := by decide +kernel
theorem dX5_farthestStored_10 : decode cX5_farthestStored 10 = .ok (.aload_n 0, 1) := by decide +kernel
theorem dX5_farthestStored_11 : decode cX5_farthestStored 11 = .ok (.getfield 17, 3) := by decide +kernel
theorem dX5_farthestStored_14 : decode cX5_farthestStored 14 = .ok (.aload_n 0, 1) := by decide +kernel
theorem dX5_farthestStored_15 : decode cX5_farthestStored 15 = .ok (.getfield 35, 3) := by decide +kernel
theorem dX5_farthestStored_18 : decode cX5_farthestStored 18 = .ok (.iload_n 2, 1) := by decide +kernel
theorem dX5_farthestStored_19 : decode cX5_farthestStored 19 = .ok (.iadd, 1) := by decide +kernel
theorem dX5_farthestStored_20 : decode cX5_farthestStored 20 = .ok (.bipush 7, 2) := by decide +kernel
theorem dX5_farthestStored_22 : decode cX5_farthestStored 22 = .ok (.iand, 1) := by decide +kernel
theorem dX5_farthestStored_23 : decode cX5_farthestStored 23 = .ok (.iaload, 1) := by decide +kernel
theorem dX5_farthestStored_24 : decode cX5_farthestStored 24 = .ok (.iconst (-1), 1) := by decide +kernel
theorem dX5_farthestStored_25 : decode cX5_farthestStored 25 = .ok (.if_icmp .eq 5, 3) := by decide +kernel
theorem dX5_farthestStored_28 : decode cX5_farthestStored 28 = .ok (.iload_n 2, 1) := by decide +kernel
theorem dX5_farthestStored_29 : decode cX5_farthestStored 29 = .ok (.istore_n 1, 1) := by decide +kernel
theorem dX5_farthestStored_30 : decode cX5_farthestStored 30 = .ok (.iinc 2 1, 3) := by decide +kernel
theorem dX5_farthestStored_33 : decode cX5_farthestStored 33 = .ok (.goto (-29), 3) := by decide +kernel
theorem dX5_farthestStored_36 : decode cX5_farthestStored 36 = .ok (.iload_n 1, 1) := by decide +kernel
theorem dX5_farthestStored_37 : decode cX5_farthestStored 37 = .ok (.ireturn, 1) := by decide +kernel
theorem dX5_firstStored_0 : decode cX5_firstStored 0 = .ok (.iconst 0, 1) := by decide +kernel
theorem dX5_firstStored_1 : decode cX5_firstStored 1 = .ok (.istore_n 1, 1) := by decide +kernel
theorem dX5_firstStored_2 : decode cX5_firstStored 2 = .ok (.iload_n 1, 1) := by decide +kernel
theorem dX5_firstStored_3 : decode cX5_firstStored 3 = .ok (.bipush 8, 2) := by decide +kernel
theorem dX5_firstStored_5 : decode cX5_firstStored 5 = .ok (.if_icmp .ge 31, 3) := by decide +kernel
theorem dX5_firstStored_8 : decode cX5_firstStored 8 = .ok (.aload_n 0, 1) := by decide +kernel
theorem dX5_firstStored_9 : decode cX5_firstStored 9 = .ok (.getfield 35, 3) := by decide +kernel
theorem dX5_firstStored_12 : decode cX5_firstStored 12 = .ok (.iload_n 1, 1) := by decide +kernel
theorem dX5_firstStored_13 : decode cX5_firstStored 13 = .ok (.iadd, 1) := by decide +kernel
theorem dX5_firstStored_14 : decode cX5_firstStored 14 = .ok (.bipush 7, 2) := by decide +kernel
theorem dX5_firstStored_16 : decode cX5_firstStored 16 = .ok (.iand, 1) := by decide +kernel
theorem dX5_firstStored_17 : decode cX5_firstStored 17 = .ok (.istore_n 2, 1) := by decide +kernel
theorem dX5_firstStored_18 : decode cX5_firstStored 18 = .ok (.aload_n 0, 1) := by decide +kernel
theorem dX5_firstStored_19 : decode cX5_firstStored 19 = .ok (.getfield 17, 3) := by decide +kernel
theorem dX5_firstStored_22 : decode cX5_firstStored 22 = .ok (.iload_n 2, 1) := by decide +kernel
theorem dX5_firstStored_23 : decode cX5_firstStored 23 = .ok (.iaload, 1) := by decide +kernel
theorem dX5_firstStored_24 : decode cX5_firstStored 24 = .ok (.iconst (-1), 1) := by decide +kernel
theorem dX5_firstStored_25 : decode cX5_firstStored 25 = .ok (.if_icmp .eq 5, 3) := by decide +kernel
theorem dX5_firstStored_28 : decode cX5_firstStored 28 = .ok (.iload_n 2, 1) := by decide +kernel
theorem dX5_firstStored_29 : decode cX5_firstStored 29 = .ok (.ireturn, 1) := by decide +kernel
theorem dX5_firstStored_30 : decode cX5_firstStored 30 = .ok (.iinc 1 1, 3) := by decide +kernel
theorem dX5_firstStored_33 : decode cX5_firstStored 33 = .ok (.goto (-31), 3) := by decide +kernel
theorem dX5_firstStored_36 : decode cX5_firstStored 36 = .ok (.iconst (-1), 1) := by decide +kernel
theorem dX5_firstStored_37 : decode cX5_firstStored 37 = .ok (.ireturn, 1) := by decide +kernel
theorem dX5_howManyStored_0 : decode cX5_howManyStored 0 = .ok (.iconst 0, 1) := by decide +kernel
theorem dX5_howManyStored_1 : decode cX5_howManyStored 1 = .ok (.istore_n 1, 1) := by decide +kernel
theorem dX5_howManyStored_2 : decode cX5_howManyStored 2 = .ok (.iconst 0, 1) := by decide +kernel
theorem dX5_howManyStored_3 : decode cX5_howManyStored 3 = .ok (.istore_n 2, 1) := by decide +kernel
theorem dX5_howManyStored_4 : decode cX5_howManyStored 4 = .ok (.iload_n 2, 1) := by decide +kernel
theorem dX5_howManyStored_5 : decode cX5_howManyStored 5 = .ok (.bipush 8, 2) := by decide +kernel
theorem dX5_howManyStored_7 : decode cX5_howManyStored 7 = .ok (.if_icmp .ge 22, 3) := by decide +kernel
theorem dX5_howManyStored_10 : decode cX5_howManyStored 10 = .ok (.aload_n 0, 1) := by decide +kernel
theorem dX5_howManyStored_11 : decode cX5_howManyStored 11 = .ok (.getfield 17, 3) := by decide +kernel
theorem dX5_howManyStored_14 : decode cX5_howManyStored 14 = .ok (.iload_n 2, 1) := by decide +kernel
theorem dX5_howManyStored_15 : decode cX5_howManyStored 15 = .ok (.iaload, 1) := by decide +kernel
theorem dX5_howManyStored_16 : decode cX5_howManyStored 16 = .ok (.iconst (-1), 1) := by decide +kernel
theorem dX5_howManyStored_17 : decode cX5_howManyStored 17 = .ok (.if_icmp .eq 6, 3) := by decide +kernel
theorem dX5_howManyStored_20 : decode cX5_howManyStored 20 = .ok (.iinc 1 1, 3) := by decide +kernel
theorem dX5_howManyStored_23 : decode cX5_howManyStored 23 = .ok (.iinc 2 1, 3) := by decide +kernel
theorem dX5_howManyStored_26 : decode cX5_howManyStored 26 = .ok (.goto (-22), 3) := by decide +kernel
theorem dX5_howManyStored_29 : decode cX5_howManyStored 29 = .ok (.iload_n 1, 1) := by decide +kernel
theorem dX5_howManyStored_30 : decode cX5_howManyStored 30 = .ok (.ireturn, 1) := by decide +kernel
theorem dX5_readyBehindExpected_0 : decode cX5_readyBehindExpected 0 = .ok (.iconst 0, 1) := by decide +kernel
theorem dX5_readyBehindExpected_1 : decode cX5_readyBehindExpected 1 = .ok (.istore_n 1, 1) := by decide +kernel
theorem dX5_readyBehindExpected_2 : decode cX5_readyBehindExpected 2 = .ok (.iload_n 1, 1) := by decide +kernel
theorem dX5_readyBehindExpected_3 : decode cX5_readyBehindExpected 3 = .ok (.bipush 7, 2) := by decide +kernel
theorem dX5_readyBehindExpected_5 : decode cX5_readyBehindExpected 5 = .ok (.if_icmp .ge 29, 3) := by decide +kernel
theorem dX5_readyBehindExpected_8 : decode cX5_readyBehindExpected 8 = .ok (.aload_n 0, 1) := by decide +kernel
theorem dX5_readyBehindExpected_9 : decode cX5_readyBehindExpected 9 = .ok (.getfield 17, 3) := by decide +kernel
theorem dX5_readyBehindExpected_12 : decode cX5_readyBehindExpected 12 = .ok (.aload_n 0, 1) := by decide +kernel
theorem dX5_readyBehindExpected_13 : decode cX5_readyBehindExpected 13 = .ok (.getfield 35, 3) := by decide +kernel
theorem dX5_readyBehindExpected_16 : decode cX5_readyBehindExpected 16 = .ok (.iconst 1, 1) := by decide +kernel
theorem dX5_readyBehindExpected_17 : decode cX5_readyBehindExpected 17 = .ok (.iadd, 1) := by decide +kernel
theorem dX5_readyBehindExpected_18 : decode cX5_readyBehindExpected 18 = .ok (.iload_n 1, 1) := by decide +kernel
theorem dX5_readyBehindExpected_19 : decode cX5_readyBehindExpected 19 = .ok (.iadd, 1) := by decide +kernel
theorem dX5_readyBehindExpected_20 : decode cX5_readyBehindExpected 20 = .ok (.bipush 7, 2) := by decide +kernel
theorem dX5_readyBehindExpected_22 : decode cX5_readyBehindExpected 22 = .ok (.iand, 1) := by decide +kernel
theorem dX5_readyBehindExpected_23 : decode cX5_readyBehindExpected 23 = .ok (.iaload, 1) := by decide +kernel
theorem dX5_readyBehindExpected_24 : decode cX5_readyBehindExpected 24 = .ok (.iconst (-1), 1) := by decide +kernel
theorem dX5_readyBehindExpected_25 : decode cX5_readyBehindExpected 25 = .ok (.if_icmp .eq 9, 3) := by decide +kernel
theorem dX5_readyBehindExpected_28 : decode cX5_readyBehindExpected 28 = .ok (.iinc 1 1, 3) := by decide +kernel
theorem dX5_readyBehindExpected_31 : decode cX5_readyBehindExpected 31 = .ok (.goto (-29), 3) := by decide +kernel
theorem dX5_readyBehindExpected_34 : decode cX5_readyBehindExpected 34 = .ok (.iload_n 1, 1) := by decide +kernel
theorem dX5_readyBehindExpected_35 : decode cX5_readyBehindExpected 35 = .ok (.ireturn, 1) := by decide +kernel
theorem dX5_givenAgo_0 : decode cX5_givenAgo 0 = .ok (.iload_n 1, 1) := by decide +kernel
theorem dX5_givenAgo_1 : decode cX5_givenAgo 1 = .ok (.ifCond .lt 18, 3) := by decide +kernel
theorem dX5_givenAgo_4 : decode cX5_givenAgo 4 = .ok (.iload_n 1, 1) := by decide +kernel
theorem dX5_givenAgo_5 : decode cX5_givenAgo 5 = .ok (.aload_n 0, 1) := by decide +kernel
theorem dX5_givenAgo_6 : decode cX5_givenAgo 6 = .ok (.getfield 45, 3) := by decide +kernel
theorem dX5_givenAgo_9 : decode cX5_givenAgo 9 = .ok (.if_icmp .ge 10, 3) := by decide +kernel
theorem dX5_givenAgo_12 : decode cX5_givenAgo 12 = .ok (.iload_n 1, 1) := by decide +kernel
theorem dX5_givenAgo_13 : decode cX5_givenAgo 13 = .ok (.sipush 256, 3) := by decide +kernel
theorem dX5_givenAgo_16 : decode cX5_givenAgo 16 = .ok (.if_icmp .lt 5, 3) := by decide +kernel
theorem dX5_givenAgo_19 : decode cX5_givenAgo 19 = .ok (.iconst (-1), 1) := by decide +kernel
theorem dX5_givenAgo_20 : decode cX5_givenAgo 20 = .ok (.ireturn, 1) := by decide +kernel
theorem dX5_givenAgo_21 : decode cX5_givenAgo 21 = .ok (.aload_n 0, 1) := by decide +kernel
theorem dX5_givenAgo_22 : decode cX5_givenAgo 22 = .ok (.getfield 21, 3) := by decide +kernel
theorem dX5_givenAgo_25 : decode cX5_givenAgo 25 = .ok (.aload_n 0, 1) := by decide +kernel
theorem dX5_givenAgo_26 : decode cX5_givenAgo 26 = .ok (.getfield 45, 3) := by decide +kernel
theorem dX5_givenAgo_29 : decode cX5_givenAgo 29 = .ok (.iconst 1, 1) := by decide +kernel
theorem dX5_givenAgo_30 : decode cX5_givenAgo 30 = .ok (.isub, 1) := by decide +kernel
theorem dX5_givenAgo_31 : decode cX5_givenAgo 31 = .ok (.iload_n 1, 1) := by decide +kernel
theorem dX5_givenAgo_32 : decode cX5_givenAgo 32 = .ok (.isub, 1) := by decide +kernel
theorem dX5_givenAgo_33 : decode cX5_givenAgo 33 = .ok (.sipush 255, 3) := by decide +kernel
theorem dX5_givenAgo_36 : decode cX5_givenAgo 36 = .ok (.iand, 1) := by decide +kernel
theorem dX5_givenAgo_37 : decode cX5_givenAgo 37 = .ok (.iaload, 1) := by decide +kernel
theorem dX5_givenAgo_38 : decode cX5_givenAgo 38 = .ok (.ireturn, 1) := by decide +kernel
theorem dX5_tell_0 : decode cX5_tell 0 = .ok (.iload_n 1, 1) := by decide +kernel
theorem dX5_tell_1 : decode cX5_tell 1 = .ok (.tableswitch 134 4 14 #[59, 64, 69, 85, 109, 114, 119, 124, 134, 134, 129], 59) := by decide +kernel
theorem dX5_tell_60 : decode cX5_tell 60 = .ok (.aload_n 0, 1) := by decide +kernel
theorem dX5_tell_61 : decode cX5_tell 61 = .ok (.getfield 35, 3) := by decide +kernel
theorem dX5_tell_64 : decode cX5_tell 64 = .ok (.ireturn, 1) := by decide +kernel
theorem dX5_tell_65 : decode cX5_tell 65 = .ok (.aload_n 0, 1) := by decide +kernel
theorem dX5_tell_66 : decode cX5_tell 66 = .ok (.invokevirtual 84, 3) := by decide +kernel
theorem dX5_tell_69 : decode cX5_tell 69 = .ok (.ireturn, 1) := by decide +kernel
theorem dX5_tell_70 : decode cX5_tell 70 = .ok (.aload_n 0, 1) := by decide +kernel
theorem dX5_tell_71 : decode cX5_tell 71 = .ok (.getfield 39, 3) := by decide +kernel
theorem dX5_tell_74 : decode cX5_tell 74 = .ok (.ifCond .le 10, 3) := by decide +kernel
theorem dX5_tell_77 : decode cX5_tell 77 = .ok (.aload_n 0, 1) := by decide +kernel
theorem dX5_tell_78 : decode cX5_tell 78 = .ok (.getfield 39, 3) := by decide +kernel
theorem dX5_tell_81 : decode cX5_tell 81 = .ok (.goto 4, 3) := by decide +kernel
theorem dX5_tell_84 : decode cX5_tell 84 = .ok (.iconst (-1), 1) := by decide +kernel
theorem dX5_tell_85 : decode cX5_tell 85 = .ok (.ireturn, 1) := by decide +kernel
theorem dX5_tell_86 : decode cX5_tell 86 = .ok (.aload_n 0, 1) := by decide +kernel
theorem dX5_tell_87 : decode cX5_tell 87 = .ok (.getfield 39, 3) := by decide +kernel
theorem dX5_tell_90 : decode cX5_tell 90 = .ok (.ifCond .le 18, 3) := by decide +kernel
theorem dX5_tell_93 : decode cX5_tell 93 = .ok (.aload_n 0, 1) := by decide +kernel
theorem dX5_tell_94 : decode cX5_tell 94 = .ok (.getfield 35, 3) := by decide +kernel
theorem dX5_tell_97 : decode cX5_tell 97 = .ok (.aload_n 0, 1) := by decide +kernel
theorem dX5_tell_98 : decode cX5_tell 98 = .ok (.getfield 42, 3) := by decide +kernel
theorem dX5_tell_101 : decode cX5_tell 101 = .ok (.iadd, 1) := by decide +kernel
theorem dX5_tell_102 : decode cX5_tell 102 = .ok (.bipush 7, 2) := by decide +kernel
theorem dX5_tell_104 : decode cX5_tell 104 = .ok (.iand, 1) := by decide +kernel
theorem dX5_tell_105 : decode cX5_tell 105 = .ok (.goto 4, 3) := by decide +kernel
theorem dX5_tell_108 : decode cX5_tell 108 = .ok (.iconst (-1), 1) := by decide +kernel
theorem dX5_tell_109 : decode cX5_tell 109 = .ok (.ireturn, 1) := by decide +kernel
theorem dX5_tell_110 : decode cX5_tell 110 = .ok (.aload_n 0, 1) := by decide +kernel
theorem dX5_tell_111 : decode cX5_tell 111 = .ok (.getfield 45, 3) := by decide +kernel
theorem dX5_tell_114 : decode cX5_tell 114 = .ok (.ireturn, 1) := by decide +kernel
theorem dX5_tell_115 : decode cX5_tell 115 = .ok (.aload_n 0, 1) := by decide +kernel
theorem dX5_tell_116 : decode cX5_tell 116 = .ok (.getfield 48, 3) := by decide +kernel
theorem dX5_tell_119 : decode cX5_tell 119 = .ok (.ireturn, 1) := by decide +kernel
theorem dX5_tell_120 : decode cX5_tell 120 = .ok (.aload_n 0, 1) := by decide +kernel
theorem dX5_tell_121 : decode cX5_tell 121 = .ok (.getfield 51, 3) := by decide +kernel
theorem dX5_tell_124 : decode cX5_tell 124 = .ok (.ireturn, 1) := by decide +kernel
theorem dX5_tell_125 : decode cX5_tell 125 = .ok (.aload_n 0, 1) := by decide +kernel
theorem dX5_tell_126 : decode cX5_tell 126 = .ok (.getfield 54, 3) := by decide +kernel
theorem dX5_tell_129 : decode cX5_tell 129 = .ok (.ireturn, 1) := by decide +kernel
theorem dX5_tell_130 : decode cX5_tell 130 = .ok (.aload_n 0, 1) := by decide +kernel
theorem dX5_tell_131 : decode cX5_tell 131 = .ok (.getfield 57, 3) := by decide +kernel
theorem dX5_tell_134 : decode cX5_tell 134 = .ok (.ireturn, 1) := by decide +kernel
theorem dX5_tell_135 : decode cX5_tell 135 = .ok (.iconst (-1), 1) := by decide +kernel
theorem dX5_tell_136 : decode cX5_tell 136 = .ok (.ireturn, 1) := by decide +kernel
theorem dX6_init_0 : decode cX6_init 0 = .ok (.aload_n 0, 1) := by decide +kernel
theorem dX6_init_1 : decode cX6_init 1 = .ok (.invokespecial 3, 3) := by decide +kernel
theorem dX6_init_4 : decode cX6_init 4 = .ok (.aload_n 0, 1) := by decide +kernel
theorem dX6_init_5 : decode cX6_init 5 = .ok (.bipush 39, 2) := by decide +kernel
theorem dX6_init_7 : decode cX6_init 7 = .ok (.newarray .int, 2) := by decide +kernel
theorem dX6_init_9 : decode cX6_init 9 = .ok (.putfield 9, 3) := by decide +kernel
theorem dX6_init_12 : decode cX6_init 12 = .ok (.aload_n 0, 1) := by decide +kernel
theorem dX6_init_13 : decode cX6_init 13 = .ok (.bipush 49, 2) := by decide +kernel
theorem dX6_init_15 : decode cX6_init 15 = .ok (.newarray .int, 2) := by decide +kernel
theorem dX6_init_17 : decode cX6_init 17 = .ok (.putfield 15, 3) := by decide +kernel
theorem dX6_init_20 : decode cX6_init 20 = .ok (.aload_n 0, 1) := by decide +kernel
theorem dX6_init_21 : decode cX6_init 21 = .ok (.bipush 60, 2) := by decide +kernel
theorem dX6_init_23 : decode cX6_init 23 = .ok (.newarray .int, 2) := by decide +kernel
theorem dX6_init_25 : decode cX6_init 25 = .ok (.putfield 18, 3) := by decide +kernel
theorem dX6_init_28 : decode cX6_init 28 = .ok (.iconst 0, 1) := by decide +kernel
theorem dX6_init_29 : decode cX6_init 29 = .ok (.istore_n 1, 1) := by decide +kernel
theorem dX6_init_30 : decode cX6_init 30 = .ok (.iconst 0, 1) := by decide +kernel
theorem dX6_init_31 : decode cX6_init 31 = .ok (.istore_n 2, 1) := by decide +kernel
theorem dX6_init_32 : decode cX6_init 32 = .ok (.iload_n 2, 1) := by decide +kernel
theorem dX6_init_33 : decode cX6_init 33 = .ok (.bipush 48, 2) := by decide +kernel
theorem dX6_init_35 : decode cX6_init 35 = .ok (.if_icmp .ge 42, 3) := by decide +kernel
theorem dX6_init_38 : decode cX6_init 38 = .ok (.aload_n 0, 1) := by decide +kernel
theorem dX6_init_39 : decode cX6_init 39 = .ok (.getfield 15, 3) := by decide +kernel
theorem dX6_init_42 : decode cX6_init 42 = .ok (.iload_n 2, 1) := by decide +kernel
theorem dX6_init_43 : decode cX6_init 43 = .ok (.iload_n 1, 1) := by decide +kernel
theorem dX6_init_44 : decode cX6_init 44 = .ok (.iastore, 1) := by decide +kernel
theorem dX6_init_45 : decode cX6_init 45 = .ok (.iload_n 2, 1) := by decide +kernel
theorem dX6_init_46 : decode cX6_init 46 = .ok (.invokestatic 21, 3) := by decide +kernel
theorem dX6_init_49 : decode cX6_init 49 = .ok (.istore_n 3, 1) := by decide +kernel
theorem dX6_init_50 : decode cX6_init 50 = .ok (.iload_n 3, 1) := by decide +kernel
theorem dX6_init_51 : decode cX6_init 51 = .ok (.iconst (-1), 1) := by decide +kernel
theorem dX6_init_52 : decode cX6_init 52 = .ok (.if_icmp .eq 19, 3) := by decide +kernel
theorem dX6_init_55 : decode cX6_init 55 = .ok (.iload_n 1, 1) := by decide +kernel
theorem dX6_init_56 : decode cX6_init 56 = .ok (.bipush 39, 2) := by decide +kernel
theorem dX6_init_58 : decode cX6_init 58 = .ok (.if_icmp .ge 13, 3) := by decide +kernel
theorem dX6_init_61 : decode cX6_init 61 = .ok (.aload_n 0, 1) := by decide +kernel
theorem dX6_init_62 : decode cX6_init 62 = .ok (.getfield 9, 3) := by decide +kernel
theorem dX6_init_65 : decode cX6_init 65 = .ok (.iload_n 1, 1) := by decide +kernel
theorem dX6_init_66 : decode cX6_init 66 = .ok (.iload_n 3, 1) := by decide +kernel
theorem dX6_init_67 : decode cX6_init 67 = .ok (.iastore, 1) := by decide +kernel
theorem dX6_init_68 : decode cX6_init 68 = .ok (.iinc 1 1, 3) := by decide +kernel
theorem dX6_init_71 : decode cX6_init 71 = .ok (.iinc 2 1, 3) := by decide +kernel
theorem dX6_init_74 : decode cX6_init 74 = .ok (.goto (-42), 3) := by decide +kernel
theorem dX6_init_77 : decode cX6_init 77 = .ok (.aload_n 0, 1) := by decide +kernel
theorem dX6_init_78 : decode cX6_init 78 = .ok (.getfield 15, 3) := by decide +kernel
theorem dX6_init_81 : decode cX6_init 81 = .ok (.bipush 48, 2) := by decide +kernel
theorem dX6_init_83 : decode cX6_init 83 = .ok (.iload_n 1, 1) := by decide +kernel
theorem dX6_init_84 : decode cX6_init 84 = .ok (.iastore, 1) := by decide +kernel
theorem dX6_init_85 : decode cX6_init 85 = .ok (.return_, 1) := by decide +kernel
theorem dX6_bitAtPlace_0 : decode cX6_bitAtPlace 0 = .ok (.iload_n 0, 1) := by decide +kernel
theorem dX6_bitAtPlace_1 : decode cX6_bitAtPlace 1 = .ok (.bipush 16, 2) := by decide +kernel
theorem dX6_bitAtPlace_3 : decode cX6_bitAtPlace 3 = .ok (.if_icmp .ge 7, 3) := by decide +kernel
theorem dX6_bitAtPlace_6 : decode cX6_bitAtPlace 6 = .ok (.iconst 0, 1) := by decide +kernel
theorem dX6_bitAtPlace_7 : decode cX6_bitAtPlace 7 = .ok (.goto 8, 3) := by decide +kernel
theorem dX6_bitAtPlace_10 : decode cX6_bitAtPlace 10 = .ok (.iconst 1, 1) := by decide +kernel
theorem dX6_bitAtPlace_11 : decode cX6_bitAtPlace 11 = .ok (.iload_n 0, 1) := by decide +kernel
theorem dX6_bitAtPlace_12 : decode cX6_bitAtPlace 12 = .ok (.iconst 1, 1) := by decide +kernel
theorem dX6_bitAtPlace_13 : decode cX6_bitAtPlace 13 = .ok (.iand, 1) := by decide +kernel
theorem dX6_bitAtPlace_14 : decode cX6_bitAtPlace 14 = .ok (.iadd, 1) := by decide +kernel
theorem dX6_bitAtPlace_15 : decode cX6_bitAtPlace 15 = .ok (.istore_n 1, 1) := by decide +kernel
theorem dX6_bitAtPlace_16 : decode cX6_bitAtPlace 16 = .ok (.iload_n 0, 1) := by decide +kernel
theorem dX6_bitAtPlace_17 : decode cX6_bitAtPlace 17 = .ok (.bipush 16, 2) := by decide +kernel
theorem dX6_bitAtPlace_19 : decode cX6_bitAtPlace 19 = .ok (.if_icmp .ge 7, 3) := by decide +kernel
theorem dX6_bitAtPlace_22 : decode cX6_bitAtPlace 22 = .ok (.iload_n 0, 1) := by decide +kernel
theorem dX6_bitAtPlace_23 : decode cX6_bitAtPlace 23 = .ok (.goto 9, 3) := by decide +kernel
theorem dX6_bitAtPlace_26 : decode cX6_bitAtPlace 26 = .ok (.iload_n 0, 1) := by decide +kernel
theorem dX6_bitAtPlace_27 : decode cX6_bitAtPlace 27 = .ok (.bipush 16, 2) := by decide +kernel
theorem dX6_bitAtPlace_29 : decode cX6_bitAtPlace 29 = .ok (.isub, 1) := by decide +kernel
theorem dX6_bitAtPlace_30 : decode cX6_bitAtPlace 30 = .ok (.iconst 1, 1) := by decide +kernel
theorem dX6_bitAtPlace_31 : decode cX6_bitAtPlace 31 = .ok (.ishr, 1) := by decide +kernel
theorem dX6_bitAtPlace_32 : decode cX6_bitAtPlace 32 = .ok (.istore_n 2, 1) := by decide +kernel
theorem dX6_bitAtPlace_33 : decode cX6_bitAtPlace 33 = .ok (.iconst 4, 1) := by decide +kernel
theorem dX6_bitAtPlace_34 : decode cX6_bitAtPlace 34 = .ok (.iload_n 2, 1) := by decide +kernel
theorem dX6_bitAtPlace_35 : decode cX6_bitAtPlace 35 = .ok (.iconst 3, 1) := by decide +kernel
theorem dX6_bitAtPlace_36 : decode cX6_bitAtPlace 36 = .ok (.iand, 1) := by decide +kernel
theorem dX6_bitAtPlace_37 : decode cX6_bitAtPlace 37 = .ok (.imul, 1) := by decide +kernel
theorem dX6_bitAtPlace_38 : decode cX6_bitAtPlace 38 = .ok (.getstatic 25, 3) := by decide +kernel
theorem dX6_bitAtPlace_41 : decode cX6_bitAtPlace 41 = .ok (.iload_n 2, 1) := by decide +kernel
theorem dX6_bitAtPlace_42 : decode cX6_bitAtPlace 42 = .ok (.iconst 2, 1) := by decide +kernel
theorem dX6_bitAtPlace_43 : decode cX6_bitAtPlace 43 = .ok (.ishr, 1) := by decide +kernel
theorem dX6_bitAtPlace_44 : decode cX6_bitAtPlace 44 = .ok (.iconst 3, 1) := by decide +kernel
theorem dX6_bitAtPlace_45 : decode cX6_bitAtPlace 45 = .ok (.iand, 1) := by decide +kernel
theorem dX6_bitAtPlace_46 : decode cX6_bitAtPlace 46 = .ok (.iaload, 1) := by decide +kernel
theorem dX6_bitAtPlace_47 : decode cX6_bitAtPlace 47 = .ok (.iadd, 1) := by decide +kernel
theorem dX6_bitAtPlace_48 : decode cX6_bitAtPlace 48 = .ok (.istore_n 3, 1) := by decide +kernel
theorem dX6_bitAtPlace_49 : decode cX6_bitAtPlace 49 = .ok (.iload_n 3, 1) := by decide +kernel
theorem dX6_bitAtPlace_50 : decode cX6_bitAtPlace 50 = .ok (.iconst 3, 1) := by decide +kernel
theorem dX6_bitAtPlace_51 : decode cX6_bitAtPlace 51 = .ok (.if_icmp .ge 7, 3) := by decide +kernel
theorem dX6_bitAtPlace_54 : decode cX6_bitAtPlace 54 = .ok (.iconst (-1), 1) := by decide +kernel
theorem dX6_bitAtPlace_55 : decode cX6_bitAtPlace 55 = .ok (.goto 11, 3) := by decide +kernel
theorem dX6_bitAtPlace_58 : decode cX6_bitAtPlace 58 = .ok (.bipush 13, 2) := by decide +kernel
theorem dX6_bitAtPlace_60 : decode cX6_bitAtPlace 60 = .ok (.iload_n 1, 1) := by decide +kernel
theorem dX6_bitAtPlace_61 : decode cX6_bitAtPlace 61 = .ok (.imul, 1) := by decide +kernel
theorem dX6_bitAtPlace_62 : decode cX6_bitAtPlace 62 = .ok (.iload_n 3, 1) := by decide +kernel
theorem dX6_bitAtPlace_63 : decode cX6_bitAtPlace 63 = .ok (.iadd, 1) := by decide +kernel
theorem dX6_bitAtPlace_64 : decode cX6_bitAtPlace 64 = .ok (.iconst 3, 1) := by decide +kernel
theorem dX6_bitAtPlace_65 : decode cX6_bitAtPlace 65 = .ok (.isub, 1) := by decide +kernel
theorem dX6_bitAtPlace_66 : decode cX6_bitAtPlace 66 = .ok (.ireturn, 1) := by decide +kernel
theorem dX6_lay_0 : decode cX6_lay 0 = .ok (.aload_n 0, 1) := by decide +kernel
theorem dX6_lay_1 : decode cX6_lay 1 = .ok (.getfield 15, 3) := by decide +kernel
theorem dX6_lay_4 : decode cX6_lay 4 = .ok (.iload_n 1, 1) := by decide +kernel
theorem dX6_lay_5 : decode cX6_lay 5 = .ok (.iaload, 1) := by decide +kernel
theorem dX6_lay_6 : decode cX6_lay 6 = .ok (.istore 4, 2) := by decide +kernel
theorem dX6_lay_8 : decode cX6_lay 8 = .ok (.aload_n 0, 1) := by decide +kernel
theorem dX6_lay_9 : decode cX6_lay 9 = .ok (.getfield 15, 3) := by decide +kernel
theorem dX6_lay_12 : decode cX6_lay 12 = .ok (.iload_n 2, 1) := by decide +kernel
theorem dX6_lay_13 : decode cX6_lay 13 = .ok (.iload_n 1, 1) := by decide +kernel
theorem dX6_lay_14 : decode cX6_lay 14 = .ok (.imul, 1) := by decide +kernel
theorem dX6_lay_15 : decode cX6_lay 15 = .ok (.iconst 2, 1) := by decide +kernel
theorem dX6_lay_16 : decode cX6_lay 16 = .ok (.ishr, 1) := by decide +kernel
theorem dX6_lay_17 : decode cX6_lay 17 = .ok (.iaload, 1) := by decide +kernel
theorem dX6_lay_18 : decode cX6_lay 18 = .ok (.istore 5, 2) := by decide +kernel
theorem dX6_lay_20 : decode cX6_lay 20 = .ok (.iconst 0, 1) := by decide +kernel
theorem dX6_lay_21 : decode cX6_lay 21 = .ok (.istore 6, 2) := by decide +kernel
theorem dX6_lay_23 : decode cX6_lay 23 = .ok (.iload 6, 2) := by decide +kernel
theorem dX6_lay_25 : decode cX6_lay 25 = .ok (.iload_n 3, 1) := by decide +kernel
theorem dX6_lay_26 : decode cX6_lay 26 = .ok (.if_icmp .ge 36, 3) := by decide +kernel
theorem dX6_lay_29 : decode cX6_lay 29 = .ok (.iload 5, 2) := by decide +kernel
theorem dX6_lay_31 : decode cX6_lay 31 = .ok (.iload 4, 2) := by decide +kernel
theorem dX6_lay_33 : decode cX6_lay 33 = .ok (.if_icmp .lt 6, 3) := by decide +kernel
theorem dX6_lay_36 : decode cX6_lay 36 = .ok (.iconst 0, 1) := by decide +kernel
theorem dX6_lay_37 : decode cX6_lay 37 = .ok (.istore 5, 2) := by decide +kernel
theorem dX6_lay_39 : decode cX6_lay 39 = .ok (.aload_n 0, 1) := by decide +kernel
theorem dX6_lay_40 : decode cX6_lay 40 = .ok (.getfield 18, 3) := by decide +kernel
theorem dX6_lay_43 : decode cX6_lay 43 = .ok (.iload 6, 2) := by decide +kernel
theorem dX6_lay_45 : decode cX6_lay 45 = .ok (.aload_n 0, 1) := by decide +kernel
theorem dX6_lay_46 : decode cX6_lay 46 = .ok (.getfield 9, 3) := by decide +kernel
theorem dX6_lay_49 : decode cX6_lay 49 = .ok (.iload 5, 2) := by decide +kernel
theorem dX6_lay_51 : decode cX6_lay 51 = .ok (.iaload, 1) := by decide +kernel
theorem dX6_lay_52 : decode cX6_lay 52 = .ok (.iastore, 1) := by decide +kernel
theorem dX6_lay_53 : decode cX6_lay 53 = .ok (.iinc 5 1, 3) := by decide +kernel
theorem dX6_lay_56 : decode cX6_lay 56 = .ok (.iinc 6 1, 3) := by decide +kernel
theorem dX6_lay_59 : decode cX6_lay 59 = .ok (.goto (-36), 3) := by decide +kernel
theorem dX6_lay_62 : decode cX6_lay 62 = .ok (.return_, 1) := by decide +kernel
theorem dX6_addTo_0 : decode cX6_addTo 0 = .ok (.iconst 0, 1) := by decide +kernel
theorem dX6_addTo_1 : decode cX6_addTo 1 = .ok (.istore_n 3, 1) := by decide +kernel
theorem dX6_addTo_2 : decode cX6_addTo 2 = .ok (.iload_n 3, 1) := by decide +kernel
theorem dX6_addTo_3 : decode cX6_addTo 3 = .ok (.iload_n 2, 1) := by decide +kernel
theorem dX6_addTo_4 : decode cX6_addTo 4 = .ok (.if_icmp .ge 21, 3) := by decide +kernel
theorem dX6_addTo_7 : decode cX6_addTo 7 = .ok (.aload_n 1, 1) := by decide +kernel
theorem dX6_addTo_8 : decode cX6_addTo 8 = .ok (.aload_n 0, 1) := by decide +kernel
theorem dX6_addTo_9 : decode cX6_addTo 9 = .ok (.getfield 18, 3) := by decide +kernel
theorem dX6_addTo_12 : decode cX6_addTo 12 = .ok (.iload_n 3, 1) := by decide +kernel
theorem dX6_addTo_13 : decode cX6_addTo 13 = .ok (.iaload, 1) := by decide +kernel
theorem dX6_addTo_14 : decode cX6_addTo 14 = .ok (.dup2, 1) := by decide +kernel
theorem dX6_addTo_15 : decode cX6_addTo 15 = .ok (.iaload, 1) := by decide +kernel
theorem dX6_addTo_16 : decode cX6_addTo 16 = .ok (.iconst 1, 1) := by decide +kernel
theorem dX6_addTo_17 : decode cX6_addTo 17 = .ok (.iadd, 1) := by decide +kernel
theorem dX6_addTo_18 : decode cX6_addTo 18 = .ok (.iastore, 1) := by decide +kernel
theorem dX6_addTo_19 : decode cX6_addTo 19 = .ok (.iinc 3 1, 3) := by decide +kernel
theorem dX6_addTo_22 : decode cX6_addTo 22 = .ok (.goto (-20), 3) := by decide +kernel
theorem dX6_addTo_25 : decode cX6_addTo 25 = .ok (.return_, 1) := by decide +kernel
theorem dX7_init_0 : decode cX7_init 0 = .ok (.aload_n 0, 1) := by decide +kernel
theorem dX7_init_1 : decode cX7_init 1 = .ok (.invokespecial 3, 3) := by decide +kernel
theorem dX7_init_4 : decode cX7_init 4 = .ok (.aload_n 0, 1) := by decide +kernel
theorem dX7_init_5 : decode cX7_init 5 = .ok (.bipush 8, 2) := by decide +kernel
theorem dX7_init_7 : decode cX7_init 7 = .ok (.anewarray 9, 3) := by decide +kernel
theorem dX7_init_10 : decode cX7_init 10 = .ok (.putfield 11, 3) := by decide +kernel
theorem dX7_init_13 : decode cX7_init 13 = .ok (.aload_n 0, 1) := by decide +kernel
theorem dX7_init_14 : decode cX7_init 14 = .ok (.bipush 20, 2) := by decide +kernel
theorem dX7_init_16 : decode cX7_init 16 = .ok (.newarray .int, 2) := by decide +kernel
theorem dX7_init_18 : decode cX7_init 18 = .ok (.putfield 17, 3) := by decide +kernel
theorem dX7_init_21 : decode cX7_init 21 = .ok (.aload_n 0, 1) := by decide +kernel
theorem dX7_init_22 : decode cX7_init 22 = .ok (.bipush 8, 2) := by decide +kernel
theorem dX7_init_24 : decode cX7_init 24 = .ok (.newarray .int, 2) := by decide +kernel
theorem dX7_init_26 : decode cX7_init 26 = .ok (.putfield 21, 3) := by decide +kernel
theorem dX7_init_29 : decode cX7_init 29 = .ok (.aload_n 0, 1) := by decide +kernel
theorem dX7_init_30 : decode cX7_init 30 = .ok (.bipush 8, 2) := by decide +kernel
theorem dX7_init_32 : decode cX7_init 32 = .ok (.newarray .int, 2) := by decide +kernel
theorem dX7_init_34 : decode cX7_init 34 = .ok (.putfield 24, 3) := by decide +kernel
theorem dX7_init_37 : decode cX7_init 37 = .ok (.aload_n 0, 1) := by decide +kernel
theorem dX7_init_38 : decode cX7_init 38 = .ok (.bipush 8, 2) := by decide +kernel
theorem dX7_init_40 : decode cX7_init 40 = .ok (.newarray .int, 2) := by decide +kernel
theorem dX7_init_42 : decode cX7_init 42 = .ok (.putfield 27, 3) := by decide +kernel
theorem dX7_init_45 : decode cX7_init 45 = .ok (.iconst 0, 1) := by decide +kernel
theorem dX7_init_46 : decode cX7_init 46 = .ok (.istore_n 1, 1) := by decide +kernel
theorem dX7_init_47 : decode cX7_init 47 = .ok (.iload_n 1, 1) := by decide +kernel
theorem dX7_init_48 : decode cX7_init 48 = .ok (.bipush 8, 2) := by decide +kernel
theorem dX7_init_50 : decode cX7_init 50 = .ok (.if_icmp .ge 22, 3) := by decide +kernel
theorem dX7_init_53 : decode cX7_init 53 = .ok (.aload_n 0, 1) := by decide +kernel
theorem dX7_init_54 : decode cX7_init 54 = .ok (.getfield 11, 3) := by decide +kernel
theorem dX7_init_57 : decode cX7_init 57 = .ok (.iload_n 1, 1) := by decide +kernel
theorem dX7_init_58 : decode cX7_init 58 = .ok (.new 9, 3) := by decide +kernel
theorem dX7_init_61 : decode cX7_init 61 = .ok (.dup, 1) := by decide +kernel
theorem dX7_init_62 : decode cX7_init 62 = .ok (.invokespecial 30, 3) := by decide +kernel
theorem dX7_init_65 : decode cX7_init 65 = .ok (.aastore, 1) := by decide +kernel
theorem dX7_init_66 : decode cX7_init 66 = .ok (.iinc 1 1, 3) := by decide +kernel
theorem dX7_init_69 : decode cX7_init 69 = .ok (.goto (-22), 3) := by decide +kernel
theorem dX7_init_72 : decode cX7_init 72 = .ok (.return_, 1) := by decide +kernel
theorem dX7_begin_0 : decode cX7_begin 0 = .ok (.iconst 0, 1) := by decide +kernel
theorem dX7_begin_1 : decode cX7_begin 1 = .ok (.istore_n 1, 1) := by decide +kernel
theorem dX7_begin_2 : decode cX7_begin 2 = .ok (.iload_n 1, 1) := by decide +kernel
theorem dX7_begin_3 : decode cX7_begin 3 = .ok (.bipush 8, 2) := by decide +kernel
theorem dX7_begin_5 : decode cX7_begin 5 = .ok (.if_icmp .ge 18, 3) := by decide +kernel
theorem dX7_begin_8 : decode cX7_begin 8 = .ok (.aload_n 0, 1) := by decide +kernel
theorem dX7_begin_9 : decode cX7_begin 9 = .ok (.getfield 11, 3) := by decide +kernel
theorem dX7_begin_12 : decode cX7_begin 12 = .ok (.iload_n 1, 1) := by decide +kernel
theorem dX7_begin_13 : decode cX7_begin 13 = .ok (.aaload, 1) := by decide +kernel
theorem dX7_begin_14 : decode cX7_begin 14 = .ok (.invokevirtual 31, 3) := by decide +kernel
theorem dX7_begin_17 : decode cX7_begin 17 = .ok (.iinc 1 1, 3) := by decide +kernel
theorem dX7_begin_20 : decode cX7_begin 20 = .ok (.goto (-18), 3) := by decide +kernel
theorem dX7_begin_23 : decode cX7_begin 23 = .ok (.aload_n 0, 1) := by decide +kernel
theorem dX7_begin_24 : decode cX7_begin 24 = .ok (.iconst 0, 1) := by decide +kernel
theorem dX7_begin_25 : decode cX7_begin 25 = .ok (.putfield 34, 3) := by decide +kernel
theorem dX7_begin_28 : decode cX7_begin 28 = .ok (.aload_n 0, 1) := by decide +kernel
theorem dX7_begin_29 : decode cX7_begin 29 = .ok (.iconst 0, 1) := by decide +kernel
theorem dX7_begin_30 : decode cX7_begin 30 = .ok (.putfield 38, 3) := by decide +kernel
theorem dX7_begin_33 : decode cX7_begin 33 = .ok (.aload_n 0, 1) := by decide +kernel
theorem dX7_begin_34 : decode cX7_begin 34 = .ok (.iconst 0, 1) := by decide +kernel
theorem dX7_begin_35 : decode cX7_begin 35 = .ok (.putfield 41, 3) := by decide +kernel
theorem dX7_begin_38 : decode cX7_begin 38 = .ok (.aload_n 0, 1) := by decide +kernel
theorem dX7_begin_39 : decode cX7_begin 39 = .ok (.iconst 0, 1) := by decide +kernel
theorem dX7_begin_40 : decode cX7_begin 40 = .ok (.putfield 44, 3) := by decide +kernel
theorem dX7_begin_43 : decode cX7_begin 43 = .ok (.aload_n 0, 1) := by decide +kernel
theorem dX7_begin_44 : decode cX7_begin 44 = .ok (.iconst 0, 1) := by decide +kernel
theorem dX7_begin_45 : decode cX7_begin 45 = .ok (.putfield 47, 3) := by decide +kernel
theorem dX7_begin_48 : decode cX7_begin 48 = .ok (.aload_n 0, 1) := by decide +kernel
theorem dX7_begin_49 : decode cX7_begin 49 = .ok (.iconst 0, 1) := by decide +kernel
theorem dX7_begin_50 : decode cX7_begin 50 = .ok (.putfield 50, 3) := by decide +kernel
theorem dX7_begin_53 : decode cX7_begin 53 = .ok (.return_, 1) := by decide +kernel
theorem dX7_copyFrom_0 : decode cX7_copyFrom 0 = .ok (.iconst 0, 1) := by decide +kernel
theorem dX7_copyFrom_1 : decode cX7_copyFrom 1 = .ok (.istore_n 2, 1) := by decide +kernel
theorem dX7_copyFrom_2 : decode cX7_copyFrom 2 = .ok (.iload_n 2, 1) := by decide +kernel
theorem dX7_copyFrom_3 : decode cX7_copyFrom 3 = .ok (.bipush 8, 2) := by decide +kernel
theorem dX7_copyFrom_5 : decode cX7_copyFrom 5 = .ok (.if_icmp .ge 24, 3) := by decide +kernel
theorem dX7_copyFrom_8 : decode cX7_copyFrom 8 = .ok (.aload_n 0, 1) := by decide +kernel
theorem dX7_copyFrom_9 : decode cX7_copyFrom 9 = .ok (.getfield 11, 3) := by decide +kernel
theorem dX7_copyFrom_12 : decode cX7_copyFrom 12 = .ok (.iload_n 2, 1) := by decide +kernel
theorem dX7_copyFrom_13 : decode cX7_copyFrom 13 = .ok (.aaload, 1) := by decide +kernel
theorem dX7_copyFrom_14 : decode cX7_copyFrom 14 = .ok (.aload_n 1, 1) := by decide +kernel
theorem dX7_copyFrom_15 : decode cX7_copyFrom 15 = .ok (.getfield 11, 3) := by decide +kernel
theorem dX7_copyFrom_18 : decode cX7_copyFrom 18 = .ok (.iload_n 2, 1) := by decide +kernel
theorem dX7_copyFrom_19 : decode cX7_copyFrom 19 = .ok (.aaload, 1) := by decide +kernel
theorem dX7_copyFrom_20 : decode cX7_copyFrom 20 = .ok (.invokevirtual 53, 3) := by decide +kernel
theorem dX7_copyFrom_23 : decode cX7_copyFrom 23 = .ok (.iinc 2 1, 3) := by decide +kernel
theorem dX7_copyFrom_26 : decode cX7_copyFrom 26 = .ok (.goto (-24), 3) := by decide +kernel
theorem dX7_copyFrom_29 : decode cX7_copyFrom 29 = .ok (.aload_n 1, 1) := by decide +kernel
theorem dX7_copyFrom_30 : decode cX7_copyFrom 30 = .ok (.getfield 17, 3) := by decide +kernel
theorem dX7_copyFrom_33 : decode cX7_copyFrom 33 = .ok (.iconst 0, 1) := by decide +kernel
theorem dX7_copyFrom_34 : decode cX7_copyFrom 34 = .ok (.aload_n 0, 1) := by decide +kernel
theorem dX7_copyFrom_35 : decode cX7_copyFrom 35 = .ok (.getfield 17, 3) := by decide +kernel
theorem dX7_copyFrom_38 : decode cX7_copyFrom 38 = .ok (.iconst 0, 1) := by decide +kernel
theorem dX7_copyFrom_39 : decode cX7_copyFrom 39 = .ok (.bipush 20, 2) := by decide +kernel
theorem dX7_copyFrom_41 : decode cX7_copyFrom 41 = .ok (.invokestatic 57, 3) := by decide +kernel
theorem dX7_copyFrom_44 : decode cX7_copyFrom 44 = .ok (.aload_n 1, 1) := by decide +kernel
theorem dX7_copyFrom_45 : decode cX7_copyFrom 45 = .ok (.getfield 21, 3) := by decide +kernel
theorem dX7_copyFrom_48 : decode cX7_copyFrom 48 = .ok (.iconst 0, 1) := by decide +kernel
theorem dX7_copyFrom_49 : decode cX7_copyFrom 49 = .ok (.aload_n 0, 1) := by decide +kernel
theorem dX7_copyFrom_50 : decode cX7_copyFrom 50 = .ok (.getfield 21, 3) := by decide +kernel
theorem dX7_copyFrom_53 : decode cX7_copyFrom 53 = .ok (.iconst 0, 1) := by decide +kernel
theorem dX7_copyFrom_54 : decode cX7_copyFrom 54 = .ok (.bipush 8, 2) := by decide +kernel
theorem dX7_copyFrom_56 : decode cX7_copyFrom 56 = .ok (.invokestatic 57, 3) := by decide +kernel
theorem dX7_copyFrom_59 : decode cX7_copyFrom 59 = .ok (.aload_n 1, 1) := by decide +kernel
theorem dX7_copyFrom_60 : decode cX7_copyFrom 60 = .ok (.getfield 24, 3) := by decide +kernel
theorem dX7_copyFrom_63 : decode cX7_copyFrom 63 = .ok (.iconst 0, 1) := by decide +kernel
theorem dX7_copyFrom_64 : decode cX7_copyFrom 64 = .ok (.aload_n 0, 1) := by decide +kernel
theorem dX7_copyFrom_65 : decode cX7_copyFrom 65 = .ok (.getfield 24, 3) := by decide +kernel
theorem dX7_copyFrom_68 : decode cX7_copyFrom 68 = .ok (.iconst 0, 1) := by decide +kernel
theorem dX7_copyFrom_69 : decode cX7_copyFrom 69 = .ok (.bipush 8, 2) := by decide +kernel
theorem dX7_copyFrom_71 : decode cX7_copyFrom 71 = .ok (.invokestatic 57, 3) := by decide +kernel
theorem dX7_copyFrom_74 : decode cX7_copyFrom 74 = .ok (.aload_n 1, 1) := by decide +kernel
theorem dX7_copyFrom_75 : decode cX7_copyFrom 75 = .ok (.getfield 27, 3) := by decide +kernel
theorem dX7_copyFrom_78 : decode cX7_copyFrom 78 = .ok (.iconst 0, 1) := by decide +kernel
theorem dX7_copyFrom_79 : decode cX7_copyFrom 79 = .ok (.aload_n 0, 1) := by decide +kernel
theorem dX7_copyFrom_80 : decode cX7_copyFrom 80 = .ok (.getfield 27, 3) := by decide +kernel
theorem dX7_copyFrom_83 : decode cX7_copyFrom 83 = .ok (.iconst 0, 1) := by decide +kernel
theorem dX7_copyFrom_84 : decode cX7_copyFrom 84 = .ok (.bipush 8, 2) := by decide +kernel
theorem dX7_copyFrom_86 : decode cX7_copyFrom 86 = .ok (.invokestatic 57, 3) := by decide +kernel
theorem dX7_copyFrom_89 : decode cX7_copyFrom 89 = .ok (.aload_n 0, 1) := by decide +kernel
theorem dX7_copyFrom_90 : decode cX7_copyFrom 90 = .ok (.aload_n 1, 1) := by decide +kernel
theorem dX7_copyFrom_91 : decode cX7_copyFrom 91 = .ok (.getfield 34, 3) := by decide +kernel
theorem dX7_copyFrom_94 : decode cX7_copyFrom 94 = .ok (.putfield 34, 3) := by decide +kernel
theorem dX7_copyFrom_97 : decode cX7_copyFrom 97 = .ok (.aload_n 0, 1) := by decide +kernel
theorem dX7_copyFrom_98 : decode cX7_copyFrom 98 = .ok (.aload_n 1, 1) := by decide +kernel
theorem dX7_copyFrom_99 : decode cX7_copyFrom 99 = .ok (.getfield 38, 3) := by decide +kernel
theorem dX7_copyFrom_102 : decode cX7_copyFrom 102 = .ok (.putfield 38, 3) := by decide +kernel
theorem dX7_copyFrom_105 : decode cX7_copyFrom 105 = .ok (.aload_n 0, 1) := by decide +kernel
theorem dX7_copyFrom_106 : decode cX7_copyFrom 106 = .ok (.aload_n 1, 1) := by decide +kernel
theorem dX7_copyFrom_107 : decode cX7_copyFrom 107 = .ok (.getfield 41, 3) := by decide +kernel
theorem dX7_copyFrom_110 : decode cX7_copyFrom 110 = .ok (.putfield 41, 3) := by decide +kernel
theorem dX7_copyFrom_113 : decode cX7_copyFrom 113 = .ok (.aload_n 0, 1) := by decide +kernel
theorem dX7_copyFrom_114 : decode cX7_copyFrom 114 = .ok (.aload_n 1, 1) := by decide +kernel
theorem dX7_copyFrom_115 : decode cX7_copyFrom 115 = .ok (.getfield 44, 3) := by decide +kernel
theorem dX7_copyFrom_118 : decode cX7_copyFrom 118 = .ok (.putfield 44, 3) := by decide +kernel
theorem dX7_copyFrom_121 : decode cX7_copyFrom 121 = .ok (.aload_n 0, 1) := by decide +kernel
theorem dX7_copyFrom_122 : decode cX7_copyFrom 122 = .ok (.aload_n 1, 1) := by decide +kernel
theorem dX7_copyFrom_123 : decode cX7_copyFrom 123 = .ok (.getfield 47, 3) := by decide +kernel
theorem dX7_copyFrom_126 : decode cX7_copyFrom 126 = .ok (.putfield 47, 3) := by decide +kernel
theorem dX7_copyFrom_129 : decode cX7_copyFrom 129 = .ok (.aload_n 0, 1) := by decide +kernel
theorem dX7_copyFrom_130 : decode cX7_copyFrom 130 = .ok (.aload_n 1, 1) := by decide +kernel
theorem dX7_copyFrom_131 : decode cX7_copyFrom 131 = .ok (.getfield 50, 3) := by decide +kernel
theorem dX7_copyFrom_134 : decode cX7_copyFrom 134 = .ok (.putfield 50, 3) := by decide +kernel
theorem dX7_copyFrom_137 : decode cX7_copyFrom 137 = .ok (.return_, 1) := by decide +kernel
theorem dX7_howManyKept_0 : decode cX7_howManyKept 0 = .ok (.aload_n 0, 1) := by decide +kernel
theorem dX7_howManyKept_1 : decode cX7_howManyKept 1 = .ok (.getfield 41, 3) := by decide +kernel
theorem dX7_howManyKept_4 : decode cX7_howManyKept 4 = .ok (.aload_n 0, 1) := by decide +kernel
theorem dX7_howManyKept_5 : decode cX7_howManyKept 5 = .ok (.getfield 44, 3) := by decide +kernel
theorem dX7_howManyKept_8 : decode cX7_howManyKept 8 = .ok (.isub, 1) := by decide +kernel
theorem dX7_howManyKept_9 : decode cX7_howManyKept 9 = .ok (.bipush 7, 2) := by decide +kernel
theorem dX7_howManyKept_11 : decode cX7_howManyKept 11 = .ok (.iand, 1) := by decide +kernel
theorem dX7_howManyKept_12 : decode cX7_howManyKept 12 = .ok (.ireturn, 1) := by decide +kernel
theorem dX7_isKept_0 : decode cX7_isKept 0 = .ok (.iload_n 1, 1) := by decide +kernel
theorem dX7_isKept_1 : decode cX7_isKept 1 = .ok (.aload_n 0, 1) := by decide +kernel
theorem dX7_isKept_2 : decode cX7_isKept 2 = .ok (.getfield 44, 3) := by decide +kernel
theorem dX7_isKept_5 : decode cX7_isKept 5 = .ok (.isub, 1) := by decide +kernel
theorem dX7_isKept_6 : decode cX7_isKept 6 = .ok (.bipush 7, 2) := by decide +kernel
theorem dX7_isKept_8 : decode cX7_isKept 8 = .ok (.iand, 1) := by decide +kernel
theorem dX7_isKept_9 : decode cX7_isKept 9 = .ok (.aload_n 0, 1) := by decide +kernel
theorem dX7_isKept_10 : decode cX7_isKept 10 = .ok (.invokevirtual 63, 3) := by decide +kernel
theorem dX7_isKept_13 : decode cX7_isKept 13 = .ok (.if_icmp .ge 7, 3) := by decide +kernel
theorem dX7_isKept_16 : decode cX7_isKept 16 = .ok (.iconst 1, 1) := by decide +kernel
theorem dX7_isKept_17 : decode cX7_isKept 17 = .ok (.goto 4, 3) := by decide +kernel
theorem dX7_isKept_20 : decode cX7_isKept 20 = .ok (.iconst 0, 1) := by decide +kernel
theorem dX7_isKept_21 : decode cX7_isKept 21 = .ok (.ireturn, 1) := by decide +kernel
theorem dX7_isClear_0 : decode cX7_isClear 0 = .ok (.aload_n 0, 1) := by decide +kernel
theorem dX7_isClear_1 : decode cX7_isClear 1 = .ok (.getfield 34, 3) := by decide +kernel
theorem dX7_isClear_4 : decode cX7_isClear 4 = .ok (.ifCond .ne 18, 3) := by decide +kernel
theorem dX7_isClear_7 : decode cX7_isClear 7 = .ok (.aload_n 0, 1) := by decide +kernel
theorem dX7_isClear_8 : decode cX7_isClear 8 = .ok (.getfield 44, 3) := by decide +kernel
theorem dX7_isClear_11 : decode cX7_isClear 11 = .ok (.aload_n 0, 1) := by decide +kernel
theorem dX7_isClear_12 : decode cX7_isClear 12 = .ok (.getfield 41, 3) := by decide +kernel
theorem dX7_isClear_15 : decode cX7_isClear 15 = .ok (.if_icmp .ne 7, 3) := by decide +kernel
theorem dX7_isClear_18 : decode cX7_isClear 18 = .ok (.iconst 1, 1) := by decide +kernel
theorem dX7_isClear_19 : decode cX7_isClear 19 = .ok (.goto 4, 3) := by decide +kernel
theorem dX7_isClear_22 : decode cX7_isClear 22 = .ok (.iconst 0, 1) := by decide +kernel
theorem dX7_isClear_23 : decode cX7_isClear 23 = .ok (.ireturn, 1) := by decide +kernel
theorem dX7_isAble_0 : decode cX7_isAble 0 = .ok (.aload_n 0, 1) := by decide +kernel
theorem dX7_isAble_1 : decode cX7_isAble 1 = .ok (.getfield 11, 3) := by decide +kernel
theorem dX7_isAble_4 : decode cX7_isAble 4 = .ok (.iload_n 1, 1) := by decide +kernel
theorem dX7_isAble_5 : decode cX7_isAble 5 = .ok (.aaload, 1) := by decide +kernel
theorem dX7_isAble_6 : decode cX7_isAble 6 = .ok (.astore_n 3, 1) := by decide +kernel
theorem dX7_isAble_7 : decode cX7_isAble 7 = .ok (.aload_n 3, 1) := by decide +kernel
theorem dX7_isAble_8 : decode cX7_isAble 8 = .ok (.getfield 67, 3) := by decide +kernel
theorem dX7_isAble_11 : decode cX7_isAble 11 = .ok (.ifCond .eq 5, 3) := by decide +kernel
theorem dX7_isAble_14 : decode cX7_isAble 14 = .ok (.iconst 0, 1) := by decide +kernel
theorem dX7_isAble_15 : decode cX7_isAble 15 = .ok (.ireturn, 1) := by decide +kernel
theorem dX7_isAble_16 : decode cX7_isAble 16 = .ok (.aload_n 3, 1) := by decide +kernel
theorem dX7_isAble_17 : decode cX7_isAble 17 = .ok (.getfield 71, 3) := by decide +kernel
theorem dX7_isAble_20 : decode cX7_isAble 20 = .ok (.iconst (-1), 1) := by decide +kernel
theorem dX7_isAble_21 : decode cX7_isAble 21 = .ok (.if_icmp .ne 25, 3) := by decide +kernel
theorem dX7_isAble_24 : decode cX7_isAble 24 = .ok (.aload_n 0, 1) := by decide +kernel
theorem dX7_isAble_25 : decode cX7_isAble 25 = .ok (.getfield 38, 3) := by decide +kernel
theorem dX7_isAble_28 : decode cX7_isAble 28 = .ok (.ifCond .gt 18, 3) := by decide +kernel
theorem dX7_isAble_31 : decode cX7_isAble 31 = .ok (.aload_n 0, 1) := by decide +kernel
theorem dX7_isAble_32 : decode cX7_isAble 32 = .ok (.getfield 34, 3) := by decide +kernel
theorem dX7_isAble_35 : decode cX7_isAble 35 = .ok (.ifCond .le 15, 3) := by decide +kernel
theorem dX7_isAble_38 : decode cX7_isAble 38 = .ok (.aload_n 0, 1) := by decide +kernel
theorem dX7_isAble_39 : decode cX7_isAble 39 = .ok (.invokevirtual 63, 3) := by decide +kernel
theorem dX7_isAble_42 : decode cX7_isAble 42 = .ok (.iload_n 2, 1) := by decide +kernel
theorem dX7_isAble_43 : decode cX7_isAble 43 = .ok (.if_icmp .ge 7, 3) := by decide +kernel
theorem dX7_isAble_46 : decode cX7_isAble 46 = .ok (.iconst 1, 1) := by decide +kernel
theorem dX7_isAble_47 : decode cX7_isAble 47 = .ok (.goto 4, 3) := by decide +kernel
theorem dX7_isAble_50 : decode cX7_isAble 50 = .ok (.iconst 0, 1) := by decide +kernel
theorem dX7_isAble_51 : decode cX7_isAble 51 = .ok (.ireturn, 1) := by decide +kernel
theorem dX7_wordOn_0 : decode cX7_wordOn 0 = .ok (.aload_n 1, 1) := by decide +kernel
theorem dX7_wordOn_1 : decode cX7_wordOn 1 = .ok (.getfield 71, 3) := by decide +kernel
theorem dX7_wordOn_4 : decode cX7_wordOn 4 = .ok (.iconst 5, 1) := by decide +kernel
theorem dX7_wordOn_5 : decode cX7_wordOn 5 = .ok (.ishl, 1) := by decide +kernel
theorem dX7_wordOn_6 : decode cX7_wordOn 6 = .ok (.aload_n 0, 1) := by decide +kernel
theorem dX7_wordOn_7 : decode cX7_wordOn 7 = .ok (.getfield 21, 3) := by decide +kernel
theorem dX7_wordOn_10 : decode cX7_wordOn 10 = .ok (.aload_n 1, 1) := by decide +kernel
theorem dX7_wordOn_11 : decode cX7_wordOn 11 = .ok (.getfield 71, 3) := by decide +kernel
theorem dX7_wordOn_14 : decode cX7_wordOn 14 = .ok (.iaload, 1) := by decide +kernel
theorem dX7_wordOn_15 : decode cX7_wordOn 15 = .ok (.ior, 1) := by decide +kernel
theorem dX7_wordOn_16 : decode cX7_wordOn 16 = .ok (.invokestatic 74, 3) := by decide +kernel
theorem dX7_wordOn_19 : decode cX7_wordOn 19 = .ok (.ireturn, 1) := by decide +kernel
theorem dX7_fill_0 : decode cX7_fill 0 = .ok (.aload_n 1, 1) := by decide +kernel
theorem dX7_fill_1 : decode cX7_fill 1 = .ok (.iconst 1, 1) := by decide +kernel
theorem dX7_fill_2 : decode cX7_fill 2 = .ok (.aload_n 1, 1) := by decide +kernel
theorem dX7_fill_3 : decode cX7_fill 3 = .ok (.getfield 80, 3) := by decide +kernel
theorem dX7_fill_6 : decode cX7_fill 6 = .ok (.isub, 1) := by decide +kernel
theorem dX7_fill_7 : decode cX7_fill 7 = .ok (.putfield 80, 3) := by decide +kernel
theorem dX7_fill_10 : decode cX7_fill 10 = .ok (.aload_n 1, 1) := by decide +kernel
theorem dX7_fill_11 : decode cX7_fill 11 = .ok (.iconst 0, 1) := by decide +kernel
theorem dX7_fill_12 : decode cX7_fill 12 = .ok (.putfield 83, 3) := by decide +kernel
theorem dX7_fill_15 : decode cX7_fill 15 = .ok (.aload_n 1, 1) := by decide +kernel
theorem dX7_fill_16 : decode cX7_fill 16 = .ok (.getfield 86, 3) := by decide +kernel
theorem dX7_fill_19 : decode cX7_fill 19 = .ok (.iconst 0, 1) := by decide +kernel
theorem dX7_fill_20 : decode cX7_fill 20 = .ok (.invokestatic 89, 3) := by decide +kernel
theorem dX7_fill_23 : decode cX7_fill 23 = .ok (.aload_n 0, 1) := by decide +kernel
theorem dX7_fill_24 : decode cX7_fill 24 = .ok (.getfield 38, 3) := by decide +kernel
theorem dX7_fill_27 : decode cX7_fill 27 = .ok (.ifCond .le 41, 3) := by decide +kernel
theorem dX7_fill_30 : decode cX7_fill 30 = .ok (.aload_n 1, 1) := by decide +kernel
theorem dX7_fill_31 : decode cX7_fill 31 = .ok (.aload_n 0, 1) := by decide +kernel
theorem dX7_fill_32 : decode cX7_fill 32 = .ok (.getfield 27, 3) := by decide +kernel
theorem dX7_fill_35 : decode cX7_fill 35 = .ok (.iconst 0, 1) := by decide +kernel
theorem dX7_fill_36 : decode cX7_fill 36 = .ok (.iaload, 1) := by decide +kernel
theorem dX7_fill_37 : decode cX7_fill 37 = .ok (.putfield 71, 3) := by decide +kernel
theorem dX7_fill_40 : decode cX7_fill 40 = .ok (.aload_n 0, 1) := by decide +kernel
theorem dX7_fill_41 : decode cX7_fill 41 = .ok (.dup, 1) := by decide +kernel
theorem dX7_fill_42 : decode cX7_fill 42 = .ok (.getfield 38, 3) := by decide +kernel
theorem dX7_fill_45 : decode cX7_fill 45 = .ok (.iconst 1, 1) := by decide +kernel
theorem dX7_fill_46 : decode cX7_fill 46 = .ok (.isub, 1) := by decide +kernel
theorem dX7_fill_47 : decode cX7_fill 47 = .ok (.putfield 38, 3) := by decide +kernel
theorem dX7_fill_50 : decode cX7_fill 50 = .ok (.aload_n 0, 1) := by decide +kernel
theorem dX7_fill_51 : decode cX7_fill 51 = .ok (.getfield 27, 3) := by decide +kernel
theorem dX7_fill_54 : decode cX7_fill 54 = .ok (.iconst 1, 1) := by decide +kernel
theorem dX7_fill_55 : decode cX7_fill 55 = .ok (.aload_n 0, 1) := by decide +kernel
theorem dX7_fill_56 : decode cX7_fill 56 = .ok (.getfield 27, 3) := by decide +kernel
theorem dX7_fill_59 : decode cX7_fill 59 = .ok (.iconst 0, 1) := by decide +kernel
theorem dX7_fill_60 : decode cX7_fill 60 = .ok (.aload_n 0, 1) := by decide +kernel
theorem dX7_fill_61 : decode cX7_fill 61 = .ok (.getfield 38, 3) := by decide +kernel
theorem dX7_fill_64 : decode cX7_fill 64 = .ok (.invokestatic 57, 3) := by decide +kernel
theorem dX7_fill_67 : decode cX7_fill 67 = .ok (.return_, 1) := by decide +kernel
theorem dX7_fill_68 : decode cX7_fill 68 = .ok (.aload_n 1, 1) := by decide +kernel
theorem dX7_fill_69 : decode cX7_fill 69 = .ok (.aload_n 0, 1) := by decide +kernel
theorem dX7_fill_70 : decode cX7_fill 70 = .ok (.getfield 41, 3) := by decide +kernel
theorem dX7_fill_73 : decode cX7_fill 73 = .ok (.putfield 71, 3) := by decide +kernel
theorem dX7_fill_76 : decode cX7_fill 76 = .ok (.aload_n 0, 1) := by decide +kernel
theorem dX7_fill_77 : decode cX7_fill 77 = .ok (.getfield 21, 3) := by decide +kernel
theorem dX7_fill_80 : decode cX7_fill 80 = .ok (.aload_n 0, 1) := by decide +kernel
theorem dX7_fill_81 : decode cX7_fill 81 = .ok (.getfield 41, 3) := by decide +kernel
theorem dX7_fill_84 : decode cX7_fill 84 = .ok (.aload_n 0, 1) := by decide +kernel
theorem dX7_fill_85 : decode cX7_fill 85 = .ok (.getfield 17, 3) := by decide +kernel
theorem dX7_fill_88 : decode cX7_fill 88 = .ok (.iconst 0, 1) := by decide +kernel
theorem dX7_fill_89 : decode cX7_fill 89 = .ok (.iaload, 1) := by decide +kernel
theorem dX7_fill_90 : decode cX7_fill 90 = .ok (.iastore, 1) := by decide +kernel
theorem dX7_fill_91 : decode cX7_fill 91 = .ok (.aload_n 0, 1) := by decide +kernel
theorem dX7_fill_92 : decode cX7_fill 92 = .ok (.getfield 24, 3) := by decide +kernel
theorem dX7_fill_95 : decode cX7_fill 95 = .ok (.aload_n 0, 1) := by decide +kernel
theorem dX7_fill_96 : decode cX7_fill 96 = .ok (.getfield 41, 3) := by decide +kernel
theorem dX7_fill_99 : decode cX7_fill 99 = .ok (.iconst 0, 1) := by decide +kernel
theorem dX7_fill_100 : decode cX7_fill 100 = .ok (.iastore, 1) := by decide +kernel
theorem dX7_fill_101 : decode cX7_fill 101 = .ok (.aload_n 0, 1) := by decide +kernel
theorem dX7_fill_102 : decode cX7_fill 102 = .ok (.dup, 1) := by decide +kernel
theorem dX7_fill_103 : decode cX7_fill 103 = .ok (.getfield 34, 3) := by decide +kernel
theorem dX7_fill_106 : decode cX7_fill 106 = .ok (.iconst 1, 1) := by decide +kernel
theorem dX7_fill_107 : decode cX7_fill 107 = .ok (.isub, 1) := by decide +kernel
theorem dX7_fill_108 : decode cX7_fill 108 = .ok (.putfield 34, 3) := by decide +kernel
theorem dX7_fill_111 : decode cX7_fill 111 = .ok (.aload_n 0, 1) := by decide +kernel
theorem dX7_fill_112 : decode cX7_fill 112 = .ok (.getfield 17, 3) := by decide +kernel
theorem dX7_fill_115 : decode cX7_fill 115 = .ok (.iconst 1, 1) := by decide +kernel
theorem dX7_fill_116 : decode cX7_fill 116 = .ok (.aload_n 0, 1) := by decide +kernel
theorem dX7_fill_117 : decode cX7_fill 117 = .ok (.getfield 17, 3) := by decide +kernel
theorem dX7_fill_120 : decode cX7_fill 120 = .ok (.iconst 0, 1) := by decide +kernel
theorem dX7_fill_121 : decode cX7_fill 121 = .ok (.aload_n 0, 1) := by decide +kernel
theorem dX7_fill_122 : decode cX7_fill 122 = .ok (.getfield 34, 3) := by decide +kernel
theorem dX7_fill_125 : decode cX7_fill 125 = .ok (.invokestatic 57, 3) := by decide +kernel
theorem dX7_fill_128 : decode cX7_fill 128 = .ok (.aload_n 0, 1) := by decide +kernel
theorem dX7_fill_129 : decode cX7_fill 129 = .ok (.aload_n 0, 1) := by decide +kernel
theorem dX7_fill_130 : decode cX7_fill 130 = .ok (.getfield 41, 3) := by decide +kernel
theorem dX7_fill_133 : decode cX7_fill 133 = .ok (.iconst 1, 1) := by decide +kernel
theorem dX7_fill_134 : decode cX7_fill 134 = .ok (.iadd, 1) := by decide +kernel
theorem dX7_fill_135 : decode cX7_fill 135 = .ok (.bipush 7, 2) := by decide +kernel
theorem dX7_fill_137 : decode cX7_fill 137 = .ok (.iand, 1) := by decide +kernel
theorem dX7_fill_138 : decode cX7_fill 138 = .ok (.putfield 41, 3) := by decide +kernel
theorem dX7_fill_141 : decode cX7_fill 141 = .ok (.return_, 1) := by decide +kernel
theorem dX7_learn_0 : decode cX7_learn 0 = .ok (.aload_n 1, 1) := by decide +kernel
theorem dX7_learn_1 : decode cX7_learn 1 = .ok (.getfield 95, 3) := by decide +kernel
theorem dX7_learn_4 : decode cX7_learn 4 = .ok (.istore_n 2, 1) := by decide +kernel
theorem dX7_learn_5 : decode cX7_learn 5 = .ok (.aload_n 0, 1) := by decide +kernel
theorem dX7_learn_6 : decode cX7_learn 6 = .ok (.iconst 0, 1) := by decide +kernel
theorem dX7_learn_7 : decode cX7_learn 7 = .ok (.putfield 38, 3) := by decide +kernel
theorem dX7_learn_10 : decode cX7_learn 10 = .ok (.iload_n 2, 1) := by decide +kernel
theorem dX7_learn_11 : decode cX7_learn 11 = .ok (.aload_n 0, 1) := by decide +kernel
theorem dX7_learn_12 : decode cX7_learn 12 = .ok (.getfield 44, 3) := by decide +kernel
theorem dX7_learn_15 : decode cX7_learn 15 = .ok (.isub, 1) := by decide +kernel
theorem dX7_learn_16 : decode cX7_learn 16 = .ok (.bipush 7, 2) := by decide +kernel
theorem dX7_learn_18 : decode cX7_learn 18 = .ok (.iand, 1) := by decide +kernel
theorem dX7_learn_19 : decode cX7_learn 19 = .ok (.aload_n 0, 1) := by decide +kernel
theorem dX7_learn_20 : decode cX7_learn 20 = .ok (.invokevirtual 63, 3) := by decide +kernel
theorem dX7_learn_23 : decode cX7_learn 23 = .ok (.if_icmp .le 18, 3) := by decide +kernel
theorem dX7_learn_26 : decode cX7_learn 26 = .ok (.aload_n 0, 1) := by decide +kernel
theorem dX7_learn_27 : decode cX7_learn 27 = .ok (.dup, 1) := by decide +kernel
theorem dX7_learn_28 : decode cX7_learn 28 = .ok (.getfield 50, 3) := by decide +kernel
theorem dX7_learn_31 : decode cX7_learn 31 = .ok (.iconst 1, 1) := by decide +kernel
theorem dX7_learn_32 : decode cX7_learn 32 = .ok (.iadd, 1) := by decide +kernel
theorem dX7_learn_33 : decode cX7_learn 33 = .ok (.putfield 50, 3) := by decide +kernel
theorem dX7_learn_36 : decode cX7_learn 36 = .ok (.aload_n 0, 1) := by decide +kernel
theorem dX7_learn_37 : decode cX7_learn 37 = .ok (.iload_n 2, 1) := by decide +kernel
theorem dX7_learn_38 : decode cX7_learn 38 = .ok (.putfield 41, 3) := by decide +kernel
theorem dX7_learn_41 : decode cX7_learn 41 = .ok (.aload_n 0, 1) := by decide +kernel
theorem dX7_learn_42 : decode cX7_learn 42 = .ok (.iload_n 2, 1) := by decide +kernel
theorem dX7_learn_43 : decode cX7_learn 43 = .ok (.putfield 44, 3) := by decide +kernel
theorem dX7_learn_46 : decode cX7_learn 46 = .ok (.iconst 0, 1) := by decide +kernel
theorem dX7_learn_47 : decode cX7_learn 47 = .ok (.istore_n 3, 1) := by decide +kernel
theorem dX7_learn_48 : decode cX7_learn 48 = .ok (.iconst 0, 1) := by decide +kernel
theorem dX7_learn_49 : decode cX7_learn 49 = .ok (.istore 4, 2) := by decide +kernel
theorem dX7_learn_51 : decode cX7_learn 51 = .ok (.iload 4, 2) := by decide +kernel
theorem dX7_learn_53 : decode cX7_learn 53 = .ok (.bipush 8, 2) := by decide +kernel
theorem dX7_learn_55 : decode cX7_learn 55 = .ok (.if_icmp .ge 63, 3) := by decide +kernel
theorem dX7_learn_58 : decode cX7_learn 58 = .ok (.aload_n 0, 1) := by decide +kernel
theorem dX7_learn_59 : decode cX7_learn 59 = .ok (.getfield 11, 3) := by decide +kernel
theorem dX7_learn_62 : decode cX7_learn 62 = .ok (.iload 4, 2) := by decide +kernel
theorem dX7_learn_64 : decode cX7_learn 64 = .ok (.aaload, 1) := by decide +kernel
theorem dX7_learn_65 : decode cX7_learn 65 = .ok (.astore 5, 2) := by decide +kernel
theorem dX7_learn_67 : decode cX7_learn 67 = .ok (.aload 5, 2) := by decide +kernel
theorem dX7_learn_69 : decode cX7_learn 69 = .ok (.getfield 71, 3) := by decide +kernel
theorem dX7_learn_72 : decode cX7_learn 72 = .ok (.iconst (-1), 1) := by decide +kernel
theorem dX7_learn_73 : decode cX7_learn 73 = .ok (.if_icmp .eq 20, 3) := by decide +kernel
theorem dX7_learn_76 : decode cX7_learn 76 = .ok (.aload_n 0, 1) := by decide +kernel
theorem dX7_learn_77 : decode cX7_learn 77 = .ok (.aload 5, 2) := by decide +kernel
theorem dX7_learn_79 : decode cX7_learn 79 = .ok (.getfield 71, 3) := by decide +kernel
theorem dX7_learn_82 : decode cX7_learn 82 = .ok (.invokevirtual 100, 3) := by decide +kernel
theorem dX7_learn_85 : decode cX7_learn 85 = .ok (.ifCond .ne 8, 3) := by decide +kernel
theorem dX7_learn_88 : decode cX7_learn 88 = .ok (.aload 5, 2) := by decide +kernel
theorem dX7_learn_90 : decode cX7_learn 90 = .ok (.invokevirtual 104, 3) := by decide +kernel
theorem dX7_learn_93 : decode cX7_learn 93 = .ok (.aload 5, 2) := by decide +kernel
theorem dX7_learn_95 : decode cX7_learn 95 = .ok (.getfield 71, 3) := by decide +kernel
theorem dX7_learn_98 : decode cX7_learn 98 = .ok (.iconst (-1), 1) := by decide +kernel
theorem dX7_learn_99 : decode cX7_learn 99 = .ok (.if_icmp .eq 13, 3) := by decide +kernel
theorem dX7_learn_102 : decode cX7_learn 102 = .ok (.iload_n 3, 1) := by decide +kernel
theorem dX7_learn_103 : decode cX7_learn 103 = .ok (.iconst 1, 1) := by decide +kernel
theorem dX7_learn_104 : decode cX7_learn 104 = .ok (.aload 5, 2) := by decide +kernel
theorem dX7_learn_106 : decode cX7_learn 106 = .ok (.getfield 71, 3) := by decide +kernel
theorem dX7_learn_109 : decode cX7_learn 109 = .ok (.ishl, 1) := by decide +kernel
theorem dX7_learn_110 : decode cX7_learn 110 = .ok (.ior, 1) := by decide +kernel
theorem dX7_learn_111 : decode cX7_learn 111 = .ok (.istore_n 3, 1) := by decide +kernel
theorem dX7_learn_112 : decode cX7_learn 112 = .ok (.iinc 4 1, 3) := by decide +kernel
theorem dX7_learn_115 : decode cX7_learn 115 = .ok (.goto (-64), 3) := by decide +kernel
theorem dX7_learn_118 : decode cX7_learn 118 = .ok (.aload_n 0, 1) := by decide +kernel
theorem dX7_learn_119 : decode cX7_learn 119 = .ok (.invokevirtual 63, 3) := by decide +kernel
theorem dX7_learn_122 : decode cX7_learn 122 = .ok (.istore 4, 2) := by decide +kernel
theorem dX7_learn_124 : decode cX7_learn 124 = .ok (.iconst 0, 1) := by decide +kernel
theorem dX7_learn_125 : decode cX7_learn 125 = .ok (.istore 5, 2) := by decide +kernel
theorem dX7_learn_127 : decode cX7_learn 127 = .ok (.iload 5, 2) := by decide +kernel
theorem dX7_learn_129 : decode cX7_learn 129 = .ok (.iload 4, 2) := by decide +kernel
theorem dX7_learn_131 : decode cX7_learn 131 = .ok (.if_icmp .ge 84, 3) := by decide +kernel
theorem dX7_learn_134 : decode cX7_learn 134 = .ok (.aload_n 0, 1) := by decide +kernel
theorem dX7_learn_135 : decode cX7_learn 135 = .ok (.getfield 44, 3) := by decide +kernel
theorem dX7_learn_138 : decode cX7_learn 138 = .ok (.iload 5, 2) := by decide +kernel
theorem dX7_learn_140 : decode cX7_learn 140 = .ok (.iadd, 1) := by decide +kernel
theorem dX7_learn_141 : decode cX7_learn 141 = .ok (.bipush 7, 2) := by decide +kernel
theorem dX7_learn_143 : decode cX7_learn 143 = .ok (.iand, 1) := by decide +kernel
theorem dX7_learn_144 : decode cX7_learn 144 = .ok (.istore 6, 2) := by decide +kernel
theorem dX7_learn_146 : decode cX7_learn 146 = .ok (.aload_n 0, 1) := by decide +kernel
theorem dX7_learn_147 : decode cX7_learn 147 = .ok (.getfield 24, 3) := by decide +kernel
theorem dX7_learn_150 : decode cX7_learn 150 = .ok (.iload 6, 2) := by decide +kernel
theorem dX7_learn_152 : decode cX7_learn 152 = .ok (.aload_n 1, 1) := by decide +kernel
theorem dX7_learn_153 : decode cX7_learn 153 = .ok (.getfield 107, 3) := by decide +kernel
theorem dX7_learn_156 : decode cX7_learn 156 = .ok (.iload 6, 2) := by decide +kernel
theorem dX7_learn_158 : decode cX7_learn 158 = .ok (.iaload, 1) := by decide +kernel
theorem dX7_learn_159 : decode cX7_learn 159 = .ok (.iconst (-1), 1) := by decide +kernel
theorem dX7_learn_160 : decode cX7_learn 160 = .ok (.if_icmp .eq 7, 3) := by decide +kernel
theorem dX7_learn_163 : decode cX7_learn 163 = .ok (.iconst 1, 1) := by decide +kernel
theorem dX7_learn_164 : decode cX7_learn 164 = .ok (.goto 4, 3) := by decide +kernel
theorem dX7_learn_167 : decode cX7_learn 167 = .ok (.iconst 0, 1) := by decide +kernel
theorem dX7_learn_168 : decode cX7_learn 168 = .ok (.iastore, 1) := by decide +kernel
theorem dX7_learn_169 : decode cX7_learn 169 = .ok (.aload_n 0, 1) := by decide +kernel
theorem dX7_learn_170 : decode cX7_learn 170 = .ok (.getfield 24, 3) := by decide +kernel
theorem dX7_learn_173 : decode cX7_learn 173 = .ok (.iload 6, 2) := by decide +kernel
theorem dX7_learn_175 : decode cX7_learn 175 = .ok (.iaload, 1) := by decide +kernel
theorem dX7_learn_176 : decode cX7_learn 176 = .ok (.ifCond .ne 33, 3) := by decide +kernel
theorem dX7_learn_179 : decode cX7_learn 179 = .ok (.iload_n 3, 1) := by decide +kernel
theorem dX7_learn_180 : decode cX7_learn 180 = .ok (.iload 6, 2) := by decide +kernel
theorem dX7_learn_182 : decode cX7_learn 182 = .ok (.ishr, 1) := by decide +kernel
theorem dX7_learn_183 : decode cX7_learn 183 = .ok (.iconst 1, 1) := by decide +kernel
theorem dX7_learn_184 : decode cX7_learn 184 = .ok (.iand, 1) := by decide +kernel
theorem dX7_learn_185 : decode cX7_learn 185 = .ok (.ifCond .ne 24, 3) := by decide +kernel
theorem dX7_learn_188 : decode cX7_learn 188 = .ok (.aload_n 0, 1) := by decide +kernel
theorem dX7_learn_189 : decode cX7_learn 189 = .ok (.getfield 27, 3) := by decide +kernel
theorem dX7_learn_192 : decode cX7_learn 192 = .ok (.aload_n 0, 1) := by decide +kernel
theorem dX7_learn_193 : decode cX7_learn 193 = .ok (.getfield 38, 3) := by decide +kernel
theorem dX7_learn_196 : decode cX7_learn 196 = .ok (.iload 6, 2) := by decide +kernel
theorem dX7_learn_198 : decode cX7_learn 198 = .ok (.iastore, 1) := by decide +kernel
theorem dX7_learn_199 : decode cX7_learn 199 = .ok (.aload_n 0, 1) := by decide +kernel
theorem dX7_learn_200 : decode cX7_learn 200 = .ok (.dup, 1) := by decide +kernel
theorem dX7_learn_201 : decode cX7_learn 201 = .ok (.getfield 38, 3) := by decide +kernel
theorem dX7_learn_204 : decode cX7_learn 204 = .ok (.iconst 1, 1) := by decide +kernel
theorem dX7_learn_205 : decode cX7_learn 205 = .ok (.iadd, 1) := by decide +kernel
theorem dX7_learn_206 : decode cX7_learn 206 = .ok (.putfield 38, 3) := by decide +kernel
theorem dX7_learn_209 : decode cX7_learn 209 = .ok (.iinc 5 1, 3) := by decide +kernel
theorem dX7_learn_212 : decode cX7_learn 212 = .ok (.goto (-85), 3) := by decide +kernel
theorem dX7_learn_215 : decode cX7_learn 215 = .ok (.return_, 1) := by decide +kernel
theorem dX8_init_0 : decode cX8_init 0 = .ok (.aload_n 0, 1) := by decide +kernel
theorem dX8_init_1 : decode cX8_init 1 = .ok (.invokespecial 3, 3) := by decide +kernel
theorem dX8_init_4 : decode cX8_init 4 = .ok (.aload_n 0, 1) := by decide +kernel
theorem dX8_init_5 : decode cX8_init 5 = .ok (.iconst (-1), 1) := by decide +kernel
theorem dX8_init_6 : decode cX8_init 6 = .ok (.putfield 9, 3) := by decide +kernel
theorem dX8_init_9 : decode cX8_init 9 = .ok (.aload_n 0, 1) := by decide +kernel
theorem dX8_init_10 : decode cX8_init 10 = .ok (.bipush 39, 2) := by decide +kernel
theorem dX8_init_12 : decode cX8_init 12 = .ok (.newarray .int, 2) := by decide +kernel
theorem dX8_init_14 : decode cX8_init 14 = .ok (.putfield 15, 3) := by decide +kernel
theorem dX8_init_17 : decode cX8_init 17 = .ok (.return_, 1) := by decide +kernel
theorem dX8_begin_0 : decode cX8_begin 0 = .ok (.aload_n 0, 1) := by decide +kernel
theorem dX8_begin_1 : decode cX8_begin 1 = .ok (.invokevirtual 19, 3) := by decide +kernel
theorem dX8_begin_4 : decode cX8_begin 4 = .ok (.aload_n 0, 1) := by decide +kernel
theorem dX8_begin_5 : decode cX8_begin 5 = .ok (.iconst 0, 1) := by decide +kernel
theorem dX8_begin_6 : decode cX8_begin 6 = .ok (.putfield 22, 3) := by decide +kernel
theorem dX8_begin_9 : decode cX8_begin 9 = .ok (.aload_n 0, 1) := by decide +kernel
theorem dX8_begin_10 : decode cX8_begin 10 = .ok (.iconst 0, 1) := by decide +kernel
theorem dX8_begin_11 : decode cX8_begin 11 = .ok (.putfield 25, 3) := by decide +kernel
theorem dX8_begin_14 : decode cX8_begin 14 = .ok (.aload_n 0, 1) := by decide +kernel
theorem dX8_begin_15 : decode cX8_begin 15 = .ok (.getfield 15, 3) := by decide +kernel
theorem dX8_begin_18 : decode cX8_begin 18 = .ok (.iconst 0, 1) := by decide +kernel
theorem dX8_begin_19 : decode cX8_begin 19 = .ok (.invokestatic 29, 3) := by decide +kernel
theorem dX8_begin_22 : decode cX8_begin 22 = .ok (.return_, 1) := by decide +kernel
theorem dX8_letGo_0 : decode cX8_letGo 0 = .ok (.aload_n 0, 1) := by decide +kernel
theorem dX8_letGo_1 : decode cX8_letGo 1 = .ok (.iconst (-1), 1) := by decide +kernel
theorem dX8_letGo_2 : decode cX8_letGo 2 = .ok (.putfield 9, 3) := by decide +kernel
theorem dX8_letGo_5 : decode cX8_letGo 5 = .ok (.aload_n 0, 1) := by decide +kernel
theorem dX8_letGo_6 : decode cX8_letGo 6 = .ok (.iconst 0, 1) := by decide +kernel
theorem dX8_letGo_7 : decode cX8_letGo 7 = .ok (.putfield 35, 3) := by decide +kernel
theorem dX8_letGo_10 : decode cX8_letGo 10 = .ok (.aload_n 0, 1) := by decide +kernel
theorem dX8_letGo_11 : decode cX8_letGo 11 = .ok (.iconst 0, 1) := by decide +kernel
theorem dX8_letGo_12 : decode cX8_letGo 12 = .ok (.putfield 38, 3) := by decide +kernel
theorem dX8_letGo_15 : decode cX8_letGo 15 = .ok (.return_, 1) := by decide +kernel
theorem dX8_copyFrom_0 : decode cX8_copyFrom 0 = .ok (.aload_n 0, 1) := by decide +kernel
theorem dX8_copyFrom_1 : decode cX8_copyFrom 1 = .ok (.aload_n 1, 1) := by decide +kernel
theorem dX8_copyFrom_2 : decode cX8_copyFrom 2 = .ok (.getfield 9, 3) := by decide +kernel
theorem dX8_copyFrom_5 : decode cX8_copyFrom 5 = .ok (.putfield 9, 3) := by decide +kernel
theorem dX8_copyFrom_8 : decode cX8_copyFrom 8 = .ok (.aload_n 0, 1) := by decide +kernel
theorem dX8_copyFrom_9 : decode cX8_copyFrom 9 = .ok (.aload_n 1, 1) := by decide +kernel
theorem dX8_copyFrom_10 : decode cX8_copyFrom 10 = .ok (.getfield 22, 3) := by decide +kernel
theorem dX8_copyFrom_13 : decode cX8_copyFrom 13 = .ok (.putfield 22, 3) := by decide +kernel
theorem dX8_copyFrom_16 : decode cX8_copyFrom 16 = .ok (.aload_n 0, 1) := by decide +kernel
theorem dX8_copyFrom_17 : decode cX8_copyFrom 17 = .ok (.aload_n 1, 1) := by decide +kernel
theorem dX8_copyFrom_18 : decode cX8_copyFrom 18 = .ok (.getfield 35, 3) := by decide +kernel
theorem dX8_copyFrom_21 : decode cX8_copyFrom 21 = .ok (.putfield 35, 3) := by decide +kernel
theorem dX8_copyFrom_24 : decode cX8_copyFrom 24 = .ok (.aload_n 0, 1) := by decide +kernel
theorem dX8_copyFrom_25 : decode cX8_copyFrom 25 = .ok (.aload_n 1, 1) := by decide +kernel
theorem dX8_copyFrom_26 : decode cX8_copyFrom 26 = .ok (.getfield 38, 3) := by decide +kernel
theorem dX8_copyFrom_29 : decode cX8_copyFrom 29 = .ok (.putfield 38, 3) := by decide +kernel
theorem dX8_copyFrom_32 : decode cX8_copyFrom 32 = .ok (.aload_n 0, 1) := by decide +kernel
theorem dX8_copyFrom_33 : decode cX8_copyFrom 33 = .ok (.aload_n 1, 1) := by decide +kernel
theorem dX8_copyFrom_34 : decode cX8_copyFrom 34 = .ok (.getfield 25, 3) := by decide +kernel
theorem dX8_copyFrom_37 : decode cX8_copyFrom 37 = .ok (.putfield 25, 3) := by decide +kernel
theorem dX8_copyFrom_40 : decode cX8_copyFrom 40 = .ok (.aload_n 1, 1) := by decide +kernel
theorem dX8_copyFrom_41 : decode cX8_copyFrom 41 = .ok (.getfield 15, 3) := by decide +kernel
theorem dX8_copyFrom_44 : decode cX8_copyFrom 44 = .ok (.iconst 0, 1) := by decide +kernel
theorem dX8_copyFrom_45 : decode cX8_copyFrom 45 = .ok (.aload_n 0, 1) := by decide +kernel
theorem dX8_copyFrom_46 : decode cX8_copyFrom 46 = .ok (.getfield 15, 3) := by decide +kernel
theorem dX8_copyFrom_49 : decode cX8_copyFrom 49 = .ok (.iconst 0, 1) := by decide +kernel
theorem dX8_copyFrom_50 : decode cX8_copyFrom 50 = .ok (.bipush 39, 2) := by decide +kernel
theorem dX8_copyFrom_52 : decode cX8_copyFrom 52 = .ok (.invokestatic 41, 3) := by decide +kernel
theorem dX8_copyFrom_55 : decode cX8_copyFrom 55 = .ok (.return_, 1) := by decide +kernel
theorem dX9_init_0 : decode cX9_init 0 = .ok (.aload_n 0, 1) := by decide +kernel
theorem dX9_init_1 : decode cX9_init 1 = .ok (.invokespecial 3, 3) := by decide +kernel
theorem dX9_init_4 : decode cX9_init 4 = .ok (.aload_n 0, 1) := by decide +kernel
theorem dX9_init_5 : decode cX9_init 5 = .ok (.iconst 4, 1) := by decide +kernel
theorem dX9_init_6 : decode cX9_init 6 = .ok (.bipush 60, 2) := by decide +kernel
theorem dX9_init_8 : decode cX9_init 8 = .ok (.multianewarray 9 2, 4) := by decide +kernel
theorem dX9_init_12 : decode cX9_init 12 = .ok (.putfield 11, 3) := by decide +kernel
theorem dX9_init_15 : decode cX9_init 15 = .ok (.aload_n 0, 1) := by decide +kernel
theorem dX9_init_16 : decode cX9_init 16 = .ok (.iconst 4, 1) := by decide +kernel
theorem dX9_init_17 : decode cX9_init 17 = .ok (.newarray .int, 2) := by decide +kernel
theorem dX9_init_19 : decode cX9_init 19 = .ok (.dup, 1) := by decide +kernel
theorem dX9_init_20 : decode cX9_init 20 = .ok (.iconst 0, 1) := by decide +kernel
theorem dX9_init_21 : decode cX9_init 21 = .ok (.iconst (-1), 1) := by decide +kernel
theorem dX9_init_22 : decode cX9_init 22 = .ok (.iastore, 1) := by decide +kernel
theorem dX9_init_23 : decode cX9_init 23 = .ok (.dup, 1) := by decide +kernel
theorem dX9_init_24 : decode cX9_init 24 = .ok (.iconst 1, 1) := by decide +kernel
theorem dX9_init_25 : decode cX9_init 25 = .ok (.iconst (-1), 1) := by decide +kernel
theorem dX9_init_26 : decode cX9_init 26 = .ok (.iastore, 1) := by decide +kernel
theorem dX9_init_27 : decode cX9_init 27 = .ok (.dup, 1) := by decide +kernel
theorem dX9_init_28 : decode cX9_init 28 = .ok (.iconst 2, 1) := by decide +kernel
theorem dX9_init_29 : decode cX9_init 29 = .ok (.iconst (-1), 1) := by decide +kernel
theorem dX9_init_30 : decode cX9_init 30 = .ok (.iastore, 1) := by decide +kernel
theorem dX9_init_31 : decode cX9_init 31 = .ok (.dup, 1) := by decide +kernel
theorem dX9_init_32 : decode cX9_init 32 = .ok (.iconst 3, 1) := by decide +kernel
theorem dX9_init_33 : decode cX9_init 33 = .ok (.iconst (-1), 1) := by decide +kernel
theorem dX9_init_34 : decode cX9_init 34 = .ok (.iastore, 1) := by decide +kernel
theorem dX9_init_35 : decode cX9_init 35 = .ok (.putfield 16, 3) := by decide +kernel
theorem dX9_init_38 : decode cX9_init 38 = .ok (.return_, 1) := by decide +kernel
theorem dX9_isMissing_0 : decode cX9_isMissing 0 = .ok (.aload_n 0, 1) := by decide +kernel
theorem dX9_isMissing_1 : decode cX9_isMissing 1 = .ok (.getfield 16, 3) := by decide +kernel
theorem dX9_isMissing_4 : decode cX9_isMissing 4 = .ok (.iload_n 1, 1) := by decide +kernel
theorem dX9_isMissing_5 : decode cX9_isMissing 5 = .ok (.iaload, 1) := by decide +kernel
theorem dX9_isMissing_6 : decode cX9_isMissing 6 = .ok (.iconst (-1), 1) := by decide +kernel
theorem dX9_isMissing_7 : decode cX9_isMissing 7 = .ok (.if_icmp .ne 7, 3) := by decide +kernel
theorem dX9_isMissing_10 : decode cX9_isMissing 10 = .ok (.iconst 1, 1) := by decide +kernel
theorem dX9_isMissing_11 : decode cX9_isMissing 11 = .ok (.goto 4, 3) := by decide +kernel
theorem dX9_isMissing_14 : decode cX9_isMissing 14 = .ok (.iconst 0, 1) := by decide +kernel
theorem dX9_isMissing_15 : decode cX9_isMissing 15 = .ok (.ireturn, 1) := by decide +kernel
theorem dX10_init_0 : decode cX10_init 0 = .ok (.aload_n 0, 1) := by decide +kernel
theorem dX10_init_1 : decode cX10_init 1 = .ok (.invokespecial 3, 3) := by decide +kernel
theorem dX10_init_4 : decode cX10_init 4 = .ok (.aload_n 0, 1) := by decide +kernel
theorem dX10_init_5 : decode cX10_init 5 = .ok (.bipush 6, 2) := by decide +kernel
theorem dX10_init_7 : decode cX10_init 7 = .ok (.newarray .long, 2) := by decide +kernel
theorem dX10_init_9 : decode cX10_init 9 = .ok (.putfield 11, 3) := by decide +kernel
theorem dX10_init_12 : decode cX10_init 12 = .ok (.return_, 1) := by decide +kernel
theorem dX10_take_0 : decode cX10_take 0 = .ok (.aload_n 0, 1) := by decide +kernel
theorem dX10_take_1 : decode cX10_take 1 = .ok (.getfield 11, 3) := by decide +kernel
theorem dX10_take_4 : decode cX10_take 4 = .ok (.lconst 0, 1) := by decide +kernel
theorem dX10_take_5 : decode cX10_take 5 = .ok (.invokestatic 15, 3) := by decide +kernel
theorem dX10_take_8 : decode cX10_take 8 = .ok (.aload_n 0, 1) := by decide +kernel
theorem dX10_take_9 : decode cX10_take 9 = .ok (.iconst 0, 1) := by decide +kernel
theorem dX10_take_10 : decode cX10_take 10 = .ok (.putfield 21, 3) := by decide +kernel
theorem dX10_take_13 : decode cX10_take 13 = .ok (.iconst 0, 1) := by decide +kernel
theorem dX10_take_14 : decode cX10_take 14 = .ok (.istore_n 2, 1) := by decide +kernel
theorem dX10_take_15 : decode cX10_take 15 = .ok (.iload_n 2, 1) := by decide +kernel
theorem dX10_take_16 : decode cX10_take 16 = .ok (.bipush 39, 2) := by decide +kernel
theorem dX10_take_18 : decode cX10_take 18 = .ok (.if_icmp .ge 60, 3) := by decide +kernel
theorem dX10_take_21 : decode cX10_take 21 = .ok (.iconst 0, 1) := by decide +kernel
theorem dX10_take_22 : decode cX10_take 22 = .ok (.istore_n 3, 1) := by decide +kernel
theorem dX10_take_23 : decode cX10_take 23 = .ok (.iload_n 3, 1) := by decide +kernel
theorem dX10_take_24 : decode cX10_take 24 = .ok (.bipush 6, 2) := by decide +kernel
theorem dX10_take_26 : decode cX10_take 26 = .ok (.if_icmp .ge 46, 3) := by decide +kernel
theorem dX10_take_29 : decode cX10_take 29 = .ok (.aload_n 1, 1) := by decide +kernel
theorem dX10_take_30 : decode cX10_take 30 = .ok (.iload_n 2, 1) := by decide +kernel
theorem dX10_take_31 : decode cX10_take 31 = .ok (.iaload, 1) := by decide +kernel
theorem dX10_take_32 : decode cX10_take 32 = .ok (.iload_n 3, 1) := by decide +kernel
theorem dX10_take_33 : decode cX10_take 33 = .ok (.ishr, 1) := by decide +kernel
theorem dX10_take_34 : decode cX10_take 34 = .ok (.iconst 1, 1) := by decide +kernel
theorem dX10_take_35 : decode cX10_take 35 = .ok (.iand, 1) := by decide +kernel
theorem dX10_take_36 : decode cX10_take 36 = .ok (.iconst 1, 1) := by decide +kernel
theorem dX10_take_37 : decode cX10_take 37 = .ok (.if_icmp .ne 29, 3) := by decide +kernel
theorem dX10_take_40 : decode cX10_take 40 = .ok (.aload_n 0, 1) := by decide +kernel
theorem dX10_take_41 : decode cX10_take 41 = .ok (.getfield 11, 3) := by decide +kernel
theorem dX10_take_44 : decode cX10_take 44 = .ok (.iload_n 3, 1) := by decide +kernel
theorem dX10_take_45 : decode cX10_take 45 = .ok (.dup2, 1) := by decide +kernel
theorem dX10_take_46 : decode cX10_take 46 = .ok (.laload, 1) := by decide +kernel
theorem dX10_take_47 : decode cX10_take 47 = .ok (.lconst 1, 1) := by decide +kernel
theorem dX10_take_48 : decode cX10_take 48 = .ok (.iload_n 2, 1) := by decide +kernel
theorem dX10_take_49 : decode cX10_take 49 = .ok (.lshl, 1) := by decide +kernel
theorem dX10_take_50 : decode cX10_take 50 = .ok (.lor, 1) := by decide +kernel
theorem dX10_take_51 : decode cX10_take 51 = .ok (.lastore, 1) := by decide +kernel
theorem dX10_take_52 : decode cX10_take 52 = .ok (.aload_n 0, 1) := by decide +kernel
theorem dX10_take_53 : decode cX10_take 53 = .ok (.aload_n 0, 1) := by decide +kernel
theorem dX10_take_54 : decode cX10_take 54 = .ok (.getfield 21, 3) := by decide +kernel
theorem dX10_take_57 : decode cX10_take 57 = .ok (.iload_n 3, 1) := by decide +kernel
theorem dX10_take_58 : decode cX10_take 58 = .ok (.iconst 1, 1) := by decide +kernel
theorem dX10_take_59 : decode cX10_take 59 = .ok (.iadd, 1) := by decide +kernel
theorem dX10_take_60 : decode cX10_take 60 = .ok (.invokestatic 25, 3) := by decide +kernel
theorem dX10_take_63 : decode cX10_take 63 = .ok (.putfield 21, 3) := by decide +kernel
theorem dX10_take_66 : decode cX10_take 66 = .ok (.iinc 3 1, 3) := by decide +kernel
theorem dX10_take_69 : decode cX10_take 69 = .ok (.goto (-46), 3) := by decide +kernel
theorem dX10_take_72 : decode cX10_take 72 = .ok (.iinc 2 1, 3) := by decide +kernel
theorem dX10_take_75 : decode cX10_take 75 = .ok (.goto (-60), 3) := by decide +kernel
theorem dX10_take_78 : decode cX10_take 78 = .ok (.return_, 1) := by decide +kernel
theorem dX10_weigh_0 : decode cX10_weigh 0 = .ok (.iconst 0, 1) := by decide +kernel
theorem dX10_weigh_1 : decode cX10_weigh 1 = .ok (.istore_n 3, 1) := by decide +kernel
theorem dX10_weigh_2 : decode cX10_weigh 2 = .ok (.iconst 0, 1) := by decide +kernel
theorem dX10_weigh_3 : decode cX10_weigh 3 = .ok (.istore 4, 2) := by decide +kernel
theorem dX10_weigh_5 : decode cX10_weigh 5 = .ok (.iload 4, 2) := by decide +kernel
theorem dX10_weigh_7 : decode cX10_weigh 7 = .ok (.aload_n 0, 1) := by decide +kernel
theorem dX10_weigh_8 : decode cX10_weigh 8 = .ok (.getfield 21, 3) := by decide +kernel
theorem dX10_weigh_11 : decode cX10_weigh 11 = .ok (.if_icmp .ge 27, 3) := by decide +kernel
theorem dX10_weigh_14 : decode cX10_weigh 14 = .ok (.iload_n 3, 1) := by decide +kernel
theorem dX10_weigh_15 : decode cX10_weigh 15 = .ok (.lload_n 1, 1) := by decide +kernel
theorem dX10_weigh_16 : decode cX10_weigh 16 = .ok (.aload_n 0, 1) := by decide +kernel
theorem dX10_weigh_17 : decode cX10_weigh 17 = .ok (.getfield 11, 3) := by decide +kernel
theorem dX10_weigh_20 : decode cX10_weigh 20 = .ok (.iload 4, 2) := by decide +kernel
theorem dX10_weigh_22 : decode cX10_weigh 22 = .ok (.laload, 1) := by decide +kernel
theorem dX10_weigh_23 : decode cX10_weigh 23 = .ok (.land, 1) := by decide +kernel
theorem dX10_weigh_24 : decode cX10_weigh 24 = .ok (.invokestatic 31, 3) := by decide +kernel
theorem dX10_weigh_27 : decode cX10_weigh 27 = .ok (.iload 4, 2) := by decide +kernel
theorem dX10_weigh_29 : decode cX10_weigh 29 = .ok (.ishl, 1) := by decide +kernel
theorem dX10_weigh_30 : decode cX10_weigh 30 = .ok (.iadd, 1) := by decide +kernel
theorem dX10_weigh_31 : decode cX10_weigh 31 = .ok (.istore_n 3, 1) := by decide +kernel
theorem dX10_weigh_32 : decode cX10_weigh 32 = .ok (.iinc 4 1, 3) := by decide +kernel
theorem dX10_weigh_35 : decode cX10_weigh 35 = .ok (.goto (-30), 3) := by decide +kernel
theorem dX10_weigh_38 : decode cX10_weigh 38 = .ok (.iload_n 3, 1) := by decide +kernel
theorem dX10_weigh_39 : decode cX10_weigh 39 = .ok (.ireturn, 1) := by decide +kernel
theorem dX10_least_0 : decode cX10_least 0 = .ok (.ldc 37, 2) := by decide +kernel
theorem dX10_least_2 : decode cX10_least 2 = .ok (.istore_n 2, 1) := by decide +kernel
theorem dX10_least_3 : decode cX10_least 3 = .ok (.iconst 1, 1) := by decide +kernel
theorem dX10_least_4 : decode cX10_least 4 = .ok (.istore_n 3, 1) := by decide +kernel
theorem dX10_least_5 : decode cX10_least 5 = .ok (.iload_n 3, 1) := by decide +kernel
theorem dX10_least_6 : decode cX10_least 6 = .ok (.aload_n 1, 1) := by decide +kernel
theorem dX10_least_7 : decode cX10_least 7 = .ok (.arraylength, 1) := by decide +kernel
theorem dX10_least_8 : decode cX10_least 8 = .ok (.if_icmp .ge 21, 3) := by decide +kernel
theorem dX10_least_11 : decode cX10_least 11 = .ok (.iload_n 2, 1) := by decide +kernel
theorem dX10_least_12 : decode cX10_least 12 = .ok (.aload_n 0, 1) := by decide +kernel
theorem dX10_least_13 : decode cX10_least 13 = .ok (.aload_n 1, 1) := by decide +kernel
theorem dX10_least_14 : decode cX10_least 14 = .ok (.iload_n 3, 1) := by decide +kernel
theorem dX10_least_15 : decode cX10_least 15 = .ok (.laload, 1) := by decide +kernel
theorem dX10_least_16 : decode cX10_least 16 = .ok (.invokevirtual 38, 3) := by decide +kernel
theorem dX10_least_19 : decode cX10_least 19 = .ok (.invokestatic 41, 3) := by decide +kernel
theorem dX10_least_22 : decode cX10_least 22 = .ok (.istore_n 2, 1) := by decide +kernel
theorem dX10_least_23 : decode cX10_least 23 = .ok (.iinc 3 1, 3) := by decide +kernel
theorem dX10_least_26 : decode cX10_least 26 = .ok (.goto (-21), 3) := by decide +kernel
theorem dX10_least_29 : decode cX10_least 29 = .ok (.iload_n 2, 1) := by decide +kernel
theorem dX10_least_30 : decode cX10_least 30 = .ok (.ireturn, 1) := by decide +kernel
theorem dX10_howManyAt_0 : decode cX10_howManyAt 0 = .ok (.iconst 0, 1) := by decide +kernel
theorem dX10_howManyAt_1 : decode cX10_howManyAt 1 = .ok (.istore_n 3, 1) := by decide +kernel
theorem dX10_howManyAt_2 : decode cX10_howManyAt 2 = .ok (.iconst 1, 1) := by decide +kernel
theorem dX10_howManyAt_3 : decode cX10_howManyAt 3 = .ok (.istore 4, 2) := by decide +kernel
theorem dX10_howManyAt_5 : decode cX10_howManyAt 5 = .ok (.iload 4, 2) := by decide +kernel
theorem dX10_howManyAt_7 : decode cX10_howManyAt 7 = .ok (.aload_n 1, 1) := by decide +kernel
theorem dX10_howManyAt_8 : decode cX10_howManyAt 8 = .ok (.arraylength, 1) := by decide +kernel
theorem dX10_howManyAt_9 : decode cX10_howManyAt 9 = .ok (.if_icmp .ge 24, 3) := by decide +kernel
theorem dX10_howManyAt_12 : decode cX10_howManyAt 12 = .ok (.aload_n 0, 1) := by decide +kernel
theorem dX10_howManyAt_13 : decode cX10_howManyAt 13 = .ok (.aload_n 1, 1) := by decide +kernel
theorem dX10_howManyAt_14 : decode cX10_howManyAt 14 = .ok (.iload 4, 2) := by decide +kernel
theorem dX10_howManyAt_16 : decode cX10_howManyAt 16 = .ok (.laload, 1) := by decide +kernel
theorem dX10_howManyAt_17 : decode cX10_howManyAt 17 = .ok (.invokevirtual 38, 3) := by decide +kernel
theorem dX10_howManyAt_20 : decode cX10_howManyAt 20 = .ok (.iload_n 2, 1) := by decide +kernel
theorem dX10_howManyAt_21 : decode cX10_howManyAt 21 = .ok (.if_icmp .ne 6, 3) := by decide +kernel
theorem dX10_howManyAt_24 : decode cX10_howManyAt 24 = .ok (.iinc 3 1, 3) := by decide +kernel
theorem dX10_howManyAt_27 : decode cX10_howManyAt 27 = .ok (.iinc 4 1, 3) := by decide +kernel
theorem dX10_howManyAt_30 : decode cX10_howManyAt 30 = .ok (.goto (-25), 3) := by decide +kernel
theorem dX10_howManyAt_33 : decode cX10_howManyAt 33 = .ok (.iload_n 3, 1) := by decide +kernel
theorem dX10_howManyAt_34 : decode cX10_howManyAt 34 = .ok (.ireturn, 1) := by decide +kernel
theorem dX11_init_0 : decode cX11_init 0 = .ok (.aload_n 0, 1) := by decide +kernel
theorem dX11_init_1 : decode cX11_init 1 = .ok (.invokespecial 3, 3) := by decide +kernel
theorem dX11_init_4 : decode cX11_init 4 = .ok (.aload_n 0, 1) := by decide +kernel
theorem dX11_init_5 : decode cX11_init 5 = .ok (.new 9, 3) := by decide +kernel
theorem dX11_init_8 : decode cX11_init 8 = .ok (.dup, 1) := by decide +kernel
theorem dX11_init_9 : decode cX11_init 9 = .ok (.invokespecial 11, 3) := by decide +kernel
theorem dX11_init_12 : decode cX11_init 12 = .ok (.putfield 12, 3) := by decide +kernel
theorem dX11_init_15 : decode cX11_init 15 = .ok (.aload_n 0, 1) := by decide +kernel
theorem dX11_init_16 : decode cX11_init 16 = .ok (.new 16, 3) := by decide +kernel
theorem dX11_init_19 : decode cX11_init 19 = .ok (.dup, 1) := by decide +kernel
theorem dX11_init_20 : decode cX11_init 20 = .ok (.invokespecial 18, 3) := by decide +kernel
theorem dX11_init_23 : decode cX11_init 23 = .ok (.putfield 19, 3) := by decide +kernel
theorem dX11_init_26 : decode cX11_init 26 = .ok (.aload_n 0, 1) := by decide +kernel
theorem dX11_init_27 : decode cX11_init 27 = .ok (.new 23, 3) := by decide +kernel
theorem dX11_init_30 : decode cX11_init 30 = .ok (.dup, 1) := by decide +kernel
theorem dX11_init_31 : decode cX11_init 31 = .ok (.invokespecial 25, 3) := by decide +kernel
theorem dX11_init_34 : decode cX11_init 34 = .ok (.putfield 26, 3) := by decide +kernel
theorem dX11_init_37 : decode cX11_init 37 = .ok (.aload_n 0, 1) := by decide +kernel
theorem dX11_init_38 : decode cX11_init 38 = .ok (.new 30, 3) := by decide +kernel
theorem dX11_init_41 : decode cX11_init 41 = .ok (.dup, 1) := by decide +kernel
theorem dX11_init_42 : decode cX11_init 42 = .ok (.invokespecial 32, 3) := by decide +kernel
theorem dX11_init_45 : decode cX11_init 45 = .ok (.putfield 33, 3) := by decide +kernel
theorem dX11_init_48 : decode cX11_init 48 = .ok (.aload_n 0, 1) := by decide +kernel
theorem dX11_init_49 : decode cX11_init 49 = .ok (.new 37, 3) := by decide +kernel
theorem dX11_init_52 : decode cX11_init 52 = .ok (.dup, 1) := by decide +kernel
theorem dX11_init_53 : decode cX11_init 53 = .ok (.aload_n 0, 1) := by decide +kernel
theorem dX11_init_54 : decode cX11_init 54 = .ok (.getfield 12, 3) := by decide +kernel
theorem dX11_init_57 : decode cX11_init 57 = .ok (.aload_n 0, 1) := by decide +kernel
theorem dX11_init_58 : decode cX11_init 58 = .ok (.getfield 19, 3) := by decide +kernel
theorem dX11_init_61 : decode cX11_init 61 = .ok (.aload_n 0, 1) := by decide +kernel
theorem dX11_init_62 : decode cX11_init 62 = .ok (.getfield 33, 3) := by decide +kernel
theorem dX11_init_65 : decode cX11_init 65 = .ok (.invokespecial 39, 3) := by decide +kernel
theorem dX11_init_68 : decode cX11_init 68 = .ok (.putfield 42, 3) := by decide +kernel
theorem dX11_init_71 : decode cX11_init 71 = .ok (.aload_n 0, 1) := by decide +kernel
theorem dX11_init_72 : decode cX11_init 72 = .ok (.new 46, 3) := by decide +kernel
theorem dX11_init_75 : decode cX11_init 75 = .ok (.dup, 1) := by decide +kernel
theorem dX11_init_76 : decode cX11_init 76 = .ok (.invokespecial 48, 3) := by decide +kernel
theorem dX11_init_79 : decode cX11_init 79 = .ok (.putfield 49, 3) := by decide +kernel
theorem dX11_init_82 : decode cX11_init 82 = .ok (.aload_n 0, 1) := by decide +kernel
theorem dX11_init_83 : decode cX11_init 83 = .ok (.new 53, 3) := by decide +kernel
theorem dX11_init_86 : decode cX11_init 86 = .ok (.dup, 1) := by decide +kernel
theorem dX11_init_87 : decode cX11_init 87 = .ok (.invokespecial 55, 3) := by decide +kernel
theorem dX11_init_90 : decode cX11_init 90 = .ok (.putfield 56, 3) := by decide +kernel
theorem dX11_init_93 : decode cX11_init 93 = .ok (.aload_n 0, 1) := by decide +kernel
theorem dX11_init_94 : decode cX11_init 94 = .ok (.iconst 2, 1) := by decide +kernel
theorem dX11_init_95 : decode cX11_init 95 = .ok (.anewarray 53, 3) := by decide +kernel
theorem dX11_init_98 : decode cX11_init 98 = .ok (.putfield 60, 3) := by decide +kernel
theorem dX11_init_101 : decode cX11_init 101 = .ok (.aload_n 0, 1) := by decide +kernel
theorem dX11_init_102 : decode cX11_init 102 = .ok (.bipush 39, 2) := by decide +kernel
theorem dX11_init_104 : decode cX11_init 104 = .ok (.newarray .int, 2) := by decide +kernel
theorem dX11_init_106 : decode cX11_init 106 = .ok (.putfield 64, 3) := by decide +kernel
theorem dX11_init_109 : decode cX11_init 109 = .ok (.aload_n 0, 1) := by decide +kernel
theorem dX11_init_110 : decode cX11_init 110 = .ok (.bipush 39, 2) := by decide +kernel
theorem dX11_init_112 : decode cX11_init 112 = .ok (.newarray .int, 2) := by decide +kernel
theorem dX11_init_114 : decode cX11_init 114 = .ok (.putfield 68, 3) := by decide +kernel
theorem dX11_init_117 : decode cX11_init 117 = .ok (.aload_n 0, 1) := by decide +kernel
theorem dX11_init_118 : decode cX11_init 118 = .ok (.sipush 256, 3) := by decide +kernel
theorem dX11_init_121 : decode cX11_init 121 = .ok (.newarray .long, 2) := by decide +kernel
theorem dX11_init_123 : decode cX11_init 123 = .ok (.putfield 71, 3) := by decide +kernel
theorem dX11_init_126 : decode cX11_init 126 = .ok (.return_, 1) := by decide +kernel
theorem dX11_word_0 : decode cX11_word 0 = .ok (.iload_n 1, 1) := by decide +kernel
theorem dX11_word_1 : decode cX11_word 1 = .ok (.invokestatic 75, 3) := by decide +kernel
theorem dX11_word_4 : decode cX11_word 4 = .ok (.ifCond .eq 13, 3) := by decide +kernel
theorem dX11_word_7 : decode cX11_word 7 = .ok (.iload_n 2, 1) := by decide +kernel
theorem dX11_word_8 : decode cX11_word 8 = .ok (.ifCond .lt 9, 3) := by decide +kernel
theorem dX11_word_11 : decode cX11_word 11 = .ok (.iload_n 2, 1) := by decide +kernel
theorem dX11_word_12 : decode cX11_word 12 = .ok (.bipush 31, 2) := by decide +kernel
theorem dX11_word_14 : decode cX11_word 14 = .ok (.if_icmp .le 6, 3) := by decide +kernel
theorem dX11_word_17 : decode cX11_word 17 = .ok (.bipush (-3), 2) := by decide +kernel
theorem dX11_word_19 : decode cX11_word 19 = .ok (.ireturn, 1) := by decide +kernel
theorem dX11_word_20 : decode cX11_word 20 = .ok (.iload_n 1, 1) := by decide +kernel
theorem dX11_word_21 : decode cX11_word 21 = .ok (.iconst 5, 1) := by decide +kernel
theorem dX11_word_22 : decode cX11_word 22 = .ok (.ishl, 1) := by decide +kernel
theorem dX11_word_23 : decode cX11_word 23 = .ok (.iload_n 2, 1) := by decide +kernel
theorem dX11_word_24 : decode cX11_word 24 = .ok (.ior, 1) := by decide +kernel
theorem dX11_word_25 : decode cX11_word 25 = .ok (.invokestatic 79, 3) := by decide +kernel
theorem dX11_word_28 : decode cX11_word 28 = .ok (.ireturn, 1) := by decide +kernel
theorem dX11_whole_0 : decode cX11_whole 0 = .ok (.iload_n 1, 1) := by decide +kernel
theorem dX11_whole_1 : decode cX11_whole 1 = .ok (.invokestatic 83, 3) := by decide +kernel
theorem dX11_whole_4 : decode cX11_whole 4 = .ok (.ifCond .ne 6, 3) := by decide +kernel
theorem dX11_whole_7 : decode cX11_whole 7 = .ok (.bipush (-3), 2) := by decide +kernel
theorem dX11_whole_9 : decode cX11_whole 9 = .ok (.ireturn, 1) := by decide +kernel
theorem dX11_whole_10 : decode cX11_whole 10 = .ok (.iload_n 1, 1) := by decide +kernel
theorem dX11_whole_11 : decode cX11_whole 11 = .ok (.invokestatic 86, 3) := by decide +kernel
theorem dX11_whole_14 : decode cX11_whole 14 = .ok (.ifCond .eq 7, 3) := by decide +kernel
theorem dX11_whole_17 : decode cX11_whole 17 = .ok (.iconst 1, 1) := by decide +kernel
theorem dX11_whole_18 : decode cX11_whole 18 = .ok (.goto 4, 3) := by decide +kernel
theorem dX11_whole_21 : decode cX11_whole 21 = .ok (.iconst 0, 1) := by decide +kernel
theorem dX11_whole_22 : decode cX11_whole 22 = .ok (.ireturn, 1) := by decide +kernel
theorem dX11_bits_0 : decode cX11_bits 0 = .ok (.iload_n 1, 1) := by decide +kernel
theorem dX11_bits_1 : decode cX11_bits 1 = .ok (.invokestatic 83, 3) := by decide +kernel
theorem dX11_bits_4 : decode cX11_bits 4 = .ok (.ifCond .ne 7, 3) := by decide +kernel
theorem dX11_bits_7 : decode cX11_bits 7 = .ok (.ldc2_w 89, 3) := by decide +kernel
theorem dX11_bits_10 : decode cX11_bits 10 = .ok (.lreturn, 1) := by decide +kernel
theorem dX11_bits_11 : decode cX11_bits 11 = .ok (.aload_n 0, 1) := by decide +kernel
theorem dX11_bits_12 : decode cX11_bits 12 = .ok (.getfield 12, 3) := by decide +kernel
theorem dX11_bits_15 : decode cX11_bits 15 = .ok (.getfield 91, 3) := by decide +kernel
theorem dX11_bits_18 : decode cX11_bits 18 = .ok (.iload_n 1, 1) := by decide +kernel
theorem dX11_bits_19 : decode cX11_bits 19 = .ok (.laload, 1) := by decide +kernel
theorem dX11_bits_20 : decode cX11_bits 20 = .ok (.lreturn, 1) := by decide +kernel
theorem dX11_place_0 : decode cX11_place 0 = .ok (.iload_n 1, 1) := by decide +kernel
theorem dX11_place_1 : decode cX11_place 1 = .ok (.ifCond .lt 14, 3) := by decide +kernel
theorem dX11_place_4 : decode cX11_place 4 = .ok (.iload_n 1, 1) := by decide +kernel
theorem dX11_place_5 : decode cX11_place 5 = .ok (.aload_n 0, 1) := by decide +kernel
theorem dX11_place_6 : decode cX11_place 6 = .ok (.getfield 56, 3) := by decide +kernel
theorem dX11_place_9 : decode cX11_place 9 = .ok (.getfield 94, 3) := by decide +kernel
theorem dX11_place_12 : decode cX11_place 12 = .ok (.if_icmp .lt 6, 3) := by decide +kernel
theorem dX11_place_15 : decode cX11_place 15 = .ok (.bipush (-2), 2) := by decide +kernel
theorem dX11_place_17 : decode cX11_place 17 = .ok (.ireturn, 1) := by decide +kernel
theorem dX11_place_18 : decode cX11_place 18 = .ok (.iload_n 1, 1) := by decide +kernel
theorem dX11_place_19 : decode cX11_place 19 = .ok (.invokestatic 98, 3) := by decide +kernel
theorem dX11_place_22 : decode cX11_place 22 = .ok (.ireturn, 1) := by decide +kernel
theorem dX11_sent_0 : decode cX11_sent 0 = .ok (.iload_n 1, 1) := by decide +kernel
theorem dX11_sent_1 : decode cX11_sent 1 = .ok (.invokestatic 101, 3) := by decide +kernel
theorem dX11_sent_4 : decode cX11_sent 4 = .ok (.ifCond .ne 6, 3) := by decide +kernel
theorem dX11_sent_7 : decode cX11_sent 7 = .ok (.bipush (-2), 2) := by decide +kernel
theorem dX11_sent_9 : decode cX11_sent 9 = .ok (.ireturn, 1) := by decide +kernel
theorem dX11_sent_10 : decode cX11_sent 10 = .ok (.iload_n 2, 1) := by decide +kernel
theorem dX11_sent_11 : decode cX11_sent 11 = .ok (.invokestatic 104, 3) := by decide +kernel
theorem dX11_sent_14 : decode cX11_sent 14 = .ok (.ifCond .eq 7, 3) := by decide +kernel
theorem dX11_sent_17 : decode cX11_sent 17 = .ok (.iload_n 3, 1) := by decide +kernel
theorem dX11_sent_18 : decode cX11_sent 18 = .ok (.ifCond .ge 6, 3) := by decide +kernel
theorem dX11_sent_21 : decode cX11_sent 21 = .ok (.bipush (-3), 2) := by decide +kernel
theorem dX11_sent_23 : decode cX11_sent 23 = .ok (.ireturn, 1) := by decide +kernel
theorem dX11_sent_24 : decode cX11_sent 24 = .ok (.iload_n 3, 1) := by decide +kernel
theorem dX11_sent_25 : decode cX11_sent 25 = .ok (.iload_n 2, 1) := by decide +kernel
theorem dX11_sent_26 : decode cX11_sent 26 = .ok (.if_icmp .lt 5, 3) := by decide +kernel
theorem dX11_sent_29 : decode cX11_sent 29 = .ok (.iconst (-1), 1) := by decide +kernel
theorem dX11_sent_30 : decode cX11_sent 30 = .ok (.ireturn, 1) := by decide +kernel
theorem dX11_sent_31 : decode cX11_sent 31 = .ok (.aload_n 0, 1) := by decide +kernel
theorem dX11_sent_32 : decode cX11_sent 32 = .ok (.getfield 19, 3) := by decide +kernel
theorem dX11_sent_35 : decode cX11_sent 35 = .ok (.aload_n 0, 1) := by decide +kernel
theorem dX11_sent_36 : decode cX11_sent 36 = .ok (.getfield 56, 3) := by decide +kernel
theorem dX11_sent_39 : decode cX11_sent 39 = .ok (.getfield 94, 3) := by decide +kernel
theorem dX11_sent_42 : decode cX11_sent 42 = .ok (.iload_n 1, 1) := by decide +kernel
theorem dX11_sent_43 : decode cX11_sent 43 = .ok (.iload_n 2, 1) := by decide +kernel
theorem dX11_sent_44 : decode cX11_sent 44 = .ok (.invokevirtual 107, 3) := by decide +kernel
theorem dX11_sent_47 : decode cX11_sent 47 = .ok (.aload_n 0, 1) := by decide +kernel
theorem dX11_sent_48 : decode cX11_sent 48 = .ok (.getfield 19, 3) := by decide +kernel
theorem dX11_sent_51 : decode cX11_sent 51 = .ok (.getfield 111, 3) := by decide +kernel
theorem dX11_sent_54 : decode cX11_sent 54 = .ok (.iload_n 3, 1) := by decide +kernel
theorem dX11_sent_55 : decode cX11_sent 55 = .ok (.iaload, 1) := by decide +kernel
theorem dX11_sent_56 : decode cX11_sent 56 = .ok (.ireturn, 1) := by decide +kernel
theorem dX11_covers_0 : decode cX11_covers 0 = .ok (.iload_n 1, 1) := by decide +kernel
theorem dX11_covers_1 : decode cX11_covers 1 = .ok (.invokestatic 114, 3) := by decide +kernel
theorem dX11_covers_4 : decode cX11_covers 4 = .ok (.ifCond .eq 10, 3) := by decide +kernel
theorem dX11_covers_7 : decode cX11_covers 7 = .ok (.iload_n 2, 1) := by decide +kernel
theorem dX11_covers_8 : decode cX11_covers 8 = .ok (.invokestatic 104, 3) := by decide +kernel
theorem dX11_covers_11 : decode cX11_covers 11 = .ok (.ifCond .ne 6, 3) := by decide +kernel
theorem dX11_covers_14 : decode cX11_covers 14 = .ok (.bipush (-3), 2) := by decide +kernel
theorem dX11_covers_16 : decode cX11_covers 16 = .ok (.ireturn, 1) := by decide +kernel
theorem dX11_covers_17 : decode cX11_covers 17 = .ok (.bipush 39, 2) := by decide +kernel
theorem dX11_covers_19 : decode cX11_covers 19 = .ok (.aload_n 0, 1) := by decide +kernel
theorem dX11_covers_20 : decode cX11_covers 20 = .ok (.iload_n 1, 1) := by decide +kernel
theorem dX11_covers_21 : decode cX11_covers 21 = .ok (.iload_n 2, 1) := by decide +kernel
theorem dX11_covers_22 : decode cX11_covers 22 = .ok (.invokevirtual 117, 3) := by decide +kernel
theorem dX11_covers_25 : decode cX11_covers 25 = .ok (.invokestatic 121, 3) := by decide +kernel
theorem dX11_covers_28 : decode cX11_covers 28 = .ok (.isub, 1) := by decide +kernel
theorem dX11_covers_29 : decode cX11_covers 29 = .ok (.ireturn, 1) := by decide +kernel
theorem dX11_lacks_0 : decode cX11_lacks 0 = .ok (.iload_n 1, 1) := by decide +kernel
theorem dX11_lacks_1 : decode cX11_lacks 1 = .ok (.invokestatic 114, 3) := by decide +kernel
theorem dX11_lacks_4 : decode cX11_lacks 4 = .ok (.ifCond .eq 10, 3) := by decide +kernel
theorem dX11_lacks_7 : decode cX11_lacks 7 = .ok (.iload_n 2, 1) := by decide +kernel
theorem dX11_lacks_8 : decode cX11_lacks 8 = .ok (.invokestatic 104, 3) := by decide +kernel
theorem dX11_lacks_11 : decode cX11_lacks 11 = .ok (.ifCond .ne 7, 3) := by decide +kernel
theorem dX11_lacks_14 : decode cX11_lacks 14 = .ok (.ldc2_w 89, 3) := by decide +kernel
theorem dX11_lacks_17 : decode cX11_lacks 17 = .ok (.lreturn, 1) := by decide +kernel
theorem dX11_lacks_18 : decode cX11_lacks 18 = .ok (.aload_n 0, 1) := by decide +kernel
theorem dX11_lacks_19 : decode cX11_lacks 19 = .ok (.iload_n 1, 1) := by decide +kernel
theorem dX11_lacks_20 : decode cX11_lacks 20 = .ok (.iload_n 2, 1) := by decide +kernel
theorem dX11_lacks_21 : decode cX11_lacks 21 = .ok (.invokevirtual 117, 3) := by decide +kernel
theorem dX11_lacks_24 : decode cX11_lacks 24 = .ok (.lreturn, 1) := by decide +kernel
theorem dX11_between_0 : decode cX11_between 0 = .ok (.iload_n 1, 1) := by decide +kernel
theorem dX11_between_1 : decode cX11_between 1 = .ok (.invokestatic 83, 3) := by decide +kernel
theorem dX11_between_4 : decode cX11_between 4 = .ok (.ifCond .eq 25, 3) := by decide +kernel
theorem dX11_between_7 : decode cX11_between 7 = .ok (.iload_n 2, 1) := by decide +kernel
theorem dX11_between_8 : decode cX11_between 8 = .ok (.invokestatic 83, 3) := by decide +kernel
theorem dX11_between_11 : decode cX11_between 11 = .ok (.ifCond .eq 18, 3) := by decide +kernel
theorem dX11_between_14 : decode cX11_between 14 = .ok (.iload_n 3, 1) := by decide +kernel
theorem dX11_between_15 : decode cX11_between 15 = .ok (.invokestatic 114, 3) := by decide +kernel
theorem dX11_between_18 : decode cX11_between 18 = .ok (.ifCond .eq 11, 3) := by decide +kernel
theorem dX11_between_21 : decode cX11_between 21 = .ok (.iload 4, 2) := by decide +kernel
theorem dX11_between_23 : decode cX11_between 23 = .ok (.invokestatic 104, 3) := by decide +kernel
theorem dX11_between_26 : decode cX11_between 26 = .ok (.ifCond .ne 6, 3) := by decide +kernel
theorem dX11_between_29 : decode cX11_between 29 = .ok (.bipush (-3), 2) := by decide +kernel
theorem dX11_between_31 : decode cX11_between 31 = .ok (.ireturn, 1) := by decide +kernel
theorem dX11_between_32 : decode cX11_between 32 = .ok (.aload_n 0, 1) := by decide +kernel
theorem dX11_between_33 : decode cX11_between 33 = .ok (.iload_n 3, 1) := by decide +kernel
theorem dX11_between_34 : decode cX11_between 34 = .ok (.iload 4, 2) := by decide +kernel
theorem dX11_between_36 : decode cX11_between 36 = .ok (.invokevirtual 127, 3) := by decide +kernel
theorem dX11_between_39 : decode cX11_between 39 = .ok (.aload_n 0, 1) := by decide +kernel
theorem dX11_between_40 : decode cX11_between 40 = .ok (.getfield 26, 3) := by decide +kernel
theorem dX11_between_43 : decode cX11_between 43 = .ok (.aload_n 0, 1) := by decide +kernel
theorem dX11_between_44 : decode cX11_between 44 = .ok (.getfield 12, 3) := by decide +kernel
theorem dX11_between_47 : decode cX11_between 47 = .ok (.getfield 91, 3) := by decide +kernel
theorem dX11_between_50 : decode cX11_between 50 = .ok (.iload_n 1, 1) := by decide +kernel
theorem dX11_between_51 : decode cX11_between 51 = .ok (.laload, 1) := by decide +kernel
theorem dX11_between_52 : decode cX11_between 52 = .ok (.aload_n 0, 1) := by decide +kernel
theorem dX11_between_53 : decode cX11_between 53 = .ok (.getfield 12, 3) := by decide +kernel
theorem dX11_between_56 : decode cX11_between 56 = .ok (.getfield 91, 3) := by decide +kernel
theorem dX11_between_59 : decode cX11_between 59 = .ok (.iload_n 2, 1) := by decide +kernel
theorem dX11_between_60 : decode cX11_between 60 = .ok (.laload, 1) := by decide +kernel
theorem dX11_between_61 : decode cX11_between 61 = .ok (.lxor, 1) := by decide +kernel
theorem dX11_between_62 : decode cX11_between 62 = .ok (.invokevirtual 131, 3) := by decide +kernel
theorem dX11_between_65 : decode cX11_between 65 = .ok (.ireturn, 1) := by decide +kernel
theorem dX11_distance_0 : decode cX11_distance 0 = .ok (.iload_n 3, 1) := by decide +kernel
theorem dX11_distance_1 : decode cX11_distance 1 = .ok (.ifCond .lt 8, 3) := by decide +kernel
theorem dX11_distance_4 : decode cX11_distance 4 = .ok (.iload_n 3, 1) := by decide +kernel
theorem dX11_distance_5 : decode cX11_distance 5 = .ok (.iconst 3, 1) := by decide +kernel
theorem dX11_distance_6 : decode cX11_distance 6 = .ok (.if_icmp .le 6, 3) := by decide +kernel
theorem dX11_distance_9 : decode cX11_distance 9 = .ok (.bipush (-2), 2) := by decide +kernel
theorem dX11_distance_11 : decode cX11_distance 11 = .ok (.ireturn, 1) := by decide +kernel
theorem dX11_distance_12 : decode cX11_distance 12 = .ok (.iload_n 1, 1) := by decide +kernel
theorem dX11_distance_13 : decode cX11_distance 13 = .ok (.invokestatic 114, 3) := by decide +kernel
theorem dX11_distance_16 : decode cX11_distance 16 = .ok (.ifCond .eq 10, 3) := by decide +kernel
theorem dX11_distance_19 : decode cX11_distance 19 = .ok (.iload_n 2, 1) := by decide +kernel
theorem dX11_distance_20 : decode cX11_distance 20 = .ok (.invokestatic 104, 3) := by decide +kernel
theorem dX11_distance_23 : decode cX11_distance 23 = .ok (.ifCond .ne 6, 3) := by decide +kernel
theorem dX11_distance_26 : decode cX11_distance 26 = .ok (.bipush (-3), 2) := by decide +kernel
theorem dX11_distance_28 : decode cX11_distance 28 = .ok (.ireturn, 1) := by decide +kernel
theorem dX11_distance_29 : decode cX11_distance 29 = .ok (.aload_n 0, 1) := by decide +kernel
theorem dX11_distance_30 : decode cX11_distance 30 = .ok (.iload_n 1, 1) := by decide +kernel
theorem dX11_distance_31 : decode cX11_distance 31 = .ok (.iload_n 2, 1) := by decide +kernel
theorem dX11_distance_32 : decode cX11_distance 32 = .ok (.invokevirtual 127, 3) := by decide +kernel
theorem dX11_distance_35 : decode cX11_distance 35 = .ok (.iload_n 3, 1) := by decide +kernel
theorem dX11_distance_36 : decode cX11_distance 36 = .ok (.iconst 1, 1) := by decide +kernel
theorem dX11_distance_37 : decode cX11_distance 37 = .ok (.iand, 1) := by decide +kernel
theorem dX11_distance_38 : decode cX11_distance 38 = .ok (.ifCond .ne 13, 3) := by decide +kernel
theorem dX11_distance_41 : decode cX11_distance 41 = .ok (.aload_n 0, 1) := by decide +kernel
theorem dX11_distance_42 : decode cX11_distance 42 = .ok (.getfield 12, 3) := by decide +kernel
theorem dX11_distance_45 : decode cX11_distance 45 = .ok (.getfield 91, 3) := by decide +kernel
theorem dX11_distance_48 : decode cX11_distance 48 = .ok (.goto 10, 3) := by decide +kernel
theorem dX11_distance_51 : decode cX11_distance 51 = .ok (.aload_n 0, 1) := by decide +kernel
theorem dX11_distance_52 : decode cX11_distance 52 = .ok (.getfield 12, 3) := by decide +kernel
theorem dX11_distance_55 : decode cX11_distance 55 = .ok (.getfield 134, 3) := by decide +kernel
theorem dX11_distance_58 : decode cX11_distance 58 = .ok (.astore 4, 2) := by decide +kernel
theorem dX11_distance_60 : decode cX11_distance 60 = .ok (.aload_n 0, 1) := by decide +kernel
theorem dX11_distance_61 : decode cX11_distance 61 = .ok (.getfield 26, 3) := by decide +kernel
theorem dX11_distance_64 : decode cX11_distance 64 = .ok (.aload 4, 2) := by decide +kernel
theorem dX11_distance_66 : decode cX11_distance 66 = .ok (.invokevirtual 137, 3) := by decide +kernel
theorem dX11_distance_69 : decode cX11_distance 69 = .ok (.istore 5, 2) := by decide +kernel
theorem dX11_distance_71 : decode cX11_distance 71 = .ok (.iload_n 3, 1) := by decide +kernel
theorem dX11_distance_72 : decode cX11_distance 72 = .ok (.iconst 2, 1) := by decide +kernel
theorem dX11_distance_73 : decode cX11_distance 73 = .ok (.if_icmp .ge 8, 3) := by decide +kernel
theorem dX11_distance_76 : decode cX11_distance 76 = .ok (.iload 5, 2) := by decide +kernel
theorem dX11_distance_78 : decode cX11_distance 78 = .ok (.goto 14, 3) := by decide +kernel
theorem dX11_distance_81 : decode cX11_distance 81 = .ok (.aload_n 0, 1) := by decide +kernel
theorem dX11_distance_82 : decode cX11_distance 82 = .ok (.getfield 26, 3) := by decide +kernel
theorem dX11_distance_85 : decode cX11_distance 85 = .ok (.aload 4, 2) := by decide +kernel
theorem dX11_distance_87 : decode cX11_distance 87 = .ok (.iload 5, 2) := by decide +kernel
theorem dX11_distance_89 : decode cX11_distance 89 = .ok (.invokevirtual 141, 3) := by decide +kernel
theorem dX11_distance_92 : decode cX11_distance 92 = .ok (.ireturn, 1) := by decide +kernel
theorem dX11_shortest_0 : decode cX11_shortest 0 = .ok (.iload_n 1, 1) := by decide +kernel
theorem dX11_shortest_1 : decode cX11_shortest 1 = .ok (.invokestatic 114, 3) := by decide +kernel
theorem dX11_shortest_4 : decode cX11_shortest 4 = .ok (.ifCond .eq 10, 3) := by decide +kernel
theorem dX11_shortest_7 : decode cX11_shortest 7 = .ok (.iload_n 2, 1) := by decide +kernel
theorem dX11_shortest_8 : decode cX11_shortest 8 = .ok (.invokestatic 145, 3) := by decide +kernel
theorem dX11_shortest_11 : decode cX11_shortest 11 = .ok (.ifCond .ne 6, 3) := by decide +kernel
theorem dX11_shortest_14 : decode cX11_shortest 14 = .ok (.bipush (-3), 2) := by decide +kernel
theorem dX11_shortest_16 : decode cX11_shortest 16 = .ok (.ireturn, 1) := by decide +kernel
theorem dX11_shortest_17 : decode cX11_shortest 17 = .ok (.aload_n 0, 1) := by decide +kernel
theorem dX11_shortest_18 : decode cX11_shortest 18 = .ok (.iload_n 1, 1) := by decide +kernel
theorem dX11_shortest_19 : decode cX11_shortest 19 = .ok (.bipush 60, 2) := by decide +kernel
theorem dX11_shortest_21 : decode cX11_shortest 21 = .ok (.invokevirtual 148, 3) := by decide +kernel
theorem dX11_shortest_24 : decode cX11_shortest 24 = .ok (.iload_n 2, 1) := by decide +kernel
theorem dX11_shortest_25 : decode cX11_shortest 25 = .ok (.if_icmp .ge 5, 3) := by decide +kernel
theorem dX11_shortest_28 : decode cX11_shortest 28 = .ok (.iconst (-1), 1) := by decide +kernel
theorem dX11_shortest_29 : decode cX11_shortest 29 = .ok (.ireturn, 1) := by decide +kernel
theorem dX11_shortest_30 : decode cX11_shortest 30 = .ok (.iconst 1, 1) := by decide +kernel
theorem dX11_shortest_31 : decode cX11_shortest 31 = .ok (.istore_n 3, 1) := by decide +kernel
theorem dX11_shortest_32 : decode cX11_shortest 32 = .ok (.bipush 60, 2) := by decide +kernel
theorem dX11_shortest_34 : decode cX11_shortest 34 = .ok (.istore 4, 2) := by decide +kernel
theorem dX11_shortest_36 : decode cX11_shortest 36 = .ok (.iconst 0, 1) := by decide +kernel
theorem dX11_shortest_37 : decode cX11_shortest 37 = .ok (.istore 5, 2) := by decide +kernel
theorem dX11_shortest_39 : decode cX11_shortest 39 = .ok (.iload 5, 2) := by decide +kernel
theorem dX11_shortest_41 : decode cX11_shortest 41 = .ok (.bipush 60, 2) := by decide +kernel
theorem dX11_shortest_43 : decode cX11_shortest 43 = .ok (.if_icmp .ge 46, 3) := by decide +kernel
theorem dX11_shortest_46 : decode cX11_shortest 46 = .ok (.iload_n 3, 1) := by decide +kernel
theorem dX11_shortest_47 : decode cX11_shortest 47 = .ok (.iload 4, 2) := by decide +kernel
theorem dX11_shortest_49 : decode cX11_shortest 49 = .ok (.if_icmp .ge 40, 3) := by decide +kernel
theorem dX11_shortest_52 : decode cX11_shortest 52 = .ok (.iload_n 3, 1) := by decide +kernel
theorem dX11_shortest_53 : decode cX11_shortest 53 = .ok (.iload 4, 2) := by decide +kernel
theorem dX11_shortest_55 : decode cX11_shortest 55 = .ok (.iadd, 1) := by decide +kernel
theorem dX11_shortest_56 : decode cX11_shortest 56 = .ok (.iconst 1, 1) := by decide +kernel
theorem dX11_shortest_57 : decode cX11_shortest 57 = .ok (.ishr, 1) := by decide +kernel
theorem dX11_shortest_58 : decode cX11_shortest 58 = .ok (.istore 6, 2) := by decide +kernel
theorem dX11_shortest_60 : decode cX11_shortest 60 = .ok (.aload_n 0, 1) := by decide +kernel
theorem dX11_shortest_61 : decode cX11_shortest 61 = .ok (.iload_n 1, 1) := by decide +kernel
theorem dX11_shortest_62 : decode cX11_shortest 62 = .ok (.iload 6, 2) := by decide +kernel
theorem dX11_shortest_64 : decode cX11_shortest 64 = .ok (.invokevirtual 148, 3) := by decide +kernel
theorem dX11_shortest_67 : decode cX11_shortest 67 = .ok (.iload_n 2, 1) := by decide +kernel
theorem dX11_shortest_68 : decode cX11_shortest 68 = .ok (.if_icmp .lt 10, 3) := by decide +kernel
theorem dX11_shortest_71 : decode cX11_shortest 71 = .ok (.iload 6, 2) := by decide +kernel
theorem dX11_shortest_73 : decode cX11_shortest 73 = .ok (.istore 4, 2) := by decide +kernel
theorem dX11_shortest_75 : decode cX11_shortest 75 = .ok (.goto 8, 3) := by decide +kernel
theorem dX11_shortest_78 : decode cX11_shortest 78 = .ok (.iload 6, 2) := by decide +kernel
theorem dX11_shortest_80 : decode cX11_shortest 80 = .ok (.iconst 1, 1) := by decide +kernel
theorem dX11_shortest_81 : decode cX11_shortest 81 = .ok (.iadd, 1) := by decide +kernel
theorem dX11_shortest_82 : decode cX11_shortest 82 = .ok (.istore_n 3, 1) := by decide +kernel
theorem dX11_shortest_83 : decode cX11_shortest 83 = .ok (.iinc 5 1, 3) := by decide +kernel
theorem dX11_shortest_86 : decode cX11_shortest 86 = .ok (.goto (-47), 3) := by decide +kernel
theorem dX11_shortest_89 : decode cX11_shortest 89 = .ok (.iload_n 3, 1) := by decide +kernel
theorem dX11_shortest_90 : decode cX11_shortest 90 = .ok (.ireturn, 1) := by decide +kernel
theorem dX11_versions_0 : decode cX11_versions 0 = .ok (.iload_n 1, 1) := by decide +kernel
theorem dX11_versions_1 : decode cX11_versions 1 = .ok (.invokestatic 104, 3) := by decide +kernel
theorem dX11_versions_4 : decode cX11_versions 4 = .ok (.ifCond .eq 10, 3) := by decide +kernel
theorem dX11_versions_7 : decode cX11_versions 7 = .ok (.iload_n 2, 1) := by decide +kernel
theorem dX11_versions_8 : decode cX11_versions 8 = .ok (.invokestatic 145, 3) := by decide +kernel
theorem dX11_versions_11 : decode cX11_versions 11 = .ok (.ifCond .ne 6, 3) := by decide +kernel
theorem dX11_versions_14 : decode cX11_versions 14 = .ok (.bipush (-3), 2) := by decide +kernel
theorem dX11_versions_16 : decode cX11_versions 16 = .ok (.ireturn, 1) := by decide +kernel
theorem dX11_versions_17 : decode cX11_versions 17 = .ok (.iconst 1, 1) := by decide +kernel
theorem dX11_versions_18 : decode cX11_versions 18 = .ok (.istore_n 3, 1) := by decide +kernel
theorem dX11_versions_19 : decode cX11_versions 19 = .ok (.iload_n 3, 1) := by decide +kernel
theorem dX11_versions_20 : decode cX11_versions 20 = .ok (.iconst 4, 1) := by decide +kernel
theorem dX11_versions_21 : decode cX11_versions 21 = .ok (.if_icmp .gt 48, 3) := by decide +kernel
theorem dX11_versions_24 : decode cX11_versions 24 = .ok (.iconst 1, 1) := by decide +kernel
theorem dX11_versions_25 : decode cX11_versions 25 = .ok (.istore 4, 2) := by decide +kernel
theorem dX11_versions_27 : decode cX11_versions 27 = .ok (.iload 4, 2) := by decide +kernel
theorem dX11_versions_29 : decode cX11_versions 29 = .ok (.bipush 16, 2) := by decide +kernel
theorem dX11_versions_31 : decode cX11_versions 31 = .ok (.if_icmp .ge 32, 3) := by decide +kernel
theorem dX11_versions_34 : decode cX11_versions 34 = .ok (.iload 4, 2) := by decide +kernel
theorem dX11_versions_36 : decode cX11_versions 36 = .ok (.invokestatic 152, 3) := by decide +kernel
theorem dX11_versions_39 : decode cX11_versions 39 = .ok (.iload_n 3, 1) := by decide +kernel
theorem dX11_versions_40 : decode cX11_versions 40 = .ok (.if_icmp .ne 17, 3) := by decide +kernel
theorem dX11_versions_43 : decode cX11_versions 43 = .ok (.aload_n 0, 1) := by decide +kernel
theorem dX11_versions_44 : decode cX11_versions 44 = .ok (.iload 4, 2) := by decide +kernel
theorem dX11_versions_46 : decode cX11_versions 46 = .ok (.iload_n 1, 1) := by decide +kernel
theorem dX11_versions_47 : decode cX11_versions 47 = .ok (.invokevirtual 148, 3) := by decide +kernel
theorem dX11_versions_50 : decode cX11_versions 50 = .ok (.iload_n 2, 1) := by decide +kernel
theorem dX11_versions_51 : decode cX11_versions 51 = .ok (.if_icmp .lt 6, 3) := by decide +kernel
theorem dX11_versions_54 : decode cX11_versions 54 = .ok (.iload 4, 2) := by decide +kernel
theorem dX11_versions_56 : decode cX11_versions 56 = .ok (.ireturn, 1) := by decide +kernel
theorem dX11_versions_57 : decode cX11_versions 57 = .ok (.iinc 4 1, 3) := by decide +kernel
theorem dX11_versions_60 : decode cX11_versions 60 = .ok (.goto (-33), 3) := by decide +kernel
theorem dX11_versions_63 : decode cX11_versions 63 = .ok (.iinc 3 1, 3) := by decide +kernel
theorem dX11_versions_66 : decode cX11_versions 66 = .ok (.goto (-47), 3) := by decide +kernel
theorem dX11_versions_69 : decode cX11_versions 69 = .ok (.iconst (-1), 1) := by decide +kernel
theorem dX11_versions_70 : decode cX11_versions 70 = .ok (.ireturn, 1) := by decide +kernel
theorem dX11_weak_0 : decode cX11_weak 0 = .ok (.iload_n 2, 1) := by decide +kernel
theorem dX11_weak_1 : decode cX11_weak 1 = .ok (.invokestatic 101, 3) := by decide +kernel
theorem dX11_weak_4 : decode cX11_weak 4 = .ok (.ifCond .ne 6, 3) := by decide +kernel
theorem dX11_weak_7 : decode cX11_weak 7 = .ok (.bipush (-2), 2) := by decide +kernel
theorem dX11_weak_9 : decode cX11_weak 9 = .ok (.ireturn, 1) := by decide +kernel
theorem dX11_weak_10 : decode cX11_weak 10 = .ok (.iload_n 1, 1) := by decide +kernel
theorem dX11_weak_11 : decode cX11_weak 11 = .ok (.invokestatic 83, 3) := by decide +kernel
theorem dX11_weak_14 : decode cX11_weak 14 = .ok (.ifCond .eq 10, 3) := by decide +kernel
theorem dX11_weak_17 : decode cX11_weak 17 = .ok (.iload_n 3, 1) := by decide +kernel
theorem dX11_weak_18 : decode cX11_weak 18 = .ok (.invokestatic 104, 3) := by decide +kernel
theorem dX11_weak_21 : decode cX11_weak 21 = .ok (.ifCond .ne 6, 3) := by decide +kernel
theorem dX11_weak_24 : decode cX11_weak 24 = .ok (.bipush (-3), 2) := by decide +kernel
theorem dX11_weak_26 : decode cX11_weak 26 = .ok (.ireturn, 1) := by decide +kernel
theorem dX11_weak_27 : decode cX11_weak 27 = .ok (.aload_n 0, 1) := by decide +kernel
theorem dX11_weak_28 : decode cX11_weak 28 = .ok (.iconst 1, 1) := by decide +kernel
theorem dX11_weak_29 : decode cX11_weak 29 = .ok (.iload_n 2, 1) := by decide +kernel
theorem dX11_weak_30 : decode cX11_weak 30 = .ok (.ishl, 1) := by decide +kernel
theorem dX11_weak_31 : decode cX11_weak 31 = .ok (.iload_n 3, 1) := by decide +kernel
theorem dX11_weak_32 : decode cX11_weak 32 = .ok (.invokevirtual 156, 3) := by decide +kernel
theorem dX11_weak_35 : decode cX11_weak 35 = .ok (.aload_n 0, 1) := by decide +kernel
theorem dX11_weak_36 : decode cX11_weak 36 = .ok (.getfield 12, 3) := by decide +kernel
theorem dX11_weak_39 : decode cX11_weak 39 = .ok (.getfield 91, 3) := by decide +kernel
theorem dX11_weak_42 : decode cX11_weak 42 = .ok (.iload_n 1, 1) := by decide +kernel
theorem dX11_weak_43 : decode cX11_weak 43 = .ok (.laload, 1) := by decide +kernel
theorem dX11_weak_44 : decode cX11_weak 44 = .ok (.lstore 4, 2) := by decide +kernel
theorem dX11_weak_46 : decode cX11_weak 46 = .ok (.iconst 0, 1) := by decide +kernel
theorem dX11_weak_47 : decode cX11_weak 47 = .ok (.istore 6, 2) := by decide +kernel
theorem dX11_weak_49 : decode cX11_weak 49 = .ok (.iload 6, 2) := by decide +kernel
theorem dX11_weak_51 : decode cX11_weak 51 = .ok (.bipush 39, 2) := by decide +kernel
theorem dX11_weak_53 : decode cX11_weak 53 = .ok (.if_icmp .ge 44, 3) := by decide +kernel
theorem dX11_weak_56 : decode cX11_weak 56 = .ok (.aload_n 0, 1) := by decide +kernel
theorem dX11_weak_57 : decode cX11_weak 57 = .ok (.getfield 68, 3) := by decide +kernel
theorem dX11_weak_60 : decode cX11_weak 60 = .ok (.iload 6, 2) := by decide +kernel
theorem dX11_weak_62 : decode cX11_weak 62 = .ok (.lload 4, 2) := by decide +kernel
theorem dX11_weak_64 : decode cX11_weak 64 = .ok (.iload 6, 2) := by decide +kernel
theorem dX11_weak_66 : decode cX11_weak 66 = .ok (.invokestatic 159, 3) := by decide +kernel
theorem dX11_weak_69 : decode cX11_weak 69 = .ok (.ifCond .eq 13, 3) := by decide +kernel
theorem dX11_weak_72 : decode cX11_weak 72 = .ok (.aload_n 0, 1) := by decide +kernel
theorem dX11_weak_73 : decode cX11_weak 73 = .ok (.getfield 64, 3) := by decide +kernel
theorem dX11_weak_76 : decode cX11_weak 76 = .ok (.iload 6, 2) := by decide +kernel
theorem dX11_weak_78 : decode cX11_weak 78 = .ok (.iaload, 1) := by decide +kernel
theorem dX11_weak_79 : decode cX11_weak 79 = .ok (.goto 11, 3) := by decide +kernel
theorem dX11_weak_82 : decode cX11_weak 82 = .ok (.aload_n 0, 1) := by decide +kernel
theorem dX11_weak_83 : decode cX11_weak 83 = .ok (.getfield 64, 3) := by decide +kernel
theorem dX11_weak_86 : decode cX11_weak 86 = .ok (.iload 6, 2) := by decide +kernel
theorem dX11_weak_88 : decode cX11_weak 88 = .ok (.iaload, 1) := by decide +kernel
theorem dX11_weak_89 : decode cX11_weak 89 = .ok (.ineg, 1) := by decide +kernel
theorem dX11_weak_90 : decode cX11_weak 90 = .ok (.iastore, 1) := by decide +kernel
theorem dX11_weak_91 : decode cX11_weak 91 = .ok (.iinc 6 1, 3) := by decide +kernel
theorem dX11_weak_94 : decode cX11_weak 94 = .ok (.goto (-45), 3) := by decide +kernel
theorem dX11_weak_97 : decode cX11_weak 97 = .ok (.iconst 0, 1) := by decide +kernel
theorem dX11_weak_98 : decode cX11_weak 98 = .ok (.istore 6, 2) := by decide +kernel
theorem dX11_weak_100 : decode cX11_weak 100 = .ok (.iconst 0, 1) := by decide +kernel
theorem dX11_weak_101 : decode cX11_weak 101 = .ok (.istore 7, 2) := by decide +kernel
theorem dX11_weak_103 : decode cX11_weak 103 = .ok (.iload 7, 2) := by decide +kernel
theorem dX11_weak_105 : decode cX11_weak 105 = .ok (.bipush 39, 2) := by decide +kernel
theorem dX11_weak_107 : decode cX11_weak 107 = .ok (.if_icmp .ge 41, 3) := by decide +kernel
theorem dX11_weak_110 : decode cX11_weak 110 = .ok (.aload_n 0, 1) := by decide +kernel
theorem dX11_weak_111 : decode cX11_weak 111 = .ok (.getfield 64, 3) := by decide +kernel
theorem dX11_weak_114 : decode cX11_weak 114 = .ok (.iload 7, 2) := by decide +kernel
theorem dX11_weak_116 : decode cX11_weak 116 = .ok (.iaload, 1) := by decide +kernel
theorem dX11_weak_117 : decode cX11_weak 117 = .ok (.ifCond .le 25, 3) := by decide +kernel
theorem dX11_weak_120 : decode cX11_weak 120 = .ok (.aload_n 0, 1) := by decide +kernel
theorem dX11_weak_121 : decode cX11_weak 121 = .ok (.iload_n 1, 1) := by decide +kernel
theorem dX11_weak_122 : decode cX11_weak 122 = .ok (.iload 7, 2) := by decide +kernel
theorem dX11_weak_124 : decode cX11_weak 124 = .ok (.invokevirtual 163, 3) := by decide +kernel
theorem dX11_weak_127 : decode cX11_weak 127 = .ok (.ifCond .eq 15, 3) := by decide +kernel
theorem dX11_weak_130 : decode cX11_weak 130 = .ok (.iload 6, 2) := by decide +kernel
theorem dX11_weak_132 : decode cX11_weak 132 = .ok (.aload_n 0, 1) := by decide +kernel
theorem dX11_weak_133 : decode cX11_weak 133 = .ok (.getfield 64, 3) := by decide +kernel
theorem dX11_weak_136 : decode cX11_weak 136 = .ok (.iload 7, 2) := by decide +kernel
theorem dX11_weak_138 : decode cX11_weak 138 = .ok (.iaload, 1) := by decide +kernel
theorem dX11_weak_139 : decode cX11_weak 139 = .ok (.iadd, 1) := by decide +kernel
theorem dX11_weak_140 : decode cX11_weak 140 = .ok (.istore 6, 2) := by decide +kernel
theorem dX11_weak_142 : decode cX11_weak 142 = .ok (.iinc 7 1, 3) := by decide +kernel
theorem dX11_weak_145 : decode cX11_weak 145 = .ok (.goto (-42), 3) := by decide +kernel
theorem dX11_weak_148 : decode cX11_weak 148 = .ok (.iload 6, 2) := by decide +kernel
theorem dX11_weak_150 : decode cX11_weak 150 = .ok (.ireturn, 1) := by decide +kernel
theorem dX11_link_0 : decode cX11_link 0 = .ok (.iload_n 1, 1) := by decide +kernel
theorem dX11_link_1 : decode cX11_link 1 = .ok (.iconst 1, 1) := by decide +kernel
theorem dX11_link_2 : decode cX11_link 2 = .ok (.if_icmp .lt 30, 3) := by decide +kernel
theorem dX11_link_5 : decode cX11_link 5 = .ok (.iload_n 1, 1) := by decide +kernel
theorem dX11_link_6 : decode cX11_link 6 = .ok (.bipush 8, 2) := by decide +kernel
theorem dX11_link_8 : decode cX11_link 8 = .ok (.if_icmp .gt 24, 3) := by decide +kernel
theorem dX11_link_11 : decode cX11_link 11 = .ok (.iload_n 2, 1) := by decide +kernel
theorem dX11_link_12 : decode cX11_link 12 = .ok (.iconst 1, 1) := by decide +kernel
theorem dX11_link_13 : decode cX11_link 13 = .ok (.if_icmp .lt 19, 3) := by decide +kernel
theorem dX11_link_16 : decode cX11_link 16 = .ok (.iload_n 2, 1) := by decide +kernel
theorem dX11_link_17 : decode cX11_link 17 = .ok (.iconst 4, 1) := by decide +kernel
theorem dX11_link_18 : decode cX11_link 18 = .ok (.if_icmp .gt 14, 3) := by decide +kernel
theorem dX11_link_21 : decode cX11_link 21 = .ok (.iload_n 3, 1) := by decide +kernel
theorem dX11_link_22 : decode cX11_link 22 = .ok (.iconst 1, 1) := by decide +kernel
theorem dX11_link_23 : decode cX11_link 23 = .ok (.if_icmp .lt 9, 3) := by decide +kernel
theorem dX11_link_26 : decode cX11_link 26 = .ok (.iload_n 3, 1) := by decide +kernel
theorem dX11_link_27 : decode cX11_link 27 = .ok (.bipush 60, 2) := by decide +kernel
theorem dX11_link_29 : decode cX11_link 29 = .ok (.if_icmp .le 6, 3) := by decide +kernel
theorem dX11_link_32 : decode cX11_link 32 = .ok (.bipush (-3), 2) := by decide +kernel
theorem dX11_link_34 : decode cX11_link 34 = .ok (.ireturn, 1) := by decide +kernel
theorem dX11_link_35 : decode cX11_link 35 = .ok (.iload 4, 2) := by decide +kernel
theorem dX11_link_37 : decode cX11_link 37 = .ok (.iconst 1, 1) := by decide +kernel
theorem dX11_link_38 : decode cX11_link 38 = .ok (.if_icmp .lt 24, 3) := by decide +kernel
theorem dX11_link_41 : decode cX11_link 41 = .ok (.iload 4, 2) := by decide +kernel
theorem dX11_link_43 : decode cX11_link 43 = .ok (.bipush 8, 2) := by decide +kernel
theorem dX11_link_45 : decode cX11_link 45 = .ok (.if_icmp .gt 17, 3) := by decide +kernel
theorem dX11_link_48 : decode cX11_link 48 = .ok (.iload 5, 2) := by decide +kernel
theorem dX11_link_50 : decode cX11_link 50 = .ok (.bipush 16, 2) := by decide +kernel
theorem dX11_link_52 : decode cX11_link 52 = .ok (.if_icmp .lt 10, 3) := by decide +kernel
theorem dX11_link_55 : decode cX11_link 55 = .ok (.iload 5, 2) := by decide +kernel
theorem dX11_link_57 : decode cX11_link 57 = .ok (.bipush 48, 2) := by decide +kernel
theorem dX11_link_59 : decode cX11_link 59 = .ok (.if_icmp .le 6, 3) := by decide +kernel
theorem dX11_link_62 : decode cX11_link 62 = .ok (.bipush (-3), 2) := by decide +kernel
theorem dX11_link_64 : decode cX11_link 64 = .ok (.ireturn, 1) := by decide +kernel
theorem dX11_link_65 : decode cX11_link 65 = .ok (.aload_n 0, 1) := by decide +kernel
theorem dX11_link_66 : decode cX11_link 66 = .ok (.getfield 56, 3) := by decide +kernel
theorem dX11_link_69 : decode cX11_link 69 = .ok (.invokevirtual 167, 3) := by decide +kernel
theorem dX11_link_72 : decode cX11_link 72 = .ok (.aload_n 0, 1) := by decide +kernel
theorem dX11_link_73 : decode cX11_link 73 = .ok (.getfield 56, 3) := by decide +kernel
theorem dX11_link_76 : decode cX11_link 76 = .ok (.iload_n 1, 1) := by decide +kernel
theorem dX11_link_77 : decode cX11_link 77 = .ok (.putfield 170, 3) := by decide +kernel
theorem dX11_link_80 : decode cX11_link 80 = .ok (.aload_n 0, 1) := by decide +kernel
theorem dX11_link_81 : decode cX11_link 81 = .ok (.getfield 56, 3) := by decide +kernel
theorem dX11_link_84 : decode cX11_link 84 = .ok (.iload_n 2, 1) := by decide +kernel
theorem dX11_link_85 : decode cX11_link 85 = .ok (.putfield 173, 3) := by decide +kernel
theorem dX11_link_88 : decode cX11_link 88 = .ok (.aload_n 0, 1) := by decide +kernel
theorem dX11_link_89 : decode cX11_link 89 = .ok (.getfield 56, 3) := by decide +kernel
theorem dX11_link_92 : decode cX11_link 92 = .ok (.iload_n 3, 1) := by decide +kernel
theorem dX11_link_93 : decode cX11_link 93 = .ok (.putfield 176, 3) := by decide +kernel
theorem dX11_link_96 : decode cX11_link 96 = .ok (.aload_n 0, 1) := by decide +kernel
theorem dX11_link_97 : decode cX11_link 97 = .ok (.getfield 56, 3) := by decide +kernel
theorem dX11_link_100 : decode cX11_link 100 = .ok (.iload 4, 2) := by decide +kernel
theorem dX11_link_102 : decode cX11_link 102 = .ok (.putfield 179, 3) := by decide +kernel
theorem dX11_link_105 : decode cX11_link 105 = .ok (.aload_n 0, 1) := by decide +kernel
theorem dX11_link_106 : decode cX11_link 106 = .ok (.getfield 56, 3) := by decide +kernel
theorem dX11_link_109 : decode cX11_link 109 = .ok (.iload 5, 2) := by decide +kernel
theorem dX11_link_111 : decode cX11_link 111 = .ok (.putfield 94, 3) := by decide +kernel
theorem dX11_link_114 : decode cX11_link 114 = .ok (.iconst 0, 1) := by decide +kernel
theorem dX11_link_115 : decode cX11_link 115 = .ok (.ireturn, 1) := by decide +kernel
theorem dX11_limit_0 : decode cX11_limit 0 = .ok (.iload_n 1, 1) := by decide +kernel
theorem dX11_limit_1 : decode cX11_limit 1 = .ok (.iconst 1, 1) := by decide +kernel
theorem dX11_limit_2 : decode cX11_limit 2 = .ok (.if_icmp .lt 10, 3) := by decide +kernel
theorem dX11_limit_5 : decode cX11_limit 5 = .ok (.iload_n 1, 1) := by decide +kernel
theorem dX11_limit_6 : decode cX11_limit 6 = .ok (.sipush 9999, 3) := by decide +kernel
theorem dX11_limit_9 : decode cX11_limit 9 = .ok (.if_icmp .le 6, 3) := by decide +kernel
theorem dX11_limit_12 : decode cX11_limit 12 = .ok (.bipush (-3), 2) := by decide +kernel
theorem dX11_limit_14 : decode cX11_limit 14 = .ok (.ireturn, 1) := by decide +kernel
theorem dX11_limit_15 : decode cX11_limit 15 = .ok (.aload_n 0, 1) := by decide +kernel
theorem dX11_limit_16 : decode cX11_limit 16 = .ok (.getfield 56, 3) := by decide +kernel
theorem dX11_limit_19 : decode cX11_limit 19 = .ok (.getfield 182, 3) := by decide +kernel
theorem dX11_limit_22 : decode cX11_limit 22 = .ok (.istore_n 2, 1) := by decide +kernel
theorem dX11_limit_23 : decode cX11_limit 23 = .ok (.aload_n 0, 1) := by decide +kernel
theorem dX11_limit_24 : decode cX11_limit 24 = .ok (.getfield 56, 3) := by decide +kernel
theorem dX11_limit_27 : decode cX11_limit 27 = .ok (.iload_n 1, 1) := by decide +kernel
theorem dX11_limit_28 : decode cX11_limit 28 = .ok (.putfield 182, 3) := by decide +kernel
theorem dX11_limit_31 : decode cX11_limit 31 = .ok (.iload_n 2, 1) := by decide +kernel
theorem dX11_limit_32 : decode cX11_limit 32 = .ok (.ireturn, 1) := by decide +kernel
theorem dX11_fade_0 : decode cX11_fade 0 = .ok (.iload_n 1, 1) := by decide +kernel
theorem dX11_fade_1 : decode cX11_fade 1 = .ok (.ifCond .lt 9, 3) := by decide +kernel
theorem dX11_fade_4 : decode cX11_fade 4 = .ok (.iload_n 1, 1) := by decide +kernel
theorem dX11_fade_5 : decode cX11_fade 5 = .ok (.bipush 60, 2) := by decide +kernel
theorem dX11_fade_7 : decode cX11_fade 7 = .ok (.if_icmp .le 6, 3) := by decide +kernel
theorem dX11_fade_10 : decode cX11_fade 10 = .ok (.bipush (-3), 2) := by decide +kernel
theorem dX11_fade_12 : decode cX11_fade 12 = .ok (.ireturn, 1) := by decide +kernel
theorem dX11_fade_13 : decode cX11_fade 13 = .ok (.aload_n 0, 1) := by decide +kernel
theorem dX11_fade_14 : decode cX11_fade 14 = .ok (.getfield 56, 3) := by decide +kernel
theorem dX11_fade_17 : decode cX11_fade 17 = .ok (.getfield 185, 3) := by decide +kernel
theorem dX11_fade_20 : decode cX11_fade 20 = .ok (.istore_n 2, 1) := by decide +kernel
theorem dX11_fade_21 : decode cX11_fade 21 = .ok (.aload_n 0, 1) := by decide +kernel
theorem dX11_fade_22 : decode cX11_fade 22 = .ok (.getfield 56, 3) := by decide +kernel
theorem dX11_fade_25 : decode cX11_fade 25 = .ok (.iload_n 1, 1) := by decide +kernel
theorem dX11_fade_26 : decode cX11_fade 26 = .ok (.putfield 185, 3) := by decide +kernel
theorem dX11_fade_29 : decode cX11_fade 29 = .ok (.iload_n 2, 1) := by decide +kernel
theorem dX11_fade_30 : decode cX11_fade 30 = .ok (.ireturn, 1) := by decide +kernel
theorem dX11_offer_0 : decode cX11_offer 0 = .ok (.iload_n 1, 1) := by decide +kernel
theorem dX11_offer_1 : decode cX11_offer 1 = .ok (.ifCond .lt 9, 3) := by decide +kernel
theorem dX11_offer_4 : decode cX11_offer 4 = .ok (.iload_n 1, 1) := by decide +kernel
theorem dX11_offer_5 : decode cX11_offer 5 = .ok (.bipush 31, 2) := by decide +kernel
theorem dX11_offer_7 : decode cX11_offer 7 = .ok (.if_icmp .le 6, 3) := by decide +kernel
theorem dX11_offer_10 : decode cX11_offer 10 = .ok (.bipush (-3), 2) := by decide +kernel
theorem dX11_offer_12 : decode cX11_offer 12 = .ok (.ireturn, 1) := by decide +kernel
theorem dX11_offer_13 : decode cX11_offer 13 = .ok (.aload_n 0, 1) := by decide +kernel
theorem dX11_offer_14 : decode cX11_offer 14 = .ok (.getfield 56, 3) := by decide +kernel
theorem dX11_offer_17 : decode cX11_offer 17 = .ok (.getfield 188, 3) := by decide +kernel
theorem dX11_offer_20 : decode cX11_offer 20 = .ok (.astore_n 2, 1) := by decide +kernel
theorem dX11_offer_21 : decode cX11_offer 21 = .ok (.aload_n 2, 1) := by decide +kernel
theorem dX11_offer_22 : decode cX11_offer 22 = .ok (.getfield 192, 3) := by decide +kernel
theorem dX11_offer_25 : decode cX11_offer 25 = .ok (.bipush 20, 2) := by decide +kernel
theorem dX11_offer_27 : decode cX11_offer 27 = .ok (.if_icmp .lt 6, 3) := by decide +kernel
theorem dX11_offer_30 : decode cX11_offer 30 = .ok (.bipush (-4), 2) := by decide +kernel
theorem dX11_offer_32 : decode cX11_offer 32 = .ok (.ireturn, 1) := by decide +kernel
theorem dX11_offer_33 : decode cX11_offer 33 = .ok (.aload_n 2, 1) := by decide +kernel
theorem dX11_offer_34 : decode cX11_offer 34 = .ok (.getfield 197, 3) := by decide +kernel
theorem dX11_offer_37 : decode cX11_offer 37 = .ok (.aload_n 2, 1) := by decide +kernel
theorem dX11_offer_38 : decode cX11_offer 38 = .ok (.getfield 192, 3) := by decide +kernel
theorem dX11_offer_41 : decode cX11_offer 41 = .ok (.iload_n 1, 1) := by decide +kernel
theorem dX11_offer_42 : decode cX11_offer 42 = .ok (.iastore, 1) := by decide +kernel
theorem dX11_offer_43 : decode cX11_offer 43 = .ok (.aload_n 2, 1) := by decide +kernel
theorem dX11_offer_44 : decode cX11_offer 44 = .ok (.dup, 1) := by decide +kernel
theorem dX11_offer_45 : decode cX11_offer 45 = .ok (.getfield 192, 3) := by decide +kernel
theorem dX11_offer_48 : decode cX11_offer 48 = .ok (.iconst 1, 1) := by decide +kernel
theorem dX11_offer_49 : decode cX11_offer 49 = .ok (.iadd, 1) := by decide +kernel
theorem dX11_offer_50 : decode cX11_offer 50 = .ok (.putfield 192, 3) := by decide +kernel
theorem dX11_offer_53 : decode cX11_offer 53 = .ok (.aload_n 2, 1) := by decide +kernel
theorem dX11_offer_54 : decode cX11_offer 54 = .ok (.getfield 192, 3) := by decide +kernel
theorem dX11_offer_57 : decode cX11_offer 57 = .ok (.ireturn, 1) := by decide +kernel
theorem dX11_send_0 : decode cX11_send 0 = .ok (.aload_n 0, 1) := by decide +kernel
theorem dX11_send_1 : decode cX11_send 1 = .ok (.iload_n 1, 1) := by decide +kernel
theorem dX11_send_2 : decode cX11_send 2 = .ok (.invokevirtual 200, 3) := by decide +kernel
theorem dX11_send_5 : decode cX11_send 5 = .ok (.ifCond .eq 13, 3) := by decide +kernel
theorem dX11_send_8 : decode cX11_send 8 = .ok (.iload_n 3, 1) := by decide +kernel
theorem dX11_send_9 : decode cX11_send 9 = .ok (.iconst (-1), 1) := by decide +kernel
theorem dX11_send_10 : decode cX11_send 10 = .ok (.if_icmp .lt 8, 3) := by decide +kernel
theorem dX11_send_13 : decode cX11_send 13 = .ok (.iload_n 3, 1) := by decide +kernel
theorem dX11_send_14 : decode cX11_send 14 = .ok (.iconst 4, 1) := by decide +kernel
theorem dX11_send_15 : decode cX11_send 15 = .ok (.if_icmp .lt 6, 3) := by decide +kernel
theorem dX11_send_18 : decode cX11_send 18 = .ok (.bipush (-2), 2) := by decide +kernel
theorem dX11_send_20 : decode cX11_send 20 = .ok (.ireturn, 1) := by decide +kernel
theorem dX11_send_21 : decode cX11_send 21 = .ok (.iload_n 2, 1) := by decide +kernel
theorem dX11_send_22 : decode cX11_send 22 = .ok (.invokestatic 104, 3) := by decide +kernel
theorem dX11_send_25 : decode cX11_send 25 = .ok (.ifCond .ne 6, 3) := by decide +kernel
theorem dX11_send_28 : decode cX11_send 28 = .ok (.bipush (-3), 2) := by decide +kernel
theorem dX11_send_30 : decode cX11_send 30 = .ok (.ireturn, 1) := by decide +kernel
theorem dX11_send_31 : decode cX11_send 31 = .ok (.iload_n 3, 1) := by decide +kernel
theorem dX11_send_32 : decode cX11_send 32 = .ok (.iconst (-1), 1) := by decide +kernel
theorem dX11_send_33 : decode cX11_send 33 = .ok (.if_icmp .eq 17, 3) := by decide +kernel
theorem dX11_send_36 : decode cX11_send 36 = .ok (.aload_n 0, 1) := by decide +kernel
theorem dX11_send_37 : decode cX11_send 37 = .ok (.getfield 49, 3) := by decide +kernel
theorem dX11_send_40 : decode cX11_send 40 = .ok (.iload_n 3, 1) := by decide +kernel
theorem dX11_send_41 : decode cX11_send 41 = .ok (.invokevirtual 203, 3) := by decide +kernel
theorem dX11_send_44 : decode cX11_send 44 = .ok (.ifCond .eq 6, 3) := by decide +kernel
theorem dX11_send_47 : decode cX11_send 47 = .ok (.bipush (-6), 2) := by decide +kernel
theorem dX11_send_49 : decode cX11_send 49 = .ok (.ireturn, 1) := by decide +kernel
theorem dX11_send_50 : decode cX11_send 50 = .ok (.aload_n 0, 1) := by decide +kernel
theorem dX11_send_51 : decode cX11_send 51 = .ok (.getfield 56, 3) := by decide +kernel
theorem dX11_send_54 : decode cX11_send 54 = .ok (.getfield 188, 3) := by decide +kernel
theorem dX11_send_57 : decode cX11_send 57 = .ok (.iload_n 1, 1) := by decide +kernel
theorem dX11_send_58 : decode cX11_send 58 = .ok (.aload_n 0, 1) := by decide +kernel
theorem dX11_send_59 : decode cX11_send 59 = .ok (.getfield 56, 3) := by decide +kernel
theorem dX11_send_62 : decode cX11_send 62 = .ok (.getfield 173, 3) := by decide +kernel
theorem dX11_send_65 : decode cX11_send 65 = .ok (.invokevirtual 206, 3) := by decide +kernel
theorem dX11_send_68 : decode cX11_send 68 = .ok (.ifCond .ne 6, 3) := by decide +kernel
theorem dX11_send_71 : decode cX11_send 71 = .ok (.bipush (-5), 2) := by decide +kernel
theorem dX11_send_73 : decode cX11_send 73 = .ok (.ireturn, 1) := by decide +kernel
theorem dX11_send_74 : decode cX11_send 74 = .ok (.iload_n 3, 1) := by decide +kernel
theorem dX11_send_75 : decode cX11_send 75 = .ok (.iconst (-1), 1) := by decide +kernel
theorem dX11_send_76 : decode cX11_send 76 = .ok (.if_icmp .ne 7, 3) := by decide +kernel
theorem dX11_send_79 : decode cX11_send 79 = .ok (.iconst 0, 1) := by decide +kernel
theorem dX11_send_80 : decode cX11_send 80 = .ok (.goto 12, 3) := by decide +kernel
theorem dX11_send_83 : decode cX11_send 83 = .ok (.aload_n 0, 1) := by decide +kernel
theorem dX11_send_84 : decode cX11_send 84 = .ok (.getfield 49, 3) := by decide +kernel
theorem dX11_send_87 : decode cX11_send 87 = .ok (.getfield 209, 3) := by decide +kernel
theorem dX11_send_90 : decode cX11_send 90 = .ok (.iload_n 3, 1) := by decide +kernel
theorem dX11_send_91 : decode cX11_send 91 = .ok (.iaload, 1) := by decide +kernel
theorem dX11_send_92 : decode cX11_send 92 = .ok (.istore 4, 2) := by decide +kernel
theorem dX11_send_94 : decode cX11_send 94 = .ok (.aload_n 0, 1) := by decide +kernel
theorem dX11_send_95 : decode cX11_send 95 = .ok (.getfield 42, 3) := by decide +kernel
theorem dX11_send_98 : decode cX11_send 98 = .ok (.invokevirtual 212, 3) := by decide +kernel
theorem dX11_send_101 : decode cX11_send 101 = .ok (.iconst 0, 1) := by decide +kernel
theorem dX11_send_102 : decode cX11_send 102 = .ok (.istore 5, 2) := by decide +kernel
theorem dX11_send_104 : decode cX11_send 104 = .ok (.iconst 0, 1) := by decide +kernel
theorem dX11_send_105 : decode cX11_send 105 = .ok (.istore 6, 2) := by decide +kernel
theorem dX11_send_107 : decode cX11_send 107 = .ok (.iload 6, 2) := by decide +kernel
theorem dX11_send_109 : decode cX11_send 109 = .ok (.iload_n 2, 1) := by decide +kernel
theorem dX11_send_110 : decode cX11_send 110 = .ok (.if_icmp .ge 55, 3) := by decide +kernel
theorem dX11_send_113 : decode cX11_send 113 = .ok (.iload 4, 2) := by decide +kernel
theorem dX11_send_115 : decode cX11_send 115 = .ok (.ifCond .le 50, 3) := by decide +kernel
theorem dX11_send_118 : decode cX11_send 118 = .ok (.aload_n 0, 1) := by decide +kernel
theorem dX11_send_119 : decode cX11_send 119 = .ok (.getfield 42, 3) := by decide +kernel
theorem dX11_send_122 : decode cX11_send 122 = .ok (.getfield 215, 3) := by decide +kernel
theorem dX11_send_125 : decode cX11_send 125 = .ok (.iload 6, 2) := by decide +kernel
theorem dX11_send_127 : decode cX11_send 127 = .ok (.aload_n 0, 1) := by decide +kernel
theorem dX11_send_128 : decode cX11_send 128 = .ok (.getfield 49, 3) := by decide +kernel
theorem dX11_send_131 : decode cX11_send 131 = .ok (.getfield 218, 3) := by decide +kernel
theorem dX11_send_134 : decode cX11_send 134 = .ok (.iload_n 3, 1) := by decide +kernel
theorem dX11_send_135 : decode cX11_send 135 = .ok (.aaload, 1) := by decide +kernel
theorem dX11_send_136 : decode cX11_send 136 = .ok (.iload 5, 2) := by decide +kernel
theorem dX11_send_138 : decode cX11_send 138 = .ok (.baload, 1) := by decide +kernel
theorem dX11_send_139 : decode cX11_send 139 = .ok (.iastore, 1) := by decide +kernel
theorem dX11_send_140 : decode cX11_send 140 = .ok (.iload 5, 2) := by decide +kernel
theorem dX11_send_142 : decode cX11_send 142 = .ok (.iconst 1, 1) := by decide +kernel
theorem dX11_send_143 : decode cX11_send 143 = .ok (.iadd, 1) := by decide +kernel
theorem dX11_send_144 : decode cX11_send 144 = .ok (.iload 4, 2) := by decide +kernel
theorem dX11_send_146 : decode cX11_send 146 = .ok (.if_icmp .ge 10, 3) := by decide +kernel
theorem dX11_send_149 : decode cX11_send 149 = .ok (.iload 5, 2) := by decide +kernel
theorem dX11_send_151 : decode cX11_send 151 = .ok (.iconst 1, 1) := by decide +kernel
theorem dX11_send_152 : decode cX11_send 152 = .ok (.iadd, 1) := by decide +kernel
theorem dX11_send_153 : decode cX11_send 153 = .ok (.goto 4, 3) := by decide +kernel
theorem dX11_send_156 : decode cX11_send 156 = .ok (.iconst 0, 1) := by decide +kernel
theorem dX11_send_157 : decode cX11_send 157 = .ok (.istore 5, 2) := by decide +kernel
theorem dX11_send_159 : decode cX11_send 159 = .ok (.iinc 6 1, 3) := by decide +kernel
theorem dX11_send_162 : decode cX11_send 162 = .ok (.goto (-55), 3) := by decide +kernel
theorem dX11_send_165 : decode cX11_send 165 = .ok (.aload_n 0, 1) := by decide +kernel
theorem dX11_send_166 : decode cX11_send 166 = .ok (.getfield 42, 3) := by decide +kernel
theorem dX11_send_169 : decode cX11_send 169 = .ok (.aload_n 0, 1) := by decide +kernel
theorem dX11_send_170 : decode cX11_send 170 = .ok (.getfield 56, 3) := by decide +kernel
theorem dX11_send_173 : decode cX11_send 173 = .ok (.iload_n 1, 1) := by decide +kernel
theorem dX11_send_174 : decode cX11_send 174 = .ok (.iload_n 2, 1) := by decide +kernel
theorem dX11_send_175 : decode cX11_send 175 = .ok (.iconst 1, 1) := by decide +kernel
theorem dX11_send_176 : decode cX11_send 176 = .ok (.invokevirtual 222, 3) := by decide +kernel
theorem dX11_send_179 : decode cX11_send 179 = .ok (.ireturn, 1) := by decide +kernel
theorem dX11_answer_0 : decode cX11_answer 0 = .ok (.aload_n 0, 1) := by decide +kernel
theorem dX11_answer_1 : decode cX11_answer 1 = .ok (.iload_n 1, 1) := by decide +kernel
theorem dX11_answer_2 : decode cX11_answer 2 = .ok (.invokevirtual 200, 3) := by decide +kernel
theorem dX11_answer_5 : decode cX11_answer 5 = .ok (.ifCond .ne 6, 3) := by decide +kernel
theorem dX11_answer_8 : decode cX11_answer 8 = .ok (.bipush (-2), 2) := by decide +kernel
theorem dX11_answer_10 : decode cX11_answer 10 = .ok (.ireturn, 1) := by decide +kernel
theorem dX11_answer_11 : decode cX11_answer 11 = .ok (.iload_n 2, 1) := by decide +kernel
theorem dX11_answer_12 : decode cX11_answer 12 = .ok (.ifCond .lt 8, 3) := by decide +kernel
theorem dX11_answer_15 : decode cX11_answer 15 = .ok (.iload_n 2, 1) := by decide +kernel
theorem dX11_answer_16 : decode cX11_answer 16 = .ok (.iconst 2, 1) := by decide +kernel
theorem dX11_answer_17 : decode cX11_answer 17 = .ok (.if_icmp .le 6, 3) := by decide +kernel
theorem dX11_answer_20 : decode cX11_answer 20 = .ok (.bipush (-3), 2) := by decide +kernel
theorem dX11_answer_22 : decode cX11_answer 22 = .ok (.ireturn, 1) := by decide +kernel
theorem dX11_answer_23 : decode cX11_answer 23 = .ok (.aload_n 0, 1) := by decide +kernel
theorem dX11_answer_24 : decode cX11_answer 24 = .ok (.getfield 56, 3) := by decide +kernel
theorem dX11_answer_27 : decode cX11_answer 27 = .ok (.getfield 188, 3) := by decide +kernel
theorem dX11_answer_30 : decode cX11_answer 30 = .ok (.getfield 226, 3) := by decide +kernel
theorem dX11_answer_33 : decode cX11_answer 33 = .ok (.iload_n 1, 1) := by decide +kernel
theorem dX11_answer_34 : decode cX11_answer 34 = .ok (.aaload, 1) := by decide +kernel
theorem dX11_answer_35 : decode cX11_answer 35 = .ok (.getfield 230, 3) := by decide +kernel
theorem dX11_answer_38 : decode cX11_answer 38 = .ok (.ifCond .ne 6, 3) := by decide +kernel
theorem dX11_answer_41 : decode cX11_answer 41 = .ok (.bipush (-5), 2) := by decide +kernel
theorem dX11_answer_43 : decode cX11_answer 43 = .ok (.ireturn, 1) := by decide +kernel
theorem dX11_answer_44 : decode cX11_answer 44 = .ok (.aload_n 0, 1) := by decide +kernel
theorem dX11_answer_45 : decode cX11_answer 45 = .ok (.getfield 56, 3) := by decide +kernel
theorem dX11_answer_48 : decode cX11_answer 48 = .ok (.iload_n 1, 1) := by decide +kernel
theorem dX11_answer_49 : decode cX11_answer 49 = .ok (.iload_n 2, 1) := by decide +kernel
theorem dX11_answer_50 : decode cX11_answer 50 = .ok (.invokevirtual 236, 3) := by decide +kernel
theorem dX11_answer_53 : decode cX11_answer 53 = .ok (.ireturn, 1) := by decide +kernel
theorem dX11_burst_0 : decode cX11_burst 0 = .ok (.aload_n 0, 1) := by decide +kernel
theorem dX11_burst_1 : decode cX11_burst 1 = .ok (.iload_n 1, 1) := by decide +kernel
theorem dX11_burst_2 : decode cX11_burst 2 = .ok (.invokevirtual 200, 3) := by decide +kernel
theorem dX11_burst_5 : decode cX11_burst 5 = .ok (.ifCond .eq 27, 3) := by decide +kernel
theorem dX11_burst_8 : decode cX11_burst 8 = .ok (.iload_n 2, 1) := by decide +kernel
theorem dX11_burst_9 : decode cX11_burst 9 = .ok (.invokestatic 101, 3) := by decide +kernel
theorem dX11_burst_12 : decode cX11_burst 12 = .ok (.ifCond .eq 20, 3) := by decide +kernel
theorem dX11_burst_15 : decode cX11_burst 15 = .ok (.iload_n 3, 1) := by decide +kernel
theorem dX11_burst_16 : decode cX11_burst 16 = .ok (.ifCond .lt 16, 3) := by decide +kernel
theorem dX11_burst_19 : decode cX11_burst 19 = .ok (.iload_n 3, 1) := by decide +kernel
theorem dX11_burst_20 : decode cX11_burst 20 = .ok (.iconst 1, 1) := by decide +kernel
theorem dX11_burst_21 : decode cX11_burst 21 = .ok (.if_icmp .gt 11, 3) := by decide +kernel
theorem dX11_burst_24 : decode cX11_burst 24 = .ok (.iload 4, 2) := by decide +kernel
theorem dX11_burst_26 : decode cX11_burst 26 = .ok (.invokestatic 239, 3) := by decide +kernel
theorem dX11_burst_29 : decode cX11_burst 29 = .ok (.ifCond .ne 6, 3) := by decide +kernel
theorem dX11_burst_32 : decode cX11_burst 32 = .ok (.bipush (-2), 2) := by decide +kernel
theorem dX11_burst_34 : decode cX11_burst 34 = .ok (.ireturn, 1) := by decide +kernel
theorem dX11_burst_35 : decode cX11_burst 35 = .ok (.aload_n 0, 1) := by decide +kernel
theorem dX11_burst_36 : decode cX11_burst 36 = .ok (.getfield 49, 3) := by decide +kernel
theorem dX11_burst_39 : decode cX11_burst 39 = .ok (.iload 4, 2) := by decide +kernel
theorem dX11_burst_41 : decode cX11_burst 41 = .ok (.invokevirtual 203, 3) := by decide +kernel
theorem dX11_burst_44 : decode cX11_burst 44 = .ok (.ifCond .eq 6, 3) := by decide +kernel
theorem dX11_burst_47 : decode cX11_burst 47 = .ok (.bipush (-6), 2) := by decide +kernel
theorem dX11_burst_49 : decode cX11_burst 49 = .ok (.ireturn, 1) := by decide +kernel
theorem dX11_burst_50 : decode cX11_burst 50 = .ok (.aload_n 0, 1) := by decide +kernel
theorem dX11_burst_51 : decode cX11_burst 51 = .ok (.getfield 49, 3) := by decide +kernel
theorem dX11_burst_54 : decode cX11_burst 54 = .ok (.getfield 209, 3) := by decide +kernel
theorem dX11_burst_57 : decode cX11_burst 57 = .ok (.iload 4, 2) := by decide +kernel
theorem dX11_burst_59 : decode cX11_burst 59 = .ok (.iaload, 1) := by decide +kernel
theorem dX11_burst_60 : decode cX11_burst 60 = .ok (.istore 5, 2) := by decide +kernel
theorem dX11_burst_62 : decode cX11_burst 62 = .ok (.iload 5, 2) := by decide +kernel
theorem dX11_burst_64 : decode cX11_burst 64 = .ok (.ifCond .ne 6, 3) := by decide +kernel
theorem dX11_burst_67 : decode cX11_burst 67 = .ok (.bipush (-4), 2) := by decide +kernel
theorem dX11_burst_69 : decode cX11_burst 69 = .ok (.ireturn, 1) := by decide +kernel
theorem dX11_burst_70 : decode cX11_burst 70 = .ok (.iconst 0, 1) := by decide +kernel
theorem dX11_burst_71 : decode cX11_burst 71 = .ok (.istore 6, 2) := by decide +kernel
theorem dX11_burst_73 : decode cX11_burst 73 = .ok (.iload 6, 2) := by decide +kernel
theorem dX11_burst_75 : decode cX11_burst 75 = .ok (.iload 5, 2) := by decide +kernel
theorem dX11_burst_77 : decode cX11_burst 77 = .ok (.if_icmp .ge 32, 3) := by decide +kernel
theorem dX11_burst_80 : decode cX11_burst 80 = .ok (.aload_n 0, 1) := by decide +kernel
theorem dX11_burst_81 : decode cX11_burst 81 = .ok (.getfield 42, 3) := by decide +kernel
theorem dX11_burst_84 : decode cX11_burst 84 = .ok (.getfield 215, 3) := by decide +kernel
theorem dX11_burst_87 : decode cX11_burst 87 = .ok (.iload 6, 2) := by decide +kernel
theorem dX11_burst_89 : decode cX11_burst 89 = .ok (.aload_n 0, 1) := by decide +kernel
theorem dX11_burst_90 : decode cX11_burst 90 = .ok (.getfield 49, 3) := by decide +kernel
theorem dX11_burst_93 : decode cX11_burst 93 = .ok (.getfield 218, 3) := by decide +kernel
theorem dX11_burst_96 : decode cX11_burst 96 = .ok (.iload 4, 2) := by decide +kernel
theorem dX11_burst_98 : decode cX11_burst 98 = .ok (.aaload, 1) := by decide +kernel
theorem dX11_burst_99 : decode cX11_burst 99 = .ok (.iload 6, 2) := by decide +kernel
theorem dX11_burst_101 : decode cX11_burst 101 = .ok (.baload, 1) := by decide +kernel
theorem dX11_burst_102 : decode cX11_burst 102 = .ok (.iastore, 1) := by decide +kernel
theorem dX11_burst_103 : decode cX11_burst 103 = .ok (.iinc 6 1, 3) := by decide +kernel
theorem dX11_burst_106 : decode cX11_burst 106 = .ok (.goto (-33), 3) := by decide +kernel
theorem dX11_burst_109 : decode cX11_burst 109 = .ok (.aload_n 0, 1) := by decide +kernel
theorem dX11_burst_110 : decode cX11_burst 110 = .ok (.getfield 19, 3) := by decide +kernel
theorem dX11_burst_113 : decode cX11_burst 113 = .ok (.aload_n 0, 1) := by decide +kernel
theorem dX11_burst_114 : decode cX11_burst 114 = .ok (.getfield 56, 3) := by decide +kernel
theorem dX11_burst_117 : decode cX11_burst 117 = .ok (.getfield 94, 3) := by decide +kernel
theorem dX11_burst_120 : decode cX11_burst 120 = .ok (.iload_n 2, 1) := by decide +kernel
theorem dX11_burst_121 : decode cX11_burst 121 = .ok (.iload 5, 2) := by decide +kernel
theorem dX11_burst_123 : decode cX11_burst 123 = .ok (.invokevirtual 107, 3) := by decide +kernel
theorem dX11_burst_126 : decode cX11_burst 126 = .ok (.aload_n 0, 1) := by decide +kernel
theorem dX11_burst_127 : decode cX11_burst 127 = .ok (.getfield 42, 3) := by decide +kernel
theorem dX11_burst_130 : decode cX11_burst 130 = .ok (.aload_n 0, 1) := by decide +kernel
theorem dX11_burst_131 : decode cX11_burst 131 = .ok (.getfield 56, 3) := by decide +kernel
theorem dX11_burst_134 : decode cX11_burst 134 = .ok (.iload_n 1, 1) := by decide +kernel
theorem dX11_burst_135 : decode cX11_burst 135 = .ok (.iload_n 3, 1) := by decide +kernel
theorem dX11_burst_136 : decode cX11_burst 136 = .ok (.iload 5, 2) := by decide +kernel
theorem dX11_burst_138 : decode cX11_burst 138 = .ok (.invokevirtual 242, 3) := by decide +kernel
theorem dX11_burst_141 : decode cX11_burst 141 = .ok (.ireturn, 1) := by decide +kernel
theorem dX11_tick_0 : decode cX11_tick 0 = .ok (.iload_n 1, 1) := by decide +kernel
theorem dX11_tick_1 : decode cX11_tick 1 = .ok (.iconst 1, 1) := by decide +kernel
theorem dX11_tick_2 : decode cX11_tick 2 = .ok (.if_icmp .lt 9, 3) := by decide +kernel
theorem dX11_tick_5 : decode cX11_tick 5 = .ok (.iload_n 1, 1) := by decide +kernel
theorem dX11_tick_6 : decode cX11_tick 6 = .ok (.bipush 60, 2) := by decide +kernel
theorem dX11_tick_8 : decode cX11_tick 8 = .ok (.if_icmp .le 6, 3) := by decide +kernel
theorem dX11_tick_11 : decode cX11_tick 11 = .ok (.bipush (-3), 2) := by decide +kernel
theorem dX11_tick_13 : decode cX11_tick 13 = .ok (.ireturn, 1) := by decide +kernel
theorem dX11_tick_14 : decode cX11_tick 14 = .ok (.aload_n 0, 1) := by decide +kernel
theorem dX11_tick_15 : decode cX11_tick 15 = .ok (.getfield 56, 3) := by decide +kernel
theorem dX11_tick_18 : decode cX11_tick 18 = .ok (.getfield 246, 3) := by decide +kernel
theorem dX11_tick_21 : decode cX11_tick 21 = .ok (.getfield 250, 3) := by decide +kernel
theorem dX11_tick_24 : decode cX11_tick 24 = .ok (.istore_n 2, 1) := by decide +kernel
theorem dX11_tick_25 : decode cX11_tick 25 = .ok (.iconst 0, 1) := by decide +kernel
theorem dX11_tick_26 : decode cX11_tick 26 = .ok (.istore_n 3, 1) := by decide +kernel
theorem dX11_tick_27 : decode cX11_tick 27 = .ok (.iload_n 3, 1) := by decide +kernel
theorem dX11_tick_28 : decode cX11_tick 28 = .ok (.iload_n 1, 1) := by decide +kernel
theorem dX11_tick_29 : decode cX11_tick 29 = .ok (.if_icmp .ge 26, 3) := by decide +kernel
theorem dX11_tick_32 : decode cX11_tick 32 = .ok (.aload_n 0, 1) := by decide +kernel
theorem dX11_tick_33 : decode cX11_tick 33 = .ok (.getfield 56, 3) := by decide +kernel
theorem dX11_tick_36 : decode cX11_tick 36 = .ok (.getfield 246, 3) := by decide +kernel
theorem dX11_tick_39 : decode cX11_tick 39 = .ok (.aload_n 0, 1) := by decide +kernel
theorem dX11_tick_40 : decode cX11_tick 40 = .ok (.getfield 56, 3) := by decide +kernel
theorem dX11_tick_43 : decode cX11_tick 43 = .ok (.getfield 176, 3) := by decide +kernel
theorem dX11_tick_46 : decode cX11_tick 46 = .ok (.invokevirtual 255, 3) := by decide +kernel
theorem dX11_tick_49 : decode cX11_tick 49 = .ok (.iinc 3 1, 3) := by decide +kernel
theorem dX11_tick_52 : decode cX11_tick 52 = .ok (.goto (-25), 3) := by decide +kernel
theorem dX11_tick_55 : decode cX11_tick 55 = .ok (.aload_n 0, 1) := by decide +kernel
theorem dX11_tick_56 : decode cX11_tick 56 = .ok (.getfield 56, 3) := by decide +kernel
theorem dX11_tick_59 : decode cX11_tick 59 = .ok (.getfield 246, 3) := by decide +kernel
theorem dX11_tick_62 : decode cX11_tick 62 = .ok (.getfield 250, 3) := by decide +kernel
theorem dX11_tick_65 : decode cX11_tick 65 = .ok (.iload_n 2, 1) := by decide +kernel
theorem dX11_tick_66 : decode cX11_tick 66 = .ok (.isub, 1) := by decide +kernel
theorem dX11_tick_67 : decode cX11_tick 67 = .ok (.ireturn, 1) := by decide +kernel
theorem dX11_report_0 : decode cX11_report 0 = .ok (.aload_n 0, 1) := by decide +kernel
theorem dX11_report_1 : decode cX11_report 1 = .ok (.getfield 56, 3) := by decide +kernel
theorem dX11_report_4 : decode cX11_report 4 = .ok (.getfield 188, 3) := by decide +kernel
theorem dX11_report_7 : decode cX11_report 7 = .ok (.aload_n 0, 1) := by decide +kernel
theorem dX11_report_8 : decode cX11_report 8 = .ok (.getfield 56, 3) := by decide +kernel
theorem dX11_report_11 : decode cX11_report 11 = .ok (.getfield 246, 3) := by decide +kernel
theorem dX11_report_14 : decode cX11_report 14 = .ok (.invokevirtual 259, 3) := by decide +kernel
theorem dX11_report_17 : decode cX11_report 17 = .ok (.aload_n 0, 1) := by decide +kernel
theorem dX11_report_18 : decode cX11_report 18 = .ok (.getfield 56, 3) := by decide +kernel
theorem dX11_report_21 : decode cX11_report 21 = .ok (.getfield 188, 3) := by decide +kernel
theorem dX11_report_24 : decode cX11_report 24 = .ok (.getfield 263, 3) := by decide +kernel
theorem dX11_report_27 : decode cX11_report 27 = .ok (.ireturn, 1) := by decide +kernel
theorem dX11_run_0 : decode cX11_run 0 = .ok (.iload_n 2, 1) := by decide +kernel
theorem dX11_run_1 : decode cX11_run 1 = .ok (.iconst 1, 1) := by decide +kernel
theorem dX11_run_2 : decode cX11_run 2 = .ok (.if_icmp .lt 28, 3) := by decide +kernel
theorem dX11_run_5 : decode cX11_run 5 = .ok (.iload_n 2, 1) := by decide +kernel
theorem dX11_run_6 : decode cX11_run 6 = .ok (.bipush 60, 2) := by decide +kernel
theorem dX11_run_8 : decode cX11_run 8 = .ok (.if_icmp .gt 22, 3) := by decide +kernel
theorem dX11_run_11 : decode cX11_run 11 = .ok (.iload_n 3, 1) := by decide +kernel
theorem dX11_run_12 : decode cX11_run 12 = .ok (.invokestatic 104, 3) := by decide +kernel
theorem dX11_run_15 : decode cX11_run 15 = .ok (.ifCond .eq 15, 3) := by decide +kernel
theorem dX11_run_18 : decode cX11_run 18 = .ok (.iload 4, 2) := by decide +kernel
theorem dX11_run_20 : decode cX11_run 20 = .ok (.ifCond .lt 10, 3) := by decide +kernel
theorem dX11_run_23 : decode cX11_run 23 = .ok (.iload 4, 2) := by decide +kernel
theorem dX11_run_25 : decode cX11_run 25 = .ok (.bipush 127, 2) := by decide +kernel
theorem dX11_run_27 : decode cX11_run 27 = .ok (.if_icmp .le 6, 3) := by decide +kernel
theorem dX11_run_30 : decode cX11_run 30 = .ok (.bipush (-3), 2) := by decide +kernel
theorem dX11_run_32 : decode cX11_run 32 = .ok (.ireturn, 1) := by decide +kernel
theorem dX11_run_33 : decode cX11_run 33 = .ok (.aload_n 0, 1) := by decide +kernel
theorem dX11_run_34 : decode cX11_run 34 = .ok (.getfield 56, 3) := by decide +kernel
theorem dX11_run_37 : decode cX11_run 37 = .ok (.getfield 246, 3) := by decide +kernel
theorem dX11_run_40 : decode cX11_run 40 = .ok (.getfield 250, 3) := by decide +kernel
theorem dX11_run_43 : decode cX11_run 43 = .ok (.istore 5, 2) := by decide +kernel
theorem dX11_run_45 : decode cX11_run 45 = .ok (.aload_n 0, 1) := by decide +kernel
theorem dX11_run_46 : decode cX11_run 46 = .ok (.getfield 42, 3) := by decide +kernel
theorem dX11_run_49 : decode cX11_run 49 = .ok (.iload_n 1, 1) := by decide +kernel
theorem dX11_run_50 : decode cX11_run 50 = .ok (.putfield 266, 3) := by decide +kernel
theorem dX11_run_53 : decode cX11_run 53 = .ok (.iconst 0, 1) := by decide +kernel
theorem dX11_run_54 : decode cX11_run 54 = .ok (.istore 6, 2) := by decide +kernel
theorem dX11_run_56 : decode cX11_run 56 = .ok (.iload 6, 2) := by decide +kernel
theorem dX11_run_58 : decode cX11_run 58 = .ok (.iload_n 2, 1) := by decide +kernel
theorem dX11_run_59 : decode cX11_run 59 = .ok (.if_icmp .ge 25, 3) := by decide +kernel
theorem dX11_run_62 : decode cX11_run 62 = .ok (.aload_n 0, 1) := by decide +kernel
theorem dX11_run_63 : decode cX11_run 63 = .ok (.getfield 42, 3) := by decide +kernel
theorem dX11_run_66 : decode cX11_run 66 = .ok (.aload_n 0, 1) := by decide +kernel
theorem dX11_run_67 : decode cX11_run 67 = .ok (.getfield 56, 3) := by decide +kernel
theorem dX11_run_70 : decode cX11_run 70 = .ok (.iload 6, 2) := by decide +kernel
theorem dX11_run_72 : decode cX11_run 72 = .ok (.iload_n 3, 1) := by decide +kernel
theorem dX11_run_73 : decode cX11_run 73 = .ok (.iload 4, 2) := by decide +kernel
theorem dX11_run_75 : decode cX11_run 75 = .ok (.invokevirtual 269, 3) := by decide +kernel
theorem dX11_run_78 : decode cX11_run 78 = .ok (.iinc 6 1, 3) := by decide +kernel
theorem dX11_run_81 : decode cX11_run 81 = .ok (.goto (-25), 3) := by decide +kernel
theorem dX11_run_84 : decode cX11_run 84 = .ok (.aload_n 0, 1) := by decide +kernel
theorem dX11_run_85 : decode cX11_run 85 = .ok (.getfield 56, 3) := by decide +kernel
theorem dX11_run_88 : decode cX11_run 88 = .ok (.getfield 246, 3) := by decide +kernel
theorem dX11_run_91 : decode cX11_run 91 = .ok (.getfield 250, 3) := by decide +kernel
theorem dX11_run_94 : decode cX11_run 94 = .ok (.iload 5, 2) := by decide +kernel
theorem dX11_run_96 : decode cX11_run 96 = .ok (.isub, 1) := by decide +kernel
theorem dX11_run_97 : decode cX11_run 97 = .ok (.ireturn, 1) := by decide +kernel
theorem dX11_drain_0 : decode cX11_drain 0 = .ok (.aload_n 0, 1) := by decide +kernel
theorem dX11_drain_1 : decode cX11_drain 1 = .ok (.getfield 42, 3) := by decide +kernel
theorem dX11_drain_4 : decode cX11_drain 4 = .ok (.aload_n 0, 1) := by decide +kernel
theorem dX11_drain_5 : decode cX11_drain 5 = .ok (.getfield 56, 3) := by decide +kernel
theorem dX11_drain_8 : decode cX11_drain 8 = .ok (.iconst 0, 1) := by decide +kernel
theorem dX11_drain_9 : decode cX11_drain 9 = .ok (.invokevirtual 273, 3) := by decide +kernel
theorem dX11_drain_12 : decode cX11_drain 12 = .ok (.ireturn, 1) := by decide +kernel
theorem dX11_drained_0 : decode cX11_drained 0 = .ok (.iload_n 1, 1) := by decide +kernel
theorem dX11_drained_1 : decode cX11_drained 1 = .ok (.ifCond .ge 6, 3) := by decide +kernel
theorem dX11_drained_4 : decode cX11_drained 4 = .ok (.bipush (-3), 2) := by decide +kernel
theorem dX11_drained_6 : decode cX11_drained 6 = .ok (.ireturn, 1) := by decide +kernel
theorem dX11_drained_7 : decode cX11_drained 7 = .ok (.aload_n 0, 1) := by decide +kernel
theorem dX11_drained_8 : decode cX11_drained 8 = .ok (.getfield 42, 3) := by decide +kernel
theorem dX11_drained_11 : decode cX11_drained 11 = .ok (.aload_n 0, 1) := by decide +kernel
theorem dX11_drained_12 : decode cX11_drained 12 = .ok (.getfield 56, 3) := by decide +kernel
theorem dX11_drained_15 : decode cX11_drained 15 = .ok (.iconst 0, 1) := by decide +kernel
theorem dX11_drained_16 : decode cX11_drained 16 = .ok (.invokevirtual 273, 3) := by decide +kernel
theorem dX11_drained_19 : decode cX11_drained 19 = .ok (.pop, 1) := by decide +kernel
theorem dX11_drained_20 : decode cX11_drained 20 = .ok (.aload_n 0, 1) := by decide +kernel
theorem dX11_drained_21 : decode cX11_drained 21 = .ok (.getfield 42, 3) := by decide +kernel
theorem dX11_drained_24 : decode cX11_drained 24 = .ok (.getfield 277, 3) := by decide +kernel
theorem dX11_drained_27 : decode cX11_drained 27 = .ok (.getfield 246, 3) := by decide +kernel
theorem dX11_drained_30 : decode cX11_drained 30 = .ok (.astore_n 2, 1) := by decide +kernel
theorem dX11_drained_31 : decode cX11_drained 31 = .ok (.aload_n 2, 1) := by decide +kernel
theorem dX11_drained_32 : decode cX11_drained 32 = .ok (.getfield 250, 3) := by decide +kernel
theorem dX11_drained_35 : decode cX11_drained 35 = .ok (.aload_n 0, 1) := by decide +kernel
theorem dX11_drained_36 : decode cX11_drained 36 = .ok (.getfield 56, 3) := by decide +kernel
theorem dX11_drained_39 : decode cX11_drained 39 = .ok (.getfield 246, 3) := by decide +kernel
theorem dX11_drained_42 : decode cX11_drained 42 = .ok (.getfield 250, 3) := by decide +kernel
theorem dX11_drained_45 : decode cX11_drained 45 = .ok (.isub, 1) := by decide +kernel
theorem dX11_drained_46 : decode cX11_drained 46 = .ok (.istore_n 3, 1) := by decide +kernel
theorem dX11_drained_47 : decode cX11_drained 47 = .ok (.iload_n 1, 1) := by decide +kernel
theorem dX11_drained_48 : decode cX11_drained 48 = .ok (.iload_n 3, 1) := by decide +kernel
theorem dX11_drained_49 : decode cX11_drained 49 = .ok (.if_icmp .ge 15, 3) := by decide +kernel
theorem dX11_drained_52 : decode cX11_drained 52 = .ok (.aload_n 2, 1) := by decide +kernel
theorem dX11_drained_53 : decode cX11_drained 53 = .ok (.iload_n 3, 1) := by decide +kernel
theorem dX11_drained_54 : decode cX11_drained 54 = .ok (.iconst 1, 1) := by decide +kernel
theorem dX11_drained_55 : decode cX11_drained 55 = .ok (.isub, 1) := by decide +kernel
theorem dX11_drained_56 : decode cX11_drained 56 = .ok (.iload_n 1, 1) := by decide +kernel
theorem dX11_drained_57 : decode cX11_drained 57 = .ok (.isub, 1) := by decide +kernel
theorem dX11_drained_58 : decode cX11_drained 58 = .ok (.invokevirtual 280, 3) := by decide +kernel
theorem dX11_drained_61 : decode cX11_drained 61 = .ok (.goto 4, 3) := by decide +kernel
theorem dX11_drained_64 : decode cX11_drained 64 = .ok (.iconst (-1), 1) := by decide +kernel
theorem dX11_drained_65 : decode cX11_drained 65 = .ok (.ireturn, 1) := by decide +kernel
theorem dX11_worst_0 : decode cX11_worst 0 = .ok (.iload_n 2, 1) := by decide +kernel
theorem dX11_worst_1 : decode cX11_worst 1 = .ok (.ifCond .lt 8, 3) := by decide +kernel
theorem dX11_worst_4 : decode cX11_worst 4 = .ok (.iload_n 2, 1) := by decide +kernel
theorem dX11_worst_5 : decode cX11_worst 5 = .ok (.iconst 1, 1) := by decide +kernel
theorem dX11_worst_6 : decode cX11_worst 6 = .ok (.if_icmp .le 6, 3) := by decide +kernel
theorem dX11_worst_9 : decode cX11_worst 9 = .ok (.bipush (-2), 2) := by decide +kernel
theorem dX11_worst_11 : decode cX11_worst 11 = .ok (.ireturn, 1) := by decide +kernel
theorem dX11_worst_12 : decode cX11_worst 12 = .ok (.iload_n 1, 1) := by decide +kernel
theorem dX11_worst_13 : decode cX11_worst 13 = .ok (.ifCond .lt 8, 3) := by decide +kernel
theorem dX11_worst_16 : decode cX11_worst 16 = .ok (.iload_n 1, 1) := by decide +kernel
theorem dX11_worst_17 : decode cX11_worst 17 = .ok (.iconst 3, 1) := by decide +kernel
theorem dX11_worst_18 : decode cX11_worst 18 = .ok (.if_icmp .le 6, 3) := by decide +kernel
theorem dX11_worst_21 : decode cX11_worst 21 = .ok (.bipush (-3), 2) := by decide +kernel
theorem dX11_worst_23 : decode cX11_worst 23 = .ok (.ireturn, 1) := by decide +kernel
theorem dX11_worst_24 : decode cX11_worst 24 = .ok (.iconst 0, 1) := by decide +kernel
theorem dX11_worst_25 : decode cX11_worst 25 = .ok (.istore_n 3, 1) := by decide +kernel
theorem dX11_worst_26 : decode cX11_worst 26 = .ok (.iconst 0, 1) := by decide +kernel
theorem dX11_worst_27 : decode cX11_worst 27 = .ok (.istore 4, 2) := by decide +kernel
theorem dX11_worst_29 : decode cX11_worst 29 = .ok (.iconst 0, 1) := by decide +kernel
theorem dX11_worst_30 : decode cX11_worst 30 = .ok (.istore 5, 2) := by decide +kernel
theorem dX11_worst_32 : decode cX11_worst 32 = .ok (.iload 5, 2) := by decide +kernel
theorem dX11_worst_34 : decode cX11_worst 34 = .ok (.iconst 1, 1) := by decide +kernel
theorem dX11_worst_35 : decode cX11_worst 35 = .ok (.iload_n 1, 1) := by decide +kernel
theorem dX11_worst_36 : decode cX11_worst 36 = .ok (.ishl, 1) := by decide +kernel
theorem dX11_worst_37 : decode cX11_worst 37 = .ok (.if_icmp .ge 52, 3) := by decide +kernel
theorem dX11_worst_40 : decode cX11_worst 40 = .ok (.aload_n 0, 1) := by decide +kernel
theorem dX11_worst_41 : decode cX11_worst 41 = .ok (.getfield 42, 3) := by decide +kernel
theorem dX11_worst_44 : decode cX11_worst 44 = .ok (.aload_n 0, 1) := by decide +kernel
theorem dX11_worst_45 : decode cX11_worst 45 = .ok (.getfield 56, 3) := by decide +kernel
theorem dX11_worst_48 : decode cX11_worst 48 = .ok (.iload 5, 2) := by decide +kernel
theorem dX11_worst_50 : decode cX11_worst 50 = .ok (.invokevirtual 273, 3) := by decide +kernel
theorem dX11_worst_53 : decode cX11_worst 53 = .ok (.istore 6, 2) := by decide +kernel
theorem dX11_worst_55 : decode cX11_worst 55 = .ok (.iload 6, 2) := by decide +kernel
theorem dX11_worst_57 : decode cX11_worst 57 = .ok (.iconst (-1), 1) := by decide +kernel
theorem dX11_worst_58 : decode cX11_worst 58 = .ok (.if_icmp .ne 8, 3) := by decide +kernel
theorem dX11_worst_61 : decode cX11_worst 61 = .ok (.bipush 31, 2) := by decide +kernel
theorem dX11_worst_63 : decode cX11_worst 63 = .ok (.goto 5, 3) := by decide +kernel
theorem dX11_worst_66 : decode cX11_worst 66 = .ok (.iload 6, 2) := by decide +kernel
theorem dX11_worst_68 : decode cX11_worst 68 = .ok (.istore 7, 2) := by decide +kernel
theorem dX11_worst_70 : decode cX11_worst 70 = .ok (.iload 7, 2) := by decide +kernel
theorem dX11_worst_72 : decode cX11_worst 72 = .ok (.iload_n 3, 1) := by decide +kernel
theorem dX11_worst_73 : decode cX11_worst 73 = .ok (.if_icmp .le 10, 3) := by decide +kernel
theorem dX11_worst_76 : decode cX11_worst 76 = .ok (.iload 7, 2) := by decide +kernel
theorem dX11_worst_78 : decode cX11_worst 78 = .ok (.istore_n 3, 1) := by decide +kernel
theorem dX11_worst_79 : decode cX11_worst 79 = .ok (.iload 5, 2) := by decide +kernel
theorem dX11_worst_81 : decode cX11_worst 81 = .ok (.istore 4, 2) := by decide +kernel
theorem dX11_worst_83 : decode cX11_worst 83 = .ok (.iinc 5 1, 3) := by decide +kernel
theorem dX11_worst_86 : decode cX11_worst 86 = .ok (.goto (-54), 3) := by decide +kernel
theorem dX11_worst_89 : decode cX11_worst 89 = .ok (.iload_n 2, 1) := by decide +kernel
theorem dX11_worst_90 : decode cX11_worst 90 = .ok (.iconst 1, 1) := by decide +kernel
theorem dX11_worst_91 : decode cX11_worst 91 = .ok (.if_icmp .ne 6, 3) := by decide +kernel
theorem dX11_worst_94 : decode cX11_worst 94 = .ok (.iload 4, 2) := by decide +kernel
theorem dX11_worst_96 : decode cX11_worst 96 = .ok (.ireturn, 1) := by decide +kernel
theorem dX11_worst_97 : decode cX11_worst 97 = .ok (.iload_n 3, 1) := by decide +kernel
theorem dX11_worst_98 : decode cX11_worst 98 = .ok (.bipush 30, 2) := by decide +kernel
theorem dX11_worst_100 : decode cX11_worst 100 = .ok (.if_icmp .le 7, 3) := by decide +kernel
theorem dX11_worst_103 : decode cX11_worst 103 = .ok (.iconst (-1), 1) := by decide +kernel
theorem dX11_worst_104 : decode cX11_worst 104 = .ok (.goto 4, 3) := by decide +kernel
theorem dX11_worst_107 : decode cX11_worst 107 = .ok (.iload_n 3, 1) := by decide +kernel
theorem dX11_worst_108 : decode cX11_worst 108 = .ok (.ireturn, 1) := by decide +kernel
theorem dX11_process_0 : decode cX11_process 0 = .ok (.aload_n 0, 1) := by decide +kernel
theorem dX11_process_1 : decode cX11_process 1 = .ok (.iload_n 1, 1) := by decide +kernel
theorem dX11_process_2 : decode cX11_process 2 = .ok (.invokevirtual 200, 3) := by decide +kernel
theorem dX11_process_5 : decode cX11_process 5 = .ok (.ifCond .ne 6, 3) := by decide +kernel
theorem dX11_process_8 : decode cX11_process 8 = .ok (.bipush (-2), 2) := by decide +kernel
theorem dX11_process_10 : decode cX11_process 10 = .ok (.ireturn, 1) := by decide +kernel
theorem dX11_process_11 : decode cX11_process 11 = .ok (.aload_n 0, 1) := by decide +kernel
theorem dX11_process_12 : decode cX11_process 12 = .ok (.getfield 56, 3) := by decide +kernel
theorem dX11_process_15 : decode cX11_process 15 = .ok (.getfield 188, 3) := by decide +kernel
theorem dX11_process_18 : decode cX11_process 18 = .ok (.getfield 226, 3) := by decide +kernel
theorem dX11_process_21 : decode cX11_process 21 = .ok (.iload_n 1, 1) := by decide +kernel
theorem dX11_process_22 : decode cX11_process 22 = .ok (.aaload, 1) := by decide +kernel
theorem dX11_process_23 : decode cX11_process 23 = .ok (.astore_n 3, 1) := by decide +kernel
theorem dX11_process_24 : decode cX11_process 24 = .ok (.aload_n 3, 1) := by decide +kernel
theorem dX11_process_25 : decode cX11_process 25 = .ok (.getfield 283, 3) := by decide +kernel
theorem dX11_process_28 : decode cX11_process 28 = .ok (.iconst (-1), 1) := by decide +kernel
theorem dX11_process_29 : decode cX11_process 29 = .ok (.if_icmp .ne 7, 3) := by decide +kernel
theorem dX11_process_32 : decode cX11_process 32 = .ok (.iconst 1, 1) := by decide +kernel
theorem dX11_process_33 : decode cX11_process 33 = .ok (.goto 4, 3) := by decide +kernel
theorem dX11_process_36 : decode cX11_process 36 = .ok (.iconst 0, 1) := by decide +kernel
theorem dX11_process_37 : decode cX11_process 37 = .ok (.istore 4, 2) := by decide +kernel
theorem dX11_process_39 : decode cX11_process 39 = .ok (.iload_n 2, 1) := by decide +kernel
theorem dX11_process_40 : decode cX11_process 40 = .ok (.tableswitch 122 0 5 #[40, 45, 70, 75, 89, 102], 40) := by decide +kernel
theorem dX11_process_80 : decode cX11_process 80 = .ok (.aload_n 3, 1) := by decide +kernel
theorem dX11_process_81 : decode cX11_process 81 = .ok (.getfield 283, 3) := by decide +kernel
theorem dX11_process_84 : decode cX11_process 84 = .ok (.ireturn, 1) := by decide +kernel
theorem dX11_process_85 : decode cX11_process 85 = .ok (.iload 4, 2) := by decide +kernel
theorem dX11_process_87 : decode cX11_process 87 = .ok (.ifCond .eq 7, 3) := by decide +kernel
theorem dX11_process_90 : decode cX11_process 90 = .ok (.iconst (-1), 1) := by decide +kernel
theorem dX11_process_91 : decode cX11_process 91 = .ok (.goto 18, 3) := by decide +kernel
theorem dX11_process_94 : decode cX11_process 94 = .ok (.aload_n 0, 1) := by decide +kernel
theorem dX11_process_95 : decode cX11_process 95 = .ok (.getfield 56, 3) := by decide +kernel
theorem dX11_process_98 : decode cX11_process 98 = .ok (.getfield 188, 3) := by decide +kernel
theorem dX11_process_101 : decode cX11_process 101 = .ok (.getfield 286, 3) := by decide +kernel
theorem dX11_process_104 : decode cX11_process 104 = .ok (.aload_n 3, 1) := by decide +kernel
theorem dX11_process_105 : decode cX11_process 105 = .ok (.getfield 283, 3) := by decide +kernel
theorem dX11_process_108 : decode cX11_process 108 = .ok (.iaload, 1) := by decide +kernel
theorem dX11_process_109 : decode cX11_process 109 = .ok (.ireturn, 1) := by decide +kernel
theorem dX11_process_110 : decode cX11_process 110 = .ok (.aload_n 3, 1) := by decide +kernel
theorem dX11_process_111 : decode cX11_process 111 = .ok (.getfield 289, 3) := by decide +kernel
theorem dX11_process_114 : decode cX11_process 114 = .ok (.ireturn, 1) := by decide +kernel
theorem dX11_process_115 : decode cX11_process 115 = .ok (.iload 4, 2) := by decide +kernel
theorem dX11_process_117 : decode cX11_process 117 = .ok (.ifCond .eq 7, 3) := by decide +kernel
theorem dX11_process_120 : decode cX11_process 120 = .ok (.iconst 0, 1) := by decide +kernel
theorem dX11_process_121 : decode cX11_process 121 = .ok (.goto 7, 3) := by decide +kernel
theorem dX11_process_124 : decode cX11_process 124 = .ok (.aload_n 3, 1) := by decide +kernel
theorem dX11_process_125 : decode cX11_process 125 = .ok (.getfield 292, 3) := by decide +kernel
theorem dX11_process_128 : decode cX11_process 128 = .ok (.ireturn, 1) := by decide +kernel
theorem dX11_process_129 : decode cX11_process 129 = .ok (.aload_n 3, 1) := by decide +kernel
theorem dX11_process_130 : decode cX11_process 130 = .ok (.getfield 230, 3) := by decide +kernel
theorem dX11_process_133 : decode cX11_process 133 = .ok (.ifCond .eq 7, 3) := by decide +kernel
theorem dX11_process_136 : decode cX11_process 136 = .ok (.iconst 1, 1) := by decide +kernel
theorem dX11_process_137 : decode cX11_process 137 = .ok (.goto 4, 3) := by decide +kernel
theorem dX11_process_140 : decode cX11_process 140 = .ok (.iconst 0, 1) := by decide +kernel
theorem dX11_process_141 : decode cX11_process 141 = .ok (.ireturn, 1) := by decide +kernel
theorem dX11_process_142 : decode cX11_process 142 = .ok (.iload 4, 2) := by decide +kernel
theorem dX11_process_144 : decode cX11_process 144 = .ok (.ifCond .eq 7, 3) := by decide +kernel
theorem dX11_process_147 : decode cX11_process 147 = .ok (.iconst (-1), 1) := by decide +kernel
theorem dX11_process_148 : decode cX11_process 148 = .ok (.goto 13, 3) := by decide +kernel
theorem dX11_process_151 : decode cX11_process 151 = .ok (.getstatic 295, 3) := by decide +kernel
theorem dX11_process_154 : decode cX11_process 154 = .ok (.aload_n 3, 1) := by decide +kernel
theorem dX11_process_155 : decode cX11_process 155 = .ok (.getfield 292, 3) := by decide +kernel
theorem dX11_process_158 : decode cX11_process 158 = .ok (.iconst 3, 1) := by decide +kernel
theorem dX11_process_159 : decode cX11_process 159 = .ok (.iand, 1) := by decide +kernel
theorem dX11_process_160 : decode cX11_process 160 = .ok (.iaload, 1) := by decide +kernel
theorem dX11_process_161 : decode cX11_process 161 = .ok (.ireturn, 1) := by decide +kernel
theorem dX11_process_162 : decode cX11_process 162 = .ok (.bipush (-2), 2) := by decide +kernel
theorem dX11_process_164 : decode cX11_process 164 = .ok (.ireturn, 1) := by decide +kernel
theorem dX11_kept_0 : decode cX11_kept 0 = .ok (.iload_n 1, 1) := by decide +kernel
theorem dX11_kept_1 : decode cX11_kept 1 = .ok (.invokestatic 75, 3) := by decide +kernel
theorem dX11_kept_4 : decode cX11_kept 4 = .ok (.ifCond .eq 12, 3) := by decide +kernel
theorem dX11_kept_7 : decode cX11_kept 7 = .ok (.iload_n 2, 1) := by decide +kernel
theorem dX11_kept_8 : decode cX11_kept 8 = .ok (.ifCond .lt 8, 3) := by decide +kernel
theorem dX11_kept_11 : decode cX11_kept 11 = .ok (.iload_n 2, 1) := by decide +kernel
theorem dX11_kept_12 : decode cX11_kept 12 = .ok (.iconst 1, 1) := by decide +kernel
theorem dX11_kept_13 : decode cX11_kept 13 = .ok (.if_icmp .le 6, 3) := by decide +kernel
theorem dX11_kept_16 : decode cX11_kept 16 = .ok (.bipush (-2), 2) := by decide +kernel
theorem dX11_kept_18 : decode cX11_kept 18 = .ok (.ireturn, 1) := by decide +kernel
theorem dX11_kept_19 : decode cX11_kept 19 = .ok (.aload_n 0, 1) := by decide +kernel
theorem dX11_kept_20 : decode cX11_kept 20 = .ok (.getfield 56, 3) := by decide +kernel
theorem dX11_kept_23 : decode cX11_kept 23 = .ok (.getfield 188, 3) := by decide +kernel
theorem dX11_kept_26 : decode cX11_kept 26 = .ok (.iload_n 1, 1) := by decide +kernel
theorem dX11_kept_27 : decode cX11_kept 27 = .ok (.invokevirtual 298, 3) := by decide +kernel
theorem dX11_kept_30 : decode cX11_kept 30 = .ok (.ifCond .ne 5, 3) := by decide +kernel
theorem dX11_kept_33 : decode cX11_kept 33 = .ok (.iconst (-1), 1) := by decide +kernel
theorem dX11_kept_34 : decode cX11_kept 34 = .ok (.ireturn, 1) := by decide +kernel
theorem dX11_kept_35 : decode cX11_kept 35 = .ok (.iload_n 2, 1) := by decide +kernel
theorem dX11_kept_36 : decode cX11_kept 36 = .ok (.ifCond .ne 18, 3) := by decide +kernel
theorem dX11_kept_39 : decode cX11_kept 39 = .ok (.aload_n 0, 1) := by decide +kernel
theorem dX11_kept_40 : decode cX11_kept 40 = .ok (.getfield 56, 3) := by decide +kernel
theorem dX11_kept_43 : decode cX11_kept 43 = .ok (.getfield 188, 3) := by decide +kernel
theorem dX11_kept_46 : decode cX11_kept 46 = .ok (.getfield 286, 3) := by decide +kernel
theorem dX11_kept_49 : decode cX11_kept 49 = .ok (.iload_n 1, 1) := by decide +kernel
theorem dX11_kept_50 : decode cX11_kept 50 = .ok (.iaload, 1) := by decide +kernel
theorem dX11_kept_51 : decode cX11_kept 51 = .ok (.goto 15, 3) := by decide +kernel
theorem dX11_kept_54 : decode cX11_kept 54 = .ok (.aload_n 0, 1) := by decide +kernel
theorem dX11_kept_55 : decode cX11_kept 55 = .ok (.getfield 56, 3) := by decide +kernel
theorem dX11_kept_58 : decode cX11_kept 58 = .ok (.getfield 188, 3) := by decide +kernel
theorem dX11_kept_61 : decode cX11_kept 61 = .ok (.getfield 301, 3) := by decide +kernel
theorem dX11_kept_64 : decode cX11_kept 64 = .ok (.iload_n 1, 1) := by decide +kernel
theorem dX11_kept_65 : decode cX11_kept 65 = .ok (.iaload, 1) := by decide +kernel
theorem dX11_kept_66 : decode cX11_kept 66 = .ok (.ireturn, 1) := by decide +kernel
theorem dX11_again_0 : decode cX11_again 0 = .ok (.iload_n 1, 1) := by decide +kernel
theorem dX11_again_1 : decode cX11_again 1 = .ok (.ifCond .ge 6, 3) := by decide +kernel
theorem dX11_again_4 : decode cX11_again 4 = .ok (.bipush (-3), 2) := by decide +kernel
theorem dX11_again_6 : decode cX11_again 6 = .ok (.ireturn, 1) := by decide +kernel
theorem dX11_again_7 : decode cX11_again 7 = .ok (.iload_n 1, 1) := by decide +kernel
theorem dX11_again_8 : decode cX11_again 8 = .ok (.aload_n 0, 1) := by decide +kernel
theorem dX11_again_9 : decode cX11_again 9 = .ok (.getfield 56, 3) := by decide +kernel
theorem dX11_again_12 : decode cX11_again 12 = .ok (.getfield 188, 3) := by decide +kernel
theorem dX11_again_15 : decode cX11_again 15 = .ok (.getfield 263, 3) := by decide +kernel
theorem dX11_again_18 : decode cX11_again 18 = .ok (.if_icmp .ge 18, 3) := by decide +kernel
theorem dX11_again_21 : decode cX11_again 21 = .ok (.aload_n 0, 1) := by decide +kernel
theorem dX11_again_22 : decode cX11_again 22 = .ok (.getfield 56, 3) := by decide +kernel
theorem dX11_again_25 : decode cX11_again 25 = .ok (.getfield 188, 3) := by decide +kernel
theorem dX11_again_28 : decode cX11_again 28 = .ok (.getfield 304, 3) := by decide +kernel
theorem dX11_again_31 : decode cX11_again 31 = .ok (.iload_n 1, 1) := by decide +kernel
theorem dX11_again_32 : decode cX11_again 32 = .ok (.iaload, 1) := by decide +kernel
theorem dX11_again_33 : decode cX11_again 33 = .ok (.goto 4, 3) := by decide +kernel
theorem dX11_again_36 : decode cX11_again 36 = .ok (.iconst (-1), 1) := by decide +kernel
theorem dX11_again_37 : decode cX11_again 37 = .ok (.ireturn, 1) := by decide +kernel
theorem dX11_waiting_0 : decode cX11_waiting 0 = .ok (.iload_n 1, 1) := by decide +kernel
theorem dX11_waiting_1 : decode cX11_waiting 1 = .ok (.ifCond .ge 6, 3) := by decide +kernel
theorem dX11_waiting_4 : decode cX11_waiting 4 = .ok (.bipush (-3), 2) := by decide +kernel
theorem dX11_waiting_6 : decode cX11_waiting 6 = .ok (.ireturn, 1) := by decide +kernel
theorem dX11_waiting_7 : decode cX11_waiting 7 = .ok (.iload_n 1, 1) := by decide +kernel
theorem dX11_waiting_8 : decode cX11_waiting 8 = .ok (.aload_n 0, 1) := by decide +kernel
theorem dX11_waiting_9 : decode cX11_waiting 9 = .ok (.getfield 56, 3) := by decide +kernel
theorem dX11_waiting_12 : decode cX11_waiting 12 = .ok (.getfield 188, 3) := by decide +kernel
theorem dX11_waiting_15 : decode cX11_waiting 15 = .ok (.getfield 192, 3) := by decide +kernel
theorem dX11_waiting_18 : decode cX11_waiting 18 = .ok (.if_icmp .ge 18, 3) := by decide +kernel
theorem dX11_waiting_21 : decode cX11_waiting 21 = .ok (.aload_n 0, 1) := by decide +kernel
theorem dX11_waiting_22 : decode cX11_waiting 22 = .ok (.getfield 56, 3) := by decide +kernel
theorem dX11_waiting_25 : decode cX11_waiting 25 = .ok (.getfield 188, 3) := by decide +kernel
theorem dX11_waiting_28 : decode cX11_waiting 28 = .ok (.getfield 197, 3) := by decide +kernel
theorem dX11_waiting_31 : decode cX11_waiting 31 = .ok (.iload_n 1, 1) := by decide +kernel
theorem dX11_waiting_32 : decode cX11_waiting 32 = .ok (.iaload, 1) := by decide +kernel
theorem dX11_waiting_33 : decode cX11_waiting 33 = .ok (.goto 4, 3) := by decide +kernel
theorem dX11_waiting_36 : decode cX11_waiting 36 = .ok (.iconst (-1), 1) := by decide +kernel
theorem dX11_waiting_37 : decode cX11_waiting 37 = .ok (.ireturn, 1) := by decide +kernel
theorem dX11_next_0 : decode cX11_next 0 = .ok (.aload_n 0, 1) := by decide +kernel
theorem dX11_next_1 : decode cX11_next 1 = .ok (.iload_n 1, 1) := by decide +kernel
theorem dX11_next_2 : decode cX11_next 2 = .ok (.invokevirtual 200, 3) := by decide +kernel
theorem dX11_next_5 : decode cX11_next 5 = .ok (.ifCond .ne 6, 3) := by decide +kernel
theorem dX11_next_8 : decode cX11_next 8 = .ok (.bipush (-2), 2) := by decide +kernel
theorem dX11_next_10 : decode cX11_next 10 = .ok (.ireturn, 1) := by decide +kernel
theorem dX11_next_11 : decode cX11_next 11 = .ok (.iload_n 2, 1) := by decide +kernel
theorem dX11_next_12 : decode cX11_next 12 = .ok (.invokestatic 104, 3) := by decide +kernel
theorem dX11_next_15 : decode cX11_next 15 = .ok (.ifCond .ne 6, 3) := by decide +kernel
theorem dX11_next_18 : decode cX11_next 18 = .ok (.bipush (-3), 2) := by decide +kernel
theorem dX11_next_20 : decode cX11_next 20 = .ok (.ireturn, 1) := by decide +kernel
theorem dX11_next_21 : decode cX11_next 21 = .ok (.aload_n 0, 1) := by decide +kernel
theorem dX11_next_22 : decode cX11_next 22 = .ok (.getfield 56, 3) := by decide +kernel
theorem dX11_next_25 : decode cX11_next 25 = .ok (.getfield 188, 3) := by decide +kernel
theorem dX11_next_28 : decode cX11_next 28 = .ok (.getfield 226, 3) := by decide +kernel
theorem dX11_next_31 : decode cX11_next 31 = .ok (.iload_n 1, 1) := by decide +kernel
theorem dX11_next_32 : decode cX11_next 32 = .ok (.aaload, 1) := by decide +kernel
theorem dX11_next_33 : decode cX11_next 33 = .ok (.astore_n 3, 1) := by decide +kernel
theorem dX11_next_34 : decode cX11_next 34 = .ok (.aload_n 3, 1) := by decide +kernel
theorem dX11_next_35 : decode cX11_next 35 = .ok (.getfield 283, 3) := by decide +kernel
theorem dX11_next_38 : decode cX11_next 38 = .ok (.iconst (-1), 1) := by decide +kernel
theorem dX11_next_39 : decode cX11_next 39 = .ok (.if_icmp .ne 6, 3) := by decide +kernel
theorem dX11_next_42 : decode cX11_next 42 = .ok (.bipush (-5), 2) := by decide +kernel
theorem dX11_next_44 : decode cX11_next 44 = .ok (.ireturn, 1) := by decide +kernel
theorem dX11_next_45 : decode cX11_next 45 = .ok (.iconst 0, 1) := by decide +kernel
theorem dX11_next_46 : decode cX11_next 46 = .ok (.istore 4, 2) := by decide +kernel
theorem dX11_next_48 : decode cX11_next 48 = .ok (.iconst (-1), 1) := by decide +kernel
theorem dX11_next_49 : decode cX11_next 49 = .ok (.istore 5, 2) := by decide +kernel
theorem dX11_next_51 : decode cX11_next 51 = .ok (.iconst 0, 1) := by decide +kernel
theorem dX11_next_52 : decode cX11_next 52 = .ok (.istore 6, 2) := by decide +kernel
theorem dX11_next_54 : decode cX11_next 54 = .ok (.iload 6, 2) := by decide +kernel
theorem dX11_next_56 : decode cX11_next 56 = .ok (.iconst 4, 1) := by decide +kernel
theorem dX11_next_57 : decode cX11_next 57 = .ok (.if_icmp .ge 95, 3) := by decide +kernel
theorem dX11_next_60 : decode cX11_next 60 = .ok (.aload_n 3, 1) := by decide +kernel
theorem dX11_next_61 : decode cX11_next 61 = .ok (.getfield 307, 3) := by decide +kernel
theorem dX11_next_64 : decode cX11_next 64 = .ok (.iconst 0, 1) := by decide +kernel
theorem dX11_next_65 : decode cX11_next 65 = .ok (.aload_n 0, 1) := by decide +kernel
theorem dX11_next_66 : decode cX11_next 66 = .ok (.getfield 64, 3) := by decide +kernel
theorem dX11_next_69 : decode cX11_next 69 = .ok (.iconst 0, 1) := by decide +kernel
theorem dX11_next_70 : decode cX11_next 70 = .ok (.bipush 39, 2) := by decide +kernel
theorem dX11_next_72 : decode cX11_next 72 = .ok (.invokestatic 310, 3) := by decide +kernel
theorem dX11_next_75 : decode cX11_next 75 = .ok (.aload_n 0, 1) := by decide +kernel
theorem dX11_next_76 : decode cX11_next 76 = .ok (.getfield 19, 3) := by decide +kernel
theorem dX11_next_79 : decode cX11_next 79 = .ok (.aload_n 0, 1) := by decide +kernel
theorem dX11_next_80 : decode cX11_next 80 = .ok (.getfield 56, 3) := by decide +kernel
theorem dX11_next_83 : decode cX11_next 83 = .ok (.getfield 94, 3) := by decide +kernel
theorem dX11_next_86 : decode cX11_next 86 = .ok (.iload 6, 2) := by decide +kernel
theorem dX11_next_88 : decode cX11_next 88 = .ok (.iload_n 2, 1) := by decide +kernel
theorem dX11_next_89 : decode cX11_next 89 = .ok (.invokevirtual 107, 3) := by decide +kernel
theorem dX11_next_92 : decode cX11_next 92 = .ok (.aload_n 0, 1) := by decide +kernel
theorem dX11_next_93 : decode cX11_next 93 = .ok (.getfield 19, 3) := by decide +kernel
theorem dX11_next_96 : decode cX11_next 96 = .ok (.aload_n 0, 1) := by decide +kernel
theorem dX11_next_97 : decode cX11_next 97 = .ok (.getfield 64, 3) := by decide +kernel
theorem dX11_next_100 : decode cX11_next 100 = .ok (.iload_n 2, 1) := by decide +kernel
theorem dX11_next_101 : decode cX11_next 101 = .ok (.invokevirtual 316, 3) := by decide +kernel
theorem dX11_next_104 : decode cX11_next 104 = .ok (.aload_n 0, 1) := by decide +kernel
theorem dX11_next_105 : decode cX11_next 105 = .ok (.getfield 26, 3) := by decide +kernel
theorem dX11_next_108 : decode cX11_next 108 = .ok (.aload_n 0, 1) := by decide +kernel
theorem dX11_next_109 : decode cX11_next 109 = .ok (.getfield 64, 3) := by decide +kernel
theorem dX11_next_112 : decode cX11_next 112 = .ok (.invokevirtual 320, 3) := by decide +kernel
theorem dX11_next_115 : decode cX11_next 115 = .ok (.aload_n 0, 1) := by decide +kernel
theorem dX11_next_116 : decode cX11_next 116 = .ok (.getfield 26, 3) := by decide +kernel
theorem dX11_next_119 : decode cX11_next 119 = .ok (.aload_n 0, 1) := by decide +kernel
theorem dX11_next_120 : decode cX11_next 120 = .ok (.getfield 12, 3) := by decide +kernel
theorem dX11_next_123 : decode cX11_next 123 = .ok (.getfield 134, 3) := by decide +kernel
theorem dX11_next_126 : decode cX11_next 126 = .ok (.invokevirtual 137, 3) := by decide +kernel
theorem dX11_next_129 : decode cX11_next 129 = .ok (.istore 7, 2) := by decide +kernel
theorem dX11_next_131 : decode cX11_next 131 = .ok (.iload 7, 2) := by decide +kernel
theorem dX11_next_133 : decode cX11_next 133 = .ok (.iload 5, 2) := by decide +kernel
theorem dX11_next_135 : decode cX11_next 135 = .ok (.if_icmp .le 11, 3) := by decide +kernel
theorem dX11_next_138 : decode cX11_next 138 = .ok (.iload 7, 2) := by decide +kernel
theorem dX11_next_140 : decode cX11_next 140 = .ok (.istore 5, 2) := by decide +kernel
theorem dX11_next_142 : decode cX11_next 142 = .ok (.iload 6, 2) := by decide +kernel
theorem dX11_next_144 : decode cX11_next 144 = .ok (.istore 4, 2) := by decide +kernel
theorem dX11_next_146 : decode cX11_next 146 = .ok (.iinc 6 1, 3) := by decide +kernel
theorem dX11_next_149 : decode cX11_next 149 = .ok (.goto (-95), 3) := by decide +kernel
theorem dX11_next_152 : decode cX11_next 152 = .ok (.iload 4, 2) := by decide +kernel
theorem dX11_next_154 : decode cX11_next 154 = .ok (.ireturn, 1) := by decide +kernel
theorem dX11_enough_0 : decode cX11_enough 0 = .ok (.aload_n 0, 1) := by decide +kernel
theorem dX11_enough_1 : decode cX11_enough 1 = .ok (.iload_n 1, 1) := by decide +kernel
theorem dX11_enough_2 : decode cX11_enough 2 = .ok (.invokevirtual 200, 3) := by decide +kernel
theorem dX11_enough_5 : decode cX11_enough 5 = .ok (.ifCond .ne 6, 3) := by decide +kernel
theorem dX11_enough_8 : decode cX11_enough 8 = .ok (.bipush (-2), 2) := by decide +kernel
theorem dX11_enough_10 : decode cX11_enough 10 = .ok (.ireturn, 1) := by decide +kernel
theorem dX11_enough_11 : decode cX11_enough 11 = .ok (.iload_n 2, 1) := by decide +kernel
theorem dX11_enough_12 : decode cX11_enough 12 = .ok (.invokestatic 104, 3) := by decide +kernel
theorem dX11_enough_15 : decode cX11_enough 15 = .ok (.ifCond .eq 14, 3) := by decide +kernel
theorem dX11_enough_18 : decode cX11_enough 18 = .ok (.iload_n 3, 1) := by decide +kernel
theorem dX11_enough_19 : decode cX11_enough 19 = .ok (.iconst 1, 1) := by decide +kernel
theorem dX11_enough_20 : decode cX11_enough 20 = .ok (.if_icmp .lt 9, 3) := by decide +kernel
theorem dX11_enough_23 : decode cX11_enough 23 = .ok (.iload_n 3, 1) := by decide +kernel
theorem dX11_enough_24 : decode cX11_enough 24 = .ok (.bipush 60, 2) := by decide +kernel
theorem dX11_enough_26 : decode cX11_enough 26 = .ok (.if_icmp .le 6, 3) := by decide +kernel
theorem dX11_enough_29 : decode cX11_enough 29 = .ok (.bipush (-3), 2) := by decide +kernel
theorem dX11_enough_31 : decode cX11_enough 31 = .ok (.ireturn, 1) := by decide +kernel
theorem dX11_enough_32 : decode cX11_enough 32 = .ok (.aload_n 0, 1) := by decide +kernel
theorem dX11_enough_33 : decode cX11_enough 33 = .ok (.getfield 56, 3) := by decide +kernel
theorem dX11_enough_36 : decode cX11_enough 36 = .ok (.getfield 188, 3) := by decide +kernel
theorem dX11_enough_39 : decode cX11_enough 39 = .ok (.getfield 226, 3) := by decide +kernel
theorem dX11_enough_42 : decode cX11_enough 42 = .ok (.iload_n 1, 1) := by decide +kernel
theorem dX11_enough_43 : decode cX11_enough 43 = .ok (.aaload, 1) := by decide +kernel
theorem dX11_enough_44 : decode cX11_enough 44 = .ok (.astore 4, 2) := by decide +kernel
theorem dX11_enough_46 : decode cX11_enough 46 = .ok (.aload 4, 2) := by decide +kernel
theorem dX11_enough_48 : decode cX11_enough 48 = .ok (.getfield 283, 3) := by decide +kernel
theorem dX11_enough_51 : decode cX11_enough 51 = .ok (.iconst (-1), 1) := by decide +kernel
theorem dX11_enough_52 : decode cX11_enough 52 = .ok (.if_icmp .ne 6, 3) := by decide +kernel
theorem dX11_enough_55 : decode cX11_enough 55 = .ok (.bipush (-5), 2) := by decide +kernel
theorem dX11_enough_57 : decode cX11_enough 57 = .ok (.ireturn, 1) := by decide +kernel
theorem dX11_enough_58 : decode cX11_enough 58 = .ok (.aload_n 0, 1) := by decide +kernel
theorem dX11_enough_59 : decode cX11_enough 59 = .ok (.getfield 56, 3) := by decide +kernel
theorem dX11_enough_62 : decode cX11_enough 62 = .ok (.getfield 246, 3) := by decide +kernel
theorem dX11_enough_65 : decode cX11_enough 65 = .ok (.getfield 324, 3) := by decide +kernel
theorem dX11_enough_68 : decode cX11_enough 68 = .ok (.iload_n 1, 1) := by decide +kernel
theorem dX11_enough_69 : decode cX11_enough 69 = .ok (.aaload, 1) := by decide +kernel
theorem dX11_enough_70 : decode cX11_enough 70 = .ok (.astore 5, 2) := by decide +kernel
theorem dX11_enough_72 : decode cX11_enough 72 = .ok (.aload 5, 2) := by decide +kernel
theorem dX11_enough_74 : decode cX11_enough 74 = .ok (.getfield 328, 3) := by decide +kernel
theorem dX11_enough_77 : decode cX11_enough 77 = .ok (.aload 4, 2) := by decide +kernel
theorem dX11_enough_79 : decode cX11_enough 79 = .ok (.getfield 289, 3) := by decide +kernel
theorem dX11_enough_82 : decode cX11_enough 82 = .ok (.if_icmp .ne 22, 3) := by decide +kernel
theorem dX11_enough_85 : decode cX11_enough 85 = .ok (.aload 5, 2) := by decide +kernel
theorem dX11_enough_87 : decode cX11_enough 87 = .ok (.getfield 333, 3) := by decide +kernel
theorem dX11_enough_90 : decode cX11_enough 90 = .ok (.iconst 0, 1) := by decide +kernel
theorem dX11_enough_91 : decode cX11_enough 91 = .ok (.aload_n 0, 1) := by decide +kernel
theorem dX11_enough_92 : decode cX11_enough 92 = .ok (.getfield 68, 3) := by decide +kernel
theorem dX11_enough_95 : decode cX11_enough 95 = .ok (.iconst 0, 1) := by decide +kernel
theorem dX11_enough_96 : decode cX11_enough 96 = .ok (.bipush 39, 2) := by decide +kernel
theorem dX11_enough_98 : decode cX11_enough 98 = .ok (.invokestatic 310, 3) := by decide +kernel
theorem dX11_enough_101 : decode cX11_enough 101 = .ok (.goto 11, 3) := by decide +kernel
theorem dX11_enough_104 : decode cX11_enough 104 = .ok (.aload_n 0, 1) := by decide +kernel
theorem dX11_enough_105 : decode cX11_enough 105 = .ok (.getfield 68, 3) := by decide +kernel
theorem dX11_enough_108 : decode cX11_enough 108 = .ok (.iconst 0, 1) := by decide +kernel
theorem dX11_enough_109 : decode cX11_enough 109 = .ok (.invokestatic 336, 3) := by decide +kernel
theorem dX11_enough_112 : decode cX11_enough 112 = .ok (.aload_n 0, 1) := by decide +kernel
theorem dX11_enough_113 : decode cX11_enough 113 = .ok (.getfield 56, 3) := by decide +kernel
theorem dX11_enough_116 : decode cX11_enough 116 = .ok (.getfield 188, 3) := by decide +kernel
theorem dX11_enough_119 : decode cX11_enough 119 = .ok (.aload 4, 2) := by decide +kernel
theorem dX11_enough_121 : decode cX11_enough 121 = .ok (.invokevirtual 341, 3) := by decide +kernel
theorem dX11_enough_124 : decode cX11_enough 124 = .ok (.istore 6, 2) := by decide +kernel
theorem dX11_enough_126 : decode cX11_enough 126 = .ok (.iconst 0, 1) := by decide +kernel
theorem dX11_enough_127 : decode cX11_enough 127 = .ok (.istore 7, 2) := by decide +kernel
theorem dX11_enough_129 : decode cX11_enough 129 = .ok (.iload 7, 2) := by decide +kernel
theorem dX11_enough_131 : decode cX11_enough 131 = .ok (.bipush 8, 2) := by decide +kernel
theorem dX11_enough_133 : decode cX11_enough 133 = .ok (.if_icmp .ge 89, 3) := by decide +kernel
theorem dX11_enough_136 : decode cX11_enough 136 = .ok (.aload_n 0, 1) := by decide +kernel
theorem dX11_enough_137 : decode cX11_enough 137 = .ok (.getfield 19, 3) := by decide +kernel
theorem dX11_enough_140 : decode cX11_enough 140 = .ok (.aload_n 0, 1) := by decide +kernel
theorem dX11_enough_141 : decode cX11_enough 141 = .ok (.getfield 56, 3) := by decide +kernel
theorem dX11_enough_144 : decode cX11_enough 144 = .ok (.getfield 94, 3) := by decide +kernel
theorem dX11_enough_147 : decode cX11_enough 147 = .ok (.getstatic 295, 3) := by decide +kernel
theorem dX11_enough_150 : decode cX11_enough 150 = .ok (.aload 4, 2) := by decide +kernel
theorem dX11_enough_152 : decode cX11_enough 152 = .ok (.getfield 292, 3) := by decide +kernel
theorem dX11_enough_155 : decode cX11_enough 155 = .ok (.iload 7, 2) := by decide +kernel
theorem dX11_enough_157 : decode cX11_enough 157 = .ok (.iadd, 1) := by decide +kernel
theorem dX11_enough_158 : decode cX11_enough 158 = .ok (.iconst 3, 1) := by decide +kernel
theorem dX11_enough_159 : decode cX11_enough 159 = .ok (.iand, 1) := by decide +kernel
theorem dX11_enough_160 : decode cX11_enough 160 = .ok (.iaload, 1) := by decide +kernel
theorem dX11_enough_161 : decode cX11_enough 161 = .ok (.iload_n 2, 1) := by decide +kernel
theorem dX11_enough_162 : decode cX11_enough 162 = .ok (.invokevirtual 107, 3) := by decide +kernel
theorem dX11_enough_165 : decode cX11_enough 165 = .ok (.aload_n 0, 1) := by decide +kernel
theorem dX11_enough_166 : decode cX11_enough 166 = .ok (.getfield 42, 3) := by decide +kernel
theorem dX11_enough_169 : decode cX11_enough 169 = .ok (.aload_n 0, 1) := by decide +kernel
theorem dX11_enough_170 : decode cX11_enough 170 = .ok (.getfield 68, 3) := by decide +kernel
theorem dX11_enough_173 : decode cX11_enough 173 = .ok (.aload_n 0, 1) := by decide +kernel
theorem dX11_enough_174 : decode cX11_enough 174 = .ok (.getfield 12, 3) := by decide +kernel
theorem dX11_enough_177 : decode cX11_enough 177 = .ok (.getfield 91, 3) := by decide +kernel
theorem dX11_enough_180 : decode cX11_enough 180 = .ok (.iload 6, 2) := by decide +kernel
theorem dX11_enough_182 : decode cX11_enough 182 = .ok (.laload, 1) := by decide +kernel
theorem dX11_enough_183 : decode cX11_enough 183 = .ok (.iload_n 2, 1) := by decide +kernel
theorem dX11_enough_184 : decode cX11_enough 184 = .ok (.iload_n 3, 1) := by decide +kernel
theorem dX11_enough_185 : decode cX11_enough 185 = .ok (.aload_n 0, 1) := by decide +kernel
theorem dX11_enough_186 : decode cX11_enough 186 = .ok (.getfield 56, 3) := by decide +kernel
theorem dX11_enough_189 : decode cX11_enough 189 = .ok (.getfield 182, 3) := by decide +kernel
theorem dX11_enough_192 : decode cX11_enough 192 = .ok (.invokevirtual 345, 3) := by decide +kernel
theorem dX11_enough_195 : decode cX11_enough 195 = .ok (.aload_n 0, 1) := by decide +kernel
theorem dX11_enough_196 : decode cX11_enough 196 = .ok (.getfield 33, 3) := by decide +kernel
theorem dX11_enough_199 : decode cX11_enough 199 = .ok (.aload_n 0, 1) := by decide +kernel
theorem dX11_enough_200 : decode cX11_enough 200 = .ok (.getfield 68, 3) := by decide +kernel
theorem dX11_enough_203 : decode cX11_enough 203 = .ok (.invokevirtual 349, 3) := by decide +kernel
theorem dX11_enough_206 : decode cX11_enough 206 = .ok (.iload 6, 2) := by decide +kernel
theorem dX11_enough_208 : decode cX11_enough 208 = .ok (.if_icmp .ne 8, 3) := by decide +kernel
theorem dX11_enough_211 : decode cX11_enough 211 = .ok (.iload 7, 2) := by decide +kernel
theorem dX11_enough_213 : decode cX11_enough 213 = .ok (.iconst 1, 1) := by decide +kernel
theorem dX11_enough_214 : decode cX11_enough 214 = .ok (.iadd, 1) := by decide +kernel
theorem dX11_enough_215 : decode cX11_enough 215 = .ok (.ireturn, 1) := by decide +kernel
theorem dX11_enough_216 : decode cX11_enough 216 = .ok (.iinc 7 1, 3) := by decide +kernel
theorem dX11_enough_219 : decode cX11_enough 219 = .ok (.goto (-90), 3) := by decide +kernel
theorem dX11_enough_222 : decode cX11_enough 222 = .ok (.iconst (-1), 1) := by decide +kernel
theorem dX11_enough_223 : decode cX11_enough 223 = .ok (.ireturn, 1) := by decide +kernel
theorem dX11_soft_0 : decode cX11_soft 0 = .ok (.aload_n 0, 1) := by decide +kernel
theorem dX11_soft_1 : decode cX11_soft 1 = .ok (.iload_n 1, 1) := by decide +kernel
theorem dX11_soft_2 : decode cX11_soft 2 = .ok (.invokevirtual 353, 3) := by decide +kernel
theorem dX11_soft_5 : decode cX11_soft 5 = .ok (.istore_n 3, 1) := by decide +kernel
theorem dX11_soft_6 : decode cX11_soft 6 = .ok (.iload_n 3, 1) := by decide +kernel
