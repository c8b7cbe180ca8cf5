/-! what stands at each place of a code (printed rows of NAMES) -/
theorem dX3_beginsPart_101 : decode cX3_beginsPart 101 = .ok (.bipush 6, 2) := by decide +kernel
theorem dX3_beginsPart_103 : decode cX3_beginsPart 103 = .ok (.if_icmp .ne 34, 3) := by decide +kernel
theorem dX3_beginsPart_106 : decode cX3_beginsPart 106 = .ok (.aload_n 0, 1) := by decide +kernel
theorem dX3_beginsPart_107 : decode cX3_beginsPart 107 = .ok (.getfield 189, 3) := by decide +kernel
theorem dX3_beginsPart_110 : decode cX3_beginsPart 110 = .ok (.bipush 8, 2) := by decide +kernel
theorem dX3_beginsPart_112 : decode cX3_beginsPart 112 = .ok (.if_icmp .lt 9, 3) := by decide +kernel
theorem dX3_beginsPart_115 : decode cX3_beginsPart 115 = .ok (.aload_n 0, 1) := by decide +kernel
theorem dX3_beginsPart_116 : decode cX3_beginsPart 116 = .ok (.iconst 2, 1) := by decide +kernel
theorem dX3_beginsPart_117 : decode cX3_beginsPart 117 = .ok (.invokevirtual 69, 3) := by decide +kernel
theorem dX3_beginsPart_120 : decode cX3_beginsPart 120 = .ok (.ireturn, 1) := by decide +kernel
theorem dX3_beginsPart_121 : decode cX3_beginsPart 121 = .ok (.aload_n 0, 1) := by decide +kernel
theorem dX3_beginsPart_122 : decode cX3_beginsPart 122 = .ok (.dup, 1) := by decide +kernel
theorem dX3_beginsPart_123 : decode cX3_beginsPart 123 = .ok (.getfield 189, 3) := by decide +kernel
theorem dX3_beginsPart_126 : decode cX3_beginsPart 126 = .ok (.iconst 1, 1) := by decide +kernel
theorem dX3_beginsPart_127 : decode cX3_beginsPart 127 = .ok (.iadd, 1) := by decide +kernel
theorem dX3_beginsPart_128 : decode cX3_beginsPart 128 = .ok (.putfield 189, 3) := by decide +kernel
theorem dX3_beginsPart_131 : decode cX3_beginsPart 131 = .ok (.aload_n 0, 1) := by decide +kernel
theorem dX3_beginsPart_132 : decode cX3_beginsPart 132 = .ok (.iconst 2, 1) := by decide +kernel
theorem dX3_beginsPart_133 : decode cX3_beginsPart 133 = .ok (.invokevirtual 210, 3) := by decide +kernel
theorem dX3_beginsPart_136 : decode cX3_beginsPart 136 = .ok (.ireturn, 1) := by decide +kernel
theorem dX3_beginsPart_137 : decode cX3_beginsPart 137 = .ok (.aload_n 0, 1) := by decide +kernel
theorem dX3_beginsPart_138 : decode cX3_beginsPart 138 = .ok (.getfield 12, 3) := by decide +kernel
theorem dX3_beginsPart_141 : decode cX3_beginsPart 141 = .ok (.getfield 55, 3) := by decide +kernel
theorem dX3_beginsPart_144 : decode cX3_beginsPart 144 = .ok (.bipush 8, 2) := by decide +kernel
theorem dX3_beginsPart_146 : decode cX3_beginsPart 146 = .ok (.if_icmp .ne 12, 3) := by decide +kernel
theorem dX3_beginsPart_149 : decode cX3_beginsPart 149 = .ok (.iload_n 1, 1) := by decide +kernel
theorem dX3_beginsPart_150 : decode cX3_beginsPart 150 = .ok (.iconst 5, 1) := by decide +kernel
theorem dX3_beginsPart_151 : decode cX3_beginsPart 151 = .ok (.if_icmp .ne 7, 3) := by decide +kernel
theorem dX3_beginsPart_154 : decode cX3_beginsPart 154 = .ok (.iconst 1, 1) := by decide +kernel
theorem dX3_beginsPart_155 : decode cX3_beginsPart 155 = .ok (.goto 4, 3) := by decide +kernel
theorem dX3_beginsPart_158 : decode cX3_beginsPart 158 = .ok (.iconst 0, 1) := by decide +kernel
theorem dX3_beginsPart_159 : decode cX3_beginsPart 159 = .ok (.istore_n 2, 1) := by decide +kernel
theorem dX3_beginsPart_160 : decode cX3_beginsPart 160 = .ok (.iload_n 2, 1) := by decide +kernel
theorem dX3_beginsPart_161 : decode cX3_beginsPart 161 = .ok (.ifCond .eq 17, 3) := by decide +kernel
theorem dX3_beginsPart_164 : decode cX3_beginsPart 164 = .ok (.aload_n 0, 1) := by decide +kernel
theorem dX3_beginsPart_165 : decode cX3_beginsPart 165 = .ok (.invokevirtual 213, 3) := by decide +kernel
theorem dX3_beginsPart_168 : decode cX3_beginsPart 168 = .ok (.invokestatic 216, 3) := by decide +kernel
theorem dX3_beginsPart_171 : decode cX3_beginsPart 171 = .ok (.iconst 5, 1) := by decide +kernel
theorem dX3_beginsPart_172 : decode cX3_beginsPart 172 = .ok (.invokestatic 216, 3) := by decide +kernel
theorem dX3_beginsPart_175 : decode cX3_beginsPart 175 = .ok (.if_icmp .le 9, 3) := by decide +kernel
theorem dX3_beginsPart_178 : decode cX3_beginsPart 178 = .ok (.aload_n 0, 1) := by decide +kernel
theorem dX3_beginsPart_179 : decode cX3_beginsPart 179 = .ok (.iconst 1, 1) := by decide +kernel
theorem dX3_beginsPart_180 : decode cX3_beginsPart 180 = .ok (.invokevirtual 69, 3) := by decide +kernel
theorem dX3_beginsPart_183 : decode cX3_beginsPart 183 = .ok (.ireturn, 1) := by decide +kernel
theorem dX3_beginsPart_184 : decode cX3_beginsPart 184 = .ok (.aload_n 0, 1) := by decide +kernel
theorem dX3_beginsPart_185 : decode cX3_beginsPart 185 = .ok (.invokevirtual 204, 3) := by decide +kernel
theorem dX3_beginsPart_188 : decode cX3_beginsPart 188 = .ok (.ifCond .eq 15, 3) := by decide +kernel
theorem dX3_beginsPart_191 : decode cX3_beginsPart 191 = .ok (.aload_n 0, 1) := by decide +kernel
theorem dX3_beginsPart_192 : decode cX3_beginsPart 192 = .ok (.iconst 5, 1) := by decide +kernel
theorem dX3_beginsPart_193 : decode cX3_beginsPart 193 = .ok (.invokevirtual 210, 3) := by decide +kernel
theorem dX3_beginsPart_196 : decode cX3_beginsPart 196 = .ok (.ifCond .eq 7, 3) := by decide +kernel
theorem dX3_beginsPart_199 : decode cX3_beginsPart 199 = .ok (.iconst 1, 1) := by decide +kernel
theorem dX3_beginsPart_200 : decode cX3_beginsPart 200 = .ok (.goto 4, 3) := by decide +kernel
theorem dX3_beginsPart_203 : decode cX3_beginsPart 203 = .ok (.iconst 0, 1) := by decide +kernel
theorem dX3_beginsPart_204 : decode cX3_beginsPart 204 = .ok (.ireturn, 1) := by decide +kernel
theorem dX3_endsPart_0 : decode cX3_endsPart 0 = .ok (.aload_n 0, 1) := by decide +kernel
theorem dX3_endsPart_1 : decode cX3_endsPart 1 = .ok (.getfield 12, 3) := by decide +kernel
theorem dX3_endsPart_4 : decode cX3_endsPart 4 = .ok (.getfield 55, 3) := by decide +kernel
theorem dX3_endsPart_7 : decode cX3_endsPart 7 = .ok (.bipush 7, 2) := by decide +kernel
theorem dX3_endsPart_9 : decode cX3_endsPart 9 = .ok (.if_icmp .ne 42, 3) := by decide +kernel
theorem dX3_endsPart_12 : decode cX3_endsPart 12 = .ok (.aload_n 0, 1) := by decide +kernel
theorem dX3_endsPart_13 : decode cX3_endsPart 13 = .ok (.getfield 189, 3) := by decide +kernel
theorem dX3_endsPart_16 : decode cX3_endsPart 16 = .ok (.ifCond .le 35, 3) := by decide +kernel
theorem dX3_endsPart_19 : decode cX3_endsPart 19 = .ok (.aload_n 0, 1) := by decide +kernel
theorem dX3_endsPart_20 : decode cX3_endsPart 20 = .ok (.iconst 2, 1) := by decide +kernel
theorem dX3_endsPart_21 : decode cX3_endsPart 21 = .ok (.invokestatic 216, 3) := by decide +kernel
theorem dX3_endsPart_24 : decode cX3_endsPart 24 = .ok (.iconst 1, 1) := by decide +kernel
theorem dX3_endsPart_25 : decode cX3_endsPart 25 = .ok (.iadd, 1) := by decide +kernel
theorem dX3_endsPart_26 : decode cX3_endsPart 26 = .ok (.invokevirtual 198, 3) := by decide +kernel
theorem dX3_endsPart_29 : decode cX3_endsPart 29 = .ok (.aload_n 0, 1) := by decide +kernel
theorem dX3_endsPart_30 : decode cX3_endsPart 30 = .ok (.dup, 1) := by decide +kernel
theorem dX3_endsPart_31 : decode cX3_endsPart 31 = .ok (.getfield 186, 3) := by decide +kernel
theorem dX3_endsPart_34 : decode cX3_endsPart 34 = .ok (.iconst 1, 1) := by decide +kernel
theorem dX3_endsPart_35 : decode cX3_endsPart 35 = .ok (.isub, 1) := by decide +kernel
theorem dX3_endsPart_36 : decode cX3_endsPart 36 = .ok (.putfield 186, 3) := by decide +kernel
theorem dX3_endsPart_39 : decode cX3_endsPart 39 = .ok (.aload_n 0, 1) := by decide +kernel
theorem dX3_endsPart_40 : decode cX3_endsPart 40 = .ok (.dup, 1) := by decide +kernel
theorem dX3_endsPart_41 : decode cX3_endsPart 41 = .ok (.getfield 189, 3) := by decide +kernel
theorem dX3_endsPart_44 : decode cX3_endsPart 44 = .ok (.iconst 1, 1) := by decide +kernel
theorem dX3_endsPart_45 : decode cX3_endsPart 45 = .ok (.isub, 1) := by decide +kernel
theorem dX3_endsPart_46 : decode cX3_endsPart 46 = .ok (.putfield 189, 3) := by decide +kernel
theorem dX3_endsPart_49 : decode cX3_endsPart 49 = .ok (.iconst 1, 1) := by decide +kernel
theorem dX3_endsPart_50 : decode cX3_endsPart 50 = .ok (.ireturn, 1) := by decide +kernel
theorem dX3_endsPart_51 : decode cX3_endsPart 51 = .ok (.aload_n 0, 1) := by decide +kernel
theorem dX3_endsPart_52 : decode cX3_endsPart 52 = .ok (.getfield 12, 3) := by decide +kernel
theorem dX3_endsPart_55 : decode cX3_endsPart 55 = .ok (.getfield 55, 3) := by decide +kernel
theorem dX3_endsPart_58 : decode cX3_endsPart 58 = .ok (.bipush 8, 2) := by decide +kernel
theorem dX3_endsPart_60 : decode cX3_endsPart 60 = .ok (.if_icmp .ne 14, 3) := by decide +kernel
theorem dX3_endsPart_63 : decode cX3_endsPart 63 = .ok (.aload_n 0, 1) := by decide +kernel
theorem dX3_endsPart_64 : decode cX3_endsPart 64 = .ok (.getfield 12, 3) := by decide +kernel
theorem dX3_endsPart_67 : decode cX3_endsPart 67 = .ok (.getfield 73, 3) := by decide +kernel
theorem dX3_endsPart_70 : decode cX3_endsPart 70 = .ok (.iconst 5, 1) := by decide +kernel
theorem dX3_endsPart_71 : decode cX3_endsPart 71 = .ok (.if_icmp .ne 9, 3) := by decide +kernel
theorem dX3_endsPart_74 : decode cX3_endsPart 74 = .ok (.aload_n 0, 1) := by decide +kernel
theorem dX3_endsPart_75 : decode cX3_endsPart 75 = .ok (.iconst 1, 1) := by decide +kernel
theorem dX3_endsPart_76 : decode cX3_endsPart 76 = .ok (.invokevirtual 69, 3) := by decide +kernel
theorem dX3_endsPart_79 : decode cX3_endsPart 79 = .ok (.ireturn, 1) := by decide +kernel
theorem dX3_endsPart_80 : decode cX3_endsPart 80 = .ok (.aload_n 0, 1) := by decide +kernel
theorem dX3_endsPart_81 : decode cX3_endsPart 81 = .ok (.getfield 12, 3) := by decide +kernel
theorem dX3_endsPart_84 : decode cX3_endsPart 84 = .ok (.getfield 73, 3) := by decide +kernel
theorem dX3_endsPart_87 : decode cX3_endsPart 87 = .ok (.invokestatic 216, 3) := by decide +kernel
theorem dX3_endsPart_90 : decode cX3_endsPart 90 = .ok (.istore_n 1, 1) := by decide +kernel
theorem dX3_endsPart_91 : decode cX3_endsPart 91 = .ok (.iload_n 1, 1) := by decide +kernel
theorem dX3_endsPart_92 : decode cX3_endsPart 92 = .ok (.bipush 8, 2) := by decide +kernel
theorem dX3_endsPart_94 : decode cX3_endsPart 94 = .ok (.invokestatic 216, 3) := by decide +kernel
theorem dX3_endsPart_97 : decode cX3_endsPart 97 = .ok (.if_icmp .ne 7, 3) := by decide +kernel
theorem dX3_endsPart_100 : decode cX3_endsPart 100 = .ok (.iconst 1, 1) := by decide +kernel
theorem dX3_endsPart_101 : decode cX3_endsPart 101 = .ok (.goto 4, 3) := by decide +kernel
theorem dX3_endsPart_104 : decode cX3_endsPart 104 = .ok (.iconst 0, 1) := by decide +kernel
theorem dX3_endsPart_105 : decode cX3_endsPart 105 = .ok (.istore_n 2, 1) := by decide +kernel
theorem dX3_endsPart_106 : decode cX3_endsPart 106 = .ok (.aload_n 0, 1) := by decide +kernel
theorem dX3_endsPart_107 : decode cX3_endsPart 107 = .ok (.iload_n 2, 1) := by decide +kernel
theorem dX3_endsPart_108 : decode cX3_endsPart 108 = .ok (.ifCond .eq 9, 3) := by decide +kernel
theorem dX3_endsPart_111 : decode cX3_endsPart 111 = .ok (.iload_n 1, 1) := by decide +kernel
theorem dX3_endsPart_112 : decode cX3_endsPart 112 = .ok (.iconst 1, 1) := by decide +kernel
theorem dX3_endsPart_113 : decode cX3_endsPart 113 = .ok (.iadd, 1) := by decide +kernel
theorem dX3_endsPart_114 : decode cX3_endsPart 114 = .ok (.goto 4, 3) := by decide +kernel
theorem dX3_endsPart_117 : decode cX3_endsPart 117 = .ok (.iload_n 1, 1) := by decide +kernel
theorem dX3_endsPart_118 : decode cX3_endsPart 118 = .ok (.invokevirtual 198, 3) := by decide +kernel
theorem dX3_endsPart_121 : decode cX3_endsPart 121 = .ok (.iload_n 2, 1) := by decide +kernel
theorem dX3_endsPart_122 : decode cX3_endsPart 122 = .ok (.ifCond .eq 20, 3) := by decide +kernel
theorem dX3_endsPart_125 : decode cX3_endsPart 125 = .ok (.aload_n 0, 1) := by decide +kernel
theorem dX3_endsPart_126 : decode cX3_endsPart 126 = .ok (.invokevirtual 213, 3) := by decide +kernel
theorem dX3_endsPart_129 : decode cX3_endsPart 129 = .ok (.invokestatic 216, 3) := by decide +kernel
theorem dX3_endsPart_132 : decode cX3_endsPart 132 = .ok (.iload_n 1, 1) := by decide +kernel
theorem dX3_endsPart_133 : decode cX3_endsPart 133 = .ok (.if_icmp .ne 9, 3) := by decide +kernel
theorem dX3_endsPart_136 : decode cX3_endsPart 136 = .ok (.aload_n 0, 1) := by decide +kernel
theorem dX3_endsPart_137 : decode cX3_endsPart 137 = .ok (.iconst 1, 1) := by decide +kernel
theorem dX3_endsPart_138 : decode cX3_endsPart 138 = .ok (.invokevirtual 69, 3) := by decide +kernel
theorem dX3_endsPart_141 : decode cX3_endsPart 141 = .ok (.ireturn, 1) := by decide +kernel
theorem dX3_endsPart_142 : decode cX3_endsPart 142 = .ok (.aload_n 0, 1) := by decide +kernel
theorem dX3_endsPart_143 : decode cX3_endsPart 143 = .ok (.invokevirtual 204, 3) := by decide +kernel
theorem dX3_endsPart_146 : decode cX3_endsPart 146 = .ok (.ifCond .eq 21, 3) := by decide +kernel
theorem dX3_endsPart_149 : decode cX3_endsPart 149 = .ok (.aload_n 0, 1) := by decide +kernel
theorem dX3_endsPart_150 : decode cX3_endsPart 150 = .ok (.aload_n 0, 1) := by decide +kernel
theorem dX3_endsPart_151 : decode cX3_endsPart 151 = .ok (.getfield 12, 3) := by decide +kernel
theorem dX3_endsPart_154 : decode cX3_endsPart 154 = .ok (.getfield 73, 3) := by decide +kernel
theorem dX3_endsPart_157 : decode cX3_endsPart 157 = .ok (.invokevirtual 210, 3) := by decide +kernel
theorem dX3_endsPart_160 : decode cX3_endsPart 160 = .ok (.ifCond .eq 7, 3) := by decide +kernel
theorem dX3_endsPart_163 : decode cX3_endsPart 163 = .ok (.iconst 1, 1) := by decide +kernel
theorem dX3_endsPart_164 : decode cX3_endsPart 164 = .ok (.goto 4, 3) := by decide +kernel
theorem dX3_endsPart_167 : decode cX3_endsPart 167 = .ok (.iconst 0, 1) := by decide +kernel
theorem dX3_endsPart_168 : decode cX3_endsPart 168 = .ok (.ireturn, 1) := by decide +kernel
theorem dX3_counts_0 : decode cX3_counts 0 = .ok (.aload_n 0, 1) := by decide +kernel
theorem dX3_counts_1 : decode cX3_counts 1 = .ok (.getfield 48, 3) := by decide +kernel
theorem dX3_counts_4 : decode cX3_counts 4 = .ok (.bipush 64, 2) := by decide +kernel
theorem dX3_counts_6 : decode cX3_counts 6 = .ok (.if_icmp .lt 9, 3) := by decide +kernel
theorem dX3_counts_9 : decode cX3_counts 9 = .ok (.aload_n 0, 1) := by decide +kernel
theorem dX3_counts_10 : decode cX3_counts 10 = .ok (.iconst 2, 1) := by decide +kernel
theorem dX3_counts_11 : decode cX3_counts 11 = .ok (.invokevirtual 69, 3) := by decide +kernel
theorem dX3_counts_14 : decode cX3_counts 14 = .ok (.ireturn, 1) := by decide +kernel
theorem dX3_counts_15 : decode cX3_counts 15 = .ok (.aload_n 0, 1) := by decide +kernel
theorem dX3_counts_16 : decode cX3_counts 16 = .ok (.dup, 1) := by decide +kernel
theorem dX3_counts_17 : decode cX3_counts 17 = .ok (.getfield 48, 3) := by decide +kernel
theorem dX3_counts_20 : decode cX3_counts 20 = .ok (.iconst 1, 1) := by decide +kernel
theorem dX3_counts_21 : decode cX3_counts 21 = .ok (.iadd, 1) := by decide +kernel
theorem dX3_counts_22 : decode cX3_counts 22 = .ok (.putfield 48, 3) := by decide +kernel
theorem dX3_counts_25 : decode cX3_counts 25 = .ok (.iconst 1, 1) := by decide +kernel
theorem dX3_counts_26 : decode cX3_counts 26 = .ok (.ireturn, 1) := by decide +kernel
theorem dX3_tells_0 : decode cX3_tells 0 = .ok (.aload_n 0, 1) := by decide +kernel
theorem dX3_tells_1 : decode cX3_tells 1 = .ok (.getfield 21, 3) := by decide +kernel
theorem dX3_tells_4 : decode cX3_tells 4 = .ok (.getfield 176, 3) := by decide +kernel
theorem dX3_tells_7 : decode cX3_tells 7 = .ok (.iload_n 1, 1) := by decide +kernel
theorem dX3_tells_8 : decode cX3_tells 8 = .ok (.iload_n 2, 1) := by decide +kernel
theorem dX3_tells_9 : decode cX3_tells 9 = .ok (.invokevirtual 219, 3) := by decide +kernel
theorem dX3_tells_12 : decode cX3_tells 12 = .ok (.iconst 1, 1) := by decide +kernel
theorem dX3_tells_13 : decode cX3_tells 13 = .ok (.ireturn, 1) := by decide +kernel
theorem dX3_hold_0 : decode cX3_hold 0 = .ok (.aload_n 0, 1) := by decide +kernel
theorem dX3_hold_1 : decode cX3_hold 1 = .ok (.getfield 30, 3) := by decide +kernel
theorem dX3_hold_4 : decode cX3_hold 4 = .ok (.aload_n 0, 1) := by decide +kernel
theorem dX3_hold_5 : decode cX3_hold 5 = .ok (.getfield 186, 3) := by decide +kernel
theorem dX3_hold_8 : decode cX3_hold 8 = .ok (.iload_n 1, 1) := by decide +kernel
theorem dX3_hold_9 : decode cX3_hold 9 = .ok (.invokevirtual 122, 3) := by decide +kernel
theorem dX3_hold_12 : decode cX3_hold 12 = .ok (.aload_n 0, 1) := by decide +kernel
theorem dX3_hold_13 : decode cX3_hold 13 = .ok (.dup, 1) := by decide +kernel
theorem dX3_hold_14 : decode cX3_hold 14 = .ok (.getfield 186, 3) := by decide +kernel
theorem dX3_hold_17 : decode cX3_hold 17 = .ok (.iconst 1, 1) := by decide +kernel
theorem dX3_hold_18 : decode cX3_hold 18 = .ok (.iadd, 1) := by decide +kernel
theorem dX3_hold_19 : decode cX3_hold 19 = .ok (.putfield 186, 3) := by decide +kernel
theorem dX3_hold_22 : decode cX3_hold 22 = .ok (.iconst 1, 1) := by decide +kernel
theorem dX3_hold_23 : decode cX3_hold 23 = .ok (.ireturn, 1) := by decide +kernel
theorem dX3_topWaiting_0 : decode cX3_topWaiting 0 = .ok (.aload_n 0, 1) := by decide +kernel
theorem dX3_topWaiting_1 : decode cX3_topWaiting 1 = .ok (.getfield 186, 3) := by decide +kernel
theorem dX3_topWaiting_4 : decode cX3_topWaiting 4 = .ok (.ifCond .le 19, 3) := by decide +kernel
theorem dX3_topWaiting_7 : decode cX3_topWaiting 7 = .ok (.aload_n 0, 1) := by decide +kernel
theorem dX3_topWaiting_8 : decode cX3_topWaiting 8 = .ok (.getfield 30, 3) := by decide +kernel
theorem dX3_topWaiting_11 : decode cX3_topWaiting 11 = .ok (.aload_n 0, 1) := by decide +kernel
theorem dX3_topWaiting_12 : decode cX3_topWaiting 12 = .ok (.getfield 186, 3) := by decide +kernel
theorem dX3_topWaiting_15 : decode cX3_topWaiting 15 = .ok (.iconst 1, 1) := by decide +kernel
theorem dX3_topWaiting_16 : decode cX3_topWaiting 16 = .ok (.isub, 1) := by decide +kernel
theorem dX3_topWaiting_17 : decode cX3_topWaiting 17 = .ok (.invokevirtual 222, 3) := by decide +kernel
theorem dX3_topWaiting_20 : decode cX3_topWaiting 20 = .ok (.goto 4, 3) := by decide +kernel
theorem dX3_topWaiting_23 : decode cX3_topWaiting 23 = .ok (.iconst 2, 1) := by decide +kernel
theorem dX3_topWaiting_24 : decode cX3_topWaiting 24 = .ok (.ireturn, 1) := by decide +kernel
theorem dX3_unwind_0 : decode cX3_unwind 0 = .ok (.aload_n 0, 1) := by decide +kernel
theorem dX3_unwind_1 : decode cX3_unwind 1 = .ok (.getfield 186, 3) := by decide +kernel
theorem dX3_unwind_4 : decode cX3_unwind 4 = .ok (.iconst 1, 1) := by decide +kernel
theorem dX3_unwind_5 : decode cX3_unwind 5 = .ok (.isub, 1) := by decide +kernel
theorem dX3_unwind_6 : decode cX3_unwind 6 = .ok (.istore_n 2, 1) := by decide +kernel
theorem dX3_unwind_7 : decode cX3_unwind 7 = .ok (.iload_n 2, 1) := by decide +kernel
theorem dX3_unwind_8 : decode cX3_unwind 8 = .ok (.ifCond .lt 48, 3) := by decide +kernel
theorem dX3_unwind_11 : decode cX3_unwind 11 = .ok (.aload_n 0, 1) := by decide +kernel
theorem dX3_unwind_12 : decode cX3_unwind 12 = .ok (.getfield 30, 3) := by decide +kernel
theorem dX3_unwind_15 : decode cX3_unwind 15 = .ok (.iload_n 2, 1) := by decide +kernel
theorem dX3_unwind_16 : decode cX3_unwind 16 = .ok (.invokevirtual 222, 3) := by decide +kernel
theorem dX3_unwind_19 : decode cX3_unwind 19 = .ok (.invokestatic 216, 3) := by decide +kernel
theorem dX3_unwind_22 : decode cX3_unwind 22 = .ok (.iload_n 1, 1) := by decide +kernel
theorem dX3_unwind_23 : decode cX3_unwind 23 = .ok (.if_icmp .lt 33, 3) := by decide +kernel
theorem dX3_unwind_26 : decode cX3_unwind 26 = .ok (.aload_n 0, 1) := by decide +kernel
theorem dX3_unwind_27 : decode cX3_unwind 27 = .ok (.getfield 21, 3) := by decide +kernel
theorem dX3_unwind_30 : decode cX3_unwind 30 = .ok (.getfield 176, 3) := by decide +kernel
theorem dX3_unwind_33 : decode cX3_unwind 33 = .ok (.aload_n 0, 1) := by decide +kernel
theorem dX3_unwind_34 : decode cX3_unwind 34 = .ok (.getfield 30, 3) := by decide +kernel
theorem dX3_unwind_37 : decode cX3_unwind 37 = .ok (.iload_n 2, 1) := by decide +kernel
theorem dX3_unwind_38 : decode cX3_unwind 38 = .ok (.invokevirtual 222, 3) := by decide +kernel
theorem dX3_unwind_41 : decode cX3_unwind 41 = .ok (.iconst 0, 1) := by decide +kernel
theorem dX3_unwind_42 : decode cX3_unwind 42 = .ok (.invokevirtual 219, 3) := by decide +kernel
theorem dX3_unwind_45 : decode cX3_unwind 45 = .ok (.aload_n 0, 1) := by decide +kernel
theorem dX3_unwind_46 : decode cX3_unwind 46 = .ok (.iload_n 2, 1) := by decide +kernel
theorem dX3_unwind_47 : decode cX3_unwind 47 = .ok (.putfield 186, 3) := by decide +kernel
theorem dX3_unwind_50 : decode cX3_unwind 50 = .ok (.iinc 2 (-1), 3) := by decide +kernel
theorem dX3_unwind_53 : decode cX3_unwind 53 = .ok (.goto (-46), 3) := by decide +kernel
theorem dX3_unwind_56 : decode cX3_unwind 56 = .ok (.return_, 1) := by decide +kernel
theorem dX3_rank_0 : decode cX3_rank 0 = .ok (.iload_n 0, 1) := by decide +kernel
theorem dX3_rank_1 : decode cX3_rank 1 = .ok (.bipush 14, 2) := by decide +kernel
theorem dX3_rank_3 : decode cX3_rank 3 = .ok (.if_icmp .lt 6, 3) := by decide +kernel
theorem dX3_rank_6 : decode cX3_rank 6 = .ok (.bipush 6, 2) := by decide +kernel
theorem dX3_rank_8 : decode cX3_rank 8 = .ok (.ireturn, 1) := by decide +kernel
theorem dX3_rank_9 : decode cX3_rank 9 = .ok (.iload_n 0, 1) := by decide +kernel
theorem dX3_rank_10 : decode cX3_rank 10 = .ok (.bipush 12, 2) := by decide +kernel
theorem dX3_rank_12 : decode cX3_rank 12 = .ok (.if_icmp .lt 5, 3) := by decide +kernel
theorem dX3_rank_15 : decode cX3_rank 15 = .ok (.iconst 5, 1) := by decide +kernel
theorem dX3_rank_16 : decode cX3_rank 16 = .ok (.ireturn, 1) := by decide +kernel
theorem dX3_rank_17 : decode cX3_rank 17 = .ok (.iload_n 0, 1) := by decide +kernel
theorem dX3_rank_18 : decode cX3_rank 18 = .ok (.bipush 6, 2) := by decide +kernel
theorem dX3_rank_20 : decode cX3_rank 20 = .ok (.if_icmp .lt 7, 3) := by decide +kernel
theorem dX3_rank_23 : decode cX3_rank 23 = .ok (.iconst 4, 1) := by decide +kernel
theorem dX3_rank_24 : decode cX3_rank 24 = .ok (.goto 6, 3) := by decide +kernel
theorem dX3_rank_27 : decode cX3_rank 27 = .ok (.iload_n 0, 1) := by decide +kernel
theorem dX3_rank_28 : decode cX3_rank 28 = .ok (.iconst 2, 1) := by decide +kernel
theorem dX3_rank_29 : decode cX3_rank 29 = .ok (.isub, 1) := by decide +kernel
theorem dX3_rank_30 : decode cX3_rank 30 = .ok (.ireturn, 1) := by decide +kernel
theorem dX4_init_0 : decode cX4_init 0 = .ok (.aload_n 0, 1) := by decide +kernel
theorem dX4_init_1 : decode cX4_init 1 = .ok (.invokespecial 3, 3) := by decide +kernel
theorem dX4_init_4 : decode cX4_init 4 = .ok (.aload_n 0, 1) := by decide +kernel
theorem dX4_init_5 : decode cX4_init 5 = .ok (.new 9, 3) := by decide +kernel
theorem dX4_init_8 : decode cX4_init 8 = .ok (.dup, 1) := by decide +kernel
theorem dX4_init_9 : decode cX4_init 9 = .ok (.bipush 6, 2) := by decide +kernel
theorem dX4_init_11 : decode cX4_init 11 = .ok (.invokespecial 11, 3) := by decide +kernel
theorem dX4_init_14 : decode cX4_init 14 = .ok (.putfield 14, 3) := by decide +kernel
theorem dX4_init_17 : decode cX4_init 17 = .ok (.aload_n 0, 1) := by decide +kernel
theorem dX4_init_18 : decode cX4_init 18 = .ok (.new 9, 3) := by decide +kernel
theorem dX4_init_21 : decode cX4_init 21 = .ok (.dup, 1) := by decide +kernel
theorem dX4_init_22 : decode cX4_init 22 = .ok (.bipush 6, 2) := by decide +kernel
theorem dX4_init_24 : decode cX4_init 24 = .ok (.invokespecial 11, 3) := by decide +kernel
theorem dX4_init_27 : decode cX4_init 27 = .ok (.putfield 20, 3) := by decide +kernel
theorem dX4_init_30 : decode cX4_init 30 = .ok (.aload_n 0, 1) := by decide +kernel
theorem dX4_init_31 : decode cX4_init 31 = .ok (.new 9, 3) := by decide +kernel
theorem dX4_init_34 : decode cX4_init 34 = .ok (.dup, 1) := by decide +kernel
theorem dX4_init_35 : decode cX4_init 35 = .ok (.bipush 6, 2) := by decide +kernel
theorem dX4_init_37 : decode cX4_init 37 = .ok (.invokespecial 11, 3) := by decide +kernel
theorem dX4_init_40 : decode cX4_init 40 = .ok (.putfield 23, 3) := by decide +kernel
theorem dX4_init_43 : decode cX4_init 43 = .ok (.aload_n 0, 1) := by decide +kernel
theorem dX4_init_44 : decode cX4_init 44 = .ok (.new 9, 3) := by decide +kernel
theorem dX4_init_47 : decode cX4_init 47 = .ok (.dup, 1) := by decide +kernel
theorem dX4_init_48 : decode cX4_init 48 = .ok (.bipush 6, 2) := by decide +kernel
theorem dX4_init_50 : decode cX4_init 50 = .ok (.invokespecial 11, 3) := by decide +kernel
theorem dX4_init_53 : decode cX4_init 53 = .ok (.putfield 26, 3) := by decide +kernel
theorem dX4_init_56 : decode cX4_init 56 = .ok (.aload_n 0, 1) := by decide +kernel
theorem dX4_init_57 : decode cX4_init 57 = .ok (.bipush 7, 2) := by decide +kernel
theorem dX4_init_59 : decode cX4_init 59 = .ok (.anewarray 29, 3) := by decide +kernel
theorem dX4_init_62 : decode cX4_init 62 = .ok (.putfield 31, 3) := by decide +kernel
theorem dX4_init_65 : decode cX4_init 65 = .ok (.aload_n 0, 1) := by decide +kernel
theorem dX4_init_66 : decode cX4_init 66 = .ok (.new 35, 3) := by decide +kernel
theorem dX4_init_69 : decode cX4_init 69 = .ok (.dup, 1) := by decide +kernel
theorem dX4_init_70 : decode cX4_init 70 = .ok (.invokespecial 37, 3) := by decide +kernel
theorem dX4_init_73 : decode cX4_init 73 = .ok (.putfield 38, 3) := by decide +kernel
theorem dX4_init_76 : decode cX4_init 76 = .ok (.aload_n 0, 1) := by decide +kernel
theorem dX4_init_77 : decode cX4_init 77 = .ok (.new 29, 3) := by decide +kernel
theorem dX4_init_80 : decode cX4_init 80 = .ok (.dup, 1) := by decide +kernel
theorem dX4_init_81 : decode cX4_init 81 = .ok (.invokespecial 42, 3) := by decide +kernel
theorem dX4_init_84 : decode cX4_init 84 = .ok (.putfield 43, 3) := by decide +kernel
theorem dX4_init_87 : decode cX4_init 87 = .ok (.iconst 0, 1) := by decide +kernel
theorem dX4_init_88 : decode cX4_init 88 = .ok (.istore_n 1, 1) := by decide +kernel
theorem dX4_init_89 : decode cX4_init 89 = .ok (.iload_n 1, 1) := by decide +kernel
theorem dX4_init_90 : decode cX4_init 90 = .ok (.aload_n 0, 1) := by decide +kernel
theorem dX4_init_91 : decode cX4_init 91 = .ok (.getfield 31, 3) := by decide +kernel
theorem dX4_init_94 : decode cX4_init 94 = .ok (.arraylength, 1) := by decide +kernel
theorem dX4_init_95 : decode cX4_init 95 = .ok (.if_icmp .ge 22, 3) := by decide +kernel
theorem dX4_init_98 : decode cX4_init 98 = .ok (.aload_n 0, 1) := by decide +kernel
theorem dX4_init_99 : decode cX4_init 99 = .ok (.getfield 31, 3) := by decide +kernel
theorem dX4_init_102 : decode cX4_init 102 = .ok (.iload_n 1, 1) := by decide +kernel
theorem dX4_init_103 : decode cX4_init 103 = .ok (.new 29, 3) := by decide +kernel
theorem dX4_init_106 : decode cX4_init 106 = .ok (.dup, 1) := by decide +kernel
theorem dX4_init_107 : decode cX4_init 107 = .ok (.invokespecial 42, 3) := by decide +kernel
theorem dX4_init_110 : decode cX4_init 110 = .ok (.aastore, 1) := by decide +kernel
theorem dX4_init_111 : decode cX4_init 111 = .ok (.iinc 1 1, 3) := by decide +kernel
theorem dX4_init_114 : decode cX4_init 114 = .ok (.goto (-25), 3) := by decide +kernel
theorem dX4_init_117 : decode cX4_init 117 = .ok (.return_, 1) := by decide +kernel
theorem dX4_fewest_0 : decode cX4_fewest 0 = .ok (.aload_n 0, 1) := by decide +kernel
theorem dX4_fewest_1 : decode cX4_fewest 1 = .ok (.aload_n 1, 1) := by decide +kernel
theorem dX4_fewest_2 : decode cX4_fewest 2 = .ok (.putfield 38, 3) := by decide +kernel
theorem dX4_fewest_5 : decode cX4_fewest 5 = .ok (.aload_n 0, 1) := by decide +kernel
theorem dX4_fewest_6 : decode cX4_fewest 6 = .ok (.aload_n 2, 1) := by decide +kernel
theorem dX4_fewest_7 : decode cX4_fewest 7 = .ok (.putfield 43, 3) := by decide +kernel
theorem dX4_fewest_10 : decode cX4_fewest 10 = .ok (.iconst 0, 1) := by decide +kernel
theorem dX4_fewest_11 : decode cX4_fewest 11 = .ok (.istore 4, 2) := by decide +kernel
theorem dX4_fewest_13 : decode cX4_fewest 13 = .ok (.iload 4, 2) := by decide +kernel
theorem dX4_fewest_15 : decode cX4_fewest 15 = .ok (.aload_n 0, 1) := by decide +kernel
theorem dX4_fewest_16 : decode cX4_fewest 16 = .ok (.getfield 38, 3) := by decide +kernel
theorem dX4_fewest_19 : decode cX4_fewest 19 = .ok (.getfield 47, 3) := by decide +kernel
theorem dX4_fewest_22 : decode cX4_fewest 22 = .ok (.if_icmp .ge 96, 3) := by decide +kernel
theorem dX4_fewest_25 : decode cX4_fewest 25 = .ok (.aload_n 3, 1) := by decide +kernel
theorem dX4_fewest_26 : decode cX4_fewest 26 = .ok (.aload_n 2, 1) := by decide +kernel
theorem dX4_fewest_27 : decode cX4_fewest 27 = .ok (.iload 4, 2) := by decide +kernel
theorem dX4_fewest_29 : decode cX4_fewest 29 = .ok (.invokevirtual 51, 3) := by decide +kernel
theorem dX4_fewest_32 : decode cX4_fewest 32 = .ok (.istore 5, 2) := by decide +kernel
theorem dX4_fewest_34 : decode cX4_fewest 34 = .ok (.iconst 0, 1) := by decide +kernel
theorem dX4_fewest_35 : decode cX4_fewest 35 = .ok (.istore 6, 2) := by decide +kernel
theorem dX4_fewest_37 : decode cX4_fewest 37 = .ok (.iconst 0, 1) := by decide +kernel
theorem dX4_fewest_38 : decode cX4_fewest 38 = .ok (.istore 7, 2) := by decide +kernel
theorem dX4_fewest_40 : decode cX4_fewest 40 = .ok (.iload 7, 2) := by decide +kernel
theorem dX4_fewest_42 : decode cX4_fewest 42 = .ok (.aload_n 0, 1) := by decide +kernel
theorem dX4_fewest_43 : decode cX4_fewest 43 = .ok (.getfield 38, 3) := by decide +kernel
theorem dX4_fewest_46 : decode cX4_fewest 46 = .ok (.getfield 57, 3) := by decide +kernel
theorem dX4_fewest_49 : decode cX4_fewest 49 = .ok (.if_icmp .ge 52, 3) := by decide +kernel
theorem dX4_fewest_52 : decode cX4_fewest 52 = .ok (.aload_n 0, 1) := by decide +kernel
theorem dX4_fewest_53 : decode cX4_fewest 53 = .ok (.getfield 38, 3) := by decide +kernel
theorem dX4_fewest_56 : decode cX4_fewest 56 = .ok (.getfield 60, 3) := by decide +kernel
theorem dX4_fewest_59 : decode cX4_fewest 59 = .ok (.iload 7, 2) := by decide +kernel
theorem dX4_fewest_61 : decode cX4_fewest 61 = .ok (.invokevirtual 63, 3) := by decide +kernel
theorem dX4_fewest_64 : decode cX4_fewest 64 = .ok (.iload 5, 2) := by decide +kernel
theorem dX4_fewest_66 : decode cX4_fewest 66 = .ok (.if_icmp .gt 29, 3) := by decide +kernel
theorem dX4_fewest_69 : decode cX4_fewest 69 = .ok (.aload_n 0, 1) := by decide +kernel
theorem dX4_fewest_70 : decode cX4_fewest 70 = .ok (.getfield 38, 3) := by decide +kernel
theorem dX4_fewest_73 : decode cX4_fewest 73 = .ok (.getfield 67, 3) := by decide +kernel
theorem dX4_fewest_76 : decode cX4_fewest 76 = .ok (.iload 7, 2) := by decide +kernel
theorem dX4_fewest_78 : decode cX4_fewest 78 = .ok (.invokevirtual 63, 3) := by decide +kernel
theorem dX4_fewest_81 : decode cX4_fewest 81 = .ok (.iload 5, 2) := by decide +kernel
theorem dX4_fewest_83 : decode cX4_fewest 83 = .ok (.if_icmp .lt 12, 3) := by decide +kernel
theorem dX4_fewest_86 : decode cX4_fewest 86 = .ok (.iload 6, 2) := by decide +kernel
theorem dX4_fewest_88 : decode cX4_fewest 88 = .ok (.iconst 1, 1) := by decide +kernel
theorem dX4_fewest_89 : decode cX4_fewest 89 = .ok (.iload 7, 2) := by decide +kernel
theorem dX4_fewest_91 : decode cX4_fewest 91 = .ok (.ishl, 1) := by decide +kernel
theorem dX4_fewest_92 : decode cX4_fewest 92 = .ok (.ior, 1) := by decide +kernel
theorem dX4_fewest_93 : decode cX4_fewest 93 = .ok (.istore 6, 2) := by decide +kernel
theorem dX4_fewest_95 : decode cX4_fewest 95 = .ok (.iinc 7 1, 3) := by decide +kernel
theorem dX4_fewest_98 : decode cX4_fewest 98 = .ok (.goto (-58), 3) := by decide +kernel
theorem dX4_fewest_101 : decode cX4_fewest 101 = .ok (.aload_n 0, 1) := by decide +kernel
theorem dX4_fewest_102 : decode cX4_fewest 102 = .ok (.getfield 20, 3) := by decide +kernel
theorem dX4_fewest_105 : decode cX4_fewest 105 = .ok (.iload 4, 2) := by decide +kernel
theorem dX4_fewest_107 : decode cX4_fewest 107 = .ok (.iload 6, 2) := by decide +kernel
theorem dX4_fewest_109 : decode cX4_fewest 109 = .ok (.invokevirtual 70, 3) := by decide +kernel
theorem dX4_fewest_112 : decode cX4_fewest 112 = .ok (.iinc 4 1, 3) := by decide +kernel
theorem dX4_fewest_115 : decode cX4_fewest 115 = .ok (.goto (-102), 3) := by decide +kernel
theorem dX4_fewest_118 : decode cX4_fewest 118 = .ok (.iconst 0, 1) := by decide +kernel
theorem dX4_fewest_119 : decode cX4_fewest 119 = .ok (.istore 4, 2) := by decide +kernel
theorem dX4_fewest_121 : decode cX4_fewest 121 = .ok (.iload 4, 2) := by decide +kernel
theorem dX4_fewest_123 : decode cX4_fewest 123 = .ok (.bipush 12, 2) := by decide +kernel
theorem dX4_fewest_125 : decode cX4_fewest 125 = .ok (.if_icmp .gt 22, 3) := by decide +kernel
theorem dX4_fewest_128 : decode cX4_fewest 128 = .ok (.aload_n 0, 1) := by decide +kernel
theorem dX4_fewest_129 : decode cX4_fewest 129 = .ok (.iconst 0, 1) := by decide +kernel
theorem dX4_fewest_130 : decode cX4_fewest 130 = .ok (.iload 4, 2) := by decide +kernel
theorem dX4_fewest_132 : decode cX4_fewest 132 = .ok (.invokestatic 74, 3) := by decide +kernel
theorem dX4_fewest_135 : decode cX4_fewest 135 = .ok (.ifCond .eq 6, 3) := by decide +kernel
theorem dX4_fewest_138 : decode cX4_fewest 138 = .ok (.iload 4, 2) := by decide +kernel
theorem dX4_fewest_140 : decode cX4_fewest 140 = .ok (.ireturn, 1) := by decide +kernel
theorem dX4_fewest_141 : decode cX4_fewest 141 = .ok (.iinc 4 1, 3) := by decide +kernel
theorem dX4_fewest_144 : decode cX4_fewest 144 = .ok (.goto (-23), 3) := by decide +kernel
theorem dX4_fewest_147 : decode cX4_fewest 147 = .ok (.bipush (-2), 2) := by decide +kernel
theorem dX4_fewest_149 : decode cX4_fewest 149 = .ok (.ireturn, 1) := by decide +kernel
theorem dX4_spreads_0 : decode cX4_spreads 0 = .ok (.aload_n 0, 1) := by decide +kernel
theorem dX4_spreads_1 : decode cX4_spreads 1 = .ok (.getfield 38, 3) := by decide +kernel
theorem dX4_spreads_4 : decode cX4_spreads 4 = .ok (.getfield 47, 3) := by decide +kernel
theorem dX4_spreads_7 : decode cX4_spreads 7 = .ok (.istore_n 3, 1) := by decide +kernel
theorem dX4_spreads_8 : decode cX4_spreads 8 = .ok (.iload_n 1, 1) := by decide +kernel
theorem dX4_spreads_9 : decode cX4_spreads 9 = .ok (.iload_n 3, 1) := by decide +kernel
theorem dX4_spreads_10 : decode cX4_spreads 10 = .ok (.if_icmp .lt 20, 3) := by decide +kernel
theorem dX4_spreads_13 : decode cX4_spreads 13 = .ok (.iload_n 2, 1) := by decide +kernel
theorem dX4_spreads_14 : decode cX4_spreads 14 = .ok (.ifCond .ne 14, 3) := by decide +kernel
theorem dX4_spreads_17 : decode cX4_spreads 17 = .ok (.aload_n 0, 1) := by decide +kernel
theorem dX4_spreads_18 : decode cX4_spreads 18 = .ok (.invokevirtual 78, 3) := by decide +kernel
theorem dX4_spreads_21 : decode cX4_spreads 21 = .ok (.ifCond .eq 7, 3) := by decide +kernel
theorem dX4_spreads_24 : decode cX4_spreads 24 = .ok (.iconst 1, 1) := by decide +kernel
theorem dX4_spreads_25 : decode cX4_spreads 25 = .ok (.goto 4, 3) := by decide +kernel
theorem dX4_spreads_28 : decode cX4_spreads 28 = .ok (.iconst 0, 1) := by decide +kernel
theorem dX4_spreads_29 : decode cX4_spreads 29 = .ok (.ireturn, 1) := by decide +kernel
theorem dX4_spreads_30 : decode cX4_spreads 30 = .ok (.iload_n 1, 1) := by decide +kernel
theorem dX4_spreads_31 : decode cX4_spreads 31 = .ok (.iconst 1, 1) := by decide +kernel
theorem dX4_spreads_32 : decode cX4_spreads 32 = .ok (.iadd, 1) := by decide +kernel
theorem dX4_spreads_33 : decode cX4_spreads 33 = .ok (.iload_n 3, 1) := by decide +kernel
theorem dX4_spreads_34 : decode cX4_spreads 34 = .ok (.if_icmp .ge 7, 3) := by decide +kernel
theorem dX4_spreads_37 : decode cX4_spreads 37 = .ok (.iconst 0, 1) := by decide +kernel
theorem dX4_spreads_38 : decode cX4_spreads 38 = .ok (.goto 4, 3) := by decide +kernel
theorem dX4_spreads_41 : decode cX4_spreads 41 = .ok (.iload_n 2, 1) := by decide +kernel
theorem dX4_spreads_42 : decode cX4_spreads 42 = .ok (.istore 4, 2) := by decide +kernel
theorem dX4_spreads_44 : decode cX4_spreads 44 = .ok (.iload_n 2, 1) := by decide +kernel
theorem dX4_spreads_45 : decode cX4_spreads 45 = .ok (.istore 5, 2) := by decide +kernel
theorem dX4_spreads_47 : decode cX4_spreads 47 = .ok (.iload 5, 2) := by decide +kernel
theorem dX4_spreads_49 : decode cX4_spreads 49 = .ok (.iload 4, 2) := by decide +kernel
theorem dX4_spreads_51 : decode cX4_spreads 51 = .ok (.if_icmp .lt 35, 3) := by decide +kernel
theorem dX4_spreads_54 : decode cX4_spreads 54 = .ok (.aload_n 0, 1) := by decide +kernel
theorem dX4_spreads_55 : decode cX4_spreads 55 = .ok (.getfield 14, 3) := by decide +kernel
theorem dX4_spreads_58 : decode cX4_spreads 58 = .ok (.iload_n 1, 1) := by decide +kernel
theorem dX4_spreads_59 : decode cX4_spreads 59 = .ok (.iload 5, 2) := by decide +kernel
theorem dX4_spreads_61 : decode cX4_spreads 61 = .ok (.invokevirtual 70, 3) := by decide +kernel
theorem dX4_spreads_64 : decode cX4_spreads 64 = .ok (.aload_n 0, 1) := by decide +kernel
theorem dX4_spreads_65 : decode cX4_spreads 65 = .ok (.iload_n 1, 1) := by decide +kernel
theorem dX4_spreads_66 : decode cX4_spreads 66 = .ok (.iconst 1, 1) := by decide +kernel
theorem dX4_spreads_67 : decode cX4_spreads 67 = .ok (.iadd, 1) := by decide +kernel
theorem dX4_spreads_68 : decode cX4_spreads 68 = .ok (.iload_n 2, 1) := by decide +kernel
theorem dX4_spreads_69 : decode cX4_spreads 69 = .ok (.iload 5, 2) := by decide +kernel
theorem dX4_spreads_71 : decode cX4_spreads 71 = .ok (.isub, 1) := by decide +kernel
theorem dX4_spreads_72 : decode cX4_spreads 72 = .ok (.invokestatic 74, 3) := by decide +kernel
theorem dX4_spreads_75 : decode cX4_spreads 75 = .ok (.ifCond .eq 5, 3) := by decide +kernel
theorem dX4_spreads_78 : decode cX4_spreads 78 = .ok (.iconst 1, 1) := by decide +kernel
theorem dX4_spreads_79 : decode cX4_spreads 79 = .ok (.ireturn, 1) := by decide +kernel
theorem dX4_spreads_80 : decode cX4_spreads 80 = .ok (.iinc 5 (-1), 3) := by decide +kernel
theorem dX4_spreads_83 : decode cX4_spreads 83 = .ok (.goto (-36), 3) := by decide +kernel
theorem dX4_spreads_86 : decode cX4_spreads 86 = .ok (.iconst 0, 1) := by decide +kernel
theorem dX4_spreads_87 : decode cX4_spreads 87 = .ok (.ireturn, 1) := by decide +kernel
theorem dX4_allDone_0 : decode cX4_allDone 0 = .ok (.iconst 0, 1) := by decide +kernel
theorem dX4_allDone_1 : decode cX4_allDone 1 = .ok (.istore_n 1, 1) := by decide +kernel
theorem dX4_allDone_2 : decode cX4_allDone 2 = .ok (.iload_n 1, 1) := by decide +kernel
theorem dX4_allDone_3 : decode cX4_allDone 3 = .ok (.aload_n 0, 1) := by decide +kernel
theorem dX4_allDone_4 : decode cX4_allDone 4 = .ok (.getfield 38, 3) := by decide +kernel
theorem dX4_allDone_7 : decode cX4_allDone 7 = .ok (.getfield 57, 3) := by decide +kernel
theorem dX4_allDone_10 : decode cX4_allDone 10 = .ok (.if_icmp .ge 88, 3) := by decide +kernel
theorem dX4_allDone_13 : decode cX4_allDone 13 = .ok (.aload_n 0, 1) := by decide +kernel
theorem dX4_allDone_14 : decode cX4_allDone 14 = .ok (.getfield 43, 3) := by decide +kernel
theorem dX4_allDone_17 : decode cX4_allDone 17 = .ok (.getfield 82, 3) := by decide +kernel
theorem dX4_allDone_20 : decode cX4_allDone 20 = .ok (.iload_n 1, 1) := by decide +kernel
theorem dX4_allDone_21 : decode cX4_allDone 21 = .ok (.invokevirtual 63, 3) := by decide +kernel
theorem dX4_allDone_24 : decode cX4_allDone 24 = .ok (.istore_n 2, 1) := by decide +kernel
theorem dX4_allDone_25 : decode cX4_allDone 25 = .ok (.iconst 0, 1) := by decide +kernel
theorem dX4_allDone_26 : decode cX4_allDone 26 = .ok (.istore_n 3, 1) := by decide +kernel
theorem dX4_allDone_27 : decode cX4_allDone 27 = .ok (.iload_n 3, 1) := by decide +kernel
theorem dX4_allDone_28 : decode cX4_allDone 28 = .ok (.aload_n 0, 1) := by decide +kernel
theorem dX4_allDone_29 : decode cX4_allDone 29 = .ok (.getfield 38, 3) := by decide +kernel
theorem dX4_allDone_32 : decode cX4_allDone 32 = .ok (.getfield 47, 3) := by decide +kernel
theorem dX4_allDone_35 : decode cX4_allDone 35 = .ok (.if_icmp .ge 40, 3) := by decide +kernel
theorem dX4_allDone_38 : decode cX4_allDone 38 = .ok (.iload_n 2, 1) := by decide +kernel
theorem dX4_allDone_39 : decode cX4_allDone 39 = .ok (.aload_n 0, 1) := by decide +kernel
theorem dX4_allDone_40 : decode cX4_allDone 40 = .ok (.getfield 20, 3) := by decide +kernel
theorem dX4_allDone_43 : decode cX4_allDone 43 = .ok (.iload_n 3, 1) := by decide +kernel
theorem dX4_allDone_44 : decode cX4_allDone 44 = .ok (.invokevirtual 63, 3) := by decide +kernel
theorem dX4_allDone_47 : decode cX4_allDone 47 = .ok (.iload_n 1, 1) := by decide +kernel
theorem dX4_allDone_48 : decode cX4_allDone 48 = .ok (.ishr, 1) := by decide +kernel
theorem dX4_allDone_49 : decode cX4_allDone 49 = .ok (.iconst 1, 1) := by decide +kernel
theorem dX4_allDone_50 : decode cX4_allDone 50 = .ok (.iand, 1) := by decide +kernel
theorem dX4_allDone_51 : decode cX4_allDone 51 = .ok (.iconst 1, 1) := by decide +kernel
theorem dX4_allDone_52 : decode cX4_allDone 52 = .ok (.if_icmp .ne 14, 3) := by decide +kernel
theorem dX4_allDone_55 : decode cX4_allDone 55 = .ok (.aload_n 0, 1) := by decide +kernel
theorem dX4_allDone_56 : decode cX4_allDone 56 = .ok (.getfield 14, 3) := by decide +kernel
theorem dX4_allDone_59 : decode cX4_allDone 59 = .ok (.iload_n 3, 1) := by decide +kernel
theorem dX4_allDone_60 : decode cX4_allDone 60 = .ok (.invokevirtual 63, 3) := by decide +kernel
theorem dX4_allDone_63 : decode cX4_allDone 63 = .ok (.goto 4, 3) := by decide +kernel
theorem dX4_allDone_66 : decode cX4_allDone 66 = .ok (.iconst 0, 1) := by decide +kernel
theorem dX4_allDone_67 : decode cX4_allDone 67 = .ok (.iadd, 1) := by decide +kernel
theorem dX4_allDone_68 : decode cX4_allDone 68 = .ok (.istore_n 2, 1) := by decide +kernel
theorem dX4_allDone_69 : decode cX4_allDone 69 = .ok (.iinc 3 1, 3) := by decide +kernel
theorem dX4_allDone_72 : decode cX4_allDone 72 = .ok (.goto (-45), 3) := by decide +kernel
theorem dX4_allDone_75 : decode cX4_allDone 75 = .ok (.iload_n 2, 1) := by decide +kernel
theorem dX4_allDone_76 : decode cX4_allDone 76 = .ok (.aload_n 0, 1) := by decide +kernel
theorem dX4_allDone_77 : decode cX4_allDone 77 = .ok (.getfield 38, 3) := by decide +kernel
theorem dX4_allDone_80 : decode cX4_allDone 80 = .ok (.getfield 85, 3) := by decide +kernel
theorem dX4_allDone_83 : decode cX4_allDone 83 = .ok (.iload_n 1, 1) := by decide +kernel
theorem dX4_allDone_84 : decode cX4_allDone 84 = .ok (.invokevirtual 63, 3) := by decide +kernel
theorem dX4_allDone_87 : decode cX4_allDone 87 = .ok (.if_icmp .ge 5, 3) := by decide +kernel
theorem dX4_allDone_90 : decode cX4_allDone 90 = .ok (.iconst 0, 1) := by decide +kernel
theorem dX4_allDone_91 : decode cX4_allDone 91 = .ok (.ireturn, 1) := by decide +kernel
theorem dX4_allDone_92 : decode cX4_allDone 92 = .ok (.iinc 1 1, 3) := by decide +kernel
theorem dX4_allDone_95 : decode cX4_allDone 95 = .ok (.goto (-93), 3) := by decide +kernel
theorem dX4_allDone_98 : decode cX4_allDone 98 = .ok (.iconst 1, 1) := by decide +kernel
theorem dX4_allDone_99 : decode cX4_allDone 99 = .ok (.ireturn, 1) := by decide +kernel
theorem dX4_begin_0 : decode cX4_begin 0 = .ok (.aload_n 0, 1) := by decide +kernel
theorem dX4_begin_1 : decode cX4_begin 1 = .ok (.aload_n 1, 1) := by decide +kernel
theorem dX4_begin_2 : decode cX4_begin 2 = .ok (.putfield 38, 3) := by decide +kernel
theorem dX4_begin_5 : decode cX4_begin 5 = .ok (.aload_n 0, 1) := by decide +kernel
theorem dX4_begin_6 : decode cX4_begin 6 = .ok (.iload_n 3, 1) := by decide +kernel
theorem dX4_begin_7 : decode cX4_begin 7 = .ok (.putfield 88, 3) := by decide +kernel
theorem dX4_begin_10 : decode cX4_begin 10 = .ok (.aload_n 0, 1) := by decide +kernel
theorem dX4_begin_11 : decode cX4_begin 11 = .ok (.iconst (-1), 1) := by decide +kernel
theorem dX4_begin_12 : decode cX4_begin 12 = .ok (.putfield 91, 3) := by decide +kernel
theorem dX4_begin_15 : decode cX4_begin 15 = .ok (.aload_n 0, 1) := by decide +kernel
theorem dX4_begin_16 : decode cX4_begin 16 = .ok (.iconst 0, 1) := by decide +kernel
theorem dX4_begin_17 : decode cX4_begin 17 = .ok (.invokevirtual 94, 3) := by decide +kernel
theorem dX4_begin_20 : decode cX4_begin 20 = .ok (.astore 4, 2) := by decide +kernel
theorem dX4_begin_22 : decode cX4_begin 22 = .ok (.aload 4, 2) := by decide +kernel
theorem dX4_begin_24 : decode cX4_begin 24 = .ok (.ifnull 9, 3) := by decide +kernel
theorem dX4_begin_27 : decode cX4_begin 27 = .ok (.aload 4, 2) := by decide +kernel
theorem dX4_begin_29 : decode cX4_begin 29 = .ok (.aload_n 2, 1) := by decide +kernel
theorem dX4_begin_30 : decode cX4_begin 30 = .ok (.invokevirtual 98, 3) := by decide +kernel
theorem dX4_begin_33 : decode cX4_begin 33 = .ok (.return_, 1) := by decide +kernel
theorem dX4_stateBehind_0 : decode cX4_stateBehind 0 = .ok (.iload_n 1, 1) := by decide +kernel
theorem dX4_stateBehind_1 : decode cX4_stateBehind 1 = .ok (.ifCond .lt 21, 3) := by decide +kernel
theorem dX4_stateBehind_4 : decode cX4_stateBehind 4 = .ok (.iload_n 1, 1) := by decide +kernel
theorem dX4_stateBehind_5 : decode cX4_stateBehind 5 = .ok (.aload_n 0, 1) := by decide +kernel
theorem dX4_stateBehind_6 : decode cX4_stateBehind 6 = .ok (.getfield 31, 3) := by decide +kernel
theorem dX4_stateBehind_9 : decode cX4_stateBehind 9 = .ok (.arraylength, 1) := by decide +kernel
theorem dX4_stateBehind_10 : decode cX4_stateBehind 10 = .ok (.if_icmp .ge 12, 3) := by decide +kernel
theorem dX4_stateBehind_13 : decode cX4_stateBehind 13 = .ok (.aload_n 0, 1) := by decide +kernel
theorem dX4_stateBehind_14 : decode cX4_stateBehind 14 = .ok (.getfield 31, 3) := by decide +kernel
theorem dX4_stateBehind_17 : decode cX4_stateBehind 17 = .ok (.iload_n 1, 1) := by decide +kernel
theorem dX4_stateBehind_18 : decode cX4_stateBehind 18 = .ok (.aaload, 1) := by decide +kernel
theorem dX4_stateBehind_19 : decode cX4_stateBehind 19 = .ok (.goto 4, 3) := by decide +kernel
theorem dX4_stateBehind_22 : decode cX4_stateBehind 22 = .ok (.aconst_null, 1) := by decide +kernel
theorem dX4_stateBehind_23 : decode cX4_stateBehind 23 = .ok (.areturn, 1) := by decide +kernel
theorem dX4_seek_0 : decode cX4_seek 0 = .ok (.aload_n 0, 1) := by decide +kernel
theorem dX4_seek_1 : decode cX4_seek 1 = .ok (.iload_n 1, 1) := by decide +kernel
theorem dX4_seek_2 : decode cX4_seek 2 = .ok (.invokevirtual 94, 3) := by decide +kernel
theorem dX4_seek_5 : decode cX4_seek 5 = .ok (.astore_n 3, 1) := by decide +kernel
theorem dX4_seek_6 : decode cX4_seek 6 = .ok (.aload_n 0, 1) := by decide +kernel
theorem dX4_seek_7 : decode cX4_seek 7 = .ok (.iload_n 1, 1) := by decide +kernel
theorem dX4_seek_8 : decode cX4_seek 8 = .ok (.iconst 1, 1) := by decide +kernel
theorem dX4_seek_9 : decode cX4_seek 9 = .ok (.iadd, 1) := by decide +kernel
theorem dX4_seek_10 : decode cX4_seek 10 = .ok (.invokevirtual 94, 3) := by decide +kernel
theorem dX4_seek_13 : decode cX4_seek 13 = .ok (.astore 4, 2) := by decide +kernel
theorem dX4_seek_15 : decode cX4_seek 15 = .ok (.aload_n 3, 1) := by decide +kernel
theorem dX4_seek_16 : decode cX4_seek 16 = .ok (.ifnull 21, 3) := by decide +kernel
theorem dX4_seek_19 : decode cX4_seek 19 = .ok (.aload_n 0, 1) := by decide +kernel
theorem dX4_seek_20 : decode cX4_seek 20 = .ok (.aload_n 3, 1) := by decide +kernel
theorem dX4_seek_21 : decode cX4_seek 21 = .ok (.aload_n 0, 1) := by decide +kernel
theorem dX4_seek_22 : decode cX4_seek 22 = .ok (.getfield 88, 3) := by decide +kernel
theorem dX4_seek_25 : decode cX4_seek 25 = .ok (.iload_n 1, 1) := by decide +kernel
theorem dX4_seek_26 : decode cX4_seek 26 = .ok (.isub, 1) := by decide +kernel
theorem dX4_seek_27 : decode cX4_seek 27 = .ok (.invokevirtual 102, 3) := by decide +kernel
theorem dX4_seek_30 : decode cX4_seek 30 = .ok (.aload_n 0, 1) := by decide +kernel
theorem dX4_seek_31 : decode cX4_seek 31 = .ok (.getfield 91, 3) := by decide +kernel
theorem dX4_seek_34 : decode cX4_seek 34 = .ok (.if_icmp .gt 4, 3) := by decide +kernel
theorem dX4_seek_37 : decode cX4_seek 37 = .ok (.return_, 1) := by decide +kernel
theorem dX4_seek_38 : decode cX4_seek 38 = .ok (.iload_n 1, 1) := by decide +kernel
theorem dX4_seek_39 : decode cX4_seek 39 = .ok (.aload_n 0, 1) := by decide +kernel
theorem dX4_seek_40 : decode cX4_seek 40 = .ok (.getfield 88, 3) := by decide +kernel
theorem dX4_seek_43 : decode cX4_seek 43 = .ok (.if_icmp .ne 31, 3) := by decide +kernel
theorem dX4_seek_46 : decode cX4_seek 46 = .ok (.aload_n 0, 1) := by decide +kernel
theorem dX4_seek_47 : decode cX4_seek 47 = .ok (.aload_n 0, 1) := by decide +kernel
theorem dX4_seek_48 : decode cX4_seek 48 = .ok (.getfield 38, 3) := by decide +kernel
theorem dX4_seek_51 : decode cX4_seek 51 = .ok (.getfield 57, 3) := by decide +kernel
theorem dX4_seek_54 : decode cX4_seek 54 = .ok (.aload_n 3, 1) := by decide +kernel
theorem dX4_seek_55 : decode cX4_seek 55 = .ok (.getfield 105, 3) := by decide +kernel
theorem dX4_seek_58 : decode cX4_seek 58 = .ok (.isub, 1) := by decide +kernel
theorem dX4_seek_59 : decode cX4_seek 59 = .ok (.putfield 91, 3) := by decide +kernel
theorem dX4_seek_62 : decode cX4_seek 62 = .ok (.aload_n 0, 1) := by decide +kernel
theorem dX4_seek_63 : decode cX4_seek 63 = .ok (.getfield 23, 3) := by decide +kernel
theorem dX4_seek_66 : decode cX4_seek 66 = .ok (.aload_n 0, 1) := by decide +kernel
theorem dX4_seek_67 : decode cX4_seek 67 = .ok (.getfield 26, 3) := by decide +kernel
theorem dX4_seek_70 : decode cX4_seek 70 = .ok (.invokevirtual 108, 3) := by decide +kernel
theorem dX4_seek_73 : decode cX4_seek 73 = .ok (.return_, 1) := by decide +kernel
theorem dX4_seek_74 : decode cX4_seek 74 = .ok (.iconst 0, 1) := by decide +kernel
theorem dX4_seek_75 : decode cX4_seek 75 = .ok (.istore 5, 2) := by decide +kernel
theorem dX4_seek_77 : decode cX4_seek 77 = .ok (.iload 5, 2) := by decide +kernel
theorem dX4_seek_79 : decode cX4_seek 79 = .ok (.aload_n 0, 1) := by decide +kernel
theorem dX4_seek_80 : decode cX4_seek 80 = .ok (.getfield 38, 3) := by decide +kernel
theorem dX4_seek_83 : decode cX4_seek 83 = .ok (.getfield 47, 3) := by decide +kernel
theorem dX4_seek_86 : decode cX4_seek 86 = .ok (.if_icmp .ge 51, 3) := by decide +kernel
theorem dX4_seek_89 : decode cX4_seek 89 = .ok (.aload 4, 2) := by decide +kernel
theorem dX4_seek_91 : decode cX4_seek 91 = .ok (.ifnull 46, 3) := by decide +kernel
theorem dX4_seek_94 : decode cX4_seek 94 = .ok (.aload_n 0, 1) := by decide +kernel
theorem dX4_seek_95 : decode cX4_seek 95 = .ok (.getfield 26, 3) := by decide +kernel
theorem dX4_seek_98 : decode cX4_seek 98 = .ok (.iload_n 1, 1) := by decide +kernel
theorem dX4_seek_99 : decode cX4_seek 99 = .ok (.iload 5, 2) := by decide +kernel
theorem dX4_seek_101 : decode cX4_seek 101 = .ok (.invokevirtual 70, 3) := by decide +kernel
theorem dX4_seek_104 : decode cX4_seek 104 = .ok (.aload 4, 2) := by decide +kernel
theorem dX4_seek_106 : decode cX4_seek 106 = .ok (.aload_n 3, 1) := by decide +kernel
theorem dX4_seek_107 : decode cX4_seek 107 = .ok (.invokevirtual 98, 3) := by decide +kernel
theorem dX4_seek_110 : decode cX4_seek 110 = .ok (.aload 4, 2) := by decide +kernel
theorem dX4_seek_112 : decode cX4_seek 112 = .ok (.iload 5, 2) := by decide +kernel
theorem dX4_seek_114 : decode cX4_seek 114 = .ok (.putfield 111, 3) := by decide +kernel
theorem dX4_seek_117 : decode cX4_seek 117 = .ok (.aload_n 2, 1) := by decide +kernel
theorem dX4_seek_118 : decode cX4_seek 118 = .ok (.aload 4, 2) := by decide +kernel
theorem dX4_seek_120 : decode cX4_seek 120 = .ok (.invokevirtual 114, 3) := by decide +kernel
theorem dX4_seek_123 : decode cX4_seek 123 = .ok (.aload_n 0, 1) := by decide +kernel
theorem dX4_seek_124 : decode cX4_seek 124 = .ok (.iload_n 1, 1) := by decide +kernel
theorem dX4_seek_125 : decode cX4_seek 125 = .ok (.iconst 1, 1) := by decide +kernel
theorem dX4_seek_126 : decode cX4_seek 126 = .ok (.iadd, 1) := by decide +kernel
theorem dX4_seek_127 : decode cX4_seek 127 = .ok (.aload_n 2, 1) := by decide +kernel
theorem dX4_seek_128 : decode cX4_seek 128 = .ok (.invokestatic 117, 3) := by decide +kernel
theorem dX4_seek_131 : decode cX4_seek 131 = .ok (.iinc 5 1, 3) := by decide +kernel
theorem dX4_seek_134 : decode cX4_seek 134 = .ok (.goto (-57), 3) := by decide +kernel
theorem dX4_seek_137 : decode cX4_seek 137 = .ok (.return_, 1) := by decide +kernel
theorem dX4_hopes_0 : decode cX4_hopes 0 = .ok (.iconst 0, 1) := by decide +kernel
theorem dX4_hopes_1 : decode cX4_hopes 1 = .ok (.istore_n 3, 1) := by decide +kernel
theorem dX4_hopes_2 : decode cX4_hopes 2 = .ok (.iconst 0, 1) := by decide +kernel
theorem dX4_hopes_3 : decode cX4_hopes 3 = .ok (.istore 4, 2) := by decide +kernel
theorem dX4_hopes_5 : decode cX4_hopes 5 = .ok (.iload 4, 2) := by decide +kernel
theorem dX4_hopes_7 : decode cX4_hopes 7 = .ok (.aload_n 0, 1) := by decide +kernel
theorem dX4_hopes_8 : decode cX4_hopes 8 = .ok (.getfield 38, 3) := by decide +kernel
theorem dX4_hopes_11 : decode cX4_hopes 11 = .ok (.getfield 57, 3) := by decide +kernel
theorem dX4_hopes_14 : decode cX4_hopes 14 = .ok (.if_icmp .ge 91, 3) := by decide +kernel
theorem dX4_hopes_17 : decode cX4_hopes 17 = .ok (.aload_n 0, 1) := by decide +kernel
theorem dX4_hopes_18 : decode cX4_hopes 18 = .ok (.getfield 38, 3) := by decide +kernel
theorem dX4_hopes_21 : decode cX4_hopes 21 = .ok (.getfield 85, 3) := by decide +kernel
theorem dX4_hopes_24 : decode cX4_hopes 24 = .ok (.iload 4, 2) := by decide +kernel
theorem dX4_hopes_26 : decode cX4_hopes 26 = .ok (.invokevirtual 63, 3) := by decide +kernel
theorem dX4_hopes_29 : decode cX4_hopes 29 = .ok (.aload_n 1, 1) := by decide +kernel
theorem dX4_hopes_30 : decode cX4_hopes 30 = .ok (.getfield 82, 3) := by decide +kernel
theorem dX4_hopes_33 : decode cX4_hopes 33 = .ok (.iload 4, 2) := by decide +kernel
theorem dX4_hopes_35 : decode cX4_hopes 35 = .ok (.invokevirtual 63, 3) := by decide +kernel
theorem dX4_hopes_38 : decode cX4_hopes 38 = .ok (.isub, 1) := by decide +kernel
theorem dX4_hopes_39 : decode cX4_hopes 39 = .ok (.istore 5, 2) := by decide +kernel
theorem dX4_hopes_41 : decode cX4_hopes 41 = .ok (.aload_n 0, 1) := by decide +kernel
theorem dX4_hopes_42 : decode cX4_hopes 42 = .ok (.getfield 38, 3) := by decide +kernel
theorem dX4_hopes_45 : decode cX4_hopes 45 = .ok (.getfield 60, 3) := by decide +kernel
theorem dX4_hopes_48 : decode cX4_hopes 48 = .ok (.iload 4, 2) := by decide +kernel
theorem dX4_hopes_50 : decode cX4_hopes 50 = .ok (.invokevirtual 63, 3) := by decide +kernel
theorem dX4_hopes_53 : decode cX4_hopes 53 = .ok (.aload_n 0, 1) := by decide +kernel
theorem dX4_hopes_54 : decode cX4_hopes 54 = .ok (.getfield 38, 3) := by decide +kernel
theorem dX4_hopes_57 : decode cX4_hopes 57 = .ok (.getfield 67, 3) := by decide +kernel
theorem dX4_hopes_60 : decode cX4_hopes 60 = .ok (.iload 4, 2) := by decide +kernel
theorem dX4_hopes_62 : decode cX4_hopes 62 = .ok (.invokevirtual 63, 3) := by decide +kernel
theorem dX4_hopes_65 : decode cX4_hopes 65 = .ok (.if_icmp .gt 13, 3) := by decide +kernel
theorem dX4_hopes_68 : decode cX4_hopes 68 = .ok (.iload 5, 2) := by decide +kernel
theorem dX4_hopes_70 : decode cX4_hopes 70 = .ok (.iload_n 2, 1) := by decide +kernel
theorem dX4_hopes_71 : decode cX4_hopes 71 = .ok (.if_icmp .gt 7, 3) := by decide +kernel
theorem dX4_hopes_74 : decode cX4_hopes 74 = .ok (.iconst 1, 1) := by decide +kernel
theorem dX4_hopes_75 : decode cX4_hopes 75 = .ok (.goto 4, 3) := by decide +kernel
theorem dX4_hopes_78 : decode cX4_hopes 78 = .ok (.iconst 0, 1) := by decide +kernel
theorem dX4_hopes_79 : decode cX4_hopes 79 = .ok (.istore 6, 2) := by decide +kernel
theorem dX4_hopes_81 : decode cX4_hopes 81 = .ok (.iload_n 3, 1) := by decide +kernel
theorem dX4_hopes_82 : decode cX4_hopes 82 = .ok (.iload 5, 2) := by decide +kernel
theorem dX4_hopes_84 : decode cX4_hopes 84 = .ok (.ifCond .le 8, 3) := by decide +kernel
theorem dX4_hopes_87 : decode cX4_hopes 87 = .ok (.iload 6, 2) := by decide +kernel
theorem dX4_hopes_89 : decode cX4_hopes 89 = .ok (.ifCond .eq 7, 3) := by decide +kernel
theorem dX4_hopes_92 : decode cX4_hopes 92 = .ok (.iconst 1, 1) := by decide +kernel
theorem dX4_hopes_93 : decode cX4_hopes 93 = .ok (.goto 4, 3) := by decide +kernel
theorem dX4_hopes_96 : decode cX4_hopes 96 = .ok (.iconst 0, 1) := by decide +kernel
theorem dX4_hopes_97 : decode cX4_hopes 97 = .ok (.iadd, 1) := by decide +kernel
theorem dX4_hopes_98 : decode cX4_hopes 98 = .ok (.istore_n 3, 1) := by decide +kernel
theorem dX4_hopes_99 : decode cX4_hopes 99 = .ok (.iinc 4 1, 3) := by decide +kernel
theorem dX4_hopes_102 : decode cX4_hopes 102 = .ok (.goto (-97), 3) := by decide +kernel
theorem dX4_hopes_105 : decode cX4_hopes 105 = .ok (.iload_n 3, 1) := by decide +kernel
theorem dX4_hopes_106 : decode cX4_hopes 106 = .ok (.ireturn, 1) := by decide +kernel
theorem dX5_init_0 : decode cX5_init 0 = .ok (.aload_n 0, 1) := by decide +kernel
theorem dX5_init_1 : decode cX5_init 1 = .ok (.invokespecial 1, 3) := by decide +kernel
theorem dX5_init_4 : decode cX5_init 4 = .ok (.aload_n 0, 1) := by decide +kernel
theorem dX5_init_5 : decode cX5_init 5 = .ok (.iload_n 1, 1) := by decide +kernel
theorem dX5_init_6 : decode cX5_init 6 = .ok (.iconst 0, 1) := by decide +kernel
theorem dX5_init_7 : decode cX5_init 7 = .ok (.invokestatic 7, 3) := by decide +kernel
theorem dX5_init_10 : decode cX5_init 10 = .ok (.newarray .int, 2) := by decide +kernel
theorem dX5_init_12 : decode cX5_init 12 = .ok (.putfield 13, 3) := by decide +kernel
theorem dX5_init_15 : decode cX5_init 15 = .ok (.return_, 1) := by decide +kernel
theorem dX5_get_0 : decode cX5_get 0 = .ok (.iload_n 1, 1) := by decide +kernel
theorem dX5_get_1 : decode cX5_get 1 = .ok (.ifCond .lt 21, 3) := by decide +kernel
theorem dX5_get_4 : decode cX5_get 4 = .ok (.iload_n 1, 1) := by decide +kernel
theorem dX5_get_5 : decode cX5_get 5 = .ok (.aload_n 0, 1) := by decide +kernel
theorem dX5_get_6 : decode cX5_get 6 = .ok (.getfield 13, 3) := by decide +kernel
theorem dX5_get_9 : decode cX5_get 9 = .ok (.arraylength, 1) := by decide +kernel
theorem dX5_get_10 : decode cX5_get 10 = .ok (.if_icmp .ge 12, 3) := by decide +kernel
theorem dX5_get_13 : decode cX5_get 13 = .ok (.aload_n 0, 1) := by decide +kernel
theorem dX5_get_14 : decode cX5_get 14 = .ok (.getfield 13, 3) := by decide +kernel
theorem dX5_get_17 : decode cX5_get 17 = .ok (.iload_n 1, 1) := by decide +kernel
theorem dX5_get_18 : decode cX5_get 18 = .ok (.iaload, 1) := by decide +kernel
theorem dX5_get_19 : decode cX5_get 19 = .ok (.goto 4, 3) := by decide +kernel
theorem dX5_get_22 : decode cX5_get 22 = .ok (.iconst 0, 1) := by decide +kernel
theorem dX5_get_23 : decode cX5_get 23 = .ok (.ireturn, 1) := by decide +kernel
theorem dX5_set_0 : decode cX5_set 0 = .ok (.iload_n 1, 1) := by decide +kernel
theorem dX5_set_1 : decode cX5_set 1 = .ok (.ifCond .lt 19, 3) := by decide +kernel
theorem dX5_set_4 : decode cX5_set 4 = .ok (.iload_n 1, 1) := by decide +kernel
theorem dX5_set_5 : decode cX5_set 5 = .ok (.aload_n 0, 1) := by decide +kernel
theorem dX5_set_6 : decode cX5_set 6 = .ok (.getfield 13, 3) := by decide +kernel
theorem dX5_set_9 : decode cX5_set 9 = .ok (.arraylength, 1) := by decide +kernel
theorem dX5_set_10 : decode cX5_set 10 = .ok (.if_icmp .ge 10, 3) := by decide +kernel
theorem dX5_set_13 : decode cX5_set 13 = .ok (.aload_n 0, 1) := by decide +kernel
theorem dX5_set_14 : decode cX5_set 14 = .ok (.getfield 13, 3) := by decide +kernel
theorem dX5_set_17 : decode cX5_set 17 = .ok (.iload_n 1, 1) := by decide +kernel
theorem dX5_set_18 : decode cX5_set 18 = .ok (.iload_n 2, 1) := by decide +kernel
theorem dX5_set_19 : decode cX5_set 19 = .ok (.iastore, 1) := by decide +kernel
theorem dX5_set_20 : decode cX5_set 20 = .ok (.return_, 1) := by decide +kernel
theorem dX5_fill_0 : decode cX5_fill 0 = .ok (.iconst 0, 1) := by decide +kernel
theorem dX5_fill_1 : decode cX5_fill 1 = .ok (.istore_n 2, 1) := by decide +kernel
theorem dX5_fill_2 : decode cX5_fill 2 = .ok (.iload_n 2, 1) := by decide +kernel
theorem dX5_fill_3 : decode cX5_fill 3 = .ok (.aload_n 0, 1) := by decide +kernel
theorem dX5_fill_4 : decode cX5_fill 4 = .ok (.getfield 13, 3) := by decide +kernel
theorem dX5_fill_7 : decode cX5_fill 7 = .ok (.arraylength, 1) := by decide +kernel
theorem dX5_fill_8 : decode cX5_fill 8 = .ok (.if_icmp .ge 16, 3) := by decide +kernel
theorem dX5_fill_11 : decode cX5_fill 11 = .ok (.aload_n 0, 1) := by decide +kernel
theorem dX5_fill_12 : decode cX5_fill 12 = .ok (.getfield 13, 3) := by decide +kernel
theorem dX5_fill_15 : decode cX5_fill 15 = .ok (.iload_n 2, 1) := by decide +kernel
theorem dX5_fill_16 : decode cX5_fill 16 = .ok (.iload_n 1, 1) := by decide +kernel
theorem dX5_fill_17 : decode cX5_fill 17 = .ok (.iastore, 1) := by decide +kernel
theorem dX5_fill_18 : decode cX5_fill 18 = .ok (.iinc 2 1, 3) := by decide +kernel
theorem dX5_fill_21 : decode cX5_fill 21 = .ok (.goto (-19), 3) := by decide +kernel
theorem dX5_fill_24 : decode cX5_fill 24 = .ok (.return_, 1) := by decide +kernel
theorem dX5_copy_0 : decode cX5_copy 0 = .ok (.aload_n 1, 1) := by decide +kernel
theorem dX5_copy_1 : decode cX5_copy 1 = .ok (.getfield 13, 3) := by decide +kernel
theorem dX5_copy_4 : decode cX5_copy 4 = .ok (.iconst 0, 1) := by decide +kernel
theorem dX5_copy_5 : decode cX5_copy 5 = .ok (.aload_n 0, 1) := by decide +kernel
theorem dX5_copy_6 : decode cX5_copy 6 = .ok (.getfield 13, 3) := by decide +kernel
theorem dX5_copy_9 : decode cX5_copy 9 = .ok (.iconst 0, 1) := by decide +kernel
theorem dX5_copy_10 : decode cX5_copy 10 = .ok (.aload_n 0, 1) := by decide +kernel
theorem dX5_copy_11 : decode cX5_copy 11 = .ok (.getfield 13, 3) := by decide +kernel
theorem dX5_copy_14 : decode cX5_copy 14 = .ok (.arraylength, 1) := by decide +kernel
theorem dX5_copy_15 : decode cX5_copy 15 = .ok (.aload_n 1, 1) := by decide +kernel
theorem dX5_copy_16 : decode cX5_copy 16 = .ok (.getfield 13, 3) := by decide +kernel
theorem dX5_copy_19 : decode cX5_copy 19 = .ok (.arraylength, 1) := by decide +kernel
theorem dX5_copy_20 : decode cX5_copy 20 = .ok (.invokestatic 19, 3) := by decide +kernel
theorem dX5_copy_23 : decode cX5_copy 23 = .ok (.invokestatic 22, 3) := by decide +kernel
theorem dX5_copy_26 : decode cX5_copy 26 = .ok (.return_, 1) := by decide +kernel
theorem dX5_sum_0 : decode cX5_sum 0 = .ok (.iconst 0, 1) := by decide +kernel
theorem dX5_sum_1 : decode cX5_sum 1 = .ok (.istore_n 1, 1) := by decide +kernel
theorem dX5_sum_2 : decode cX5_sum 2 = .ok (.iconst 0, 1) := by decide +kernel
theorem dX5_sum_3 : decode cX5_sum 3 = .ok (.istore_n 2, 1) := by decide +kernel
theorem dX5_sum_4 : decode cX5_sum 4 = .ok (.iload_n 2, 1) := by decide +kernel
theorem dX5_sum_5 : decode cX5_sum 5 = .ok (.aload_n 0, 1) := by decide +kernel
theorem dX5_sum_6 : decode cX5_sum 6 = .ok (.getfield 13, 3) := by decide +kernel
theorem dX5_sum_9 : decode cX5_sum 9 = .ok (.arraylength, 1) := by decide +kernel
theorem dX5_sum_10 : decode cX5_sum 10 = .ok (.if_icmp .ge 18, 3) := by decide +kernel
theorem dX5_sum_13 : decode cX5_sum 13 = .ok (.iload_n 1, 1) := by decide +kernel
theorem dX5_sum_14 : decode cX5_sum 14 = .ok (.aload_n 0, 1) := by decide +kernel
theorem dX5_sum_15 : decode cX5_sum 15 = .ok (.getfield 13, 3) := by decide +kernel
theorem dX5_sum_18 : decode cX5_sum 18 = .ok (.iload_n 2, 1) := by decide +kernel
theorem dX5_sum_19 : decode cX5_sum 19 = .ok (.iaload, 1) := by decide +kernel
theorem dX5_sum_20 : decode cX5_sum 20 = .ok (.iadd, 1) := by decide +kernel
theorem dX5_sum_21 : decode cX5_sum 21 = .ok (.istore_n 1, 1) := by decide +kernel
theorem dX5_sum_22 : decode cX5_sum 22 = .ok (.iinc 2 1, 3) := by decide +kernel
theorem dX5_sum_25 : decode cX5_sum 25 = .ok (.goto (-21), 3) := by decide +kernel
theorem dX5_sum_28 : decode cX5_sum 28 = .ok (.iload_n 1, 1) := by decide +kernel
theorem dX5_sum_29 : decode cX5_sum 29 = .ok (.ireturn, 1) := by decide +kernel
theorem dX6_init_0 : decode cX6_init 0 = .ok (.aload_n 0, 1) := by decide +kernel
theorem dX6_init_1 : decode cX6_init 1 = .ok (.invokespecial 3, 3) := by decide +kernel
theorem dX6_init_4 : decode cX6_init 4 = .ok (.aload_n 0, 1) := by decide +kernel
theorem dX6_init_5 : decode cX6_init 5 = .ok (.new 9, 3) := by decide +kernel
theorem dX6_init_8 : decode cX6_init 8 = .ok (.dup, 1) := by decide +kernel
theorem dX6_init_9 : decode cX6_init 9 = .ok (.bipush 12, 2) := by decide +kernel
theorem dX6_init_11 : decode cX6_init 11 = .ok (.invokespecial 11, 3) := by decide +kernel
theorem dX6_init_14 : decode cX6_init 14 = .ok (.putfield 14, 3) := by decide +kernel
theorem dX6_init_17 : decode cX6_init 17 = .ok (.aload_n 0, 1) := by decide +kernel
theorem dX6_init_18 : decode cX6_init 18 = .ok (.new 9, 3) := by decide +kernel
theorem dX6_init_21 : decode cX6_init 21 = .ok (.dup, 1) := by decide +kernel
theorem dX6_init_22 : decode cX6_init 22 = .ok (.bipush 12, 2) := by decide +kernel
theorem dX6_init_24 : decode cX6_init 24 = .ok (.invokespecial 11, 3) := by decide +kernel
theorem dX6_init_27 : decode cX6_init 27 = .ok (.putfield 20, 3) := by decide +kernel
theorem dX6_init_30 : decode cX6_init 30 = .ok (.aload_n 0, 1) := by decide +kernel
theorem dX6_init_31 : decode cX6_init 31 = .ok (.new 9, 3) := by decide +kernel
theorem dX6_init_34 : decode cX6_init 34 = .ok (.dup, 1) := by decide +kernel
theorem dX6_init_35 : decode cX6_init 35 = .ok (.bipush 6, 2) := by decide +kernel
theorem dX6_init_37 : decode cX6_init 37 = .ok (.invokespecial 11, 3) := by decide +kernel
theorem dX6_init_40 : decode cX6_init 40 = .ok (.putfield 23, 3) := by decide +kernel
theorem dX6_init_43 : decode cX6_init 43 = .ok (.return_, 1) := by decide +kernel
theorem dX6_apart_0 : decode cX6_apart 0 = .ok (.iload_n 3, 1) := by decide +kernel
theorem dX6_apart_1 : decode cX6_apart 1 = .ok (.aload_n 0, 1) := by decide +kernel
theorem dX6_apart_2 : decode cX6_apart 2 = .ok (.getfield 26, 3) := by decide +kernel
theorem dX6_apart_5 : decode cX6_apart 5 = .ok (.aload_n 1, 1) := by decide +kernel
theorem dX6_apart_6 : decode cX6_apart 6 = .ok (.getfield 31, 3) := by decide +kernel
theorem dX6_apart_9 : decode cX6_apart 9 = .ok (.iload_n 2, 1) := by decide +kernel
theorem dX6_apart_10 : decode cX6_apart 10 = .ok (.invokevirtual 36, 3) := by decide +kernel
theorem dX6_apart_13 : decode cX6_apart 13 = .ok (.invokevirtual 36, 3) := by decide +kernel
theorem dX6_apart_16 : decode cX6_apart 16 = .ok (.isub, 1) := by decide +kernel
theorem dX6_apart_17 : decode cX6_apart 17 = .ok (.invokestatic 40, 3) := by decide +kernel
theorem dX6_apart_20 : decode cX6_apart 20 = .ok (.ireturn, 1) := by decide +kernel
theorem dX6_share_0 : decode cX6_share 0 = .ok (.aload_n 0, 1) := by decide +kernel
theorem dX6_share_1 : decode cX6_share 1 = .ok (.getfield 14, 3) := by decide +kernel
theorem dX6_share_4 : decode cX6_share 4 = .ok (.iconst (-1), 1) := by decide +kernel
theorem dX6_share_5 : decode cX6_share 5 = .ok (.invokevirtual 45, 3) := by decide +kernel
theorem dX6_share_8 : decode cX6_share 8 = .ok (.iconst 0, 1) := by decide +kernel
theorem dX6_share_9 : decode cX6_share 9 = .ok (.istore_n 3, 1) := by decide +kernel
theorem dX6_share_10 : decode cX6_share 10 = .ok (.iload_n 3, 1) := by decide +kernel
theorem dX6_share_11 : decode cX6_share 11 = .ok (.aload_n 2, 1) := by decide +kernel
theorem dX6_share_12 : decode cX6_share 12 = .ok (.getfield 48, 3) := by decide +kernel
theorem dX6_share_15 : decode cX6_share 15 = .ok (.if_icmp .ge 39, 3) := by decide +kernel
theorem dX6_share_18 : decode cX6_share 18 = .ok (.aload_n 0, 1) := by decide +kernel
theorem dX6_share_19 : decode cX6_share 19 = .ok (.aload_n 2, 1) := by decide +kernel
theorem dX6_share_20 : decode cX6_share 20 = .ok (.getfield 48, 3) := by decide +kernel
theorem dX6_share_23 : decode cX6_share 23 = .ok (.invokevirtual 52, 3) := by decide +kernel
theorem dX6_share_26 : decode cX6_share 26 = .ok (.istore 4, 2) := by decide +kernel
theorem dX6_share_28 : decode cX6_share 28 = .ok (.iload 4, 2) := by decide +kernel
theorem dX6_share_30 : decode cX6_share 30 = .ok (.iconst (-1), 1) := by decide +kernel
theorem dX6_share_31 : decode cX6_share 31 = .ok (.if_icmp .ne 4, 3) := by decide +kernel
theorem dX6_share_34 : decode cX6_share 34 = .ok (.return_, 1) := by decide +kernel
theorem dX6_share_35 : decode cX6_share 35 = .ok (.aload_n 0, 1) := by decide +kernel
theorem dX6_share_36 : decode cX6_share 36 = .ok (.aload_n 1, 1) := by decide +kernel
theorem dX6_share_37 : decode cX6_share 37 = .ok (.aload_n 2, 1) := by decide +kernel
theorem dX6_share_38 : decode cX6_share 38 = .ok (.invokevirtual 55, 3) := by decide +kernel
theorem dX6_share_41 : decode cX6_share 41 = .ok (.aload_n 0, 1) := by decide +kernel
theorem dX6_share_42 : decode cX6_share 42 = .ok (.aload_n 2, 1) := by decide +kernel
theorem dX6_share_43 : decode cX6_share 43 = .ok (.iload 4, 2) := by decide +kernel
theorem dX6_share_45 : decode cX6_share 45 = .ok (.invokevirtual 59, 3) := by decide +kernel
theorem dX6_share_48 : decode cX6_share 48 = .ok (.iinc 3 1, 3) := by decide +kernel
theorem dX6_share_51 : decode cX6_share 51 = .ok (.goto (-41), 3) := by decide +kernel
theorem dX6_share_54 : decode cX6_share 54 = .ok (.return_, 1) := by decide +kernel
theorem dX6_firstLeft_0 : decode cX6_firstLeft 0 = .ok (.iconst 0, 1) := by decide +kernel
theorem dX6_firstLeft_1 : decode cX6_firstLeft 1 = .ok (.istore_n 2, 1) := by decide +kernel
theorem dX6_firstLeft_2 : decode cX6_firstLeft 2 = .ok (.iload_n 2, 1) := by decide +kernel
theorem dX6_firstLeft_3 : decode cX6_firstLeft 3 = .ok (.iload_n 1, 1) := by decide +kernel
theorem dX6_firstLeft_4 : decode cX6_firstLeft 4 = .ok (.if_icmp .ge 23, 3) := by decide +kernel
theorem dX6_firstLeft_7 : decode cX6_firstLeft 7 = .ok (.aload_n 0, 1) := by decide +kernel
theorem dX6_firstLeft_8 : decode cX6_firstLeft 8 = .ok (.getfield 14, 3) := by decide +kernel
theorem dX6_firstLeft_11 : decode cX6_firstLeft 11 = .ok (.iload_n 2, 1) := by decide +kernel
theorem dX6_firstLeft_12 : decode cX6_firstLeft 12 = .ok (.invokevirtual 36, 3) := by decide +kernel
theorem dX6_firstLeft_15 : decode cX6_firstLeft 15 = .ok (.iconst (-1), 1) := by decide +kernel
theorem dX6_firstLeft_16 : decode cX6_firstLeft 16 = .ok (.if_icmp .ne 5, 3) := by decide +kernel
theorem dX6_firstLeft_19 : decode cX6_firstLeft 19 = .ok (.iload_n 2, 1) := by decide +kernel
theorem dX6_firstLeft_20 : decode cX6_firstLeft 20 = .ok (.ireturn, 1) := by decide +kernel
theorem dX6_firstLeft_21 : decode cX6_firstLeft 21 = .ok (.iinc 2 1, 3) := by decide +kernel
theorem dX6_firstLeft_24 : decode cX6_firstLeft 24 = .ok (.goto (-22), 3) := by decide +kernel
theorem dX6_firstLeft_27 : decode cX6_firstLeft 27 = .ok (.iconst (-1), 1) := by decide +kernel
theorem dX6_firstLeft_28 : decode cX6_firstLeft 28 = .ok (.ireturn, 1) := by decide +kernel
theorem dX6_wish_0 : decode cX6_wish 0 = .ok (.iconst 0, 1) := by decide +kernel
theorem dX6_wish_1 : decode cX6_wish 1 = .ok (.istore_n 3, 1) := by decide +kernel
theorem dX6_wish_2 : decode cX6_wish 2 = .ok (.iload_n 3, 1) := by decide +kernel
theorem dX6_wish_3 : decode cX6_wish 3 = .ok (.aload_n 2, 1) := by decide +kernel
theorem dX6_wish_4 : decode cX6_wish 4 = .ok (.getfield 48, 3) := by decide +kernel
theorem dX6_wish_7 : decode cX6_wish 7 = .ok (.if_icmp .ge 94, 3) := by decide +kernel
theorem dX6_wish_10 : decode cX6_wish 10 = .ok (.iconst (-1), 1) := by decide +kernel
theorem dX6_wish_11 : decode cX6_wish 11 = .ok (.istore 4, 2) := by decide +kernel
theorem dX6_wish_13 : decode cX6_wish 13 = .ok (.iconst 0, 1) := by decide +kernel
theorem dX6_wish_14 : decode cX6_wish 14 = .ok (.istore 5, 2) := by decide +kernel
theorem dX6_wish_16 : decode cX6_wish 16 = .ok (.iload 5, 2) := by decide +kernel
theorem dX6_wish_18 : decode cX6_wish 18 = .ok (.aload_n 2, 1) := by decide +kernel
theorem dX6_wish_19 : decode cX6_wish 19 = .ok (.getfield 48, 3) := by decide +kernel
theorem dX6_wish_22 : decode cX6_wish 22 = .ok (.if_icmp .ge 63, 3) := by decide +kernel
theorem dX6_wish_25 : decode cX6_wish 25 = .ok (.iload 4, 2) := by decide +kernel
theorem dX6_wish_27 : decode cX6_wish 27 = .ok (.iconst (-1), 1) := by decide +kernel
theorem dX6_wish_28 : decode cX6_wish 28 = .ok (.if_icmp .eq 22, 3) := by decide +kernel
theorem dX6_wish_31 : decode cX6_wish 31 = .ok (.aload_n 1, 1) := by decide +kernel
theorem dX6_wish_32 : decode cX6_wish 32 = .ok (.aload_n 2, 1) := by decide +kernel
theorem dX6_wish_33 : decode cX6_wish 33 = .ok (.iload_n 3, 1) := by decide +kernel
theorem dX6_wish_34 : decode cX6_wish 34 = .ok (.iload 5, 2) := by decide +kernel
theorem dX6_wish_36 : decode cX6_wish 36 = .ok (.invokestatic 63, 3) := by decide +kernel
theorem dX6_wish_39 : decode cX6_wish 39 = .ok (.aload_n 1, 1) := by decide +kernel
theorem dX6_wish_40 : decode cX6_wish 40 = .ok (.aload_n 2, 1) := by decide +kernel
theorem dX6_wish_41 : decode cX6_wish 41 = .ok (.iload_n 3, 1) := by decide +kernel
theorem dX6_wish_42 : decode cX6_wish 42 = .ok (.iload 4, 2) := by decide +kernel
theorem dX6_wish_44 : decode cX6_wish 44 = .ok (.invokestatic 63, 3) := by decide +kernel
theorem dX6_wish_47 : decode cX6_wish 47 = .ok (.if_icmp .ge 7, 3) := by decide +kernel
theorem dX6_wish_50 : decode cX6_wish 50 = .ok (.iconst 1, 1) := by decide +kernel
theorem dX6_wish_51 : decode cX6_wish 51 = .ok (.goto 4, 3) := by decide +kernel
theorem dX6_wish_54 : decode cX6_wish 54 = .ok (.iconst 0, 1) := by decide +kernel
theorem dX6_wish_55 : decode cX6_wish 55 = .ok (.istore 6, 2) := by decide +kernel
theorem dX6_wish_57 : decode cX6_wish 57 = .ok (.iload 6, 2) := by decide +kernel
theorem dX6_wish_59 : decode cX6_wish 59 = .ok (.ifCond .eq 20, 3) := by decide +kernel
theorem dX6_wish_62 : decode cX6_wish 62 = .ok (.aload_n 0, 1) := by decide +kernel
theorem dX6_wish_63 : decode cX6_wish 63 = .ok (.getfield 14, 3) := by decide +kernel
theorem dX6_wish_66 : decode cX6_wish 66 = .ok (.iload 5, 2) := by decide +kernel
theorem dX6_wish_68 : decode cX6_wish 68 = .ok (.invokevirtual 36, 3) := by decide +kernel
theorem dX6_wish_71 : decode cX6_wish 71 = .ok (.iconst (-1), 1) := by decide +kernel
theorem dX6_wish_72 : decode cX6_wish 72 = .ok (.if_icmp .ne 7, 3) := by decide +kernel
theorem dX6_wish_75 : decode cX6_wish 75 = .ok (.iload 5, 2) := by decide +kernel
theorem dX6_wish_77 : decode cX6_wish 77 = .ok (.istore 4, 2) := by decide +kernel
theorem dX6_wish_79 : decode cX6_wish 79 = .ok (.iinc 5 1, 3) := by decide +kernel
theorem dX6_wish_82 : decode cX6_wish 82 = .ok (.goto (-66), 3) := by decide +kernel
theorem dX6_wish_85 : decode cX6_wish 85 = .ok (.aload_n 0, 1) := by decide +kernel
theorem dX6_wish_86 : decode cX6_wish 86 = .ok (.getfield 20, 3) := by decide +kernel
theorem dX6_wish_89 : decode cX6_wish 89 = .ok (.iload_n 3, 1) := by decide +kernel
theorem dX6_wish_90 : decode cX6_wish 90 = .ok (.iload 4, 2) := by decide +kernel
theorem dX6_wish_92 : decode cX6_wish 92 = .ok (.invokevirtual 67, 3) := by decide +kernel
theorem dX6_wish_95 : decode cX6_wish 95 = .ok (.iinc 3 1, 3) := by decide +kernel
theorem dX6_wish_98 : decode cX6_wish 98 = .ok (.goto (-96), 3) := by decide +kernel
theorem dX6_wish_101 : decode cX6_wish 101 = .ok (.return_, 1) := by decide +kernel
theorem dX6_closeRing_0 : decode cX6_closeRing 0 = .ok (.iload_n 2, 1) := by decide +kernel
theorem dX6_closeRing_1 : decode cX6_closeRing 1 = .ok (.istore_n 3, 1) := by decide +kernel
theorem dX6_closeRing_2 : decode cX6_closeRing 2 = .ok (.iconst 0, 1) := by decide +kernel
theorem dX6_closeRing_3 : decode cX6_closeRing 3 = .ok (.istore 4, 2) := by decide +kernel
theorem dX6_closeRing_5 : decode cX6_closeRing 5 = .ok (.iload 4, 2) := by decide +kernel
theorem dX6_closeRing_7 : decode cX6_closeRing 7 = .ok (.aload_n 1, 1) := by decide +kernel
theorem dX6_closeRing_8 : decode cX6_closeRing 8 = .ok (.getfield 48, 3) := by decide +kernel
theorem dX6_closeRing_11 : decode cX6_closeRing 11 = .ok (.if_icmp .ge 18, 3) := by decide +kernel
theorem dX6_closeRing_14 : decode cX6_closeRing 14 = .ok (.aload_n 0, 1) := by decide +kernel
theorem dX6_closeRing_15 : decode cX6_closeRing 15 = .ok (.getfield 20, 3) := by decide +kernel
theorem dX6_closeRing_18 : decode cX6_closeRing 18 = .ok (.iload_n 3, 1) := by decide +kernel
theorem dX6_closeRing_19 : decode cX6_closeRing 19 = .ok (.invokevirtual 36, 3) := by decide +kernel
theorem dX6_closeRing_22 : decode cX6_closeRing 22 = .ok (.istore_n 3, 1) := by decide +kernel
theorem dX6_closeRing_23 : decode cX6_closeRing 23 = .ok (.iinc 4 1, 3) := by decide +kernel
theorem dX6_closeRing_26 : decode cX6_closeRing 26 = .ok (.goto (-21), 3) := by decide +kernel
theorem dX6_closeRing_29 : decode cX6_closeRing 29 = .ok (.iconst 0, 1) := by decide +kernel
theorem dX6_closeRing_30 : decode cX6_closeRing 30 = .ok (.istore 4, 2) := by decide +kernel
theorem dX6_closeRing_32 : decode cX6_closeRing 32 = .ok (.iload 4, 2) := by decide +kernel
theorem dX6_closeRing_34 : decode cX6_closeRing 34 = .ok (.aload_n 1, 1) := by decide +kernel
theorem dX6_closeRing_35 : decode cX6_closeRing 35 = .ok (.getfield 48, 3) := by decide +kernel
theorem dX6_closeRing_38 : decode cX6_closeRing 38 = .ok (.if_icmp .ge 60, 3) := by decide +kernel
theorem dX6_closeRing_41 : decode cX6_closeRing 41 = .ok (.aload_n 0, 1) := by decide +kernel
theorem dX6_closeRing_42 : decode cX6_closeRing 42 = .ok (.getfield 14, 3) := by decide +kernel
theorem dX6_closeRing_45 : decode cX6_closeRing 45 = .ok (.aload_n 0, 1) := by decide +kernel
theorem dX6_closeRing_46 : decode cX6_closeRing 46 = .ok (.getfield 20, 3) := by decide +kernel
theorem dX6_closeRing_49 : decode cX6_closeRing 49 = .ok (.iload_n 3, 1) := by decide +kernel
theorem dX6_closeRing_50 : decode cX6_closeRing 50 = .ok (.invokevirtual 36, 3) := by decide +kernel
theorem dX6_closeRing_53 : decode cX6_closeRing 53 = .ok (.invokevirtual 36, 3) := by decide +kernel
theorem dX6_closeRing_56 : decode cX6_closeRing 56 = .ok (.iconst (-1), 1) := by decide +kernel
theorem dX6_closeRing_57 : decode cX6_closeRing 57 = .ok (.if_icmp .ne 41, 3) := by decide +kernel
theorem dX6_closeRing_60 : decode cX6_closeRing 60 = .ok (.aload_n 0, 1) := by decide +kernel
theorem dX6_closeRing_61 : decode cX6_closeRing 61 = .ok (.getfield 14, 3) := by decide +kernel
theorem dX6_closeRing_64 : decode cX6_closeRing 64 = .ok (.aload_n 0, 1) := by decide +kernel
theorem dX6_closeRing_65 : decode cX6_closeRing 65 = .ok (.getfield 20, 3) := by decide +kernel
theorem dX6_closeRing_68 : decode cX6_closeRing 68 = .ok (.iload_n 3, 1) := by decide +kernel
theorem dX6_closeRing_69 : decode cX6_closeRing 69 = .ok (.invokevirtual 36, 3) := by decide +kernel
theorem dX6_closeRing_72 : decode cX6_closeRing 72 = .ok (.aload_n 1, 1) := by decide +kernel
theorem dX6_closeRing_73 : decode cX6_closeRing 73 = .ok (.getfield 31, 3) := by decide +kernel
theorem dX6_closeRing_76 : decode cX6_closeRing 76 = .ok (.iload_n 3, 1) := by decide +kernel
theorem dX6_closeRing_77 : decode cX6_closeRing 77 = .ok (.invokevirtual 36, 3) := by decide +kernel
theorem dX6_closeRing_80 : decode cX6_closeRing 80 = .ok (.invokevirtual 67, 3) := by decide +kernel
theorem dX6_closeRing_83 : decode cX6_closeRing 83 = .ok (.aload_n 0, 1) := by decide +kernel
theorem dX6_closeRing_84 : decode cX6_closeRing 84 = .ok (.getfield 20, 3) := by decide +kernel
theorem dX6_closeRing_87 : decode cX6_closeRing 87 = .ok (.iload_n 3, 1) := by decide +kernel
theorem dX6_closeRing_88 : decode cX6_closeRing 88 = .ok (.invokevirtual 36, 3) := by decide +kernel
theorem dX6_closeRing_91 : decode cX6_closeRing 91 = .ok (.istore_n 3, 1) := by decide +kernel
theorem dX6_closeRing_92 : decode cX6_closeRing 92 = .ok (.iinc 4 1, 3) := by decide +kernel
theorem dX6_closeRing_95 : decode cX6_closeRing 95 = .ok (.goto (-63), 3) := by decide +kernel
theorem dX6_closeRing_98 : decode cX6_closeRing 98 = .ok (.return_, 1) := by decide +kernel
theorem dX6_changers_0 : decode cX6_changers 0 = .ok (.iconst 0, 1) := by decide +kernel
theorem dX6_changers_1 : decode cX6_changers 1 = .ok (.istore_n 3, 1) := by decide +kernel
theorem dX6_changers_2 : decode cX6_changers 2 = .ok (.iconst 0, 1) := by decide +kernel
theorem dX6_changers_3 : decode cX6_changers 3 = .ok (.istore 4, 2) := by decide +kernel
theorem dX6_changers_5 : decode cX6_changers 5 = .ok (.iload 4, 2) := by decide +kernel
theorem dX6_changers_7 : decode cX6_changers 7 = .ok (.aload_n 2, 1) := by decide +kernel
theorem dX6_changers_8 : decode cX6_changers 8 = .ok (.getfield 48, 3) := by decide +kernel
theorem dX6_changers_11 : decode cX6_changers 11 = .ok (.if_icmp .ge 99, 3) := by decide +kernel
theorem dX6_changers_14 : decode cX6_changers 14 = .ok (.iload 4, 2) := by decide +kernel
theorem dX6_changers_16 : decode cX6_changers 16 = .ok (.iconst 1, 1) := by decide +kernel
theorem dX6_changers_17 : decode cX6_changers 17 = .ok (.iadd, 1) := by decide +kernel
theorem dX6_changers_18 : decode cX6_changers 18 = .ok (.istore 5, 2) := by decide +kernel
theorem dX6_changers_20 : decode cX6_changers 20 = .ok (.iload 5, 2) := by decide +kernel
theorem dX6_changers_22 : decode cX6_changers 22 = .ok (.aload_n 2, 1) := by decide +kernel
theorem dX6_changers_23 : decode cX6_changers 23 = .ok (.getfield 48, 3) := by decide +kernel
theorem dX6_changers_26 : decode cX6_changers 26 = .ok (.if_icmp .ge 78, 3) := by decide +kernel
theorem dX6_changers_29 : decode cX6_changers 29 = .ok (.aload_n 1, 1) := by decide +kernel
theorem dX6_changers_30 : decode cX6_changers 30 = .ok (.aload_n 2, 1) := by decide +kernel
theorem dX6_changers_31 : decode cX6_changers 31 = .ok (.iload 4, 2) := by decide +kernel
theorem dX6_changers_33 : decode cX6_changers 33 = .ok (.iload 5, 2) := by decide +kernel
theorem dX6_changers_35 : decode cX6_changers 35 = .ok (.invokestatic 63, 3) := by decide +kernel
theorem dX6_changers_38 : decode cX6_changers 38 = .ok (.aload_n 1, 1) := by decide +kernel
theorem dX6_changers_39 : decode cX6_changers 39 = .ok (.aload_n 2, 1) := by decide +kernel
theorem dX6_changers_40 : decode cX6_changers 40 = .ok (.iload 4, 2) := by decide +kernel
theorem dX6_changers_42 : decode cX6_changers 42 = .ok (.iload 4, 2) := by decide +kernel
theorem dX6_changers_44 : decode cX6_changers 44 = .ok (.invokestatic 63, 3) := by decide +kernel
theorem dX6_changers_47 : decode cX6_changers 47 = .ok (.if_icmp .ge 7, 3) := by decide +kernel
theorem dX6_changers_50 : decode cX6_changers 50 = .ok (.iconst 1, 1) := by decide +kernel
theorem dX6_changers_51 : decode cX6_changers 51 = .ok (.goto 4, 3) := by decide +kernel
theorem dX6_changers_54 : decode cX6_changers 54 = .ok (.iconst 0, 1) := by decide +kernel
theorem dX6_changers_55 : decode cX6_changers 55 = .ok (.istore 6, 2) := by decide +kernel
theorem dX6_changers_57 : decode cX6_changers 57 = .ok (.aload_n 1, 1) := by decide +kernel
theorem dX6_changers_58 : decode cX6_changers 58 = .ok (.aload_n 2, 1) := by decide +kernel
theorem dX6_changers_59 : decode cX6_changers 59 = .ok (.iload 5, 2) := by decide +kernel
theorem dX6_changers_61 : decode cX6_changers 61 = .ok (.iload 4, 2) := by decide +kernel
theorem dX6_changers_63 : decode cX6_changers 63 = .ok (.invokestatic 63, 3) := by decide +kernel
theorem dX6_changers_66 : decode cX6_changers 66 = .ok (.aload_n 1, 1) := by decide +kernel
theorem dX6_changers_67 : decode cX6_changers 67 = .ok (.aload_n 2, 1) := by decide +kernel
theorem dX6_changers_68 : decode cX6_changers 68 = .ok (.iload 5, 2) := by decide +kernel
theorem dX6_changers_70 : decode cX6_changers 70 = .ok (.iload 5, 2) := by decide +kernel
theorem dX6_changers_72 : decode cX6_changers 72 = .ok (.invokestatic 63, 3) := by decide +kernel
theorem dX6_changers_75 : decode cX6_changers 75 = .ok (.if_icmp .ge 7, 3) := by decide +kernel
theorem dX6_changers_78 : decode cX6_changers 78 = .ok (.iconst 1, 1) := by decide +kernel
theorem dX6_changers_79 : decode cX6_changers 79 = .ok (.goto 4, 3) := by decide +kernel
theorem dX6_changers_82 : decode cX6_changers 82 = .ok (.iconst 0, 1) := by decide +kernel
theorem dX6_changers_83 : decode cX6_changers 83 = .ok (.istore 7, 2) := by decide +kernel
theorem dX6_changers_85 : decode cX6_changers 85 = .ok (.iload 6, 2) := by decide +kernel
theorem dX6_changers_87 : decode cX6_changers 87 = .ok (.ifCond .eq 11, 3) := by decide +kernel
theorem dX6_changers_90 : decode cX6_changers 90 = .ok (.iload 7, 2) := by decide +kernel
theorem dX6_changers_92 : decode cX6_changers 92 = .ok (.ifCond .eq 6, 3) := by decide +kernel
theorem dX6_changers_95 : decode cX6_changers 95 = .ok (.iinc 3 1, 3) := by decide +kernel
theorem dX6_changers_98 : decode cX6_changers 98 = .ok (.iinc 5 1, 3) := by decide +kernel
theorem dX6_changers_101 : decode cX6_changers 101 = .ok (.goto (-81), 3) := by decide +kernel
theorem dX6_changers_104 : decode cX6_changers 104 = .ok (.iinc 4 1, 3) := by decide +kernel
theorem dX6_changers_107 : decode cX6_changers 107 = .ok (.goto (-102), 3) := by decide +kernel
theorem dX6_changers_110 : decode cX6_changers 110 = .ok (.iload_n 3, 1) := by decide +kernel
theorem dX6_changers_111 : decode cX6_changers 111 = .ok (.ireturn, 1) := by decide +kernel
theorem dX6_weigh_0 : decode cX6_weigh 0 = .ok (.iconst 0, 1) := by decide +kernel
theorem dX6_weigh_1 : decode cX6_weigh 1 = .ok (.istore_n 3, 1) := by decide +kernel
theorem dX6_weigh_2 : decode cX6_weigh 2 = .ok (.iload_n 3, 1) := by decide +kernel
theorem dX6_weigh_3 : decode cX6_weigh 3 = .ok (.aload_n 1, 1) := by decide +kernel
theorem dX6_weigh_4 : decode cX6_weigh 4 = .ok (.getfield 71, 3) := by decide +kernel
theorem dX6_weigh_7 : decode cX6_weigh 7 = .ok (.if_icmp .ge 22, 3) := by decide +kernel
theorem dX6_weigh_10 : decode cX6_weigh 10 = .ok (.aload_n 0, 1) := by decide +kernel
theorem dX6_weigh_11 : decode cX6_weigh 11 = .ok (.getfield 23, 3) := by decide +kernel
theorem dX6_weigh_14 : decode cX6_weigh 14 = .ok (.iload_n 3, 1) := by decide +kernel
theorem dX6_weigh_15 : decode cX6_weigh 15 = .ok (.aload_n 2, 1) := by decide +kernel
theorem dX6_weigh_16 : decode cX6_weigh 16 = .ok (.iload_n 3, 1) := by decide +kernel
theorem dX6_weigh_17 : decode cX6_weigh 17 = .ok (.invokevirtual 74, 3) := by decide +kernel
theorem dX6_weigh_20 : decode cX6_weigh 20 = .ok (.invokevirtual 67, 3) := by decide +kernel
theorem dX6_weigh_23 : decode cX6_weigh 23 = .ok (.iinc 3 1, 3) := by decide +kernel
theorem dX6_weigh_26 : decode cX6_weigh 26 = .ok (.goto (-24), 3) := by decide +kernel
theorem dX6_weigh_29 : decode cX6_weigh 29 = .ok (.return_, 1) := by decide +kernel
theorem dX6_weightOf_0 : decode cX6_weightOf 0 = .ok (.iconst 0, 1) := by decide +kernel
theorem dX6_weightOf_1 : decode cX6_weightOf 1 = .ok (.istore_n 2, 1) := by decide +kernel
theorem dX6_weightOf_2 : decode cX6_weightOf 2 = .ok (.iconst 0, 1) := by decide +kernel
theorem dX6_weightOf_3 : decode cX6_weightOf 3 = .ok (.istore_n 3, 1) := by decide +kernel
theorem dX6_weightOf_4 : decode cX6_weightOf 4 = .ok (.iload_n 3, 1) := by decide +kernel
theorem dX6_weightOf_5 : decode cX6_weightOf 5 = .ok (.bipush 6, 2) := by decide +kernel
theorem dX6_weightOf_7 : decode cX6_weightOf 7 = .ok (.if_icmp .ge 33, 3) := by decide +kernel
theorem dX6_weightOf_10 : decode cX6_weightOf 10 = .ok (.iload_n 2, 1) := by decide +kernel
theorem dX6_weightOf_11 : decode cX6_weightOf 11 = .ok (.iload_n 1, 1) := by decide +kernel
theorem dX6_weightOf_12 : decode cX6_weightOf 12 = .ok (.iload_n 3, 1) := by decide +kernel
theorem dX6_weightOf_13 : decode cX6_weightOf 13 = .ok (.ishr, 1) := by decide +kernel
theorem dX6_weightOf_14 : decode cX6_weightOf 14 = .ok (.iconst 1, 1) := by decide +kernel
theorem dX6_weightOf_15 : decode cX6_weightOf 15 = .ok (.iand, 1) := by decide +kernel
theorem dX6_weightOf_16 : decode cX6_weightOf 16 = .ok (.iconst 1, 1) := by decide +kernel
theorem dX6_weightOf_17 : decode cX6_weightOf 17 = .ok (.if_icmp .ne 14, 3) := by decide +kernel
theorem dX6_weightOf_20 : decode cX6_weightOf 20 = .ok (.aload_n 0, 1) := by decide +kernel
theorem dX6_weightOf_21 : decode cX6_weightOf 21 = .ok (.getfield 23, 3) := by decide +kernel
theorem dX6_weightOf_24 : decode cX6_weightOf 24 = .ok (.iload_n 3, 1) := by decide +kernel
theorem dX6_weightOf_25 : decode cX6_weightOf 25 = .ok (.invokevirtual 36, 3) := by decide +kernel
theorem dX6_weightOf_28 : decode cX6_weightOf 28 = .ok (.goto 4, 3) := by decide +kernel
theorem dX6_weightOf_31 : decode cX6_weightOf 31 = .ok (.iconst 0, 1) := by decide +kernel
theorem dX6_weightOf_32 : decode cX6_weightOf 32 = .ok (.iadd, 1) := by decide +kernel
theorem dX6_weightOf_33 : decode cX6_weightOf 33 = .ok (.istore_n 2, 1) := by decide +kernel
theorem dX6_weightOf_34 : decode cX6_weightOf 34 = .ok (.iinc 3 1, 3) := by decide +kernel
theorem dX6_weightOf_37 : decode cX6_weightOf 37 = .ok (.goto (-33), 3) := by decide +kernel
theorem dX6_weightOf_40 : decode cX6_weightOf 40 = .ok (.iload_n 2, 1) := by decide +kernel
theorem dX6_weightOf_41 : decode cX6_weightOf 41 = .ok (.ireturn, 1) := by decide +kernel
theorem dX6_decides_0 : decode cX6_decides 0 = .ok (.iconst 0, 1) := by decide +kernel
theorem dX6_decides_1 : decode cX6_decides 1 = .ok (.istore 4, 2) := by decide +kernel
theorem dX6_decides_3 : decode cX6_decides 3 = .ok (.iconst 0, 1) := by decide +kernel
theorem dX6_decides_4 : decode cX6_decides 4 = .ok (.istore 5, 2) := by decide +kernel
theorem dX6_decides_6 : decode cX6_decides 6 = .ok (.iload 5, 2) := by decide +kernel
theorem dX6_decides_8 : decode cX6_decides 8 = .ok (.iconst 1, 1) := by decide +kernel
theorem dX6_decides_9 : decode cX6_decides 9 = .ok (.iload_n 2, 1) := by decide +kernel
theorem dX6_decides_10 : decode cX6_decides 10 = .ok (.ishl, 1) := by decide +kernel
theorem dX6_decides_11 : decode cX6_decides 11 = .ok (.if_icmp .ge 67, 3) := by decide +kernel
theorem dX6_decides_14 : decode cX6_decides 14 = .ok (.aload_n 0, 1) := by decide +kernel
theorem dX6_decides_15 : decode cX6_decides 15 = .ok (.iload 5, 2) := by decide +kernel
theorem dX6_decides_17 : decode cX6_decides 17 = .ok (.invokevirtual 77, 3) := by decide +kernel
theorem dX6_decides_20 : decode cX6_decides 20 = .ok (.istore 6, 2) := by decide +kernel
theorem dX6_decides_22 : decode cX6_decides 22 = .ok (.iload 5, 2) := by decide +kernel
theorem dX6_decides_24 : decode cX6_decides 24 = .ok (.iload_n 1, 1) := by decide +kernel
theorem dX6_decides_25 : decode cX6_decides 25 = .ok (.ishr, 1) := by decide +kernel
theorem dX6_decides_26 : decode cX6_decides 26 = .ok (.iconst 1, 1) := by decide +kernel
theorem dX6_decides_27 : decode cX6_decides 27 = .ok (.iand, 1) := by decide +kernel
theorem dX6_decides_28 : decode cX6_decides 28 = .ok (.iconst 1, 1) := by decide +kernel
theorem dX6_decides_29 : decode cX6_decides 29 = .ok (.if_icmp .ne 7, 3) := by decide +kernel
theorem dX6_decides_32 : decode cX6_decides 32 = .ok (.iconst 1, 1) := by decide +kernel
theorem dX6_decides_33 : decode cX6_decides 33 = .ok (.goto 4, 3) := by decide +kernel
theorem dX6_decides_36 : decode cX6_decides 36 = .ok (.iconst 0, 1) := by decide +kernel
theorem dX6_decides_37 : decode cX6_decides 37 = .ok (.istore 7, 2) := by decide +kernel
theorem dX6_decides_39 : decode cX6_decides 39 = .ok (.iload 7, 2) := by decide +kernel
theorem dX6_decides_41 : decode cX6_decides 41 = .ok (.ifCond .eq 31, 3) := by decide +kernel
theorem dX6_decides_44 : decode cX6_decides 44 = .ok (.iconst 2, 1) := by decide +kernel
theorem dX6_decides_45 : decode cX6_decides 45 = .ok (.iload 6, 2) := by decide +kernel
theorem dX6_decides_47 : decode cX6_decides 47 = .ok (.imul, 1) := by decide +kernel
theorem dX6_decides_48 : decode cX6_decides 48 = .ok (.iload_n 3, 1) := by decide +kernel
theorem dX6_decides_49 : decode cX6_decides 49 = .ok (.if_icmp .le 23, 3) := by decide +kernel
theorem dX6_decides_52 : decode cX6_decides 52 = .ok (.iconst 2, 1) := by decide +kernel
theorem dX6_decides_53 : decode cX6_decides 53 = .ok (.iload 6, 2) := by decide +kernel
theorem dX6_decides_55 : decode cX6_decides 55 = .ok (.aload_n 0, 1) := by decide +kernel
theorem dX6_decides_56 : decode cX6_decides 56 = .ok (.getfield 23, 3) := by decide +kernel
theorem dX6_decides_59 : decode cX6_decides 59 = .ok (.iload_n 1, 1) := by decide +kernel
theorem dX6_decides_60 : decode cX6_decides 60 = .ok (.invokevirtual 36, 3) := by decide +kernel
theorem dX6_decides_63 : decode cX6_decides 63 = .ok (.isub, 1) := by decide +kernel
theorem dX6_decides_64 : decode cX6_decides 64 = .ok (.imul, 1) := by decide +kernel
theorem dX6_decides_65 : decode cX6_decides 65 = .ok (.iload_n 3, 1) := by decide +kernel
theorem dX6_decides_66 : decode cX6_decides 66 = .ok (.if_icmp .gt 6, 3) := by decide +kernel
theorem dX6_decides_69 : decode cX6_decides 69 = .ok (.iinc 4 1, 3) := by decide +kernel
theorem dX6_decides_72 : decode cX6_decides 72 = .ok (.iinc 5 1, 3) := by decide +kernel
theorem dX6_decides_75 : decode cX6_decides 75 = .ok (.goto (-69), 3) := by decide +kernel
theorem dX6_decides_78 : decode cX6_decides 78 = .ok (.iload 4, 2) := by decide +kernel
theorem dX6_decides_80 : decode cX6_decides 80 = .ok (.ireturn, 1) := by decide +kernel
theorem dX6_canHalve_0 : decode cX6_canHalve 0 = .ok (.aload_n 0, 1) := by decide +kernel
theorem dX6_canHalve_1 : decode cX6_canHalve 1 = .ok (.iload_n 1, 1) := by decide +kernel
theorem dX6_canHalve_2 : decode cX6_canHalve 2 = .ok (.invokevirtual 77, 3) := by decide +kernel
theorem dX6_canHalve_5 : decode cX6_canHalve 5 = .ok (.istore_n 2, 1) := by decide +kernel
theorem dX6_canHalve_6 : decode cX6_canHalve 6 = .ok (.iconst 0, 1) := by decide +kernel
theorem dX6_canHalve_7 : decode cX6_canHalve 7 = .ok (.istore_n 3, 1) := by decide +kernel
theorem dX6_canHalve_8 : decode cX6_canHalve 8 = .ok (.iload_n 3, 1) := by decide +kernel
theorem dX6_canHalve_9 : decode cX6_canHalve 9 = .ok (.iload_n 1, 1) := by decide +kernel
theorem dX6_canHalve_10 : decode cX6_canHalve 10 = .ok (.if_icmp .gt 30, 3) := by decide +kernel
theorem dX6_canHalve_13 : decode cX6_canHalve 13 = .ok (.iload_n 3, 1) := by decide +kernel
theorem dX6_canHalve_14 : decode cX6_canHalve 14 = .ok (.iload_n 1, 1) := by decide +kernel
theorem dX6_canHalve_15 : decode cX6_canHalve 15 = .ok (.iconst (-1), 1) := by decide +kernel
theorem dX6_canHalve_16 : decode cX6_canHalve 16 = .ok (.ixor, 1) := by decide +kernel
theorem dX6_canHalve_17 : decode cX6_canHalve 17 = .ok (.iand, 1) := by decide +kernel
theorem dX6_canHalve_18 : decode cX6_canHalve 18 = .ok (.ifCond .ne 16, 3) := by decide +kernel
theorem dX6_canHalve_21 : decode cX6_canHalve 21 = .ok (.iconst 2, 1) := by decide +kernel
theorem dX6_canHalve_22 : decode cX6_canHalve 22 = .ok (.aload_n 0, 1) := by decide +kernel
theorem dX6_canHalve_23 : decode cX6_canHalve 23 = .ok (.iload_n 3, 1) := by decide +kernel
theorem dX6_canHalve_24 : decode cX6_canHalve 24 = .ok (.invokevirtual 77, 3) := by decide +kernel
theorem dX6_canHalve_27 : decode cX6_canHalve 27 = .ok (.imul, 1) := by decide +kernel
theorem dX6_canHalve_28 : decode cX6_canHalve 28 = .ok (.iload_n 2, 1) := by decide +kernel
theorem dX6_canHalve_29 : decode cX6_canHalve 29 = .ok (.if_icmp .ne 5, 3) := by decide +kernel
theorem dX6_canHalve_32 : decode cX6_canHalve 32 = .ok (.iconst 1, 1) := by decide +kernel
theorem dX6_canHalve_33 : decode cX6_canHalve 33 = .ok (.ireturn, 1) := by decide +kernel
theorem dX6_canHalve_34 : decode cX6_canHalve 34 = .ok (.iinc 3 1, 3) := by decide +kernel
theorem dX6_canHalve_37 : decode cX6_canHalve 37 = .ok (.goto (-29), 3) := by decide +kernel
theorem dX6_canHalve_40 : decode cX6_canHalve 40 = .ok (.iconst 0, 1) := by decide +kernel
theorem dX6_canHalve_41 : decode cX6_canHalve 41 = .ok (.ireturn, 1) := by decide +kernel
theorem dX7_init_0 : decode cX7_init 0 = .ok (.aload_n 0, 1) := by decide +kernel
theorem dX7_init_1 : decode cX7_init 1 = .ok (.invokespecial 3, 3) := by decide +kernel
theorem dX7_init_4 : decode cX7_init 4 = .ok (.aload_n 0, 1) := by decide +kernel
theorem dX7_init_5 : decode cX7_init 5 = .ok (.iconst (-1), 1) := by decide +kernel
theorem dX7_init_6 : decode cX7_init 6 = .ok (.putfield 9, 3) := by decide +kernel
theorem dX7_init_9 : decode cX7_init 9 = .ok (.aload_n 0, 1) := by decide +kernel
theorem dX7_init_10 : decode cX7_init 10 = .ok (.iconst (-1), 1) := by decide +kernel
theorem dX7_init_11 : decode cX7_init 11 = .ok (.putfield 15, 3) := by decide +kernel
theorem dX7_init_14 : decode cX7_init 14 = .ok (.aload_n 0, 1) := by decide +kernel
theorem dX7_init_15 : decode cX7_init 15 = .ok (.new 18, 3) := by decide +kernel
theorem dX7_init_18 : decode cX7_init 18 = .ok (.dup, 1) := by decide +kernel
theorem dX7_init_19 : decode cX7_init 19 = .ok (.bipush 12, 2) := by decide +kernel
theorem dX7_init_21 : decode cX7_init 21 = .ok (.invokespecial 20, 3) := by decide +kernel
theorem dX7_init_24 : decode cX7_init 24 = .ok (.putfield 23, 3) := by decide +kernel
theorem dX7_init_27 : decode cX7_init 27 = .ok (.aload_n 0, 1) := by decide +kernel
theorem dX7_init_28 : decode cX7_init 28 = .ok (.new 18, 3) := by decide +kernel
theorem dX7_init_31 : decode cX7_init 31 = .ok (.dup, 1) := by decide +kernel
theorem dX7_init_32 : decode cX7_init 32 = .ok (.bipush 6, 2) := by decide +kernel
theorem dX7_init_34 : decode cX7_init 34 = .ok (.invokespecial 20, 3) := by decide +kernel
theorem dX7_init_37 : decode cX7_init 37 = .ok (.putfield 27, 3) := by decide +kernel
theorem dX7_init_40 : decode cX7_init 40 = .ok (.aload_n 0, 1) := by decide +kernel
theorem dX7_init_41 : decode cX7_init 41 = .ok (.new 18, 3) := by decide +kernel
theorem dX7_init_44 : decode cX7_init 44 = .ok (.dup, 1) := by decide +kernel
theorem dX7_init_45 : decode cX7_init 45 = .ok (.bipush 6, 2) := by decide +kernel
theorem dX7_init_47 : decode cX7_init 47 = .ok (.invokespecial 20, 3) := by decide +kernel
theorem dX7_init_50 : decode cX7_init 50 = .ok (.putfield 30, 3) := by decide +kernel
theorem dX7_init_53 : decode cX7_init 53 = .ok (.aload_n 0, 1) := by decide +kernel
theorem dX7_init_54 : decode cX7_init 54 = .ok (.new 18, 3) := by decide +kernel
theorem dX7_init_57 : decode cX7_init 57 = .ok (.dup, 1) := by decide +kernel
theorem dX7_init_58 : decode cX7_init 58 = .ok (.iconst 5, 1) := by decide +kernel
theorem dX7_init_59 : decode cX7_init 59 = .ok (.invokespecial 20, 3) := by decide +kernel
theorem dX7_init_62 : decode cX7_init 62 = .ok (.putfield 33, 3) := by decide +kernel
theorem dX7_init_65 : decode cX7_init 65 = .ok (.return_, 1) := by decide +kernel
theorem dX7_starts_0 : decode cX7_starts 0 = .ok (.aload_n 0, 1) := by decide +kernel
theorem dX7_starts_1 : decode cX7_starts 1 = .ok (.iconst 0, 1) := by decide +kernel
theorem dX7_starts_2 : decode cX7_starts 2 = .ok (.putfield 36, 3) := by decide +kernel
theorem dX7_starts_5 : decode cX7_starts 5 = .ok (.aload_n 0, 1) := by decide +kernel
theorem dX7_starts_6 : decode cX7_starts 6 = .ok (.iconst 0, 1) := by decide +kernel
theorem dX7_starts_7 : decode cX7_starts 7 = .ok (.putfield 39, 3) := by decide +kernel
theorem dX7_starts_10 : decode cX7_starts 10 = .ok (.aload_n 0, 1) := by decide +kernel
theorem dX7_starts_11 : decode cX7_starts 11 = .ok (.aload_n 1, 1) := by decide +kernel
theorem dX7_starts_12 : decode cX7_starts 12 = .ok (.getfield 42, 3) := by decide +kernel
theorem dX7_starts_15 : decode cX7_starts 15 = .ok (.putfield 47, 3) := by decide +kernel
theorem dX7_starts_18 : decode cX7_starts 18 = .ok (.aload_n 0, 1) := by decide +kernel
theorem dX7_starts_19 : decode cX7_starts 19 = .ok (.iconst (-1), 1) := by decide +kernel
theorem dX7_starts_20 : decode cX7_starts 20 = .ok (.putfield 9, 3) := by decide +kernel
theorem dX7_starts_23 : decode cX7_starts 23 = .ok (.aload_n 0, 1) := by decide +kernel
theorem dX7_starts_24 : decode cX7_starts 24 = .ok (.iconst 0, 1) := by decide +kernel
theorem dX7_starts_25 : decode cX7_starts 25 = .ok (.putfield 50, 3) := by decide +kernel
theorem dX7_starts_28 : decode cX7_starts 28 = .ok (.aload_n 0, 1) := by decide +kernel
theorem dX7_starts_29 : decode cX7_starts 29 = .ok (.aload_n 1, 1) := by decide +kernel
theorem dX7_starts_30 : decode cX7_starts 30 = .ok (.getfield 53, 3) := by decide +kernel
theorem dX7_starts_33 : decode cX7_starts 33 = .ok (.putfield 56, 3) := by decide +kernel
theorem dX7_starts_36 : decode cX7_starts 36 = .ok (.aload_n 0, 1) := by decide +kernel
theorem dX7_starts_37 : decode cX7_starts 37 = .ok (.iconst 0, 1) := by decide +kernel
theorem dX7_starts_38 : decode cX7_starts 38 = .ok (.putfield 59, 3) := by decide +kernel
theorem dX7_starts_41 : decode cX7_starts 41 = .ok (.aload_n 0, 1) := by decide +kernel
theorem dX7_starts_42 : decode cX7_starts 42 = .ok (.iconst 0, 1) := by decide +kernel
theorem dX7_starts_43 : decode cX7_starts 43 = .ok (.putfield 62, 3) := by decide +kernel
theorem dX7_starts_46 : decode cX7_starts 46 = .ok (.aload_n 0, 1) := by decide +kernel
theorem dX7_starts_47 : decode cX7_starts 47 = .ok (.iconst 0, 1) := by decide +kernel
theorem dX7_starts_48 : decode cX7_starts 48 = .ok (.putfield 65, 3) := by decide +kernel
theorem dX7_starts_51 : decode cX7_starts 51 = .ok (.aload_n 0, 1) := by decide +kernel
theorem dX7_starts_52 : decode cX7_starts 52 = .ok (.iconst (-1), 1) := by decide +kernel
theorem dX7_starts_53 : decode cX7_starts 53 = .ok (.putfield 15, 3) := by decide +kernel
theorem dX7_starts_56 : decode cX7_starts 56 = .ok (.aload_n 0, 1) := by decide +kernel
theorem dX7_starts_57 : decode cX7_starts 57 = .ok (.aload_n 1, 1) := by decide +kernel
theorem dX7_starts_58 : decode cX7_starts 58 = .ok (.getfield 68, 3) := by decide +kernel
theorem dX7_starts_61 : decode cX7_starts 61 = .ok (.putfield 71, 3) := by decide +kernel
theorem dX7_starts_64 : decode cX7_starts 64 = .ok (.aload_n 0, 1) := by decide +kernel
theorem dX7_starts_65 : decode cX7_starts 65 = .ok (.getfield 23, 3) := by decide +kernel
theorem dX7_starts_68 : decode cX7_starts 68 = .ok (.aload_n 1, 1) := by decide +kernel
theorem dX7_starts_69 : decode cX7_starts 69 = .ok (.getfield 74, 3) := by decide +kernel
theorem dX7_starts_72 : decode cX7_starts 72 = .ok (.invokevirtual 75, 3) := by decide +kernel
theorem dX7_starts_75 : decode cX7_starts 75 = .ok (.aload_n 0, 1) := by decide +kernel
theorem dX7_starts_76 : decode cX7_starts 76 = .ok (.getfield 27, 3) := by decide +kernel
theorem dX7_starts_79 : decode cX7_starts 79 = .ok (.iconst 0, 1) := by decide +kernel
theorem dX7_starts_80 : decode cX7_starts 80 = .ok (.invokevirtual 79, 3) := by decide +kernel
theorem dX7_starts_83 : decode cX7_starts 83 = .ok (.aload_n 0, 1) := by decide +kernel
theorem dX7_starts_84 : decode cX7_starts 84 = .ok (.getfield 30, 3) := by decide +kernel
theorem dX7_starts_87 : decode cX7_starts 87 = .ok (.iconst 0, 1) := by decide +kernel
theorem dX7_starts_88 : decode cX7_starts 88 = .ok (.invokevirtual 79, 3) := by decide +kernel
theorem dX7_starts_91 : decode cX7_starts 91 = .ok (.aload_n 0, 1) := by decide +kernel
theorem dX7_starts_92 : decode cX7_starts 92 = .ok (.getfield 33, 3) := by decide +kernel
theorem dX7_starts_95 : decode cX7_starts 95 = .ok (.iconst 0, 1) := by decide +kernel
theorem dX7_starts_96 : decode cX7_starts 96 = .ok (.invokevirtual 79, 3) := by decide +kernel
theorem dX7_starts_99 : decode cX7_starts 99 = .ok (.return_, 1) := by decide +kernel
theorem dX7_copy_0 : decode cX7_copy 0 = .ok (.aload_n 0, 1) := by decide +kernel
theorem dX7_copy_1 : decode cX7_copy 1 = .ok (.aload_n 1, 1) := by decide +kernel
theorem dX7_copy_2 : decode cX7_copy 2 = .ok (.getfield 36, 3) := by decide +kernel
theorem dX7_copy_5 : decode cX7_copy 5 = .ok (.putfield 36, 3) := by decide +kernel
theorem dX7_copy_8 : decode cX7_copy 8 = .ok (.aload_n 0, 1) := by decide +kernel
theorem dX7_copy_9 : decode cX7_copy 9 = .ok (.aload_n 1, 1) := by decide +kernel
theorem dX7_copy_10 : decode cX7_copy 10 = .ok (.getfield 39, 3) := by decide +kernel
theorem dX7_copy_13 : decode cX7_copy 13 = .ok (.putfield 39, 3) := by decide +kernel
theorem dX7_copy_16 : decode cX7_copy 16 = .ok (.aload_n 0, 1) := by decide +kernel
theorem dX7_copy_17 : decode cX7_copy 17 = .ok (.aload_n 1, 1) := by decide +kernel
theorem dX7_copy_18 : decode cX7_copy 18 = .ok (.getfield 47, 3) := by decide +kernel
theorem dX7_copy_21 : decode cX7_copy 21 = .ok (.putfield 47, 3) := by decide +kernel
theorem dX7_copy_24 : decode cX7_copy 24 = .ok (.aload_n 0, 1) := by decide +kernel
theorem dX7_copy_25 : decode cX7_copy 25 = .ok (.aload_n 1, 1) := by decide +kernel
theorem dX7_copy_26 : decode cX7_copy 26 = .ok (.getfield 9, 3) := by decide +kernel
theorem dX7_copy_29 : decode cX7_copy 29 = .ok (.putfield 9, 3) := by decide +kernel
theorem dX7_copy_32 : decode cX7_copy 32 = .ok (.aload_n 0, 1) := by decide +kernel
theorem dX7_copy_33 : decode cX7_copy 33 = .ok (.aload_n 1, 1) := by decide +kernel
theorem dX7_copy_34 : decode cX7_copy 34 = .ok (.getfield 50, 3) := by decide +kernel
theorem dX7_copy_37 : decode cX7_copy 37 = .ok (.putfield 50, 3) := by decide +kernel
theorem dX7_copy_40 : decode cX7_copy 40 = .ok (.aload_n 0, 1) := by decide +kernel
theorem dX7_copy_41 : decode cX7_copy 41 = .ok (.aload_n 1, 1) := by decide +kernel
theorem dX7_copy_42 : decode cX7_copy 42 = .ok (.getfield 56, 3) := by decide +kernel
theorem dX7_copy_45 : decode cX7_copy 45 = .ok (.putfield 56, 3) := by decide +kernel
theorem dX7_copy_48 : decode cX7_copy 48 = .ok (.aload_n 0, 1) := by decide +kernel
theorem dX7_copy_49 : decode cX7_copy 49 = .ok (.aload_n 1, 1) := by decide +kernel
theorem dX7_copy_50 : decode cX7_copy 50 = .ok (.getfield 59, 3) := by decide +kernel
theorem dX7_copy_53 : decode cX7_copy 53 = .ok (.putfield 59, 3) := by decide +kernel
theorem dX7_copy_56 : decode cX7_copy 56 = .ok (.aload_n 0, 1) := by decide +kernel
theorem dX7_copy_57 : decode cX7_copy 57 = .ok (.aload_n 1, 1) := by decide +kernel
theorem dX7_copy_58 : decode cX7_copy 58 = .ok (.getfield 62, 3) := by decide +kernel
theorem dX7_copy_61 : decode cX7_copy 61 = .ok (.putfield 62, 3) := by decide +kernel
theorem dX7_copy_64 : decode cX7_copy 64 = .ok (.aload_n 0, 1) := by decide +kernel
theorem dX7_copy_65 : decode cX7_copy 65 = .ok (.aload_n 1, 1) := by decide +kernel
theorem dX7_copy_66 : decode cX7_copy 66 = .ok (.getfield 65, 3) := by decide +kernel
theorem dX7_copy_69 : decode cX7_copy 69 = .ok (.putfield 65, 3) := by decide +kernel
theorem dX7_copy_72 : decode cX7_copy 72 = .ok (.aload_n 0, 1) := by decide +kernel
theorem dX7_copy_73 : decode cX7_copy 73 = .ok (.aload_n 1, 1) := by decide +kernel
theorem dX7_copy_74 : decode cX7_copy 74 = .ok (.getfield 15, 3) := by decide +kernel
theorem dX7_copy_77 : decode cX7_copy 77 = .ok (.putfield 15, 3) := by decide +kernel
theorem dX7_copy_80 : decode cX7_copy 80 = .ok (.aload_n 0, 1) := by decide +kernel
theorem dX7_copy_81 : decode cX7_copy 81 = .ok (.aload_n 1, 1) := by decide +kernel
theorem dX7_copy_82 : decode cX7_copy 82 = .ok (.getfield 71, 3) := by decide +kernel
theorem dX7_copy_85 : decode cX7_copy 85 = .ok (.putfield 71, 3) := by decide +kernel
theorem dX7_copy_88 : decode cX7_copy 88 = .ok (.aload_n 0, 1) := by decide +kernel
theorem dX7_copy_89 : decode cX7_copy 89 = .ok (.getfield 23, 3) := by decide +kernel
theorem dX7_copy_92 : decode cX7_copy 92 = .ok (.aload_n 1, 1) := by decide +kernel
theorem dX7_copy_93 : decode cX7_copy 93 = .ok (.getfield 23, 3) := by decide +kernel
theorem dX7_copy_96 : decode cX7_copy 96 = .ok (.invokevirtual 75, 3) := by decide +kernel
theorem dX7_copy_99 : decode cX7_copy 99 = .ok (.aload_n 0, 1) := by decide +kernel
theorem dX7_copy_100 : decode cX7_copy 100 = .ok (.getfield 27, 3) := by decide +kernel
theorem dX7_copy_103 : decode cX7_copy 103 = .ok (.aload_n 1, 1) := by decide +kernel
theorem dX7_copy_104 : decode cX7_copy 104 = .ok (.getfield 27, 3) := by decide +kernel
theorem dX7_copy_107 : decode cX7_copy 107 = .ok (.invokevirtual 75, 3) := by decide +kernel
theorem dX7_copy_110 : decode cX7_copy 110 = .ok (.aload_n 0, 1) := by decide +kernel
theorem dX7_copy_111 : decode cX7_copy 111 = .ok (.getfield 30, 3) := by decide +kernel
theorem dX7_copy_114 : decode cX7_copy 114 = .ok (.aload_n 1, 1) := by decide +kernel
theorem dX7_copy_115 : decode cX7_copy 115 = .ok (.getfield 30, 3) := by decide +kernel
theorem dX7_copy_118 : decode cX7_copy 118 = .ok (.invokevirtual 75, 3) := by decide +kernel
theorem dX7_copy_121 : decode cX7_copy 121 = .ok (.aload_n 0, 1) := by decide +kernel
theorem dX7_copy_122 : decode cX7_copy 122 = .ok (.getfield 33, 3) := by decide +kernel
theorem dX7_copy_125 : decode cX7_copy 125 = .ok (.aload_n 1, 1) := by decide +kernel
theorem dX7_copy_126 : decode cX7_copy 126 = .ok (.getfield 33, 3) := by decide +kernel
theorem dX7_copy_129 : decode cX7_copy 129 = .ok (.invokevirtual 75, 3) := by decide +kernel
theorem dX7_copy_132 : decode cX7_copy 132 = .ok (.return_, 1) := by decide +kernel
theorem dX7_hasPlace_0 : decode cX7_hasPlace 0 = .ok (.iload_n 1, 1) := by decide +kernel
theorem dX7_hasPlace_1 : decode cX7_hasPlace 1 = .ok (.ifCond .lt 15, 3) := by decide +kernel
theorem dX7_hasPlace_4 : decode cX7_hasPlace 4 = .ok (.iload_n 1, 1) := by decide +kernel
theorem dX7_hasPlace_5 : decode cX7_hasPlace 5 = .ok (.aload_n 0, 1) := by decide +kernel
theorem dX7_hasPlace_6 : decode cX7_hasPlace 6 = .ok (.getfield 71, 3) := by decide +kernel
theorem dX7_hasPlace_9 : decode cX7_hasPlace 9 = .ok (.if_icmp .ge 7, 3) := by decide +kernel
theorem dX7_hasPlace_12 : decode cX7_hasPlace 12 = .ok (.iconst 1, 1) := by decide +kernel
theorem dX7_hasPlace_13 : decode cX7_hasPlace 13 = .ok (.goto 4, 3) := by decide +kernel
theorem dX7_hasPlace_16 : decode cX7_hasPlace 16 = .ok (.iconst 0, 1) := by decide +kernel
theorem dX7_hasPlace_17 : decode cX7_hasPlace 17 = .ok (.ireturn, 1) := by decide +kernel
theorem dX7_placesOf_0 : decode cX7_placesOf 0 = .ok (.iconst 0, 1) := by decide +kernel
theorem dX7_placesOf_1 : decode cX7_placesOf 1 = .ok (.istore_n 2, 1) := by decide +kernel
theorem dX7_placesOf_2 : decode cX7_placesOf 2 = .ok (.iconst 0, 1) := by decide +kernel
theorem dX7_placesOf_3 : decode cX7_placesOf 3 = .ok (.istore_n 3, 1) := by decide +kernel
theorem dX7_placesOf_4 : decode cX7_placesOf 4 = .ok (.iload_n 3, 1) := by decide +kernel
theorem dX7_placesOf_5 : decode cX7_placesOf 5 = .ok (.aload_n 0, 1) := by decide +kernel
theorem dX7_placesOf_6 : decode cX7_placesOf 6 = .ok (.getfield 71, 3) := by decide +kernel
theorem dX7_placesOf_9 : decode cX7_placesOf 9 = .ok (.if_icmp .ge 24, 3) := by decide +kernel
theorem dX7_placesOf_12 : decode cX7_placesOf 12 = .ok (.aload_n 0, 1) := by decide +kernel
theorem dX7_placesOf_13 : decode cX7_placesOf 13 = .ok (.getfield 23, 3) := by decide +kernel
theorem dX7_placesOf_16 : decode cX7_placesOf 16 = .ok (.iload_n 3, 1) := by decide +kernel
theorem dX7_placesOf_17 : decode cX7_placesOf 17 = .ok (.invokevirtual 82, 3) := by decide +kernel
theorem dX7_placesOf_20 : decode cX7_placesOf 20 = .ok (.iload_n 1, 1) := by decide +kernel
theorem dX7_placesOf_21 : decode cX7_placesOf 21 = .ok (.if_icmp .ne 6, 3) := by decide +kernel
theorem dX7_placesOf_24 : decode cX7_placesOf 24 = .ok (.iinc 2 1, 3) := by decide +kernel
theorem dX7_placesOf_27 : decode cX7_placesOf 27 = .ok (.iinc 3 1, 3) := by decide +kernel
theorem dX7_placesOf_30 : decode cX7_placesOf 30 = .ok (.goto (-26), 3) := by decide +kernel
theorem dX7_placesOf_33 : decode cX7_placesOf 33 = .ok (.iload_n 2, 1) := by decide +kernel
theorem dX7_placesOf_34 : decode cX7_placesOf 34 = .ok (.ireturn, 1) := by decide +kernel
theorem dX7_behind_0 : decode cX7_behind 0 = .ok (.iload_n 1, 1) := by decide +kernel
theorem dX7_behind_1 : decode cX7_behind 1 = .ok (.iconst 1, 1) := by decide +kernel
theorem dX7_behind_2 : decode cX7_behind 2 = .ok (.iadd, 1) := by decide +kernel
theorem dX7_behind_3 : decode cX7_behind 3 = .ok (.aload_n 0, 1) := by decide +kernel
theorem dX7_behind_4 : decode cX7_behind 4 = .ok (.getfield 71, 3) := by decide +kernel
theorem dX7_behind_7 : decode cX7_behind 7 = .ok (.if_icmp .ge 9, 3) := by decide +kernel
theorem dX7_behind_10 : decode cX7_behind 10 = .ok (.iload_n 1, 1) := by decide +kernel
theorem dX7_behind_11 : decode cX7_behind 11 = .ok (.iconst 1, 1) := by decide +kernel
theorem dX7_behind_12 : decode cX7_behind 12 = .ok (.iadd, 1) := by decide +kernel
theorem dX7_behind_13 : decode cX7_behind 13 = .ok (.goto 4, 3) := by decide +kernel
theorem dX7_behind_16 : decode cX7_behind 16 = .ok (.iconst 0, 1) := by decide +kernel
theorem dX7_behind_17 : decode cX7_behind 17 = .ok (.ireturn, 1) := by decide +kernel
theorem dX7_draw_0 : decode cX7_draw 0 = .ok (.aload_n 0, 1) := by decide +kernel
theorem dX7_draw_1 : decode cX7_draw 1 = .ok (.aload_n 0, 1) := by decide +kernel
theorem dX7_draw_2 : decode cX7_draw 2 = .ok (.getfield 47, 3) := by decide +kernel
theorem dX7_draw_5 : decode cX7_draw 5 = .ok (.ldc 86, 2) := by decide +kernel
theorem dX7_draw_7 : decode cX7_draw 7 = .ok (.imul, 1) := by decide +kernel
theorem dX7_draw_8 : decode cX7_draw 8 = .ok (.sipush 12345, 3) := by decide +kernel
theorem dX7_draw_11 : decode cX7_draw 11 = .ok (.iadd, 1) := by decide +kernel
theorem dX7_draw_12 : decode cX7_draw 12 = .ok (.ldc 87, 2) := by decide +kernel
theorem dX7_draw_14 : decode cX7_draw 14 = .ok (.iand, 1) := by decide +kernel
theorem dX7_draw_15 : decode cX7_draw 15 = .ok (.putfield 47, 3) := by decide +kernel
theorem dX7_draw_18 : decode cX7_draw 18 = .ok (.aload_n 0, 1) := by decide +kernel
theorem dX7_draw_19 : decode cX7_draw 19 = .ok (.getfield 47, 3) := by decide +kernel
theorem dX7_draw_22 : decode cX7_draw 22 = .ok (.ldc 88, 2) := by decide +kernel
theorem dX7_draw_24 : decode cX7_draw 24 = .ok (.idiv, 1) := by decide +kernel
theorem dX7_draw_25 : decode cX7_draw 25 = .ok (.ireturn, 1) := by decide +kernel
theorem dX7_opens_0 : decode cX7_opens 0 = .ok (.aload_n 0, 1) := by decide +kernel
theorem dX7_opens_1 : decode cX7_opens 1 = .ok (.iload_n 1, 1) := by decide +kernel
theorem dX7_opens_2 : decode cX7_opens 2 = .ok (.putfield 15, 3) := by decide +kernel
theorem dX7_opens_5 : decode cX7_opens 5 = .ok (.aload_n 0, 1) := by decide +kernel
theorem dX7_opens_6 : decode cX7_opens 6 = .ok (.iload_n 2, 1) := by decide +kernel
theorem dX7_opens_7 : decode cX7_opens 7 = .ok (.putfield 50, 3) := by decide +kernel
theorem dX7_opens_10 : decode cX7_opens 10 = .ok (.aload_n 0, 1) := by decide +kernel
theorem dX7_opens_11 : decode cX7_opens 11 = .ok (.dup, 1) := by decide +kernel
theorem dX7_opens_12 : decode cX7_opens 12 = .ok (.getfield 65, 3) := by decide +kernel
theorem dX7_opens_15 : decode cX7_opens 15 = .ok (.iload_n 2, 1) := by decide +kernel
theorem dX7_opens_16 : decode cX7_opens 16 = .ok (.iadd, 1) := by decide +kernel
theorem dX7_opens_17 : decode cX7_opens 17 = .ok (.putfield 65, 3) := by decide +kernel
theorem dX7_opens_20 : decode cX7_opens 20 = .ok (.aload_n 0, 1) := by decide +kernel
theorem dX7_opens_21 : decode cX7_opens 21 = .ok (.getfield 27, 3) := by decide +kernel
theorem dX7_opens_24 : decode cX7_opens 24 = .ok (.iload_n 1, 1) := by decide +kernel
theorem dX7_opens_25 : decode cX7_opens 25 = .ok (.iconst 0, 1) := by decide +kernel
theorem dX7_opens_26 : decode cX7_opens 26 = .ok (.sipush 999, 3) := by decide +kernel
theorem dX7_opens_29 : decode cX7_opens 29 = .ok (.aload_n 0, 1) := by decide +kernel
theorem dX7_opens_30 : decode cX7_opens 30 = .ok (.getfield 27, 3) := by decide +kernel
theorem dX7_opens_33 : decode cX7_opens 33 = .ok (.iload_n 1, 1) := by decide +kernel
theorem dX7_opens_34 : decode cX7_opens 34 = .ok (.invokevirtual 82, 3) := by decide +kernel
theorem dX7_opens_37 : decode cX7_opens 37 = .ok (.iload_n 3, 1) := by decide +kernel
theorem dX7_opens_38 : decode cX7_opens 38 = .ok (.iadd, 1) := by decide +kernel
theorem dX7_opens_39 : decode cX7_opens 39 = .ok (.invokestatic 89, 3) := by decide +kernel
theorem dX7_opens_42 : decode cX7_opens 42 = .ok (.invokestatic 95, 3) := by decide +kernel
theorem dX7_opens_45 : decode cX7_opens 45 = .ok (.invokevirtual 98, 3) := by decide +kernel
theorem dX7_opens_48 : decode cX7_opens 48 = .ok (.aload_n 0, 1) := by decide +kernel
theorem dX7_opens_49 : decode cX7_opens 49 = .ok (.getfield 30, 3) := by decide +kernel
theorem dX7_opens_52 : decode cX7_opens 52 = .ok (.iload_n 1, 1) := by decide +kernel
theorem dX7_opens_53 : decode cX7_opens 53 = .ok (.sipush 9999, 3) := by decide +kernel
theorem dX7_opens_56 : decode cX7_opens 56 = .ok (.aload_n 0, 1) := by decide +kernel
theorem dX7_opens_57 : decode cX7_opens 57 = .ok (.getfield 30, 3) := by decide +kernel
theorem dX7_opens_60 : decode cX7_opens 60 = .ok (.iload_n 1, 1) := by decide +kernel
theorem dX7_opens_61 : decode cX7_opens 61 = .ok (.invokevirtual 82, 3) := by decide +kernel
theorem dX7_opens_64 : decode cX7_opens 64 = .ok (.iconst 1, 1) := by decide +kernel
theorem dX7_opens_65 : decode cX7_opens 65 = .ok (.iadd, 1) := by decide +kernel
theorem dX7_opens_66 : decode cX7_opens 66 = .ok (.invokestatic 89, 3) := by decide +kernel
theorem dX7_opens_69 : decode cX7_opens 69 = .ok (.invokevirtual 98, 3) := by decide +kernel
theorem dX7_opens_72 : decode cX7_opens 72 = .ok (.return_, 1) := by decide +kernel
theorem dX7_bringOn_0 : decode cX7_bringOn 0 = .ok (.iconst 0, 1) := by decide +kernel
theorem dX7_bringOn_1 : decode cX7_bringOn 1 = .ok (.istore_n 3, 1) := by decide +kernel
theorem dX7_bringOn_2 : decode cX7_bringOn 2 = .ok (.iload_n 3, 1) := by decide +kernel
theorem dX7_bringOn_3 : decode cX7_bringOn 3 = .ok (.aload_n 1, 1) := by decide +kernel
theorem dX7_bringOn_4 : decode cX7_bringOn 4 = .ok (.getfield 53, 3) := by decide +kernel
theorem dX7_bringOn_7 : decode cX7_bringOn 7 = .ok (.if_icmp .ge 109, 3) := by decide +kernel
theorem dX7_bringOn_10 : decode cX7_bringOn 10 = .ok (.aload_n 0, 1) := by decide +kernel
theorem dX7_bringOn_11 : decode cX7_bringOn 11 = .ok (.getfield 33, 3) := by decide +kernel
theorem dX7_bringOn_14 : decode cX7_bringOn 14 = .ok (.iload_n 3, 1) := by decide +kernel
theorem dX7_bringOn_15 : decode cX7_bringOn 15 = .ok (.invokevirtual 82, 3) := by decide +kernel
theorem dX7_bringOn_18 : decode cX7_bringOn 18 = .ok (.istore 4, 2) := by decide +kernel
theorem dX7_bringOn_20 : decode cX7_bringOn 20 = .ok (.aload_n 1, 1) := by decide +kernel
theorem dX7_bringOn_21 : decode cX7_bringOn 21 = .ok (.getfield 102, 3) := by decide +kernel
theorem dX7_bringOn_24 : decode cX7_bringOn 24 = .ok (.iload_n 3, 1) := by decide +kernel
theorem dX7_bringOn_25 : decode cX7_bringOn 25 = .ok (.invokevirtual 82, 3) := by decide +kernel
theorem dX7_bringOn_28 : decode cX7_bringOn 28 = .ok (.iload_n 2, 1) := by decide +kernel
theorem dX7_bringOn_29 : decode cX7_bringOn 29 = .ok (.if_icmp .gt 19, 3) := by decide +kernel
theorem dX7_bringOn_32 : decode cX7_bringOn 32 = .ok (.aload_n 1, 1) := by decide +kernel
theorem dX7_bringOn_33 : decode cX7_bringOn 33 = .ok (.getfield 105, 3) := by decide +kernel
theorem dX7_bringOn_36 : decode cX7_bringOn 36 = .ok (.iload_n 3, 1) := by decide +kernel
theorem dX7_bringOn_37 : decode cX7_bringOn 37 = .ok (.invokevirtual 82, 3) := by decide +kernel
theorem dX7_bringOn_40 : decode cX7_bringOn 40 = .ok (.iload_n 2, 1) := by decide +kernel
theorem dX7_bringOn_41 : decode cX7_bringOn 41 = .ok (.if_icmp .lt 7, 3) := by decide +kernel
theorem dX7_bringOn_44 : decode cX7_bringOn 44 = .ok (.iconst 1, 1) := by decide +kernel
theorem dX7_bringOn_45 : decode cX7_bringOn 45 = .ok (.goto 4, 3) := by decide +kernel
theorem dX7_bringOn_48 : decode cX7_bringOn 48 = .ok (.iconst 0, 1) := by decide +kernel
theorem dX7_bringOn_49 : decode cX7_bringOn 49 = .ok (.istore 5, 2) := by decide +kernel
theorem dX7_bringOn_51 : decode cX7_bringOn 51 = .ok (.iload 5, 2) := by decide +kernel
theorem dX7_bringOn_53 : decode cX7_bringOn 53 = .ok (.ifCond .eq 57, 3) := by decide +kernel
theorem dX7_bringOn_56 : decode cX7_bringOn 56 = .ok (.iload 4, 2) := by decide +kernel
theorem dX7_bringOn_58 : decode cX7_bringOn 58 = .ok (.aload_n 1, 1) := by decide +kernel
theorem dX7_bringOn_59 : decode cX7_bringOn 59 = .ok (.getfield 108, 3) := by decide +kernel
theorem dX7_bringOn_62 : decode cX7_bringOn 62 = .ok (.iload_n 3, 1) := by decide +kernel
theorem dX7_bringOn_63 : decode cX7_bringOn 63 = .ok (.invokevirtual 82, 3) := by decide +kernel
theorem dX7_bringOn_66 : decode cX7_bringOn 66 = .ok (.if_icmp .ge 44, 3) := by decide +kernel
theorem dX7_bringOn_69 : decode cX7_bringOn 69 = .ok (.aload_n 0, 1) := by decide +kernel
theorem dX7_bringOn_70 : decode cX7_bringOn 70 = .ok (.getfield 33, 3) := by decide +kernel
theorem dX7_bringOn_73 : decode cX7_bringOn 73 = .ok (.iload_n 3, 1) := by decide +kernel
theorem dX7_bringOn_74 : decode cX7_bringOn 74 = .ok (.iload 4, 2) := by decide +kernel
theorem dX7_bringOn_76 : decode cX7_bringOn 76 = .ok (.iconst 1, 1) := by decide +kernel
theorem dX7_bringOn_77 : decode cX7_bringOn 77 = .ok (.iadd, 1) := by decide +kernel
theorem dX7_bringOn_78 : decode cX7_bringOn 78 = .ok (.invokevirtual 98, 3) := by decide +kernel
theorem dX7_bringOn_81 : decode cX7_bringOn 81 = .ok (.aload_n 0, 1) := by decide +kernel
theorem dX7_bringOn_82 : decode cX7_bringOn 82 = .ok (.dup, 1) := by decide +kernel
theorem dX7_bringOn_83 : decode cX7_bringOn 83 = .ok (.getfield 56, 3) := by decide +kernel
theorem dX7_bringOn_86 : decode cX7_bringOn 86 = .ok (.iload 4, 2) := by decide +kernel
theorem dX7_bringOn_88 : decode cX7_bringOn 88 = .ok (.iconst 1, 1) := by decide +kernel
theorem dX7_bringOn_89 : decode cX7_bringOn 89 = .ok (.iadd, 1) := by decide +kernel
theorem dX7_bringOn_90 : decode cX7_bringOn 90 = .ok (.aload_n 1, 1) := by decide +kernel
theorem dX7_bringOn_91 : decode cX7_bringOn 91 = .ok (.getfield 108, 3) := by decide +kernel
theorem dX7_bringOn_94 : decode cX7_bringOn 94 = .ok (.iload_n 3, 1) := by decide +kernel
theorem dX7_bringOn_95 : decode cX7_bringOn 95 = .ok (.invokevirtual 82, 3) := by decide +kernel
theorem dX7_bringOn_98 : decode cX7_bringOn 98 = .ok (.if_icmp .ne 7, 3) := by decide +kernel
theorem dX7_bringOn_101 : decode cX7_bringOn 101 = .ok (.iconst 1, 1) := by decide +kernel
theorem dX7_bringOn_102 : decode cX7_bringOn 102 = .ok (.goto 4, 3) := by decide +kernel
theorem dX7_bringOn_105 : decode cX7_bringOn 105 = .ok (.iconst 0, 1) := by decide +kernel
theorem dX7_bringOn_106 : decode cX7_bringOn 106 = .ok (.isub, 1) := by decide +kernel
theorem dX7_bringOn_107 : decode cX7_bringOn 107 = .ok (.putfield 56, 3) := by decide +kernel
theorem dX7_bringOn_110 : decode cX7_bringOn 110 = .ok (.iinc 3 1, 3) := by decide +kernel
theorem dX7_bringOn_113 : decode cX7_bringOn 113 = .ok (.goto (-111), 3) := by decide +kernel
theorem dX7_bringOn_116 : decode cX7_bringOn 116 = .ok (.return_, 1) := by decide +kernel
theorem dX8_init_0 : decode cX8_init 0 = .ok (.aload_n 0, 1) := by decide +kernel
theorem dX8_init_1 : decode cX8_init 1 = .ok (.invokespecial 3, 3) := by decide +kernel
theorem dX8_init_4 : decode cX8_init 4 = .ok (.aload_n 0, 1) := by decide +kernel
theorem dX8_init_5 : decode cX8_init 5 = .ok (.new 9, 3) := by decide +kernel
theorem dX8_init_8 : decode cX8_init 8 = .ok (.dup, 1) := by decide +kernel
theorem dX8_init_9 : decode cX8_init 9 = .ok (.sipush 260, 3) := by decide +kernel
theorem dX8_init_12 : decode cX8_init 12 = .ok (.invokespecial 13, 3) := by decide +kernel
theorem dX8_init_15 : decode cX8_init 15 = .ok (.putfield 16, 3) := by decide +kernel
theorem dX8_init_18 : decode cX8_init 18 = .ok (.return_, 1) := by decide +kernel
theorem dX8_clear_0 : decode cX8_clear 0 = .ok (.aload_n 0, 1) := by decide +kernel
theorem dX8_clear_1 : decode cX8_clear 1 = .ok (.iconst 0, 1) := by decide +kernel
theorem dX8_clear_2 : decode cX8_clear 2 = .ok (.putfield 20, 3) := by decide +kernel
theorem dX8_clear_5 : decode cX8_clear 5 = .ok (.return_, 1) := by decide +kernel
theorem dX8_add_0 : decode cX8_add 0 = .ok (.aload_n 0, 1) := by decide +kernel
theorem dX8_add_1 : decode cX8_add 1 = .ok (.getfield 20, 3) := by decide +kernel
theorem dX8_add_4 : decode cX8_add 4 = .ok (.bipush 20, 2) := by decide +kernel
theorem dX8_add_6 : decode cX8_add 6 = .ok (.if_icmp .lt 43, 3) := by decide +kernel
theorem dX8_add_9 : decode cX8_add 9 = .ok (.iconst 0, 1) := by decide +kernel
theorem dX8_add_10 : decode cX8_add 10 = .ok (.istore_n 2, 1) := by decide +kernel
theorem dX8_add_11 : decode cX8_add 11 = .ok (.iload_n 2, 1) := by decide +kernel
theorem dX8_add_12 : decode cX8_add 12 = .ok (.sipush 247, 3) := by decide +kernel
theorem dX8_add_15 : decode cX8_add 15 = .ok (.if_icmp .ge 28, 3) := by decide +kernel
theorem dX8_add_18 : decode cX8_add 18 = .ok (.aload_n 0, 1) := by decide +kernel
theorem dX8_add_19 : decode cX8_add 19 = .ok (.getfield 16, 3) := by decide +kernel
theorem dX8_add_22 : decode cX8_add 22 = .ok (.iload_n 2, 1) := by decide +kernel
theorem dX8_add_23 : decode cX8_add 23 = .ok (.aload_n 0, 1) := by decide +kernel
theorem dX8_add_24 : decode cX8_add 24 = .ok (.getfield 16, 3) := by decide +kernel
theorem dX8_add_27 : decode cX8_add 27 = .ok (.iload_n 2, 1) := by decide +kernel
theorem dX8_add_28 : decode cX8_add 28 = .ok (.bipush 13, 2) := by decide +kernel
theorem dX8_add_30 : decode cX8_add 30 = .ok (.iadd, 1) := by decide +kernel
theorem dX8_add_31 : decode cX8_add 31 = .ok (.invokevirtual 24, 3) := by decide +kernel
theorem dX8_add_34 : decode cX8_add 34 = .ok (.invokevirtual 28, 3) := by decide +kernel
theorem dX8_add_37 : decode cX8_add 37 = .ok (.iinc 2 1, 3) := by decide +kernel
theorem dX8_add_40 : decode cX8_add 40 = .ok (.goto (-29), 3) := by decide +kernel
theorem dX8_add_43 : decode cX8_add 43 = .ok (.aload_n 0, 1) := by decide +kernel
theorem dX8_add_44 : decode cX8_add 44 = .ok (.bipush 19, 2) := by decide +kernel
theorem dX8_add_46 : decode cX8_add 46 = .ok (.putfield 20, 3) := by decide +kernel
theorem dX8_add_49 : decode cX8_add 49 = .ok (.iconst 0, 1) := by decide +kernel
theorem dX8_add_50 : decode cX8_add 50 = .ok (.istore_n 2, 1) := by decide +kernel
theorem dX8_add_51 : decode cX8_add 51 = .ok (.iload_n 2, 1) := by decide +kernel
theorem dX8_add_52 : decode cX8_add 52 = .ok (.bipush 12, 2) := by decide +kernel
theorem dX8_add_54 : decode cX8_add 54 = .ok (.if_icmp .ge 33, 3) := by decide +kernel
theorem dX8_add_57 : decode cX8_add 57 = .ok (.aload_n 0, 1) := by decide +kernel
theorem dX8_add_58 : decode cX8_add 58 = .ok (.getfield 16, 3) := by decide +kernel
theorem dX8_add_61 : decode cX8_add 61 = .ok (.aload_n 0, 1) := by decide +kernel
theorem dX8_add_62 : decode cX8_add 62 = .ok (.getfield 20, 3) := by decide +kernel
theorem dX8_add_65 : decode cX8_add 65 = .ok (.bipush 13, 2) := by decide +kernel
theorem dX8_add_67 : decode cX8_add 67 = .ok (.imul, 1) := by decide +kernel
theorem dX8_add_68 : decode cX8_add 68 = .ok (.iload_n 2, 1) := by decide +kernel
theorem dX8_add_69 : decode cX8_add 69 = .ok (.iadd, 1) := by decide +kernel
theorem dX8_add_70 : decode cX8_add 70 = .ok (.aload_n 1, 1) := by decide +kernel
theorem dX8_add_71 : decode cX8_add 71 = .ok (.getfield 32, 3) := by decide +kernel
theorem dX8_add_74 : decode cX8_add 74 = .ok (.iload_n 2, 1) := by decide +kernel
theorem dX8_add_75 : decode cX8_add 75 = .ok (.invokevirtual 24, 3) := by decide +kernel
theorem dX8_add_78 : decode cX8_add 78 = .ok (.invokevirtual 28, 3) := by decide +kernel
theorem dX8_add_81 : decode cX8_add 81 = .ok (.iinc 2 1, 3) := by decide +kernel
theorem dX8_add_84 : decode cX8_add 84 = .ok (.goto (-33), 3) := by decide +kernel
theorem dX8_add_87 : decode cX8_add 87 = .ok (.aload_n 0, 1) := by decide +kernel
theorem dX8_add_88 : decode cX8_add 88 = .ok (.getfield 16, 3) := by decide +kernel
theorem dX8_add_91 : decode cX8_add 91 = .ok (.aload_n 0, 1) := by decide +kernel
theorem dX8_add_92 : decode cX8_add 92 = .ok (.getfield 20, 3) := by decide +kernel
theorem dX8_add_95 : decode cX8_add 95 = .ok (.bipush 13, 2) := by decide +kernel
theorem dX8_add_97 : decode cX8_add 97 = .ok (.imul, 1) := by decide +kernel
theorem dX8_add_98 : decode cX8_add 98 = .ok (.bipush 12, 2) := by decide +kernel
theorem dX8_add_100 : decode cX8_add 100 = .ok (.iadd, 1) := by decide +kernel
theorem dX8_add_101 : decode cX8_add 101 = .ok (.aload_n 1, 1) := by decide +kernel
theorem dX8_add_102 : decode cX8_add 102 = .ok (.getfield 37, 3) := by decide +kernel
theorem dX8_add_105 : decode cX8_add 105 = .ok (.invokevirtual 28, 3) := by decide +kernel
theorem dX8_add_108 : decode cX8_add 108 = .ok (.aload_n 0, 1) := by decide +kernel
theorem dX8_add_109 : decode cX8_add 109 = .ok (.dup, 1) := by decide +kernel
theorem dX8_add_110 : decode cX8_add 110 = .ok (.getfield 20, 3) := by decide +kernel
theorem dX8_add_113 : decode cX8_add 113 = .ok (.iconst 1, 1) := by decide +kernel
theorem dX8_add_114 : decode cX8_add 114 = .ok (.iadd, 1) := by decide +kernel
theorem dX8_add_115 : decode cX8_add 115 = .ok (.putfield 20, 3) := by decide +kernel
theorem dX8_add_118 : decode cX8_add 118 = .ok (.return_, 1) := by decide +kernel
theorem dX8_takeBack_0 : decode cX8_takeBack 0 = .ok (.aload_n 0, 1) := by decide +kernel
theorem dX8_takeBack_1 : decode cX8_takeBack 1 = .ok (.getfield 20, 3) := by decide +kernel
theorem dX8_takeBack_4 : decode cX8_takeBack 4 = .ok (.ifCond .ne 5, 3) := by decide +kernel
theorem dX8_takeBack_7 : decode cX8_takeBack 7 = .ok (.iconst (-1), 1) := by decide +kernel
theorem dX8_takeBack_8 : decode cX8_takeBack 8 = .ok (.ireturn, 1) := by decide +kernel
theorem dX8_takeBack_9 : decode cX8_takeBack 9 = .ok (.aload_n 0, 1) := by decide +kernel
theorem dX8_takeBack_10 : decode cX8_takeBack 10 = .ok (.dup, 1) := by decide +kernel
theorem dX8_takeBack_11 : decode cX8_takeBack 11 = .ok (.getfield 20, 3) := by decide +kernel
theorem dX8_takeBack_14 : decode cX8_takeBack 14 = .ok (.iconst 1, 1) := by decide +kernel
theorem dX8_takeBack_15 : decode cX8_takeBack 15 = .ok (.isub, 1) := by decide +kernel
theorem dX8_takeBack_16 : decode cX8_takeBack 16 = .ok (.putfield 20, 3) := by decide +kernel
theorem dX8_takeBack_19 : decode cX8_takeBack 19 = .ok (.iconst 0, 1) := by decide +kernel
theorem dX8_takeBack_20 : decode cX8_takeBack 20 = .ok (.istore_n 2, 1) := by decide +kernel
theorem dX8_takeBack_21 : decode cX8_takeBack 21 = .ok (.iload_n 2, 1) := by decide +kernel
theorem dX8_takeBack_22 : decode cX8_takeBack 22 = .ok (.bipush 12, 2) := by decide +kernel
theorem dX8_takeBack_24 : decode cX8_takeBack 24 = .ok (.if_icmp .ge 33, 3) := by decide +kernel
theorem dX8_takeBack_27 : decode cX8_takeBack 27 = .ok (.aload_n 1, 1) := by decide +kernel
theorem dX8_takeBack_28 : decode cX8_takeBack 28 = .ok (.getfield 32, 3) := by decide +kernel
theorem dX8_takeBack_31 : decode cX8_takeBack 31 = .ok (.iload_n 2, 1) := by decide +kernel
theorem dX8_takeBack_32 : decode cX8_takeBack 32 = .ok (.aload_n 0, 1) := by decide +kernel
theorem dX8_takeBack_33 : decode cX8_takeBack 33 = .ok (.getfield 16, 3) := by decide +kernel
theorem dX8_takeBack_36 : decode cX8_takeBack 36 = .ok (.aload_n 0, 1) := by decide +kernel
theorem dX8_takeBack_37 : decode cX8_takeBack 37 = .ok (.getfield 20, 3) := by decide +kernel
theorem dX8_takeBack_40 : decode cX8_takeBack 40 = .ok (.bipush 13, 2) := by decide +kernel
theorem dX8_takeBack_42 : decode cX8_takeBack 42 = .ok (.imul, 1) := by decide +kernel
theorem dX8_takeBack_43 : decode cX8_takeBack 43 = .ok (.iload_n 2, 1) := by decide +kernel
theorem dX8_takeBack_44 : decode cX8_takeBack 44 = .ok (.iadd, 1) := by decide +kernel
theorem dX8_takeBack_45 : decode cX8_takeBack 45 = .ok (.invokevirtual 24, 3) := by decide +kernel
theorem dX8_takeBack_48 : decode cX8_takeBack 48 = .ok (.invokevirtual 28, 3) := by decide +kernel
theorem dX8_takeBack_51 : decode cX8_takeBack 51 = .ok (.iinc 2 1, 3) := by decide +kernel
theorem dX8_takeBack_54 : decode cX8_takeBack 54 = .ok (.goto (-33), 3) := by decide +kernel
theorem dX8_takeBack_57 : decode cX8_takeBack 57 = .ok (.aload_n 1, 1) := by decide +kernel
theorem dX8_takeBack_58 : decode cX8_takeBack 58 = .ok (.aload_n 0, 1) := by decide +kernel
theorem dX8_takeBack_59 : decode cX8_takeBack 59 = .ok (.getfield 16, 3) := by decide +kernel
theorem dX8_takeBack_62 : decode cX8_takeBack 62 = .ok (.aload_n 0, 1) := by decide +kernel
theorem dX8_takeBack_63 : decode cX8_takeBack 63 = .ok (.getfield 20, 3) := by decide +kernel
theorem dX8_takeBack_66 : decode cX8_takeBack 66 = .ok (.bipush 13, 2) := by decide +kernel
theorem dX8_takeBack_68 : decode cX8_takeBack 68 = .ok (.imul, 1) := by decide +kernel
theorem dX8_takeBack_69 : decode cX8_takeBack 69 = .ok (.bipush 12, 2) := by decide +kernel
theorem dX8_takeBack_71 : decode cX8_takeBack 71 = .ok (.iadd, 1) := by decide +kernel
theorem dX8_takeBack_72 : decode cX8_takeBack 72 = .ok (.invokevirtual 24, 3) := by decide +kernel
theorem dX8_takeBack_75 : decode cX8_takeBack 75 = .ok (.putfield 37, 3) := by decide +kernel
theorem dX8_takeBack_78 : decode cX8_takeBack 78 = .ok (.aload_n 0, 1) := by decide +kernel
theorem dX8_takeBack_79 : decode cX8_takeBack 79 = .ok (.getfield 20, 3) := by decide +kernel
theorem dX8_takeBack_82 : decode cX8_takeBack 82 = .ok (.ireturn, 1) := by decide +kernel
theorem dX9_init_0 : decode cX9_init 0 = .ok (.aload_n 0, 1) := by decide +kernel
theorem dX9_init_1 : decode cX9_init 1 = .ok (.invokespecial 3, 3) := by decide +kernel
theorem dX9_init_4 : decode cX9_init 4 = .ok (.aload_n 0, 1) := by decide +kernel
theorem dX9_init_5 : decode cX9_init 5 = .ok (.new 9, 3) := by decide +kernel
theorem dX9_init_8 : decode cX9_init 8 = .ok (.dup, 1) := by decide +kernel
theorem dX9_init_9 : decode cX9_init 9 = .ok (.bipush 20, 2) := by decide +kernel
theorem dX9_init_11 : decode cX9_init 11 = .ok (.invokespecial 11, 3) := by decide +kernel
theorem dX9_init_14 : decode cX9_init 14 = .ok (.putfield 14, 3) := by decide +kernel
theorem dX9_init_17 : decode cX9_init 17 = .ok (.aload_n 0, 1) := by decide +kernel
theorem dX9_init_18 : decode cX9_init 18 = .ok (.new 9, 3) := by decide +kernel
theorem dX9_init_21 : decode cX9_init 21 = .ok (.dup, 1) := by decide +kernel
theorem dX9_init_22 : decode cX9_init 22 = .ok (.iconst 0, 1) := by decide +kernel
theorem dX9_init_23 : decode cX9_init 23 = .ok (.invokespecial 11, 3) := by decide +kernel
theorem dX9_init_26 : decode cX9_init 26 = .ok (.putfield 20, 3) := by decide +kernel
theorem dX9_init_29 : decode cX9_init 29 = .ok (.iconst 0, 1) := by decide +kernel
theorem dX9_init_30 : decode cX9_init 30 = .ok (.istore_n 1, 1) := by decide +kernel
theorem dX9_init_31 : decode cX9_init 31 = .ok (.iconst 0, 1) := by decide +kernel
theorem dX9_init_32 : decode cX9_init 32 = .ok (.istore_n 2, 1) := by decide +kernel
theorem dX9_init_33 : decode cX9_init 33 = .ok (.bipush 25, 2) := by decide +kernel
theorem dX9_init_35 : decode cX9_init 35 = .ok (.istore_n 3, 1) := by decide +kernel
theorem dX9_init_36 : decode cX9_init 36 = .ok (.iconst 0, 1) := by decide +kernel
theorem dX9_init_37 : decode cX9_init 37 = .ok (.istore 4, 2) := by decide +kernel
theorem dX9_init_39 : decode cX9_init 39 = .ok (.iload 4, 2) := by decide +kernel
theorem dX9_init_41 : decode cX9_init 41 = .ok (.ldc 23, 2) := by decide +kernel
theorem dX9_init_43 : decode cX9_init 43 = .ok (.invokevirtual 25, 3) := by decide +kernel
theorem dX9_init_46 : decode cX9_init 46 = .ok (.if_icmp .ge 60, 3) := by decide +kernel
theorem dX9_init_49 : decode cX9_init 49 = .ok (.ldc 23, 2) := by decide +kernel
theorem dX9_init_51 : decode cX9_init 51 = .ok (.iload 4, 2) := by decide +kernel
theorem dX9_init_53 : decode cX9_init 53 = .ok (.invokevirtual 31, 3) := by decide +kernel
theorem dX9_init_56 : decode cX9_init 56 = .ok (.istore 5, 2) := by decide +kernel
theorem dX9_init_58 : decode cX9_init 58 = .ok (.iload 5, 2) := by decide +kernel
theorem dX9_init_60 : decode cX9_init 60 = .ok (.bipush 32, 2) := by decide +kernel
theorem dX9_init_62 : decode cX9_init 62 = .ok (.if_icmp .ne 14, 3) := by decide +kernel
theorem dX9_init_65 : decode cX9_init 65 = .ok (.iinc 1 1, 3) := by decide +kernel
theorem dX9_init_68 : decode cX9_init 68 = .ok (.iconst 0, 1) := by decide +kernel
theorem dX9_init_69 : decode cX9_init 69 = .ok (.istore_n 2, 1) := by decide +kernel
theorem dX9_init_70 : decode cX9_init 70 = .ok (.bipush 25, 2) := by decide +kernel
theorem dX9_init_72 : decode cX9_init 72 = .ok (.istore_n 3, 1) := by decide +kernel
theorem dX9_init_73 : decode cX9_init 73 = .ok (.goto 18, 3) := by decide +kernel
theorem dX9_init_76 : decode cX9_init 76 = .ok (.iload_n 2, 1) := by decide +kernel
theorem dX9_init_77 : decode cX9_init 77 = .ok (.iload 5, 2) := by decide +kernel
theorem dX9_init_79 : decode cX9_init 79 = .ok (.bipush 97, 2) := by decide +kernel
theorem dX9_init_81 : decode cX9_init 81 = .ok (.isub, 1) := by decide +kernel
theorem dX9_init_82 : decode cX9_init 82 = .ok (.iconst 1, 1) := by decide +kernel
theorem dX9_init_83 : decode cX9_init 83 = .ok (.iadd, 1) := by decide +kernel
theorem dX9_init_84 : decode cX9_init 84 = .ok (.iload_n 3, 1) := by decide +kernel
theorem dX9_init_85 : decode cX9_init 85 = .ok (.ishl, 1) := by decide +kernel
theorem dX9_init_86 : decode cX9_init 86 = .ok (.ior, 1) := by decide +kernel
theorem dX9_init_87 : decode cX9_init 87 = .ok (.istore_n 2, 1) := by decide +kernel
theorem dX9_init_88 : decode cX9_init 88 = .ok (.iinc 3 (-5), 3) := by decide +kernel
theorem dX9_init_91 : decode cX9_init 91 = .ok (.aload_n 0, 1) := by decide +kernel
theorem dX9_init_92 : decode cX9_init 92 = .ok (.getfield 14, 3) := by decide +kernel
theorem dX9_init_95 : decode cX9_init 95 = .ok (.iload_n 1, 1) := by decide +kernel
theorem dX9_init_96 : decode cX9_init 96 = .ok (.iload_n 2, 1) := by decide +kernel
theorem dX9_init_97 : decode cX9_init 97 = .ok (.invokevirtual 35, 3) := by decide +kernel
theorem dX9_init_100 : decode cX9_init 100 = .ok (.iinc 4 1, 3) := by decide +kernel
theorem dX9_init_103 : decode cX9_init 103 = .ok (.goto (-64), 3) := by decide +kernel
theorem dX9_init_106 : decode cX9_init 106 = .ok (.return_, 1) := by decide +kernel
theorem dX9_begin_0 : decode cX9_begin 0 = .ok (.aload_n 0, 1) := by decide +kernel
theorem dX9_begin_1 : decode cX9_begin 1 = .ok (.aload_n 1, 1) := by decide +kernel
theorem dX9_begin_2 : decode cX9_begin 2 = .ok (.putfield 20, 3) := by decide +kernel
theorem dX9_begin_5 : decode cX9_begin 5 = .ok (.aload_n 0, 1) := by decide +kernel
theorem dX9_begin_6 : decode cX9_begin 6 = .ok (.iload_n 2, 1) := by decide +kernel
theorem dX9_begin_7 : decode cX9_begin 7 = .ok (.putfield 39, 3) := by decide +kernel
theorem dX9_begin_10 : decode cX9_begin 10 = .ok (.aload_n 0, 1) := by decide +kernel
theorem dX9_begin_11 : decode cX9_begin 11 = .ok (.iconst 0, 1) := by decide +kernel
theorem dX9_begin_12 : decode cX9_begin 12 = .ok (.putfield 43, 3) := by decide +kernel
theorem dX9_begin_15 : decode cX9_begin 15 = .ok (.aload_n 0, 1) := by decide +kernel
theorem dX9_begin_16 : decode cX9_begin 16 = .ok (.invokevirtual 46, 3) := by decide +kernel
theorem dX9_begin_19 : decode cX9_begin 19 = .ok (.return_, 1) := by decide +kernel
theorem dX9_next_0 : decode cX9_next 0 = .ok (.aload_n 0, 1) := by decide +kernel
theorem dX9_next_1 : decode cX9_next 1 = .ok (.getfield 43, 3) := by decide +kernel
theorem dX9_next_4 : decode cX9_next 4 = .ok (.aload_n 0, 1) := by decide +kernel
theorem dX9_next_5 : decode cX9_next 5 = .ok (.getfield 39, 3) := by decide +kernel
theorem dX9_next_8 : decode cX9_next 8 = .ok (.if_icmp .ge 33, 3) := by decide +kernel
theorem dX9_next_11 : decode cX9_next 11 = .ok (.aload_n 0, 1) := by decide +kernel
theorem dX9_next_12 : decode cX9_next 12 = .ok (.getfield 20, 3) := by decide +kernel
theorem dX9_next_15 : decode cX9_next 15 = .ok (.aload_n 0, 1) := by decide +kernel
theorem dX9_next_16 : decode cX9_next 16 = .ok (.getfield 43, 3) := by decide +kernel
theorem dX9_next_19 : decode cX9_next 19 = .ok (.invokevirtual 49, 3) := by decide +kernel
theorem dX9_next_22 : decode cX9_next 22 = .ok (.invokestatic 53, 3) := by decide +kernel
theorem dX9_next_25 : decode cX9_next 25 = .ok (.ifCond .eq 16, 3) := by decide +kernel
theorem dX9_next_28 : decode cX9_next 28 = .ok (.aload_n 0, 1) := by decide +kernel
theorem dX9_next_29 : decode cX9_next 29 = .ok (.dup, 1) := by decide +kernel
theorem dX9_next_30 : decode cX9_next 30 = .ok (.getfield 43, 3) := by decide +kernel
theorem dX9_next_33 : decode cX9_next 33 = .ok (.iconst 1, 1) := by decide +kernel
theorem dX9_next_34 : decode cX9_next 34 = .ok (.iadd, 1) := by decide +kernel
theorem dX9_next_35 : decode cX9_next 35 = .ok (.putfield 43, 3) := by decide +kernel
theorem dX9_next_38 : decode cX9_next 38 = .ok (.goto (-38), 3) := by decide +kernel
theorem dX9_next_41 : decode cX9_next 41 = .ok (.aload_n 0, 1) := by decide +kernel
theorem dX9_next_42 : decode cX9_next 42 = .ok (.aload_n 0, 1) := by decide +kernel
theorem dX9_next_43 : decode cX9_next 43 = .ok (.getfield 43, 3) := by decide +kernel
theorem dX9_next_46 : decode cX9_next 46 = .ok (.putfield 57, 3) := by decide +kernel
theorem dX9_next_49 : decode cX9_next 49 = .ok (.aload_n 0, 1) := by decide +kernel
theorem dX9_next_50 : decode cX9_next 50 = .ok (.getfield 20, 3) := by decide +kernel
theorem dX9_next_53 : decode cX9_next 53 = .ok (.aload_n 0, 1) := by decide +kernel
theorem dX9_next_54 : decode cX9_next 54 = .ok (.getfield 43, 3) := by decide +kernel
theorem dX9_next_57 : decode cX9_next 57 = .ok (.invokevirtual 49, 3) := by decide +kernel
theorem dX9_next_60 : decode cX9_next 60 = .ok (.istore_n 1, 1) := by decide +kernel
theorem dX9_next_61 : decode cX9_next 61 = .ok (.aload_n 0, 1) := by decide +kernel
theorem dX9_next_62 : decode cX9_next 62 = .ok (.getfield 43, 3) := by decide +kernel
theorem dX9_next_65 : decode cX9_next 65 = .ok (.aload_n 0, 1) := by decide +kernel
theorem dX9_next_66 : decode cX9_next 66 = .ok (.getfield 39, 3) := by decide +kernel
theorem dX9_next_69 : decode cX9_next 69 = .ok (.if_icmp .lt 11, 3) := by decide +kernel
theorem dX9_next_72 : decode cX9_next 72 = .ok (.aload_n 0, 1) := by decide +kernel
theorem dX9_next_73 : decode cX9_next 73 = .ok (.iconst 0, 1) := by decide +kernel
theorem dX9_next_74 : decode cX9_next 74 = .ok (.putfield 60, 3) := by decide +kernel
theorem dX9_next_77 : decode cX9_next 77 = .ok (.goto 36, 3) := by decide +kernel
theorem dX9_next_80 : decode cX9_next 80 = .ok (.iload_n 1, 1) := by decide +kernel
theorem dX9_next_81 : decode cX9_next 81 = .ok (.invokestatic 63, 3) := by decide +kernel
theorem dX9_next_84 : decode cX9_next 84 = .ok (.ifCond .eq 10, 3) := by decide +kernel
theorem dX9_next_87 : decode cX9_next 87 = .ok (.aload_n 0, 1) := by decide +kernel
theorem dX9_next_88 : decode cX9_next 88 = .ok (.invokevirtual 66, 3) := by decide +kernel
theorem dX9_next_91 : decode cX9_next 91 = .ok (.goto 22, 3) := by decide +kernel
theorem dX9_next_94 : decode cX9_next 94 = .ok (.iload_n 1, 1) := by decide +kernel
theorem dX9_next_95 : decode cX9_next 95 = .ok (.invokestatic 69, 3) := by decide +kernel
theorem dX9_next_98 : decode cX9_next 98 = .ok (.ifCond .eq 10, 3) := by decide +kernel
theorem dX9_next_101 : decode cX9_next 101 = .ok (.aload_n 0, 1) := by decide +kernel
theorem dX9_next_102 : decode cX9_next 102 = .ok (.invokevirtual 72, 3) := by decide +kernel
theorem dX9_next_105 : decode cX9_next 105 = .ok (.goto 8, 3) := by decide +kernel
theorem dX9_next_108 : decode cX9_next 108 = .ok (.aload_n 0, 1) := by decide +kernel
theorem dX9_next_109 : decode cX9_next 109 = .ok (.iload_n 1, 1) := by decide +kernel
theorem dX9_next_110 : decode cX9_next 110 = .ok (.invokevirtual 75, 3) := by decide +kernel
theorem dX9_next_113 : decode cX9_next 113 = .ok (.return_, 1) := by decide +kernel
theorem dX9_isBlank_0 : decode cX9_isBlank 0 = .ok (.iload_n 0, 1) := by decide +kernel
theorem dX9_isBlank_1 : decode cX9_isBlank 1 = .ok (.bipush 32, 2) := by decide +kernel
theorem dX9_isBlank_3 : decode cX9_isBlank 3 = .ok (.if_icmp .eq 9, 3) := by decide +kernel
theorem dX9_isBlank_6 : decode cX9_isBlank 6 = .ok (.iload_n 0, 1) := by decide +kernel
theorem dX9_isBlank_7 : decode cX9_isBlank 7 = .ok (.bipush 10, 2) := by decide +kernel
theorem dX9_isBlank_9 : decode cX9_isBlank 9 = .ok (.if_icmp .ne 7, 3) := by decide +kernel
theorem dX9_isBlank_12 : decode cX9_isBlank 12 = .ok (.iconst 1, 1) := by decide +kernel
theorem dX9_isBlank_13 : decode cX9_isBlank 13 = .ok (.goto 4, 3) := by decide +kernel
theorem dX9_isBlank_16 : decode cX9_isBlank 16 = .ok (.iconst 0, 1) := by decide +kernel
theorem dX9_isBlank_17 : decode cX9_isBlank 17 = .ok (.ireturn, 1) := by decide +kernel
theorem dX9_isLetter_0 : decode cX9_isLetter 0 = .ok (.iload_n 0, 1) := by decide +kernel
theorem dX9_isLetter_1 : decode cX9_isLetter 1 = .ok (.bipush 97, 2) := by decide +kernel
theorem dX9_isLetter_3 : decode cX9_isLetter 3 = .ok (.if_icmp .lt 13, 3) := by decide +kernel
theorem dX9_isLetter_6 : decode cX9_isLetter 6 = .ok (.iload_n 0, 1) := by decide +kernel
theorem dX9_isLetter_7 : decode cX9_isLetter 7 = .ok (.bipush 122, 2) := by decide +kernel
theorem dX9_isLetter_9 : decode cX9_isLetter 9 = .ok (.if_icmp .gt 7, 3) := by decide +kernel
theorem dX9_isLetter_12 : decode cX9_isLetter 12 = .ok (.iconst 1, 1) := by decide +kernel
theorem dX9_isLetter_13 : decode cX9_isLetter 13 = .ok (.goto 4, 3) := by decide +kernel
theorem dX9_isLetter_16 : decode cX9_isLetter 16 = .ok (.iconst 0, 1) := by decide +kernel
theorem dX9_isLetter_17 : decode cX9_isLetter 17 = .ok (.ireturn, 1) := by decide +kernel
theorem dX9_isDigit_0 : decode cX9_isDigit 0 = .ok (.iload_n 0, 1) := by decide +kernel
theorem dX9_isDigit_1 : decode cX9_isDigit 1 = .ok (.bipush 48, 2) := by decide +kernel
theorem dX9_isDigit_3 : decode cX9_isDigit 3 = .ok (.if_icmp .lt 13, 3) := by decide +kernel
theorem dX9_isDigit_6 : decode cX9_isDigit 6 = .ok (.iload_n 0, 1) := by decide +kernel
theorem dX9_isDigit_7 : decode cX9_isDigit 7 = .ok (.bipush 57, 2) := by decide +kernel
theorem dX9_isDigit_9 : decode cX9_isDigit 9 = .ok (.if_icmp .gt 7, 3) := by decide +kernel
theorem dX9_isDigit_12 : decode cX9_isDigit 12 = .ok (.iconst 1, 1) := by decide +kernel
theorem dX9_isDigit_13 : decode cX9_isDigit 13 = .ok (.goto 4, 3) := by decide +kernel
theorem dX9_isDigit_16 : decode cX9_isDigit 16 = .ok (.iconst 0, 1) := by decide +kernel
theorem dX9_isDigit_17 : decode cX9_isDigit 17 = .ok (.ireturn, 1) := by decide +kernel
theorem dX9_nextWord_0 : decode cX9_nextWord 0 = .ok (.iconst 0, 1) := by decide +kernel
theorem dX9_nextWord_1 : decode cX9_nextWord 1 = .ok (.istore_n 1, 1) := by decide +kernel
theorem dX9_nextWord_2 : decode cX9_nextWord 2 = .ok (.aload_n 0, 1) := by decide +kernel
theorem dX9_nextWord_3 : decode cX9_nextWord 3 = .ok (.getfield 43, 3) := by decide +kernel
theorem dX9_nextWord_6 : decode cX9_nextWord 6 = .ok (.aload_n 0, 1) := by decide +kernel
theorem dX9_nextWord_7 : decode cX9_nextWord 7 = .ok (.getfield 39, 3) := by decide +kernel
theorem dX9_nextWord_10 : decode cX9_nextWord 10 = .ok (.if_icmp .ge 81, 3) := by decide +kernel
theorem dX9_nextWord_13 : decode cX9_nextWord 13 = .ok (.aload_n 0, 1) := by decide +kernel
theorem dX9_nextWord_14 : decode cX9_nextWord 14 = .ok (.getfield 20, 3) := by decide +kernel
theorem dX9_nextWord_17 : decode cX9_nextWord 17 = .ok (.aload_n 0, 1) := by decide +kernel
theorem dX9_nextWord_18 : decode cX9_nextWord 18 = .ok (.getfield 43, 3) := by decide +kernel
theorem dX9_nextWord_21 : decode cX9_nextWord 21 = .ok (.invokevirtual 49, 3) := by decide +kernel
theorem dX9_nextWord_24 : decode cX9_nextWord 24 = .ok (.invokestatic 63, 3) := by decide +kernel
theorem dX9_nextWord_27 : decode cX9_nextWord 27 = .ok (.ifCond .eq 64, 3) := by decide +kernel
theorem dX9_nextWord_30 : decode cX9_nextWord 30 = .ok (.aload_n 0, 1) := by decide +kernel
theorem dX9_nextWord_31 : decode cX9_nextWord 31 = .ok (.getfield 43, 3) := by decide +kernel
theorem dX9_nextWord_34 : decode cX9_nextWord 34 = .ok (.aload_n 0, 1) := by decide +kernel
theorem dX9_nextWord_35 : decode cX9_nextWord 35 = .ok (.getfield 57, 3) := by decide +kernel
theorem dX9_nextWord_38 : decode cX9_nextWord 38 = .ok (.isub, 1) := by decide +kernel
theorem dX9_nextWord_39 : decode cX9_nextWord 39 = .ok (.bipush 6, 2) := by decide +kernel
theorem dX9_nextWord_41 : decode cX9_nextWord 41 = .ok (.if_icmp .ge 37, 3) := by decide +kernel
theorem dX9_nextWord_44 : decode cX9_nextWord 44 = .ok (.iload_n 1, 1) := by decide +kernel
theorem dX9_nextWord_45 : decode cX9_nextWord 45 = .ok (.aload_n 0, 1) := by decide +kernel
theorem dX9_nextWord_46 : decode cX9_nextWord 46 = .ok (.getfield 20, 3) := by decide +kernel
theorem dX9_nextWord_49 : decode cX9_nextWord 49 = .ok (.aload_n 0, 1) := by decide +kernel
theorem dX9_nextWord_50 : decode cX9_nextWord 50 = .ok (.getfield 43, 3) := by decide +kernel
theorem dX9_nextWord_53 : decode cX9_nextWord 53 = .ok (.invokevirtual 49, 3) := by decide +kernel
theorem dX9_nextWord_56 : decode cX9_nextWord 56 = .ok (.bipush 97, 2) := by decide +kernel
theorem dX9_nextWord_58 : decode cX9_nextWord 58 = .ok (.isub, 1) := by decide +kernel
theorem dX9_nextWord_59 : decode cX9_nextWord 59 = .ok (.iconst 1, 1) := by decide +kernel
theorem dX9_nextWord_60 : decode cX9_nextWord 60 = .ok (.iadd, 1) := by decide +kernel
theorem dX9_nextWord_61 : decode cX9_nextWord 61 = .ok (.bipush 25, 2) := by decide +kernel
theorem dX9_nextWord_63 : decode cX9_nextWord 63 = .ok (.iconst 5, 1) := by decide +kernel
theorem dX9_nextWord_64 : decode cX9_nextWord 64 = .ok (.aload_n 0, 1) := by decide +kernel
theorem dX9_nextWord_65 : decode cX9_nextWord 65 = .ok (.getfield 43, 3) := by decide +kernel
theorem dX9_nextWord_68 : decode cX9_nextWord 68 = .ok (.aload_n 0, 1) := by decide +kernel
theorem dX9_nextWord_69 : decode cX9_nextWord 69 = .ok (.getfield 57, 3) := by decide +kernel
theorem dX9_nextWord_72 : decode cX9_nextWord 72 = .ok (.isub, 1) := by decide +kernel
theorem dX9_nextWord_73 : decode cX9_nextWord 73 = .ok (.imul, 1) := by decide +kernel
theorem dX9_nextWord_74 : decode cX9_nextWord 74 = .ok (.isub, 1) := by decide +kernel
theorem dX9_nextWord_75 : decode cX9_nextWord 75 = .ok (.ishl, 1) := by decide +kernel
theorem dX9_nextWord_76 : decode cX9_nextWord 76 = .ok (.ior, 1) := by decide +kernel
theorem dX9_nextWord_77 : decode cX9_nextWord 77 = .ok (.istore_n 1, 1) := by decide +kernel
theorem dX9_nextWord_78 : decode cX9_nextWord 78 = .ok (.aload_n 0, 1) := by decide +kernel
theorem dX9_nextWord_79 : decode cX9_nextWord 79 = .ok (.dup, 1) := by decide +kernel
theorem dX9_nextWord_80 : decode cX9_nextWord 80 = .ok (.getfield 43, 3) := by decide +kernel
theorem dX9_nextWord_83 : decode cX9_nextWord 83 = .ok (.iconst 1, 1) := by decide +kernel
theorem dX9_nextWord_84 : decode cX9_nextWord 84 = .ok (.iadd, 1) := by decide +kernel
theorem dX9_nextWord_85 : decode cX9_nextWord 85 = .ok (.putfield 43, 3) := by decide +kernel
theorem dX9_nextWord_88 : decode cX9_nextWord 88 = .ok (.goto (-86), 3) := by decide +kernel
theorem dX9_nextWord_91 : decode cX9_nextWord 91 = .ok (.aload_n 0, 1) := by decide +kernel
theorem dX9_nextWord_92 : decode cX9_nextWord 92 = .ok (.aload_n 0, 1) := by decide +kernel
theorem dX9_nextWord_93 : decode cX9_nextWord 93 = .ok (.getfield 43, 3) := by decide +kernel
theorem dX9_nextWord_96 : decode cX9_nextWord 96 = .ok (.aload_n 0, 1) := by decide +kernel
theorem dX9_nextWord_97 : decode cX9_nextWord 97 = .ok (.getfield 57, 3) := by decide +kernel
theorem dX9_nextWord_100 : decode cX9_nextWord 100 = .ok (.isub, 1) := by decide +kernel
theorem dX9_nextWord_101 : decode cX9_nextWord 101 = .ok (.bipush 6, 2) := by decide +kernel
theorem dX9_nextWord_103 : decode cX9_nextWord 103 = .ok (.if_icmp .le 7, 3) := by decide +kernel
theorem dX9_nextWord_106 : decode cX9_nextWord 106 = .ok (.iconst 1, 1) := by decide +kernel
theorem dX9_nextWord_107 : decode cX9_nextWord 107 = .ok (.goto 4, 3) := by decide +kernel
theorem dX9_nextWord_110 : decode cX9_nextWord 110 = .ok (.iconst 2, 1) := by decide +kernel
theorem dX9_nextWord_111 : decode cX9_nextWord 111 = .ok (.putfield 60, 3) := by decide +kernel
theorem dX9_nextWord_114 : decode cX9_nextWord 114 = .ok (.aload_n 0, 1) := by decide +kernel
theorem dX9_nextWord_115 : decode cX9_nextWord 115 = .ok (.iload_n 1, 1) := by decide +kernel
theorem dX9_nextWord_116 : decode cX9_nextWord 116 = .ok (.putfield 78, 3) := by decide +kernel
theorem dX9_nextWord_119 : decode cX9_nextWord 119 = .ok (.iconst 0, 1) := by decide +kernel
theorem dX9_nextWord_120 : decode cX9_nextWord 120 = .ok (.istore_n 2, 1) := by decide +kernel
theorem dX9_nextWord_121 : decode cX9_nextWord 121 = .ok (.iload_n 2, 1) := by decide +kernel
theorem dX9_nextWord_122 : decode cX9_nextWord 122 = .ok (.bipush 20, 2) := by decide +kernel
theorem dX9_nextWord_124 : decode cX9_nextWord 124 = .ok (.if_icmp .ge 39, 3) := by decide +kernel
theorem dX9_nextWord_127 : decode cX9_nextWord 127 = .ok (.aload_n 0, 1) := by decide +kernel
theorem dX9_nextWord_128 : decode cX9_nextWord 128 = .ok (.getfield 60, 3) := by decide +kernel
theorem dX9_nextWord_131 : decode cX9_nextWord 131 = .ok (.iconst 2, 1) := by decide +kernel
theorem dX9_nextWord_132 : decode cX9_nextWord 132 = .ok (.if_icmp .ne 31, 3) := by decide +kernel
theorem dX9_nextWord_135 : decode cX9_nextWord 135 = .ok (.aload_n 0, 1) := by decide +kernel
theorem dX9_nextWord_136 : decode cX9_nextWord 136 = .ok (.getfield 14, 3) := by decide +kernel
theorem dX9_nextWord_139 : decode cX9_nextWord 139 = .ok (.iload_n 2, 1) := by decide +kernel
theorem dX9_nextWord_140 : decode cX9_nextWord 140 = .ok (.invokevirtual 49, 3) := by decide +kernel
theorem dX9_nextWord_143 : decode cX9_nextWord 143 = .ok (.iload_n 1, 1) := by decide +kernel
theorem dX9_nextWord_144 : decode cX9_nextWord 144 = .ok (.if_icmp .ne 13, 3) := by decide +kernel
theorem dX9_nextWord_147 : decode cX9_nextWord 147 = .ok (.aload_n 0, 1) := by decide +kernel
theorem dX9_nextWord_148 : decode cX9_nextWord 148 = .ok (.iconst 3, 1) := by decide +kernel
theorem dX9_nextWord_149 : decode cX9_nextWord 149 = .ok (.putfield 60, 3) := by decide +kernel
theorem dX9_nextWord_152 : decode cX9_nextWord 152 = .ok (.aload_n 0, 1) := by decide +kernel
theorem dX9_nextWord_153 : decode cX9_nextWord 153 = .ok (.iload_n 2, 1) := by decide +kernel
theorem dX9_nextWord_154 : decode cX9_nextWord 154 = .ok (.putfield 78, 3) := by decide +kernel
theorem dX9_nextWord_157 : decode cX9_nextWord 157 = .ok (.iinc 2 1, 3) := by decide +kernel
theorem dX9_nextWord_160 : decode cX9_nextWord 160 = .ok (.goto (-39), 3) := by decide +kernel
theorem dX9_nextWord_163 : decode cX9_nextWord 163 = .ok (.aload_n 0, 1) := by decide +kernel
theorem dX9_nextWord_164 : decode cX9_nextWord 164 = .ok (.getfield 60, 3) := by decide +kernel
theorem dX9_nextWord_167 : decode cX9_nextWord 167 = .ok (.iconst 3, 1) := by decide +kernel
theorem dX9_nextWord_168 : decode cX9_nextWord 168 = .ok (.if_icmp .ne 40, 3) := by decide +kernel
theorem dX9_nextWord_171 : decode cX9_nextWord 171 = .ok (.aload_n 0, 1) := by decide +kernel
theorem dX9_nextWord_172 : decode cX9_nextWord 172 = .ok (.getfield 78, 3) := by decide +kernel
theorem dX9_nextWord_175 : decode cX9_nextWord 175 = .ok (.bipush 10, 2) := by decide +kernel
theorem dX9_nextWord_177 : decode cX9_nextWord 177 = .ok (.if_icmp .lt 31, 3) := by decide +kernel
theorem dX9_nextWord_180 : decode cX9_nextWord 180 = .ok (.aload_n 0, 1) := by decide +kernel
theorem dX9_nextWord_181 : decode cX9_nextWord 181 = .ok (.getfield 78, 3) := by decide +kernel
theorem dX9_nextWord_184 : decode cX9_nextWord 184 = .ok (.bipush 12, 2) := by decide +kernel
theorem dX9_nextWord_186 : decode cX9_nextWord 186 = .ok (.if_icmp .gt 22, 3) := by decide +kernel
theorem dX9_nextWord_189 : decode cX9_nextWord 189 = .ok (.aload_n 0, 1) := by decide +kernel
theorem dX9_nextWord_190 : decode cX9_nextWord 190 = .ok (.bipush 8, 2) := by decide +kernel
theorem dX9_nextWord_192 : decode cX9_nextWord 192 = .ok (.putfield 60, 3) := by decide +kernel
theorem dX9_nextWord_195 : decode cX9_nextWord 195 = .ok (.aload_n 0, 1) := by decide +kernel
theorem dX9_nextWord_196 : decode cX9_nextWord 196 = .ok (.iconst 3, 1) := by decide +kernel
theorem dX9_nextWord_197 : decode cX9_nextWord 197 = .ok (.aload_n 0, 1) := by decide +kernel
theorem dX9_nextWord_198 : decode cX9_nextWord 198 = .ok (.getfield 78, 3) := by decide +kernel
theorem dX9_nextWord_201 : decode cX9_nextWord 201 = .ok (.iadd, 1) := by decide +kernel
theorem dX9_nextWord_202 : decode cX9_nextWord 202 = .ok (.bipush 10, 2) := by decide +kernel
theorem dX9_nextWord_204 : decode cX9_nextWord 204 = .ok (.isub, 1) := by decide +kernel
theorem dX9_nextWord_205 : decode cX9_nextWord 205 = .ok (.putfield 78, 3) := by decide +kernel
theorem dX9_nextWord_208 : decode cX9_nextWord 208 = .ok (.return_, 1) := by decide +kernel
theorem dX9_nextNumber_0 : decode cX9_nextNumber 0 = .ok (.aload_n 0, 1) := by decide +kernel
theorem dX9_nextNumber_1 : decode cX9_nextNumber 1 = .ok (.iconst 4, 1) := by decide +kernel
theorem dX9_nextNumber_2 : decode cX9_nextNumber 2 = .ok (.putfield 60, 3) := by decide +kernel
theorem dX9_nextNumber_5 : decode cX9_nextNumber 5 = .ok (.aload_n 0, 1) := by decide +kernel
theorem dX9_nextNumber_6 : decode cX9_nextNumber 6 = .ok (.iconst 0, 1) := by decide +kernel
theorem dX9_nextNumber_7 : decode cX9_nextNumber 7 = .ok (.putfield 78, 3) := by decide +kernel
theorem dX9_nextNumber_10 : decode cX9_nextNumber 10 = .ok (.aload_n 0, 1) := by decide +kernel
theorem dX9_nextNumber_11 : decode cX9_nextNumber 11 = .ok (.getfield 43, 3) := by decide +kernel
theorem dX9_nextNumber_14 : decode cX9_nextNumber 14 = .ok (.aload_n 0, 1) := by decide +kernel
theorem dX9_nextNumber_15 : decode cX9_nextNumber 15 = .ok (.getfield 39, 3) := by decide +kernel
theorem dX9_nextNumber_18 : decode cX9_nextNumber 18 = .ok (.if_icmp .ge 64, 3) := by decide +kernel
theorem dX9_nextNumber_21 : decode cX9_nextNumber 21 = .ok (.aload_n 0, 1) := by decide +kernel
theorem dX9_nextNumber_22 : decode cX9_nextNumber 22 = .ok (.getfield 20, 3) := by decide +kernel
theorem dX9_nextNumber_25 : decode cX9_nextNumber 25 = .ok (.aload_n 0, 1) := by decide +kernel
theorem dX9_nextNumber_26 : decode cX9_nextNumber 26 = .ok (.getfield 43, 3) := by decide +kernel
theorem dX9_nextNumber_29 : decode cX9_nextNumber 29 = .ok (.invokevirtual 49, 3) := by decide +kernel
theorem dX9_nextNumber_32 : decode cX9_nextNumber 32 = .ok (.invokestatic 69, 3) := by decide +kernel
theorem dX9_nextNumber_35 : decode cX9_nextNumber 35 = .ok (.ifCond .eq 47, 3) := by decide +kernel
theorem dX9_nextNumber_38 : decode cX9_nextNumber 38 = .ok (.aload_n 0, 1) := by decide +kernel
theorem dX9_nextNumber_39 : decode cX9_nextNumber 39 = .ok (.ldc 81, 2) := by decide +kernel
theorem dX9_nextNumber_41 : decode cX9_nextNumber 41 = .ok (.aload_n 0, 1) := by decide +kernel
theorem dX9_nextNumber_42 : decode cX9_nextNumber 42 = .ok (.getfield 78, 3) := by decide +kernel
theorem dX9_nextNumber_45 : decode cX9_nextNumber 45 = .ok (.bipush 10, 2) := by decide +kernel
theorem dX9_nextNumber_47 : decode cX9_nextNumber 47 = .ok (.imul, 1) := by decide +kernel
theorem dX9_nextNumber_48 : decode cX9_nextNumber 48 = .ok (.aload_n 0, 1) := by decide +kernel
theorem dX9_nextNumber_49 : decode cX9_nextNumber 49 = .ok (.getfield 20, 3) := by decide +kernel
theorem dX9_nextNumber_52 : decode cX9_nextNumber 52 = .ok (.aload_n 0, 1) := by decide +kernel
theorem dX9_nextNumber_53 : decode cX9_nextNumber 53 = .ok (.getfield 43, 3) := by decide +kernel
theorem dX9_nextNumber_56 : decode cX9_nextNumber 56 = .ok (.invokevirtual 49, 3) := by decide +kernel
theorem dX9_nextNumber_59 : decode cX9_nextNumber 59 = .ok (.iadd, 1) := by decide +kernel
theorem dX9_nextNumber_60 : decode cX9_nextNumber 60 = .ok (.bipush 48, 2) := by decide +kernel
theorem dX9_nextNumber_62 : decode cX9_nextNumber 62 = .ok (.isub, 1) := by decide +kernel
theorem dX9_nextNumber_63 : decode cX9_nextNumber 63 = .ok (.invokestatic 82, 3) := by decide +kernel
