theorem dX7_reads_126 : decode cX7_reads 126 = .ok (.iconst 0, 1) := by decide +kernel
theorem dX7_reads_127 : decode cX7_reads 127 = .ok (.ireturn, 1) := by decide +kernel
theorem dX7_reads_128 : decode cX7_reads 128 = .ok (.iload_n 1, 1) := by decide +kernel
theorem dX7_reads_129 : decode cX7_reads 129 = .ok (.aload_n 0, 1) := by decide +kernel
theorem dX7_reads_130 : decode cX7_reads 130 = .ok (.getfield 25, 3) := by decide +kernel
theorem dX7_reads_133 : decode cX7_reads 133 = .ok (.getfield 72, 3) := by decide +kernel
theorem dX7_reads_136 : decode cX7_reads 136 = .ok (.invokestatic 68, 3) := by decide +kernel
theorem dX7_reads_139 : decode cX7_reads 139 = .ok (.ifCond .eq 20, 3) := by decide +kernel
theorem dX7_reads_142 : decode cX7_reads 142 = .ok (.aload_n 0, 1) := by decide +kernel
theorem dX7_reads_143 : decode cX7_reads 143 = .ok (.iconst 5, 1) := by decide +kernel
theorem dX7_reads_144 : decode cX7_reads 144 = .ok (.iload_n 1, 1) := by decide +kernel
theorem dX7_reads_145 : decode cX7_reads 145 = .ok (.bipush 65, 2) := by decide +kernel
theorem dX7_reads_147 : decode cX7_reads 147 = .ok (.isub, 1) := by decide +kernel
theorem dX7_reads_148 : decode cX7_reads 148 = .ok (.iconst 0, 1) := by decide +kernel
theorem dX7_reads_149 : decode cX7_reads 149 = .ok (.invokevirtual 61, 3) := by decide +kernel
theorem dX7_reads_152 : decode cX7_reads 152 = .ok (.ifCond .eq 7, 3) := by decide +kernel
theorem dX7_reads_155 : decode cX7_reads 155 = .ok (.iconst 1, 1) := by decide +kernel
theorem dX7_reads_156 : decode cX7_reads 156 = .ok (.goto 4, 3) := by decide +kernel
theorem dX7_reads_159 : decode cX7_reads 159 = .ok (.iconst 0, 1) := by decide +kernel
theorem dX7_reads_160 : decode cX7_reads 160 = .ok (.ireturn, 1) := by decide +kernel
theorem dX7_reads_161 : decode cX7_reads 161 = .ok (.aload_n 0, 1) := by decide +kernel
theorem dX7_reads_162 : decode cX7_reads 162 = .ok (.iload_n 1, 1) := by decide +kernel
theorem dX7_reads_163 : decode cX7_reads 163 = .ok (.invokevirtual 75, 3) := by decide +kernel
theorem dX7_reads_166 : decode cX7_reads 166 = .ok (.ireturn, 1) := by decide +kernel
theorem dX7_reads_167 : decode cX7_reads 167 = .ok (.iload_n 1, 1) := by decide +kernel
theorem dX7_reads_168 : decode cX7_reads 168 = .ok (.aload_n 0, 1) := by decide +kernel
theorem dX7_reads_169 : decode cX7_reads 169 = .ok (.getfield 25, 3) := by decide +kernel
theorem dX7_reads_172 : decode cX7_reads 172 = .ok (.getfield 78, 3) := by decide +kernel
theorem dX7_reads_175 : decode cX7_reads 175 = .ok (.aload_n 0, 1) := by decide +kernel
theorem dX7_reads_176 : decode cX7_reads 176 = .ok (.getfield 36, 3) := by decide +kernel
theorem dX7_reads_179 : decode cX7_reads 179 = .ok (.iaload, 1) := by decide +kernel
theorem dX7_reads_180 : decode cX7_reads 180 = .ok (.invokestatic 68, 3) := by decide +kernel
theorem dX7_reads_183 : decode cX7_reads 183 = .ok (.ifCond .eq 24, 3) := by decide +kernel
theorem dX7_reads_186 : decode cX7_reads 186 = .ok (.aload_n 0, 1) := by decide +kernel
theorem dX7_reads_187 : decode cX7_reads 187 = .ok (.bipush 6, 2) := by decide +kernel
theorem dX7_reads_189 : decode cX7_reads 189 = .ok (.aload_n 0, 1) := by decide +kernel
theorem dX7_reads_190 : decode cX7_reads 190 = .ok (.getfield 36, 3) := by decide +kernel
theorem dX7_reads_193 : decode cX7_reads 193 = .ok (.iload_n 1, 1) := by decide +kernel
theorem dX7_reads_194 : decode cX7_reads 194 = .ok (.bipush 65, 2) := by decide +kernel
theorem dX7_reads_196 : decode cX7_reads 196 = .ok (.isub, 1) := by decide +kernel
theorem dX7_reads_197 : decode cX7_reads 197 = .ok (.invokevirtual 61, 3) := by decide +kernel
theorem dX7_reads_200 : decode cX7_reads 200 = .ok (.ifCond .eq 7, 3) := by decide +kernel
theorem dX7_reads_203 : decode cX7_reads 203 = .ok (.iconst 1, 1) := by decide +kernel
theorem dX7_reads_204 : decode cX7_reads 204 = .ok (.goto 4, 3) := by decide +kernel
theorem dX7_reads_207 : decode cX7_reads 207 = .ok (.iconst 0, 1) := by decide +kernel
theorem dX7_reads_208 : decode cX7_reads 208 = .ok (.ireturn, 1) := by decide +kernel
theorem dX7_readsHead_0 : decode cX7_readsHead 0 = .ok (.iload_n 1, 1) := by decide +kernel
theorem dX7_readsHead_1 : decode cX7_readsHead 1 = .ok (.lookupswitch 178 #[(43, 75), (46, 127), (58, 153), (94, 101), (119, 51)], 51) := by decide +kernel
theorem dX7_readsHead_52 : decode cX7_readsHead 52 = .ok (.aload_n 0, 1) := by decide +kernel
theorem dX7_readsHead_53 : decode cX7_readsHead 53 = .ok (.getfield 18, 3) := by decide +kernel
theorem dX7_readsHead_56 : decode cX7_readsHead 56 = .ok (.invokevirtual 81, 3) := by decide +kernel
theorem dX7_readsHead_59 : decode cX7_readsHead 59 = .ok (.ifCond .eq 15, 3) := by decide +kernel
theorem dX7_readsHead_62 : decode cX7_readsHead 62 = .ok (.aload_n 0, 1) := by decide +kernel
theorem dX7_readsHead_63 : decode cX7_readsHead 63 = .ok (.iconst 1, 1) := by decide +kernel
theorem dX7_readsHead_64 : decode cX7_readsHead 64 = .ok (.invokevirtual 85, 3) := by decide +kernel
theorem dX7_readsHead_67 : decode cX7_readsHead 67 = .ok (.ifCond .eq 7, 3) := by decide +kernel
theorem dX7_readsHead_70 : decode cX7_readsHead 70 = .ok (.iconst 1, 1) := by decide +kernel
theorem dX7_readsHead_71 : decode cX7_readsHead 71 = .ok (.goto 4, 3) := by decide +kernel
theorem dX7_readsHead_74 : decode cX7_readsHead 74 = .ok (.iconst 0, 1) := by decide +kernel
theorem dX7_readsHead_75 : decode cX7_readsHead 75 = .ok (.ireturn, 1) := by decide +kernel
theorem dX7_readsHead_76 : decode cX7_readsHead 76 = .ok (.aload_n 0, 1) := by decide +kernel
theorem dX7_readsHead_77 : decode cX7_readsHead 77 = .ok (.getfield 25, 3) := by decide +kernel
theorem dX7_readsHead_80 : decode cX7_readsHead 80 = .ok (.invokevirtual 88, 3) := by decide +kernel
theorem dX7_readsHead_83 : decode cX7_readsHead 83 = .ok (.bipush 12, 2) := by decide +kernel
theorem dX7_readsHead_85 : decode cX7_readsHead 85 = .ok (.if_icmp .ge 15, 3) := by decide +kernel
theorem dX7_readsHead_88 : decode cX7_readsHead 88 = .ok (.aload_n 0, 1) := by decide +kernel
theorem dX7_readsHead_89 : decode cX7_readsHead 89 = .ok (.iconst 3, 1) := by decide +kernel
theorem dX7_readsHead_90 : decode cX7_readsHead 90 = .ok (.invokevirtual 85, 3) := by decide +kernel
theorem dX7_readsHead_93 : decode cX7_readsHead 93 = .ok (.ifCond .eq 7, 3) := by decide +kernel
theorem dX7_readsHead_96 : decode cX7_readsHead 96 = .ok (.iconst 1, 1) := by decide +kernel
theorem dX7_readsHead_97 : decode cX7_readsHead 97 = .ok (.goto 4, 3) := by decide +kernel
theorem dX7_readsHead_100 : decode cX7_readsHead 100 = .ok (.iconst 0, 1) := by decide +kernel
theorem dX7_readsHead_101 : decode cX7_readsHead 101 = .ok (.ireturn, 1) := by decide +kernel
theorem dX7_readsHead_102 : decode cX7_readsHead 102 = .ok (.aload_n 0, 1) := by decide +kernel
theorem dX7_readsHead_103 : decode cX7_readsHead 103 = .ok (.getfield 25, 3) := by decide +kernel
theorem dX7_readsHead_106 : decode cX7_readsHead 106 = .ok (.getfield 65, 3) := by decide +kernel
theorem dX7_readsHead_109 : decode cX7_readsHead 109 = .ok (.bipush 15, 2) := by decide +kernel
theorem dX7_readsHead_111 : decode cX7_readsHead 111 = .ok (.if_icmp .eq 15, 3) := by decide +kernel
theorem dX7_readsHead_114 : decode cX7_readsHead 114 = .ok (.aload_n 0, 1) := by decide +kernel
theorem dX7_readsHead_115 : decode cX7_readsHead 115 = .ok (.iconst 4, 1) := by decide +kernel
theorem dX7_readsHead_116 : decode cX7_readsHead 116 = .ok (.invokevirtual 85, 3) := by decide +kernel
theorem dX7_readsHead_119 : decode cX7_readsHead 119 = .ok (.ifCond .eq 7, 3) := by decide +kernel
theorem dX7_readsHead_122 : decode cX7_readsHead 122 = .ok (.iconst 1, 1) := by decide +kernel
theorem dX7_readsHead_123 : decode cX7_readsHead 123 = .ok (.goto 4, 3) := by decide +kernel
theorem dX7_readsHead_126 : decode cX7_readsHead 126 = .ok (.iconst 0, 1) := by decide +kernel
theorem dX7_readsHead_127 : decode cX7_readsHead 127 = .ok (.ireturn, 1) := by decide +kernel
theorem dX7_readsHead_128 : decode cX7_readsHead 128 = .ok (.aload_n 0, 1) := by decide +kernel
theorem dX7_readsHead_129 : decode cX7_readsHead 129 = .ok (.getfield 25, 3) := by decide +kernel
theorem dX7_readsHead_132 : decode cX7_readsHead 132 = .ok (.getfield 72, 3) := by decide +kernel
theorem dX7_readsHead_135 : decode cX7_readsHead 135 = .ok (.bipush 15, 2) := by decide +kernel
theorem dX7_readsHead_137 : decode cX7_readsHead 137 = .ok (.if_icmp .eq 15, 3) := by decide +kernel
theorem dX7_readsHead_140 : decode cX7_readsHead 140 = .ok (.aload_n 0, 1) := by decide +kernel
theorem dX7_readsHead_141 : decode cX7_readsHead 141 = .ok (.iconst 5, 1) := by decide +kernel
theorem dX7_readsHead_142 : decode cX7_readsHead 142 = .ok (.invokevirtual 85, 3) := by decide +kernel
theorem dX7_readsHead_145 : decode cX7_readsHead 145 = .ok (.ifCond .eq 7, 3) := by decide +kernel
theorem dX7_readsHead_148 : decode cX7_readsHead 148 = .ok (.iconst 1, 1) := by decide +kernel
theorem dX7_readsHead_149 : decode cX7_readsHead 149 = .ok (.goto 4, 3) := by decide +kernel
theorem dX7_readsHead_152 : decode cX7_readsHead 152 = .ok (.iconst 0, 1) := by decide +kernel
theorem dX7_readsHead_153 : decode cX7_readsHead 153 = .ok (.ireturn, 1) := by decide +kernel
theorem dX7_readsHead_154 : decode cX7_readsHead 154 = .ok (.aload_n 0, 1) := by decide +kernel
theorem dX7_readsHead_155 : decode cX7_readsHead 155 = .ok (.getfield 25, 3) := by decide +kernel
theorem dX7_readsHead_158 : decode cX7_readsHead 158 = .ok (.invokevirtual 92, 3) := by decide +kernel
theorem dX7_readsHead_161 : decode cX7_readsHead 161 = .ok (.ifCond .ne 16, 3) := by decide +kernel
theorem dX7_readsHead_164 : decode cX7_readsHead 164 = .ok (.aload_n 0, 1) := by decide +kernel
theorem dX7_readsHead_165 : decode cX7_readsHead 165 = .ok (.bipush 6, 2) := by decide +kernel
theorem dX7_readsHead_167 : decode cX7_readsHead 167 = .ok (.invokevirtual 85, 3) := by decide +kernel
theorem dX7_readsHead_170 : decode cX7_readsHead 170 = .ok (.ifCond .eq 7, 3) := by decide +kernel
theorem dX7_readsHead_173 : decode cX7_readsHead 173 = .ok (.iconst 1, 1) := by decide +kernel
theorem dX7_readsHead_174 : decode cX7_readsHead 174 = .ok (.goto 4, 3) := by decide +kernel
theorem dX7_readsHead_177 : decode cX7_readsHead 177 = .ok (.iconst 0, 1) := by decide +kernel
theorem dX7_readsHead_178 : decode cX7_readsHead 178 = .ok (.ireturn, 1) := by decide +kernel
theorem dX7_readsHead_179 : decode cX7_readsHead 179 = .ok (.iconst 0, 1) := by decide +kernel
theorem dX7_readsHead_180 : decode cX7_readsHead 180 = .ok (.ireturn, 1) := by decide +kernel
theorem dX7_readsSpelling_0 : decode cX7_readsSpelling 0 = .ok (.iload_n 1, 1) := by decide +kernel
theorem dX7_readsSpelling_1 : decode cX7_readsSpelling 1 = .ok (.bipush 97, 2) := by decide +kernel
theorem dX7_readsSpelling_3 : decode cX7_readsSpelling 3 = .ok (.isub, 1) := by decide +kernel
theorem dX7_readsSpelling_4 : decode cX7_readsSpelling 4 = .ok (.invokestatic 58, 3) := by decide +kernel
theorem dX7_readsSpelling_7 : decode cX7_readsSpelling 7 = .ok (.ifCond .eq 15, 3) := by decide +kernel
theorem dX7_readsSpelling_10 : decode cX7_readsSpelling 10 = .ok (.aload_n 0, 1) := by decide +kernel
theorem dX7_readsSpelling_11 : decode cX7_readsSpelling 11 = .ok (.getfield 18, 3) := by decide +kernel
theorem dX7_readsSpelling_14 : decode cX7_readsSpelling 14 = .ok (.iload_n 1, 1) := by decide +kernel
theorem dX7_readsSpelling_15 : decode cX7_readsSpelling 15 = .ok (.bipush 97, 2) := by decide +kernel
theorem dX7_readsSpelling_17 : decode cX7_readsSpelling 17 = .ok (.isub, 1) := by decide +kernel
theorem dX7_readsSpelling_18 : decode cX7_readsSpelling 18 = .ok (.invokevirtual 95, 3) := by decide +kernel
theorem dX7_readsSpelling_21 : decode cX7_readsSpelling 21 = .ok (.ireturn, 1) := by decide +kernel
theorem dX7_readsSpelling_22 : decode cX7_readsSpelling 22 = .ok (.iload_n 1, 1) := by decide +kernel
theorem dX7_readsSpelling_23 : decode cX7_readsSpelling 23 = .ok (.bipush 65, 2) := by decide +kernel
theorem dX7_readsSpelling_25 : decode cX7_readsSpelling 25 = .ok (.isub, 1) := by decide +kernel
theorem dX7_readsSpelling_26 : decode cX7_readsSpelling 26 = .ok (.invokestatic 98, 3) := by decide +kernel
theorem dX7_readsSpelling_29 : decode cX7_readsSpelling 29 = .ok (.ifCond .eq 29, 3) := by decide +kernel
theorem dX7_readsSpelling_32 : decode cX7_readsSpelling 32 = .ok (.aload_n 0, 1) := by decide +kernel
theorem dX7_readsSpelling_33 : decode cX7_readsSpelling 33 = .ok (.getfield 18, 3) := by decide +kernel
theorem dX7_readsSpelling_36 : decode cX7_readsSpelling 36 = .ok (.iload_n 1, 1) := by decide +kernel
theorem dX7_readsSpelling_37 : decode cX7_readsSpelling 37 = .ok (.bipush 65, 2) := by decide +kernel
theorem dX7_readsSpelling_39 : decode cX7_readsSpelling 39 = .ok (.isub, 1) := by decide +kernel
theorem dX7_readsSpelling_40 : decode cX7_readsSpelling 40 = .ok (.invokevirtual 101, 3) := by decide +kernel
theorem dX7_readsSpelling_43 : decode cX7_readsSpelling 43 = .ok (.ifCond .eq 15, 3) := by decide +kernel
theorem dX7_readsSpelling_46 : decode cX7_readsSpelling 46 = .ok (.aload_n 0, 1) := by decide +kernel
theorem dX7_readsSpelling_47 : decode cX7_readsSpelling 47 = .ok (.iconst 2, 1) := by decide +kernel
theorem dX7_readsSpelling_48 : decode cX7_readsSpelling 48 = .ok (.invokevirtual 85, 3) := by decide +kernel
theorem dX7_readsSpelling_51 : decode cX7_readsSpelling 51 = .ok (.ifCond .eq 7, 3) := by decide +kernel
theorem dX7_readsSpelling_54 : decode cX7_readsSpelling 54 = .ok (.iconst 1, 1) := by decide +kernel
theorem dX7_readsSpelling_55 : decode cX7_readsSpelling 55 = .ok (.goto 4, 3) := by decide +kernel
theorem dX7_readsSpelling_58 : decode cX7_readsSpelling 58 = .ok (.iconst 0, 1) := by decide +kernel
theorem dX7_readsSpelling_59 : decode cX7_readsSpelling 59 = .ok (.ireturn, 1) := by decide +kernel
theorem dX7_readsRank_0 : decode cX7_readsRank 0 = .ok (.aload_n 0, 1) := by decide +kernel
theorem dX7_readsRank_1 : decode cX7_readsRank 1 = .ok (.getfield 18, 3) := by decide +kernel
theorem dX7_readsRank_4 : decode cX7_readsRank 4 = .ok (.getfield 39, 3) := by decide +kernel
theorem dX7_readsRank_7 : decode cX7_readsRank 7 = .ok (.iconst 1, 1) := by decide +kernel
theorem dX7_readsRank_8 : decode cX7_readsRank 8 = .ok (.isub, 1) := by decide +kernel
theorem dX7_readsRank_9 : decode cX7_readsRank 9 = .ok (.istore_n 2, 1) := by decide +kernel
theorem dX7_readsRank_10 : decode cX7_readsRank 10 = .ok (.iload_n 1, 1) := by decide +kernel
theorem dX7_readsRank_11 : decode cX7_readsRank 11 = .ok (.bipush 48, 2) := by decide +kernel
theorem dX7_readsRank_13 : decode cX7_readsRank 13 = .ok (.if_icmp .lt 30, 3) := by decide +kernel
theorem dX7_readsRank_16 : decode cX7_readsRank 16 = .ok (.iload_n 1, 1) := by decide +kernel
theorem dX7_readsRank_17 : decode cX7_readsRank 17 = .ok (.bipush 57, 2) := by decide +kernel
theorem dX7_readsRank_19 : decode cX7_readsRank 19 = .ok (.if_icmp .gt 24, 3) := by decide +kernel
theorem dX7_readsRank_22 : decode cX7_readsRank 22 = .ok (.iload_n 2, 1) := by decide +kernel
theorem dX7_readsRank_23 : decode cX7_readsRank 23 = .ok (.ifCond .lt 20, 3) := by decide +kernel
theorem dX7_readsRank_26 : decode cX7_readsRank 26 = .ok (.aload_n 0, 1) := by decide +kernel
theorem dX7_readsRank_27 : decode cX7_readsRank 27 = .ok (.iconst 3, 1) := by decide +kernel
theorem dX7_readsRank_28 : decode cX7_readsRank 28 = .ok (.iload_n 2, 1) := by decide +kernel
theorem dX7_readsRank_29 : decode cX7_readsRank 29 = .ok (.iload_n 1, 1) := by decide +kernel
theorem dX7_readsRank_30 : decode cX7_readsRank 30 = .ok (.bipush 48, 2) := by decide +kernel
theorem dX7_readsRank_32 : decode cX7_readsRank 32 = .ok (.isub, 1) := by decide +kernel
theorem dX7_readsRank_33 : decode cX7_readsRank 33 = .ok (.invokevirtual 61, 3) := by decide +kernel
theorem dX7_readsRank_36 : decode cX7_readsRank 36 = .ok (.ifCond .eq 7, 3) := by decide +kernel
theorem dX7_readsRank_39 : decode cX7_readsRank 39 = .ok (.iconst 1, 1) := by decide +kernel
theorem dX7_readsRank_40 : decode cX7_readsRank 40 = .ok (.goto 4, 3) := by decide +kernel
theorem dX7_readsRank_43 : decode cX7_readsRank 43 = .ok (.iconst 0, 1) := by decide +kernel
theorem dX7_readsRank_44 : decode cX7_readsRank 44 = .ok (.ireturn, 1) := by decide +kernel
theorem dX7_readsLeader_0 : decode cX7_readsLeader 0 = .ok (.iload_n 1, 1) := by decide +kernel
theorem dX7_readsLeader_1 : decode cX7_readsLeader 1 = .ok (.bipush 65, 2) := by decide +kernel
theorem dX7_readsLeader_3 : decode cX7_readsLeader 3 = .ok (.isub, 1) := by decide +kernel
theorem dX7_readsLeader_4 : decode cX7_readsLeader 4 = .ok (.invokestatic 98, 3) := by decide +kernel
theorem dX7_readsLeader_7 : decode cX7_readsLeader 7 = .ok (.ifCond .eq 20, 3) := by decide +kernel
theorem dX7_readsLeader_10 : decode cX7_readsLeader 10 = .ok (.aload_n 0, 1) := by decide +kernel
theorem dX7_readsLeader_11 : decode cX7_readsLeader 11 = .ok (.getfield 25, 3) := by decide +kernel
theorem dX7_readsLeader_14 : decode cX7_readsLeader 14 = .ok (.getfield 78, 3) := by decide +kernel
theorem dX7_readsLeader_17 : decode cX7_readsLeader 17 = .ok (.iload_n 1, 1) := by decide +kernel
theorem dX7_readsLeader_18 : decode cX7_readsLeader 18 = .ok (.bipush 65, 2) := by decide +kernel
theorem dX7_readsLeader_20 : decode cX7_readsLeader 20 = .ok (.isub, 1) := by decide +kernel
theorem dX7_readsLeader_21 : decode cX7_readsLeader 21 = .ok (.iaload, 1) := by decide +kernel
theorem dX7_readsLeader_22 : decode cX7_readsLeader 22 = .ok (.bipush 15, 2) := by decide +kernel
theorem dX7_readsLeader_24 : decode cX7_readsLeader 24 = .ok (.if_icmp .ne 5, 3) := by decide +kernel
theorem dX7_readsLeader_27 : decode cX7_readsLeader 27 = .ok (.iconst 0, 1) := by decide +kernel
theorem dX7_readsLeader_28 : decode cX7_readsLeader 28 = .ok (.ireturn, 1) := by decide +kernel
theorem dX7_readsLeader_29 : decode cX7_readsLeader 29 = .ok (.aload_n 0, 1) := by decide +kernel
theorem dX7_readsLeader_30 : decode cX7_readsLeader 30 = .ok (.iload_n 1, 1) := by decide +kernel
theorem dX7_readsLeader_31 : decode cX7_readsLeader 31 = .ok (.bipush 65, 2) := by decide +kernel
theorem dX7_readsLeader_33 : decode cX7_readsLeader 33 = .ok (.isub, 1) := by decide +kernel
theorem dX7_readsLeader_34 : decode cX7_readsLeader 34 = .ok (.putfield 36, 3) := by decide +kernel
theorem dX7_readsLeader_37 : decode cX7_readsLeader 37 = .ok (.aload_n 0, 1) := by decide +kernel
theorem dX7_readsLeader_38 : decode cX7_readsLeader 38 = .ok (.bipush 7, 2) := by decide +kernel
theorem dX7_readsLeader_40 : decode cX7_readsLeader 40 = .ok (.invokevirtual 85, 3) := by decide +kernel
theorem dX7_readsLeader_43 : decode cX7_readsLeader 43 = .ok (.ireturn, 1) := by decide +kernel
theorem dX7_isFreeKind_0 : decode cX7_isFreeKind 0 = .ok (.iload_n 0, 1) := by decide +kernel
theorem dX7_isFreeKind_1 : decode cX7_isFreeKind 1 = .ok (.bipush 65, 2) := by decide +kernel
theorem dX7_isFreeKind_3 : decode cX7_isFreeKind 3 = .ok (.isub, 1) := by decide +kernel
theorem dX7_isFreeKind_4 : decode cX7_isFreeKind 4 = .ok (.invokestatic 98, 3) := by decide +kernel
theorem dX7_isFreeKind_7 : decode cX7_isFreeKind 7 = .ok (.ifCond .eq 18, 3) := by decide +kernel
theorem dX7_isFreeKind_10 : decode cX7_isFreeKind 10 = .ok (.iload_n 1, 1) := by decide +kernel
theorem dX7_isFreeKind_11 : decode cX7_isFreeKind 11 = .ok (.iload_n 0, 1) := by decide +kernel
theorem dX7_isFreeKind_12 : decode cX7_isFreeKind 12 = .ok (.bipush 65, 2) := by decide +kernel
theorem dX7_isFreeKind_14 : decode cX7_isFreeKind 14 = .ok (.isub, 1) := by decide +kernel
theorem dX7_isFreeKind_15 : decode cX7_isFreeKind 15 = .ok (.ishr, 1) := by decide +kernel
theorem dX7_isFreeKind_16 : decode cX7_isFreeKind 16 = .ok (.iconst 1, 1) := by decide +kernel
theorem dX7_isFreeKind_17 : decode cX7_isFreeKind 17 = .ok (.iand, 1) := by decide +kernel
theorem dX7_isFreeKind_18 : decode cX7_isFreeKind 18 = .ok (.ifCond .ne 7, 3) := by decide +kernel
theorem dX7_isFreeKind_21 : decode cX7_isFreeKind 21 = .ok (.iconst 1, 1) := by decide +kernel
theorem dX7_isFreeKind_22 : decode cX7_isFreeKind 22 = .ok (.goto 4, 3) := by decide +kernel
theorem dX7_isFreeKind_25 : decode cX7_isFreeKind 25 = .ok (.iconst 0, 1) := by decide +kernel
theorem dX7_isFreeKind_26 : decode cX7_isFreeKind 26 = .ok (.ireturn, 1) := by decide +kernel
theorem dX7_turned_0 : decode cX7_turned 0 = .ok (.aload_n 0, 1) := by decide +kernel
theorem dX7_turned_1 : decode cX7_turned 1 = .ok (.getfield 25, 3) := by decide +kernel
theorem dX7_turned_4 : decode cX7_turned 4 = .ok (.iload_n 1, 1) := by decide +kernel
theorem dX7_turned_5 : decode cX7_turned 5 = .ok (.iload_n 2, 1) := by decide +kernel
theorem dX7_turned_6 : decode cX7_turned 6 = .ok (.iload_n 3, 1) := by decide +kernel
theorem dX7_turned_7 : decode cX7_turned 7 = .ok (.invokevirtual 104, 3) := by decide +kernel
theorem dX7_turned_10 : decode cX7_turned 10 = .ok (.aload_n 0, 1) := by decide +kernel
theorem dX7_turned_11 : decode cX7_turned 11 = .ok (.iconst 0, 1) := by decide +kernel
theorem dX7_turned_12 : decode cX7_turned 12 = .ok (.invokevirtual 85, 3) := by decide +kernel
theorem dX7_turned_15 : decode cX7_turned 15 = .ok (.ireturn, 1) := by decide +kernel
theorem dX7_awaits_0 : decode cX7_awaits 0 = .ok (.aload_n 0, 1) := by decide +kernel
theorem dX7_awaits_1 : decode cX7_awaits 1 = .ok (.iload_n 1, 1) := by decide +kernel
theorem dX7_awaits_2 : decode cX7_awaits 2 = .ok (.putfield 33, 3) := by decide +kernel
theorem dX7_awaits_5 : decode cX7_awaits 5 = .ok (.iconst 1, 1) := by decide +kernel
theorem dX7_awaits_6 : decode cX7_awaits 6 = .ok (.ireturn, 1) := by decide +kernel
theorem dX8_init_0 : decode cX8_init 0 = .ok (.aload_n 0, 1) := by decide +kernel
theorem dX8_init_1 : decode cX8_init 1 = .ok (.invokespecial 3, 3) := by decide +kernel
theorem dX8_init_4 : decode cX8_init 4 = .ok (.aload_n 0, 1) := by decide +kernel
theorem dX8_init_5 : decode cX8_init 5 = .ok (.bipush 8, 2) := by decide +kernel
theorem dX8_init_7 : decode cX8_init 7 = .ok (.newarray .int, 2) := by decide +kernel
theorem dX8_init_9 : decode cX8_init 9 = .ok (.putfield 9, 3) := by decide +kernel
theorem dX8_init_12 : decode cX8_init 12 = .ok (.aload_n 0, 1) := by decide +kernel
theorem dX8_init_13 : decode cX8_init 13 = .ok (.bipush 10, 2) := by decide +kernel
theorem dX8_init_15 : decode cX8_init 15 = .ok (.newarray .int, 2) := by decide +kernel
theorem dX8_init_17 : decode cX8_init 17 = .ok (.putfield 15, 3) := by decide +kernel
theorem dX8_init_20 : decode cX8_init 20 = .ok (.aload_n 0, 1) := by decide +kernel
theorem dX8_init_21 : decode cX8_init 21 = .ok (.iconst 4, 1) := by decide +kernel
theorem dX8_init_22 : decode cX8_init 22 = .ok (.newarray .int, 2) := by decide +kernel
theorem dX8_init_24 : decode cX8_init 24 = .ok (.putfield 18, 3) := by decide +kernel
theorem dX8_init_27 : decode cX8_init 27 = .ok (.aload_n 0, 1) := by decide +kernel
theorem dX8_init_28 : decode cX8_init 28 = .ok (.iconst 0, 1) := by decide +kernel
theorem dX8_init_29 : decode cX8_init 29 = .ok (.putfield 21, 3) := by decide +kernel
theorem dX8_init_32 : decode cX8_init 32 = .ok (.aload_n 0, 1) := by decide +kernel
theorem dX8_init_33 : decode cX8_init 33 = .ok (.iconst 0, 1) := by decide +kernel
theorem dX8_init_34 : decode cX8_init 34 = .ok (.putfield 25, 3) := by decide +kernel
theorem dX8_init_37 : decode cX8_init 37 = .ok (.aload_n 0, 1) := by decide +kernel
theorem dX8_init_38 : decode cX8_init 38 = .ok (.iconst 0, 1) := by decide +kernel
theorem dX8_init_39 : decode cX8_init 39 = .ok (.putfield 28, 3) := by decide +kernel
theorem dX8_init_42 : decode cX8_init 42 = .ok (.return_, 1) := by decide +kernel
theorem dX8_copy_0 : decode cX8_copy 0 = .ok (.aload_n 1, 1) := by decide +kernel
theorem dX8_copy_1 : decode cX8_copy 1 = .ok (.getfield 9, 3) := by decide +kernel
theorem dX8_copy_4 : decode cX8_copy 4 = .ok (.iconst 0, 1) := by decide +kernel
theorem dX8_copy_5 : decode cX8_copy 5 = .ok (.aload_n 0, 1) := by decide +kernel
theorem dX8_copy_6 : decode cX8_copy 6 = .ok (.getfield 9, 3) := by decide +kernel
theorem dX8_copy_9 : decode cX8_copy 9 = .ok (.iconst 0, 1) := by decide +kernel
theorem dX8_copy_10 : decode cX8_copy 10 = .ok (.bipush 8, 2) := by decide +kernel
theorem dX8_copy_12 : decode cX8_copy 12 = .ok (.invokestatic 31, 3) := by decide +kernel
theorem dX8_copy_15 : decode cX8_copy 15 = .ok (.aload_n 1, 1) := by decide +kernel
theorem dX8_copy_16 : decode cX8_copy 16 = .ok (.getfield 15, 3) := by decide +kernel
theorem dX8_copy_19 : decode cX8_copy 19 = .ok (.iconst 0, 1) := by decide +kernel
theorem dX8_copy_20 : decode cX8_copy 20 = .ok (.aload_n 0, 1) := by decide +kernel
theorem dX8_copy_21 : decode cX8_copy 21 = .ok (.getfield 15, 3) := by decide +kernel
theorem dX8_copy_24 : decode cX8_copy 24 = .ok (.iconst 0, 1) := by decide +kernel
theorem dX8_copy_25 : decode cX8_copy 25 = .ok (.bipush 10, 2) := by decide +kernel
theorem dX8_copy_27 : decode cX8_copy 27 = .ok (.invokestatic 31, 3) := by decide +kernel
theorem dX8_copy_30 : decode cX8_copy 30 = .ok (.aload_n 1, 1) := by decide +kernel
theorem dX8_copy_31 : decode cX8_copy 31 = .ok (.getfield 18, 3) := by decide +kernel
theorem dX8_copy_34 : decode cX8_copy 34 = .ok (.iconst 0, 1) := by decide +kernel
theorem dX8_copy_35 : decode cX8_copy 35 = .ok (.aload_n 0, 1) := by decide +kernel
theorem dX8_copy_36 : decode cX8_copy 36 = .ok (.getfield 18, 3) := by decide +kernel
theorem dX8_copy_39 : decode cX8_copy 39 = .ok (.iconst 0, 1) := by decide +kernel
theorem dX8_copy_40 : decode cX8_copy 40 = .ok (.iconst 4, 1) := by decide +kernel
theorem dX8_copy_41 : decode cX8_copy 41 = .ok (.invokestatic 31, 3) := by decide +kernel
theorem dX8_copy_44 : decode cX8_copy 44 = .ok (.aload_n 0, 1) := by decide +kernel
theorem dX8_copy_45 : decode cX8_copy 45 = .ok (.aload_n 1, 1) := by decide +kernel
theorem dX8_copy_46 : decode cX8_copy 46 = .ok (.getfield 21, 3) := by decide +kernel
theorem dX8_copy_49 : decode cX8_copy 49 = .ok (.putfield 21, 3) := by decide +kernel
theorem dX8_copy_52 : decode cX8_copy 52 = .ok (.aload_n 0, 1) := by decide +kernel
theorem dX8_copy_53 : decode cX8_copy 53 = .ok (.aload_n 1, 1) := by decide +kernel
theorem dX8_copy_54 : decode cX8_copy 54 = .ok (.getfield 25, 3) := by decide +kernel
theorem dX8_copy_57 : decode cX8_copy 57 = .ok (.putfield 25, 3) := by decide +kernel
theorem dX8_copy_60 : decode cX8_copy 60 = .ok (.aload_n 0, 1) := by decide +kernel
theorem dX8_copy_61 : decode cX8_copy 61 = .ok (.aload_n 1, 1) := by decide +kernel
theorem dX8_copy_62 : decode cX8_copy 62 = .ok (.getfield 28, 3) := by decide +kernel
theorem dX8_copy_65 : decode cX8_copy 65 = .ok (.putfield 28, 3) := by decide +kernel
theorem dX8_copy_68 : decode cX8_copy 68 = .ok (.return_, 1) := by decide +kernel
theorem dX8_change_0 : decode cX8_change 0 = .ok (.iload_n 1, 1) := by decide +kernel
theorem dX8_change_1 : decode cX8_change 1 = .ok (.tableswitch 120 0 5 #[39, 52, 65, 80, 90, 105], 39) := by decide +kernel
theorem dX8_change_40 : decode cX8_change 40 = .ok (.aload_n 0, 1) := by decide +kernel
theorem dX8_change_41 : decode cX8_change 41 = .ok (.getfield 9, 3) := by decide +kernel
theorem dX8_change_44 : decode cX8_change 44 = .ok (.iload_n 2, 1) := by decide +kernel
theorem dX8_change_45 : decode cX8_change 45 = .ok (.dup2, 1) := by decide +kernel
theorem dX8_change_46 : decode cX8_change 46 = .ok (.iaload, 1) := by decide +kernel
theorem dX8_change_47 : decode cX8_change 47 = .ok (.iconst 1, 1) := by decide +kernel
theorem dX8_change_48 : decode cX8_change 48 = .ok (.iadd, 1) := by decide +kernel
theorem dX8_change_49 : decode cX8_change 49 = .ok (.iastore, 1) := by decide +kernel
theorem dX8_change_50 : decode cX8_change 50 = .ok (.goto 83, 3) := by decide +kernel
theorem dX8_change_53 : decode cX8_change 53 = .ok (.aload_n 0, 1) := by decide +kernel
theorem dX8_change_54 : decode cX8_change 54 = .ok (.getfield 9, 3) := by decide +kernel
theorem dX8_change_57 : decode cX8_change 57 = .ok (.iload_n 2, 1) := by decide +kernel
theorem dX8_change_58 : decode cX8_change 58 = .ok (.dup2, 1) := by decide +kernel
theorem dX8_change_59 : decode cX8_change 59 = .ok (.iaload, 1) := by decide +kernel
theorem dX8_change_60 : decode cX8_change 60 = .ok (.iconst 1, 1) := by decide +kernel
theorem dX8_change_61 : decode cX8_change 61 = .ok (.isub, 1) := by decide +kernel
theorem dX8_change_62 : decode cX8_change 62 = .ok (.iastore, 1) := by decide +kernel
theorem dX8_change_63 : decode cX8_change 63 = .ok (.goto 70, 3) := by decide +kernel
theorem dX8_change_66 : decode cX8_change 66 = .ok (.aload_n 0, 1) := by decide +kernel
theorem dX8_change_67 : decode cX8_change 67 = .ok (.dup, 1) := by decide +kernel
theorem dX8_change_68 : decode cX8_change 68 = .ok (.getfield 28, 3) := by decide +kernel
theorem dX8_change_71 : decode cX8_change 71 = .ok (.iconst 1, 1) := by decide +kernel
theorem dX8_change_72 : decode cX8_change 72 = .ok (.iload_n 2, 1) := by decide +kernel
theorem dX8_change_73 : decode cX8_change 73 = .ok (.ishl, 1) := by decide +kernel
theorem dX8_change_74 : decode cX8_change 74 = .ok (.ixor, 1) := by decide +kernel
theorem dX8_change_75 : decode cX8_change 75 = .ok (.putfield 28, 3) := by decide +kernel
theorem dX8_change_78 : decode cX8_change 78 = .ok (.goto 55, 3) := by decide +kernel
theorem dX8_change_81 : decode cX8_change 81 = .ok (.aload_n 0, 1) := by decide +kernel
theorem dX8_change_82 : decode cX8_change 82 = .ok (.getfield 15, 3) := by decide +kernel
theorem dX8_change_85 : decode cX8_change 85 = .ok (.iload_n 2, 1) := by decide +kernel
theorem dX8_change_86 : decode cX8_change 86 = .ok (.iload_n 3, 1) := by decide +kernel
theorem dX8_change_87 : decode cX8_change 87 = .ok (.iastore, 1) := by decide +kernel
theorem dX8_change_88 : decode cX8_change 88 = .ok (.goto 45, 3) := by decide +kernel
theorem dX8_change_91 : decode cX8_change 91 = .ok (.aload_n 0, 1) := by decide +kernel
theorem dX8_change_92 : decode cX8_change 92 = .ok (.dup, 1) := by decide +kernel
theorem dX8_change_93 : decode cX8_change 93 = .ok (.getfield 21, 3) := by decide +kernel
theorem dX8_change_96 : decode cX8_change 96 = .ok (.iconst 1, 1) := by decide +kernel
theorem dX8_change_97 : decode cX8_change 97 = .ok (.iload_n 2, 1) := by decide +kernel
theorem dX8_change_98 : decode cX8_change 98 = .ok (.ishl, 1) := by decide +kernel
theorem dX8_change_99 : decode cX8_change 99 = .ok (.ixor, 1) := by decide +kernel
theorem dX8_change_100 : decode cX8_change 100 = .ok (.putfield 21, 3) := by decide +kernel
theorem dX8_change_103 : decode cX8_change 103 = .ok (.goto 30, 3) := by decide +kernel
theorem dX8_change_106 : decode cX8_change 106 = .ok (.aload_n 0, 1) := by decide +kernel
theorem dX8_change_107 : decode cX8_change 107 = .ok (.dup, 1) := by decide +kernel
theorem dX8_change_108 : decode cX8_change 108 = .ok (.getfield 25, 3) := by decide +kernel
theorem dX8_change_111 : decode cX8_change 111 = .ok (.iconst 1, 1) := by decide +kernel
theorem dX8_change_112 : decode cX8_change 112 = .ok (.iload_n 2, 1) := by decide +kernel
theorem dX8_change_113 : decode cX8_change 113 = .ok (.ishl, 1) := by decide +kernel
theorem dX8_change_114 : decode cX8_change 114 = .ok (.ixor, 1) := by decide +kernel
theorem dX8_change_115 : decode cX8_change 115 = .ok (.putfield 25, 3) := by decide +kernel
theorem dX8_change_118 : decode cX8_change 118 = .ok (.goto 15, 3) := by decide +kernel
theorem dX8_change_121 : decode cX8_change 121 = .ok (.aload_n 0, 1) := by decide +kernel
theorem dX8_change_122 : decode cX8_change 122 = .ok (.getfield 18, 3) := by decide +kernel
theorem dX8_change_125 : decode cX8_change 125 = .ok (.iload_n 2, 1) := by decide +kernel
theorem dX8_change_126 : decode cX8_change 126 = .ok (.dup2, 1) := by decide +kernel
theorem dX8_change_127 : decode cX8_change 127 = .ok (.iaload, 1) := by decide +kernel
theorem dX8_change_128 : decode cX8_change 128 = .ok (.iconst 1, 1) := by decide +kernel
theorem dX8_change_129 : decode cX8_change 129 = .ok (.iload_n 3, 1) := by decide +kernel
theorem dX8_change_130 : decode cX8_change 130 = .ok (.ishl, 1) := by decide +kernel
theorem dX8_change_131 : decode cX8_change 131 = .ok (.ixor, 1) := by decide +kernel
theorem dX8_change_132 : decode cX8_change 132 = .ok (.iastore, 1) := by decide +kernel
theorem dX8_change_133 : decode cX8_change 133 = .ok (.return_, 1) := by decide +kernel
theorem dX8_blank_0 : decode cX8_blank 0 = .ok (.iconst 0, 1) := by decide +kernel
theorem dX8_blank_1 : decode cX8_blank 1 = .ok (.istore_n 1, 1) := by decide +kernel
theorem dX8_blank_2 : decode cX8_blank 2 = .ok (.iload_n 1, 1) := by decide +kernel
theorem dX8_blank_3 : decode cX8_blank 3 = .ok (.bipush 8, 2) := by decide +kernel
theorem dX8_blank_5 : decode cX8_blank 5 = .ok (.if_icmp .ge 16, 3) := by decide +kernel
theorem dX8_blank_8 : decode cX8_blank 8 = .ok (.aload_n 0, 1) := by decide +kernel
theorem dX8_blank_9 : decode cX8_blank 9 = .ok (.getfield 9, 3) := by decide +kernel
theorem dX8_blank_12 : decode cX8_blank 12 = .ok (.iload_n 1, 1) := by decide +kernel
theorem dX8_blank_13 : decode cX8_blank 13 = .ok (.iconst 0, 1) := by decide +kernel
theorem dX8_blank_14 : decode cX8_blank 14 = .ok (.iastore, 1) := by decide +kernel
theorem dX8_blank_15 : decode cX8_blank 15 = .ok (.iinc 1 1, 3) := by decide +kernel
theorem dX8_blank_18 : decode cX8_blank 18 = .ok (.goto (-16), 3) := by decide +kernel
theorem dX8_blank_21 : decode cX8_blank 21 = .ok (.iconst 0, 1) := by decide +kernel
theorem dX8_blank_22 : decode cX8_blank 22 = .ok (.istore_n 1, 1) := by decide +kernel
theorem dX8_blank_23 : decode cX8_blank 23 = .ok (.iload_n 1, 1) := by decide +kernel
theorem dX8_blank_24 : decode cX8_blank 24 = .ok (.iconst 4, 1) := by decide +kernel
theorem dX8_blank_25 : decode cX8_blank 25 = .ok (.if_icmp .ge 16, 3) := by decide +kernel
theorem dX8_blank_28 : decode cX8_blank 28 = .ok (.aload_n 0, 1) := by decide +kernel
theorem dX8_blank_29 : decode cX8_blank 29 = .ok (.getfield 18, 3) := by decide +kernel
theorem dX8_blank_32 : decode cX8_blank 32 = .ok (.iload_n 1, 1) := by decide +kernel
theorem dX8_blank_33 : decode cX8_blank 33 = .ok (.iconst 0, 1) := by decide +kernel
theorem dX8_blank_34 : decode cX8_blank 34 = .ok (.iastore, 1) := by decide +kernel
theorem dX8_blank_35 : decode cX8_blank 35 = .ok (.iinc 1 1, 3) := by decide +kernel
theorem dX8_blank_38 : decode cX8_blank 38 = .ok (.goto (-15), 3) := by decide +kernel
theorem dX8_blank_41 : decode cX8_blank 41 = .ok (.aload_n 0, 1) := by decide +kernel
theorem dX8_blank_42 : decode cX8_blank 42 = .ok (.iconst 0, 1) := by decide +kernel
theorem dX8_blank_43 : decode cX8_blank 43 = .ok (.putfield 21, 3) := by decide +kernel
theorem dX8_blank_46 : decode cX8_blank 46 = .ok (.aload_n 0, 1) := by decide +kernel
theorem dX8_blank_47 : decode cX8_blank 47 = .ok (.iconst 0, 1) := by decide +kernel
theorem dX8_blank_48 : decode cX8_blank 48 = .ok (.putfield 25, 3) := by decide +kernel
theorem dX8_blank_51 : decode cX8_blank 51 = .ok (.return_, 1) := by decide +kernel
theorem dX8_letters_0 : decode cX8_letters 0 = .ok (.iconst 0, 1) := by decide +kernel
theorem dX8_letters_1 : decode cX8_letters 1 = .ok (.istore_n 1, 1) := by decide +kernel
theorem dX8_letters_2 : decode cX8_letters 2 = .ok (.iconst 0, 1) := by decide +kernel
theorem dX8_letters_3 : decode cX8_letters 3 = .ok (.istore_n 2, 1) := by decide +kernel
theorem dX8_letters_4 : decode cX8_letters 4 = .ok (.iload_n 2, 1) := by decide +kernel
theorem dX8_letters_5 : decode cX8_letters 5 = .ok (.bipush 8, 2) := by decide +kernel
theorem dX8_letters_7 : decode cX8_letters 7 = .ok (.if_icmp .ge 18, 3) := by decide +kernel
theorem dX8_letters_10 : decode cX8_letters 10 = .ok (.iload_n 1, 1) := by decide +kernel
theorem dX8_letters_11 : decode cX8_letters 11 = .ok (.aload_n 0, 1) := by decide +kernel
theorem dX8_letters_12 : decode cX8_letters 12 = .ok (.getfield 9, 3) := by decide +kernel
theorem dX8_letters_15 : decode cX8_letters 15 = .ok (.iload_n 2, 1) := by decide +kernel
theorem dX8_letters_16 : decode cX8_letters 16 = .ok (.iaload, 1) := by decide +kernel
theorem dX8_letters_17 : decode cX8_letters 17 = .ok (.iadd, 1) := by decide +kernel
theorem dX8_letters_18 : decode cX8_letters 18 = .ok (.istore_n 1, 1) := by decide +kernel
theorem dX8_letters_19 : decode cX8_letters 19 = .ok (.iinc 2 1, 3) := by decide +kernel
theorem dX8_letters_22 : decode cX8_letters 22 = .ok (.goto (-18), 3) := by decide +kernel
theorem dX8_letters_25 : decode cX8_letters 25 = .ok (.iload_n 1, 1) := by decide +kernel
theorem dX8_letters_26 : decode cX8_letters 26 = .ok (.ireturn, 1) := by decide +kernel
theorem dX8_unlike_0 : decode cX8_unlike 0 = .ok (.iconst 0, 1) := by decide +kernel
theorem dX8_unlike_1 : decode cX8_unlike 1 = .ok (.istore_n 1, 1) := by decide +kernel
theorem dX8_unlike_2 : decode cX8_unlike 2 = .ok (.iconst 0, 1) := by decide +kernel
theorem dX8_unlike_3 : decode cX8_unlike 3 = .ok (.istore_n 2, 1) := by decide +kernel
theorem dX8_unlike_4 : decode cX8_unlike 4 = .ok (.iload_n 2, 1) := by decide +kernel
theorem dX8_unlike_5 : decode cX8_unlike 5 = .ok (.bipush 8, 2) := by decide +kernel
theorem dX8_unlike_7 : decode cX8_unlike 7 = .ok (.if_icmp .ge 21, 3) := by decide +kernel
theorem dX8_unlike_10 : decode cX8_unlike 10 = .ok (.aload_n 0, 1) := by decide +kernel
theorem dX8_unlike_11 : decode cX8_unlike 11 = .ok (.getfield 9, 3) := by decide +kernel
theorem dX8_unlike_14 : decode cX8_unlike 14 = .ok (.iload_n 2, 1) := by decide +kernel
theorem dX8_unlike_15 : decode cX8_unlike 15 = .ok (.iaload, 1) := by decide +kernel
theorem dX8_unlike_16 : decode cX8_unlike 16 = .ok (.ifCond .le 6, 3) := by decide +kernel
theorem dX8_unlike_19 : decode cX8_unlike 19 = .ok (.iinc 1 1, 3) := by decide +kernel
theorem dX8_unlike_22 : decode cX8_unlike 22 = .ok (.iinc 2 1, 3) := by decide +kernel
theorem dX8_unlike_25 : decode cX8_unlike 25 = .ok (.goto (-21), 3) := by decide +kernel
theorem dX8_unlike_28 : decode cX8_unlike 28 = .ok (.iload_n 1, 1) := by decide +kernel
theorem dX8_unlike_29 : decode cX8_unlike 29 = .ok (.ireturn, 1) := by decide +kernel
theorem dX8_packed_0 : decode cX8_packed 0 = .ok (.lconst 0, 1) := by decide +kernel
theorem dX8_packed_1 : decode cX8_packed 1 = .ok (.lstore_n 1, 1) := by decide +kernel
theorem dX8_packed_2 : decode cX8_packed 2 = .ok (.iconst 0, 1) := by decide +kernel
theorem dX8_packed_3 : decode cX8_packed 3 = .ok (.istore_n 3, 1) := by decide +kernel
theorem dX8_packed_4 : decode cX8_packed 4 = .ok (.iload_n 3, 1) := by decide +kernel
theorem dX8_packed_5 : decode cX8_packed 5 = .ok (.bipush 8, 2) := by decide +kernel
theorem dX8_packed_7 : decode cX8_packed 7 = .ok (.if_icmp .ge 23, 3) := by decide +kernel
theorem dX8_packed_10 : decode cX8_packed 10 = .ok (.lload_n 1, 1) := by decide +kernel
theorem dX8_packed_11 : decode cX8_packed 11 = .ok (.aload_n 0, 1) := by decide +kernel
theorem dX8_packed_12 : decode cX8_packed 12 = .ok (.getfield 9, 3) := by decide +kernel
theorem dX8_packed_15 : decode cX8_packed 15 = .ok (.iload_n 3, 1) := by decide +kernel
theorem dX8_packed_16 : decode cX8_packed 16 = .ok (.iaload, 1) := by decide +kernel
theorem dX8_packed_17 : decode cX8_packed 17 = .ok (.i2l, 1) := by decide +kernel
theorem dX8_packed_18 : decode cX8_packed 18 = .ok (.iconst 5, 1) := by decide +kernel
theorem dX8_packed_19 : decode cX8_packed 19 = .ok (.iload_n 3, 1) := by decide +kernel
theorem dX8_packed_20 : decode cX8_packed 20 = .ok (.imul, 1) := by decide +kernel
theorem dX8_packed_21 : decode cX8_packed 21 = .ok (.lshl, 1) := by decide +kernel
theorem dX8_packed_22 : decode cX8_packed 22 = .ok (.lor, 1) := by decide +kernel
theorem dX8_packed_23 : decode cX8_packed 23 = .ok (.lstore_n 1, 1) := by decide +kernel
theorem dX8_packed_24 : decode cX8_packed 24 = .ok (.iinc 3 1, 3) := by decide +kernel
theorem dX8_packed_27 : decode cX8_packed 27 = .ok (.goto (-23), 3) := by decide +kernel
theorem dX8_packed_30 : decode cX8_packed 30 = .ok (.lload_n 1, 1) := by decide +kernel
theorem dX8_packed_31 : decode cX8_packed 31 = .ok (.lreturn, 1) := by decide +kernel
theorem dX8_allFollow_0 : decode cX8_allFollow 0 = .ok (.iconst 0, 1) := by decide +kernel
theorem dX8_allFollow_1 : decode cX8_allFollow 1 = .ok (.istore_n 1, 1) := by decide +kernel
theorem dX8_allFollow_2 : decode cX8_allFollow 2 = .ok (.iload_n 1, 1) := by decide +kernel
theorem dX8_allFollow_3 : decode cX8_allFollow 3 = .ok (.iconst 4, 1) := by decide +kernel
theorem dX8_allFollow_4 : decode cX8_allFollow 4 = .ok (.if_icmp .ge 22, 3) := by decide +kernel
theorem dX8_allFollow_7 : decode cX8_allFollow 7 = .ok (.aload_n 0, 1) := by decide +kernel
theorem dX8_allFollow_8 : decode cX8_allFollow 8 = .ok (.getfield 18, 3) := by decide +kernel
theorem dX8_allFollow_11 : decode cX8_allFollow 11 = .ok (.iload_n 1, 1) := by decide +kernel
theorem dX8_allFollow_12 : decode cX8_allFollow 12 = .ok (.iaload, 1) := by decide +kernel
theorem dX8_allFollow_13 : decode cX8_allFollow 13 = .ok (.bipush 15, 2) := by decide +kernel
theorem dX8_allFollow_15 : decode cX8_allFollow 15 = .ok (.if_icmp .eq 5, 3) := by decide +kernel
theorem dX8_allFollow_18 : decode cX8_allFollow 18 = .ok (.iconst 0, 1) := by decide +kernel
theorem dX8_allFollow_19 : decode cX8_allFollow 19 = .ok (.ireturn, 1) := by decide +kernel
theorem dX8_allFollow_20 : decode cX8_allFollow 20 = .ok (.iinc 1 1, 3) := by decide +kernel
theorem dX8_allFollow_23 : decode cX8_allFollow 23 = .ok (.goto (-21), 3) := by decide +kernel
theorem dX8_allFollow_26 : decode cX8_allFollow 26 = .ok (.iconst 1, 1) := by decide +kernel
theorem dX8_allFollow_27 : decode cX8_allFollow 27 = .ok (.ireturn, 1) := by decide +kernel
theorem dX9_init_0 : decode cX9_init 0 = .ok (.aload_n 0, 1) := by decide +kernel
theorem dX9_init_1 : decode cX9_init 1 = .ok (.invokespecial 1, 3) := by decide +kernel
theorem dX9_init_4 : decode cX9_init 4 = .ok (.return_, 1) := by decide +kernel
theorem dX10_init_0 : decode cX10_init 0 = .ok (.aload_n 0, 1) := by decide +kernel
theorem dX10_init_1 : decode cX10_init 1 = .ok (.invokespecial 1, 3) := by decide +kernel
theorem dX10_init_4 : decode cX10_init 4 = .ok (.aload_n 0, 1) := by decide +kernel
theorem dX10_init_5 : decode cX10_init 5 = .ok (.aload_n 1, 1) := by decide +kernel
theorem dX10_init_6 : decode cX10_init 6 = .ok (.putfield 7, 3) := by decide +kernel
theorem dX10_init_9 : decode cX10_init 9 = .ok (.return_, 1) := by decide +kernel
theorem dX10_none_0 : decode cX10_none 0 = .ok (.ldc2_w 13, 3) := by decide +kernel
theorem dX10_none_3 : decode cX10_none 3 = .ok (.lreturn, 1) := by decide +kernel
theorem dX10_ended_0 : decode cX10_ended 0 = .ok (.lconst 0, 1) := by decide +kernel
theorem dX10_ended_1 : decode cX10_ended 1 = .ok (.lreturn, 1) := by decide +kernel
theorem dX10_joined_0 : decode cX10_joined 0 = .ok (.lload_n 1, 1) := by decide +kernel
theorem dX10_joined_1 : decode cX10_joined 1 = .ok (.lload_n 3, 1) := by decide +kernel
theorem dX10_joined_2 : decode cX10_joined 2 = .ok (.invokestatic 15, 3) := by decide +kernel
theorem dX10_joined_5 : decode cX10_joined 5 = .ok (.lreturn, 1) := by decide +kernel
theorem dX10_with_0 : decode cX10_with 0 = .ok (.lload_n 3, 1) := by decide +kernel
theorem dX10_with_1 : decode cX10_with 1 = .ok (.lconst 0, 1) := by decide +kernel
theorem dX10_with_2 : decode cX10_with 2 = .ok (.lcmp, 1) := by decide +kernel
theorem dX10_with_3 : decode cX10_with 3 = .ok (.ifCond .ge 7, 3) := by decide +kernel
theorem dX10_with_6 : decode cX10_with 6 = .ok (.lload_n 1, 1) := by decide +kernel
theorem dX10_with_7 : decode cX10_with 7 = .ok (.goto 17, 3) := by decide +kernel
theorem dX10_with_10 : decode cX10_with 10 = .ok (.lload_n 1, 1) := by decide +kernel
theorem dX10_with_11 : decode cX10_with 11 = .ok (.lload_n 3, 1) := by decide +kernel
theorem dX10_with_12 : decode cX10_with 12 = .ok (.aload_n 0, 1) := by decide +kernel
theorem dX10_with_13 : decode cX10_with 13 = .ok (.getfield 7, 3) := by decide +kernel
theorem dX10_with_16 : decode cX10_with 16 = .ok (.iload 5, 2) := by decide +kernel
theorem dX10_with_18 : decode cX10_with 18 = .ok (.iaload, 1) := by decide +kernel
theorem dX10_with_19 : decode cX10_with 19 = .ok (.i2l, 1) := by decide +kernel
theorem dX10_with_20 : decode cX10_with 20 = .ok (.ladd, 1) := by decide +kernel
theorem dX10_with_21 : decode cX10_with 21 = .ok (.invokestatic 15, 3) := by decide +kernel
theorem dX10_with_24 : decode cX10_with 24 = .ok (.lreturn, 1) := by decide +kernel
theorem dX11_init_0 : decode cX11_init 0 = .ok (.aload_n 0, 1) := by decide +kernel
theorem dX11_init_1 : decode cX11_init 1 = .ok (.invokespecial 1, 3) := by decide +kernel
theorem dX11_init_4 : decode cX11_init 4 = .ok (.aload_n 0, 1) := by decide +kernel
theorem dX11_init_5 : decode cX11_init 5 = .ok (.new 7, 3) := by decide +kernel
theorem dX11_init_8 : decode cX11_init 8 = .ok (.dup, 1) := by decide +kernel
theorem dX11_init_9 : decode cX11_init 9 = .ok (.invokespecial 9, 3) := by decide +kernel
theorem dX11_init_12 : decode cX11_init 12 = .ok (.putfield 10, 3) := by decide +kernel
theorem dX11_init_15 : decode cX11_init 15 = .ok (.aload_n 0, 1) := by decide +kernel
theorem dX11_init_16 : decode cX11_init 16 = .ok (.new 16, 3) := by decide +kernel
theorem dX11_init_19 : decode cX11_init 19 = .ok (.dup, 1) := by decide +kernel
theorem dX11_init_20 : decode cX11_init 20 = .ok (.invokespecial 18, 3) := by decide +kernel
theorem dX11_init_23 : decode cX11_init 23 = .ok (.putfield 19, 3) := by decide +kernel
theorem dX11_init_26 : decode cX11_init 26 = .ok (.aload_n 0, 1) := by decide +kernel
theorem dX11_init_27 : decode cX11_init 27 = .ok (.new 23, 3) := by decide +kernel
theorem dX11_init_30 : decode cX11_init 30 = .ok (.dup, 1) := by decide +kernel
theorem dX11_init_31 : decode cX11_init 31 = .ok (.invokespecial 25, 3) := by decide +kernel
theorem dX11_init_34 : decode cX11_init 34 = .ok (.putfield 26, 3) := by decide +kernel
theorem dX11_init_37 : decode cX11_init 37 = .ok (.aload_n 0, 1) := by decide +kernel
theorem dX11_init_38 : decode cX11_init 38 = .ok (.new 23, 3) := by decide +kernel
theorem dX11_init_41 : decode cX11_init 41 = .ok (.dup, 1) := by decide +kernel
theorem dX11_init_42 : decode cX11_init 42 = .ok (.invokespecial 25, 3) := by decide +kernel
theorem dX11_init_45 : decode cX11_init 45 = .ok (.putfield 30, 3) := by decide +kernel
theorem dX11_init_48 : decode cX11_init 48 = .ok (.aload_n 0, 1) := by decide +kernel
theorem dX11_init_49 : decode cX11_init 49 = .ok (.iconst 2, 1) := by decide +kernel
theorem dX11_init_50 : decode cX11_init 50 = .ok (.anewarray 23, 3) := by decide +kernel
theorem dX11_init_53 : decode cX11_init 53 = .ok (.dup, 1) := by decide +kernel
theorem dX11_init_54 : decode cX11_init 54 = .ok (.iconst 0, 1) := by decide +kernel
theorem dX11_init_55 : decode cX11_init 55 = .ok (.new 23, 3) := by decide +kernel
theorem dX11_init_58 : decode cX11_init 58 = .ok (.dup, 1) := by decide +kernel
theorem dX11_init_59 : decode cX11_init 59 = .ok (.invokespecial 25, 3) := by decide +kernel
theorem dX11_init_62 : decode cX11_init 62 = .ok (.aastore, 1) := by decide +kernel
theorem dX11_init_63 : decode cX11_init 63 = .ok (.dup, 1) := by decide +kernel
theorem dX11_init_64 : decode cX11_init 64 = .ok (.iconst 1, 1) := by decide +kernel
theorem dX11_init_65 : decode cX11_init 65 = .ok (.new 23, 3) := by decide +kernel
theorem dX11_init_68 : decode cX11_init 68 = .ok (.dup, 1) := by decide +kernel
theorem dX11_init_69 : decode cX11_init 69 = .ok (.invokespecial 25, 3) := by decide +kernel
theorem dX11_init_72 : decode cX11_init 72 = .ok (.aastore, 1) := by decide +kernel
theorem dX11_init_73 : decode cX11_init 73 = .ok (.putfield 33, 3) := by decide +kernel
theorem dX11_init_76 : decode cX11_init 76 = .ok (.aload_n 0, 1) := by decide +kernel
theorem dX11_init_77 : decode cX11_init 77 = .ok (.iconst 2, 1) := by decide +kernel
theorem dX11_init_78 : decode cX11_init 78 = .ok (.newarray .boolean, 2) := by decide +kernel
theorem dX11_init_80 : decode cX11_init 80 = .ok (.putfield 37, 3) := by decide +kernel
theorem dX11_init_83 : decode cX11_init 83 = .ok (.aload_n 0, 1) := by decide +kernel
theorem dX11_init_84 : decode cX11_init 84 = .ok (.new 41, 3) := by decide +kernel
theorem dX11_init_87 : decode cX11_init 87 = .ok (.dup, 1) := by decide +kernel
theorem dX11_init_88 : decode cX11_init 88 = .ok (.invokespecial 43, 3) := by decide +kernel
theorem dX11_init_91 : decode cX11_init 91 = .ok (.putfield 44, 3) := by decide +kernel
theorem dX11_init_94 : decode cX11_init 94 = .ok (.aload_n 0, 1) := by decide +kernel
theorem dX11_init_95 : decode cX11_init 95 = .ok (.new 48, 3) := by decide +kernel
theorem dX11_init_98 : decode cX11_init 98 = .ok (.dup, 1) := by decide +kernel
theorem dX11_init_99 : decode cX11_init 99 = .ok (.aload_n 0, 1) := by decide +kernel
theorem dX11_init_100 : decode cX11_init 100 = .ok (.getfield 19, 3) := by decide +kernel
theorem dX11_init_103 : decode cX11_init 103 = .ok (.aload_n 0, 1) := by decide +kernel
theorem dX11_init_104 : decode cX11_init 104 = .ok (.getfield 26, 3) := by decide +kernel
theorem dX11_init_107 : decode cX11_init 107 = .ok (.invokespecial 50, 3) := by decide +kernel
theorem dX11_init_110 : decode cX11_init 110 = .ok (.putfield 53, 3) := by decide +kernel
theorem dX11_init_113 : decode cX11_init 113 = .ok (.aload_n 0, 1) := by decide +kernel
theorem dX11_init_114 : decode cX11_init 114 = .ok (.new 57, 3) := by decide +kernel
theorem dX11_init_117 : decode cX11_init 117 = .ok (.dup, 1) := by decide +kernel
theorem dX11_init_118 : decode cX11_init 118 = .ok (.aload_n 0, 1) := by decide +kernel
theorem dX11_init_119 : decode cX11_init 119 = .ok (.getfield 19, 3) := by decide +kernel
theorem dX11_init_122 : decode cX11_init 122 = .ok (.aload_n 0, 1) := by decide +kernel
theorem dX11_init_123 : decode cX11_init 123 = .ok (.getfield 26, 3) := by decide +kernel
theorem dX11_init_126 : decode cX11_init 126 = .ok (.aload_n 0, 1) := by decide +kernel
theorem dX11_init_127 : decode cX11_init 127 = .ok (.getfield 53, 3) := by decide +kernel
theorem dX11_init_130 : decode cX11_init 130 = .ok (.invokespecial 59, 3) := by decide +kernel
theorem dX11_init_133 : decode cX11_init 133 = .ok (.putfield 62, 3) := by decide +kernel
theorem dX11_init_136 : decode cX11_init 136 = .ok (.aload_n 0, 1) := by decide +kernel
theorem dX11_init_137 : decode cX11_init 137 = .ok (.bipush 12, 2) := by decide +kernel
theorem dX11_init_139 : decode cX11_init 139 = .ok (.newarray .int, 2) := by decide +kernel
theorem dX11_init_141 : decode cX11_init 141 = .ok (.putfield 66, 3) := by decide +kernel
theorem dX11_init_144 : decode cX11_init 144 = .ok (.aload_n 0, 1) := by decide +kernel
theorem dX11_init_145 : decode cX11_init 145 = .ok (.iconst 4, 1) := by decide +kernel
theorem dX11_init_146 : decode cX11_init 146 = .ok (.newarray .int, 2) := by decide +kernel
theorem dX11_init_148 : decode cX11_init 148 = .ok (.putfield 70, 3) := by decide +kernel
theorem dX11_init_151 : decode cX11_init 151 = .ok (.aload_n 0, 1) := by decide +kernel
theorem dX11_init_152 : decode cX11_init 152 = .ok (.iconst 4, 1) := by decide +kernel
theorem dX11_init_153 : decode cX11_init 153 = .ok (.newarray .int, 2) := by decide +kernel
theorem dX11_init_155 : decode cX11_init 155 = .ok (.putfield 73, 3) := by decide +kernel
theorem dX11_init_158 : decode cX11_init 158 = .ok (.aload_n 0, 1) := by decide +kernel
theorem dX11_init_159 : decode cX11_init 159 = .ok (.bipush 8, 2) := by decide +kernel
theorem dX11_init_161 : decode cX11_init 161 = .ok (.newarray .int, 2) := by decide +kernel
theorem dX11_init_163 : decode cX11_init 163 = .ok (.putfield 76, 3) := by decide +kernel
theorem dX11_init_166 : decode cX11_init 166 = .ok (.aload_n 0, 1) := by decide +kernel
theorem dX11_init_167 : decode cX11_init 167 = .ok (.bipush 18, 2) := by decide +kernel
theorem dX11_init_169 : decode cX11_init 169 = .ok (.newarray .int, 2) := by decide +kernel
theorem dX11_init_171 : decode cX11_init 171 = .ok (.putfield 79, 3) := by decide +kernel
theorem dX11_init_174 : decode cX11_init 174 = .ok (.aload_n 0, 1) := by decide +kernel
theorem dX11_init_175 : decode cX11_init 175 = .ok (.iconst 0, 1) := by decide +kernel
theorem dX11_init_176 : decode cX11_init 176 = .ok (.putfield 82, 3) := by decide +kernel
theorem dX11_init_179 : decode cX11_init 179 = .ok (.aload_n 0, 1) := by decide +kernel
theorem dX11_init_180 : decode cX11_init 180 = .ok (.iconst 0, 1) := by decide +kernel
theorem dX11_init_181 : decode cX11_init 181 = .ok (.putfield 86, 3) := by decide +kernel
theorem dX11_init_184 : decode cX11_init 184 = .ok (.aload_n 0, 1) := by decide +kernel
theorem dX11_init_185 : decode cX11_init 185 = .ok (.lconst 0, 1) := by decide +kernel
theorem dX11_init_186 : decode cX11_init 186 = .ok (.putfield 89, 3) := by decide +kernel
theorem dX11_init_189 : decode cX11_init 189 = .ok (.return_, 1) := by decide +kernel
theorem dX11_write_0 : decode cX11_write 0 = .ok (.iload_n 1, 1) := by decide +kernel
theorem dX11_write_1 : decode cX11_write 1 = .ok (.ifCond .lt 10, 3) := by decide +kernel
theorem dX11_write_4 : decode cX11_write 4 = .ok (.iload_n 1, 1) := by decide +kernel
theorem dX11_write_5 : decode cX11_write 5 = .ok (.sipush 255, 3) := by decide +kernel
theorem dX11_write_8 : decode cX11_write 8 = .ok (.if_icmp .le 6, 3) := by decide +kernel
theorem dX11_write_11 : decode cX11_write 11 = .ok (.bipush (-2), 2) := by decide +kernel
theorem dX11_write_13 : decode cX11_write 13 = .ok (.ireturn, 1) := by decide +kernel
theorem dX11_write_14 : decode cX11_write 14 = .ok (.aload_n 0, 1) := by decide +kernel
theorem dX11_write_15 : decode cX11_write 15 = .ok (.getfield 10, 3) := by decide +kernel
theorem dX11_write_18 : decode cX11_write 18 = .ok (.iload_n 1, 1) := by decide +kernel
theorem dX11_write_19 : decode cX11_write 19 = .ok (.invokevirtual 93, 3) := by decide +kernel
theorem dX11_write_22 : decode cX11_write 22 = .ok (.ifCond .eq 13, 3) := by decide +kernel
theorem dX11_write_25 : decode cX11_write 25 = .ok (.aload_n 0, 1) := by decide +kernel
theorem dX11_write_26 : decode cX11_write 26 = .ok (.getfield 10, 3) := by decide +kernel
theorem dX11_write_29 : decode cX11_write 29 = .ok (.getfield 97, 3) := by decide +kernel
theorem dX11_write_32 : decode cX11_write 32 = .ok (.goto 5, 3) := by decide +kernel
theorem dX11_write_35 : decode cX11_write 35 = .ok (.bipush (-4), 2) := by decide +kernel
theorem dX11_write_37 : decode cX11_write 37 = .ok (.ireturn, 1) := by decide +kernel
theorem dX11_wipe_0 : decode cX11_wipe 0 = .ok (.aload_n 0, 1) := by decide +kernel
theorem dX11_wipe_1 : decode cX11_wipe 1 = .ok (.getfield 10, 3) := by decide +kernel
theorem dX11_wipe_4 : decode cX11_wipe 4 = .ok (.getfield 97, 3) := by decide +kernel
theorem dX11_wipe_7 : decode cX11_wipe 7 = .ok (.istore_n 1, 1) := by decide +kernel
theorem dX11_wipe_8 : decode cX11_wipe 8 = .ok (.aload_n 0, 1) := by decide +kernel
theorem dX11_wipe_9 : decode cX11_wipe 9 = .ok (.getfield 10, 3) := by decide +kernel
theorem dX11_wipe_12 : decode cX11_wipe 12 = .ok (.iconst 0, 1) := by decide +kernel
theorem dX11_wipe_13 : decode cX11_wipe 13 = .ok (.putfield 97, 3) := by decide +kernel
theorem dX11_wipe_16 : decode cX11_wipe 16 = .ok (.iload_n 1, 1) := by decide +kernel
theorem dX11_wipe_17 : decode cX11_wipe 17 = .ok (.ireturn, 1) := by decide +kernel
theorem dX11_fault_0 : decode cX11_fault 0 = .ok (.aload_n 0, 1) := by decide +kernel
theorem dX11_fault_1 : decode cX11_fault 1 = .ok (.getfield 10, 3) := by decide +kernel
theorem dX11_fault_4 : decode cX11_fault 4 = .ok (.invokevirtual 100, 3) := by decide +kernel
theorem dX11_fault_7 : decode cX11_fault 7 = .ok (.ireturn, 1) := by decide +kernel
theorem dX11_house_0 : decode cX11_house 0 = .ok (.aload_n 0, 1) := by decide +kernel
theorem dX11_house_1 : decode cX11_house 1 = .ok (.getfield 10, 3) := by decide +kernel
theorem dX11_house_4 : decode cX11_house 4 = .ok (.invokevirtual 100, 3) := by decide +kernel
theorem dX11_house_7 : decode cX11_house 7 = .ok (.bipush (-9), 2) := by decide +kernel
theorem dX11_house_9 : decode cX11_house 9 = .ok (.if_icmp .eq 6, 3) := by decide +kernel
theorem dX11_house_12 : decode cX11_house 12 = .ok (.bipush (-3), 2) := by decide +kernel
theorem dX11_house_14 : decode cX11_house 14 = .ok (.ireturn, 1) := by decide +kernel
theorem dX11_house_15 : decode cX11_house 15 = .ok (.aload_n 0, 1) := by decide +kernel
theorem dX11_house_16 : decode cX11_house 16 = .ok (.getfield 19, 3) := by decide +kernel
theorem dX11_house_19 : decode cX11_house 19 = .ok (.aload_n 0, 1) := by decide +kernel
theorem dX11_house_20 : decode cX11_house 20 = .ok (.getfield 10, 3) := by decide +kernel
theorem dX11_house_23 : decode cX11_house 23 = .ok (.getfield 104, 3) := by decide +kernel
theorem dX11_house_26 : decode cX11_house 26 = .ok (.invokevirtual 105, 3) := by decide +kernel
theorem dX11_house_29 : decode cX11_house 29 = .ok (.aload_n 0, 1) := by decide +kernel
theorem dX11_house_30 : decode cX11_house 30 = .ok (.getfield 26, 3) := by decide +kernel
theorem dX11_house_33 : decode cX11_house 33 = .ok (.aload_n 0, 1) := by decide +kernel
theorem dX11_house_34 : decode cX11_house 34 = .ok (.getfield 10, 3) := by decide +kernel
theorem dX11_house_37 : decode cX11_house 37 = .ok (.getfield 109, 3) := by decide +kernel
theorem dX11_house_40 : decode cX11_house 40 = .ok (.invokevirtual 112, 3) := by decide +kernel
theorem dX11_house_43 : decode cX11_house 43 = .ok (.aload_n 0, 1) := by decide +kernel
theorem dX11_house_44 : decode cX11_house 44 = .ok (.getfield 44, 3) := by decide +kernel
theorem dX11_house_47 : decode cX11_house 47 = .ok (.iconst 0, 1) := by decide +kernel
theorem dX11_house_48 : decode cX11_house 48 = .ok (.putfield 115, 3) := by decide +kernel
theorem dX11_house_51 : decode cX11_house 51 = .ok (.aload_n 0, 1) := by decide +kernel
theorem dX11_house_52 : decode cX11_house 52 = .ok (.iconst 0, 1) := by decide +kernel
theorem dX11_house_53 : decode cX11_house 53 = .ok (.putfield 82, 3) := by decide +kernel
theorem dX11_house_56 : decode cX11_house 56 = .ok (.iconst 0, 1) := by decide +kernel
theorem dX11_house_57 : decode cX11_house 57 = .ok (.istore_n 1, 1) := by decide +kernel
theorem dX11_house_58 : decode cX11_house 58 = .ok (.iload_n 1, 1) := by decide +kernel
theorem dX11_house_59 : decode cX11_house 59 = .ok (.iconst 2, 1) := by decide +kernel
theorem dX11_house_60 : decode cX11_house 60 = .ok (.if_icmp .ge 16, 3) := by decide +kernel
theorem dX11_house_63 : decode cX11_house 63 = .ok (.aload_n 0, 1) := by decide +kernel
theorem dX11_house_64 : decode cX11_house 64 = .ok (.getfield 37, 3) := by decide +kernel
theorem dX11_house_67 : decode cX11_house 67 = .ok (.iload_n 1, 1) := by decide +kernel
theorem dX11_house_68 : decode cX11_house 68 = .ok (.iconst 0, 1) := by decide +kernel
theorem dX11_house_69 : decode cX11_house 69 = .ok (.bastore, 1) := by decide +kernel
theorem dX11_house_70 : decode cX11_house 70 = .ok (.iinc 1 1, 3) := by decide +kernel
theorem dX11_house_73 : decode cX11_house 73 = .ok (.goto (-15), 3) := by decide +kernel
theorem dX11_house_76 : decode cX11_house 76 = .ok (.aload_n 0, 1) := by decide +kernel
theorem dX11_house_77 : decode cX11_house 77 = .ok (.invokevirtual 116, 3) := by decide +kernel
theorem dX11_house_80 : decode cX11_house 80 = .ok (.aload_n 0, 1) := by decide +kernel
theorem dX11_house_81 : decode cX11_house 81 = .ok (.getfield 19, 3) := by decide +kernel
theorem dX11_house_84 : decode cX11_house 84 = .ok (.getfield 119, 3) := by decide +kernel
theorem dX11_house_87 : decode cX11_house 87 = .ok (.ireturn, 1) := by decide +kernel
theorem dX11_about_0 : decode cX11_about 0 = .ok (.iload_n 1, 1) := by decide +kernel
theorem dX11_about_1 : decode cX11_about 1 = .ok (.tableswitch 174 0 13 #[71, 79, 87, 95, 103, 111, 119, 124, 132, 140, 148, 156, 161, 169], 71) := by decide +kernel
theorem dX11_about_72 : decode cX11_about 72 = .ok (.aload_n 0, 1) := by decide +kernel
theorem dX11_about_73 : decode cX11_about 73 = .ok (.getfield 19, 3) := by decide +kernel
theorem dX11_about_76 : decode cX11_about 76 = .ok (.getfield 119, 3) := by decide +kernel
theorem dX11_about_79 : decode cX11_about 79 = .ok (.ireturn, 1) := by decide +kernel
theorem dX11_about_80 : decode cX11_about 80 = .ok (.aload_n 0, 1) := by decide +kernel
theorem dX11_about_81 : decode cX11_about 81 = .ok (.getfield 26, 3) := by decide +kernel
theorem dX11_about_84 : decode cX11_about 84 = .ok (.invokevirtual 122, 3) := by decide +kernel
theorem dX11_about_87 : decode cX11_about 87 = .ok (.ireturn, 1) := by decide +kernel
theorem dX11_about_88 : decode cX11_about 88 = .ok (.aload_n 0, 1) := by decide +kernel
theorem dX11_about_89 : decode cX11_about 89 = .ok (.getfield 26, 3) := by decide +kernel
theorem dX11_about_92 : decode cX11_about 92 = .ok (.invokevirtual 125, 3) := by decide +kernel
theorem dX11_about_95 : decode cX11_about 95 = .ok (.ireturn, 1) := by decide +kernel
theorem dX11_about_96 : decode cX11_about 96 = .ok (.aload_n 0, 1) := by decide +kernel
theorem dX11_about_97 : decode cX11_about 97 = .ok (.getfield 26, 3) := by decide +kernel
theorem dX11_about_100 : decode cX11_about 100 = .ok (.getfield 128, 3) := by decide +kernel
theorem dX11_about_103 : decode cX11_about 103 = .ok (.ireturn, 1) := by decide +kernel
theorem dX11_about_104 : decode cX11_about 104 = .ok (.aload_n 0, 1) := by decide +kernel
theorem dX11_about_105 : decode cX11_about 105 = .ok (.getfield 26, 3) := by decide +kernel
theorem dX11_about_108 : decode cX11_about 108 = .ok (.getfield 131, 3) := by decide +kernel
theorem dX11_about_111 : decode cX11_about 111 = .ok (.ireturn, 1) := by decide +kernel
theorem dX11_about_112 : decode cX11_about 112 = .ok (.aload_n 0, 1) := by decide +kernel
theorem dX11_about_113 : decode cX11_about 113 = .ok (.getfield 26, 3) := by decide +kernel
theorem dX11_about_116 : decode cX11_about 116 = .ok (.getfield 134, 3) := by decide +kernel
theorem dX11_about_119 : decode cX11_about 119 = .ok (.ireturn, 1) := by decide +kernel
theorem dX11_about_120 : decode cX11_about 120 = .ok (.aload_n 0, 1) := by decide +kernel
theorem dX11_about_121 : decode cX11_about 121 = .ok (.invokevirtual 137, 3) := by decide +kernel
theorem dX11_about_124 : decode cX11_about 124 = .ok (.ireturn, 1) := by decide +kernel
theorem dX11_about_125 : decode cX11_about 125 = .ok (.aload_n 0, 1) := by decide +kernel
theorem dX11_about_126 : decode cX11_about 126 = .ok (.getfield 53, 3) := by decide +kernel
theorem dX11_about_129 : decode cX11_about 129 = .ok (.invokevirtual 140, 3) := by decide +kernel
theorem dX11_about_132 : decode cX11_about 132 = .ok (.ireturn, 1) := by decide +kernel
theorem dX11_about_133 : decode cX11_about 133 = .ok (.aload_n 0, 1) := by decide +kernel
theorem dX11_about_134 : decode cX11_about 134 = .ok (.getfield 53, 3) := by decide +kernel
theorem dX11_about_137 : decode cX11_about 137 = .ok (.invokevirtual 143, 3) := by decide +kernel
theorem dX11_about_140 : decode cX11_about 140 = .ok (.ireturn, 1) := by decide +kernel
theorem dX11_about_141 : decode cX11_about 141 = .ok (.aload_n 0, 1) := by decide +kernel
theorem dX11_about_142 : decode cX11_about 142 = .ok (.getfield 53, 3) := by decide +kernel
theorem dX11_about_145 : decode cX11_about 145 = .ok (.invokevirtual 146, 3) := by decide +kernel
theorem dX11_about_148 : decode cX11_about 148 = .ok (.ireturn, 1) := by decide +kernel
theorem dX11_about_149 : decode cX11_about 149 = .ok (.aload_n 0, 1) := by decide +kernel
theorem dX11_about_150 : decode cX11_about 150 = .ok (.getfield 44, 3) := by decide +kernel
theorem dX11_about_153 : decode cX11_about 153 = .ok (.getfield 115, 3) := by decide +kernel
theorem dX11_about_156 : decode cX11_about 156 = .ok (.ireturn, 1) := by decide +kernel
theorem dX11_about_157 : decode cX11_about 157 = .ok (.aload_n 0, 1) := by decide +kernel
theorem dX11_about_158 : decode cX11_about 158 = .ok (.getfield 86, 3) := by decide +kernel
theorem dX11_about_161 : decode cX11_about 161 = .ok (.ireturn, 1) := by decide +kernel
theorem dX11_about_162 : decode cX11_about 162 = .ok (.aload_n 0, 1) := by decide +kernel
theorem dX11_about_163 : decode cX11_about 163 = .ok (.getfield 10, 3) := by decide +kernel
theorem dX11_about_166 : decode cX11_about 166 = .ok (.getfield 97, 3) := by decide +kernel
theorem dX11_about_169 : decode cX11_about 169 = .ok (.ireturn, 1) := by decide +kernel
theorem dX11_about_170 : decode cX11_about 170 = .ok (.aload_n 0, 1) := by decide +kernel
theorem dX11_about_171 : decode cX11_about 171 = .ok (.getfield 82, 3) := by decide +kernel
theorem dX11_about_174 : decode cX11_about 174 = .ok (.ireturn, 1) := by decide +kernel
theorem dX11_about_175 : decode cX11_about 175 = .ok (.bipush (-2), 2) := by decide +kernel
theorem dX11_about_177 : decode cX11_about 177 = .ok (.ireturn, 1) := by decide +kernel
theorem dX11_word_0 : decode cX11_word 0 = .ok (.aload_n 0, 1) := by decide +kernel
theorem dX11_word_1 : decode cX11_word 1 = .ok (.getfield 19, 3) := by decide +kernel
theorem dX11_word_4 : decode cX11_word 4 = .ok (.iload_n 1, 1) := by decide +kernel
theorem dX11_word_5 : decode cX11_word 5 = .ok (.invokevirtual 149, 3) := by decide +kernel
theorem dX11_word_8 : decode cX11_word 8 = .ok (.ifCond .ne 5, 3) := by decide +kernel
theorem dX11_word_11 : decode cX11_word 11 = .ok (.iconst (-1), 1) := by decide +kernel
theorem dX11_word_12 : decode cX11_word 12 = .ok (.ireturn, 1) := by decide +kernel
theorem dX11_word_13 : decode cX11_word 13 = .ok (.iload_n 2, 1) := by decide +kernel
theorem dX11_word_14 : decode cX11_word 14 = .ok (.tableswitch 121 0 7 #[46, 56, 66, 76, 88, 97, 106, 112], 46) := by decide +kernel
theorem dX11_word_60 : decode cX11_word 60 = .ok (.aload_n 0, 1) := by decide +kernel
theorem dX11_word_61 : decode cX11_word 61 = .ok (.getfield 19, 3) := by decide +kernel
theorem dX11_word_64 : decode cX11_word 64 = .ok (.getfield 152, 3) := by decide +kernel
theorem dX11_word_67 : decode cX11_word 67 = .ok (.iload_n 1, 1) := by decide +kernel
theorem dX11_word_68 : decode cX11_word 68 = .ok (.iaload, 1) := by decide +kernel
theorem dX11_word_69 : decode cX11_word 69 = .ok (.ireturn, 1) := by decide +kernel
theorem dX11_word_70 : decode cX11_word 70 = .ok (.aload_n 0, 1) := by decide +kernel
theorem dX11_word_71 : decode cX11_word 71 = .ok (.getfield 19, 3) := by decide +kernel
theorem dX11_word_74 : decode cX11_word 74 = .ok (.getfield 155, 3) := by decide +kernel
theorem dX11_word_77 : decode cX11_word 77 = .ok (.iload_n 1, 1) := by decide +kernel
theorem dX11_word_78 : decode cX11_word 78 = .ok (.iaload, 1) := by decide +kernel
theorem dX11_word_79 : decode cX11_word 79 = .ok (.ireturn, 1) := by decide +kernel
theorem dX11_word_80 : decode cX11_word 80 = .ok (.aload_n 0, 1) := by decide +kernel
theorem dX11_word_81 : decode cX11_word 81 = .ok (.getfield 26, 3) := by decide +kernel
theorem dX11_word_84 : decode cX11_word 84 = .ok (.getfield 158, 3) := by decide +kernel
theorem dX11_word_87 : decode cX11_word 87 = .ok (.iload_n 1, 1) := by decide +kernel
theorem dX11_word_88 : decode cX11_word 88 = .ok (.iaload, 1) := by decide +kernel
theorem dX11_word_89 : decode cX11_word 89 = .ok (.ireturn, 1) := by decide +kernel
theorem dX11_word_90 : decode cX11_word 90 = .ok (.aload_n 0, 1) := by decide +kernel
theorem dX11_word_91 : decode cX11_word 91 = .ok (.getfield 26, 3) := by decide +kernel
theorem dX11_word_94 : decode cX11_word 94 = .ok (.getfield 128, 3) := by decide +kernel
theorem dX11_word_97 : decode cX11_word 97 = .ok (.iload_n 1, 1) := by decide +kernel
theorem dX11_word_98 : decode cX11_word 98 = .ok (.ishr, 1) := by decide +kernel
theorem dX11_word_99 : decode cX11_word 99 = .ok (.iconst 1, 1) := by decide +kernel
theorem dX11_word_100 : decode cX11_word 100 = .ok (.iand, 1) := by decide +kernel
theorem dX11_word_101 : decode cX11_word 101 = .ok (.ireturn, 1) := by decide +kernel
theorem dX11_word_102 : decode cX11_word 102 = .ok (.aload_n 0, 1) := by decide +kernel
theorem dX11_word_103 : decode cX11_word 103 = .ok (.getfield 19, 3) := by decide +kernel
theorem dX11_word_106 : decode cX11_word 106 = .ok (.iload_n 1, 1) := by decide +kernel
theorem dX11_word_107 : decode cX11_word 107 = .ok (.invokevirtual 161, 3) := by decide +kernel
theorem dX11_word_110 : decode cX11_word 110 = .ok (.ireturn, 1) := by decide +kernel
theorem dX11_word_111 : decode cX11_word 111 = .ok (.aload_n 0, 1) := by decide +kernel
theorem dX11_word_112 : decode cX11_word 112 = .ok (.getfield 19, 3) := by decide +kernel
theorem dX11_word_115 : decode cX11_word 115 = .ok (.iload_n 1, 1) := by decide +kernel
theorem dX11_word_116 : decode cX11_word 116 = .ok (.invokevirtual 165, 3) := by decide +kernel
theorem dX11_word_119 : decode cX11_word 119 = .ok (.ireturn, 1) := by decide +kernel
theorem dX11_word_120 : decode cX11_word 120 = .ok (.aload_n 0, 1) := by decide +kernel
theorem dX11_word_121 : decode cX11_word 121 = .ok (.iload_n 1, 1) := by decide +kernel
theorem dX11_word_122 : decode cX11_word 122 = .ok (.invokevirtual 168, 3) := by decide +kernel
theorem dX11_word_125 : decode cX11_word 125 = .ok (.ireturn, 1) := by decide +kernel
theorem dX11_word_126 : decode cX11_word 126 = .ok (.aload_n 0, 1) := by decide +kernel
theorem dX11_word_127 : decode cX11_word 127 = .ok (.getfield 19, 3) := by decide +kernel
theorem dX11_word_130 : decode cX11_word 130 = .ok (.iload_n 1, 1) := by decide +kernel
theorem dX11_word_131 : decode cX11_word 131 = .ok (.invokevirtual 171, 3) := by decide +kernel
theorem dX11_word_134 : decode cX11_word 134 = .ok (.ireturn, 1) := by decide +kernel
theorem dX11_word_135 : decode cX11_word 135 = .ok (.bipush (-2), 2) := by decide +kernel
theorem dX11_word_137 : decode cX11_word 137 = .ok (.ireturn, 1) := by decide +kernel
theorem dX11_letter_0 : decode cX11_letter 0 = .ok (.iload_n 1, 1) := by decide +kernel
theorem dX11_letter_1 : decode cX11_letter 1 = .ok (.invokestatic 174, 3) := by decide +kernel
theorem dX11_letter_4 : decode cX11_letter 4 = .ok (.ifCond .eq 15, 3) := by decide +kernel
theorem dX11_letter_7 : decode cX11_letter 7 = .ok (.iload_n 2, 1) := by decide +kernel
theorem dX11_letter_8 : decode cX11_letter 8 = .ok (.iconst 2, 1) := by decide +kernel
theorem dX11_letter_9 : decode cX11_letter 9 = .ok (.if_icmp .ne 12, 3) := by decide +kernel
theorem dX11_letter_12 : decode cX11_letter 12 = .ok (.iload_n 1, 1) := by decide +kernel
theorem dX11_letter_13 : decode cX11_letter 13 = .ok (.invokestatic 177, 3) := by decide +kernel
theorem dX11_letter_16 : decode cX11_letter 16 = .ok (.ifCond .ne 5, 3) := by decide +kernel
theorem dX11_letter_19 : decode cX11_letter 19 = .ok (.iconst (-1), 1) := by decide +kernel
theorem dX11_letter_20 : decode cX11_letter 20 = .ok (.ireturn, 1) := by decide +kernel
theorem dX11_letter_21 : decode cX11_letter 21 = .ok (.iload_n 2, 1) := by decide +kernel
theorem dX11_letter_22 : decode cX11_letter 22 = .ok (.tableswitch 55 0 2 #[26, 36, 45], 26) := by decide +kernel
theorem dX11_letter_48 : decode cX11_letter 48 = .ok (.aload_n 0, 1) := by decide +kernel
theorem dX11_letter_49 : decode cX11_letter 49 = .ok (.getfield 26, 3) := by decide +kernel
theorem dX11_letter_52 : decode cX11_letter 52 = .ok (.getfield 180, 3) := by decide +kernel
theorem dX11_letter_55 : decode cX11_letter 55 = .ok (.iload_n 1, 1) := by decide +kernel
theorem dX11_letter_56 : decode cX11_letter 56 = .ok (.iaload, 1) := by decide +kernel
theorem dX11_letter_57 : decode cX11_letter 57 = .ok (.ireturn, 1) := by decide +kernel
theorem dX11_letter_58 : decode cX11_letter 58 = .ok (.aload_n 0, 1) := by decide +kernel
theorem dX11_letter_59 : decode cX11_letter 59 = .ok (.getfield 19, 3) := by decide +kernel
theorem dX11_letter_62 : decode cX11_letter 62 = .ok (.iload_n 1, 1) := by decide +kernel
theorem dX11_letter_63 : decode cX11_letter 63 = .ok (.invokevirtual 183, 3) := by decide +kernel
theorem dX11_letter_66 : decode cX11_letter 66 = .ok (.ireturn, 1) := by decide +kernel
theorem dX11_letter_67 : decode cX11_letter 67 = .ok (.aload_n 0, 1) := by decide +kernel
theorem dX11_letter_68 : decode cX11_letter 68 = .ok (.getfield 26, 3) := by decide +kernel
theorem dX11_letter_71 : decode cX11_letter 71 = .ok (.getfield 186, 3) := by decide +kernel
theorem dX11_letter_74 : decode cX11_letter 74 = .ok (.iload_n 1, 1) := by decide +kernel
theorem dX11_letter_75 : decode cX11_letter 75 = .ok (.iaload, 1) := by decide +kernel
theorem dX11_letter_76 : decode cX11_letter 76 = .ok (.ireturn, 1) := by decide +kernel
theorem dX11_letter_77 : decode cX11_letter 77 = .ok (.bipush (-2), 2) := by decide +kernel
theorem dX11_letter_79 : decode cX11_letter 79 = .ok (.ireturn, 1) := by decide +kernel
theorem dX11_put_0 : decode cX11_put 0 = .ok (.iload_n 1, 1) := by decide +kernel
theorem dX11_put_1 : decode cX11_put 1 = .ok (.invokestatic 174, 3) := by decide +kernel
theorem dX11_put_4 : decode cX11_put 4 = .ok (.ifCond .ne 5, 3) := by decide +kernel
theorem dX11_put_7 : decode cX11_put 7 = .ok (.iconst (-1), 1) := by decide +kernel
theorem dX11_put_8 : decode cX11_put 8 = .ok (.ireturn, 1) := by decide +kernel
theorem dX11_put_9 : decode cX11_put 9 = .ok (.aload_n 0, 1) := by decide +kernel
theorem dX11_put_10 : decode cX11_put 10 = .ok (.getfield 26, 3) := by decide +kernel
theorem dX11_put_13 : decode cX11_put 13 = .ok (.invokevirtual 122, 3) := by decide +kernel
theorem dX11_put_16 : decode cX11_put 16 = .ok (.bipush 12, 2) := by decide +kernel
theorem dX11_put_18 : decode cX11_put 18 = .ok (.if_icmp .lt 6, 3) := by decide +kernel
theorem dX11_put_21 : decode cX11_put 21 = .ok (.bipush (-4), 2) := by decide +kernel
theorem dX11_put_23 : decode cX11_put 23 = .ok (.ireturn, 1) := by decide +kernel
theorem dX11_put_24 : decode cX11_put 24 = .ok (.aload_n 0, 1) := by decide +kernel
theorem dX11_put_25 : decode cX11_put 25 = .ok (.iconst 0, 1) := by decide +kernel
theorem dX11_put_26 : decode cX11_put 26 = .ok (.iload_n 1, 1) := by decide +kernel
theorem dX11_put_27 : decode cX11_put 27 = .ok (.iconst 0, 1) := by decide +kernel
theorem dX11_put_28 : decode cX11_put 28 = .ok (.invokevirtual 189, 3) := by decide +kernel
theorem dX11_put_31 : decode cX11_put 31 = .ok (.aload_n 0, 1) := by decide +kernel
theorem dX11_put_32 : decode cX11_put 32 = .ok (.getfield 44, 3) := by decide +kernel
theorem dX11_put_35 : decode cX11_put 35 = .ok (.iconst 1, 1) := by decide +kernel
theorem dX11_put_36 : decode cX11_put 36 = .ok (.iload_n 1, 1) := by decide +kernel
theorem dX11_put_37 : decode cX11_put 37 = .ok (.iconst 0, 1) := by decide +kernel
theorem dX11_put_38 : decode cX11_put 38 = .ok (.invokevirtual 193, 3) := by decide +kernel
theorem dX11_put_41 : decode cX11_put 41 = .ok (.aload_n 0, 1) := by decide +kernel
theorem dX11_put_42 : decode cX11_put 42 = .ok (.getfield 26, 3) := by decide +kernel
theorem dX11_put_45 : decode cX11_put 45 = .ok (.invokevirtual 122, 3) := by decide +kernel
theorem dX11_put_48 : decode cX11_put 48 = .ok (.ireturn, 1) := by decide +kernel
theorem dX11_take_0 : decode cX11_take 0 = .ok (.iload_n 1, 1) := by decide +kernel
theorem dX11_take_1 : decode cX11_take 1 = .ok (.invokestatic 174, 3) := by decide +kernel
theorem dX11_take_4 : decode cX11_take 4 = .ok (.ifCond .ne 5, 3) := by decide +kernel
theorem dX11_take_7 : decode cX11_take 7 = .ok (.iconst (-1), 1) := by decide +kernel
theorem dX11_take_8 : decode cX11_take 8 = .ok (.ireturn, 1) := by decide +kernel
theorem dX11_take_9 : decode cX11_take 9 = .ok (.aload_n 0, 1) := by decide +kernel
theorem dX11_take_10 : decode cX11_take 10 = .ok (.getfield 26, 3) := by decide +kernel
theorem dX11_take_13 : decode cX11_take 13 = .ok (.getfield 180, 3) := by decide +kernel
theorem dX11_take_16 : decode cX11_take 16 = .ok (.iload_n 1, 1) := by decide +kernel
theorem dX11_take_17 : decode cX11_take 17 = .ok (.iaload, 1) := by decide +kernel
theorem dX11_take_18 : decode cX11_take 18 = .ok (.ifCond .ne 6, 3) := by decide +kernel
theorem dX11_take_21 : decode cX11_take 21 = .ok (.bipush (-3), 2) := by decide +kernel
theorem dX11_take_23 : decode cX11_take 23 = .ok (.ireturn, 1) := by decide +kernel
theorem dX11_take_24 : decode cX11_take 24 = .ok (.aload_n 0, 1) := by decide +kernel
theorem dX11_take_25 : decode cX11_take 25 = .ok (.iconst 1, 1) := by decide +kernel
theorem dX11_take_26 : decode cX11_take 26 = .ok (.iload_n 1, 1) := by decide +kernel
theorem dX11_take_27 : decode cX11_take 27 = .ok (.iconst 0, 1) := by decide +kernel
theorem dX11_take_28 : decode cX11_take 28 = .ok (.invokevirtual 189, 3) := by decide +kernel
theorem dX11_take_31 : decode cX11_take 31 = .ok (.aload_n 0, 1) := by decide +kernel
theorem dX11_take_32 : decode cX11_take 32 = .ok (.getfield 44, 3) := by decide +kernel
theorem dX11_take_35 : decode cX11_take 35 = .ok (.iconst 0, 1) := by decide +kernel
theorem dX11_take_36 : decode cX11_take 36 = .ok (.iload_n 1, 1) := by decide +kernel
theorem dX11_take_37 : decode cX11_take 37 = .ok (.iconst 0, 1) := by decide +kernel
theorem dX11_take_38 : decode cX11_take 38 = .ok (.invokevirtual 193, 3) := by decide +kernel
theorem dX11_take_41 : decode cX11_take 41 = .ok (.aload_n 0, 1) := by decide +kernel
theorem dX11_take_42 : decode cX11_take 42 = .ok (.getfield 26, 3) := by decide +kernel
theorem dX11_take_45 : decode cX11_take 45 = .ok (.invokevirtual 122, 3) := by decide +kernel
theorem dX11_take_48 : decode cX11_take 48 = .ok (.ireturn, 1) := by decide +kernel
theorem dX11_bar_0 : decode cX11_bar 0 = .ok (.aload_n 0, 1) := by decide +kernel
theorem dX11_bar_1 : decode cX11_bar 1 = .ok (.getfield 19, 3) := by decide +kernel
theorem dX11_bar_4 : decode cX11_bar 4 = .ok (.iload_n 1, 1) := by decide +kernel
theorem dX11_bar_5 : decode cX11_bar 5 = .ok (.invokevirtual 149, 3) := by decide +kernel
theorem dX11_bar_8 : decode cX11_bar 8 = .ok (.ifCond .ne 5, 3) := by decide +kernel
theorem dX11_bar_11 : decode cX11_bar 11 = .ok (.iconst (-1), 1) := by decide +kernel
theorem dX11_bar_12 : decode cX11_bar 12 = .ok (.ireturn, 1) := by decide +kernel
theorem dX11_bar_13 : decode cX11_bar 13 = .ok (.aload_n 0, 1) := by decide +kernel
theorem dX11_bar_14 : decode cX11_bar 14 = .ok (.iconst 2, 1) := by decide +kernel
theorem dX11_bar_15 : decode cX11_bar 15 = .ok (.iload_n 1, 1) := by decide +kernel
theorem dX11_bar_16 : decode cX11_bar 16 = .ok (.iconst 0, 1) := by decide +kernel
theorem dX11_bar_17 : decode cX11_bar 17 = .ok (.invokevirtual 189, 3) := by decide +kernel
theorem dX11_bar_20 : decode cX11_bar 20 = .ok (.aload_n 0, 1) := by decide +kernel
theorem dX11_bar_21 : decode cX11_bar 21 = .ok (.getfield 44, 3) := by decide +kernel
theorem dX11_bar_24 : decode cX11_bar 24 = .ok (.iconst 2, 1) := by decide +kernel
theorem dX11_bar_25 : decode cX11_bar 25 = .ok (.iload_n 1, 1) := by decide +kernel
theorem dX11_bar_26 : decode cX11_bar 26 = .ok (.iconst 0, 1) := by decide +kernel
theorem dX11_bar_27 : decode cX11_bar 27 = .ok (.invokevirtual 193, 3) := by decide +kernel
theorem dX11_bar_30 : decode cX11_bar 30 = .ok (.aload_n 0, 1) := by decide +kernel
theorem dX11_bar_31 : decode cX11_bar 31 = .ok (.getfield 26, 3) := by decide +kernel
theorem dX11_bar_34 : decode cX11_bar 34 = .ok (.getfield 128, 3) := by decide +kernel
theorem dX11_bar_37 : decode cX11_bar 37 = .ok (.iload_n 1, 1) := by decide +kernel
theorem dX11_bar_38 : decode cX11_bar 38 = .ok (.ishr, 1) := by decide +kernel
theorem dX11_bar_39 : decode cX11_bar 39 = .ok (.iconst 1, 1) := by decide +kernel
theorem dX11_bar_40 : decode cX11_bar 40 = .ok (.iand, 1) := by decide +kernel
theorem dX11_bar_41 : decode cX11_bar 41 = .ok (.ireturn, 1) := by decide +kernel
theorem dX11_rank_0 : decode cX11_rank 0 = .ok (.aload_n 0, 1) := by decide +kernel
theorem dX11_rank_1 : decode cX11_rank 1 = .ok (.getfield 19, 3) := by decide +kernel
theorem dX11_rank_4 : decode cX11_rank 4 = .ok (.iload_n 1, 1) := by decide +kernel
theorem dX11_rank_5 : decode cX11_rank 5 = .ok (.invokevirtual 149, 3) := by decide +kernel
theorem dX11_rank_8 : decode cX11_rank 8 = .ok (.ifCond .ne 5, 3) := by decide +kernel
theorem dX11_rank_11 : decode cX11_rank 11 = .ok (.iconst (-1), 1) := by decide +kernel
theorem dX11_rank_12 : decode cX11_rank 12 = .ok (.ireturn, 1) := by decide +kernel
theorem dX11_rank_13 : decode cX11_rank 13 = .ok (.iload_n 2, 1) := by decide +kernel
theorem dX11_rank_14 : decode cX11_rank 14 = .ok (.ifCond .lt 9, 3) := by decide +kernel
theorem dX11_rank_17 : decode cX11_rank 17 = .ok (.iload_n 2, 1) := by decide +kernel
theorem dX11_rank_18 : decode cX11_rank 18 = .ok (.bipush 9, 2) := by decide +kernel
theorem dX11_rank_20 : decode cX11_rank 20 = .ok (.if_icmp .le 6, 3) := by decide +kernel
theorem dX11_rank_23 : decode cX11_rank 23 = .ok (.bipush (-2), 2) := by decide +kernel
theorem dX11_rank_25 : decode cX11_rank 25 = .ok (.ireturn, 1) := by decide +kernel
theorem dX11_rank_26 : decode cX11_rank 26 = .ok (.aload_n 0, 1) := by decide +kernel
theorem dX11_rank_27 : decode cX11_rank 27 = .ok (.getfield 26, 3) := by decide +kernel
theorem dX11_rank_30 : decode cX11_rank 30 = .ok (.getfield 158, 3) := by decide +kernel
theorem dX11_rank_33 : decode cX11_rank 33 = .ok (.iload_n 1, 1) := by decide +kernel
theorem dX11_rank_34 : decode cX11_rank 34 = .ok (.iaload, 1) := by decide +kernel
theorem dX11_rank_35 : decode cX11_rank 35 = .ok (.istore_n 3, 1) := by decide +kernel
theorem dX11_rank_36 : decode cX11_rank 36 = .ok (.aload_n 0, 1) := by decide +kernel
theorem dX11_rank_37 : decode cX11_rank 37 = .ok (.iconst 3, 1) := by decide +kernel
theorem dX11_rank_38 : decode cX11_rank 38 = .ok (.iload_n 1, 1) := by decide +kernel
theorem dX11_rank_39 : decode cX11_rank 39 = .ok (.iload_n 2, 1) := by decide +kernel
theorem dX11_rank_40 : decode cX11_rank 40 = .ok (.invokevirtual 189, 3) := by decide +kernel
theorem dX11_rank_43 : decode cX11_rank 43 = .ok (.aload_n 0, 1) := by decide +kernel
theorem dX11_rank_44 : decode cX11_rank 44 = .ok (.getfield 44, 3) := by decide +kernel
theorem dX11_rank_47 : decode cX11_rank 47 = .ok (.iconst 3, 1) := by decide +kernel
theorem dX11_rank_48 : decode cX11_rank 48 = .ok (.iload_n 1, 1) := by decide +kernel
theorem dX11_rank_49 : decode cX11_rank 49 = .ok (.iload_n 3, 1) := by decide +kernel
theorem dX11_rank_50 : decode cX11_rank 50 = .ok (.invokevirtual 193, 3) := by decide +kernel
theorem dX11_rank_53 : decode cX11_rank 53 = .ok (.iload_n 3, 1) := by decide +kernel
theorem dX11_rank_54 : decode cX11_rank 54 = .ok (.ireturn, 1) := by decide +kernel
theorem dX11_allow_0 : decode cX11_allow 0 = .ok (.iload_n 2, 1) := by decide +kernel
theorem dX11_allow_1 : decode cX11_allow 1 = .ok (.invokestatic 177, 3) := by decide +kernel
theorem dX11_allow_4 : decode cX11_allow 4 = .ok (.ifCond .eq 10, 3) := by decide +kernel
theorem dX11_allow_7 : decode cX11_allow 7 = .ok (.iload_n 3, 1) := by decide +kernel
theorem dX11_allow_8 : decode cX11_allow 8 = .ok (.invokestatic 177, 3) := by decide +kernel
theorem dX11_allow_11 : decode cX11_allow 11 = .ok (.ifCond .ne 5, 3) := by decide +kernel
theorem dX11_allow_14 : decode cX11_allow 14 = .ok (.iconst (-1), 1) := by decide +kernel
theorem dX11_allow_15 : decode cX11_allow 15 = .ok (.ireturn, 1) := by decide +kernel
theorem dX11_allow_16 : decode cX11_allow 16 = .ok (.iload_n 1, 1) := by decide +kernel
theorem dX11_allow_17 : decode cX11_allow 17 = .ok (.ifCond .lt 8, 3) := by decide +kernel
theorem dX11_allow_20 : decode cX11_allow 20 = .ok (.iload_n 1, 1) := by decide +kernel
theorem dX11_allow_21 : decode cX11_allow 21 = .ok (.iconst 2, 1) := by decide +kernel
theorem dX11_allow_22 : decode cX11_allow 22 = .ok (.if_icmp .le 6, 3) := by decide +kernel
theorem dX11_allow_25 : decode cX11_allow 25 = .ok (.bipush (-2), 2) := by decide +kernel
theorem dX11_allow_27 : decode cX11_allow 27 = .ok (.ireturn, 1) := by decide +kernel
theorem dX11_allow_28 : decode cX11_allow 28 = .ok (.aload_n 0, 1) := by decide +kernel
theorem dX11_allow_29 : decode cX11_allow 29 = .ok (.iconst 4, 1) := by decide +kernel
theorem dX11_allow_30 : decode cX11_allow 30 = .ok (.iload_n 1, 1) := by decide +kernel
theorem dX11_allow_31 : decode cX11_allow 31 = .ok (.iadd, 1) := by decide +kernel
theorem dX11_allow_32 : decode cX11_allow 32 = .ok (.iload_n 2, 1) := by decide +kernel
theorem dX11_allow_33 : decode cX11_allow 33 = .ok (.iload_n 3, 1) := by decide +kernel
theorem dX11_allow_34 : decode cX11_allow 34 = .ok (.invokevirtual 189, 3) := by decide +kernel
theorem dX11_allow_37 : decode cX11_allow 37 = .ok (.aload_n 0, 1) := by decide +kernel
theorem dX11_allow_38 : decode cX11_allow 38 = .ok (.getfield 44, 3) := by decide +kernel
theorem dX11_allow_41 : decode cX11_allow 41 = .ok (.iconst 4, 1) := by decide +kernel
theorem dX11_allow_42 : decode cX11_allow 42 = .ok (.iload_n 1, 1) := by decide +kernel
theorem dX11_allow_43 : decode cX11_allow 43 = .ok (.iadd, 1) := by decide +kernel
theorem dX11_allow_44 : decode cX11_allow 44 = .ok (.iload_n 2, 1) := by decide +kernel
theorem dX11_allow_45 : decode cX11_allow 45 = .ok (.iload_n 3, 1) := by decide +kernel
theorem dX11_allow_46 : decode cX11_allow 46 = .ok (.invokevirtual 193, 3) := by decide +kernel
theorem dX11_allow_49 : decode cX11_allow 49 = .ok (.iload_n 1, 1) := by decide +kernel
theorem dX11_allow_50 : decode cX11_allow 50 = .ok (.lookupswitch 50 #[(0, 26), (1, 38)], 26) := by decide +kernel
theorem dX11_allow_76 : decode cX11_allow 76 = .ok (.aload_n 0, 1) := by decide +kernel
theorem dX11_allow_77 : decode cX11_allow 77 = .ok (.getfield 26, 3) := by decide +kernel
theorem dX11_allow_80 : decode cX11_allow 80 = .ok (.getfield 131, 3) := by decide +kernel
theorem dX11_allow_83 : decode cX11_allow 83 = .ok (.iload_n 2, 1) := by decide +kernel
theorem dX11_allow_84 : decode cX11_allow 84 = .ok (.ishr, 1) := by decide +kernel
theorem dX11_allow_85 : decode cX11_allow 85 = .ok (.iconst 1, 1) := by decide +kernel
theorem dX11_allow_86 : decode cX11_allow 86 = .ok (.iand, 1) := by decide +kernel
theorem dX11_allow_87 : decode cX11_allow 87 = .ok (.ireturn, 1) := by decide +kernel
theorem dX11_allow_88 : decode cX11_allow 88 = .ok (.aload_n 0, 1) := by decide +kernel
theorem dX11_allow_89 : decode cX11_allow 89 = .ok (.getfield 26, 3) := by decide +kernel
theorem dX11_allow_92 : decode cX11_allow 92 = .ok (.getfield 134, 3) := by decide +kernel
theorem dX11_allow_95 : decode cX11_allow 95 = .ok (.iload_n 2, 1) := by decide +kernel
theorem dX11_allow_96 : decode cX11_allow 96 = .ok (.ishr, 1) := by decide +kernel
theorem dX11_allow_97 : decode cX11_allow 97 = .ok (.iconst 1, 1) := by decide +kernel
theorem dX11_allow_98 : decode cX11_allow 98 = .ok (.iand, 1) := by decide +kernel
theorem dX11_allow_99 : decode cX11_allow 99 = .ok (.ireturn, 1) := by decide +kernel
theorem dX11_allow_100 : decode cX11_allow 100 = .ok (.aload_n 0, 1) := by decide +kernel
theorem dX11_allow_101 : decode cX11_allow 101 = .ok (.getfield 26, 3) := by decide +kernel
theorem dX11_allow_104 : decode cX11_allow 104 = .ok (.getfield 186, 3) := by decide +kernel
theorem dX11_allow_107 : decode cX11_allow 107 = .ok (.iload_n 2, 1) := by decide +kernel
theorem dX11_allow_108 : decode cX11_allow 108 = .ok (.iaload, 1) := by decide +kernel
theorem dX11_allow_109 : decode cX11_allow 109 = .ok (.iload_n 3, 1) := by decide +kernel
theorem dX11_allow_110 : decode cX11_allow 110 = .ok (.ishr, 1) := by decide +kernel
theorem dX11_allow_111 : decode cX11_allow 111 = .ok (.iconst 1, 1) := by decide +kernel
theorem dX11_allow_112 : decode cX11_allow 112 = .ok (.iand, 1) := by decide +kernel
theorem dX11_allow_113 : decode cX11_allow 113 = .ok (.ireturn, 1) := by decide +kernel
theorem dX11_undo_0 : decode cX11_undo 0 = .ok (.aload_n 0, 1) := by decide +kernel
theorem dX11_undo_1 : decode cX11_undo 1 = .ok (.getfield 44, 3) := by decide +kernel
theorem dX11_undo_4 : decode cX11_undo 4 = .ok (.aload_n 0, 1) := by decide +kernel
theorem dX11_undo_5 : decode cX11_undo 5 = .ok (.getfield 26, 3) := by decide +kernel
theorem dX11_undo_8 : decode cX11_undo 8 = .ok (.invokevirtual 196, 3) := by decide +kernel
theorem dX11_undo_11 : decode cX11_undo 11 = .ok (.ifCond .ne 6, 3) := by decide +kernel
theorem dX11_undo_14 : decode cX11_undo 14 = .ok (.bipush (-3), 2) := by decide +kernel
theorem dX11_undo_16 : decode cX11_undo 16 = .ok (.ireturn, 1) := by decide +kernel
theorem dX11_undo_17 : decode cX11_undo 17 = .ok (.aload_n 0, 1) := by decide +kernel
theorem dX11_undo_18 : decode cX11_undo 18 = .ok (.invokevirtual 116, 3) := by decide +kernel
theorem dX11_undo_21 : decode cX11_undo 21 = .ok (.aload_n 0, 1) := by decide +kernel
theorem dX11_undo_22 : decode cX11_undo 22 = .ok (.getfield 44, 3) := by decide +kernel
theorem dX11_undo_25 : decode cX11_undo 25 = .ok (.getfield 115, 3) := by decide +kernel
theorem dX11_undo_28 : decode cX11_undo 28 = .ok (.ireturn, 1) := by decide +kernel
theorem dX11_many_0 : decode cX11_many 0 = .ok (.iload_n 1, 1) := by decide +kernel
theorem dX11_many_1 : decode cX11_many 1 = .ok (.ifCond .lt 9, 3) := by decide +kernel
theorem dX11_many_4 : decode cX11_many 4 = .ok (.iload_n 1, 1) := by decide +kernel
theorem dX11_many_5 : decode cX11_many 5 = .ok (.bipush 12, 2) := by decide +kernel
theorem dX11_many_7 : decode cX11_many 7 = .ok (.if_icmp .le 7, 3) := by decide +kernel
theorem dX11_many_10 : decode cX11_many 10 = .ok (.ldc2_w 200, 3) := by decide +kernel
theorem dX11_many_13 : decode cX11_many 13 = .ok (.lreturn, 1) := by decide +kernel
theorem dX11_many_14 : decode cX11_many 14 = .ok (.iload_n 1, 1) := by decide +kernel
theorem dX11_many_15 : decode cX11_many 15 = .ok (.ifCond .ne 13, 3) := by decide +kernel
theorem dX11_many_18 : decode cX11_many 18 = .ok (.aload_n 0, 1) := by decide +kernel
theorem dX11_many_19 : decode cX11_many 19 = .ok (.getfield 53, 3) := by decide +kernel
theorem dX11_many_22 : decode cX11_many 22 = .ok (.invokevirtual 202, 3) := by decide +kernel
theorem dX11_many_25 : decode cX11_many 25 = .ok (.goto 11, 3) := by decide +kernel
theorem dX11_many_28 : decode cX11_many 28 = .ok (.aload_n 0, 1) := by decide +kernel
theorem dX11_many_29 : decode cX11_many 29 = .ok (.getfield 53, 3) := by decide +kernel
theorem dX11_many_32 : decode cX11_many 32 = .ok (.iload_n 1, 1) := by decide +kernel
theorem dX11_many_33 : decode cX11_many 33 = .ok (.invokevirtual 205, 3) := by decide +kernel
theorem dX11_many_36 : decode cX11_many 36 = .ok (.lreturn, 1) := by decide +kernel
theorem dX11_having_0 : decode cX11_having 0 = .ok (.aload_n 0, 1) := by decide +kernel
theorem dX11_having_1 : decode cX11_having 1 = .ok (.getfield 19, 3) := by decide +kernel
theorem dX11_having_4 : decode cX11_having 4 = .ok (.iload_n 1, 1) := by decide +kernel
theorem dX11_having_5 : decode cX11_having 5 = .ok (.invokevirtual 149, 3) := by decide +kernel
theorem dX11_having_8 : decode cX11_having 8 = .ok (.ifCond .ne 7, 3) := by decide +kernel
theorem dX11_having_11 : decode cX11_having 11 = .ok (.ldc2_w 209, 3) := by decide +kernel
theorem dX11_having_14 : decode cX11_having 14 = .ok (.lreturn, 1) := by decide +kernel
theorem dX11_having_15 : decode cX11_having 15 = .ok (.aload_n 0, 1) := by decide +kernel
theorem dX11_having_16 : decode cX11_having 16 = .ok (.getfield 53, 3) := by decide +kernel
theorem dX11_having_19 : decode cX11_having 19 = .ok (.invokevirtual 202, 3) := by decide +kernel
theorem dX11_having_22 : decode cX11_having 22 = .ok (.aload_n 0, 1) := by decide +kernel
theorem dX11_having_23 : decode cX11_having 23 = .ok (.getfield 53, 3) := by decide +kernel
theorem dX11_having_26 : decode cX11_having 26 = .ok (.sipush 1023, 3) := by decide +kernel
theorem dX11_having_29 : decode cX11_having 29 = .ok (.iconst 1, 1) := by decide +kernel
theorem dX11_having_30 : decode cX11_having 30 = .ok (.iload_n 1, 1) := by decide +kernel
theorem dX11_having_31 : decode cX11_having 31 = .ok (.ishl, 1) := by decide +kernel
theorem dX11_having_32 : decode cX11_having 32 = .ok (.iconst (-1), 1) := by decide +kernel
theorem dX11_having_33 : decode cX11_having 33 = .ok (.ixor, 1) := by decide +kernel
theorem dX11_having_34 : decode cX11_having 34 = .ok (.iand, 1) := by decide +kernel
theorem dX11_having_35 : decode cX11_having 35 = .ok (.invokevirtual 211, 3) := by decide +kernel
theorem dX11_having_38 : decode cX11_having 38 = .ok (.lsub, 1) := by decide +kernel
theorem dX11_having_39 : decode cX11_having 39 = .ok (.lreturn, 1) := by decide +kernel
theorem dX11_best_0 : decode cX11_best 0 = .ok (.iload_n 1, 1) := by decide +kernel
theorem dX11_best_1 : decode cX11_best 1 = .ok (.ifCond .lt 9, 3) := by decide +kernel
theorem dX11_best_4 : decode cX11_best 4 = .ok (.iload_n 1, 1) := by decide +kernel
theorem dX11_best_5 : decode cX11_best 5 = .ok (.bipush 13, 2) := by decide +kernel
theorem dX11_best_7 : decode cX11_best 7 = .ok (.if_icmp .le 6, 3) := by decide +kernel
theorem dX11_best_10 : decode cX11_best 10 = .ok (.bipush (-2), 2) := by decide +kernel
theorem dX11_best_12 : decode cX11_best 12 = .ok (.ireturn, 1) := by decide +kernel
theorem dX11_best_13 : decode cX11_best 13 = .ok (.aload_n 0, 1) := by decide +kernel
theorem dX11_best_14 : decode cX11_best 14 = .ok (.getfield 53, 3) := by decide +kernel
theorem dX11_best_17 : decode cX11_best 17 = .ok (.invokevirtual 214, 3) := by decide +kernel
theorem dX11_best_20 : decode cX11_best 20 = .ok (.ifCond .ne 6, 3) := by decide +kernel
theorem dX11_best_23 : decode cX11_best 23 = .ok (.bipush (-9), 2) := by decide +kernel
theorem dX11_best_25 : decode cX11_best 25 = .ok (.ireturn, 1) := by decide +kernel
theorem dX11_best_26 : decode cX11_best 26 = .ok (.iload_n 1, 1) := by decide +kernel
theorem dX11_best_27 : decode cX11_best 27 = .ok (.lookupswitch 41 #[(0, 25), (1, 33)], 25) := by decide +kernel
theorem dX11_best_52 : decode cX11_best 52 = .ok (.aload_n 0, 1) := by decide +kernel
theorem dX11_best_53 : decode cX11_best 53 = .ok (.getfield 53, 3) := by decide +kernel
theorem dX11_best_56 : decode cX11_best 56 = .ok (.invokevirtual 218, 3) := by decide +kernel
theorem dX11_best_59 : decode cX11_best 59 = .ok (.ireturn, 1) := by decide +kernel
theorem dX11_best_60 : decode cX11_best 60 = .ok (.aload_n 0, 1) := by decide +kernel
theorem dX11_best_61 : decode cX11_best 61 = .ok (.getfield 53, 3) := by decide +kernel
theorem dX11_best_64 : decode cX11_best 64 = .ok (.getfield 221, 3) := by decide +kernel
theorem dX11_best_67 : decode cX11_best 67 = .ok (.ireturn, 1) := by decide +kernel
theorem dX11_best_68 : decode cX11_best 68 = .ok (.aload_n 0, 1) := by decide +kernel
theorem dX11_best_69 : decode cX11_best 69 = .ok (.getfield 53, 3) := by decide +kernel
theorem dX11_best_72 : decode cX11_best 72 = .ok (.iload_n 1, 1) := by decide +kernel
theorem dX11_best_73 : decode cX11_best 73 = .ok (.iconst 2, 1) := by decide +kernel
theorem dX11_best_74 : decode cX11_best 74 = .ok (.isub, 1) := by decide +kernel
theorem dX11_best_75 : decode cX11_best 75 = .ok (.invokevirtual 224, 3) := by decide +kernel
theorem dX11_best_78 : decode cX11_best 78 = .ok (.ireturn, 1) := by decide +kernel
theorem dX11_phrase_0 : decode cX11_phrase 0 = .ok (.lload_n 1, 1) := by decide +kernel
theorem dX11_phrase_1 : decode cX11_phrase 1 = .ok (.lconst 0, 1) := by decide +kernel
theorem dX11_phrase_2 : decode cX11_phrase 2 = .ok (.lcmp, 1) := by decide +kernel
theorem dX11_phrase_3 : decode cX11_phrase 3 = .ok (.ifCond .lt 15, 3) := by decide +kernel
theorem dX11_phrase_6 : decode cX11_phrase 6 = .ok (.lload_n 1, 1) := by decide +kernel
theorem dX11_phrase_7 : decode cX11_phrase 7 = .ok (.aload_n 0, 1) := by decide +kernel
theorem dX11_phrase_8 : decode cX11_phrase 8 = .ok (.getfield 53, 3) := by decide +kernel
theorem dX11_phrase_11 : decode cX11_phrase 11 = .ok (.invokevirtual 202, 3) := by decide +kernel
theorem dX11_phrase_14 : decode cX11_phrase 14 = .ok (.lcmp, 1) := by decide +kernel
theorem dX11_phrase_15 : decode cX11_phrase 15 = .ok (.ifCond .lt 5, 3) := by decide +kernel
theorem dX11_phrase_18 : decode cX11_phrase 18 = .ok (.iconst (-1), 1) := by decide +kernel
theorem dX11_phrase_19 : decode cX11_phrase 19 = .ok (.ireturn, 1) := by decide +kernel
theorem dX11_phrase_20 : decode cX11_phrase 20 = .ok (.iload_n 3, 1) := by decide +kernel
theorem dX11_phrase_21 : decode cX11_phrase 21 = .ok (.ifCond .lt 9, 3) := by decide +kernel
theorem dX11_phrase_24 : decode cX11_phrase 24 = .ok (.iload_n 3, 1) := by decide +kernel
theorem dX11_phrase_25 : decode cX11_phrase 25 = .ok (.bipush 13, 2) := by decide +kernel
theorem dX11_phrase_27 : decode cX11_phrase 27 = .ok (.if_icmp .le 6, 3) := by decide +kernel
theorem dX11_phrase_30 : decode cX11_phrase 30 = .ok (.bipush (-2), 2) := by decide +kernel
theorem dX11_phrase_32 : decode cX11_phrase 32 = .ok (.ireturn, 1) := by decide +kernel
theorem dX11_phrase_33 : decode cX11_phrase 33 = .ok (.aload_n 0, 1) := by decide +kernel
theorem dX11_phrase_34 : decode cX11_phrase 34 = .ok (.getfield 53, 3) := by decide +kernel
theorem dX11_phrase_37 : decode cX11_phrase 37 = .ok (.lload_n 1, 1) := by decide +kernel
theorem dX11_phrase_38 : decode cX11_phrase 38 = .ok (.invokevirtual 227, 3) := by decide +kernel
theorem dX11_phrase_41 : decode cX11_phrase 41 = .ok (.iload_n 3, 1) := by decide +kernel
theorem dX11_phrase_42 : decode cX11_phrase 42 = .ok (.ifCond .ne 11, 3) := by decide +kernel
theorem dX11_phrase_45 : decode cX11_phrase 45 = .ok (.aload_n 0, 1) := by decide +kernel
theorem dX11_phrase_46 : decode cX11_phrase 46 = .ok (.getfield 53, 3) := by decide +kernel
theorem dX11_phrase_49 : decode cX11_phrase 49 = .ok (.getfield 221, 3) := by decide +kernel
theorem dX11_phrase_52 : decode cX11_phrase 52 = .ok (.ireturn, 1) := by decide +kernel
theorem dX11_phrase_53 : decode cX11_phrase 53 = .ok (.iload_n 3, 1) := by decide +kernel
theorem dX11_phrase_54 : decode cX11_phrase 54 = .ok (.bipush 12, 2) := by decide +kernel
theorem dX11_phrase_56 : decode cX11_phrase 56 = .ok (.if_icmp .le 13, 3) := by decide +kernel
theorem dX11_phrase_59 : decode cX11_phrase 59 = .ok (.aload_n 0, 1) := by decide +kernel
theorem dX11_phrase_60 : decode cX11_phrase 60 = .ok (.getfield 53, 3) := by decide +kernel
theorem dX11_phrase_63 : decode cX11_phrase 63 = .ok (.invokevirtual 218, 3) := by decide +kernel
theorem dX11_phrase_66 : decode cX11_phrase 66 = .ok (.goto 13, 3) := by decide +kernel
theorem dX11_phrase_69 : decode cX11_phrase 69 = .ok (.aload_n 0, 1) := by decide +kernel
theorem dX11_phrase_70 : decode cX11_phrase 70 = .ok (.getfield 53, 3) := by decide +kernel
theorem dX11_phrase_73 : decode cX11_phrase 73 = .ok (.iload_n 3, 1) := by decide +kernel
theorem dX11_phrase_74 : decode cX11_phrase 74 = .ok (.iconst 1, 1) := by decide +kernel
theorem dX11_phrase_75 : decode cX11_phrase 75 = .ok (.isub, 1) := by decide +kernel
theorem dX11_phrase_76 : decode cX11_phrase 76 = .ok (.invokevirtual 224, 3) := by decide +kernel
theorem dX11_phrase_79 : decode cX11_phrase 79 = .ok (.ireturn, 1) := by decide +kernel
theorem dX11_tell_0 : decode cX11_tell 0 = .ok (.aload_n 0, 1) := by decide +kernel
theorem dX11_tell_1 : decode cX11_tell 1 = .ok (.getfield 19, 3) := by decide +kernel
theorem dX11_tell_4 : decode cX11_tell 4 = .ok (.iload_n 1, 1) := by decide +kernel
theorem dX11_tell_5 : decode cX11_tell 5 = .ok (.invokevirtual 149, 3) := by decide +kernel
theorem dX11_tell_8 : decode cX11_tell 8 = .ok (.ifCond .ne 5, 3) := by decide +kernel
theorem dX11_tell_11 : decode cX11_tell 11 = .ok (.iconst (-1), 1) := by decide +kernel
theorem dX11_tell_12 : decode cX11_tell 12 = .ok (.ireturn, 1) := by decide +kernel
theorem dX11_tell_13 : decode cX11_tell 13 = .ok (.aload_n 0, 1) := by decide +kernel
theorem dX11_tell_14 : decode cX11_tell 14 = .ok (.getfield 82, 3) := by decide +kernel
theorem dX11_tell_17 : decode cX11_tell 17 = .ok (.bipush 12, 2) := by decide +kernel
theorem dX11_tell_19 : decode cX11_tell 19 = .ok (.if_icmp .lt 6, 3) := by decide +kernel
theorem dX11_tell_22 : decode cX11_tell 22 = .ok (.bipush (-4), 2) := by decide +kernel
theorem dX11_tell_24 : decode cX11_tell 24 = .ok (.ireturn, 1) := by decide +kernel
theorem dX11_tell_25 : decode cX11_tell 25 = .ok (.aload_n 0, 1) := by decide +kernel
theorem dX11_tell_26 : decode cX11_tell 26 = .ok (.getfield 66, 3) := by decide +kernel
theorem dX11_tell_29 : decode cX11_tell 29 = .ok (.aload_n 0, 1) := by decide +kernel
theorem dX11_tell_30 : decode cX11_tell 30 = .ok (.getfield 82, 3) := by decide +kernel
theorem dX11_tell_33 : decode cX11_tell 33 = .ok (.iload_n 1, 1) := by decide +kernel
theorem dX11_tell_34 : decode cX11_tell 34 = .ok (.iastore, 1) := by decide +kernel
theorem dX11_tell_35 : decode cX11_tell 35 = .ok (.aload_n 0, 1) := by decide +kernel
theorem dX11_tell_36 : decode cX11_tell 36 = .ok (.dup, 1) := by decide +kernel
theorem dX11_tell_37 : decode cX11_tell 37 = .ok (.getfield 82, 3) := by decide +kernel
theorem dX11_tell_40 : decode cX11_tell 40 = .ok (.iconst 1, 1) := by decide +kernel
theorem dX11_tell_41 : decode cX11_tell 41 = .ok (.iadd, 1) := by decide +kernel
theorem dX11_tell_42 : decode cX11_tell 42 = .ok (.putfield 82, 3) := by decide +kernel
theorem dX11_tell_45 : decode cX11_tell 45 = .ok (.aload_n 0, 1) := by decide +kernel
theorem dX11_tell_46 : decode cX11_tell 46 = .ok (.getfield 82, 3) := by decide +kernel
theorem dX11_tell_49 : decode cX11_tell 49 = .ok (.ireturn, 1) := by decide +kernel
theorem dX11_clear_0 : decode cX11_clear 0 = .ok (.aload_n 0, 1) := by decide +kernel
theorem dX11_clear_1 : decode cX11_clear 1 = .ok (.getfield 82, 3) := by decide +kernel
theorem dX11_clear_4 : decode cX11_clear 4 = .ok (.istore_n 1, 1) := by decide +kernel
theorem dX11_clear_5 : decode cX11_clear 5 = .ok (.aload_n 0, 1) := by decide +kernel
theorem dX11_clear_6 : decode cX11_clear 6 = .ok (.iconst 0, 1) := by decide +kernel
theorem dX11_clear_7 : decode cX11_clear 7 = .ok (.putfield 82, 3) := by decide +kernel
theorem dX11_clear_10 : decode cX11_clear 10 = .ok (.iload_n 1, 1) := by decide +kernel
theorem dX11_clear_11 : decode cX11_clear 11 = .ok (.ireturn, 1) := by decide +kernel
theorem dX11_why_0 : decode cX11_why 0 = .ok (.iload_n 1, 1) := by decide +kernel
theorem dX11_why_1 : decode cX11_why 1 = .ok (.ifCond .lt 8, 3) := by decide +kernel
theorem dX11_why_4 : decode cX11_why 4 = .ok (.iload_n 1, 1) := by decide +kernel
theorem dX11_why_5 : decode cX11_why 5 = .ok (.iconst 3, 1) := by decide +kernel
theorem dX11_why_6 : decode cX11_why 6 = .ok (.if_icmp .le 6, 3) := by decide +kernel
theorem dX11_why_9 : decode cX11_why 9 = .ok (.bipush (-2), 2) := by decide +kernel
theorem dX11_why_11 : decode cX11_why 11 = .ok (.ireturn, 1) := by decide +kernel
theorem dX11_why_12 : decode cX11_why 12 = .ok (.aload_n 0, 1) := by decide +kernel
theorem dX11_why_13 : decode cX11_why 13 = .ok (.invokevirtual 231, 3) := by decide +kernel
theorem dX11_why_16 : decode cX11_why 16 = .ok (.aload_n 0, 1) := by decide +kernel
theorem dX11_why_17 : decode cX11_why 17 = .ok (.getfield 73, 3) := by decide +kernel
theorem dX11_why_20 : decode cX11_why 20 = .ok (.iload_n 1, 1) := by decide +kernel
theorem dX11_why_21 : decode cX11_why 21 = .ok (.iaload, 1) := by decide +kernel
theorem dX11_why_22 : decode cX11_why 22 = .ok (.ireturn, 1) := by decide +kernel
theorem dX11_number_0 : decode cX11_number 0 = .ok (.aload_n 0, 1) := by decide +kernel
theorem dX11_number_1 : decode cX11_number 1 = .ok (.invokevirtual 231, 3) := by decide +kernel
theorem dX11_number_4 : decode cX11_number 4 = .ok (.aload_n 0, 1) := by decide +kernel
theorem dX11_number_5 : decode cX11_number 5 = .ok (.getfield 73, 3) := by decide +kernel
theorem dX11_number_8 : decode cX11_number 8 = .ok (.iconst 0, 1) := by decide +kernel
theorem dX11_number_9 : decode cX11_number 9 = .ok (.iaload, 1) := by decide +kernel
theorem dX11_number_10 : decode cX11_number 10 = .ok (.ifCond .ne 21, 3) := by decide +kernel
theorem dX11_number_13 : decode cX11_number 13 = .ok (.aload_n 0, 1) := by decide +kernel
theorem dX11_number_14 : decode cX11_number 14 = .ok (.getfield 53, 3) := by decide +kernel
theorem dX11_number_17 : decode cX11_number 17 = .ok (.aload_n 0, 1) := by decide +kernel
theorem dX11_number_18 : decode cX11_number 18 = .ok (.getfield 66, 3) := by decide +kernel
theorem dX11_number_21 : decode cX11_number 21 = .ok (.aload_n 0, 1) := by decide +kernel
theorem dX11_number_22 : decode cX11_number 22 = .ok (.getfield 82, 3) := by decide +kernel
theorem dX11_number_25 : decode cX11_number 25 = .ok (.invokevirtual 234, 3) := by decide +kernel
theorem dX11_number_28 : decode cX11_number 28 = .ok (.goto 6, 3) := by decide +kernel
theorem dX11_number_31 : decode cX11_number 31 = .ok (.ldc2_w 238, 3) := by decide +kernel
theorem dX11_number_34 : decode cX11_number 34 = .ok (.lreturn, 1) := by decide +kernel
theorem dX11_nearly_0 : decode cX11_nearly 0 = .ok (.iload_n 1, 1) := by decide +kernel
theorem dX11_nearly_1 : decode cX11_nearly 1 = .ok (.lookupswitch 41 #[(0, 27), (1, 34)], 27) := by decide +kernel
theorem dX11_nearly_28 : decode cX11_nearly 28 = .ok (.aload_n 0, 1) := by decide +kernel
theorem dX11_nearly_29 : decode cX11_nearly 29 = .ok (.iconst 0, 1) := by decide +kernel
theorem dX11_nearly_30 : decode cX11_nearly 30 = .ok (.iconst 1, 1) := by decide +kernel
theorem dX11_nearly_31 : decode cX11_nearly 31 = .ok (.invokevirtual 240, 3) := by decide +kernel
theorem dX11_nearly_34 : decode cX11_nearly 34 = .ok (.ireturn, 1) := by decide +kernel
theorem dX11_nearly_35 : decode cX11_nearly 35 = .ok (.aload_n 0, 1) := by decide +kernel
theorem dX11_nearly_36 : decode cX11_nearly 36 = .ok (.iconst 1, 1) := by decide +kernel
theorem dX11_nearly_37 : decode cX11_nearly 37 = .ok (.iconst 0, 1) := by decide +kernel
theorem dX11_nearly_38 : decode cX11_nearly 38 = .ok (.invokevirtual 240, 3) := by decide +kernel
theorem dX11_nearly_41 : decode cX11_nearly 41 = .ok (.ireturn, 1) := by decide +kernel
theorem dX11_nearly_42 : decode cX11_nearly 42 = .ok (.bipush (-2), 2) := by decide +kernel
theorem dX11_nearly_44 : decode cX11_nearly 44 = .ok (.ireturn, 1) := by decide +kernel
theorem dX11_judge_0 : decode cX11_judge 0 = .ok (.iload_n 1, 1) := by decide +kernel
theorem dX11_judge_1 : decode cX11_judge 1 = .ok (.iconst 1, 1) := by decide +kernel
theorem dX11_judge_2 : decode cX11_judge 2 = .ok (.if_icmp .lt 14, 3) := by decide +kernel
theorem dX11_judge_5 : decode cX11_judge 5 = .ok (.iload_n 1, 1) := by decide +kernel
theorem dX11_judge_6 : decode cX11_judge 6 = .ok (.iconst 4, 1) := by decide +kernel
theorem dX11_judge_7 : decode cX11_judge 7 = .ok (.if_icmp .gt 9, 3) := by decide +kernel
theorem dX11_judge_10 : decode cX11_judge 10 = .ok (.lload_n 2, 1) := by decide +kernel
theorem dX11_judge_11 : decode cX11_judge 11 = .ok (.lconst 0, 1) := by decide +kernel
theorem dX11_judge_12 : decode cX11_judge 12 = .ok (.lcmp, 1) := by decide +kernel
theorem dX11_judge_13 : decode cX11_judge 13 = .ok (.ifCond .ge 6, 3) := by decide +kernel
theorem dX11_judge_16 : decode cX11_judge 16 = .ok (.bipush (-2), 2) := by decide +kernel
theorem dX11_judge_18 : decode cX11_judge 18 = .ok (.ireturn, 1) := by decide +kernel
theorem dX11_judge_19 : decode cX11_judge 19 = .ok (.lload_n 2, 1) := by decide +kernel
theorem dX11_judge_20 : decode cX11_judge 20 = .ok (.lstore 4, 2) := by decide +kernel
theorem dX11_judge_22 : decode cX11_judge 22 = .ok (.iload_n 1, 1) := by decide +kernel
theorem dX11_judge_23 : decode cX11_judge 23 = .ok (.iconst 1, 1) := by decide +kernel
theorem dX11_judge_24 : decode cX11_judge 24 = .ok (.isub, 1) := by decide +kernel
theorem dX11_judge_25 : decode cX11_judge 25 = .ok (.istore 6, 2) := by decide +kernel
theorem dX11_judge_27 : decode cX11_judge 27 = .ok (.iload 6, 2) := by decide +kernel
theorem dX11_judge_29 : decode cX11_judge 29 = .ok (.ifCond .lt 31, 3) := by decide +kernel
theorem dX11_judge_32 : decode cX11_judge 32 = .ok (.aload_n 0, 1) := by decide +kernel
theorem dX11_judge_33 : decode cX11_judge 33 = .ok (.getfield 70, 3) := by decide +kernel
theorem dX11_judge_36 : decode cX11_judge 36 = .ok (.iload 6, 2) := by decide +kernel
theorem dX11_judge_38 : decode cX11_judge 38 = .ok (.lload 4, 2) := by decide +kernel
theorem dX11_judge_40 : decode cX11_judge 40 = .ok (.ldc2_w 244, 3) := by decide +kernel
theorem dX11_judge_43 : decode cX11_judge 43 = .ok (.lrem, 1) := by decide +kernel
theorem dX11_judge_44 : decode cX11_judge 44 = .ok (.l2i, 1) := by decide +kernel
theorem dX11_judge_45 : decode cX11_judge 45 = .ok (.iastore, 1) := by decide +kernel
theorem dX11_judge_46 : decode cX11_judge 46 = .ok (.lload 4, 2) := by decide +kernel
theorem dX11_judge_48 : decode cX11_judge 48 = .ok (.ldc2_w 244, 3) := by decide +kernel
theorem dX11_judge_51 : decode cX11_judge 51 = .ok (.ldiv, 1) := by decide +kernel
theorem dX11_judge_52 : decode cX11_judge 52 = .ok (.lstore 4, 2) := by decide +kernel
theorem dX11_judge_54 : decode cX11_judge 54 = .ok (.iinc 6 (-1), 3) := by decide +kernel
theorem dX11_judge_57 : decode cX11_judge 57 = .ok (.goto (-30), 3) := by decide +kernel
theorem dX11_judge_60 : decode cX11_judge 60 = .ok (.lload 4, 2) := by decide +kernel
theorem dX11_judge_62 : decode cX11_judge 62 = .ok (.lconst 0, 1) := by decide +kernel
theorem dX11_judge_63 : decode cX11_judge 63 = .ok (.lcmp, 1) := by decide +kernel
theorem dX11_judge_64 : decode cX11_judge 64 = .ok (.ifCond .eq 6, 3) := by decide +kernel
theorem dX11_judge_67 : decode cX11_judge 67 = .ok (.bipush (-2), 2) := by decide +kernel
theorem dX11_judge_69 : decode cX11_judge 69 = .ok (.ireturn, 1) := by decide +kernel
theorem dX11_judge_70 : decode cX11_judge 70 = .ok (.aload_n 0, 1) := by decide +kernel
theorem dX11_judge_71 : decode cX11_judge 71 = .ok (.getfield 30, 3) := by decide +kernel
theorem dX11_judge_74 : decode cX11_judge 74 = .ok (.aload_n 0, 1) := by decide +kernel
theorem dX11_judge_75 : decode cX11_judge 75 = .ok (.getfield 26, 3) := by decide +kernel
theorem dX11_judge_78 : decode cX11_judge 78 = .ok (.invokevirtual 112, 3) := by decide +kernel
theorem dX11_judge_81 : decode cX11_judge 81 = .ok (.iconst 0, 1) := by decide +kernel
theorem dX11_judge_82 : decode cX11_judge 82 = .ok (.istore 6, 2) := by decide +kernel
theorem dX11_judge_84 : decode cX11_judge 84 = .ok (.iload 6, 2) := by decide +kernel
theorem dX11_judge_86 : decode cX11_judge 86 = .ok (.iload_n 1, 1) := by decide +kernel
theorem dX11_judge_87 : decode cX11_judge 87 = .ok (.if_icmp .ge 23, 3) := by decide +kernel
theorem dX11_judge_90 : decode cX11_judge 90 = .ok (.aload_n 0, 1) := by decide +kernel
theorem dX11_judge_91 : decode cX11_judge 91 = .ok (.aload_n 0, 1) := by decide +kernel
theorem dX11_judge_92 : decode cX11_judge 92 = .ok (.getfield 70, 3) := by decide +kernel
theorem dX11_judge_95 : decode cX11_judge 95 = .ok (.iload 6, 2) := by decide +kernel
theorem dX11_judge_97 : decode cX11_judge 97 = .ok (.iaload, 1) := by decide +kernel
theorem dX11_judge_98 : decode cX11_judge 98 = .ok (.invokevirtual 246, 3) := by decide +kernel
theorem dX11_judge_101 : decode cX11_judge 101 = .ok (.ifCond .eq 9, 3) := by decide +kernel
theorem dX11_judge_104 : decode cX11_judge 104 = .ok (.iinc 6 1, 3) := by decide +kernel
theorem dX11_judge_107 : decode cX11_judge 107 = .ok (.goto (-23), 3) := by decide +kernel
theorem dX11_judge_110 : decode cX11_judge 110 = .ok (.aload_n 0, 1) := by decide +kernel
theorem dX11_judge_111 : decode cX11_judge 111 = .ok (.getfield 26, 3) := by decide +kernel
theorem dX11_judge_114 : decode cX11_judge 114 = .ok (.aload_n 0, 1) := by decide +kernel
theorem dX11_judge_115 : decode cX11_judge 115 = .ok (.getfield 30, 3) := by decide +kernel
theorem dX11_judge_118 : decode cX11_judge 118 = .ok (.invokevirtual 112, 3) := by decide +kernel
theorem dX11_judge_121 : decode cX11_judge 121 = .ok (.aload_n 0, 1) := by decide +kernel
theorem dX11_judge_122 : decode cX11_judge 122 = .ok (.invokevirtual 116, 3) := by decide +kernel
theorem dX11_judge_125 : decode cX11_judge 125 = .ok (.iload 6, 2) := by decide +kernel
theorem dX11_judge_127 : decode cX11_judge 127 = .ok (.iload_n 1, 1) := by decide +kernel
theorem dX11_judge_128 : decode cX11_judge 128 = .ok (.if_icmp .ge 8, 3) := by decide +kernel
theorem dX11_judge_131 : decode cX11_judge 131 = .ok (.iload 6, 2) := by decide +kernel
theorem dX11_judge_133 : decode cX11_judge 133 = .ok (.goto 5, 3) := by decide +kernel
theorem dX11_judge_136 : decode cX11_judge 136 = .ok (.bipush (-9), 2) := by decide +kernel
theorem dX11_judge_138 : decode cX11_judge 138 = .ok (.ireturn, 1) := by decide +kernel
theorem dX11_see_0 : decode cX11_see 0 = .ok (.iload_n 1, 1) := by decide +kernel
theorem dX11_see_1 : decode cX11_see 1 = .ok (.ifCond .lt 27, 3) := by decide +kernel
theorem dX11_see_4 : decode cX11_see 4 = .ok (.iload_n 1, 1) := by decide +kernel
theorem dX11_see_5 : decode cX11_see 5 = .ok (.iconst 3, 1) := by decide +kernel
theorem dX11_see_6 : decode cX11_see 6 = .ok (.if_icmp .gt 22, 3) := by decide +kernel
theorem dX11_see_9 : decode cX11_see 9 = .ok (.iload_n 2, 1) := by decide +kernel
theorem dX11_see_10 : decode cX11_see 10 = .ok (.ifCond .lt 18, 3) := by decide +kernel
theorem dX11_see_13 : decode cX11_see 13 = .ok (.iload_n 2, 1) := by decide +kernel
theorem dX11_see_14 : decode cX11_see 14 = .ok (.bipush 12, 2) := by decide +kernel
theorem dX11_see_16 : decode cX11_see 16 = .ok (.if_icmp .gt 12, 3) := by decide +kernel
theorem dX11_see_19 : decode cX11_see 19 = .ok (.iload_n 3, 1) := by decide +kernel
theorem dX11_see_20 : decode cX11_see 20 = .ok (.ifCond .lt 8, 3) := by decide +kernel
theorem dX11_see_23 : decode cX11_see 23 = .ok (.iload_n 3, 1) := by decide +kernel
theorem dX11_see_24 : decode cX11_see 24 = .ok (.iconst 1, 1) := by decide +kernel
theorem dX11_see_25 : decode cX11_see 25 = .ok (.if_icmp .le 6, 3) := by decide +kernel
theorem dX11_see_28 : decode cX11_see 28 = .ok (.bipush (-2), 2) := by decide +kernel
theorem dX11_see_30 : decode cX11_see 30 = .ok (.ireturn, 1) := by decide +kernel
theorem dX11_see_31 : decode cX11_see 31 = .ok (.aload_n 0, 1) := by decide +kernel
theorem dX11_see_32 : decode cX11_see 32 = .ok (.getfield 86, 3) := by decide +kernel
theorem dX11_see_35 : decode cX11_see 35 = .ok (.bipush 6, 2) := by decide +kernel
theorem dX11_see_37 : decode cX11_see 37 = .ok (.if_icmp .lt 6, 3) := by decide +kernel
theorem dX11_see_40 : decode cX11_see 40 = .ok (.bipush (-4), 2) := by decide +kernel
theorem dX11_see_42 : decode cX11_see 42 = .ok (.ireturn, 1) := by decide +kernel
theorem dX11_see_43 : decode cX11_see 43 = .ok (.aload_n 0, 1) := by decide +kernel
theorem dX11_see_44 : decode cX11_see 44 = .ok (.getfield 79, 3) := by decide +kernel
theorem dX11_see_47 : decode cX11_see 47 = .ok (.aload_n 0, 1) := by decide +kernel
theorem dX11_see_48 : decode cX11_see 48 = .ok (.getfield 86, 3) := by decide +kernel
theorem dX11_see_51 : decode cX11_see 51 = .ok (.iconst 3, 1) := by decide +kernel
theorem dX11_see_52 : decode cX11_see 52 = .ok (.imul, 1) := by decide +kernel
theorem dX11_see_53 : decode cX11_see 53 = .ok (.iload_n 1, 1) := by decide +kernel
theorem dX11_see_54 : decode cX11_see 54 = .ok (.iastore, 1) := by decide +kernel
theorem dX11_see_55 : decode cX11_see 55 = .ok (.aload_n 0, 1) := by decide +kernel
theorem dX11_see_56 : decode cX11_see 56 = .ok (.getfield 79, 3) := by decide +kernel
theorem dX11_see_59 : decode cX11_see 59 = .ok (.aload_n 0, 1) := by decide +kernel
theorem dX11_see_60 : decode cX11_see 60 = .ok (.getfield 86, 3) := by decide +kernel
theorem dX11_see_63 : decode cX11_see 63 = .ok (.iconst 3, 1) := by decide +kernel
theorem dX11_see_64 : decode cX11_see 64 = .ok (.imul, 1) := by decide +kernel
theorem dX11_see_65 : decode cX11_see 65 = .ok (.iconst 1, 1) := by decide +kernel
theorem dX11_see_66 : decode cX11_see 66 = .ok (.iadd, 1) := by decide +kernel
theorem dX11_see_67 : decode cX11_see 67 = .ok (.iload_n 2, 1) := by decide +kernel
theorem dX11_see_68 : decode cX11_see 68 = .ok (.iastore, 1) := by decide +kernel
theorem dX11_see_69 : decode cX11_see 69 = .ok (.aload_n 0, 1) := by decide +kernel
theorem dX11_see_70 : decode cX11_see 70 = .ok (.getfield 79, 3) := by decide +kernel
theorem dX11_see_73 : decode cX11_see 73 = .ok (.aload_n 0, 1) := by decide +kernel
theorem dX11_see_74 : decode cX11_see 74 = .ok (.getfield 86, 3) := by decide +kernel
theorem dX11_see_77 : decode cX11_see 77 = .ok (.iconst 3, 1) := by decide +kernel
theorem dX11_see_78 : decode cX11_see 78 = .ok (.imul, 1) := by decide +kernel
theorem dX11_see_79 : decode cX11_see 79 = .ok (.iconst 2, 1) := by decide +kernel
theorem dX11_see_80 : decode cX11_see 80 = .ok (.iadd, 1) := by decide +kernel
theorem dX11_see_81 : decode cX11_see 81 = .ok (.iload_n 3, 1) := by decide +kernel
theorem dX11_see_82 : decode cX11_see 82 = .ok (.iastore, 1) := by decide +kernel
theorem dX11_see_83 : decode cX11_see 83 = .ok (.aload_n 0, 1) := by decide +kernel
theorem dX11_see_84 : decode cX11_see 84 = .ok (.dup, 1) := by decide +kernel
theorem dX11_see_85 : decode cX11_see 85 = .ok (.getfield 86, 3) := by decide +kernel
theorem dX11_see_88 : decode cX11_see 88 = .ok (.iconst 1, 1) := by decide +kernel
theorem dX11_see_89 : decode cX11_see 89 = .ok (.iadd, 1) := by decide +kernel
theorem dX11_see_90 : decode cX11_see 90 = .ok (.putfield 86, 3) := by decide +kernel
theorem dX11_see_93 : decode cX11_see 93 = .ok (.aload_n 0, 1) := by decide +kernel
theorem dX11_see_94 : decode cX11_see 94 = .ok (.getfield 86, 3) := by decide +kernel
theorem dX11_see_97 : decode cX11_see 97 = .ok (.ireturn, 1) := by decide +kernel
theorem dX11_unsee_0 : decode cX11_unsee 0 = .ok (.aload_n 0, 1) := by decide +kernel
theorem dX11_unsee_1 : decode cX11_unsee 1 = .ok (.getfield 86, 3) := by decide +kernel
theorem dX11_unsee_4 : decode cX11_unsee 4 = .ok (.istore_n 1, 1) := by decide +kernel
theorem dX11_unsee_5 : decode cX11_unsee 5 = .ok (.aload_n 0, 1) := by decide +kernel
theorem dX11_unsee_6 : decode cX11_unsee 6 = .ok (.iconst 0, 1) := by decide +kernel
theorem dX11_unsee_7 : decode cX11_unsee 7 = .ok (.putfield 86, 3) := by decide +kernel
theorem dX11_unsee_10 : decode cX11_unsee 10 = .ok (.iload_n 1, 1) := by decide +kernel
theorem dX11_unsee_11 : decode cX11_unsee 11 = .ok (.ireturn, 1) := by decide +kernel
theorem dX11_left_0 : decode cX11_left 0 = .ok (.iload_n 1, 1) := by decide +kernel
theorem dX11_left_1 : decode cX11_left 1 = .ok (.ifCond .lt 8, 3) := by decide +kernel
theorem dX11_left_4 : decode cX11_left 4 = .ok (.iload_n 1, 1) := by decide +kernel
theorem dX11_left_5 : decode cX11_left 5 = .ok (.iconst 1, 1) := by decide +kernel
theorem dX11_left_6 : decode cX11_left 6 = .ok (.if_icmp .le 6, 3) := by decide +kernel
theorem dX11_left_9 : decode cX11_left 9 = .ok (.bipush (-2), 2) := by decide +kernel
theorem dX11_left_11 : decode cX11_left 11 = .ok (.ireturn, 1) := by decide +kernel
theorem dX11_left_12 : decode cX11_left 12 = .ok (.aload_n 0, 1) := by decide +kernel
theorem dX11_left_13 : decode cX11_left 13 = .ok (.getfield 53, 3) := by decide +kernel
theorem dX11_left_16 : decode cX11_left 16 = .ok (.invokevirtual 202, 3) := by decide +kernel
theorem dX11_left_19 : decode cX11_left 19 = .ok (.lstore_n 2, 1) := by decide +kernel
theorem dX11_left_20 : decode cX11_left 20 = .ok (.lload_n 2, 1) := by decide +kernel
theorem dX11_left_21 : decode cX11_left 21 = .ok (.ldc2_w 249, 3) := by decide +kernel
theorem dX11_left_24 : decode cX11_left 24 = .ok (.lcmp, 1) := by decide +kernel
theorem dX11_left_25 : decode cX11_left 25 = .ok (.ifCond .le 6, 3) := by decide +kernel
theorem dX11_left_28 : decode cX11_left 28 = .ok (.bipush (-3), 2) := by decide +kernel
theorem dX11_left_30 : decode cX11_left 30 = .ok (.ireturn, 1) := by decide +kernel
theorem dX11_left_31 : decode cX11_left 31 = .ok (.iconst 0, 1) := by decide +kernel
theorem dX11_left_32 : decode cX11_left 32 = .ok (.istore 4, 2) := by decide +kernel
theorem dX11_left_34 : decode cX11_left 34 = .ok (.iconst 0, 1) := by decide +kernel
theorem dX11_left_35 : decode cX11_left 35 = .ok (.istore 5, 2) := by decide +kernel
theorem dX11_left_37 : decode cX11_left 37 = .ok (.iload 5, 2) := by decide +kernel
theorem dX11_left_39 : decode cX11_left 39 = .ok (.i2l, 1) := by decide +kernel
theorem dX11_left_40 : decode cX11_left 40 = .ok (.lload_n 2, 1) := by decide +kernel
theorem dX11_left_41 : decode cX11_left 41 = .ok (.lcmp, 1) := by decide +kernel
theorem dX11_left_42 : decode cX11_left 42 = .ok (.ifCond .ge 37, 3) := by decide +kernel
theorem dX11_left_45 : decode cX11_left 45 = .ok (.aload_n 0, 1) := by decide +kernel
theorem dX11_left_46 : decode cX11_left 46 = .ok (.getfield 53, 3) := by decide +kernel
theorem dX11_left_49 : decode cX11_left 49 = .ok (.iload 5, 2) := by decide +kernel
theorem dX11_left_51 : decode cX11_left 51 = .ok (.i2l, 1) := by decide +kernel
theorem dX11_left_52 : decode cX11_left 52 = .ok (.invokevirtual 227, 3) := by decide +kernel
theorem dX11_left_55 : decode cX11_left 55 = .ok (.aload_n 0, 1) := by decide +kernel
theorem dX11_left_56 : decode cX11_left 56 = .ok (.invokevirtual 251, 3) := by decide +kernel
theorem dX11_left_59 : decode cX11_left 59 = .ok (.ifCond .eq 14, 3) := by decide +kernel
theorem dX11_left_62 : decode cX11_left 62 = .ok (.iload_n 1, 1) := by decide +kernel
theorem dX11_left_63 : decode cX11_left 63 = .ok (.iconst 1, 1) := by decide +kernel
theorem dX11_left_64 : decode cX11_left 64 = .ok (.if_icmp .ne 6, 3) := by decide +kernel
theorem dX11_left_67 : decode cX11_left 67 = .ok (.iload 5, 2) := by decide +kernel
theorem dX11_left_69 : decode cX11_left 69 = .ok (.ireturn, 1) := by decide +kernel
theorem dX11_left_70 : decode cX11_left 70 = .ok (.iinc 4 1, 3) := by decide +kernel
theorem dX11_left_73 : decode cX11_left 73 = .ok (.iinc 5 1, 3) := by decide +kernel
theorem dX11_left_76 : decode cX11_left 76 = .ok (.goto (-39), 3) := by decide +kernel
theorem dX11_left_79 : decode cX11_left 79 = .ok (.iload_n 1, 1) := by decide +kernel
theorem dX11_left_80 : decode cX11_left 80 = .ok (.ifCond .ne 8, 3) := by decide +kernel
theorem dX11_left_83 : decode cX11_left 83 = .ok (.iload 4, 2) := by decide +kernel
theorem dX11_left_85 : decode cX11_left 85 = .ok (.goto 5, 3) := by decide +kernel
theorem dX11_left_88 : decode cX11_left 88 = .ok (.bipush (-9), 2) := by decide +kernel
theorem dX11_left_90 : decode cX11_left 90 = .ok (.ireturn, 1) := by decide +kernel
theorem dX11_share_0 : decode cX11_share 0 = .ok (.aload_n 0, 1) := by decide +kernel
theorem dX11_share_1 : decode cX11_share 1 = .ok (.getfield 19, 3) := by decide +kernel
theorem dX11_share_4 : decode cX11_share 4 = .ok (.iload_n 1, 1) := by decide +kernel
theorem dX11_share_5 : decode cX11_share 5 = .ok (.invokevirtual 149, 3) := by decide +kernel
theorem dX11_share_8 : decode cX11_share 8 = .ok (.ifCond .ne 7, 3) := by decide +kernel
theorem dX11_share_11 : decode cX11_share 11 = .ok (.ldc2_w 209, 3) := by decide +kernel
theorem dX11_share_14 : decode cX11_share 14 = .ok (.lreturn, 1) := by decide +kernel
theorem dX11_share_15 : decode cX11_share 15 = .ok (.aload_n 0, 1) := by decide +kernel
theorem dX11_share_16 : decode cX11_share 16 = .ok (.getfield 26, 3) := by decide +kernel
theorem dX11_share_19 : decode cX11_share 19 = .ok (.getfield 128, 3) := by decide +kernel
theorem dX11_share_22 : decode cX11_share 22 = .ok (.iload_n 1, 1) := by decide +kernel
theorem dX11_share_23 : decode cX11_share 23 = .ok (.ishr, 1) := by decide +kernel
theorem dX11_share_24 : decode cX11_share 24 = .ok (.iconst 1, 1) := by decide +kernel
theorem dX11_share_25 : decode cX11_share 25 = .ok (.iand, 1) := by decide +kernel
theorem dX11_share_26 : decode cX11_share 26 = .ok (.ifCond .ne 13, 3) := by decide +kernel
theorem dX11_share_29 : decode cX11_share 29 = .ok (.aload_n 0, 1) := by decide +kernel
theorem dX11_share_30 : decode cX11_share 30 = .ok (.getfield 62, 3) := by decide +kernel
theorem dX11_share_33 : decode cX11_share 33 = .ok (.invokevirtual 254, 3) := by decide +kernel
theorem dX11_share_36 : decode cX11_share 36 = .ok (.ifCond .ne 7, 3) := by decide +kernel
theorem dX11_share_39 : decode cX11_share 39 = .ok (.ldc2_w 257, 3) := by decide +kernel
theorem dX11_share_42 : decode cX11_share 42 = .ok (.lreturn, 1) := by decide +kernel
theorem dX11_share_43 : decode cX11_share 43 = .ok (.aload_n 0, 1) := by decide +kernel
theorem dX11_share_44 : decode cX11_share 44 = .ok (.getfield 62, 3) := by decide +kernel
theorem dX11_share_47 : decode cX11_share 47 = .ok (.iload_n 1, 1) := by decide +kernel
theorem dX11_share_48 : decode cX11_share 48 = .ok (.invokevirtual 259, 3) := by decide +kernel
theorem dX11_share_51 : decode cX11_share 51 = .ok (.aload_n 0, 1) := by decide +kernel
theorem dX11_share_52 : decode cX11_share 52 = .ok (.getfield 62, 3) := by decide +kernel
theorem dX11_share_55 : decode cX11_share 55 = .ok (.invokevirtual 262, 3) := by decide +kernel
theorem dX11_share_58 : decode cX11_share 58 = .ok (.iload_n 2, 1) := by decide +kernel
theorem dX11_share_59 : decode cX11_share 59 = .ok (.invokestatic 265, 3) := by decide +kernel
theorem dX11_share_62 : decode cX11_share 62 = .ok (.lreturn, 1) := by decide +kernel
theorem dX11_hope_0 : decode cX11_hope 0 = .ok (.iload_n 1, 1) := by decide +kernel
theorem dX11_hope_1 : decode cX11_hope 1 = .ok (.ifCond .lt 9, 3) := by decide +kernel
theorem dX11_hope_4 : decode cX11_hope 4 = .ok (.iload_n 1, 1) := by decide +kernel
theorem dX11_hope_5 : decode cX11_hope 5 = .ok (.bipush 10, 2) := by decide +kernel
theorem dX11_hope_7 : decode cX11_hope 7 = .ok (.if_icmp .le 6, 3) := by decide +kernel
theorem dX11_hope_10 : decode cX11_hope 10 = .ok (.bipush (-2), 2) := by decide +kernel
theorem dX11_hope_12 : decode cX11_hope 12 = .ok (.ireturn, 1) := by decide +kernel
theorem dX11_hope_13 : decode cX11_hope 13 = .ok (.aload_n 0, 1) := by decide +kernel
theorem dX11_hope_14 : decode cX11_hope 14 = .ok (.getfield 62, 3) := by decide +kernel
theorem dX11_hope_17 : decode cX11_hope 17 = .ok (.invokevirtual 254, 3) := by decide +kernel
theorem dX11_hope_20 : decode cX11_hope 20 = .ok (.ifCond .ne 6, 3) := by decide +kernel
theorem dX11_hope_23 : decode cX11_hope 23 = .ok (.bipush (-3), 2) := by decide +kernel
theorem dX11_hope_25 : decode cX11_hope 25 = .ok (.ireturn, 1) := by decide +kernel
theorem dX11_hope_26 : decode cX11_hope 26 = .ok (.aload_n 0, 1) := by decide +kernel
theorem dX11_hope_27 : decode cX11_hope 27 = .ok (.getfield 62, 3) := by decide +kernel
theorem dX11_hope_30 : decode cX11_hope 30 = .ok (.iload_n 1, 1) := by decide +kernel
theorem dX11_hope_31 : decode cX11_hope 31 = .ok (.invokevirtual 269, 3) := by decide +kernel
theorem dX11_hope_34 : decode cX11_hope 34 = .ok (.aload_n 0, 1) := by decide +kernel
theorem dX11_hope_35 : decode cX11_hope 35 = .ok (.getfield 62, 3) := by decide +kernel
theorem dX11_hope_38 : decode cX11_hope 38 = .ok (.invokevirtual 272, 3) := by decide +kernel
theorem dX11_hope_41 : decode cX11_hope 41 = .ok (.iload_n 2, 1) := by decide +kernel
theorem dX11_hope_42 : decode cX11_hope 42 = .ok (.invokestatic 265, 3) := by decide +kernel
theorem dX11_hope_45 : decode cX11_hope 45 = .ok (.l2i, 1) := by decide +kernel
theorem dX11_hope_46 : decode cX11_hope 46 = .ok (.ireturn, 1) := by decide +kernel
theorem dX11_seed_0 : decode cX11_seed 0 = .ok (.aload_n 0, 1) := by decide +kernel
theorem dX11_seed_1 : decode cX11_seed 1 = .ok (.getfield 89, 3) := by decide +kernel
theorem dX11_seed_4 : decode cX11_seed 4 = .ok (.lstore_n 3, 1) := by decide +kernel
theorem dX11_seed_5 : decode cX11_seed 5 = .ok (.aload_n 0, 1) := by decide +kernel
theorem dX11_seed_6 : decode cX11_seed 6 = .ok (.lload_n 1, 1) := by decide +kernel
theorem dX11_seed_7 : decode cX11_seed 7 = .ok (.putfield 89, 3) := by decide +kernel
theorem dX11_seed_10 : decode cX11_seed 10 = .ok (.lload_n 3, 1) := by decide +kernel
theorem dX11_seed_11 : decode cX11_seed 11 = .ok (.lreturn, 1) := by decide +kernel
theorem dX11_drawn_0 : decode cX11_drawn 0 = .ok (.iload_n 1, 1) := by decide +kernel
theorem dX11_drawn_1 : decode cX11_drawn 1 = .ok (.iconst 1, 1) := by decide +kernel
theorem dX11_drawn_2 : decode cX11_drawn 2 = .ok (.if_icmp .lt 9, 3) := by decide +kernel
theorem dX11_drawn_5 : decode cX11_drawn 5 = .ok (.iload_n 1, 1) := by decide +kernel
theorem dX11_drawn_6 : decode cX11_drawn 6 = .ok (.bipush 20, 2) := by decide +kernel
theorem dX11_drawn_8 : decode cX11_drawn 8 = .ok (.if_icmp .le 6, 3) := by decide +kernel
theorem dX11_drawn_11 : decode cX11_drawn 11 = .ok (.bipush (-2), 2) := by decide +kernel
theorem dX11_drawn_13 : decode cX11_drawn 13 = .ok (.ireturn, 1) := by decide +kernel
theorem dX11_drawn_14 : decode cX11_drawn 14 = .ok (.aload_n 0, 1) := by decide +kernel
theorem dX11_drawn_15 : decode cX11_drawn 15 = .ok (.getfield 53, 3) := by decide +kernel
theorem dX11_drawn_18 : decode cX11_drawn 18 = .ok (.invokevirtual 202, 3) := by decide +kernel
theorem dX11_drawn_21 : decode cX11_drawn 21 = .ok (.lstore_n 2, 1) := by decide +kernel
theorem dX11_drawn_22 : decode cX11_drawn 22 = .ok (.iconst 0, 1) := by decide +kernel
theorem dX11_drawn_23 : decode cX11_drawn 23 = .ok (.istore 4, 2) := by decide +kernel
theorem dX11_drawn_25 : decode cX11_drawn 25 = .ok (.iconst 0, 1) := by decide +kernel
theorem dX11_drawn_26 : decode cX11_drawn 26 = .ok (.istore 5, 2) := by decide +kernel
theorem dX11_drawn_28 : decode cX11_drawn 28 = .ok (.iload 5, 2) := by decide +kernel
theorem dX11_drawn_30 : decode cX11_drawn 30 = .ok (.iload_n 1, 1) := by decide +kernel
theorem dX11_drawn_31 : decode cX11_drawn 31 = .ok (.if_icmp .ge 59, 3) := by decide +kernel
theorem dX11_drawn_34 : decode cX11_drawn 34 = .ok (.aload_n 0, 1) := by decide +kernel
theorem dX11_drawn_35 : decode cX11_drawn 35 = .ok (.aload_n 0, 1) := by decide +kernel
theorem dX11_drawn_36 : decode cX11_drawn 36 = .ok (.getfield 89, 3) := by decide +kernel
theorem dX11_drawn_39 : decode cX11_drawn 39 = .ok (.ldc2_w 275, 3) := by decide +kernel
theorem dX11_drawn_42 : decode cX11_drawn 42 = .ok (.lmul, 1) := by decide +kernel
theorem dX11_drawn_43 : decode cX11_drawn 43 = .ok (.ldc2_w 277, 3) := by decide +kernel
theorem dX11_drawn_46 : decode cX11_drawn 46 = .ok (.ladd, 1) := by decide +kernel
theorem dX11_drawn_47 : decode cX11_drawn 47 = .ok (.putfield 89, 3) := by decide +kernel
theorem dX11_drawn_50 : decode cX11_drawn 50 = .ok (.lload_n 2, 1) := by decide +kernel
theorem dX11_drawn_51 : decode cX11_drawn 51 = .ok (.lconst 0, 1) := by decide +kernel
theorem dX11_drawn_52 : decode cX11_drawn 52 = .ok (.lcmp, 1) := by decide +kernel
theorem dX11_drawn_53 : decode cX11_drawn 53 = .ok (.ifCond .le 31, 3) := by decide +kernel
theorem dX11_drawn_56 : decode cX11_drawn 56 = .ok (.aload_n 0, 1) := by decide +kernel
theorem dX11_drawn_57 : decode cX11_drawn 57 = .ok (.getfield 53, 3) := by decide +kernel
theorem dX11_drawn_60 : decode cX11_drawn 60 = .ok (.aload_n 0, 1) := by decide +kernel
theorem dX11_drawn_61 : decode cX11_drawn 61 = .ok (.getfield 89, 3) := by decide +kernel
theorem dX11_drawn_64 : decode cX11_drawn 64 = .ok (.bipush 33, 2) := by decide +kernel
theorem dX11_drawn_66 : decode cX11_drawn 66 = .ok (.lushr, 1) := by decide +kernel
theorem dX11_drawn_67 : decode cX11_drawn 67 = .ok (.lload_n 2, 1) := by decide +kernel
theorem dX11_drawn_68 : decode cX11_drawn 68 = .ok (.lrem, 1) := by decide +kernel
theorem dX11_drawn_69 : decode cX11_drawn 69 = .ok (.invokevirtual 227, 3) := by decide +kernel
theorem dX11_drawn_72 : decode cX11_drawn 72 = .ok (.iload 4, 2) := by decide +kernel
theorem dX11_drawn_74 : decode cX11_drawn 74 = .ok (.aload_n 0, 1) := by decide +kernel
theorem dX11_drawn_75 : decode cX11_drawn 75 = .ok (.getfield 53, 3) := by decide +kernel
theorem dX11_drawn_78 : decode cX11_drawn 78 = .ok (.invokevirtual 218, 3) := by decide +kernel
theorem dX11_drawn_81 : decode cX11_drawn 81 = .ok (.iadd, 1) := by decide +kernel
theorem dX11_drawn_82 : decode cX11_drawn 82 = .ok (.istore 4, 2) := by decide +kernel
theorem dX11_drawn_84 : decode cX11_drawn 84 = .ok (.iinc 5 1, 3) := by decide +kernel
theorem dX11_drawn_87 : decode cX11_drawn 87 = .ok (.goto (-59), 3) := by decide +kernel
theorem dX11_drawn_90 : decode cX11_drawn 90 = .ok (.iload 4, 2) := by decide +kernel
theorem dX11_drawn_92 : decode cX11_drawn 92 = .ok (.ireturn, 1) := by decide +kernel
theorem dX11_keep_0 : decode cX11_keep 0 = .ok (.iload_n 1, 1) := by decide +kernel
theorem dX11_keep_1 : decode cX11_keep 1 = .ok (.ifCond .lt 8, 3) := by decide +kernel
theorem dX11_keep_4 : decode cX11_keep 4 = .ok (.iload_n 1, 1) := by decide +kernel
theorem dX11_keep_5 : decode cX11_keep 5 = .ok (.iconst 2, 1) := by decide +kernel
theorem dX11_keep_6 : decode cX11_keep 6 = .ok (.if_icmp .lt 5, 3) := by decide +kernel
theorem dX11_keep_9 : decode cX11_keep 9 = .ok (.iconst (-1), 1) := by decide +kernel
theorem dX11_keep_10 : decode cX11_keep 10 = .ok (.ireturn, 1) := by decide +kernel
theorem dX11_keep_11 : decode cX11_keep 11 = .ok (.aload_n 0, 1) := by decide +kernel
theorem dX11_keep_12 : decode cX11_keep 12 = .ok (.getfield 33, 3) := by decide +kernel
theorem dX11_keep_15 : decode cX11_keep 15 = .ok (.iload_n 1, 1) := by decide +kernel
theorem dX11_keep_16 : decode cX11_keep 16 = .ok (.aaload, 1) := by decide +kernel
theorem dX11_keep_17 : decode cX11_keep 17 = .ok (.aload_n 0, 1) := by decide +kernel
theorem dX11_keep_18 : decode cX11_keep 18 = .ok (.getfield 26, 3) := by decide +kernel
theorem dX11_keep_21 : decode cX11_keep 21 = .ok (.invokevirtual 112, 3) := by decide +kernel
theorem dX11_keep_24 : decode cX11_keep 24 = .ok (.aload_n 0, 1) := by decide +kernel
theorem dX11_keep_25 : decode cX11_keep 25 = .ok (.getfield 37, 3) := by decide +kernel
theorem dX11_keep_28 : decode cX11_keep 28 = .ok (.iload_n 1, 1) := by decide +kernel
theorem dX11_keep_29 : decode cX11_keep 29 = .ok (.iconst 1, 1) := by decide +kernel
theorem dX11_keep_30 : decode cX11_keep 30 = .ok (.bastore, 1) := by decide +kernel
theorem dX11_keep_31 : decode cX11_keep 31 = .ok (.aload_n 0, 1) := by decide +kernel
theorem dX11_keep_32 : decode cX11_keep 32 = .ok (.getfield 19, 3) := by decide +kernel
theorem dX11_keep_35 : decode cX11_keep 35 = .ok (.getfield 119, 3) := by decide +kernel
theorem dX11_keep_38 : decode cX11_keep 38 = .ok (.ireturn, 1) := by decide +kernel
theorem dX11_again_0 : decode cX11_again 0 = .ok (.iload_n 1, 1) := by decide +kernel
theorem dX11_again_1 : decode cX11_again 1 = .ok (.ifCond .lt 8, 3) := by decide +kernel
theorem dX11_again_4 : decode cX11_again 4 = .ok (.iload_n 1, 1) := by decide +kernel
theorem dX11_again_5 : decode cX11_again 5 = .ok (.iconst 2, 1) := by decide +kernel
theorem dX11_again_6 : decode cX11_again 6 = .ok (.if_icmp .lt 5, 3) := by decide +kernel
theorem dX11_again_9 : decode cX11_again 9 = .ok (.iconst (-1), 1) := by decide +kernel
theorem dX11_again_10 : decode cX11_again 10 = .ok (.ireturn, 1) := by decide +kernel
theorem dX11_again_11 : decode cX11_again 11 = .ok (.aload_n 0, 1) := by decide +kernel
theorem dX11_again_12 : decode cX11_again 12 = .ok (.getfield 37, 3) := by decide +kernel
theorem dX11_again_15 : decode cX11_again 15 = .ok (.iload_n 1, 1) := by decide +kernel
theorem dX11_again_16 : decode cX11_again 16 = .ok (.baload, 1) := by decide +kernel
theorem dX11_again_17 : decode cX11_again 17 = .ok (.ifCond .ne 6, 3) := by decide +kernel
theorem dX11_again_20 : decode cX11_again 20 = .ok (.bipush (-3), 2) := by decide +kernel
theorem dX11_again_22 : decode cX11_again 22 = .ok (.ireturn, 1) := by decide +kernel
theorem dX11_again_23 : decode cX11_again 23 = .ok (.aload_n 0, 1) := by decide +kernel
theorem dX11_again_24 : decode cX11_again 24 = .ok (.getfield 26, 3) := by decide +kernel
theorem dX11_again_27 : decode cX11_again 27 = .ok (.aload_n 0, 1) := by decide +kernel
theorem dX11_again_28 : decode cX11_again 28 = .ok (.getfield 33, 3) := by decide +kernel
theorem dX11_again_31 : decode cX11_again 31 = .ok (.iload_n 1, 1) := by decide +kernel
theorem dX11_again_32 : decode cX11_again 32 = .ok (.aaload, 1) := by decide +kernel
theorem dX11_again_33 : decode cX11_again 33 = .ok (.invokevirtual 112, 3) := by decide +kernel
theorem dX11_again_36 : decode cX11_again 36 = .ok (.aload_n 0, 1) := by decide +kernel
theorem dX11_again_37 : decode cX11_again 37 = .ok (.getfield 44, 3) := by decide +kernel
theorem dX11_again_40 : decode cX11_again 40 = .ok (.iconst 0, 1) := by decide +kernel
theorem dX11_again_41 : decode cX11_again 41 = .ok (.putfield 115, 3) := by decide +kernel
theorem dX11_again_44 : decode cX11_again 44 = .ok (.aload_n 0, 1) := by decide +kernel
theorem dX11_again_45 : decode cX11_again 45 = .ok (.invokevirtual 116, 3) := by decide +kernel
theorem dX11_again_48 : decode cX11_again 48 = .ok (.aload_n 0, 1) := by decide +kernel
theorem dX11_again_49 : decode cX11_again 49 = .ok (.getfield 19, 3) := by decide +kernel
theorem dX11_again_52 : decode cX11_again 52 = .ok (.getfield 119, 3) := by decide +kernel
theorem dX11_again_55 : decode cX11_again 55 = .ok (.ireturn, 1) := by decide +kernel
theorem dX11_isLetter_0 : decode cX11_isLetter 0 = .ok (.iload_n 0, 1) := by decide +kernel
theorem dX11_isLetter_1 : decode cX11_isLetter 1 = .ok (.ifCond .lt 13, 3) := by decide +kernel
theorem dX11_isLetter_4 : decode cX11_isLetter 4 = .ok (.iload_n 0, 1) := by decide +kernel
theorem dX11_isLetter_5 : decode cX11_isLetter 5 = .ok (.bipush 8, 2) := by decide +kernel
theorem dX11_isLetter_7 : decode cX11_isLetter 7 = .ok (.if_icmp .ge 7, 3) := by decide +kernel
theorem dX11_isLetter_10 : decode cX11_isLetter 10 = .ok (.iconst 1, 1) := by decide +kernel
theorem dX11_isLetter_11 : decode cX11_isLetter 11 = .ok (.goto 4, 3) := by decide +kernel
theorem dX11_isLetter_14 : decode cX11_isLetter 14 = .ok (.iconst 0, 1) := by decide +kernel
theorem dX11_isLetter_15 : decode cX11_isLetter 15 = .ok (.ireturn, 1) := by decide +kernel
theorem dX11_isKind_0 : decode cX11_isKind 0 = .ok (.iload_n 0, 1) := by decide +kernel
theorem dX11_isKind_1 : decode cX11_isKind 1 = .ok (.ifCond .lt 12, 3) := by decide +kernel
theorem dX11_isKind_4 : decode cX11_isKind 4 = .ok (.iload_n 0, 1) := by decide +kernel
theorem dX11_isKind_5 : decode cX11_isKind 5 = .ok (.iconst 4, 1) := by decide +kernel
theorem dX11_isKind_6 : decode cX11_isKind 6 = .ok (.if_icmp .ge 7, 3) := by decide +kernel
theorem dX11_isKind_9 : decode cX11_isKind 9 = .ok (.iconst 1, 1) := by decide +kernel
theorem dX11_isKind_10 : decode cX11_isKind 10 = .ok (.goto 4, 3) := by decide +kernel
theorem dX11_isKind_13 : decode cX11_isKind 13 = .ok (.iconst 0, 1) := by decide +kernel
theorem dX11_isKind_14 : decode cX11_isKind 14 = .ok (.ireturn, 1) := by decide +kernel
theorem dX11_perform_0 : decode cX11_perform 0 = .ok (.aload_n 0, 1) := by decide +kernel
theorem dX11_perform_1 : decode cX11_perform 1 = .ok (.getfield 26, 3) := by decide +kernel
theorem dX11_perform_4 : decode cX11_perform 4 = .ok (.iload_n 1, 1) := by decide +kernel
theorem dX11_perform_5 : decode cX11_perform 5 = .ok (.iload_n 2, 1) := by decide +kernel
theorem dX11_perform_6 : decode cX11_perform 6 = .ok (.iload_n 3, 1) := by decide +kernel
theorem dX11_perform_7 : decode cX11_perform 7 = .ok (.invokevirtual 279, 3) := by decide +kernel
theorem dX11_perform_10 : decode cX11_perform 10 = .ok (.aload_n 0, 1) := by decide +kernel
theorem dX11_perform_11 : decode cX11_perform 11 = .ok (.invokevirtual 116, 3) := by decide +kernel
theorem dX11_perform_14 : decode cX11_perform 14 = .ok (.return_, 1) := by decide +kernel
theorem dX11_outdate_0 : decode cX11_outdate 0 = .ok (.aload_n 0, 1) := by decide +kernel
theorem dX11_outdate_1 : decode cX11_outdate 1 = .ok (.getfield 53, 3) := by decide +kernel
theorem dX11_outdate_4 : decode cX11_outdate 4 = .ok (.iconst 0, 1) := by decide +kernel
theorem dX11_outdate_5 : decode cX11_outdate 5 = .ok (.putfield 282, 3) := by decide +kernel
theorem dX11_outdate_8 : decode cX11_outdate 8 = .ok (.aload_n 0, 1) := by decide +kernel
theorem dX11_outdate_9 : decode cX11_outdate 9 = .ok (.getfield 62, 3) := by decide +kernel
theorem dX11_outdate_12 : decode cX11_outdate 12 = .ok (.invokevirtual 286, 3) := by decide +kernel
theorem dX11_outdate_15 : decode cX11_outdate 15 = .ok (.return_, 1) := by decide +kernel
theorem dX11_fitting_0 : decode cX11_fitting 0 = .ok (.aload_n 0, 1) := by decide +kernel
theorem dX11_fitting_1 : decode cX11_fitting 1 = .ok (.getfield 26, 3) := by decide +kernel
theorem dX11_fitting_4 : decode cX11_fitting 4 = .ok (.invokevirtual 287, 3) := by decide +kernel
theorem dX11_fitting_7 : decode cX11_fitting 7 = .ok (.lstore_n 1, 1) := by decide +kernel
theorem dX11_fitting_8 : decode cX11_fitting 8 = .ok (.iconst 0, 1) := by decide +kernel
theorem dX11_fitting_9 : decode cX11_fitting 9 = .ok (.istore_n 3, 1) := by decide +kernel
theorem dX11_fitting_10 : decode cX11_fitting 10 = .ok (.iconst 0, 1) := by decide +kernel
theorem dX11_fitting_11 : decode cX11_fitting 11 = .ok (.istore 4, 2) := by decide +kernel
theorem dX11_fitting_13 : decode cX11_fitting 13 = .ok (.iload 4, 2) := by decide +kernel
theorem dX11_fitting_15 : decode cX11_fitting 15 = .ok (.aload_n 0, 1) := by decide +kernel
theorem dX11_fitting_16 : decode cX11_fitting 16 = .ok (.getfield 19, 3) := by decide +kernel
theorem dX11_fitting_19 : decode cX11_fitting 19 = .ok (.getfield 119, 3) := by decide +kernel
theorem dX11_fitting_22 : decode cX11_fitting 22 = .ok (.if_icmp .ge 33, 3) := by decide +kernel
theorem dX11_fitting_25 : decode cX11_fitting 25 = .ok (.lload_n 1, 1) := by decide +kernel
theorem dX11_fitting_26 : decode cX11_fitting 26 = .ok (.aload_n 0, 1) := by decide +kernel
theorem dX11_fitting_27 : decode cX11_fitting 27 = .ok (.getfield 19, 3) := by decide +kernel
theorem dX11_fitting_30 : decode cX11_fitting 30 = .ok (.getfield 290, 3) := by decide +kernel
theorem dX11_fitting_33 : decode cX11_fitting 33 = .ok (.iload 4, 2) := by decide +kernel
theorem dX11_fitting_35 : decode cX11_fitting 35 = .ok (.laload, 1) := by decide +kernel
theorem dX11_fitting_36 : decode cX11_fitting 36 = .ok (.invokestatic 294, 3) := by decide +kernel
theorem dX11_fitting_39 : decode cX11_fitting 39 = .ok (.ifCond .eq 10, 3) := by decide +kernel
theorem dX11_fitting_42 : decode cX11_fitting 42 = .ok (.iload_n 3, 1) := by decide +kernel
theorem dX11_fitting_43 : decode cX11_fitting 43 = .ok (.iconst 1, 1) := by decide +kernel
theorem dX11_fitting_44 : decode cX11_fitting 44 = .ok (.iload 4, 2) := by decide +kernel
theorem dX11_fitting_46 : decode cX11_fitting 46 = .ok (.ishl, 1) := by decide +kernel
theorem dX11_fitting_47 : decode cX11_fitting 47 = .ok (.ior, 1) := by decide +kernel
theorem dX11_fitting_48 : decode cX11_fitting 48 = .ok (.istore_n 3, 1) := by decide +kernel
theorem dX11_fitting_49 : decode cX11_fitting 49 = .ok (.iinc 4 1, 3) := by decide +kernel
theorem dX11_fitting_52 : decode cX11_fitting 52 = .ok (.goto (-39), 3) := by decide +kernel
theorem dX11_fitting_55 : decode cX11_fitting 55 = .ok (.iload_n 3, 1) := by decide +kernel
theorem dX11_fitting_56 : decode cX11_fitting 56 = .ok (.ireturn, 1) := by decide +kernel
theorem dX11_holds_0 : decode cX11_holds 0 = .ok (.lload_n 0, 1) := by decide +kernel
theorem dX11_holds_1 : decode cX11_holds 1 = .ok (.ldc2_w 298, 3) := by decide +kernel
theorem dX11_holds_4 : decode cX11_holds 4 = .ok (.lor, 1) := by decide +kernel
theorem dX11_holds_5 : decode cX11_holds 5 = .ok (.lload_n 2, 1) := by decide +kernel
theorem dX11_holds_6 : decode cX11_holds 6 = .ok (.lsub, 1) := by decide +kernel
theorem dX11_holds_7 : decode cX11_holds 7 = .ok (.ldc2_w 298, 3) := by decide +kernel
theorem dX11_holds_10 : decode cX11_holds 10 = .ok (.land, 1) := by decide +kernel
theorem dX11_holds_11 : decode cX11_holds 11 = .ok (.ldc2_w 298, 3) := by decide +kernel
theorem dX11_holds_14 : decode cX11_holds 14 = .ok (.lcmp, 1) := by decide +kernel
theorem dX11_holds_15 : decode cX11_holds 15 = .ok (.ifCond .ne 7, 3) := by decide +kernel
theorem dX11_holds_18 : decode cX11_holds 18 = .ok (.iconst 1, 1) := by decide +kernel
theorem dX11_holds_19 : decode cX11_holds 19 = .ok (.goto 4, 3) := by decide +kernel
theorem dX11_holds_22 : decode cX11_holds 22 = .ok (.iconst 0, 1) := by decide +kernel
theorem dX11_holds_23 : decode cX11_holds 23 = .ok (.ireturn, 1) := by decide +kernel
theorem dX11_makings_0 : decode cX11_makings 0 = .ok (.bipush 12, 2) := by decide +kernel
theorem dX11_makings_2 : decode cX11_makings 2 = .ok (.istore_n 2, 1) := by decide +kernel
theorem dX11_makings_3 : decode cX11_makings 3 = .ok (.iconst 0, 1) := by decide +kernel
theorem dX11_makings_4 : decode cX11_makings 4 = .ok (.istore_n 3, 1) := by decide +kernel
theorem dX11_makings_5 : decode cX11_makings 5 = .ok (.iload_n 3, 1) := by decide +kernel
theorem dX11_makings_6 : decode cX11_makings 6 = .ok (.bipush 8, 2) := by decide +kernel
theorem dX11_makings_8 : decode cX11_makings 8 = .ok (.if_icmp .ge 42, 3) := by decide +kernel
theorem dX11_makings_11 : decode cX11_makings 11 = .ok (.aload_n 0, 1) := by decide +kernel
theorem dX11_makings_12 : decode cX11_makings 12 = .ok (.getfield 19, 3) := by decide +kernel
theorem dX11_makings_15 : decode cX11_makings 15 = .ok (.iload_n 1, 1) := by decide +kernel
theorem dX11_makings_16 : decode cX11_makings 16 = .ok (.iload_n 3, 1) := by decide +kernel
theorem dX11_makings_17 : decode cX11_makings 17 = .ok (.invokevirtual 300, 3) := by decide +kernel
theorem dX11_makings_20 : decode cX11_makings 20 = .ok (.istore 4, 2) := by decide +kernel
theorem dX11_makings_22 : decode cX11_makings 22 = .ok (.iload 4, 2) := by decide +kernel
theorem dX11_makings_24 : decode cX11_makings 24 = .ok (.ifCond .le 20, 3) := by decide +kernel
theorem dX11_makings_27 : decode cX11_makings 27 = .ok (.iload_n 2, 1) := by decide +kernel
theorem dX11_makings_28 : decode cX11_makings 28 = .ok (.aload_n 0, 1) := by decide +kernel
theorem dX11_makings_29 : decode cX11_makings 29 = .ok (.getfield 26, 3) := by decide +kernel
theorem dX11_makings_32 : decode cX11_makings 32 = .ok (.getfield 180, 3) := by decide +kernel
theorem dX11_makings_35 : decode cX11_makings 35 = .ok (.iload_n 3, 1) := by decide +kernel
theorem dX11_makings_36 : decode cX11_makings 36 = .ok (.iaload, 1) := by decide +kernel
theorem dX11_makings_37 : decode cX11_makings 37 = .ok (.iload 4, 2) := by decide +kernel
theorem dX11_makings_39 : decode cX11_makings 39 = .ok (.idiv, 1) := by decide +kernel
theorem dX11_makings_40 : decode cX11_makings 40 = .ok (.invokestatic 303, 3) := by decide +kernel
theorem dX11_makings_43 : decode cX11_makings 43 = .ok (.istore_n 2, 1) := by decide +kernel
theorem dX11_makings_44 : decode cX11_makings 44 = .ok (.iinc 3 1, 3) := by decide +kernel
theorem dX11_makings_47 : decode cX11_makings 47 = .ok (.goto (-42), 3) := by decide +kernel
theorem dX11_makings_50 : decode cX11_makings 50 = .ok (.iload_n 2, 1) := by decide +kernel
theorem dX11_makings_51 : decode cX11_makings 51 = .ok (.ireturn, 1) := by decide +kernel
theorem dX11_explain_0 : decode cX11_explain 0 = .ok (.aload_n 0, 1) := by decide +kernel
theorem dX11_explain_1 : decode cX11_explain 1 = .ok (.getfield 73, 3) := by decide +kernel
theorem dX11_explain_4 : decode cX11_explain 4 = .ok (.iconst 0, 1) := by decide +kernel
theorem dX11_explain_5 : decode cX11_explain 5 = .ok (.iload_n 1, 1) := by decide +kernel
theorem dX11_explain_6 : decode cX11_explain 6 = .ok (.iastore, 1) := by decide +kernel
theorem dX11_explain_7 : decode cX11_explain 7 = .ok (.aload_n 0, 1) := by decide +kernel
theorem dX11_explain_8 : decode cX11_explain 8 = .ok (.getfield 73, 3) := by decide +kernel
theorem dX11_explain_11 : decode cX11_explain 11 = .ok (.iconst 1, 1) := by decide +kernel
theorem dX11_explain_12 : decode cX11_explain 12 = .ok (.iload_n 2, 1) := by decide +kernel
theorem dX11_explain_13 : decode cX11_explain 13 = .ok (.iastore, 1) := by decide +kernel
theorem dX11_explain_14 : decode cX11_explain 14 = .ok (.aload_n 0, 1) := by decide +kernel
theorem dX11_explain_15 : decode cX11_explain 15 = .ok (.getfield 73, 3) := by decide +kernel
theorem dX11_explain_18 : decode cX11_explain 18 = .ok (.iconst 2, 1) := by decide +kernel
theorem dX11_explain_19 : decode cX11_explain 19 = .ok (.iload_n 3, 1) := by decide +kernel
theorem dX11_explain_20 : decode cX11_explain 20 = .ok (.iastore, 1) := by decide +kernel
theorem dX11_explain_21 : decode cX11_explain 21 = .ok (.aload_n 0, 1) := by decide +kernel
theorem dX11_explain_22 : decode cX11_explain 22 = .ok (.getfield 73, 3) := by decide +kernel
theorem dX11_explain_25 : decode cX11_explain 25 = .ok (.iconst 3, 1) := by decide +kernel
theorem dX11_explain_26 : decode cX11_explain 26 = .ok (.iload 4, 2) := by decide +kernel
theorem dX11_explain_28 : decode cX11_explain 28 = .ok (.iastore, 1) := by decide +kernel
theorem dX11_explain_29 : decode cX11_explain 29 = .ok (.return_, 1) := by decide +kernel
theorem dX11_examineRow_0 : decode cX11_examineRow 0 = .ok (.aload_n 0, 1) := by decide +kernel
theorem dX11_examineRow_1 : decode cX11_examineRow 1 = .ok (.iconst 0, 1) := by decide +kernel
theorem dX11_examineRow_2 : decode cX11_examineRow 2 = .ok (.bipush (-9), 2) := by decide +kernel
theorem dX11_examineRow_4 : decode cX11_examineRow 4 = .ok (.bipush (-9), 2) := by decide +kernel
theorem dX11_examineRow_6 : decode cX11_examineRow 6 = .ok (.iconst 0, 1) := by decide +kernel
theorem dX11_examineRow_7 : decode cX11_examineRow 7 = .ok (.invokevirtual 308, 3) := by decide +kernel
theorem dX11_examineRow_10 : decode cX11_examineRow 10 = .ok (.aload_n 0, 1) := by decide +kernel
theorem dX11_examineRow_11 : decode cX11_examineRow 11 = .ok (.getfield 82, 3) := by decide +kernel
theorem dX11_examineRow_14 : decode cX11_examineRow 14 = .ok (.ifCond .ne 14, 3) := by decide +kernel
theorem dX11_examineRow_17 : decode cX11_examineRow 17 = .ok (.aload_n 0, 1) := by decide +kernel
theorem dX11_examineRow_18 : decode cX11_examineRow 18 = .ok (.bipush 6, 2) := by decide +kernel
theorem dX11_examineRow_20 : decode cX11_examineRow 20 = .ok (.iconst 0, 1) := by decide +kernel
theorem dX11_examineRow_21 : decode cX11_examineRow 21 = .ok (.bipush (-9), 2) := by decide +kernel
theorem dX11_examineRow_23 : decode cX11_examineRow 23 = .ok (.iconst 0, 1) := by decide +kernel
theorem dX11_examineRow_24 : decode cX11_examineRow 24 = .ok (.invokevirtual 308, 3) := by decide +kernel
theorem dX11_examineRow_27 : decode cX11_examineRow 27 = .ok (.return_, 1) := by decide +kernel
theorem dX11_examineRow_28 : decode cX11_examineRow 28 = .ok (.aload_n 0, 1) := by decide +kernel
theorem dX11_examineRow_29 : decode cX11_examineRow 29 = .ok (.getfield 26, 3) := by decide +kernel
theorem dX11_examineRow_32 : decode cX11_examineRow 32 = .ok (.getfield 180, 3) := by decide +kernel
theorem dX11_examineRow_35 : decode cX11_examineRow 35 = .ok (.iconst 0, 1) := by decide +kernel
theorem dX11_examineRow_36 : decode cX11_examineRow 36 = .ok (.aload_n 0, 1) := by decide +kernel
theorem dX11_examineRow_37 : decode cX11_examineRow 37 = .ok (.getfield 76, 3) := by decide +kernel
theorem dX11_examineRow_40 : decode cX11_examineRow 40 = .ok (.iconst 0, 1) := by decide +kernel
theorem dX11_examineRow_41 : decode cX11_examineRow 41 = .ok (.bipush 8, 2) := by decide +kernel
theorem dX11_examineRow_43 : decode cX11_examineRow 43 = .ok (.invokestatic 312, 3) := by decide +kernel
theorem dX11_examineRow_46 : decode cX11_examineRow 46 = .ok (.aload_n 0, 1) := by decide +kernel
theorem dX11_examineRow_47 : decode cX11_examineRow 47 = .ok (.getfield 26, 3) := by decide +kernel
theorem dX11_examineRow_50 : decode cX11_examineRow 50 = .ok (.getfield 131, 3) := by decide +kernel
theorem dX11_examineRow_53 : decode cX11_examineRow 53 = .ok (.istore_n 1, 1) := by decide +kernel
theorem dX11_examineRow_54 : decode cX11_examineRow 54 = .ok (.iconst 0, 1) := by decide +kernel
theorem dX11_examineRow_55 : decode cX11_examineRow 55 = .ok (.istore_n 2, 1) := by decide +kernel
theorem dX11_examineRow_56 : decode cX11_examineRow 56 = .ok (.iload_n 2, 1) := by decide +kernel
theorem dX11_examineRow_57 : decode cX11_examineRow 57 = .ok (.aload_n 0, 1) := by decide +kernel
theorem dX11_examineRow_58 : decode cX11_examineRow 58 = .ok (.getfield 82, 3) := by decide +kernel
theorem dX11_examineRow_61 : decode cX11_examineRow 61 = .ok (.if_icmp .ge 42, 3) := by decide +kernel
theorem dX11_examineRow_64 : decode cX11_examineRow 64 = .ok (.aload_n 0, 1) := by decide +kernel
theorem dX11_examineRow_65 : decode cX11_examineRow 65 = .ok (.iload_n 2, 1) := by decide +kernel
theorem dX11_examineRow_66 : decode cX11_examineRow 66 = .ok (.iload_n 1, 1) := by decide +kernel
theorem dX11_examineRow_67 : decode cX11_examineRow 67 = .ok (.invokevirtual 318, 3) := by decide +kernel
theorem dX11_examineRow_70 : decode cX11_examineRow 70 = .ok (.ifCond .ne 4, 3) := by decide +kernel
theorem dX11_examineRow_73 : decode cX11_examineRow 73 = .ok (.return_, 1) := by decide +kernel
theorem dX11_examineRow_74 : decode cX11_examineRow 74 = .ok (.aload_n 0, 1) := by decide +kernel
theorem dX11_examineRow_75 : decode cX11_examineRow 75 = .ok (.getfield 26, 3) := by decide +kernel
theorem dX11_examineRow_78 : decode cX11_examineRow 78 = .ok (.getfield 186, 3) := by decide +kernel
theorem dX11_examineRow_81 : decode cX11_examineRow 81 = .ok (.aload_n 0, 1) := by decide +kernel
theorem dX11_examineRow_82 : decode cX11_examineRow 82 = .ok (.getfield 19, 3) := by decide +kernel
theorem dX11_examineRow_85 : decode cX11_examineRow 85 = .ok (.getfield 155, 3) := by decide +kernel
theorem dX11_examineRow_88 : decode cX11_examineRow 88 = .ok (.aload_n 0, 1) := by decide +kernel
theorem dX11_examineRow_89 : decode cX11_examineRow 89 = .ok (.getfield 66, 3) := by decide +kernel
theorem dX11_examineRow_92 : decode cX11_examineRow 92 = .ok (.iload_n 2, 1) := by decide +kernel
theorem dX11_examineRow_93 : decode cX11_examineRow 93 = .ok (.iaload, 1) := by decide +kernel
theorem dX11_examineRow_94 : decode cX11_examineRow 94 = .ok (.iaload, 1) := by decide +kernel
theorem dX11_examineRow_95 : decode cX11_examineRow 95 = .ok (.iaload, 1) := by decide +kernel
theorem dX11_examineRow_96 : decode cX11_examineRow 96 = .ok (.istore_n 1, 1) := by decide +kernel
theorem dX11_examineRow_97 : decode cX11_examineRow 97 = .ok (.iinc 2 1, 3) := by decide +kernel
theorem dX11_examineRow_100 : decode cX11_examineRow 100 = .ok (.goto (-44), 3) := by decide +kernel
theorem dX11_examineRow_103 : decode cX11_examineRow 103 = .ok (.aload_n 0, 1) := by decide +kernel
theorem dX11_examineRow_104 : decode cX11_examineRow 104 = .ok (.invokevirtual 322, 3) := by decide +kernel
theorem dX11_examineRow_107 : decode cX11_examineRow 107 = .ok (.return_, 1) := by decide +kernel
theorem dX11_passesAt_0 : decode cX11_passesAt 0 = .ok (.aload_n 0, 1) := by decide +kernel
theorem dX11_passesAt_1 : decode cX11_passesAt 1 = .ok (.getfield 66, 3) := by decide +kernel
theorem dX11_passesAt_4 : decode cX11_passesAt 4 = .ok (.iload_n 1, 1) := by decide +kernel
theorem dX11_passesAt_5 : decode cX11_passesAt 5 = .ok (.iaload, 1) := by decide +kernel
theorem dX11_passesAt_6 : decode cX11_passesAt 6 = .ok (.istore_n 3, 1) := by decide +kernel
theorem dX11_passesAt_7 : decode cX11_passesAt 7 = .ok (.aload_n 0, 1) := by decide +kernel
theorem dX11_passesAt_8 : decode cX11_passesAt 8 = .ok (.getfield 26, 3) := by decide +kernel
theorem dX11_passesAt_11 : decode cX11_passesAt 11 = .ok (.getfield 128, 3) := by decide +kernel
theorem dX11_passesAt_14 : decode cX11_passesAt 14 = .ok (.iload_n 3, 1) := by decide +kernel
theorem dX11_passesAt_15 : decode cX11_passesAt 15 = .ok (.ishr, 1) := by decide +kernel
theorem dX11_passesAt_16 : decode cX11_passesAt 16 = .ok (.iconst 1, 1) := by decide +kernel
theorem dX11_passesAt_17 : decode cX11_passesAt 17 = .ok (.iand, 1) := by decide +kernel
theorem dX11_passesAt_18 : decode cX11_passesAt 18 = .ok (.ifCond .eq 14, 3) := by decide +kernel
theorem dX11_passesAt_21 : decode cX11_passesAt 21 = .ok (.aload_n 0, 1) := by decide +kernel
theorem dX11_passesAt_22 : decode cX11_passesAt 22 = .ok (.iconst 1, 1) := by decide +kernel
theorem dX11_passesAt_23 : decode cX11_passesAt 23 = .ok (.iload_n 1, 1) := by decide +kernel
theorem dX11_passesAt_24 : decode cX11_passesAt 24 = .ok (.bipush (-9), 2) := by decide +kernel
theorem dX11_passesAt_26 : decode cX11_passesAt 26 = .ok (.iconst 0, 1) := by decide +kernel
theorem dX11_passesAt_27 : decode cX11_passesAt 27 = .ok (.invokevirtual 308, 3) := by decide +kernel
theorem dX11_passesAt_30 : decode cX11_passesAt 30 = .ok (.iconst 0, 1) := by decide +kernel
theorem dX11_passesAt_31 : decode cX11_passesAt 31 = .ok (.ireturn, 1) := by decide +kernel
theorem dX11_passesAt_32 : decode cX11_passesAt 32 = .ok (.iload_n 2, 1) := by decide +kernel
theorem dX11_passesAt_33 : decode cX11_passesAt 33 = .ok (.aload_n 0, 1) := by decide +kernel
theorem dX11_passesAt_34 : decode cX11_passesAt 34 = .ok (.getfield 19, 3) := by decide +kernel
theorem dX11_passesAt_37 : decode cX11_passesAt 37 = .ok (.getfield 155, 3) := by decide +kernel
theorem dX11_passesAt_40 : decode cX11_passesAt 40 = .ok (.iload_n 3, 1) := by decide +kernel
theorem dX11_passesAt_41 : decode cX11_passesAt 41 = .ok (.iaload, 1) := by decide +kernel
theorem dX11_passesAt_42 : decode cX11_passesAt 42 = .ok (.ishr, 1) := by decide +kernel
theorem dX11_passesAt_43 : decode cX11_passesAt 43 = .ok (.iconst 1, 1) := by decide +kernel
theorem dX11_passesAt_44 : decode cX11_passesAt 44 = .ok (.iand, 1) := by decide +kernel
theorem dX11_passesAt_45 : decode cX11_passesAt 45 = .ok (.ifCond .ne 14, 3) := by decide +kernel
theorem dX11_passesAt_48 : decode cX11_passesAt 48 = .ok (.aload_n 0, 1) := by decide +kernel
theorem dX11_passesAt_49 : decode cX11_passesAt 49 = .ok (.iconst 2, 1) := by decide +kernel
theorem dX11_passesAt_50 : decode cX11_passesAt 50 = .ok (.iload_n 1, 1) := by decide +kernel
theorem dX11_passesAt_51 : decode cX11_passesAt 51 = .ok (.bipush (-9), 2) := by decide +kernel
theorem dX11_passesAt_53 : decode cX11_passesAt 53 = .ok (.iconst 0, 1) := by decide +kernel
theorem dX11_passesAt_54 : decode cX11_passesAt 54 = .ok (.invokevirtual 308, 3) := by decide +kernel
theorem dX11_passesAt_57 : decode cX11_passesAt 57 = .ok (.iconst 0, 1) := by decide +kernel
theorem dX11_passesAt_58 : decode cX11_passesAt 58 = .ok (.ireturn, 1) := by decide +kernel
theorem dX11_passesAt_59 : decode cX11_passesAt 59 = .ok (.iconst 0, 1) := by decide +kernel
theorem dX11_passesAt_60 : decode cX11_passesAt 60 = .ok (.istore 4, 2) := by decide +kernel
theorem dX11_passesAt_62 : decode cX11_passesAt 62 = .ok (.iload 4, 2) := by decide +kernel
theorem dX11_passesAt_64 : decode cX11_passesAt 64 = .ok (.aload_n 0, 1) := by decide +kernel
theorem dX11_passesAt_65 : decode cX11_passesAt 65 = .ok (.getfield 19, 3) := by decide +kernel
theorem dX11_passesAt_68 : decode cX11_passesAt 68 = .ok (.getfield 152, 3) := by decide +kernel
theorem dX11_passesAt_71 : decode cX11_passesAt 71 = .ok (.iload_n 3, 1) := by decide +kernel
theorem dX11_passesAt_72 : decode cX11_passesAt 72 = .ok (.iaload, 1) := by decide +kernel
theorem dX11_passesAt_73 : decode cX11_passesAt 73 = .ok (.if_icmp .ge 58, 3) := by decide +kernel
theorem dX11_passesAt_76 : decode cX11_passesAt 76 = .ok (.aload_n 0, 1) := by decide +kernel
theorem dX11_passesAt_77 : decode cX11_passesAt 77 = .ok (.getfield 19, 3) := by decide +kernel
theorem dX11_passesAt_80 : decode cX11_passesAt 80 = .ok (.iload_n 3, 1) := by decide +kernel
theorem dX11_passesAt_81 : decode cX11_passesAt 81 = .ok (.iload 4, 2) := by decide +kernel
theorem dX11_passesAt_83 : decode cX11_passesAt 83 = .ok (.invokevirtual 325, 3) := by decide +kernel
theorem dX11_passesAt_86 : decode cX11_passesAt 86 = .ok (.istore 5, 2) := by decide +kernel
theorem dX11_passesAt_88 : decode cX11_passesAt 88 = .ok (.aload_n 0, 1) := by decide +kernel
theorem dX11_passesAt_89 : decode cX11_passesAt 89 = .ok (.getfield 19, 3) := by decide +kernel
theorem dX11_passesAt_92 : decode cX11_passesAt 92 = .ok (.iload_n 3, 1) := by decide +kernel
theorem dX11_passesAt_93 : decode cX11_passesAt 93 = .ok (.iload 5, 2) := by decide +kernel
theorem dX11_passesAt_95 : decode cX11_passesAt 95 = .ok (.invokevirtual 300, 3) := by decide +kernel
theorem dX11_passesAt_98 : decode cX11_passesAt 98 = .ok (.aload_n 0, 1) := by decide +kernel
theorem dX11_passesAt_99 : decode cX11_passesAt 99 = .ok (.getfield 76, 3) := by decide +kernel
theorem dX11_passesAt_102 : decode cX11_passesAt 102 = .ok (.iload 5, 2) := by decide +kernel
theorem dX11_passesAt_104 : decode cX11_passesAt 104 = .ok (.iaload, 1) := by decide +kernel
theorem dX11_passesAt_105 : decode cX11_passesAt 105 = .ok (.isub, 1) := by decide +kernel
theorem dX11_passesAt_106 : decode cX11_passesAt 106 = .ok (.istore 6, 2) := by decide +kernel
theorem dX11_passesAt_108 : decode cX11_passesAt 108 = .ok (.iload 6, 2) := by decide +kernel
theorem dX11_passesAt_110 : decode cX11_passesAt 110 = .ok (.ifCond .le 15, 3) := by decide +kernel
theorem dX11_passesAt_113 : decode cX11_passesAt 113 = .ok (.aload_n 0, 1) := by decide +kernel
theorem dX11_passesAt_114 : decode cX11_passesAt 114 = .ok (.iconst 3, 1) := by decide +kernel
theorem dX11_passesAt_115 : decode cX11_passesAt 115 = .ok (.iload_n 1, 1) := by decide +kernel
theorem dX11_passesAt_116 : decode cX11_passesAt 116 = .ok (.iload 5, 2) := by decide +kernel
theorem dX11_passesAt_118 : decode cX11_passesAt 118 = .ok (.iload 6, 2) := by decide +kernel
theorem dX11_passesAt_120 : decode cX11_passesAt 120 = .ok (.invokevirtual 308, 3) := by decide +kernel
theorem dX11_passesAt_123 : decode cX11_passesAt 123 = .ok (.iconst 0, 1) := by decide +kernel
theorem dX11_passesAt_124 : decode cX11_passesAt 124 = .ok (.ireturn, 1) := by decide +kernel
theorem dX11_passesAt_125 : decode cX11_passesAt 125 = .ok (.iinc 4 1, 3) := by decide +kernel
theorem dX11_passesAt_128 : decode cX11_passesAt 128 = .ok (.goto (-66), 3) := by decide +kernel
theorem dX11_passesAt_131 : decode cX11_passesAt 131 = .ok (.iconst 0, 1) := by decide +kernel
theorem dX11_passesAt_132 : decode cX11_passesAt 132 = .ok (.istore 4, 2) := by decide +kernel
theorem dX11_passesAt_134 : decode cX11_passesAt 134 = .ok (.iload 4, 2) := by decide +kernel
theorem dX11_passesAt_136 : decode cX11_passesAt 136 = .ok (.bipush 8, 2) := by decide +kernel
theorem dX11_passesAt_138 : decode cX11_passesAt 138 = .ok (.if_icmp .ge 29, 3) := by decide +kernel
theorem dX11_passesAt_141 : decode cX11_passesAt 141 = .ok (.aload_n 0, 1) := by decide +kernel
theorem dX11_passesAt_142 : decode cX11_passesAt 142 = .ok (.getfield 76, 3) := by decide +kernel
theorem dX11_passesAt_145 : decode cX11_passesAt 145 = .ok (.iload 4, 2) := by decide +kernel
theorem dX11_passesAt_147 : decode cX11_passesAt 147 = .ok (.dup2, 1) := by decide +kernel
theorem dX11_passesAt_148 : decode cX11_passesAt 148 = .ok (.iaload, 1) := by decide +kernel
theorem dX11_passesAt_149 : decode cX11_passesAt 149 = .ok (.aload_n 0, 1) := by decide +kernel
theorem dX11_passesAt_150 : decode cX11_passesAt 150 = .ok (.getfield 19, 3) := by decide +kernel
theorem dX11_passesAt_153 : decode cX11_passesAt 153 = .ok (.iload_n 3, 1) := by decide +kernel
theorem dX11_passesAt_154 : decode cX11_passesAt 154 = .ok (.iload 4, 2) := by decide +kernel
theorem dX11_passesAt_156 : decode cX11_passesAt 156 = .ok (.invokevirtual 300, 3) := by decide +kernel
theorem dX11_passesAt_159 : decode cX11_passesAt 159 = .ok (.isub, 1) := by decide +kernel
theorem dX11_passesAt_160 : decode cX11_passesAt 160 = .ok (.iastore, 1) := by decide +kernel
theorem dX11_passesAt_161 : decode cX11_passesAt 161 = .ok (.iinc 4 1, 3) := by decide +kernel
theorem dX11_passesAt_164 : decode cX11_passesAt 164 = .ok (.goto (-30), 3) := by decide +kernel
theorem dX11_passesAt_167 : decode cX11_passesAt 167 = .ok (.iconst 1, 1) := by decide +kernel
theorem dX11_passesAt_168 : decode cX11_passesAt 168 = .ok (.ireturn, 1) := by decide +kernel
theorem dX11_examineEnd_0 : decode cX11_examineEnd 0 = .ok (.iconst 0, 1) := by decide +kernel
theorem dX11_examineEnd_1 : decode cX11_examineEnd 1 = .ok (.istore_n 1, 1) := by decide +kernel
theorem dX11_examineEnd_2 : decode cX11_examineEnd 2 = .ok (.iload_n 1, 1) := by decide +kernel
theorem dX11_examineEnd_3 : decode cX11_examineEnd 3 = .ok (.bipush 8, 2) := by decide +kernel
theorem dX11_examineEnd_5 : decode cX11_examineEnd 5 = .ok (.if_icmp .ge 35, 3) := by decide +kernel
theorem dX11_examineEnd_8 : decode cX11_examineEnd 8 = .ok (.aload_n 0, 1) := by decide +kernel
theorem dX11_examineEnd_9 : decode cX11_examineEnd 9 = .ok (.getfield 76, 3) := by decide +kernel
theorem dX11_examineEnd_12 : decode cX11_examineEnd 12 = .ok (.iload_n 1, 1) := by decide +kernel
theorem dX11_examineEnd_13 : decode cX11_examineEnd 13 = .ok (.iaload, 1) := by decide +kernel
theorem dX11_examineEnd_14 : decode cX11_examineEnd 14 = .ok (.ifCond .le 20, 3) := by decide +kernel
theorem dX11_examineEnd_17 : decode cX11_examineEnd 17 = .ok (.aload_n 0, 1) := by decide +kernel
theorem dX11_examineEnd_18 : decode cX11_examineEnd 18 = .ok (.iconst 4, 1) := by decide +kernel
theorem dX11_examineEnd_19 : decode cX11_examineEnd 19 = .ok (.aload_n 0, 1) := by decide +kernel
theorem dX11_examineEnd_20 : decode cX11_examineEnd 20 = .ok (.getfield 82, 3) := by decide +kernel
theorem dX11_examineEnd_23 : decode cX11_examineEnd 23 = .ok (.iload_n 1, 1) := by decide +kernel
theorem dX11_examineEnd_24 : decode cX11_examineEnd 24 = .ok (.aload_n 0, 1) := by decide +kernel
theorem dX11_examineEnd_25 : decode cX11_examineEnd 25 = .ok (.getfield 76, 3) := by decide +kernel
theorem dX11_examineEnd_28 : decode cX11_examineEnd 28 = .ok (.iload_n 1, 1) := by decide +kernel
theorem dX11_examineEnd_29 : decode cX11_examineEnd 29 = .ok (.iaload, 1) := by decide +kernel
theorem dX11_examineEnd_30 : decode cX11_examineEnd 30 = .ok (.invokevirtual 308, 3) := by decide +kernel
theorem dX11_examineEnd_33 : decode cX11_examineEnd 33 = .ok (.return_, 1) := by decide +kernel
theorem dX11_examineEnd_34 : decode cX11_examineEnd 34 = .ok (.iinc 1 1, 3) := by decide +kernel
theorem dX11_examineEnd_37 : decode cX11_examineEnd 37 = .ok (.goto (-35), 3) := by decide +kernel
theorem dX11_examineEnd_40 : decode cX11_examineEnd 40 = .ok (.aload_n 0, 1) := by decide +kernel
theorem dX11_examineEnd_41 : decode cX11_examineEnd 41 = .ok (.getfield 19, 3) := by decide +kernel
theorem dX11_examineEnd_44 : decode cX11_examineEnd 44 = .ok (.getfield 155, 3) := by decide +kernel
theorem dX11_examineEnd_47 : decode cX11_examineEnd 47 = .ok (.aload_n 0, 1) := by decide +kernel
theorem dX11_examineEnd_48 : decode cX11_examineEnd 48 = .ok (.getfield 66, 3) := by decide +kernel
theorem dX11_examineEnd_51 : decode cX11_examineEnd 51 = .ok (.aload_n 0, 1) := by decide +kernel
theorem dX11_examineEnd_52 : decode cX11_examineEnd 52 = .ok (.getfield 82, 3) := by decide +kernel
theorem dX11_examineEnd_55 : decode cX11_examineEnd 55 = .ok (.iconst 1, 1) := by decide +kernel
theorem dX11_examineEnd_56 : decode cX11_examineEnd 56 = .ok (.isub, 1) := by decide +kernel
theorem dX11_examineEnd_57 : decode cX11_examineEnd 57 = .ok (.iaload, 1) := by decide +kernel
theorem dX11_examineEnd_58 : decode cX11_examineEnd 58 = .ok (.iaload, 1) := by decide +kernel
theorem dX11_examineEnd_59 : decode cX11_examineEnd 59 = .ok (.istore_n 1, 1) := by decide +kernel
theorem dX11_examineEnd_60 : decode cX11_examineEnd 60 = .ok (.aload_n 0, 1) := by decide +kernel
theorem dX11_examineEnd_61 : decode cX11_examineEnd 61 = .ok (.getfield 26, 3) := by decide +kernel
theorem dX11_examineEnd_64 : decode cX11_examineEnd 64 = .ok (.getfield 134, 3) := by decide +kernel
theorem dX11_examineEnd_67 : decode cX11_examineEnd 67 = .ok (.iload_n 1, 1) := by decide +kernel
theorem dX11_examineEnd_68 : decode cX11_examineEnd 68 = .ok (.ishr, 1) := by decide +kernel
theorem dX11_examineEnd_69 : decode cX11_examineEnd 69 = .ok (.iconst 1, 1) := by decide +kernel
theorem dX11_examineEnd_70 : decode cX11_examineEnd 70 = .ok (.iand, 1) := by decide +kernel
theorem dX11_examineEnd_71 : decode cX11_examineEnd 71 = .ok (.ifCond .ne 15, 3) := by decide +kernel
theorem dX11_examineEnd_74 : decode cX11_examineEnd 74 = .ok (.aload_n 0, 1) := by decide +kernel
theorem dX11_examineEnd_75 : decode cX11_examineEnd 75 = .ok (.iconst 5, 1) := by decide +kernel
theorem dX11_examineEnd_76 : decode cX11_examineEnd 76 = .ok (.aload_n 0, 1) := by decide +kernel
theorem dX11_examineEnd_77 : decode cX11_examineEnd 77 = .ok (.getfield 82, 3) := by decide +kernel
theorem dX11_examineEnd_80 : decode cX11_examineEnd 80 = .ok (.bipush (-9), 2) := by decide +kernel
theorem dX11_examineEnd_82 : decode cX11_examineEnd 82 = .ok (.iconst 0, 1) := by decide +kernel
theorem dX11_examineEnd_83 : decode cX11_examineEnd 83 = .ok (.invokevirtual 308, 3) := by decide +kernel
theorem dX11_examineEnd_86 : decode cX11_examineEnd 86 = .ok (.return_, 1) := by decide +kernel
theorem dX11_lettersMending_0 : decode cX11_lettersMending 0 = .ok (.iconst 0, 1) := by decide +kernel
theorem dX11_lettersMending_1 : decode cX11_lettersMending 1 = .ok (.istore_n 3, 1) := by decide +kernel
theorem dX11_lettersMending_2 : decode cX11_lettersMending 2 = .ok (.iconst 0, 1) := by decide +kernel
theorem dX11_lettersMending_3 : decode cX11_lettersMending 3 = .ok (.istore 4, 2) := by decide +kernel
theorem dX11_lettersMending_5 : decode cX11_lettersMending 5 = .ok (.iload 4, 2) := by decide +kernel
theorem dX11_lettersMending_7 : decode cX11_lettersMending 7 = .ok (.bipush 8, 2) := by decide +kernel
theorem dX11_lettersMending_9 : decode cX11_lettersMending 9 = .ok (.if_icmp .ge 69, 3) := by decide +kernel
theorem dX11_lettersMending_12 : decode cX11_lettersMending 12 = .ok (.iload_n 1, 1) := by decide +kernel
theorem dX11_lettersMending_13 : decode cX11_lettersMending 13 = .ok (.iconst 1, 1) := by decide +kernel
theorem dX11_lettersMending_14 : decode cX11_lettersMending 14 = .ok (.if_icmp .ne 19, 3) := by decide +kernel
theorem dX11_lettersMending_17 : decode cX11_lettersMending 17 = .ok (.aload_n 0, 1) := by decide +kernel
theorem dX11_lettersMending_18 : decode cX11_lettersMending 18 = .ok (.getfield 26, 3) := by decide +kernel
theorem dX11_lettersMending_21 : decode cX11_lettersMending 21 = .ok (.getfield 180, 3) := by decide +kernel
theorem dX11_lettersMending_24 : decode cX11_lettersMending 24 = .ok (.iload 4, 2) := by decide +kernel
theorem dX11_lettersMending_26 : decode cX11_lettersMending 26 = .ok (.iaload, 1) := by decide +kernel
theorem dX11_lettersMending_27 : decode cX11_lettersMending 27 = .ok (.ifCond .ne 6, 3) := by decide +kernel
theorem dX11_lettersMending_30 : decode cX11_lettersMending 30 = .ok (.goto 42, 3) := by decide +kernel
theorem dX11_lettersMending_33 : decode cX11_lettersMending 33 = .ok (.aload_n 0, 1) := by decide +kernel
theorem dX11_lettersMending_34 : decode cX11_lettersMending 34 = .ok (.getfield 26, 3) := by decide +kernel
theorem dX11_lettersMending_37 : decode cX11_lettersMending 37 = .ok (.iload_n 1, 1) := by decide +kernel
theorem dX11_lettersMending_38 : decode cX11_lettersMending 38 = .ok (.iload 4, 2) := by decide +kernel
theorem dX11_lettersMending_40 : decode cX11_lettersMending 40 = .ok (.iconst 0, 1) := by decide +kernel
theorem dX11_lettersMending_41 : decode cX11_lettersMending 41 = .ok (.invokevirtual 279, 3) := by decide +kernel
theorem dX11_lettersMending_44 : decode cX11_lettersMending 44 = .ok (.aload_n 0, 1) := by decide +kernel
theorem dX11_lettersMending_45 : decode cX11_lettersMending 45 = .ok (.getfield 53, 3) := by decide +kernel
theorem dX11_lettersMending_48 : decode cX11_lettersMending 48 = .ok (.invokevirtual 328, 3) := by decide +kernel
theorem dX11_lettersMending_51 : decode cX11_lettersMending 51 = .ok (.ifCond .eq 10, 3) := by decide +kernel
theorem dX11_lettersMending_54 : decode cX11_lettersMending 54 = .ok (.iload_n 3, 1) := by decide +kernel
theorem dX11_lettersMending_55 : decode cX11_lettersMending 55 = .ok (.iconst 1, 1) := by decide +kernel
theorem dX11_lettersMending_56 : decode cX11_lettersMending 56 = .ok (.iload 4, 2) := by decide +kernel
theorem dX11_lettersMending_58 : decode cX11_lettersMending 58 = .ok (.ishl, 1) := by decide +kernel
theorem dX11_lettersMending_59 : decode cX11_lettersMending 59 = .ok (.ior, 1) := by decide +kernel
theorem dX11_lettersMending_60 : decode cX11_lettersMending 60 = .ok (.istore_n 3, 1) := by decide +kernel
theorem dX11_lettersMending_61 : decode cX11_lettersMending 61 = .ok (.aload_n 0, 1) := by decide +kernel
theorem dX11_lettersMending_62 : decode cX11_lettersMending 62 = .ok (.getfield 26, 3) := by decide +kernel
theorem dX11_lettersMending_65 : decode cX11_lettersMending 65 = .ok (.iload_n 2, 1) := by decide +kernel
theorem dX11_lettersMending_66 : decode cX11_lettersMending 66 = .ok (.iload 4, 2) := by decide +kernel
theorem dX11_lettersMending_68 : decode cX11_lettersMending 68 = .ok (.iconst 0, 1) := by decide +kernel
theorem dX11_lettersMending_69 : decode cX11_lettersMending 69 = .ok (.invokevirtual 279, 3) := by decide +kernel
theorem dX11_lettersMending_72 : decode cX11_lettersMending 72 = .ok (.iinc 4 1, 3) := by decide +kernel
theorem dX11_lettersMending_75 : decode cX11_lettersMending 75 = .ok (.goto (-70), 3) := by decide +kernel
theorem dX11_lettersMending_78 : decode cX11_lettersMending 78 = .ok (.iload_n 3, 1) := by decide +kernel
theorem dX11_lettersMending_79 : decode cX11_lettersMending 79 = .ok (.ireturn, 1) := by decide +kernel
theorem dX11_comesTrue_0 : decode cX11_comesTrue 0 = .ok (.iload_n 1, 1) := by decide +kernel
theorem dX11_comesTrue_1 : decode cX11_comesTrue 1 = .ok (.bipush 100, 2) := by decide +kernel
theorem dX11_comesTrue_3 : decode cX11_comesTrue 3 = .ok (.idiv, 1) := by decide +kernel
theorem dX11_comesTrue_4 : decode cX11_comesTrue 4 = .ok (.bipush 10, 2) := by decide +kernel
theorem dX11_comesTrue_6 : decode cX11_comesTrue 6 = .ok (.irem, 1) := by decide +kernel
theorem dX11_comesTrue_7 : decode cX11_comesTrue 7 = .ok (.istore_n 2, 1) := by decide +kernel
theorem dX11_comesTrue_8 : decode cX11_comesTrue 8 = .ok (.iload_n 1, 1) := by decide +kernel
theorem dX11_comesTrue_9 : decode cX11_comesTrue 9 = .ok (.bipush 100, 2) := by decide +kernel
theorem dX11_comesTrue_11 : decode cX11_comesTrue 11 = .ok (.irem, 1) := by decide +kernel
theorem dX11_comesTrue_12 : decode cX11_comesTrue 12 = .ok (.istore_n 3, 1) := by decide +kernel
theorem dX11_comesTrue_13 : decode cX11_comesTrue 13 = .ok (.iload_n 1, 1) := by decide +kernel
theorem dX11_comesTrue_14 : decode cX11_comesTrue 14 = .ok (.sipush 1000, 3) := by decide +kernel
theorem dX11_comesTrue_17 : decode cX11_comesTrue 17 = .ok (.idiv, 1) := by decide +kernel
theorem dX11_comesTrue_18 : decode cX11_comesTrue 18 = .ok (.tableswitch 286 1 7 #[42, 81, 120, 151, 174, 211, 255], 42) := by decide +kernel
theorem dX11_comesTrue_60 : decode cX11_comesTrue 60 = .ok (.iload_n 2, 1) := by decide +kernel
theorem dX11_comesTrue_61 : decode cX11_comesTrue 61 = .ok (.invokestatic 174, 3) := by decide +kernel
theorem dX11_comesTrue_64 : decode cX11_comesTrue 64 = .ok (.ifCond .eq 33, 3) := by decide +kernel
theorem dX11_comesTrue_67 : decode cX11_comesTrue 67 = .ok (.iload_n 3, 1) := by decide +kernel
theorem dX11_comesTrue_68 : decode cX11_comesTrue 68 = .ok (.ifCond .ne 29, 3) := by decide +kernel
theorem dX11_comesTrue_71 : decode cX11_comesTrue 71 = .ok (.aload_n 0, 1) := by decide +kernel
theorem dX11_comesTrue_72 : decode cX11_comesTrue 72 = .ok (.getfield 26, 3) := by decide +kernel
theorem dX11_comesTrue_75 : decode cX11_comesTrue 75 = .ok (.invokevirtual 122, 3) := by decide +kernel
theorem dX11_comesTrue_78 : decode cX11_comesTrue 78 = .ok (.bipush 12, 2) := by decide +kernel
theorem dX11_comesTrue_80 : decode cX11_comesTrue 80 = .ok (.if_icmp .ge 17, 3) := by decide +kernel
theorem dX11_comesTrue_83 : decode cX11_comesTrue 83 = .ok (.aload_n 0, 1) := by decide +kernel
theorem dX11_comesTrue_84 : decode cX11_comesTrue 84 = .ok (.iconst 0, 1) := by decide +kernel
theorem dX11_comesTrue_85 : decode cX11_comesTrue 85 = .ok (.iload_n 2, 1) := by decide +kernel
theorem dX11_comesTrue_86 : decode cX11_comesTrue 86 = .ok (.iconst 0, 1) := by decide +kernel
theorem dX11_comesTrue_87 : decode cX11_comesTrue 87 = .ok (.invokevirtual 331, 3) := by decide +kernel
theorem dX11_comesTrue_90 : decode cX11_comesTrue 90 = .ok (.ifCond .eq 7, 3) := by decide +kernel
theorem dX11_comesTrue_93 : decode cX11_comesTrue 93 = .ok (.iconst 1, 1) := by decide +kernel
theorem dX11_comesTrue_94 : decode cX11_comesTrue 94 = .ok (.goto 4, 3) := by decide +kernel
theorem dX11_comesTrue_97 : decode cX11_comesTrue 97 = .ok (.iconst 0, 1) := by decide +kernel
theorem dX11_comesTrue_98 : decode cX11_comesTrue 98 = .ok (.ireturn, 1) := by decide +kernel
theorem dX11_comesTrue_99 : decode cX11_comesTrue 99 = .ok (.iload_n 2, 1) := by decide +kernel
theorem dX11_comesTrue_100 : decode cX11_comesTrue 100 = .ok (.invokestatic 174, 3) := by decide +kernel
theorem dX11_comesTrue_103 : decode cX11_comesTrue 103 = .ok (.ifCond .eq 33, 3) := by decide +kernel
theorem dX11_comesTrue_106 : decode cX11_comesTrue 106 = .ok (.iload_n 3, 1) := by decide +kernel
theorem dX11_comesTrue_107 : decode cX11_comesTrue 107 = .ok (.ifCond .ne 29, 3) := by decide +kernel
theorem dX11_comesTrue_110 : decode cX11_comesTrue 110 = .ok (.aload_n 0, 1) := by decide +kernel
theorem dX11_comesTrue_111 : decode cX11_comesTrue 111 = .ok (.getfield 26, 3) := by decide +kernel
theorem dX11_comesTrue_114 : decode cX11_comesTrue 114 = .ok (.getfield 180, 3) := by decide +kernel
theorem dX11_comesTrue_117 : decode cX11_comesTrue 117 = .ok (.iload_n 2, 1) := by decide +kernel
theorem dX11_comesTrue_118 : decode cX11_comesTrue 118 = .ok (.iaload, 1) := by decide +kernel
theorem dX11_comesTrue_119 : decode cX11_comesTrue 119 = .ok (.ifCond .le 17, 3) := by decide +kernel
theorem dX11_comesTrue_122 : decode cX11_comesTrue 122 = .ok (.aload_n 0, 1) := by decide +kernel
theorem dX11_comesTrue_123 : decode cX11_comesTrue 123 = .ok (.iconst 1, 1) := by decide +kernel
theorem dX11_comesTrue_124 : decode cX11_comesTrue 124 = .ok (.iload_n 2, 1) := by decide +kernel
theorem dX11_comesTrue_125 : decode cX11_comesTrue 125 = .ok (.iconst 0, 1) := by decide +kernel
theorem dX11_comesTrue_126 : decode cX11_comesTrue 126 = .ok (.invokevirtual 331, 3) := by decide +kernel
theorem dX11_comesTrue_129 : decode cX11_comesTrue 129 = .ok (.ifCond .eq 7, 3) := by decide +kernel
theorem dX11_comesTrue_132 : decode cX11_comesTrue 132 = .ok (.iconst 1, 1) := by decide +kernel
theorem dX11_comesTrue_133 : decode cX11_comesTrue 133 = .ok (.goto 4, 3) := by decide +kernel
theorem dX11_comesTrue_136 : decode cX11_comesTrue 136 = .ok (.iconst 0, 1) := by decide +kernel
theorem dX11_comesTrue_137 : decode cX11_comesTrue 137 = .ok (.ireturn, 1) := by decide +kernel
theorem dX11_comesTrue_138 : decode cX11_comesTrue 138 = .ok (.aload_n 0, 1) := by decide +kernel
theorem dX11_comesTrue_139 : decode cX11_comesTrue 139 = .ok (.getfield 19, 3) := by decide +kernel
theorem dX11_comesTrue_142 : decode cX11_comesTrue 142 = .ok (.iload_n 2, 1) := by decide +kernel
theorem dX11_comesTrue_143 : decode cX11_comesTrue 143 = .ok (.invokevirtual 149, 3) := by decide +kernel
theorem dX11_comesTrue_146 : decode cX11_comesTrue 146 = .ok (.ifCond .eq 21, 3) := by decide +kernel
theorem dX11_comesTrue_149 : decode cX11_comesTrue 149 = .ok (.iload_n 3, 1) := by decide +kernel
theorem dX11_comesTrue_150 : decode cX11_comesTrue 150 = .ok (.ifCond .ne 17, 3) := by decide +kernel
theorem dX11_comesTrue_153 : decode cX11_comesTrue 153 = .ok (.aload_n 0, 1) := by decide +kernel
theorem dX11_comesTrue_154 : decode cX11_comesTrue 154 = .ok (.iconst 2, 1) := by decide +kernel
theorem dX11_comesTrue_155 : decode cX11_comesTrue 155 = .ok (.iload_n 2, 1) := by decide +kernel
theorem dX11_comesTrue_156 : decode cX11_comesTrue 156 = .ok (.iconst 0, 1) := by decide +kernel
theorem dX11_comesTrue_157 : decode cX11_comesTrue 157 = .ok (.invokevirtual 331, 3) := by decide +kernel
theorem dX11_comesTrue_160 : decode cX11_comesTrue 160 = .ok (.ifCond .eq 7, 3) := by decide +kernel
theorem dX11_comesTrue_163 : decode cX11_comesTrue 163 = .ok (.iconst 1, 1) := by decide +kernel
theorem dX11_comesTrue_164 : decode cX11_comesTrue 164 = .ok (.goto 4, 3) := by decide +kernel
theorem dX11_comesTrue_167 : decode cX11_comesTrue 167 = .ok (.iconst 0, 1) := by decide +kernel
theorem dX11_comesTrue_168 : decode cX11_comesTrue 168 = .ok (.ireturn, 1) := by decide +kernel
theorem dX11_comesTrue_169 : decode cX11_comesTrue 169 = .ok (.iload_n 2, 1) := by decide +kernel
theorem dX11_comesTrue_170 : decode cX11_comesTrue 170 = .ok (.ifCond .ne 20, 3) := by decide +kernel
theorem dX11_comesTrue_173 : decode cX11_comesTrue 173 = .ok (.aload_n 0, 1) := by decide +kernel
theorem dX11_comesTrue_174 : decode cX11_comesTrue 174 = .ok (.getfield 53, 3) := by decide +kernel
theorem dX11_comesTrue_177 : decode cX11_comesTrue 177 = .ok (.invokevirtual 202, 3) := by decide +kernel
theorem dX11_comesTrue_180 : decode cX11_comesTrue 180 = .ok (.iload_n 3, 1) := by decide +kernel
theorem dX11_comesTrue_181 : decode cX11_comesTrue 181 = .ok (.i2l, 1) := by decide +kernel
theorem dX11_comesTrue_182 : decode cX11_comesTrue 182 = .ok (.lcmp, 1) := by decide +kernel
theorem dX11_comesTrue_183 : decode cX11_comesTrue 183 = .ok (.ifCond .ne 7, 3) := by decide +kernel
theorem dX11_comesTrue_186 : decode cX11_comesTrue 186 = .ok (.iconst 1, 1) := by decide +kernel
theorem dX11_comesTrue_187 : decode cX11_comesTrue 187 = .ok (.goto 4, 3) := by decide +kernel
theorem dX11_comesTrue_190 : decode cX11_comesTrue 190 = .ok (.iconst 0, 1) := by decide +kernel
theorem dX11_comesTrue_191 : decode cX11_comesTrue 191 = .ok (.ireturn, 1) := by decide +kernel
theorem dX11_comesTrue_192 : decode cX11_comesTrue 192 = .ok (.aload_n 0, 1) := by decide +kernel
theorem dX11_comesTrue_193 : decode cX11_comesTrue 193 = .ok (.getfield 19, 3) := by decide +kernel
theorem dX11_comesTrue_196 : decode cX11_comesTrue 196 = .ok (.iload_n 2, 1) := by decide +kernel
theorem dX11_comesTrue_197 : decode cX11_comesTrue 197 = .ok (.invokevirtual 149, 3) := by decide +kernel
theorem dX11_comesTrue_200 : decode cX11_comesTrue 200 = .ok (.ifCond .eq 27, 3) := by decide +kernel
theorem dX11_comesTrue_203 : decode cX11_comesTrue 203 = .ok (.iload_n 3, 1) := by decide +kernel
theorem dX11_comesTrue_204 : decode cX11_comesTrue 204 = .ok (.iconst 1, 1) := by decide +kernel
theorem dX11_comesTrue_205 : decode cX11_comesTrue 205 = .ok (.if_icmp .gt 22, 3) := by decide +kernel
theorem dX11_comesTrue_208 : decode cX11_comesTrue 208 = .ok (.aload_n 0, 1) := by decide +kernel
theorem dX11_comesTrue_209 : decode cX11_comesTrue 209 = .ok (.getfield 53, 3) := by decide +kernel
theorem dX11_comesTrue_212 : decode cX11_comesTrue 212 = .ok (.invokevirtual 140, 3) := by decide +kernel
theorem dX11_comesTrue_215 : decode cX11_comesTrue 215 = .ok (.iload_n 2, 1) := by decide +kernel
theorem dX11_comesTrue_216 : decode cX11_comesTrue 216 = .ok (.ishr, 1) := by decide +kernel
theorem dX11_comesTrue_217 : decode cX11_comesTrue 217 = .ok (.iconst 1, 1) := by decide +kernel
theorem dX11_comesTrue_218 : decode cX11_comesTrue 218 = .ok (.iand, 1) := by decide +kernel
theorem dX11_comesTrue_219 : decode cX11_comesTrue 219 = .ok (.iload_n 3, 1) := by decide +kernel
theorem dX11_comesTrue_220 : decode cX11_comesTrue 220 = .ok (.if_icmp .ne 7, 3) := by decide +kernel
theorem dX11_comesTrue_223 : decode cX11_comesTrue 223 = .ok (.iconst 1, 1) := by decide +kernel
theorem dX11_comesTrue_224 : decode cX11_comesTrue 224 = .ok (.goto 4, 3) := by decide +kernel
theorem dX11_comesTrue_227 : decode cX11_comesTrue 227 = .ok (.iconst 0, 1) := by decide +kernel
theorem dX11_comesTrue_228 : decode cX11_comesTrue 228 = .ok (.ireturn, 1) := by decide +kernel
theorem dX11_comesTrue_229 : decode cX11_comesTrue 229 = .ok (.iload_n 2, 1) := by decide +kernel
theorem dX11_comesTrue_230 : decode cX11_comesTrue 230 = .ok (.invokestatic 177, 3) := by decide +kernel
theorem dX11_comesTrue_233 : decode cX11_comesTrue 233 = .ok (.ifCond .eq 38, 3) := by decide +kernel
theorem dX11_comesTrue_236 : decode cX11_comesTrue 236 = .ok (.iload_n 3, 1) := by decide +kernel
theorem dX11_comesTrue_237 : decode cX11_comesTrue 237 = .ok (.bipush 10, 2) := by decide +kernel
theorem dX11_comesTrue_239 : decode cX11_comesTrue 239 = .ok (.idiv, 1) := by decide +kernel
theorem dX11_comesTrue_240 : decode cX11_comesTrue 240 = .ok (.invokestatic 177, 3) := by decide +kernel
theorem dX11_comesTrue_243 : decode cX11_comesTrue 243 = .ok (.ifCond .eq 28, 3) := by decide +kernel
theorem dX11_comesTrue_246 : decode cX11_comesTrue 246 = .ok (.iload_n 3, 1) := by decide +kernel
theorem dX11_comesTrue_247 : decode cX11_comesTrue 247 = .ok (.bipush 10, 2) := by decide +kernel
theorem dX11_comesTrue_249 : decode cX11_comesTrue 249 = .ok (.irem, 1) := by decide +kernel
theorem dX11_comesTrue_250 : decode cX11_comesTrue 250 = .ok (.ifCond .ne 21, 3) := by decide +kernel
theorem dX11_comesTrue_253 : decode cX11_comesTrue 253 = .ok (.aload_n 0, 1) := by decide +kernel
theorem dX11_comesTrue_254 : decode cX11_comesTrue 254 = .ok (.bipush 6, 2) := by decide +kernel
theorem dX11_comesTrue_256 : decode cX11_comesTrue 256 = .ok (.iload_n 2, 1) := by decide +kernel
theorem dX11_comesTrue_257 : decode cX11_comesTrue 257 = .ok (.iload_n 3, 1) := by decide +kernel
theorem dX11_comesTrue_258 : decode cX11_comesTrue 258 = .ok (.bipush 10, 2) := by decide +kernel
theorem dX11_comesTrue_260 : decode cX11_comesTrue 260 = .ok (.idiv, 1) := by decide +kernel
theorem dX11_comesTrue_261 : decode cX11_comesTrue 261 = .ok (.invokevirtual 331, 3) := by decide +kernel
theorem dX11_comesTrue_264 : decode cX11_comesTrue 264 = .ok (.ifCond .eq 7, 3) := by decide +kernel
theorem dX11_comesTrue_267 : decode cX11_comesTrue 267 = .ok (.iconst 1, 1) := by decide +kernel
theorem dX11_comesTrue_268 : decode cX11_comesTrue 268 = .ok (.goto 4, 3) := by decide +kernel
theorem dX11_comesTrue_271 : decode cX11_comesTrue 271 = .ok (.iconst 0, 1) := by decide +kernel
theorem dX11_comesTrue_272 : decode cX11_comesTrue 272 = .ok (.ireturn, 1) := by decide +kernel
theorem dX11_comesTrue_273 : decode cX11_comesTrue 273 = .ok (.iload_n 2, 1) := by decide +kernel
theorem dX11_comesTrue_274 : decode cX11_comesTrue 274 = .ok (.ifCond .ne 28, 3) := by decide +kernel
theorem dX11_comesTrue_277 : decode cX11_comesTrue 277 = .ok (.aload_n 0, 1) := by decide +kernel
theorem dX11_comesTrue_278 : decode cX11_comesTrue 278 = .ok (.getfield 53, 3) := by decide +kernel
theorem dX11_comesTrue_281 : decode cX11_comesTrue 281 = .ok (.invokevirtual 214, 3) := by decide +kernel
theorem dX11_comesTrue_284 : decode cX11_comesTrue 284 = .ok (.ifCond .eq 18, 3) := by decide +kernel
theorem dX11_comesTrue_287 : decode cX11_comesTrue 287 = .ok (.aload_n 0, 1) := by decide +kernel
theorem dX11_comesTrue_288 : decode cX11_comesTrue 288 = .ok (.getfield 53, 3) := by decide +kernel
theorem dX11_comesTrue_291 : decode cX11_comesTrue 291 = .ok (.invokevirtual 218, 3) := by decide +kernel
theorem dX11_comesTrue_294 : decode cX11_comesTrue 294 = .ok (.iload_n 3, 1) := by decide +kernel
theorem dX11_comesTrue_295 : decode cX11_comesTrue 295 = .ok (.if_icmp .ne 7, 3) := by decide +kernel
theorem dX11_comesTrue_298 : decode cX11_comesTrue 298 = .ok (.iconst 1, 1) := by decide +kernel
theorem dX11_comesTrue_299 : decode cX11_comesTrue 299 = .ok (.goto 4, 3) := by decide +kernel
theorem dX11_comesTrue_302 : decode cX11_comesTrue 302 = .ok (.iconst 0, 1) := by decide +kernel
theorem dX11_comesTrue_303 : decode cX11_comesTrue 303 = .ok (.ireturn, 1) := by decide +kernel
theorem dX11_comesTrue_304 : decode cX11_comesTrue 304 = .ok (.iconst 0, 1) := by decide +kernel
theorem dX11_comesTrue_305 : decode cX11_comesTrue 305 = .ok (.ireturn, 1) := by decide +kernel
theorem dX11_performed_0 : decode cX11_performed 0 = .ok (.aload_n 0, 1) := by decide +kernel
theorem dX11_performed_1 : decode cX11_performed 1 = .ok (.iload_n 1, 1) := by decide +kernel
theorem dX11_performed_2 : decode cX11_performed 2 = .ok (.iload_n 2, 1) := by decide +kernel
theorem dX11_performed_3 : decode cX11_performed 3 = .ok (.iload_n 3, 1) := by decide +kernel
theorem dX11_performed_4 : decode cX11_performed 4 = .ok (.invokevirtual 189, 3) := by decide +kernel
theorem dX11_performed_7 : decode cX11_performed 7 = .ok (.iconst 1, 1) := by decide +kernel
theorem dX11_performed_8 : decode cX11_performed 8 = .ok (.ireturn, 1) := by decide +kernel
theorem dX11_foundAgrees_0 : decode cX11_foundAgrees 0 = .ok (.iconst 0, 1) := by decide +kernel
theorem dX11_foundAgrees_1 : decode cX11_foundAgrees 1 = .ok (.istore_n 1, 1) := by decide +kernel
theorem dX11_foundAgrees_2 : decode cX11_foundAgrees 2 = .ok (.iload_n 1, 1) := by decide +kernel
theorem dX11_foundAgrees_3 : decode cX11_foundAgrees 3 = .ok (.aload_n 0, 1) := by decide +kernel
theorem dX11_foundAgrees_4 : decode cX11_foundAgrees 4 = .ok (.getfield 86, 3) := by decide +kernel
theorem dX11_foundAgrees_7 : decode cX11_foundAgrees 7 = .ok (.if_icmp .ge 57, 3) := by decide +kernel
theorem dX11_foundAgrees_10 : decode cX11_foundAgrees 10 = .ok (.aload_n 0, 1) := by decide +kernel
theorem dX11_foundAgrees_11 : decode cX11_foundAgrees 11 = .ok (.getfield 79, 3) := by decide +kernel
theorem dX11_foundAgrees_14 : decode cX11_foundAgrees 14 = .ok (.iload_n 1, 1) := by decide +kernel
theorem dX11_foundAgrees_15 : decode cX11_foundAgrees 15 = .ok (.iconst 3, 1) := by decide +kernel
theorem dX11_foundAgrees_16 : decode cX11_foundAgrees 16 = .ok (.imul, 1) := by decide +kernel
theorem dX11_foundAgrees_17 : decode cX11_foundAgrees 17 = .ok (.iconst 2, 1) := by decide +kernel
theorem dX11_foundAgrees_18 : decode cX11_foundAgrees 18 = .ok (.iadd, 1) := by decide +kernel
theorem dX11_foundAgrees_19 : decode cX11_foundAgrees 19 = .ok (.iaload, 1) := by decide +kernel
theorem dX11_foundAgrees_20 : decode cX11_foundAgrees 20 = .ok (.iconst 1, 1) := by decide +kernel
theorem dX11_foundAgrees_21 : decode cX11_foundAgrees 21 = .ok (.if_icmp .ne 7, 3) := by decide +kernel
theorem dX11_foundAgrees_24 : decode cX11_foundAgrees 24 = .ok (.iconst 1, 1) := by decide +kernel
theorem dX11_foundAgrees_25 : decode cX11_foundAgrees 25 = .ok (.goto 4, 3) := by decide +kernel
theorem dX11_foundAgrees_28 : decode cX11_foundAgrees 28 = .ok (.iconst 0, 1) := by decide +kernel
theorem dX11_foundAgrees_29 : decode cX11_foundAgrees 29 = .ok (.istore_n 2, 1) := by decide +kernel
theorem dX11_foundAgrees_30 : decode cX11_foundAgrees 30 = .ok (.aload_n 0, 1) := by decide +kernel
theorem dX11_foundAgrees_31 : decode cX11_foundAgrees 31 = .ok (.aload_n 0, 1) := by decide +kernel
theorem dX11_foundAgrees_32 : decode cX11_foundAgrees 32 = .ok (.getfield 79, 3) := by decide +kernel
theorem dX11_foundAgrees_35 : decode cX11_foundAgrees 35 = .ok (.iload_n 1, 1) := by decide +kernel
theorem dX11_foundAgrees_36 : decode cX11_foundAgrees 36 = .ok (.iconst 3, 1) := by decide +kernel
theorem dX11_foundAgrees_37 : decode cX11_foundAgrees 37 = .ok (.imul, 1) := by decide +kernel
theorem dX11_foundAgrees_38 : decode cX11_foundAgrees 38 = .ok (.iaload, 1) := by decide +kernel
theorem dX11_foundAgrees_39 : decode cX11_foundAgrees 39 = .ok (.aload_n 0, 1) := by decide +kernel
theorem dX11_foundAgrees_40 : decode cX11_foundAgrees 40 = .ok (.getfield 79, 3) := by decide +kernel
theorem dX11_foundAgrees_43 : decode cX11_foundAgrees 43 = .ok (.iload_n 1, 1) := by decide +kernel
theorem dX11_foundAgrees_44 : decode cX11_foundAgrees 44 = .ok (.iconst 3, 1) := by decide +kernel
theorem dX11_foundAgrees_45 : decode cX11_foundAgrees 45 = .ok (.imul, 1) := by decide +kernel
theorem dX11_foundAgrees_46 : decode cX11_foundAgrees 46 = .ok (.iconst 1, 1) := by decide +kernel
theorem dX11_foundAgrees_47 : decode cX11_foundAgrees 47 = .ok (.iadd, 1) := by decide +kernel
theorem dX11_foundAgrees_48 : decode cX11_foundAgrees 48 = .ok (.iaload, 1) := by decide +kernel
theorem dX11_foundAgrees_49 : decode cX11_foundAgrees 49 = .ok (.invokevirtual 335, 3) := by decide +kernel
theorem dX11_foundAgrees_52 : decode cX11_foundAgrees 52 = .ok (.iload_n 2, 1) := by decide +kernel
theorem dX11_foundAgrees_53 : decode cX11_foundAgrees 53 = .ok (.if_icmp .eq 5, 3) := by decide +kernel
theorem dX11_foundAgrees_56 : decode cX11_foundAgrees 56 = .ok (.iconst 0, 1) := by decide +kernel
theorem dX11_foundAgrees_57 : decode cX11_foundAgrees 57 = .ok (.ireturn, 1) := by decide +kernel
theorem dX11_foundAgrees_58 : decode cX11_foundAgrees 58 = .ok (.iinc 1 1, 3) := by decide +kernel
theorem dX11_foundAgrees_61 : decode cX11_foundAgrees 61 = .ok (.goto (-59), 3) := by decide +kernel
theorem dX11_foundAgrees_64 : decode cX11_foundAgrees 64 = .ok (.iconst 1, 1) := by decide +kernel
theorem dX11_foundAgrees_65 : decode cX11_foundAgrees 65 = .ok (.ireturn, 1) := by decide +kernel
theorem dX11_isSo_0 : decode cX11_isSo 0 = .ok (.iload_n 1, 1) := by decide +kernel
theorem dX11_isSo_1 : decode cX11_isSo 1 = .ok (.tableswitch 71 0 2 #[27, 36, 53], 27) := by decide +kernel
theorem dX11_isSo_28 : decode cX11_isSo 28 = .ok (.aload_n 0, 1) := by decide +kernel
theorem dX11_isSo_29 : decode cX11_isSo 29 = .ok (.getfield 53, 3) := by decide +kernel
theorem dX11_isSo_32 : decode cX11_isSo 32 = .ok (.iload_n 2, 1) := by decide +kernel
theorem dX11_isSo_33 : decode cX11_isSo 33 = .ok (.invokevirtual 338, 3) := by decide +kernel
theorem dX11_isSo_36 : decode cX11_isSo 36 = .ok (.ireturn, 1) := by decide +kernel
theorem dX11_isSo_37 : decode cX11_isSo 37 = .ok (.aload_n 0, 1) := by decide +kernel
theorem dX11_isSo_38 : decode cX11_isSo 38 = .ok (.getfield 53, 3) := by decide +kernel
theorem dX11_isSo_41 : decode cX11_isSo 41 = .ok (.getfield 221, 3) := by decide +kernel
theorem dX11_isSo_44 : decode cX11_isSo 44 = .ok (.iload_n 2, 1) := by decide +kernel
theorem dX11_isSo_45 : decode cX11_isSo 45 = .ok (.if_icmp .ne 7, 3) := by decide +kernel
theorem dX11_isSo_48 : decode cX11_isSo 48 = .ok (.iconst 1, 1) := by decide +kernel
theorem dX11_isSo_49 : decode cX11_isSo 49 = .ok (.goto 4, 3) := by decide +kernel
theorem dX11_isSo_52 : decode cX11_isSo 52 = .ok (.iconst 0, 1) := by decide +kernel
theorem dX11_isSo_53 : decode cX11_isSo 53 = .ok (.ireturn, 1) := by decide +kernel
theorem dX11_isSo_54 : decode cX11_isSo 54 = .ok (.aload_n 0, 1) := by decide +kernel
theorem dX11_isSo_55 : decode cX11_isSo 55 = .ok (.getfield 53, 3) := by decide +kernel
theorem dX11_isSo_58 : decode cX11_isSo 58 = .ok (.iconst 0, 1) := by decide +kernel
theorem dX11_isSo_59 : decode cX11_isSo 59 = .ok (.invokevirtual 224, 3) := by decide +kernel
theorem dX11_isSo_62 : decode cX11_isSo 62 = .ok (.iload_n 2, 1) := by decide +kernel
theorem dX11_isSo_63 : decode cX11_isSo 63 = .ok (.if_icmp .ne 7, 3) := by decide +kernel
theorem dX11_isSo_66 : decode cX11_isSo 66 = .ok (.iconst 1, 1) := by decide +kernel
theorem dX11_isSo_67 : decode cX11_isSo 67 = .ok (.goto 4, 3) := by decide +kernel
theorem dX11_isSo_70 : decode cX11_isSo 70 = .ok (.iconst 0, 1) := by decide +kernel
theorem dX11_isSo_71 : decode cX11_isSo 71 = .ok (.ireturn, 1) := by decide +kernel
theorem dX11_isSo_72 : decode cX11_isSo 72 = .ok (.aload_n 0, 1) := by decide +kernel
theorem dX11_isSo_73 : decode cX11_isSo 73 = .ok (.getfield 53, 3) := by decide +kernel
theorem dX11_isSo_76 : decode cX11_isSo 76 = .ok (.aload_n 0, 1) := by decide +kernel
theorem dX11_isSo_77 : decode cX11_isSo 77 = .ok (.getfield 53, 3) := by decide +kernel
theorem dX11_isSo_80 : decode cX11_isSo 80 = .ok (.getfield 221, 3) := by decide +kernel
theorem dX11_isSo_83 : decode cX11_isSo 83 = .ok (.iconst 1, 1) := by decide +kernel
theorem dX11_isSo_84 : decode cX11_isSo 84 = .ok (.isub, 1) := by decide +kernel
theorem dX11_isSo_85 : decode cX11_isSo 85 = .ok (.invokevirtual 224, 3) := by decide +kernel
theorem dX11_isSo_88 : decode cX11_isSo 88 = .ok (.iload_n 2, 1) := by decide +kernel
theorem dX11_isSo_89 : decode cX11_isSo 89 = .ok (.if_icmp .ne 7, 3) := by decide +kernel
theorem dX11_isSo_92 : decode cX11_isSo 92 = .ok (.iconst 1, 1) := by decide +kernel
theorem dX11_isSo_93 : decode cX11_isSo 93 = .ok (.goto 4, 3) := by decide +kernel
theorem dX11_isSo_96 : decode cX11_isSo 96 = .ok (.iconst 0, 1) := by decide +kernel
theorem dX11_isSo_97 : decode cX11_isSo 97 = .ok (.ireturn, 1) := by decide +kernel
theorem dX11_leastTerms_0 : decode cX11_leastTerms 0 = .ok (.lload_n 0, 1) := by decide +kernel
theorem dX11_leastTerms_1 : decode cX11_leastTerms 1 = .ok (.invokestatic 341, 3) := by decide +kernel
theorem dX11_leastTerms_4 : decode cX11_leastTerms 4 = .ok (.lstore 5, 2) := by decide +kernel
theorem dX11_leastTerms_6 : decode cX11_leastTerms 6 = .ok (.lload_n 2, 1) := by decide +kernel
theorem dX11_leastTerms_7 : decode cX11_leastTerms 7 = .ok (.lstore 7, 2) := by decide +kernel
theorem dX11_leastTerms_9 : decode cX11_leastTerms 9 = .ok (.iconst 0, 1) := by decide +kernel
theorem dX11_leastTerms_10 : decode cX11_leastTerms 10 = .ok (.istore 9, 2) := by decide +kernel
theorem dX11_leastTerms_12 : decode cX11_leastTerms 12 = .ok (.iload 9, 2) := by decide +kernel
theorem dX11_leastTerms_14 : decode cX11_leastTerms 14 = .ok (.bipush 100, 2) := by decide +kernel
theorem dX11_leastTerms_16 : decode cX11_leastTerms 16 = .ok (.if_icmp .ge 31, 3) := by decide +kernel
theorem dX11_leastTerms_19 : decode cX11_leastTerms 19 = .ok (.lload 7, 2) := by decide +kernel
theorem dX11_leastTerms_21 : decode cX11_leastTerms 21 = .ok (.lconst 0, 1) := by decide +kernel
theorem dX11_leastTerms_22 : decode cX11_leastTerms 22 = .ok (.lcmp, 1) := by decide +kernel
theorem dX11_leastTerms_23 : decode cX11_leastTerms 23 = .ok (.ifCond .eq 24, 3) := by decide +kernel
theorem dX11_leastTerms_26 : decode cX11_leastTerms 26 = .ok (.lload 5, 2) := by decide +kernel
theorem dX11_leastTerms_28 : decode cX11_leastTerms 28 = .ok (.lload 7, 2) := by decide +kernel
theorem dX11_leastTerms_30 : decode cX11_leastTerms 30 = .ok (.lrem, 1) := by decide +kernel
theorem dX11_leastTerms_31 : decode cX11_leastTerms 31 = .ok (.lstore 10, 2) := by decide +kernel
theorem dX11_leastTerms_33 : decode cX11_leastTerms 33 = .ok (.lload 7, 2) := by decide +kernel
theorem dX11_leastTerms_35 : decode cX11_leastTerms 35 = .ok (.lstore 5, 2) := by decide +kernel
theorem dX11_leastTerms_37 : decode cX11_leastTerms 37 = .ok (.lload 10, 2) := by decide +kernel
theorem dX11_leastTerms_39 : decode cX11_leastTerms 39 = .ok (.lstore 7, 2) := by decide +kernel
theorem dX11_leastTerms_41 : decode cX11_leastTerms 41 = .ok (.iinc 9 1, 3) := by decide +kernel
theorem dX11_leastTerms_44 : decode cX11_leastTerms 44 = .ok (.goto (-32), 3) := by decide +kernel
theorem dX11_leastTerms_47 : decode cX11_leastTerms 47 = .ok (.lload 5, 2) := by decide +kernel
theorem dX11_leastTerms_49 : decode cX11_leastTerms 49 = .ok (.lconst 0, 1) := by decide +kernel
theorem dX11_leastTerms_50 : decode cX11_leastTerms 50 = .ok (.lcmp, 1) := by decide +kernel
theorem dX11_leastTerms_51 : decode cX11_leastTerms 51 = .ok (.ifCond .ne 14, 3) := by decide +kernel
theorem dX11_leastTerms_54 : decode cX11_leastTerms 54 = .ok (.iload 4, 2) := by decide +kernel
theorem dX11_leastTerms_56 : decode cX11_leastTerms 56 = .ok (.ifCond .eq 7, 3) := by decide +kernel
theorem dX11_leastTerms_59 : decode cX11_leastTerms 59 = .ok (.lload_n 0, 1) := by decide +kernel
theorem dX11_leastTerms_60 : decode cX11_leastTerms 60 = .ok (.goto 4, 3) := by decide +kernel
theorem dX11_leastTerms_63 : decode cX11_leastTerms 63 = .ok (.lload_n 2, 1) := by decide +kernel
theorem dX11_leastTerms_64 : decode cX11_leastTerms 64 = .ok (.lreturn, 1) := by decide +kernel
theorem dX11_leastTerms_65 : decode cX11_leastTerms 65 = .ok (.iload 4, 2) := by decide +kernel
theorem dX11_leastTerms_67 : decode cX11_leastTerms 67 = .ok (.ifCond .eq 7, 3) := by decide +kernel
theorem dX11_leastTerms_70 : decode cX11_leastTerms 70 = .ok (.lload_n 0, 1) := by decide +kernel
theorem dX11_leastTerms_71 : decode cX11_leastTerms 71 = .ok (.goto 4, 3) := by decide +kernel
theorem dX11_leastTerms_74 : decode cX11_leastTerms 74 = .ok (.lload_n 2, 1) := by decide +kernel
theorem dX11_leastTerms_75 : decode cX11_leastTerms 75 = .ok (.lload 5, 2) := by decide +kernel
theorem dX11_leastTerms_77 : decode cX11_leastTerms 77 = .ok (.ldiv, 1) := by decide +kernel
theorem dX11_leastTerms_78 : decode cX11_leastTerms 78 = .ok (.lreturn, 1) := by decide +kernel
theorem dX12_init_0 : decode cX12_init 0 = .ok (.aload_n 0, 1) := by decide +kernel
theorem dX12_init_1 : decode cX12_init 1 = .ok (.invokespecial 1, 3) := by decide +kernel
theorem dX12_init_4 : decode cX12_init 4 = .ok (.aload_n 0, 1) := by decide +kernel
theorem dX12_init_5 : decode cX12_init 5 = .ok (.sipush 180, 3) := by decide +kernel
theorem dX12_init_8 : decode cX12_init 8 = .ok (.newarray .int, 2) := by decide +kernel
theorem dX12_init_10 : decode cX12_init 10 = .ok (.putfield 7, 3) := by decide +kernel
theorem dX12_init_13 : decode cX12_init 13 = .ok (.aload_n 0, 1) := by decide +kernel
theorem dX12_init_14 : decode cX12_init 14 = .ok (.bipush 60, 2) := by decide +kernel
theorem dX12_init_16 : decode cX12_init 16 = .ok (.newarray .int, 2) := by decide +kernel
theorem dX12_init_18 : decode cX12_init 18 = .ok (.putfield 13, 3) := by decide +kernel
theorem dX12_init_21 : decode cX12_init 21 = .ok (.aload_n 0, 1) := by decide +kernel
theorem dX12_init_22 : decode cX12_init 22 = .ok (.bipush 10, 2) := by decide +kernel
theorem dX12_init_24 : decode cX12_init 24 = .ok (.newarray .int, 2) := by decide +kernel
theorem dX12_init_26 : decode cX12_init 26 = .ok (.putfield 16, 3) := by decide +kernel
theorem dX12_init_29 : decode cX12_init 29 = .ok (.aload_n 0, 1) := by decide +kernel
theorem dX12_init_30 : decode cX12_init 30 = .ok (.bipush 10, 2) := by decide +kernel
theorem dX12_init_32 : decode cX12_init 32 = .ok (.newarray .int, 2) := by decide +kernel
theorem dX12_init_34 : decode cX12_init 34 = .ok (.putfield 19, 3) := by decide +kernel
theorem dX12_init_37 : decode cX12_init 37 = .ok (.aload_n 0, 1) := by decide +kernel
theorem dX12_init_38 : decode cX12_init 38 = .ok (.bipush 80, 2) := by decide +kernel
theorem dX12_init_40 : decode cX12_init 40 = .ok (.newarray .int, 2) := by decide +kernel
theorem dX12_init_42 : decode cX12_init 42 = .ok (.putfield 22, 3) := by decide +kernel
theorem dX12_init_45 : decode cX12_init 45 = .ok (.aload_n 0, 1) := by decide +kernel
theorem dX12_init_46 : decode cX12_init 46 = .ok (.bipush 25, 2) := by decide +kernel
theorem dX12_init_48 : decode cX12_init 48 = .ok (.newarray .int, 2) := by decide +kernel
theorem dX12_init_50 : decode cX12_init 50 = .ok (.putfield 25, 3) := by decide +kernel
theorem dX12_init_53 : decode cX12_init 53 = .ok (.aload_n 0, 1) := by decide +kernel
theorem dX12_init_54 : decode cX12_init 54 = .ok (.bipush 25, 2) := by decide +kernel
theorem dX12_init_56 : decode cX12_init 56 = .ok (.newarray .int, 2) := by decide +kernel
theorem dX12_init_58 : decode cX12_init 58 = .ok (.putfield 28, 3) := by decide +kernel
theorem dX12_init_61 : decode cX12_init 61 = .ok (.aload_n 0, 1) := by decide +kernel
theorem dX12_init_62 : decode cX12_init 62 = .ok (.sipush 350, 3) := by decide +kernel
theorem dX12_init_65 : decode cX12_init 65 = .ok (.newarray .int, 2) := by decide +kernel
theorem dX12_init_67 : decode cX12_init 67 = .ok (.putfield 31, 3) := by decide +kernel
theorem dX12_init_70 : decode cX12_init 70 = .ok (.aload_n 0, 1) := by decide +kernel
theorem dX12_init_71 : decode cX12_init 71 = .ok (.bipush 50, 2) := by decide +kernel
theorem dX12_init_73 : decode cX12_init 73 = .ok (.newarray .int, 2) := by decide +kernel
theorem dX12_init_75 : decode cX12_init 75 = .ok (.putfield 34, 3) := by decide +kernel
theorem dX12_init_78 : decode cX12_init 78 = .ok (.aload_n 0, 1) := by decide +kernel
theorem dX12_init_79 : decode cX12_init 79 = .ok (.iconst 2, 1) := by decide +kernel
theorem dX12_init_80 : decode cX12_init 80 = .ok (.newarray .boolean, 2) := by decide +kernel
theorem dX12_init_82 : decode cX12_init 82 = .ok (.putfield 37, 3) := by decide +kernel
theorem dX12_init_85 : decode cX12_init 85 = .ok (.aload_n 0, 1) := by decide +kernel
theorem dX12_init_86 : decode cX12_init 86 = .ok (.bipush 12, 2) := by decide +kernel
theorem dX12_init_88 : decode cX12_init 88 = .ok (.newarray .int, 2) := by decide +kernel
theorem dX12_init_90 : decode cX12_init 90 = .ok (.putfield 41, 3) := by decide +kernel
theorem dX12_init_93 : decode cX12_init 93 = .ok (.aload_n 0, 1) := by decide +kernel
theorem dX12_init_94 : decode cX12_init 94 = .ok (.bipush 6, 2) := by decide +kernel
theorem dX12_init_96 : decode cX12_init 96 = .ok (.newarray .int, 2) := by decide +kernel
theorem dX12_init_98 : decode cX12_init 98 = .ok (.putfield 44, 3) := by decide +kernel
theorem dX12_init_101 : decode cX12_init 101 = .ok (.aload_n 0, 1) := by decide +kernel
theorem dX12_init_102 : decode cX12_init 102 = .ok (.bipush 6, 2) := by decide +kernel
theorem dX12_init_104 : decode cX12_init 104 = .ok (.newarray .int, 2) := by decide +kernel
theorem dX12_init_106 : decode cX12_init 106 = .ok (.putfield 47, 3) := by decide +kernel
theorem dX12_init_109 : decode cX12_init 109 = .ok (.aload_n 0, 1) := by decide +kernel
theorem dX12_init_110 : decode cX12_init 110 = .ok (.bipush 6, 2) := by decide +kernel
theorem dX12_init_112 : decode cX12_init 112 = .ok (.newarray .int, 2) := by decide +kernel
theorem dX12_init_114 : decode cX12_init 114 = .ok (.putfield 50, 3) := by decide +kernel
theorem dX12_init_117 : decode cX12_init 117 = .ok (.aload_n 0, 1) := by decide +kernel
theorem dX12_init_118 : decode cX12_init 118 = .ok (.bipush 60, 2) := by decide +kernel
theorem dX12_init_120 : decode cX12_init 120 = .ok (.newarray .int, 2) := by decide +kernel
theorem dX12_init_122 : decode cX12_init 122 = .ok (.putfield 53, 3) := by decide +kernel
theorem dX12_init_125 : decode cX12_init 125 = .ok (.aload_n 0, 1) := by decide +kernel
theorem dX12_init_126 : decode cX12_init 126 = .ok (.bipush 10, 2) := by decide +kernel
theorem dX12_init_128 : decode cX12_init 128 = .ok (.newarray .int, 2) := by decide +kernel
theorem dX12_init_130 : decode cX12_init 130 = .ok (.putfield 56, 3) := by decide +kernel
theorem dX12_init_133 : decode cX12_init 133 = .ok (.aload_n 0, 1) := by decide +kernel
theorem dX12_init_134 : decode cX12_init 134 = .ok (.bipush 10, 2) := by decide +kernel
theorem dX12_init_136 : decode cX12_init 136 = .ok (.newarray .int, 2) := by decide +kernel
theorem dX12_init_138 : decode cX12_init 138 = .ok (.putfield 59, 3) := by decide +kernel
theorem dX12_init_141 : decode cX12_init 141 = .ok (.aload_n 0, 1) := by decide +kernel
theorem dX12_init_142 : decode cX12_init 142 = .ok (.bipush 25, 2) := by decide +kernel
theorem dX12_init_144 : decode cX12_init 144 = .ok (.newarray .int, 2) := by decide +kernel
theorem dX12_init_146 : decode cX12_init 146 = .ok (.putfield 62, 3) := by decide +kernel
theorem dX12_init_149 : decode cX12_init 149 = .ok (.aload_n 0, 1) := by decide +kernel
theorem dX12_init_150 : decode cX12_init 150 = .ok (.bipush 25, 2) := by decide +kernel
theorem dX12_init_152 : decode cX12_init 152 = .ok (.newarray .int, 2) := by decide +kernel
theorem dX12_init_154 : decode cX12_init 154 = .ok (.putfield 65, 3) := by decide +kernel
theorem dX12_init_157 : decode cX12_init 157 = .ok (.aload_n 0, 1) := by decide +kernel
theorem dX12_init_158 : decode cX12_init 158 = .ok (.bipush 9, 2) := by decide +kernel
theorem dX12_init_160 : decode cX12_init 160 = .ok (.newarray .int, 2) := by decide +kernel
theorem dX12_init_162 : decode cX12_init 162 = .ok (.putfield 68, 3) := by decide +kernel
theorem dX12_init_165 : decode cX12_init 165 = .ok (.aload_n 0, 1) := by decide +kernel
theorem dX12_init_166 : decode cX12_init 166 = .ok (.bipush 10, 2) := by decide +kernel
theorem dX12_init_168 : decode cX12_init 168 = .ok (.newarray .int, 2) := by decide +kernel
theorem dX12_init_170 : decode cX12_init 170 = .ok (.putfield 71, 3) := by decide +kernel
theorem dX12_init_173 : decode cX12_init 173 = .ok (.aload_n 0, 1) := by decide +kernel
theorem dX12_init_174 : decode cX12_init 174 = .ok (.sipush 9720, 3) := by decide +kernel
theorem dX12_init_177 : decode cX12_init 177 = .ok (.newarray .long, 2) := by decide +kernel
theorem dX12_init_179 : decode cX12_init 179 = .ok (.putfield 74, 3) := by decide +kernel
theorem dX12_init_182 : decode cX12_init 182 = .ok (.aload_n 0, 1) := by decide +kernel
theorem dX12_init_183 : decode cX12_init 183 = .ok (.sipush 9720, 3) := by decide +kernel
theorem dX12_init_186 : decode cX12_init 186 = .ok (.newarray .long, 2) := by decide +kernel
