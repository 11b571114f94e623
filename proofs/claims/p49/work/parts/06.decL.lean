theorem dL_isSo_0 : decode cL_isSo 0 = .ok (.aload_n 0, 1) := by decide +kernel
theorem dL_isSo_1 : decode cL_isSo 1 = .ok (.invokevirtual 33, 3) := by decide +kernel
theorem dL_isSo_4 : decode cL_isSo 4 = .ok (.aload_n 1, 1) := by decide +kernel
theorem dL_isSo_5 : decode cL_isSo 5 = .ok (.getfield 36, 3) := by decide +kernel
theorem dL_isSo_8 : decode cL_isSo 8 = .ok (.if_icmp .ne 113, 3) := by decide +kernel
theorem dL_isSo_11 : decode cL_isSo 11 = .ok (.aload_n 0, 1) := by decide +kernel
theorem dL_isSo_12 : decode cL_isSo 12 = .ok (.invokevirtual 41, 3) := by decide +kernel
theorem dL_isSo_15 : decode cL_isSo 15 = .ok (.aload_n 1, 1) := by decide +kernel
theorem dL_isSo_16 : decode cL_isSo 16 = .ok (.getfield 44, 3) := by decide +kernel
theorem dL_isSo_19 : decode cL_isSo 19 = .ok (.if_icmp .ne 102, 3) := by decide +kernel
theorem dL_isSo_22 : decode cL_isSo 22 = .ok (.aload_n 0, 1) := by decide +kernel
theorem dL_isSo_23 : decode cL_isSo 23 = .ok (.invokevirtual 47, 3) := by decide +kernel
theorem dL_isSo_26 : decode cL_isSo 26 = .ok (.aload_n 1, 1) := by decide +kernel
theorem dL_isSo_27 : decode cL_isSo 27 = .ok (.getfield 50, 3) := by decide +kernel
theorem dL_isSo_30 : decode cL_isSo 30 = .ok (.if_icmp .ne 91, 3) := by decide +kernel
theorem dL_isSo_33 : decode cL_isSo 33 = .ok (.aload_n 0, 1) := by decide +kernel
theorem dL_isSo_34 : decode cL_isSo 34 = .ok (.invokevirtual 52, 3) := by decide +kernel
theorem dL_isSo_37 : decode cL_isSo 37 = .ok (.bipush 32, 2) := by decide +kernel
theorem dL_isSo_39 : decode cL_isSo 39 = .ok (.aload_n 1, 1) := by decide +kernel
theorem dL_isSo_40 : decode cL_isSo 40 = .ok (.getfield 55, 3) := by decide +kernel
theorem dL_isSo_43 : decode cL_isSo 43 = .ok (.imul, 1) := by decide +kernel
theorem dL_isSo_44 : decode cL_isSo 44 = .ok (.aload_n 1, 1) := by decide +kernel
theorem dL_isSo_45 : decode cL_isSo 45 = .ok (.getfield 58, 3) := by decide +kernel
theorem dL_isSo_48 : decode cL_isSo 48 = .ok (.iadd, 1) := by decide +kernel
theorem dL_isSo_49 : decode cL_isSo 49 = .ok (.if_icmp .ne 72, 3) := by decide +kernel
theorem dL_isSo_52 : decode cL_isSo 52 = .ok (.aload_n 0, 1) := by decide +kernel
theorem dL_isSo_53 : decode cL_isSo 53 = .ok (.invokevirtual 61, 3) := by decide +kernel
theorem dL_isSo_56 : decode cL_isSo 56 = .ok (.aload_n 1, 1) := by decide +kernel
theorem dL_isSo_57 : decode cL_isSo 57 = .ok (.getfield 64, 3) := by decide +kernel
theorem dL_isSo_60 : decode cL_isSo 60 = .ok (.if_icmp .ne 61, 3) := by decide +kernel
theorem dL_isSo_63 : decode cL_isSo 63 = .ok (.aload_n 0, 1) := by decide +kernel
theorem dL_isSo_64 : decode cL_isSo 64 = .ok (.invokevirtual 67, 3) := by decide +kernel
theorem dL_isSo_67 : decode cL_isSo 67 = .ok (.aload_n 1, 1) := by decide +kernel
theorem dL_isSo_68 : decode cL_isSo 68 = .ok (.getfield 70, 3) := by decide +kernel
theorem dL_isSo_71 : decode cL_isSo 71 = .ok (.if_icmp .ne 50, 3) := by decide +kernel
theorem dL_isSo_74 : decode cL_isSo 74 = .ok (.aload_n 0, 1) := by decide +kernel
theorem dL_isSo_75 : decode cL_isSo 75 = .ok (.invokevirtual 72, 3) := by decide +kernel
theorem dL_isSo_78 : decode cL_isSo 78 = .ok (.aload_n 1, 1) := by decide +kernel
theorem dL_isSo_79 : decode cL_isSo 79 = .ok (.getfield 75, 3) := by decide +kernel
theorem dL_isSo_82 : decode cL_isSo 82 = .ok (.if_icmp .ne 39, 3) := by decide +kernel
theorem dL_isSo_85 : decode cL_isSo 85 = .ok (.aload_n 0, 1) := by decide +kernel
theorem dL_isSo_86 : decode cL_isSo 86 = .ok (.invokevirtual 77, 3) := by decide +kernel
theorem dL_isSo_89 : decode cL_isSo 89 = .ok (.aload_n 1, 1) := by decide +kernel
theorem dL_isSo_90 : decode cL_isSo 90 = .ok (.getfield 81, 3) := by decide +kernel
theorem dL_isSo_93 : decode cL_isSo 93 = .ok (.if_icmp .ne 28, 3) := by decide +kernel
theorem dL_isSo_96 : decode cL_isSo 96 = .ok (.aload_n 0, 1) := by decide +kernel
theorem dL_isSo_97 : decode cL_isSo 97 = .ok (.invokevirtual 85, 3) := by decide +kernel
theorem dL_isSo_100 : decode cL_isSo 100 = .ok (.aload_n 1, 1) := by decide +kernel
theorem dL_isSo_101 : decode cL_isSo 101 = .ok (.getfield 88, 3) := by decide +kernel
theorem dL_isSo_104 : decode cL_isSo 104 = .ok (.invokevirtual 92, 3) := by decide +kernel
theorem dL_isSo_107 : decode cL_isSo 107 = .ok (.if_icmp .ne 14, 3) := by decide +kernel
theorem dL_isSo_110 : decode cL_isSo 110 = .ok (.aload_n 0, 1) := by decide +kernel
theorem dL_isSo_111 : decode cL_isSo 111 = .ok (.invokevirtual 97, 3) := by decide +kernel
theorem dL_isSo_114 : decode cL_isSo 114 = .ok (.aload_n 1, 1) := by decide +kernel
theorem dL_isSo_115 : decode cL_isSo 115 = .ok (.invokevirtual 100, 3) := by decide +kernel
theorem dL_isSo_118 : decode cL_isSo 118 = .ok (.if_icmp .eq 5, 3) := by decide +kernel
theorem dL_isSo_121 : decode cL_isSo 121 = .ok (.iconst 0, 1) := by decide +kernel
theorem dL_isSo_122 : decode cL_isSo 122 = .ok (.ireturn, 1) := by decide +kernel
theorem dL_isSo_123 : decode cL_isSo 123 = .ok (.iconst 0, 1) := by decide +kernel
theorem dL_isSo_124 : decode cL_isSo 124 = .ok (.istore_n 2, 1) := by decide +kernel
theorem dL_isSo_125 : decode cL_isSo 125 = .ok (.iload_n 2, 1) := by decide +kernel
theorem dL_isSo_126 : decode cL_isSo 126 = .ok (.bipush 8, 2) := by decide +kernel
theorem dL_isSo_128 : decode cL_isSo 128 = .ok (.if_icmp .ge 118, 3) := by decide +kernel
theorem dL_isSo_131 : decode cL_isSo 131 = .ok (.aload_n 0, 1) := by decide +kernel
theorem dL_isSo_132 : decode cL_isSo 132 = .ok (.iload_n 2, 1) := by decide +kernel
theorem dL_isSo_133 : decode cL_isSo 133 = .ok (.invokevirtual 101, 3) := by decide +kernel
theorem dL_isSo_136 : decode cL_isSo 136 = .ok (.aload_n 1, 1) := by decide +kernel
theorem dL_isSo_137 : decode cL_isSo 137 = .ok (.getfield 104, 3) := by decide +kernel
theorem dL_isSo_140 : decode cL_isSo 140 = .ok (.iload_n 2, 1) := by decide +kernel
theorem dL_isSo_141 : decode cL_isSo 141 = .ok (.iaload, 1) := by decide +kernel
theorem dL_isSo_142 : decode cL_isSo 142 = .ok (.if_icmp .ne 48, 3) := by decide +kernel
theorem dL_isSo_145 : decode cL_isSo 145 = .ok (.aload_n 0, 1) := by decide +kernel
theorem dL_isSo_146 : decode cL_isSo 146 = .ok (.iload_n 2, 1) := by decide +kernel
theorem dL_isSo_147 : decode cL_isSo 147 = .ok (.invokevirtual 108, 3) := by decide +kernel
theorem dL_isSo_150 : decode cL_isSo 150 = .ok (.aload_n 1, 1) := by decide +kernel
theorem dL_isSo_151 : decode cL_isSo 151 = .ok (.getfield 111, 3) := by decide +kernel
theorem dL_isSo_154 : decode cL_isSo 154 = .ok (.iload_n 2, 1) := by decide +kernel
theorem dL_isSo_155 : decode cL_isSo 155 = .ok (.iaload, 1) := by decide +kernel
theorem dL_isSo_156 : decode cL_isSo 156 = .ok (.if_icmp .ne 34, 3) := by decide +kernel
theorem dL_isSo_159 : decode cL_isSo 159 = .ok (.aload_n 0, 1) := by decide +kernel
theorem dL_isSo_160 : decode cL_isSo 160 = .ok (.iload_n 2, 1) := by decide +kernel
theorem dL_isSo_161 : decode cL_isSo 161 = .ok (.invokevirtual 113, 3) := by decide +kernel
theorem dL_isSo_164 : decode cL_isSo 164 = .ok (.aload_n 1, 1) := by decide +kernel
theorem dL_isSo_165 : decode cL_isSo 165 = .ok (.iload_n 2, 1) := by decide +kernel
theorem dL_isSo_166 : decode cL_isSo 166 = .ok (.invokevirtual 116, 3) := by decide +kernel
theorem dL_isSo_169 : decode cL_isSo 169 = .ok (.if_icmp .ne 21, 3) := by decide +kernel
theorem dL_isSo_172 : decode cL_isSo 172 = .ok (.aload_n 0, 1) := by decide +kernel
theorem dL_isSo_173 : decode cL_isSo 173 = .ok (.iload_n 2, 1) := by decide +kernel
theorem dL_isSo_174 : decode cL_isSo 174 = .ok (.invokevirtual 119, 3) := by decide +kernel
theorem dL_isSo_177 : decode cL_isSo 177 = .ok (.aload_n 1, 1) := by decide +kernel
theorem dL_isSo_178 : decode cL_isSo 178 = .ok (.aload_n 1, 1) := by decide +kernel
theorem dL_isSo_179 : decode cL_isSo 179 = .ok (.getfield 104, 3) := by decide +kernel
theorem dL_isSo_182 : decode cL_isSo 182 = .ok (.iload_n 2, 1) := by decide +kernel
theorem dL_isSo_183 : decode cL_isSo 183 = .ok (.iaload, 1) := by decide +kernel
theorem dL_isSo_184 : decode cL_isSo 184 = .ok (.invokevirtual 122, 3) := by decide +kernel
theorem dL_isSo_187 : decode cL_isSo 187 = .ok (.if_icmp .eq 5, 3) := by decide +kernel
theorem dL_isSo_190 : decode cL_isSo 190 = .ok (.iconst 0, 1) := by decide +kernel
theorem dL_isSo_191 : decode cL_isSo 191 = .ok (.ireturn, 1) := by decide +kernel
theorem dL_isSo_192 : decode cL_isSo 192 = .ok (.iconst 0, 1) := by decide +kernel
theorem dL_isSo_193 : decode cL_isSo 193 = .ok (.istore_n 3, 1) := by decide +kernel
theorem dL_isSo_194 : decode cL_isSo 194 = .ok (.iload_n 3, 1) := by decide +kernel
theorem dL_isSo_195 : decode cL_isSo 195 = .ok (.bipush 32, 2) := by decide +kernel
theorem dL_isSo_197 : decode cL_isSo 197 = .ok (.if_icmp .ge 43, 3) := by decide +kernel
theorem dL_isSo_200 : decode cL_isSo 200 = .ok (.aload_n 0, 1) := by decide +kernel
theorem dL_isSo_201 : decode cL_isSo 201 = .ok (.iload_n 2, 1) := by decide +kernel
theorem dL_isSo_202 : decode cL_isSo 202 = .ok (.iload_n 3, 1) := by decide +kernel
theorem dL_isSo_203 : decode cL_isSo 203 = .ok (.invokevirtual 123, 3) := by decide +kernel
theorem dL_isSo_206 : decode cL_isSo 206 = .ok (.aload_n 1, 1) := by decide +kernel
theorem dL_isSo_207 : decode cL_isSo 207 = .ok (.iload_n 2, 1) := by decide +kernel
theorem dL_isSo_208 : decode cL_isSo 208 = .ok (.iload_n 3, 1) := by decide +kernel
theorem dL_isSo_209 : decode cL_isSo 209 = .ok (.invokevirtual 127, 3) := by decide +kernel
theorem dL_isSo_212 : decode cL_isSo 212 = .ok (.if_icmp .ne 20, 3) := by decide +kernel
theorem dL_isSo_215 : decode cL_isSo 215 = .ok (.aload_n 0, 1) := by decide +kernel
theorem dL_isSo_216 : decode cL_isSo 216 = .ok (.iload_n 2, 1) := by decide +kernel
theorem dL_isSo_217 : decode cL_isSo 217 = .ok (.iload_n 3, 1) := by decide +kernel
theorem dL_isSo_218 : decode cL_isSo 218 = .ok (.invokevirtual 130, 3) := by decide +kernel
theorem dL_isSo_221 : decode cL_isSo 221 = .ok (.aload_n 1, 1) := by decide +kernel
theorem dL_isSo_222 : decode cL_isSo 222 = .ok (.getfield 133, 3) := by decide +kernel
theorem dL_isSo_225 : decode cL_isSo 225 = .ok (.iload_n 2, 1) := by decide +kernel
theorem dL_isSo_226 : decode cL_isSo 226 = .ok (.aaload, 1) := by decide +kernel
theorem dL_isSo_227 : decode cL_isSo 227 = .ok (.iload_n 3, 1) := by decide +kernel
theorem dL_isSo_228 : decode cL_isSo 228 = .ok (.iaload, 1) := by decide +kernel
theorem dL_isSo_229 : decode cL_isSo 229 = .ok (.if_icmp .eq 5, 3) := by decide +kernel
theorem dL_isSo_232 : decode cL_isSo 232 = .ok (.iconst 0, 1) := by decide +kernel
theorem dL_isSo_233 : decode cL_isSo 233 = .ok (.ireturn, 1) := by decide +kernel
theorem dL_isSo_234 : decode cL_isSo 234 = .ok (.iinc 3 1, 3) := by decide +kernel
theorem dL_isSo_237 : decode cL_isSo 237 = .ok (.goto (-43), 3) := by decide +kernel
theorem dL_isSo_240 : decode cL_isSo 240 = .ok (.iinc 2 1, 3) := by decide +kernel
theorem dL_isSo_243 : decode cL_isSo 243 = .ok (.goto (-118), 3) := by decide +kernel
theorem dL_isSo_246 : decode cL_isSo 246 = .ok (.iconst 1, 1) := by decide +kernel
theorem dL_isSo_247 : decode cL_isSo 247 = .ok (.ireturn, 1) := by decide +kernel
theorem dL_acts_0 : decode cL_acts 0 = .ok (.aload_n 2, 1) := by decide +kernel
theorem dL_acts_1 : decode cL_acts 1 = .ok (.bipush 8, 2) := by decide +kernel
theorem dL_acts_3 : decode cL_acts 3 = .ok (.invokevirtual 137, 3) := by decide +kernel
theorem dL_acts_6 : decode cL_acts 6 = .ok (.istore_n 3, 1) := by decide +kernel
theorem dL_acts_7 : decode cL_acts 7 = .ok (.aload_n 2, 1) := by decide +kernel
theorem dL_acts_8 : decode cL_acts 8 = .ok (.bipush 32, 2) := by decide +kernel
theorem dL_acts_10 : decode cL_acts 10 = .ok (.invokevirtual 137, 3) := by decide +kernel
theorem dL_acts_13 : decode cL_acts 13 = .ok (.istore 4, 2) := by decide +kernel
theorem dL_acts_15 : decode cL_acts 15 = .ok (.aload_n 2, 1) := by decide +kernel
theorem dL_acts_16 : decode cL_acts 16 = .ok (.ldc 142, 2) := by decide +kernel
theorem dL_acts_18 : decode cL_acts 18 = .ok (.invokevirtual 137, 3) := by decide +kernel
theorem dL_acts_21 : decode cL_acts 21 = .ok (.iconst 4, 1) := by decide +kernel
theorem dL_acts_22 : decode cL_acts 22 = .ok (.ishl, 1) := by decide +kernel
theorem dL_acts_23 : decode cL_acts 23 = .ok (.aload_n 2, 1) := by decide +kernel
theorem dL_acts_24 : decode cL_acts 24 = .ok (.bipush 16, 2) := by decide +kernel
theorem dL_acts_26 : decode cL_acts 26 = .ok (.invokevirtual 137, 3) := by decide +kernel
theorem dL_acts_29 : decode cL_acts 29 = .ok (.ior, 1) := by decide +kernel
theorem dL_acts_30 : decode cL_acts 30 = .ok (.ldc 143, 2) := by decide +kernel
theorem dL_acts_32 : decode cL_acts 32 = .ok (.isub, 1) := by decide +kernel
theorem dL_acts_33 : decode cL_acts 33 = .ok (.istore 5, 2) := by decide +kernel
theorem dL_acts_35 : decode cL_acts 35 = .ok (.aload_n 2, 1) := by decide +kernel
theorem dL_acts_36 : decode cL_acts 36 = .ok (.bipush 13, 2) := by decide +kernel
theorem dL_acts_38 : decode cL_acts 38 = .ok (.invokevirtual 137, 3) := by decide +kernel
theorem dL_acts_41 : decode cL_acts 41 = .ok (.tableswitch 657 0 10 #[59, 59, 97, 161, 218, 275, 317, 378, 422, 529, 598], 59) := by decide +kernel
theorem dL_acts_100 : decode cL_acts 100 = .ok (.aload_n 1, 1) := by decide +kernel
theorem dL_acts_101 : decode cL_acts 101 = .ok (.iload_n 3, 1) := by decide +kernel
theorem dL_acts_102 : decode cL_acts 102 = .ok (.iload 4, 2) := by decide +kernel
theorem dL_acts_104 : decode cL_acts 104 = .ok (.invokevirtual 127, 3) := by decide +kernel
theorem dL_acts_107 : decode cL_acts 107 = .ok (.istore 6, 2) := by decide +kernel
theorem dL_acts_109 : decode cL_acts 109 = .ok (.aload_n 1, 1) := by decide +kernel
theorem dL_acts_110 : decode cL_acts 110 = .ok (.iload_n 3, 1) := by decide +kernel
theorem dL_acts_111 : decode cL_acts 111 = .ok (.iload 4, 2) := by decide +kernel
theorem dL_acts_113 : decode cL_acts 113 = .ok (.iload 5, 2) := by decide +kernel
theorem dL_acts_115 : decode cL_acts 115 = .ok (.invokevirtual 144, 3) := by decide +kernel
theorem dL_acts_118 : decode cL_acts 118 = .ok (.aload_n 0, 1) := by decide +kernel
theorem dL_acts_119 : decode cL_acts 119 = .ok (.iload_n 3, 1) := by decide +kernel
theorem dL_acts_120 : decode cL_acts 120 = .ok (.iload 4, 2) := by decide +kernel
theorem dL_acts_122 : decode cL_acts 122 = .ok (.iload 5, 2) := by decide +kernel
theorem dL_acts_124 : decode cL_acts 124 = .ok (.invokevirtual 148, 3) := by decide +kernel
theorem dL_acts_127 : decode cL_acts 127 = .ok (.iload 6, 2) := by decide +kernel
theorem dL_acts_129 : decode cL_acts 129 = .ok (.if_icmp .ne 7, 3) := by decide +kernel
theorem dL_acts_132 : decode cL_acts 132 = .ok (.iconst 1, 1) := by decide +kernel
theorem dL_acts_133 : decode cL_acts 133 = .ok (.goto 4, 3) := by decide +kernel
theorem dL_acts_136 : decode cL_acts 136 = .ok (.iconst 0, 1) := by decide +kernel
theorem dL_acts_137 : decode cL_acts 137 = .ok (.ireturn, 1) := by decide +kernel
theorem dL_acts_138 : decode cL_acts 138 = .ok (.aload_n 1, 1) := by decide +kernel
theorem dL_acts_139 : decode cL_acts 139 = .ok (.getfield 104, 3) := by decide +kernel
theorem dL_acts_142 : decode cL_acts 142 = .ok (.iload_n 3, 1) := by decide +kernel
theorem dL_acts_143 : decode cL_acts 143 = .ok (.iaload, 1) := by decide +kernel
theorem dL_acts_144 : decode cL_acts 144 = .ok (.istore 6, 2) := by decide +kernel
theorem dL_acts_146 : decode cL_acts 146 = .ok (.aload_n 1, 1) := by decide +kernel
theorem dL_acts_147 : decode cL_acts 147 = .ok (.getfield 104, 3) := by decide +kernel
theorem dL_acts_150 : decode cL_acts 150 = .ok (.iload_n 3, 1) := by decide +kernel
theorem dL_acts_151 : decode cL_acts 151 = .ok (.aload_n 2, 1) := by decide +kernel
theorem dL_acts_152 : decode cL_acts 152 = .ok (.iconst 3, 1) := by decide +kernel
theorem dL_acts_153 : decode cL_acts 153 = .ok (.invokevirtual 137, 3) := by decide +kernel
theorem dL_acts_156 : decode cL_acts 156 = .ok (.ifCond .ne 13, 3) := by decide +kernel
theorem dL_acts_159 : decode cL_acts 159 = .ok (.aload_n 2, 1) := by decide +kernel
theorem dL_acts_160 : decode cL_acts 160 = .ok (.sipush 1001, 3) := by decide +kernel
theorem dL_acts_163 : decode cL_acts 163 = .ok (.invokevirtual 137, 3) := by decide +kernel
theorem dL_acts_166 : decode cL_acts 166 = .ok (.goto 13, 3) := by decide +kernel
theorem dL_acts_169 : decode cL_acts 169 = .ok (.sipush 390, 3) := by decide +kernel
theorem dL_acts_172 : decode cL_acts 172 = .ok (.aload_n 2, 1) := by decide +kernel
theorem dL_acts_173 : decode cL_acts 173 = .ok (.bipush 20, 2) := by decide +kernel
theorem dL_acts_175 : decode cL_acts 175 = .ok (.invokevirtual 137, 3) := by decide +kernel
theorem dL_acts_178 : decode cL_acts 178 = .ok (.iadd, 1) := by decide +kernel
theorem dL_acts_179 : decode cL_acts 179 = .ok (.iastore, 1) := by decide +kernel
theorem dL_acts_180 : decode cL_acts 180 = .ok (.aload_n 0, 1) := by decide +kernel
theorem dL_acts_181 : decode cL_acts 181 = .ok (.iload_n 3, 1) := by decide +kernel
theorem dL_acts_182 : decode cL_acts 182 = .ok (.aload_n 1, 1) := by decide +kernel
theorem dL_acts_183 : decode cL_acts 183 = .ok (.getfield 104, 3) := by decide +kernel
theorem dL_acts_186 : decode cL_acts 186 = .ok (.iload_n 3, 1) := by decide +kernel
theorem dL_acts_187 : decode cL_acts 187 = .ok (.iaload, 1) := by decide +kernel
theorem dL_acts_188 : decode cL_acts 188 = .ok (.invokevirtual 152, 3) := by decide +kernel
theorem dL_acts_191 : decode cL_acts 191 = .ok (.iload 6, 2) := by decide +kernel
theorem dL_acts_193 : decode cL_acts 193 = .ok (.if_icmp .ne 7, 3) := by decide +kernel
theorem dL_acts_196 : decode cL_acts 196 = .ok (.iconst 1, 1) := by decide +kernel
theorem dL_acts_197 : decode cL_acts 197 = .ok (.goto 4, 3) := by decide +kernel
theorem dL_acts_200 : decode cL_acts 200 = .ok (.iconst 0, 1) := by decide +kernel
theorem dL_acts_201 : decode cL_acts 201 = .ok (.ireturn, 1) := by decide +kernel
theorem dL_acts_202 : decode cL_acts 202 = .ok (.aload_n 1, 1) := by decide +kernel
theorem dL_acts_203 : decode cL_acts 203 = .ok (.getfield 155, 3) := by decide +kernel
theorem dL_acts_206 : decode cL_acts 206 = .ok (.istore 6, 2) := by decide +kernel
theorem dL_acts_208 : decode cL_acts 208 = .ok (.aload_n 1, 1) := by decide +kernel
theorem dL_acts_209 : decode cL_acts 209 = .ok (.aload_n 2, 1) := by decide +kernel
theorem dL_acts_210 : decode cL_acts 210 = .ok (.iconst 3, 1) := by decide +kernel
theorem dL_acts_211 : decode cL_acts 211 = .ok (.invokevirtual 137, 3) := by decide +kernel
theorem dL_acts_214 : decode cL_acts 214 = .ok (.ifCond .ne 13, 3) := by decide +kernel
theorem dL_acts_217 : decode cL_acts 217 = .ok (.aload_n 2, 1) := by decide +kernel
theorem dL_acts_218 : decode cL_acts 218 = .ok (.sipush 1001, 3) := by decide +kernel
theorem dL_acts_221 : decode cL_acts 221 = .ok (.invokevirtual 137, 3) := by decide +kernel
theorem dL_acts_224 : decode cL_acts 224 = .ok (.goto 13, 3) := by decide +kernel
theorem dL_acts_227 : decode cL_acts 227 = .ok (.sipush 390, 3) := by decide +kernel
theorem dL_acts_230 : decode cL_acts 230 = .ok (.aload_n 2, 1) := by decide +kernel
theorem dL_acts_231 : decode cL_acts 231 = .ok (.bipush 20, 2) := by decide +kernel
theorem dL_acts_233 : decode cL_acts 233 = .ok (.invokevirtual 137, 3) := by decide +kernel
theorem dL_acts_236 : decode cL_acts 236 = .ok (.iadd, 1) := by decide +kernel
theorem dL_acts_237 : decode cL_acts 237 = .ok (.putfield 155, 3) := by decide +kernel
theorem dL_acts_240 : decode cL_acts 240 = .ok (.aload_n 0, 1) := by decide +kernel
theorem dL_acts_241 : decode cL_acts 241 = .ok (.aload_n 1, 1) := by decide +kernel
theorem dL_acts_242 : decode cL_acts 242 = .ok (.getfield 155, 3) := by decide +kernel
theorem dL_acts_245 : decode cL_acts 245 = .ok (.invokevirtual 158, 3) := by decide +kernel
theorem dL_acts_248 : decode cL_acts 248 = .ok (.iload 6, 2) := by decide +kernel
theorem dL_acts_250 : decode cL_acts 250 = .ok (.if_icmp .ne 7, 3) := by decide +kernel
theorem dL_acts_253 : decode cL_acts 253 = .ok (.iconst 1, 1) := by decide +kernel
theorem dL_acts_254 : decode cL_acts 254 = .ok (.goto 4, 3) := by decide +kernel
theorem dL_acts_257 : decode cL_acts 257 = .ok (.iconst 0, 1) := by decide +kernel
theorem dL_acts_258 : decode cL_acts 258 = .ok (.ireturn, 1) := by decide +kernel
theorem dL_acts_259 : decode cL_acts 259 = .ok (.aload_n 1, 1) := by decide +kernel
theorem dL_acts_260 : decode cL_acts 260 = .ok (.getfield 161, 3) := by decide +kernel
theorem dL_acts_263 : decode cL_acts 263 = .ok (.istore 6, 2) := by decide +kernel
theorem dL_acts_265 : decode cL_acts 265 = .ok (.aload_n 1, 1) := by decide +kernel
theorem dL_acts_266 : decode cL_acts 266 = .ok (.aload_n 2, 1) := by decide +kernel
theorem dL_acts_267 : decode cL_acts 267 = .ok (.iconst 3, 1) := by decide +kernel
theorem dL_acts_268 : decode cL_acts 268 = .ok (.invokevirtual 137, 3) := by decide +kernel
theorem dL_acts_271 : decode cL_acts 271 = .ok (.ifCond .ne 13, 3) := by decide +kernel
theorem dL_acts_274 : decode cL_acts 274 = .ok (.aload_n 2, 1) := by decide +kernel
theorem dL_acts_275 : decode cL_acts 275 = .ok (.sipush 1001, 3) := by decide +kernel
theorem dL_acts_278 : decode cL_acts 278 = .ok (.invokevirtual 137, 3) := by decide +kernel
theorem dL_acts_281 : decode cL_acts 281 = .ok (.goto 13, 3) := by decide +kernel
theorem dL_acts_284 : decode cL_acts 284 = .ok (.sipush 390, 3) := by decide +kernel
theorem dL_acts_287 : decode cL_acts 287 = .ok (.aload_n 2, 1) := by decide +kernel
theorem dL_acts_288 : decode cL_acts 288 = .ok (.bipush 20, 2) := by decide +kernel
theorem dL_acts_290 : decode cL_acts 290 = .ok (.invokevirtual 137, 3) := by decide +kernel
theorem dL_acts_293 : decode cL_acts 293 = .ok (.iadd, 1) := by decide +kernel
theorem dL_acts_294 : decode cL_acts 294 = .ok (.putfield 161, 3) := by decide +kernel
theorem dL_acts_297 : decode cL_acts 297 = .ok (.aload_n 0, 1) := by decide +kernel
theorem dL_acts_298 : decode cL_acts 298 = .ok (.aload_n 1, 1) := by decide +kernel
theorem dL_acts_299 : decode cL_acts 299 = .ok (.getfield 161, 3) := by decide +kernel
theorem dL_acts_302 : decode cL_acts 302 = .ok (.invokevirtual 164, 3) := by decide +kernel
theorem dL_acts_305 : decode cL_acts 305 = .ok (.iload 6, 2) := by decide +kernel
theorem dL_acts_307 : decode cL_acts 307 = .ok (.if_icmp .ne 7, 3) := by decide +kernel
theorem dL_acts_310 : decode cL_acts 310 = .ok (.iconst 1, 1) := by decide +kernel
theorem dL_acts_311 : decode cL_acts 311 = .ok (.goto 4, 3) := by decide +kernel
theorem dL_acts_314 : decode cL_acts 314 = .ok (.iconst 0, 1) := by decide +kernel
theorem dL_acts_315 : decode cL_acts 315 = .ok (.ireturn, 1) := by decide +kernel
theorem dL_acts_316 : decode cL_acts 316 = .ok (.aload_n 1, 1) := by decide +kernel
theorem dL_acts_317 : decode cL_acts 317 = .ok (.getfield 167, 3) := by decide +kernel
theorem dL_acts_320 : decode cL_acts 320 = .ok (.istore 6, 2) := by decide +kernel
theorem dL_acts_322 : decode cL_acts 322 = .ok (.aload_n 1, 1) := by decide +kernel
theorem dL_acts_323 : decode cL_acts 323 = .ok (.aload_n 2, 1) := by decide +kernel
theorem dL_acts_324 : decode cL_acts 324 = .ok (.iconst 2, 1) := by decide +kernel
theorem dL_acts_325 : decode cL_acts 325 = .ok (.invokevirtual 137, 3) := by decide +kernel
theorem dL_acts_328 : decode cL_acts 328 = .ok (.ifCond .ne 7, 3) := by decide +kernel
theorem dL_acts_331 : decode cL_acts 331 = .ok (.iconst 1, 1) := by decide +kernel
theorem dL_acts_332 : decode cL_acts 332 = .ok (.goto 4, 3) := by decide +kernel
theorem dL_acts_335 : decode cL_acts 335 = .ok (.iconst 0, 1) := by decide +kernel
theorem dL_acts_336 : decode cL_acts 336 = .ok (.putfield 167, 3) := by decide +kernel
theorem dL_acts_339 : decode cL_acts 339 = .ok (.aload_n 0, 1) := by decide +kernel
theorem dL_acts_340 : decode cL_acts 340 = .ok (.aload_n 1, 1) := by decide +kernel
theorem dL_acts_341 : decode cL_acts 341 = .ok (.getfield 167, 3) := by decide +kernel
theorem dL_acts_344 : decode cL_acts 344 = .ok (.invokevirtual 170, 3) := by decide +kernel
theorem dL_acts_347 : decode cL_acts 347 = .ok (.iload 6, 2) := by decide +kernel
theorem dL_acts_349 : decode cL_acts 349 = .ok (.if_icmp .ne 7, 3) := by decide +kernel
theorem dL_acts_352 : decode cL_acts 352 = .ok (.iconst 1, 1) := by decide +kernel
theorem dL_acts_353 : decode cL_acts 353 = .ok (.goto 4, 3) := by decide +kernel
theorem dL_acts_356 : decode cL_acts 356 = .ok (.iconst 0, 1) := by decide +kernel
theorem dL_acts_357 : decode cL_acts 357 = .ok (.ireturn, 1) := by decide +kernel
theorem dL_acts_358 : decode cL_acts 358 = .ok (.aload_n 1, 1) := by decide +kernel
theorem dL_acts_359 : decode cL_acts 359 = .ok (.getfield 174, 3) := by decide +kernel
theorem dL_acts_362 : decode cL_acts 362 = .ok (.istore 6, 2) := by decide +kernel
theorem dL_acts_364 : decode cL_acts 364 = .ok (.aload_n 1, 1) := by decide +kernel
theorem dL_acts_365 : decode cL_acts 365 = .ok (.aload_n 2, 1) := by decide +kernel
theorem dL_acts_366 : decode cL_acts 366 = .ok (.iconst 3, 1) := by decide +kernel
theorem dL_acts_367 : decode cL_acts 367 = .ok (.invokevirtual 137, 3) := by decide +kernel
theorem dL_acts_370 : decode cL_acts 370 = .ok (.ifCond .ne 17, 3) := by decide +kernel
theorem dL_acts_373 : decode cL_acts 373 = .ok (.ldc 177, 2) := by decide +kernel
theorem dL_acts_375 : decode cL_acts 375 = .ok (.iconst 3, 1) := by decide +kernel
theorem dL_acts_376 : decode cL_acts 376 = .ok (.aload_n 2, 1) := by decide +kernel
theorem dL_acts_377 : decode cL_acts 377 = .ok (.ldc 142, 2) := by decide +kernel
theorem dL_acts_379 : decode cL_acts 379 = .ok (.invokevirtual 137, 3) := by decide +kernel
theorem dL_acts_382 : decode cL_acts 382 = .ok (.imul, 1) := by decide +kernel
theorem dL_acts_383 : decode cL_acts 383 = .ok (.iadd, 1) := by decide +kernel
theorem dL_acts_384 : decode cL_acts 384 = .ok (.goto 13, 3) := by decide +kernel
theorem dL_acts_387 : decode cL_acts 387 = .ok (.ldc 178, 2) := by decide +kernel
theorem dL_acts_389 : decode cL_acts 389 = .ok (.aload_n 2, 1) := by decide +kernel
theorem dL_acts_390 : decode cL_acts 390 = .ok (.sipush 200, 3) := by decide +kernel
theorem dL_acts_393 : decode cL_acts 393 = .ok (.invokevirtual 137, 3) := by decide +kernel
theorem dL_acts_396 : decode cL_acts 396 = .ok (.iadd, 1) := by decide +kernel
theorem dL_acts_397 : decode cL_acts 397 = .ok (.putfield 174, 3) := by decide +kernel
theorem dL_acts_400 : decode cL_acts 400 = .ok (.aload_n 0, 1) := by decide +kernel
theorem dL_acts_401 : decode cL_acts 401 = .ok (.aload_n 1, 1) := by decide +kernel
theorem dL_acts_402 : decode cL_acts 402 = .ok (.getfield 174, 3) := by decide +kernel
theorem dL_acts_405 : decode cL_acts 405 = .ok (.invokevirtual 179, 3) := by decide +kernel
theorem dL_acts_408 : decode cL_acts 408 = .ok (.iload 6, 2) := by decide +kernel
theorem dL_acts_410 : decode cL_acts 410 = .ok (.if_icmp .ne 7, 3) := by decide +kernel
theorem dL_acts_413 : decode cL_acts 413 = .ok (.iconst 1, 1) := by decide +kernel
theorem dL_acts_414 : decode cL_acts 414 = .ok (.goto 4, 3) := by decide +kernel
theorem dL_acts_417 : decode cL_acts 417 = .ok (.iconst 0, 1) := by decide +kernel
theorem dL_acts_418 : decode cL_acts 418 = .ok (.ireturn, 1) := by decide +kernel
theorem dL_acts_419 : decode cL_acts 419 = .ok (.aload_n 2, 1) := by decide +kernel
theorem dL_acts_420 : decode cL_acts 420 = .ok (.iconst 4, 1) := by decide +kernel
theorem dL_acts_421 : decode cL_acts 421 = .ok (.invokevirtual 137, 3) := by decide +kernel
theorem dL_acts_424 : decode cL_acts 424 = .ok (.ifCond .le 5, 3) := by decide +kernel
theorem dL_acts_427 : decode cL_acts 427 = .ok (.iconst 1, 1) := by decide +kernel
theorem dL_acts_428 : decode cL_acts 428 = .ok (.ireturn, 1) := by decide +kernel
theorem dL_acts_429 : decode cL_acts 429 = .ok (.aload_n 1, 1) := by decide +kernel
theorem dL_acts_430 : decode cL_acts 430 = .ok (.iload_n 3, 1) := by decide +kernel
theorem dL_acts_431 : decode cL_acts 431 = .ok (.invokevirtual 116, 3) := by decide +kernel
theorem dL_acts_434 : decode cL_acts 434 = .ok (.istore 6, 2) := by decide +kernel
theorem dL_acts_436 : decode cL_acts 436 = .ok (.aload_n 1, 1) := by decide +kernel
theorem dL_acts_437 : decode cL_acts 437 = .ok (.getfield 182, 3) := by decide +kernel
theorem dL_acts_440 : decode cL_acts 440 = .ok (.iload_n 3, 1) := by decide +kernel
theorem dL_acts_441 : decode cL_acts 441 = .ok (.sipush 640, 3) := by decide +kernel
theorem dL_acts_444 : decode cL_acts 444 = .ok (.newarray .boolean, 2) := by decide +kernel
theorem dL_acts_446 : decode cL_acts 446 = .ok (.aastore, 1) := by decide +kernel
theorem dL_acts_447 : decode cL_acts 447 = .ok (.aload_n 0, 1) := by decide +kernel
theorem dL_acts_448 : decode cL_acts 448 = .ok (.iload_n 3, 1) := by decide +kernel
theorem dL_acts_449 : decode cL_acts 449 = .ok (.invokevirtual 186, 3) := by decide +kernel
theorem dL_acts_452 : decode cL_acts 452 = .ok (.iload 6, 2) := by decide +kernel
theorem dL_acts_454 : decode cL_acts 454 = .ok (.if_icmp .ne 7, 3) := by decide +kernel
theorem dL_acts_457 : decode cL_acts 457 = .ok (.iconst 1, 1) := by decide +kernel
theorem dL_acts_458 : decode cL_acts 458 = .ok (.goto 4, 3) := by decide +kernel
theorem dL_acts_461 : decode cL_acts 461 = .ok (.iconst 0, 1) := by decide +kernel
theorem dL_acts_462 : decode cL_acts 462 = .ok (.ireturn, 1) := by decide +kernel
theorem dL_acts_463 : decode cL_acts 463 = .ok (.aload_n 2, 1) := by decide +kernel
theorem dL_acts_464 : decode cL_acts 464 = .ok (.bipush 8, 2) := by decide +kernel
theorem dL_acts_466 : decode cL_acts 466 = .ok (.invokevirtual 137, 3) := by decide +kernel
theorem dL_acts_469 : decode cL_acts 469 = .ok (.istore 6, 2) := by decide +kernel
theorem dL_acts_471 : decode cL_acts 471 = .ok (.aload_n 1, 1) := by decide +kernel
theorem dL_acts_472 : decode cL_acts 472 = .ok (.getfield 182, 3) := by decide +kernel
theorem dL_acts_475 : decode cL_acts 475 = .ok (.iload_n 3, 1) := by decide +kernel
theorem dL_acts_476 : decode cL_acts 476 = .ok (.aaload, 1) := by decide +kernel
theorem dL_acts_477 : decode cL_acts 477 = .ok (.astore 7, 2) := by decide +kernel
theorem dL_acts_479 : decode cL_acts 479 = .ok (.aload_n 1, 1) := by decide +kernel
theorem dL_acts_480 : decode cL_acts 480 = .ok (.getfield 182, 3) := by decide +kernel
theorem dL_acts_483 : decode cL_acts 483 = .ok (.iload_n 3, 1) := by decide +kernel
theorem dL_acts_484 : decode cL_acts 484 = .ok (.aload_n 1, 1) := by decide +kernel
theorem dL_acts_485 : decode cL_acts 485 = .ok (.getfield 182, 3) := by decide +kernel
theorem dL_acts_488 : decode cL_acts 488 = .ok (.iload 6, 2) := by decide +kernel
theorem dL_acts_490 : decode cL_acts 490 = .ok (.aaload, 1) := by decide +kernel
theorem dL_acts_491 : decode cL_acts 491 = .ok (.aastore, 1) := by decide +kernel
theorem dL_acts_492 : decode cL_acts 492 = .ok (.aload_n 1, 1) := by decide +kernel
theorem dL_acts_493 : decode cL_acts 493 = .ok (.getfield 182, 3) := by decide +kernel
theorem dL_acts_496 : decode cL_acts 496 = .ok (.iload 6, 2) := by decide +kernel
theorem dL_acts_498 : decode cL_acts 498 = .ok (.aload 7, 2) := by decide +kernel
theorem dL_acts_500 : decode cL_acts 500 = .ok (.aastore, 1) := by decide +kernel
theorem dL_acts_501 : decode cL_acts 501 = .ok (.aload_n 1, 1) := by decide +kernel
theorem dL_acts_502 : decode cL_acts 502 = .ok (.getfield 104, 3) := by decide +kernel
theorem dL_acts_505 : decode cL_acts 505 = .ok (.iload_n 3, 1) := by decide +kernel
theorem dL_acts_506 : decode cL_acts 506 = .ok (.iaload, 1) := by decide +kernel
theorem dL_acts_507 : decode cL_acts 507 = .ok (.istore 8, 2) := by decide +kernel
theorem dL_acts_509 : decode cL_acts 509 = .ok (.aload_n 1, 1) := by decide +kernel
theorem dL_acts_510 : decode cL_acts 510 = .ok (.getfield 104, 3) := by decide +kernel
theorem dL_acts_513 : decode cL_acts 513 = .ok (.iload_n 3, 1) := by decide +kernel
theorem dL_acts_514 : decode cL_acts 514 = .ok (.aload_n 1, 1) := by decide +kernel
theorem dL_acts_515 : decode cL_acts 515 = .ok (.getfield 104, 3) := by decide +kernel
theorem dL_acts_518 : decode cL_acts 518 = .ok (.iload 6, 2) := by decide +kernel
theorem dL_acts_520 : decode cL_acts 520 = .ok (.iaload, 1) := by decide +kernel
theorem dL_acts_521 : decode cL_acts 521 = .ok (.iastore, 1) := by decide +kernel
theorem dL_acts_522 : decode cL_acts 522 = .ok (.aload_n 1, 1) := by decide +kernel
theorem dL_acts_523 : decode cL_acts 523 = .ok (.getfield 104, 3) := by decide +kernel
theorem dL_acts_526 : decode cL_acts 526 = .ok (.iload 6, 2) := by decide +kernel
theorem dL_acts_528 : decode cL_acts 528 = .ok (.iload 8, 2) := by decide +kernel
theorem dL_acts_530 : decode cL_acts 530 = .ok (.iastore, 1) := by decide +kernel
theorem dL_acts_531 : decode cL_acts 531 = .ok (.aload_n 1, 1) := by decide +kernel
theorem dL_acts_532 : decode cL_acts 532 = .ok (.getfield 111, 3) := by decide +kernel
theorem dL_acts_535 : decode cL_acts 535 = .ok (.iload_n 3, 1) := by decide +kernel
theorem dL_acts_536 : decode cL_acts 536 = .ok (.iaload, 1) := by decide +kernel
theorem dL_acts_537 : decode cL_acts 537 = .ok (.istore 9, 2) := by decide +kernel
theorem dL_acts_539 : decode cL_acts 539 = .ok (.aload_n 1, 1) := by decide +kernel
theorem dL_acts_540 : decode cL_acts 540 = .ok (.getfield 111, 3) := by decide +kernel
theorem dL_acts_543 : decode cL_acts 543 = .ok (.iload_n 3, 1) := by decide +kernel
theorem dL_acts_544 : decode cL_acts 544 = .ok (.aload_n 1, 1) := by decide +kernel
theorem dL_acts_545 : decode cL_acts 545 = .ok (.getfield 111, 3) := by decide +kernel
theorem dL_acts_548 : decode cL_acts 548 = .ok (.iload 6, 2) := by decide +kernel
theorem dL_acts_550 : decode cL_acts 550 = .ok (.iaload, 1) := by decide +kernel
theorem dL_acts_551 : decode cL_acts 551 = .ok (.iastore, 1) := by decide +kernel
theorem dL_acts_552 : decode cL_acts 552 = .ok (.aload_n 1, 1) := by decide +kernel
theorem dL_acts_553 : decode cL_acts 553 = .ok (.getfield 111, 3) := by decide +kernel
theorem dL_acts_556 : decode cL_acts 556 = .ok (.iload 6, 2) := by decide +kernel
theorem dL_acts_558 : decode cL_acts 558 = .ok (.iload 9, 2) := by decide +kernel
theorem dL_acts_560 : decode cL_acts 560 = .ok (.iastore, 1) := by decide +kernel
theorem dL_acts_561 : decode cL_acts 561 = .ok (.aload_n 0, 1) := by decide +kernel
theorem dL_acts_562 : decode cL_acts 562 = .ok (.iload_n 3, 1) := by decide +kernel
theorem dL_acts_563 : decode cL_acts 563 = .ok (.iload 6, 2) := by decide +kernel
theorem dL_acts_565 : decode cL_acts 565 = .ok (.invokevirtual 189, 3) := by decide +kernel
theorem dL_acts_568 : decode cL_acts 568 = .ok (.iconst 1, 1) := by decide +kernel
theorem dL_acts_569 : decode cL_acts 569 = .ok (.ireturn, 1) := by decide +kernel
theorem dL_acts_570 : decode cL_acts 570 = .ok (.aload_n 1, 1) := by decide +kernel
theorem dL_acts_571 : decode cL_acts 571 = .ok (.getfield 193, 3) := by decide +kernel
theorem dL_acts_574 : decode cL_acts 574 = .ok (.invokevirtual 92, 3) := by decide +kernel
theorem dL_acts_577 : decode cL_acts 577 = .ok (.bipush 64, 2) := by decide +kernel
theorem dL_acts_579 : decode cL_acts 579 = .ok (.if_icmp .ne 5, 3) := by decide +kernel
theorem dL_acts_582 : decode cL_acts 582 = .ok (.iconst 1, 1) := by decide +kernel
theorem dL_acts_583 : decode cL_acts 583 = .ok (.ireturn, 1) := by decide +kernel
theorem dL_acts_584 : decode cL_acts 584 = .ok (.aload_n 1, 1) := by decide +kernel
theorem dL_acts_585 : decode cL_acts 585 = .ok (.getfield 193, 3) := by decide +kernel
theorem dL_acts_588 : decode cL_acts 588 = .ok (.iload 5, 2) := by decide +kernel
theorem dL_acts_590 : decode cL_acts 590 = .ok (.invokestatic 196, 3) := by decide +kernel
theorem dL_acts_593 : decode cL_acts 593 = .ok (.invokevirtual 202, 3) := by decide +kernel
theorem dL_acts_596 : decode cL_acts 596 = .ok (.pop, 1) := by decide +kernel
theorem dL_acts_597 : decode cL_acts 597 = .ok (.aload_n 1, 1) := by decide +kernel
theorem dL_acts_598 : decode cL_acts 598 = .ok (.aload_n 1, 1) := by decide +kernel
theorem dL_acts_599 : decode cL_acts 599 = .ok (.getfield 50, 3) := by decide +kernel
theorem dL_acts_602 : decode cL_acts 602 = .ok (.iconst 2, 1) := by decide +kernel
theorem dL_acts_603 : decode cL_acts 603 = .ok (.if_icmp .ne 7, 3) := by decide +kernel
theorem dL_acts_606 : decode cL_acts 606 = .ok (.iconst 0, 1) := by decide +kernel
theorem dL_acts_607 : decode cL_acts 607 = .ok (.goto 7, 3) := by decide +kernel
theorem dL_acts_610 : decode cL_acts 610 = .ok (.aload_n 1, 1) := by decide +kernel
theorem dL_acts_611 : decode cL_acts 611 = .ok (.getfield 50, 3) := by decide +kernel
theorem dL_acts_614 : decode cL_acts 614 = .ok (.putfield 50, 3) := by decide +kernel
theorem dL_acts_617 : decode cL_acts 617 = .ok (.aload_n 0, 1) := by decide +kernel
theorem dL_acts_618 : decode cL_acts 618 = .ok (.iload 5, 2) := by decide +kernel
theorem dL_acts_620 : decode cL_acts 620 = .ok (.invokevirtual 206, 3) := by decide +kernel
theorem dL_acts_623 : decode cL_acts 623 = .ok (.aload_n 1, 1) := by decide +kernel
theorem dL_acts_624 : decode cL_acts 624 = .ok (.getfield 193, 3) := by decide +kernel
theorem dL_acts_627 : decode cL_acts 627 = .ok (.invokevirtual 92, 3) := by decide +kernel
theorem dL_acts_630 : decode cL_acts 630 = .ok (.if_icmp .ne 7, 3) := by decide +kernel
theorem dL_acts_633 : decode cL_acts 633 = .ok (.iconst 1, 1) := by decide +kernel
theorem dL_acts_634 : decode cL_acts 634 = .ok (.goto 4, 3) := by decide +kernel
theorem dL_acts_637 : decode cL_acts 637 = .ok (.iconst 0, 1) := by decide +kernel
theorem dL_acts_638 : decode cL_acts 638 = .ok (.ireturn, 1) := by decide +kernel
theorem dL_acts_639 : decode cL_acts 639 = .ok (.aload_n 1, 1) := by decide +kernel
theorem dL_acts_640 : decode cL_acts 640 = .ok (.getfield 88, 3) := by decide +kernel
theorem dL_acts_643 : decode cL_acts 643 = .ok (.invokevirtual 209, 3) := by decide +kernel
theorem dL_acts_646 : decode cL_acts 646 = .ok (.ifCond .eq 5, 3) := by decide +kernel
theorem dL_acts_649 : decode cL_acts 649 = .ok (.iconst 1, 1) := by decide +kernel
theorem dL_acts_650 : decode cL_acts 650 = .ok (.ireturn, 1) := by decide +kernel
theorem dL_acts_651 : decode cL_acts 651 = .ok (.aload_n 1, 1) := by decide +kernel
theorem dL_acts_652 : decode cL_acts 652 = .ok (.aload_n 1, 1) := by decide +kernel
theorem dL_acts_653 : decode cL_acts 653 = .ok (.getfield 50, 3) := by decide +kernel
theorem dL_acts_656 : decode cL_acts 656 = .ok (.iconst 3, 1) := by decide +kernel
theorem dL_acts_657 : decode cL_acts 657 = .ok (.if_icmp .ne 7, 3) := by decide +kernel
theorem dL_acts_660 : decode cL_acts 660 = .ok (.iconst 0, 1) := by decide +kernel
theorem dL_acts_661 : decode cL_acts 661 = .ok (.goto 7, 3) := by decide +kernel
theorem dL_acts_664 : decode cL_acts 664 = .ok (.aload_n 1, 1) := by decide +kernel
theorem dL_acts_665 : decode cL_acts 665 = .ok (.getfield 50, 3) := by decide +kernel
theorem dL_acts_668 : decode cL_acts 668 = .ok (.putfield 50, 3) := by decide +kernel
theorem dL_acts_671 : decode cL_acts 671 = .ok (.aload_n 0, 1) := by decide +kernel
theorem dL_acts_672 : decode cL_acts 672 = .ok (.invokevirtual 212, 3) := by decide +kernel
theorem dL_acts_675 : decode cL_acts 675 = .ok (.aload_n 1, 1) := by decide +kernel
theorem dL_acts_676 : decode cL_acts 676 = .ok (.getfield 88, 3) := by decide +kernel
theorem dL_acts_679 : decode cL_acts 679 = .ok (.iconst 0, 1) := by decide +kernel
theorem dL_acts_680 : decode cL_acts 680 = .ok (.invokevirtual 215, 3) := by decide +kernel
theorem dL_acts_683 : decode cL_acts 683 = .ok (.checkcast 197, 3) := by decide +kernel
theorem dL_acts_686 : decode cL_acts 686 = .ok (.invokevirtual 219, 3) := by decide +kernel
theorem dL_acts_689 : decode cL_acts 689 = .ok (.if_icmp .ne 7, 3) := by decide +kernel
theorem dL_acts_692 : decode cL_acts 692 = .ok (.iconst 1, 1) := by decide +kernel
theorem dL_acts_693 : decode cL_acts 693 = .ok (.goto 4, 3) := by decide +kernel
theorem dL_acts_696 : decode cL_acts 696 = .ok (.iconst 0, 1) := by decide +kernel
theorem dL_acts_697 : decode cL_acts 697 = .ok (.ireturn, 1) := by decide +kernel
theorem dL_acts_698 : decode cL_acts 698 = .ok (.aload_n 1, 1) := by decide +kernel
theorem dL_acts_699 : decode cL_acts 699 = .ok (.getfield 50, 3) := by decide +kernel
theorem dL_acts_702 : decode cL_acts 702 = .ok (.ifCond .ne 5, 3) := by decide +kernel
theorem dL_acts_705 : decode cL_acts 705 = .ok (.iconst 1, 1) := by decide +kernel
theorem dL_acts_706 : decode cL_acts 706 = .ok (.ireturn, 1) := by decide +kernel
theorem dL_acts_707 : decode cL_acts 707 = .ok (.aload_n 1, 1) := by decide +kernel
theorem dL_acts_708 : decode cL_acts 708 = .ok (.iconst 0, 1) := by decide +kernel
theorem dL_acts_709 : decode cL_acts 709 = .ok (.putfield 50, 3) := by decide +kernel
theorem dL_acts_712 : decode cL_acts 712 = .ok (.aload_n 1, 1) := by decide +kernel
theorem dL_acts_713 : decode cL_acts 713 = .ok (.iload_n 3, 1) := by decide +kernel
theorem dL_acts_714 : decode cL_acts 714 = .ok (.putfield 55, 3) := by decide +kernel
theorem dL_acts_717 : decode cL_acts 717 = .ok (.aload_n 1, 1) := by decide +kernel
theorem dL_acts_718 : decode cL_acts 718 = .ok (.iload 4, 2) := by decide +kernel
theorem dL_acts_720 : decode cL_acts 720 = .ok (.putfield 58, 3) := by decide +kernel
theorem dL_acts_723 : decode cL_acts 723 = .ok (.aload_n 0, 1) := by decide +kernel
theorem dL_acts_724 : decode cL_acts 724 = .ok (.iload_n 3, 1) := by decide +kernel
theorem dL_acts_725 : decode cL_acts 725 = .ok (.iload 4, 2) := by decide +kernel
theorem dL_acts_727 : decode cL_acts 727 = .ok (.invokevirtual 222, 3) := by decide +kernel
theorem dL_acts_730 : decode cL_acts 730 = .ok (.iconst 1, 1) := by decide +kernel
theorem dL_acts_731 : decode cL_acts 731 = .ok (.ireturn, 1) := by decide +kernel
theorem dL_fills_0 : decode cL_fills 0 = .ok (.iconst 0, 1) := by decide +kernel
theorem dL_fills_1 : decode cL_fills 1 = .ok (.istore_n 3, 1) := by decide +kernel
theorem dL_fills_2 : decode cL_fills 2 = .ok (.iload_n 3, 1) := by decide +kernel
theorem dL_fills_3 : decode cL_fills 3 = .ok (.bipush 64, 2) := by decide +kernel
theorem dL_fills_5 : decode cL_fills 5 = .ok (.if_icmp .ge 142, 3) := by decide +kernel
theorem dL_fills_8 : decode cL_fills 8 = .ok (.aload_n 2, 1) := by decide +kernel
theorem dL_fills_9 : decode cL_fills 9 = .ok (.bipush 16, 2) := by decide +kernel
theorem dL_fills_11 : decode cL_fills 11 = .ok (.invokevirtual 137, 3) := by decide +kernel
theorem dL_fills_14 : decode cL_fills 14 = .ok (.aload_n 2, 1) := by decide +kernel
theorem dL_fills_15 : decode cL_fills 15 = .ok (.iconst 2, 1) := by decide +kernel
theorem dL_fills_16 : decode cL_fills 16 = .ok (.invokevirtual 137, 3) := by decide +kernel
theorem dL_fills_19 : decode cL_fills 19 = .ok (.iconst 4, 1) := by decide +kernel
theorem dL_fills_20 : decode cL_fills 20 = .ok (.ishl, 1) := by decide +kernel
theorem dL_fills_21 : decode cL_fills 21 = .ok (.ior, 1) := by decide +kernel
theorem dL_fills_22 : decode cL_fills 22 = .ok (.aload_n 2, 1) := by decide +kernel
theorem dL_fills_23 : decode cL_fills 23 = .ok (.bipush 32, 2) := by decide +kernel
theorem dL_fills_25 : decode cL_fills 25 = .ok (.invokevirtual 137, 3) := by decide +kernel
theorem dL_fills_28 : decode cL_fills 28 = .ok (.bipush 7, 2) := by decide +kernel
theorem dL_fills_30 : decode cL_fills 30 = .ok (.ishl, 1) := by decide +kernel
theorem dL_fills_31 : decode cL_fills 31 = .ok (.ior, 1) := by decide +kernel
theorem dL_fills_32 : decode cL_fills 32 = .ok (.aload_n 2, 1) := by decide +kernel
theorem dL_fills_33 : decode cL_fills 33 = .ok (.iconst 2, 1) := by decide +kernel
theorem dL_fills_34 : decode cL_fills 34 = .ok (.invokevirtual 137, 3) := by decide +kernel
theorem dL_fills_37 : decode cL_fills 37 = .ok (.bipush 12, 2) := by decide +kernel
theorem dL_fills_39 : decode cL_fills 39 = .ok (.ishl, 1) := by decide +kernel
theorem dL_fills_40 : decode cL_fills 40 = .ok (.ior, 1) := by decide +kernel
theorem dL_fills_41 : decode cL_fills 41 = .ok (.aload_n 2, 1) := by decide +kernel
theorem dL_fills_42 : decode cL_fills 42 = .ok (.bipush 32, 2) := by decide +kernel
theorem dL_fills_44 : decode cL_fills 44 = .ok (.invokevirtual 137, 3) := by decide +kernel
theorem dL_fills_47 : decode cL_fills 47 = .ok (.bipush 15, 2) := by decide +kernel
theorem dL_fills_49 : decode cL_fills 49 = .ok (.ishl, 1) := by decide +kernel
theorem dL_fills_50 : decode cL_fills 50 = .ok (.ior, 1) := by decide +kernel
theorem dL_fills_51 : decode cL_fills 51 = .ok (.istore 4, 2) := by decide +kernel
theorem dL_fills_53 : decode cL_fills 53 = .ok (.aload_n 2, 1) := by decide +kernel
theorem dL_fills_54 : decode cL_fills 54 = .ok (.iconst 5, 1) := by decide +kernel
theorem dL_fills_55 : decode cL_fills 55 = .ok (.invokevirtual 137, 3) := by decide +kernel
theorem dL_fills_58 : decode cL_fills 58 = .ok (.ifCond .ne 12, 3) := by decide +kernel
theorem dL_fills_61 : decode cL_fills 61 = .ok (.aload_n 2, 1) := by decide +kernel
theorem dL_fills_62 : decode cL_fills 62 = .ok (.ldc 142, 2) := by decide +kernel
theorem dL_fills_64 : decode cL_fills 64 = .ok (.invokevirtual 137, 3) := by decide +kernel
theorem dL_fills_67 : decode cL_fills 67 = .ok (.goto 5, 3) := by decide +kernel
theorem dL_fills_70 : decode cL_fills 70 = .ok (.iload 4, 2) := by decide +kernel
theorem dL_fills_72 : decode cL_fills 72 = .ok (.istore 4, 2) := by decide +kernel
theorem dL_fills_74 : decode cL_fills 74 = .ok (.iload 4, 2) := by decide +kernel
theorem dL_fills_76 : decode cL_fills 76 = .ok (.bipush 15, 2) := by decide +kernel
theorem dL_fills_78 : decode cL_fills 78 = .ok (.iand, 1) := by decide +kernel
theorem dL_fills_79 : decode cL_fills 79 = .ok (.ifCond .ne 18, 3) := by decide +kernel
theorem dL_fills_82 : decode cL_fills 82 = .ok (.aload_n 2, 1) := by decide +kernel
theorem dL_fills_83 : decode cL_fills 83 = .ok (.iconst 4, 1) := by decide +kernel
theorem dL_fills_84 : decode cL_fills 84 = .ok (.invokevirtual 137, 3) := by decide +kernel
theorem dL_fills_87 : decode cL_fills 87 = .ok (.ifCond .le 10, 3) := by decide +kernel
theorem dL_fills_90 : decode cL_fills 90 = .ok (.iload 4, 2) := by decide +kernel
theorem dL_fills_92 : decode cL_fills 92 = .ok (.iconst 1, 1) := by decide +kernel
theorem dL_fills_93 : decode cL_fills 93 = .ok (.ior, 1) := by decide +kernel
theorem dL_fills_94 : decode cL_fills 94 = .ok (.goto 5, 3) := by decide +kernel
theorem dL_fills_97 : decode cL_fills 97 = .ok (.iload 4, 2) := by decide +kernel
theorem dL_fills_99 : decode cL_fills 99 = .ok (.istore 4, 2) := by decide +kernel
theorem dL_fills_101 : decode cL_fills 101 = .ok (.aload_n 1, 1) := by decide +kernel
theorem dL_fills_102 : decode cL_fills 102 = .ok (.iload_n 3, 1) := by decide +kernel
theorem dL_fills_103 : decode cL_fills 103 = .ok (.bipush 32, 2) := by decide +kernel
theorem dL_fills_105 : decode cL_fills 105 = .ok (.idiv, 1) := by decide +kernel
theorem dL_fills_106 : decode cL_fills 106 = .ok (.iload_n 3, 1) := by decide +kernel
theorem dL_fills_107 : decode cL_fills 107 = .ok (.bipush 32, 2) := by decide +kernel
theorem dL_fills_109 : decode cL_fills 109 = .ok (.irem, 1) := by decide +kernel
theorem dL_fills_110 : decode cL_fills 110 = .ok (.iload 4, 2) := by decide +kernel
theorem dL_fills_112 : decode cL_fills 112 = .ok (.invokevirtual 144, 3) := by decide +kernel
theorem dL_fills_115 : decode cL_fills 115 = .ok (.aload_n 0, 1) := by decide +kernel
theorem dL_fills_116 : decode cL_fills 116 = .ok (.iload_n 3, 1) := by decide +kernel
theorem dL_fills_117 : decode cL_fills 117 = .ok (.bipush 32, 2) := by decide +kernel
theorem dL_fills_119 : decode cL_fills 119 = .ok (.idiv, 1) := by decide +kernel
theorem dL_fills_120 : decode cL_fills 120 = .ok (.iload_n 3, 1) := by decide +kernel
theorem dL_fills_121 : decode cL_fills 121 = .ok (.bipush 32, 2) := by decide +kernel
theorem dL_fills_123 : decode cL_fills 123 = .ok (.irem, 1) := by decide +kernel
theorem dL_fills_124 : decode cL_fills 124 = .ok (.aload_n 1, 1) := by decide +kernel
theorem dL_fills_125 : decode cL_fills 125 = .ok (.iload_n 3, 1) := by decide +kernel
theorem dL_fills_126 : decode cL_fills 126 = .ok (.bipush 32, 2) := by decide +kernel
theorem dL_fills_128 : decode cL_fills 128 = .ok (.idiv, 1) := by decide +kernel
theorem dL_fills_129 : decode cL_fills 129 = .ok (.iload_n 3, 1) := by decide +kernel
theorem dL_fills_130 : decode cL_fills 130 = .ok (.bipush 32, 2) := by decide +kernel
theorem dL_fills_132 : decode cL_fills 132 = .ok (.irem, 1) := by decide +kernel
theorem dL_fills_133 : decode cL_fills 133 = .ok (.invokevirtual 127, 3) := by decide +kernel
theorem dL_fills_136 : decode cL_fills 136 = .ok (.invokevirtual 148, 3) := by decide +kernel
theorem dL_fills_139 : decode cL_fills 139 = .ok (.istore 5, 2) := by decide +kernel
theorem dL_fills_141 : decode cL_fills 141 = .ok (.iinc 3 1, 3) := by decide +kernel
theorem dL_fills_144 : decode cL_fills 144 = .ok (.goto (-142), 3) := by decide +kernel
theorem dL_fills_147 : decode cL_fills 147 = .ok (.return_, 1) := by decide +kernel
theorem dL_law_0 : decode cL_law 0 = .ok (.iconst 0, 1) := by decide +kernel
theorem dL_law_1 : decode cL_law 1 = .ok (.istore_n 1, 1) := by decide +kernel
theorem dL_law_2 : decode cL_law 2 = .ok (.iload_n 1, 1) := by decide +kernel
theorem dL_law_3 : decode cL_law 3 = .ok (.iconst 3, 1) := by decide +kernel
theorem dL_law_4 : decode cL_law 4 = .ok (.if_icmp .ge 384, 3) := by decide +kernel
theorem dL_law_7 : decode cL_law 7 = .ok (.new 138, 3) := by decide +kernel
theorem dL_law_10 : decode cL_law 10 = .ok (.dup, 1) := by decide +kernel
theorem dL_law_11 : decode cL_law 11 = .ok (.iload_n 1, 1) := by decide +kernel
theorem dL_law_12 : decode cL_law 12 = .ok (.aload_n 0, 1) := by decide +kernel
theorem dL_law_13 : decode cL_law 13 = .ok (.arraylength, 1) := by decide +kernel
theorem dL_law_14 : decode cL_law 14 = .ok (.if_icmp .ge 9, 3) := by decide +kernel
theorem dL_law_17 : decode cL_law 17 = .ok (.aload_n 0, 1) := by decide +kernel
theorem dL_law_18 : decode cL_law 18 = .ok (.iload_n 1, 1) := by decide +kernel
theorem dL_law_19 : decode cL_law 19 = .ok (.iaload, 1) := by decide +kernel
theorem dL_law_20 : decode cL_law 20 = .ok (.goto 7, 3) := by decide +kernel
theorem dL_law_23 : decode cL_law 23 = .ok (.bipush 37, 2) := by decide +kernel
theorem dL_law_25 : decode cL_law 25 = .ok (.iload_n 1, 1) := by decide +kernel
theorem dL_law_26 : decode cL_law 26 = .ok (.imul, 1) := by decide +kernel
theorem dL_law_27 : decode cL_law 27 = .ok (.invokespecial 225, 3) := by decide +kernel
theorem dL_law_30 : decode cL_law 30 = .ok (.astore_n 2, 1) := by decide +kernel
theorem dL_law_31 : decode cL_law 31 = .ok (.new 24, 3) := by decide +kernel
theorem dL_law_34 : decode cL_law 34 = .ok (.dup, 1) := by decide +kernel
theorem dL_law_35 : decode cL_law 35 = .ok (.invokespecial 228, 3) := by decide +kernel
theorem dL_law_38 : decode cL_law 38 = .ok (.astore_n 3, 1) := by decide +kernel
theorem dL_law_39 : decode cL_law 39 = .ok (.new 37, 3) := by decide +kernel
theorem dL_law_42 : decode cL_law 42 = .ok (.dup, 1) := by decide +kernel
theorem dL_law_43 : decode cL_law 43 = .ok (.invokespecial 229, 3) := by decide +kernel
theorem dL_law_46 : decode cL_law 46 = .ok (.astore 4, 2) := by decide +kernel
theorem dL_law_48 : decode cL_law 48 = .ok (.aload_n 3, 1) := by decide +kernel
theorem dL_law_49 : decode cL_law 49 = .ok (.aload 4, 2) := by decide +kernel
theorem dL_law_51 : decode cL_law 51 = .ok (.invokestatic 230, 3) := by decide +kernel
theorem dL_law_54 : decode cL_law 54 = .ok (.ifCond .ne 5, 3) := by decide +kernel
theorem dL_law_57 : decode cL_law 57 = .ok (.iconst 0, 1) := by decide +kernel
theorem dL_law_58 : decode cL_law 58 = .ok (.ireturn, 1) := by decide +kernel
theorem dL_law_59 : decode cL_law 59 = .ok (.aload_n 3, 1) := by decide +kernel
theorem dL_law_60 : decode cL_law 60 = .ok (.aload 4, 2) := by decide +kernel
theorem dL_law_62 : decode cL_law 62 = .ok (.aload_n 2, 1) := by decide +kernel
theorem dL_law_63 : decode cL_law 63 = .ok (.invokestatic 234, 3) := by decide +kernel
theorem dL_law_66 : decode cL_law 66 = .ok (.iconst 0, 1) := by decide +kernel
theorem dL_law_67 : decode cL_law 67 = .ok (.istore 5, 2) := by decide +kernel
theorem dL_law_69 : decode cL_law 69 = .ok (.iload 5, 2) := by decide +kernel
theorem dL_law_71 : decode cL_law 71 = .ok (.bipush 40, 2) := by decide +kernel
theorem dL_law_73 : decode cL_law 73 = .ok (.if_icmp .ge 309, 3) := by decide +kernel
theorem dL_law_76 : decode cL_law 76 = .ok (.aload_n 3, 1) := by decide +kernel
theorem dL_law_77 : decode cL_law 77 = .ok (.aload 4, 2) := by decide +kernel
theorem dL_law_79 : decode cL_law 79 = .ok (.aload_n 2, 1) := by decide +kernel
theorem dL_law_80 : decode cL_law 80 = .ok (.invokestatic 238, 3) := by decide +kernel
theorem dL_law_83 : decode cL_law 83 = .ok (.ifCond .ne 5, 3) := by decide +kernel
theorem dL_law_86 : decode cL_law 86 = .ok (.iconst 0, 1) := by decide +kernel
theorem dL_law_87 : decode cL_law 87 = .ok (.ireturn, 1) := by decide +kernel
theorem dL_law_88 : decode cL_law 88 = .ok (.aload 4, 2) := by decide +kernel
theorem dL_law_90 : decode cL_law 90 = .ok (.getfield 50, 3) := by decide +kernel
theorem dL_law_93 : decode cL_law 93 = .ok (.ifCond .ne 109, 3) := by decide +kernel
theorem dL_law_96 : decode cL_law 96 = .ok (.iconst 1, 1) := by decide +kernel
theorem dL_law_97 : decode cL_law 97 = .ok (.aload_n 2, 1) := by decide +kernel
theorem dL_law_98 : decode cL_law 98 = .ok (.aload_n 2, 1) := by decide +kernel
theorem dL_law_99 : decode cL_law 99 = .ok (.iconst 3, 1) := by decide +kernel
theorem dL_law_100 : decode cL_law 100 = .ok (.invokevirtual 137, 3) := by decide +kernel
theorem dL_law_103 : decode cL_law 103 = .ok (.ifCond .ne 8, 3) := by decide +kernel
theorem dL_law_106 : decode cL_law 106 = .ok (.bipush 60, 2) := by decide +kernel
theorem dL_law_108 : decode cL_law 108 = .ok (.goto 4, 3) := by decide +kernel
theorem dL_law_111 : decode cL_law 111 = .ok (.iconst 4, 1) := by decide +kernel
theorem dL_law_112 : decode cL_law 112 = .ok (.invokevirtual 137, 3) := by decide +kernel
theorem dL_law_115 : decode cL_law 115 = .ok (.iadd, 1) := by decide +kernel
theorem dL_law_116 : decode cL_law 116 = .ok (.istore 6, 2) := by decide +kernel
theorem dL_law_118 : decode cL_law 118 = .ok (.aload 4, 2) := by decide +kernel
theorem dL_law_120 : decode cL_law 120 = .ok (.getfield 36, 3) := by decide +kernel
theorem dL_law_123 : decode cL_law 123 = .ok (.istore 7, 2) := by decide +kernel
theorem dL_law_125 : decode cL_law 125 = .ok (.aload 4, 2) := by decide +kernel
theorem dL_law_127 : decode cL_law 127 = .ok (.getfield 70, 3) := by decide +kernel
theorem dL_law_130 : decode cL_law 130 = .ok (.istore 8, 2) := by decide +kernel
theorem dL_law_132 : decode cL_law 132 = .ok (.aload_n 3, 1) := by decide +kernel
theorem dL_law_133 : decode cL_law 133 = .ok (.iload 6, 2) := by decide +kernel
theorem dL_law_135 : decode cL_law 135 = .ok (.invokevirtual 242, 3) := by decide +kernel
theorem dL_law_138 : decode cL_law 138 = .ok (.istore 9, 2) := by decide +kernel
theorem dL_law_140 : decode cL_law 140 = .ok (.aload_n 3, 1) := by decide +kernel
theorem dL_law_141 : decode cL_law 141 = .ok (.aload 4, 2) := by decide +kernel
theorem dL_law_143 : decode cL_law 143 = .ok (.invokestatic 230, 3) := by decide +kernel
theorem dL_law_146 : decode cL_law 146 = .ok (.ifCond .ne 5, 3) := by decide +kernel
theorem dL_law_149 : decode cL_law 149 = .ok (.iconst 0, 1) := by decide +kernel
theorem dL_law_150 : decode cL_law 150 = .ok (.ireturn, 1) := by decide +kernel
theorem dL_law_151 : decode cL_law 151 = .ok (.aload 4, 2) := by decide +kernel
theorem dL_law_153 : decode cL_law 153 = .ok (.iload 6, 2) := by decide +kernel
theorem dL_law_155 : decode cL_law 155 = .ok (.invokevirtual 245, 3) := by decide +kernel
theorem dL_law_158 : decode cL_law 158 = .ok (.istore 10, 2) := by decide +kernel
theorem dL_law_160 : decode cL_law 160 = .ok (.aload_n 3, 1) := by decide +kernel
theorem dL_law_161 : decode cL_law 161 = .ok (.iload 6, 2) := by decide +kernel
theorem dL_law_163 : decode cL_law 163 = .ok (.invokevirtual 248, 3) := by decide +kernel
theorem dL_law_166 : decode cL_law 166 = .ok (.iload 10, 2) := by decide +kernel
theorem dL_law_168 : decode cL_law 168 = .ok (.if_icmp .ne 29, 3) := by decide +kernel
theorem dL_law_171 : decode cL_law 171 = .ok (.aload 4, 2) := by decide +kernel
theorem dL_law_173 : decode cL_law 173 = .ok (.getfield 36, 3) := by decide +kernel
theorem dL_law_176 : decode cL_law 176 = .ok (.iload 7, 2) := by decide +kernel
theorem dL_law_178 : decode cL_law 178 = .ok (.isub, 1) := by decide +kernel
theorem dL_law_179 : decode cL_law 179 = .ok (.iload 9, 2) := by decide +kernel
theorem dL_law_181 : decode cL_law 181 = .ok (.if_icmp .ne 16, 3) := by decide +kernel
theorem dL_law_184 : decode cL_law 184 = .ok (.aload 4, 2) := by decide +kernel
theorem dL_law_186 : decode cL_law 186 = .ok (.getfield 70, 3) := by decide +kernel
theorem dL_law_189 : decode cL_law 189 = .ok (.iload 8, 2) := by decide +kernel
theorem dL_law_191 : decode cL_law 191 = .ok (.isub, 1) := by decide +kernel
theorem dL_law_192 : decode cL_law 192 = .ok (.iload 9, 2) := by decide +kernel
theorem dL_law_194 : decode cL_law 194 = .ok (.if_icmp .le 5, 3) := by decide +kernel
theorem dL_law_197 : decode cL_law 197 = .ok (.iconst 0, 1) := by decide +kernel
theorem dL_law_198 : decode cL_law 198 = .ok (.ireturn, 1) := by decide +kernel
theorem dL_law_199 : decode cL_law 199 = .ok (.goto 166, 3) := by decide +kernel
theorem dL_law_202 : decode cL_law 202 = .ok (.iconst 1, 1) := by decide +kernel
theorem dL_law_203 : decode cL_law 203 = .ok (.aload_n 2, 1) := by decide +kernel
theorem dL_law_204 : decode cL_law 204 = .ok (.aload_n 2, 1) := by decide +kernel
theorem dL_law_205 : decode cL_law 205 = .ok (.iconst 3, 1) := by decide +kernel
theorem dL_law_206 : decode cL_law 206 = .ok (.invokevirtual 137, 3) := by decide +kernel
theorem dL_law_209 : decode cL_law 209 = .ok (.ifCond .ne 9, 3) := by decide +kernel
theorem dL_law_212 : decode cL_law 212 = .ok (.sipush 300, 3) := by decide +kernel
theorem dL_law_215 : decode cL_law 215 = .ok (.goto 5, 3) := by decide +kernel
theorem dL_law_218 : decode cL_law 218 = .ok (.bipush 40, 2) := by decide +kernel
theorem dL_law_220 : decode cL_law 220 = .ok (.invokevirtual 137, 3) := by decide +kernel
theorem dL_law_223 : decode cL_law 223 = .ok (.iadd, 1) := by decide +kernel
theorem dL_law_224 : decode cL_law 224 = .ok (.istore 6, 2) := by decide +kernel
theorem dL_law_226 : decode cL_law 226 = .ok (.aload 4, 2) := by decide +kernel
theorem dL_law_228 : decode cL_law 228 = .ok (.invokevirtual 249, 3) := by decide +kernel
theorem dL_law_231 : decode cL_law 231 = .ok (.astore 7, 2) := by decide +kernel
theorem dL_law_233 : decode cL_law 233 = .ok (.aload 7, 2) := by decide +kernel
theorem dL_law_235 : decode cL_law 235 = .ok (.invokevirtual 253, 3) := by decide +kernel
theorem dL_law_238 : decode cL_law 238 = .ok (.istore 8, 2) := by decide +kernel
theorem dL_law_240 : decode cL_law 240 = .ok (.aload 4, 2) := by decide +kernel
theorem dL_law_242 : decode cL_law 242 = .ok (.iload 6, 2) := by decide +kernel
theorem dL_law_244 : decode cL_law 244 = .ok (.invokevirtual 256, 3) := by decide +kernel
theorem dL_law_247 : decode cL_law 247 = .ok (.iconst 0, 1) := by decide +kernel
theorem dL_law_248 : decode cL_law 248 = .ok (.istore 9, 2) := by decide +kernel
theorem dL_law_250 : decode cL_law 250 = .ok (.iload 9, 2) := by decide +kernel
theorem dL_law_252 : decode cL_law 252 = .ok (.iload 6, 2) := by decide +kernel
theorem dL_law_254 : decode cL_law 254 = .ok (.bipush 32, 2) := by decide +kernel
theorem dL_law_256 : decode cL_law 256 = .ok (.idiv, 1) := by decide +kernel
theorem dL_law_257 : decode cL_law 257 = .ok (.iconst 1, 1) := by decide +kernel
theorem dL_law_258 : decode cL_law 258 = .ok (.iadd, 1) := by decide +kernel
theorem dL_law_259 : decode cL_law 259 = .ok (.if_icmp .ge 34, 3) := by decide +kernel
theorem dL_law_262 : decode cL_law 262 = .ok (.aload 7, 2) := by decide +kernel
theorem dL_law_264 : decode cL_law 264 = .ok (.invokevirtual 259, 3) := by decide +kernel
theorem dL_law_267 : decode cL_law 267 = .ok (.iload 8, 2) := by decide +kernel
theorem dL_law_269 : decode cL_law 269 = .ok (.ifCond .eq 15, 3) := by decide +kernel
theorem dL_law_272 : decode cL_law 272 = .ok (.aload 7, 2) := by decide +kernel
theorem dL_law_274 : decode cL_law 274 = .ok (.invokevirtual 253, 3) := by decide +kernel
theorem dL_law_277 : decode cL_law 277 = .ok (.ifCond .eq 7, 3) := by decide +kernel
theorem dL_law_280 : decode cL_law 280 = .ok (.iconst 1, 1) := by decide +kernel
theorem dL_law_281 : decode cL_law 281 = .ok (.goto 4, 3) := by decide +kernel
theorem dL_law_284 : decode cL_law 284 = .ok (.iconst 0, 1) := by decide +kernel
theorem dL_law_285 : decode cL_law 285 = .ok (.istore 8, 2) := by decide +kernel
theorem dL_law_287 : decode cL_law 287 = .ok (.iinc 9 1, 3) := by decide +kernel
theorem dL_law_290 : decode cL_law 290 = .ok (.goto (-40), 3) := by decide +kernel
theorem dL_law_293 : decode cL_law 293 = .ok (.aload_n 3, 1) := by decide +kernel
theorem dL_law_294 : decode cL_law 294 = .ok (.iload 6, 2) := by decide +kernel
theorem dL_law_296 : decode cL_law 296 = .ok (.invokevirtual 262, 3) := by decide +kernel
theorem dL_law_299 : decode cL_law 299 = .ok (.aload 4, 2) := by decide +kernel
theorem dL_law_301 : decode cL_law 301 = .ok (.getfield 36, 3) := by decide +kernel
theorem dL_law_304 : decode cL_law 304 = .ok (.if_icmp .eq 5, 3) := by decide +kernel
theorem dL_law_307 : decode cL_law 307 = .ok (.iconst 0, 1) := by decide +kernel
theorem dL_law_308 : decode cL_law 308 = .ok (.ireturn, 1) := by decide +kernel
theorem dL_law_309 : decode cL_law 309 = .ok (.iconst 0, 1) := by decide +kernel
theorem dL_law_310 : decode cL_law 310 = .ok (.istore 9, 2) := by decide +kernel
theorem dL_law_312 : decode cL_law 312 = .ok (.iload 9, 2) := by decide +kernel
theorem dL_law_314 : decode cL_law 314 = .ok (.sipush 256, 3) := by decide +kernel
theorem dL_law_317 : decode cL_law 317 = .ok (.if_icmp .ge 48, 3) := by decide +kernel
theorem dL_law_320 : decode cL_law 320 = .ok (.iload 8, 2) := by decide +kernel
theorem dL_law_322 : decode cL_law 322 = .ok (.ifCond .eq 43, 3) := by decide +kernel
theorem dL_law_325 : decode cL_law 325 = .ok (.aload_n 3, 1) := by decide +kernel
theorem dL_law_326 : decode cL_law 326 = .ok (.iload 9, 2) := by decide +kernel
theorem dL_law_328 : decode cL_law 328 = .ok (.bipush 32, 2) := by decide +kernel
theorem dL_law_330 : decode cL_law 330 = .ok (.idiv, 1) := by decide +kernel
theorem dL_law_331 : decode cL_law 331 = .ok (.iload 9, 2) := by decide +kernel
theorem dL_law_333 : decode cL_law 333 = .ok (.bipush 32, 2) := by decide +kernel
theorem dL_law_335 : decode cL_law 335 = .ok (.irem, 1) := by decide +kernel
theorem dL_law_336 : decode cL_law 336 = .ok (.invokevirtual 123, 3) := by decide +kernel
theorem dL_law_339 : decode cL_law 339 = .ok (.aload 7, 2) := by decide +kernel
theorem dL_law_341 : decode cL_law 341 = .ok (.iload 9, 2) := by decide +kernel
theorem dL_law_343 : decode cL_law 343 = .ok (.bipush 32, 2) := by decide +kernel
theorem dL_law_345 : decode cL_law 345 = .ok (.idiv, 1) := by decide +kernel
theorem dL_law_346 : decode cL_law 346 = .ok (.iload 9, 2) := by decide +kernel
theorem dL_law_348 : decode cL_law 348 = .ok (.bipush 32, 2) := by decide +kernel
theorem dL_law_350 : decode cL_law 350 = .ok (.irem, 1) := by decide +kernel
theorem dL_law_351 : decode cL_law 351 = .ok (.invokevirtual 127, 3) := by decide +kernel
theorem dL_law_354 : decode cL_law 354 = .ok (.if_icmp .eq 5, 3) := by decide +kernel
theorem dL_law_357 : decode cL_law 357 = .ok (.iconst 0, 1) := by decide +kernel
theorem dL_law_358 : decode cL_law 358 = .ok (.ireturn, 1) := by decide +kernel
theorem dL_law_359 : decode cL_law 359 = .ok (.iinc 9 1, 3) := by decide +kernel
theorem dL_law_362 : decode cL_law 362 = .ok (.goto (-50), 3) := by decide +kernel
theorem dL_law_365 : decode cL_law 365 = .ok (.aload_n 3, 1) := by decide +kernel
theorem dL_law_366 : decode cL_law 366 = .ok (.aload 4, 2) := by decide +kernel
theorem dL_law_368 : decode cL_law 368 = .ok (.invokestatic 230, 3) := by decide +kernel
theorem dL_law_371 : decode cL_law 371 = .ok (.ifCond .ne 5, 3) := by decide +kernel
theorem dL_law_374 : decode cL_law 374 = .ok (.iconst 0, 1) := by decide +kernel
theorem dL_law_375 : decode cL_law 375 = .ok (.ireturn, 1) := by decide +kernel
theorem dL_law_376 : decode cL_law 376 = .ok (.iinc 5 1, 3) := by decide +kernel
theorem dL_law_379 : decode cL_law 379 = .ok (.goto (-310), 3) := by decide +kernel
theorem dL_law_382 : decode cL_law 382 = .ok (.iinc 1 1, 3) := by decide +kernel
theorem dL_law_385 : decode cL_law 385 = .ok (.goto (-383), 3) := by decide +kernel
theorem dL_law_388 : decode cL_law 388 = .ok (.iconst 1, 1) := by decide +kernel
theorem dL_law_389 : decode cL_law 389 = .ok (.ireturn, 1) := by decide +kernel
