theorem dX9_pipeLine_144 : decode cX9_pipeLine 144 = .ok (.iconst (-1), 1) := by decide +kernel
theorem dX9_pipeLine_145 : decode cX9_pipeLine 145 = .ok (.if_icmp .eq 4, 3) := by decide +kernel
theorem dX9_pipeLine_148 : decode cX9_pipeLine 148 = .ok (.return_, 1) := by decide +kernel
theorem dX9_pipeLine_149 : decode cX9_pipeLine 149 = .ok (.aload_n 0, 1) := by decide +kernel
theorem dX9_pipeLine_150 : decode cX9_pipeLine 150 = .ok (.getfield 20, 3) := by decide +kernel
theorem dX9_pipeLine_153 : decode cX9_pipeLine 153 = .ok (.iload 5, 2) := by decide +kernel
theorem dX9_pipeLine_155 : decode cX9_pipeLine 155 = .ok (.iconst 1, 1) := by decide +kernel
theorem dX9_pipeLine_156 : decode cX9_pipeLine 156 = .ok (.bastore, 1) := by decide +kernel
theorem dX9_pipeLine_157 : decode cX9_pipeLine 157 = .ok (.aload_n 0, 1) := by decide +kernel
theorem dX9_pipeLine_158 : decode cX9_pipeLine 158 = .ok (.getfield 17, 3) := by decide +kernel
theorem dX9_pipeLine_161 : decode cX9_pipeLine 161 = .ok (.iload 5, 2) := by decide +kernel
theorem dX9_pipeLine_163 : decode cX9_pipeLine 163 = .ok (.iload_n 1, 1) := by decide +kernel
theorem dX9_pipeLine_164 : decode cX9_pipeLine 164 = .ok (.iastore, 1) := by decide +kernel
theorem dX9_pipeLine_165 : decode cX9_pipeLine 165 = .ok (.aload_n 0, 1) := by decide +kernel
theorem dX9_pipeLine_166 : decode cX9_pipeLine 166 = .ok (.dup, 1) := by decide +kernel
theorem dX9_pipeLine_167 : decode cX9_pipeLine 167 = .ok (.getfield 109, 3) := by decide +kernel
theorem dX9_pipeLine_170 : decode cX9_pipeLine 170 = .ok (.iload 4, 2) := by decide +kernel
theorem dX9_pipeLine_172 : decode cX9_pipeLine 172 = .ok (.ifCond .eq 7, 3) := by decide +kernel
theorem dX9_pipeLine_175 : decode cX9_pipeLine 175 = .ok (.iconst 4, 1) := by decide +kernel
theorem dX9_pipeLine_176 : decode cX9_pipeLine 176 = .ok (.goto 4, 3) := by decide +kernel
theorem dX9_pipeLine_179 : decode cX9_pipeLine 179 = .ok (.iconst 5, 1) := by decide +kernel
theorem dX9_pipeLine_180 : decode cX9_pipeLine 180 = .ok (.iadd, 1) := by decide +kernel
theorem dX9_pipeLine_181 : decode cX9_pipeLine 181 = .ok (.putfield 109, 3) := by decide +kernel
theorem dX9_pipeLine_184 : decode cX9_pipeLine 184 = .ok (.return_, 1) := by decide +kernel
theorem dX9_stoneLine_0 : decode cX9_stoneLine 0 = .ok (.aload_n 0, 1) := by decide +kernel
theorem dX9_stoneLine_1 : decode cX9_stoneLine 1 = .ok (.dup, 1) := by decide +kernel
theorem dX9_stoneLine_2 : decode cX9_stoneLine 2 = .ok (.getfield 109, 3) := by decide +kernel
theorem dX9_stoneLine_5 : decode cX9_stoneLine 5 = .ok (.iconst 5, 1) := by decide +kernel
theorem dX9_stoneLine_6 : decode cX9_stoneLine 6 = .ok (.iadd, 1) := by decide +kernel
theorem dX9_stoneLine_7 : decode cX9_stoneLine 7 = .ok (.putfield 109, 3) := by decide +kernel
theorem dX9_stoneLine_10 : decode cX9_stoneLine 10 = .ok (.aload_n 0, 1) := by decide +kernel
theorem dX9_stoneLine_11 : decode cX9_stoneLine 11 = .ok (.iconst 0, 1) := by decide +kernel
theorem dX9_stoneLine_12 : decode cX9_stoneLine 12 = .ok (.aload_n 0, 1) := by decide +kernel
theorem dX9_stoneLine_13 : decode cX9_stoneLine 13 = .ok (.getfield 146, 3) := by decide +kernel
theorem dX9_stoneLine_16 : decode cX9_stoneLine 16 = .ok (.iconst 1, 1) := by decide +kernel
theorem dX9_stoneLine_17 : decode cX9_stoneLine 17 = .ok (.isub, 1) := by decide +kernel
theorem dX9_stoneLine_18 : decode cX9_stoneLine 18 = .ok (.invokevirtual 149, 3) := by decide +kernel
theorem dX9_stoneLine_21 : decode cX9_stoneLine 21 = .ok (.istore_n 1, 1) := by decide +kernel
theorem dX9_stoneLine_22 : decode cX9_stoneLine 22 = .ok (.aload_n 0, 1) := by decide +kernel
theorem dX9_stoneLine_23 : decode cX9_stoneLine 23 = .ok (.invokevirtual 115, 3) := by decide +kernel
theorem dX9_stoneLine_26 : decode cX9_stoneLine 26 = .ok (.istore_n 2, 1) := by decide +kernel
theorem dX9_stoneLine_27 : decode cX9_stoneLine 27 = .ok (.aload_n 0, 1) := by decide +kernel
theorem dX9_stoneLine_28 : decode cX9_stoneLine 28 = .ok (.getfield 109, 3) := by decide +kernel
theorem dX9_stoneLine_31 : decode cX9_stoneLine 31 = .ok (.istore_n 3, 1) := by decide +kernel
theorem dX9_stoneLine_32 : decode cX9_stoneLine 32 = .ok (.aload_n 0, 1) := by decide +kernel
theorem dX9_stoneLine_33 : decode cX9_stoneLine 33 = .ok (.iconst 0, 1) := by decide +kernel
theorem dX9_stoneLine_34 : decode cX9_stoneLine 34 = .ok (.aload_n 0, 1) := by decide +kernel
theorem dX9_stoneLine_35 : decode cX9_stoneLine 35 = .ok (.getfield 153, 3) := by decide +kernel
theorem dX9_stoneLine_38 : decode cX9_stoneLine 38 = .ok (.iconst 1, 1) := by decide +kernel
theorem dX9_stoneLine_39 : decode cX9_stoneLine 39 = .ok (.isub, 1) := by decide +kernel
theorem dX9_stoneLine_40 : decode cX9_stoneLine 40 = .ok (.invokevirtual 149, 3) := by decide +kernel
theorem dX9_stoneLine_43 : decode cX9_stoneLine 43 = .ok (.istore 4, 2) := by decide +kernel
theorem dX9_stoneLine_45 : decode cX9_stoneLine 45 = .ok (.aload_n 0, 1) := by decide +kernel
theorem dX9_stoneLine_46 : decode cX9_stoneLine 46 = .ok (.getfield 13, 3) := by decide +kernel
theorem dX9_stoneLine_49 : decode cX9_stoneLine 49 = .ok (.iconst (-1), 1) := by decide +kernel
theorem dX9_stoneLine_50 : decode cX9_stoneLine 50 = .ok (.if_icmp .eq 4, 3) := by decide +kernel
theorem dX9_stoneLine_53 : decode cX9_stoneLine 53 = .ok (.return_, 1) := by decide +kernel
theorem dX9_stoneLine_54 : decode cX9_stoneLine 54 = .ok (.aload_n 0, 1) := by decide +kernel
theorem dX9_stoneLine_55 : decode cX9_stoneLine 55 = .ok (.getfield 24, 3) := by decide +kernel
theorem dX9_stoneLine_58 : decode cX9_stoneLine 58 = .ok (.iconst 5, 1) := by decide +kernel
theorem dX9_stoneLine_59 : decode cX9_stoneLine 59 = .ok (.iload 4, 2) := by decide +kernel
theorem dX9_stoneLine_61 : decode cX9_stoneLine 61 = .ok (.imul, 1) := by decide +kernel
theorem dX9_stoneLine_62 : decode cX9_stoneLine 62 = .ok (.iload_n 1, 1) := by decide +kernel
theorem dX9_stoneLine_63 : decode cX9_stoneLine 63 = .ok (.iadd, 1) := by decide +kernel
theorem dX9_stoneLine_64 : decode cX9_stoneLine 64 = .ok (.baload, 1) := by decide +kernel
theorem dX9_stoneLine_65 : decode cX9_stoneLine 65 = .ok (.ifCond .eq 12, 3) := by decide +kernel
theorem dX9_stoneLine_68 : decode cX9_stoneLine 68 = .ok (.aload_n 0, 1) := by decide +kernel
theorem dX9_stoneLine_69 : decode cX9_stoneLine 69 = .ok (.iload_n 3, 1) := by decide +kernel
theorem dX9_stoneLine_70 : decode cX9_stoneLine 70 = .ok (.putfield 109, 3) := by decide +kernel
theorem dX9_stoneLine_73 : decode cX9_stoneLine 73 = .ok (.aload_n 0, 1) := by decide +kernel
theorem dX9_stoneLine_74 : decode cX9_stoneLine 74 = .ok (.invokevirtual 135, 3) := by decide +kernel
theorem dX9_stoneLine_77 : decode cX9_stoneLine 77 = .ok (.aload_n 0, 1) := by decide +kernel
theorem dX9_stoneLine_78 : decode cX9_stoneLine 78 = .ok (.getfield 24, 3) := by decide +kernel
theorem dX9_stoneLine_81 : decode cX9_stoneLine 81 = .ok (.iconst 5, 1) := by decide +kernel
theorem dX9_stoneLine_82 : decode cX9_stoneLine 82 = .ok (.iload 4, 2) := by decide +kernel
theorem dX9_stoneLine_84 : decode cX9_stoneLine 84 = .ok (.imul, 1) := by decide +kernel
theorem dX9_stoneLine_85 : decode cX9_stoneLine 85 = .ok (.iload_n 1, 1) := by decide +kernel
theorem dX9_stoneLine_86 : decode cX9_stoneLine 86 = .ok (.iadd, 1) := by decide +kernel
theorem dX9_stoneLine_87 : decode cX9_stoneLine 87 = .ok (.iconst 1, 1) := by decide +kernel
theorem dX9_stoneLine_88 : decode cX9_stoneLine 88 = .ok (.bastore, 1) := by decide +kernel
theorem dX9_stoneLine_89 : decode cX9_stoneLine 89 = .ok (.return_, 1) := by decide +kernel
theorem dX9_read_0 : decode cX9_read 0 = .ok (.aload_n 0, 1) := by decide +kernel
theorem dX9_read_1 : decode cX9_read 1 = .ok (.aload_n 0, 1) := by decide +kernel
theorem dX9_read_2 : decode cX9_read 2 = .ok (.getfield 106, 3) := by decide +kernel
theorem dX9_read_5 : decode cX9_read 5 = .ok (.putfield 112, 3) := by decide +kernel
theorem dX9_read_8 : decode cX9_read 8 = .ok (.aload_n 0, 1) := by decide +kernel
theorem dX9_read_9 : decode cX9_read 9 = .ok (.iconst 0, 1) := by decide +kernel
theorem dX9_read_10 : decode cX9_read 10 = .ok (.putfield 106, 3) := by decide +kernel
theorem dX9_read_13 : decode cX9_read 13 = .ok (.aload_n 0, 1) := by decide +kernel
theorem dX9_read_14 : decode cX9_read 14 = .ok (.iconst 0, 1) := by decide +kernel
theorem dX9_read_15 : decode cX9_read 15 = .ok (.putfield 109, 3) := by decide +kernel
theorem dX9_read_18 : decode cX9_read 18 = .ok (.aload_n 0, 1) := by decide +kernel
theorem dX9_read_19 : decode cX9_read 19 = .ok (.iconst (-1), 1) := by decide +kernel
theorem dX9_read_20 : decode cX9_read 20 = .ok (.putfield 13, 3) := by decide +kernel
theorem dX9_read_23 : decode cX9_read 23 = .ok (.iconst 0, 1) := by decide +kernel
theorem dX9_read_24 : decode cX9_read 24 = .ok (.istore_n 1, 1) := by decide +kernel
theorem dX9_read_25 : decode cX9_read 25 = .ok (.iload_n 1, 1) := by decide +kernel
theorem dX9_read_26 : decode cX9_read 26 = .ok (.bipush 50, 2) := by decide +kernel
theorem dX9_read_28 : decode cX9_read 28 = .ok (.if_icmp .ge 23, 3) := by decide +kernel
theorem dX9_read_31 : decode cX9_read 31 = .ok (.aload_n 0, 1) := by decide +kernel
theorem dX9_read_32 : decode cX9_read 32 = .ok (.getfield 17, 3) := by decide +kernel
theorem dX9_read_35 : decode cX9_read 35 = .ok (.iload_n 1, 1) := by decide +kernel
theorem dX9_read_36 : decode cX9_read 36 = .ok (.iconst 0, 1) := by decide +kernel
theorem dX9_read_37 : decode cX9_read 37 = .ok (.iastore, 1) := by decide +kernel
theorem dX9_read_38 : decode cX9_read 38 = .ok (.aload_n 0, 1) := by decide +kernel
theorem dX9_read_39 : decode cX9_read 39 = .ok (.getfield 20, 3) := by decide +kernel
theorem dX9_read_42 : decode cX9_read 42 = .ok (.iload_n 1, 1) := by decide +kernel
theorem dX9_read_43 : decode cX9_read 43 = .ok (.iconst 0, 1) := by decide +kernel
theorem dX9_read_44 : decode cX9_read 44 = .ok (.bastore, 1) := by decide +kernel
theorem dX9_read_45 : decode cX9_read 45 = .ok (.iinc 1 1, 3) := by decide +kernel
theorem dX9_read_48 : decode cX9_read 48 = .ok (.goto (-23), 3) := by decide +kernel
theorem dX9_read_51 : decode cX9_read 51 = .ok (.iconst 0, 1) := by decide +kernel
theorem dX9_read_52 : decode cX9_read 52 = .ok (.istore_n 1, 1) := by decide +kernel
theorem dX9_read_53 : decode cX9_read 53 = .ok (.iload_n 1, 1) := by decide +kernel
theorem dX9_read_54 : decode cX9_read 54 = .ok (.bipush 25, 2) := by decide +kernel
theorem dX9_read_56 : decode cX9_read 56 = .ok (.if_icmp .ge 16, 3) := by decide +kernel
theorem dX9_read_59 : decode cX9_read 59 = .ok (.aload_n 0, 1) := by decide +kernel
theorem dX9_read_60 : decode cX9_read 60 = .ok (.getfield 24, 3) := by decide +kernel
theorem dX9_read_63 : decode cX9_read 63 = .ok (.iload_n 1, 1) := by decide +kernel
theorem dX9_read_64 : decode cX9_read 64 = .ok (.iconst 0, 1) := by decide +kernel
theorem dX9_read_65 : decode cX9_read 65 = .ok (.bastore, 1) := by decide +kernel
theorem dX9_read_66 : decode cX9_read 66 = .ok (.iinc 1 1, 3) := by decide +kernel
theorem dX9_read_69 : decode cX9_read 69 = .ok (.goto (-16), 3) := by decide +kernel
theorem dX9_read_72 : decode cX9_read 72 = .ok (.aload_n 0, 1) := by decide +kernel
theorem dX9_read_73 : decode cX9_read 73 = .ok (.ldc 160, 2) := by decide +kernel
theorem dX9_read_75 : decode cX9_read 75 = .ok (.invokevirtual 162, 3) := by decide +kernel
theorem dX9_read_78 : decode cX9_read 78 = .ok (.ifCond .ne 7, 3) := by decide +kernel
theorem dX9_read_81 : decode cX9_read 81 = .ok (.aload_n 0, 1) := by decide +kernel
theorem dX9_read_82 : decode cX9_read 82 = .ok (.invokevirtual 135, 3) := by decide +kernel
theorem dX9_read_85 : decode cX9_read 85 = .ok (.aload_n 0, 1) := by decide +kernel
theorem dX9_read_86 : decode cX9_read 86 = .ok (.aload_n 0, 1) := by decide +kernel
theorem dX9_read_87 : decode cX9_read 87 = .ok (.iconst 1, 1) := by decide +kernel
theorem dX9_read_88 : decode cX9_read 88 = .ok (.iconst 5, 1) := by decide +kernel
theorem dX9_read_89 : decode cX9_read 89 = .ok (.invokevirtual 149, 3) := by decide +kernel
theorem dX9_read_92 : decode cX9_read 92 = .ok (.putfield 146, 3) := by decide +kernel
theorem dX9_read_95 : decode cX9_read 95 = .ok (.aload_n 0, 1) := by decide +kernel
theorem dX9_read_96 : decode cX9_read 96 = .ok (.aload_n 0, 1) := by decide +kernel
theorem dX9_read_97 : decode cX9_read 97 = .ok (.iconst 1, 1) := by decide +kernel
theorem dX9_read_98 : decode cX9_read 98 = .ok (.iconst 5, 1) := by decide +kernel
theorem dX9_read_99 : decode cX9_read 99 = .ok (.invokevirtual 149, 3) := by decide +kernel
theorem dX9_read_102 : decode cX9_read 102 = .ok (.putfield 153, 3) := by decide +kernel
theorem dX9_read_105 : decode cX9_read 105 = .ok (.aload_n 0, 1) := by decide +kernel
theorem dX9_read_106 : decode cX9_read 106 = .ok (.bipush 59, 2) := by decide +kernel
theorem dX9_read_108 : decode cX9_read 108 = .ok (.invokevirtual 165, 3) := by decide +kernel
theorem dX9_read_111 : decode cX9_read 111 = .ok (.aload_n 0, 1) := by decide +kernel
theorem dX9_read_112 : decode cX9_read 112 = .ok (.getfield 13, 3) := by decide +kernel
theorem dX9_read_115 : decode cX9_read 115 = .ok (.iconst (-1), 1) := by decide +kernel
theorem dX9_read_116 : decode cX9_read 116 = .ok (.if_icmp .ne 74, 3) := by decide +kernel
theorem dX9_read_119 : decode cX9_read 119 = .ok (.aload_n 0, 1) := by decide +kernel
theorem dX9_read_120 : decode cX9_read 120 = .ok (.invokevirtual 115, 3) := by decide +kernel
theorem dX9_read_123 : decode cX9_read 123 = .ok (.iconst (-1), 1) := by decide +kernel
theorem dX9_read_124 : decode cX9_read 124 = .ok (.if_icmp .eq 66, 3) := by decide +kernel
theorem dX9_read_127 : decode cX9_read 127 = .ok (.aload_n 0, 1) := by decide +kernel
theorem dX9_read_128 : decode cX9_read 128 = .ok (.ldc 169, 2) := by decide +kernel
theorem dX9_read_130 : decode cX9_read 130 = .ok (.invokevirtual 131, 3) := by decide +kernel
theorem dX9_read_133 : decode cX9_read 133 = .ok (.ifCond .eq 11, 3) := by decide +kernel
theorem dX9_read_136 : decode cX9_read 136 = .ok (.aload_n 0, 1) := by decide +kernel
theorem dX9_read_137 : decode cX9_read 137 = .ok (.iconst 1, 1) := by decide +kernel
theorem dX9_read_138 : decode cX9_read 138 = .ok (.invokevirtual 171, 3) := by decide +kernel
theorem dX9_read_141 : decode cX9_read 141 = .ok (.goto 40, 3) := by decide +kernel
theorem dX9_read_144 : decode cX9_read 144 = .ok (.aload_n 0, 1) := by decide +kernel
theorem dX9_read_145 : decode cX9_read 145 = .ok (.ldc 174, 2) := by decide +kernel
theorem dX9_read_147 : decode cX9_read 147 = .ok (.invokevirtual 131, 3) := by decide +kernel
theorem dX9_read_150 : decode cX9_read 150 = .ok (.ifCond .eq 11, 3) := by decide +kernel
theorem dX9_read_153 : decode cX9_read 153 = .ok (.aload_n 0, 1) := by decide +kernel
theorem dX9_read_154 : decode cX9_read 154 = .ok (.iconst 2, 1) := by decide +kernel
theorem dX9_read_155 : decode cX9_read 155 = .ok (.invokevirtual 171, 3) := by decide +kernel
theorem dX9_read_158 : decode cX9_read 158 = .ok (.goto 23, 3) := by decide +kernel
theorem dX9_read_161 : decode cX9_read 161 = .ok (.aload_n 0, 1) := by decide +kernel
theorem dX9_read_162 : decode cX9_read 162 = .ok (.ldc 176, 2) := by decide +kernel
theorem dX9_read_164 : decode cX9_read 164 = .ok (.invokevirtual 131, 3) := by decide +kernel
theorem dX9_read_167 : decode cX9_read 167 = .ok (.ifCond .eq 10, 3) := by decide +kernel
theorem dX9_read_170 : decode cX9_read 170 = .ok (.aload_n 0, 1) := by decide +kernel
theorem dX9_read_171 : decode cX9_read 171 = .ok (.invokevirtual 177, 3) := by decide +kernel
theorem dX9_read_174 : decode cX9_read 174 = .ok (.goto 7, 3) := by decide +kernel
theorem dX9_read_177 : decode cX9_read 177 = .ok (.aload_n 0, 1) := by decide +kernel
theorem dX9_read_178 : decode cX9_read 178 = .ok (.invokevirtual 135, 3) := by decide +kernel
theorem dX9_read_181 : decode cX9_read 181 = .ok (.aload_n 0, 1) := by decide +kernel
theorem dX9_read_182 : decode cX9_read 182 = .ok (.bipush 59, 2) := by decide +kernel
theorem dX9_read_184 : decode cX9_read 184 = .ok (.invokevirtual 165, 3) := by decide +kernel
theorem dX9_read_187 : decode cX9_read 187 = .ok (.goto (-76), 3) := by decide +kernel
theorem dX9_read_190 : decode cX9_read 190 = .ok (.aload_n 0, 1) := by decide +kernel
theorem dX9_read_191 : decode cX9_read 191 = .ok (.getfield 13, 3) := by decide +kernel
theorem dX9_read_194 : decode cX9_read 194 = .ok (.iconst (-1), 1) := by decide +kernel
theorem dX9_read_195 : decode cX9_read 195 = .ok (.if_icmp .ne 31, 3) := by decide +kernel
theorem dX9_read_198 : decode cX9_read 198 = .ok (.aload_n 0, 1) := by decide +kernel
theorem dX9_read_199 : decode cX9_read 199 = .ok (.getfield 17, 3) := by decide +kernel
theorem dX9_read_202 : decode cX9_read 202 = .ok (.aload_n 0, 1) := by decide +kernel
theorem dX9_read_203 : decode cX9_read 203 = .ok (.getfield 24, 3) := by decide +kernel
theorem dX9_read_206 : decode cX9_read 206 = .ok (.aload_n 0, 1) := by decide +kernel
theorem dX9_read_207 : decode cX9_read 207 = .ok (.getfield 146, 3) := by decide +kernel
theorem dX9_read_210 : decode cX9_read 210 = .ok (.aload_n 0, 1) := by decide +kernel
theorem dX9_read_211 : decode cX9_read 211 = .ok (.getfield 153, 3) := by decide +kernel
theorem dX9_read_214 : decode cX9_read 214 = .ok (.invokestatic 180, 3) := by decide +kernel
theorem dX9_read_217 : decode cX9_read 217 = .ok (.bipush 24, 2) := by decide +kernel
theorem dX9_read_219 : decode cX9_read 219 = .ok (.if_icmp .le 7, 3) := by decide +kernel
theorem dX9_read_222 : decode cX9_read 222 = .ok (.aload_n 0, 1) := by decide +kernel
theorem dX9_read_223 : decode cX9_read 223 = .ok (.invokevirtual 135, 3) := by decide +kernel
theorem dX9_read_226 : decode cX9_read 226 = .ok (.aload_n 0, 1) := by decide +kernel
theorem dX9_read_227 : decode cX9_read 227 = .ok (.aload_n 0, 1) := by decide +kernel
theorem dX9_read_228 : decode cX9_read 228 = .ok (.getfield 13, 3) := by decide +kernel
theorem dX9_read_231 : decode cX9_read 231 = .ok (.iconst (-1), 1) := by decide +kernel
theorem dX9_read_232 : decode cX9_read 232 = .ok (.if_icmp .ne 7, 3) := by decide +kernel
theorem dX9_read_235 : decode cX9_read 235 = .ok (.iconst 0, 1) := by decide +kernel
theorem dX9_read_236 : decode cX9_read 236 = .ok (.goto 4, 3) := by decide +kernel
theorem dX9_read_239 : decode cX9_read 239 = .ok (.iconst 1, 1) := by decide +kernel
theorem dX9_read_240 : decode cX9_read 240 = .ok (.putfield 103, 3) := by decide +kernel
theorem dX9_read_243 : decode cX9_read 243 = .ok (.aload_n 0, 1) := by decide +kernel
theorem dX9_read_244 : decode cX9_read 244 = .ok (.getfield 103, 3) := by decide +kernel
theorem dX9_read_247 : decode cX9_read 247 = .ok (.ifCond .le 5, 3) := by decide +kernel
theorem dX9_read_250 : decode cX9_read 250 = .ok (.iconst 0, 1) := by decide +kernel
theorem dX9_read_251 : decode cX9_read 251 = .ok (.ireturn, 1) := by decide +kernel
theorem dX9_read_252 : decode cX9_read 252 = .ok (.aload_n 0, 1) := by decide +kernel
theorem dX9_read_253 : decode cX9_read 253 = .ok (.aload_n 0, 1) := by decide +kernel
theorem dX9_read_254 : decode cX9_read 254 = .ok (.getfield 146, 3) := by decide +kernel
theorem dX9_read_257 : decode cX9_read 257 = .ok (.putfield 27, 3) := by decide +kernel
theorem dX9_read_260 : decode cX9_read 260 = .ok (.aload_n 0, 1) := by decide +kernel
theorem dX9_read_261 : decode cX9_read 261 = .ok (.aload_n 0, 1) := by decide +kernel
theorem dX9_read_262 : decode cX9_read 262 = .ok (.getfield 153, 3) := by decide +kernel
theorem dX9_read_265 : decode cX9_read 265 = .ok (.putfield 30, 3) := by decide +kernel
theorem dX9_read_268 : decode cX9_read 268 = .ok (.iconst 0, 1) := by decide +kernel
theorem dX9_read_269 : decode cX9_read 269 = .ok (.istore_n 1, 1) := by decide +kernel
theorem dX9_read_270 : decode cX9_read 270 = .ok (.iload_n 1, 1) := by decide +kernel
theorem dX9_read_271 : decode cX9_read 271 = .ok (.bipush 50, 2) := by decide +kernel
theorem dX9_read_273 : decode cX9_read 273 = .ok (.if_icmp .ge 21, 3) := by decide +kernel
theorem dX9_read_276 : decode cX9_read 276 = .ok (.aload_n 0, 1) := by decide +kernel
theorem dX9_read_277 : decode cX9_read 277 = .ok (.getfield 33, 3) := by decide +kernel
theorem dX9_read_280 : decode cX9_read 280 = .ok (.iload_n 1, 1) := by decide +kernel
theorem dX9_read_281 : decode cX9_read 281 = .ok (.aload_n 0, 1) := by decide +kernel
theorem dX9_read_282 : decode cX9_read 282 = .ok (.getfield 17, 3) := by decide +kernel
theorem dX9_read_285 : decode cX9_read 285 = .ok (.iload_n 1, 1) := by decide +kernel
theorem dX9_read_286 : decode cX9_read 286 = .ok (.iaload, 1) := by decide +kernel
theorem dX9_read_287 : decode cX9_read 287 = .ok (.iastore, 1) := by decide +kernel
theorem dX9_read_288 : decode cX9_read 288 = .ok (.iinc 1 1, 3) := by decide +kernel
theorem dX9_read_291 : decode cX9_read 291 = .ok (.goto (-21), 3) := by decide +kernel
theorem dX9_read_294 : decode cX9_read 294 = .ok (.iconst 0, 1) := by decide +kernel
theorem dX9_read_295 : decode cX9_read 295 = .ok (.istore_n 1, 1) := by decide +kernel
theorem dX9_read_296 : decode cX9_read 296 = .ok (.iload_n 1, 1) := by decide +kernel
theorem dX9_read_297 : decode cX9_read 297 = .ok (.bipush 25, 2) := by decide +kernel
theorem dX9_read_299 : decode cX9_read 299 = .ok (.if_icmp .ge 21, 3) := by decide +kernel
theorem dX9_read_302 : decode cX9_read 302 = .ok (.aload_n 0, 1) := by decide +kernel
theorem dX9_read_303 : decode cX9_read 303 = .ok (.getfield 36, 3) := by decide +kernel
theorem dX9_read_306 : decode cX9_read 306 = .ok (.iload_n 1, 1) := by decide +kernel
theorem dX9_read_307 : decode cX9_read 307 = .ok (.aload_n 0, 1) := by decide +kernel
theorem dX9_read_308 : decode cX9_read 308 = .ok (.getfield 24, 3) := by decide +kernel
theorem dX9_read_311 : decode cX9_read 311 = .ok (.iload_n 1, 1) := by decide +kernel
theorem dX9_read_312 : decode cX9_read 312 = .ok (.baload, 1) := by decide +kernel
theorem dX9_read_313 : decode cX9_read 313 = .ok (.bastore, 1) := by decide +kernel
theorem dX9_read_314 : decode cX9_read 314 = .ok (.iinc 1 1, 3) := by decide +kernel
theorem dX9_read_317 : decode cX9_read 317 = .ok (.goto (-21), 3) := by decide +kernel
theorem dX9_read_320 : decode cX9_read 320 = .ok (.aload_n 0, 1) := by decide +kernel
theorem dX9_read_321 : decode cX9_read 321 = .ok (.iconst 0, 1) := by decide +kernel
theorem dX9_read_322 : decode cX9_read 322 = .ok (.putfield 184, 3) := by decide +kernel
theorem dX9_read_325 : decode cX9_read 325 = .ok (.aload_n 0, 1) := by decide +kernel
theorem dX9_read_326 : decode cX9_read 326 = .ok (.iconst 0, 1) := by decide +kernel
theorem dX9_read_327 : decode cX9_read 327 = .ok (.putfield 99, 3) := by decide +kernel
theorem dX9_read_330 : decode cX9_read 330 = .ok (.aload_n 0, 1) := by decide +kernel
theorem dX9_read_331 : decode cX9_read 331 = .ok (.invokevirtual 187, 3) := by decide +kernel
theorem dX9_read_334 : decode cX9_read 334 = .ok (.ireturn, 1) := by decide +kernel
theorem dX9_fault_0 : decode cX9_fault 0 = .ok (.aload_n 0, 1) := by decide +kernel
theorem dX9_fault_1 : decode cX9_fault 1 = .ok (.iconst 0, 1) := by decide +kernel
theorem dX9_fault_2 : decode cX9_fault 2 = .ok (.putfield 103, 3) := by decide +kernel
theorem dX9_fault_5 : decode cX9_fault 5 = .ok (.aload_n 0, 1) := by decide +kernel
theorem dX9_fault_6 : decode cX9_fault 6 = .ok (.getfield 13, 3) := by decide +kernel
theorem dX9_fault_9 : decode cX9_fault 9 = .ok (.ireturn, 1) := by decide +kernel
theorem dX9_isThere_0 : decode cX9_isThere 0 = .ok (.iload_n 0, 1) := by decide +kernel
theorem dX9_isThere_1 : decode cX9_isThere 1 = .ok (.bipush 10, 2) := by decide +kernel
theorem dX9_isThere_3 : decode cX9_isThere 3 = .ok (.irem, 1) := by decide +kernel
theorem dX9_isThere_4 : decode cX9_isThere 4 = .ok (.iconst 2, 1) := by decide +kernel
theorem dX9_isThere_5 : decode cX9_isThere 5 = .ok (.idiv, 1) := by decide +kernel
theorem dX9_isThere_6 : decode cX9_isThere 6 = .ok (.istore_n 3, 1) := by decide +kernel
theorem dX9_isThere_7 : decode cX9_isThere 7 = .ok (.iload_n 0, 1) := by decide +kernel
theorem dX9_isThere_8 : decode cX9_isThere 8 = .ok (.bipush 10, 2) := by decide +kernel
theorem dX9_isThere_10 : decode cX9_isThere 10 = .ok (.idiv, 1) := by decide +kernel
theorem dX9_isThere_11 : decode cX9_isThere 11 = .ok (.istore 4, 2) := by decide +kernel
theorem dX9_isThere_13 : decode cX9_isThere 13 = .ok (.iload_n 0, 1) := by decide +kernel
theorem dX9_isThere_14 : decode cX9_isThere 14 = .ok (.iconst 2, 1) := by decide +kernel
theorem dX9_isThere_15 : decode cX9_isThere 15 = .ok (.irem, 1) := by decide +kernel
theorem dX9_isThere_16 : decode cX9_isThere 16 = .ok (.iconst 1, 1) := by decide +kernel
theorem dX9_isThere_17 : decode cX9_isThere 17 = .ok (.if_icmp .ne 7, 3) := by decide +kernel
theorem dX9_isThere_20 : decode cX9_isThere 20 = .ok (.iconst 1, 1) := by decide +kernel
theorem dX9_isThere_21 : decode cX9_isThere 21 = .ok (.goto 4, 3) := by decide +kernel
theorem dX9_isThere_24 : decode cX9_isThere 24 = .ok (.iconst 0, 1) := by decide +kernel
theorem dX9_isThere_25 : decode cX9_isThere 25 = .ok (.istore 5, 2) := by decide +kernel
theorem dX9_isThere_27 : decode cX9_isThere 27 = .ok (.iload_n 3, 1) := by decide +kernel
theorem dX9_isThere_28 : decode cX9_isThere 28 = .ok (.iload_n 1, 1) := by decide +kernel
theorem dX9_isThere_29 : decode cX9_isThere 29 = .ok (.if_icmp .ge 36, 3) := by decide +kernel
theorem dX9_isThere_32 : decode cX9_isThere 32 = .ok (.iload 4, 2) := by decide +kernel
theorem dX9_isThere_34 : decode cX9_isThere 34 = .ok (.iload_n 2, 1) := by decide +kernel
theorem dX9_isThere_35 : decode cX9_isThere 35 = .ok (.if_icmp .ge 30, 3) := by decide +kernel
theorem dX9_isThere_38 : decode cX9_isThere 38 = .ok (.iload 5, 2) := by decide +kernel
theorem dX9_isThere_40 : decode cX9_isThere 40 = .ok (.ifCond .eq 14, 3) := by decide +kernel
theorem dX9_isThere_43 : decode cX9_isThere 43 = .ok (.iload 4, 2) := by decide +kernel
theorem dX9_isThere_45 : decode cX9_isThere 45 = .ok (.iconst 1, 1) := by decide +kernel
theorem dX9_isThere_46 : decode cX9_isThere 46 = .ok (.iadd, 1) := by decide +kernel
theorem dX9_isThere_47 : decode cX9_isThere 47 = .ok (.iload_n 2, 1) := by decide +kernel
theorem dX9_isThere_48 : decode cX9_isThere 48 = .ok (.if_icmp .ge 17, 3) := by decide +kernel
theorem dX9_isThere_51 : decode cX9_isThere 51 = .ok (.goto 10, 3) := by decide +kernel
theorem dX9_isThere_54 : decode cX9_isThere 54 = .ok (.iload_n 3, 1) := by decide +kernel
theorem dX9_isThere_55 : decode cX9_isThere 55 = .ok (.iconst 1, 1) := by decide +kernel
theorem dX9_isThere_56 : decode cX9_isThere 56 = .ok (.iadd, 1) := by decide +kernel
theorem dX9_isThere_57 : decode cX9_isThere 57 = .ok (.iload_n 1, 1) := by decide +kernel
theorem dX9_isThere_58 : decode cX9_isThere 58 = .ok (.if_icmp .ge 7, 3) := by decide +kernel
theorem dX9_isThere_61 : decode cX9_isThere 61 = .ok (.iconst 1, 1) := by decide +kernel
theorem dX9_isThere_62 : decode cX9_isThere 62 = .ok (.goto 4, 3) := by decide +kernel
theorem dX9_isThere_65 : decode cX9_isThere 65 = .ok (.iconst 0, 1) := by decide +kernel
theorem dX9_isThere_66 : decode cX9_isThere 66 = .ok (.ireturn, 1) := by decide +kernel
theorem dX9_from_0 : decode cX9_from 0 = .ok (.iconst 5, 1) := by decide +kernel
theorem dX9_from_1 : decode cX9_from 1 = .ok (.iload_n 0, 1) := by decide +kernel
theorem dX9_from_2 : decode cX9_from 2 = .ok (.bipush 10, 2) := by decide +kernel
theorem dX9_from_4 : decode cX9_from 4 = .ok (.idiv, 1) := by decide +kernel
theorem dX9_from_5 : decode cX9_from 5 = .ok (.imul, 1) := by decide +kernel
theorem dX9_from_6 : decode cX9_from 6 = .ok (.iload_n 0, 1) := by decide +kernel
theorem dX9_from_7 : decode cX9_from 7 = .ok (.bipush 10, 2) := by decide +kernel
theorem dX9_from_9 : decode cX9_from 9 = .ok (.irem, 1) := by decide +kernel
theorem dX9_from_10 : decode cX9_from 10 = .ok (.iconst 2, 1) := by decide +kernel
theorem dX9_from_11 : decode cX9_from 11 = .ok (.idiv, 1) := by decide +kernel
theorem dX9_from_12 : decode cX9_from 12 = .ok (.iadd, 1) := by decide +kernel
theorem dX9_from_13 : decode cX9_from 13 = .ok (.ireturn, 1) := by decide +kernel
theorem dX9_to_0 : decode cX9_to 0 = .ok (.iload_n 0, 1) := by decide +kernel
theorem dX9_to_1 : decode cX9_to 1 = .ok (.invokestatic 190, 3) := by decide +kernel
theorem dX9_to_4 : decode cX9_to 4 = .ok (.iload_n 0, 1) := by decide +kernel
theorem dX9_to_5 : decode cX9_to 5 = .ok (.iconst 2, 1) := by decide +kernel
theorem dX9_to_6 : decode cX9_to 6 = .ok (.irem, 1) := by decide +kernel
theorem dX9_to_7 : decode cX9_to 7 = .ok (.iconst 1, 1) := by decide +kernel
theorem dX9_to_8 : decode cX9_to 8 = .ok (.if_icmp .ne 7, 3) := by decide +kernel
theorem dX9_to_11 : decode cX9_to 11 = .ok (.iconst 5, 1) := by decide +kernel
theorem dX9_to_12 : decode cX9_to 12 = .ok (.goto 4, 3) := by decide +kernel
theorem dX9_to_15 : decode cX9_to 15 = .ok (.iconst 1, 1) := by decide +kernel
theorem dX9_to_16 : decode cX9_to 16 = .ok (.iadd, 1) := by decide +kernel
theorem dX9_to_17 : decode cX9_to 17 = .ok (.ireturn, 1) := by decide +kernel
theorem dX9_howBy_0 : decode cX9_howBy 0 = .ok (.aload_n 1, 1) := by decide +kernel
theorem dX9_howBy_1 : decode cX9_howBy 1 = .ok (.iload_n 2, 1) := by decide +kernel
theorem dX9_howBy_2 : decode cX9_howBy 2 = .ok (.invokestatic 190, 3) := by decide +kernel
theorem dX9_howBy_5 : decode cX9_howBy 5 = .ok (.baload, 1) := by decide +kernel
theorem dX9_howBy_6 : decode cX9_howBy 6 = .ok (.ifCond .ne 12, 3) := by decide +kernel
theorem dX9_howBy_9 : decode cX9_howBy 9 = .ok (.aload_n 1, 1) := by decide +kernel
theorem dX9_howBy_10 : decode cX9_howBy 10 = .ok (.iload_n 2, 1) := by decide +kernel
theorem dX9_howBy_11 : decode cX9_howBy 11 = .ok (.invokestatic 194, 3) := by decide +kernel
theorem dX9_howBy_14 : decode cX9_howBy 14 = .ok (.baload, 1) := by decide +kernel
theorem dX9_howBy_15 : decode cX9_howBy 15 = .ok (.ifCond .eq 7, 3) := by decide +kernel
theorem dX9_howBy_18 : decode cX9_howBy 18 = .ok (.iconst 2, 1) := by decide +kernel
theorem dX9_howBy_19 : decode cX9_howBy 19 = .ok (.goto 6, 3) := by decide +kernel
theorem dX9_howBy_22 : decode cX9_howBy 22 = .ok (.aload_n 0, 1) := by decide +kernel
theorem dX9_howBy_23 : decode cX9_howBy 23 = .ok (.iload_n 2, 1) := by decide +kernel
theorem dX9_howBy_24 : decode cX9_howBy 24 = .ok (.iaload, 1) := by decide +kernel
theorem dX9_howBy_25 : decode cX9_howBy 25 = .ok (.ireturn, 1) := by decide +kernel
theorem dX9_freeBy_0 : decode cX9_freeBy 0 = .ok (.iconst 0, 1) := by decide +kernel
theorem dX9_freeBy_1 : decode cX9_freeBy 1 = .ok (.istore 4, 2) := by decide +kernel
theorem dX9_freeBy_3 : decode cX9_freeBy 3 = .ok (.iconst 0, 1) := by decide +kernel
theorem dX9_freeBy_4 : decode cX9_freeBy 4 = .ok (.istore 5, 2) := by decide +kernel
theorem dX9_freeBy_6 : decode cX9_freeBy 6 = .ok (.iload 5, 2) := by decide +kernel
theorem dX9_freeBy_8 : decode cX9_freeBy 8 = .ok (.bipush 50, 2) := by decide +kernel
theorem dX9_freeBy_10 : decode cX9_freeBy 10 = .ok (.if_icmp .ge 39, 3) := by decide +kernel
theorem dX9_freeBy_13 : decode cX9_freeBy 13 = .ok (.iload 4, 2) := by decide +kernel
theorem dX9_freeBy_15 : decode cX9_freeBy 15 = .ok (.iload 5, 2) := by decide +kernel
theorem dX9_freeBy_17 : decode cX9_freeBy 17 = .ok (.iload_n 2, 1) := by decide +kernel
theorem dX9_freeBy_18 : decode cX9_freeBy 18 = .ok (.iload_n 3, 1) := by decide +kernel
theorem dX9_freeBy_19 : decode cX9_freeBy 19 = .ok (.invokestatic 197, 3) := by decide +kernel
theorem dX9_freeBy_22 : decode cX9_freeBy 22 = .ok (.ifCond .eq 17, 3) := by decide +kernel
theorem dX9_freeBy_25 : decode cX9_freeBy 25 = .ok (.aload_n 0, 1) := by decide +kernel
theorem dX9_freeBy_26 : decode cX9_freeBy 26 = .ok (.aload_n 1, 1) := by decide +kernel
theorem dX9_freeBy_27 : decode cX9_freeBy 27 = .ok (.iload 5, 2) := by decide +kernel
theorem dX9_freeBy_29 : decode cX9_freeBy 29 = .ok (.invokestatic 200, 3) := by decide +kernel
theorem dX9_freeBy_32 : decode cX9_freeBy 32 = .ok (.ifCond .ne 7, 3) := by decide +kernel
theorem dX9_freeBy_35 : decode cX9_freeBy 35 = .ok (.iconst 1, 1) := by decide +kernel
theorem dX9_freeBy_36 : decode cX9_freeBy 36 = .ok (.goto 4, 3) := by decide +kernel
theorem dX9_freeBy_39 : decode cX9_freeBy 39 = .ok (.iconst 0, 1) := by decide +kernel
theorem dX9_freeBy_40 : decode cX9_freeBy 40 = .ok (.iadd, 1) := by decide +kernel
theorem dX9_freeBy_41 : decode cX9_freeBy 41 = .ok (.istore 4, 2) := by decide +kernel
theorem dX9_freeBy_43 : decode cX9_freeBy 43 = .ok (.iinc 5 1, 3) := by decide +kernel
theorem dX9_freeBy_46 : decode cX9_freeBy 46 = .ok (.goto (-40), 3) := by decide +kernel
theorem dX9_freeBy_49 : decode cX9_freeBy 49 = .ok (.iload 4, 2) := by decide +kernel
theorem dX9_freeBy_51 : decode cX9_freeBy 51 = .ok (.ireturn, 1) := by decide +kernel
theorem dX9_free_0 : decode cX9_free 0 = .ok (.aload_n 0, 1) := by decide +kernel
theorem dX9_free_1 : decode cX9_free 1 = .ok (.getfield 33, 3) := by decide +kernel
theorem dX9_free_4 : decode cX9_free 4 = .ok (.aload_n 0, 1) := by decide +kernel
theorem dX9_free_5 : decode cX9_free 5 = .ok (.getfield 36, 3) := by decide +kernel
theorem dX9_free_8 : decode cX9_free 8 = .ok (.aload_n 0, 1) := by decide +kernel
theorem dX9_free_9 : decode cX9_free 9 = .ok (.getfield 27, 3) := by decide +kernel
theorem dX9_free_12 : decode cX9_free 12 = .ok (.aload_n 0, 1) := by decide +kernel
theorem dX9_free_13 : decode cX9_free 13 = .ok (.getfield 30, 3) := by decide +kernel
theorem dX9_free_16 : decode cX9_free 16 = .ok (.invokestatic 180, 3) := by decide +kernel
theorem dX9_free_19 : decode cX9_free 19 = .ok (.ireturn, 1) := by decide +kernel
theorem dX9_how_0 : decode cX9_how 0 = .ok (.aload_n 0, 1) := by decide +kernel
theorem dX9_how_1 : decode cX9_how 1 = .ok (.getfield 33, 3) := by decide +kernel
theorem dX9_how_4 : decode cX9_how 4 = .ok (.aload_n 0, 1) := by decide +kernel
theorem dX9_how_5 : decode cX9_how 5 = .ok (.getfield 36, 3) := by decide +kernel
theorem dX9_how_8 : decode cX9_how 8 = .ok (.iload_n 1, 1) := by decide +kernel
theorem dX9_how_9 : decode cX9_how 9 = .ok (.invokestatic 200, 3) := by decide +kernel
theorem dX9_how_12 : decode cX9_how 12 = .ok (.ireturn, 1) := by decide +kernel
theorem dX9_isPipe_0 : decode cX9_isPipe 0 = .ok (.iload_n 1, 1) := by decide +kernel
theorem dX9_isPipe_1 : decode cX9_isPipe 1 = .ok (.aload_n 0, 1) := by decide +kernel
theorem dX9_isPipe_2 : decode cX9_isPipe 2 = .ok (.getfield 27, 3) := by decide +kernel
theorem dX9_isPipe_5 : decode cX9_isPipe 5 = .ok (.aload_n 0, 1) := by decide +kernel
theorem dX9_isPipe_6 : decode cX9_isPipe 6 = .ok (.getfield 30, 3) := by decide +kernel
theorem dX9_isPipe_9 : decode cX9_isPipe 9 = .ok (.invokestatic 197, 3) := by decide +kernel
theorem dX9_isPipe_12 : decode cX9_isPipe 12 = .ok (.ireturn, 1) := by decide +kernel
theorem dX9_isCell_0 : decode cX9_isCell 0 = .ok (.iload_n 1, 1) := by decide +kernel
theorem dX9_isCell_1 : decode cX9_isCell 1 = .ok (.iconst 0, 1) := by decide +kernel
theorem dX9_isCell_2 : decode cX9_isCell 2 = .ok (.aload_n 0, 1) := by decide +kernel
theorem dX9_isCell_3 : decode cX9_isCell 3 = .ok (.getfield 27, 3) := by decide +kernel
theorem dX9_isCell_6 : decode cX9_isCell 6 = .ok (.iconst 1, 1) := by decide +kernel
theorem dX9_isCell_7 : decode cX9_isCell 7 = .ok (.isub, 1) := by decide +kernel
theorem dX9_isCell_8 : decode cX9_isCell 8 = .ok (.invokestatic 142, 3) := by decide +kernel
theorem dX9_isCell_11 : decode cX9_isCell 11 = .ok (.ifCond .eq 21, 3) := by decide +kernel
theorem dX9_isCell_14 : decode cX9_isCell 14 = .ok (.iload_n 2, 1) := by decide +kernel
theorem dX9_isCell_15 : decode cX9_isCell 15 = .ok (.iconst 0, 1) := by decide +kernel
theorem dX9_isCell_16 : decode cX9_isCell 16 = .ok (.aload_n 0, 1) := by decide +kernel
theorem dX9_isCell_17 : decode cX9_isCell 17 = .ok (.getfield 30, 3) := by decide +kernel
theorem dX9_isCell_20 : decode cX9_isCell 20 = .ok (.iconst 1, 1) := by decide +kernel
theorem dX9_isCell_21 : decode cX9_isCell 21 = .ok (.isub, 1) := by decide +kernel
theorem dX9_isCell_22 : decode cX9_isCell 22 = .ok (.invokestatic 142, 3) := by decide +kernel
theorem dX9_isCell_25 : decode cX9_isCell 25 = .ok (.ifCond .eq 7, 3) := by decide +kernel
theorem dX9_isCell_28 : decode cX9_isCell 28 = .ok (.iconst 1, 1) := by decide +kernel
theorem dX9_isCell_29 : decode cX9_isCell 29 = .ok (.goto 4, 3) := by decide +kernel
theorem dX9_isCell_32 : decode cX9_isCell 32 = .ok (.iconst 0, 1) := by decide +kernel
theorem dX9_isCell_33 : decode cX9_isCell 33 = .ok (.ireturn, 1) := by decide +kernel
theorem dX9_pipeAt_0 : decode cX9_pipeAt 0 = .ok (.aload_n 0, 1) := by decide +kernel
theorem dX9_pipeAt_1 : decode cX9_pipeAt 1 = .ok (.iload_n 1, 1) := by decide +kernel
theorem dX9_pipeAt_2 : decode cX9_pipeAt 2 = .ok (.iload_n 2, 1) := by decide +kernel
theorem dX9_pipeAt_3 : decode cX9_pipeAt 3 = .ok (.invokevirtual 204, 3) := by decide +kernel
theorem dX9_pipeAt_6 : decode cX9_pipeAt 6 = .ok (.ifCond .ne 5, 3) := by decide +kernel
theorem dX9_pipeAt_9 : decode cX9_pipeAt 9 = .ok (.iconst (-1), 1) := by decide +kernel
theorem dX9_pipeAt_10 : decode cX9_pipeAt 10 = .ok (.ireturn, 1) := by decide +kernel
theorem dX9_pipeAt_11 : decode cX9_pipeAt 11 = .ok (.bipush 10, 2) := by decide +kernel
theorem dX9_pipeAt_13 : decode cX9_pipeAt 13 = .ok (.iload_n 2, 1) := by decide +kernel
theorem dX9_pipeAt_14 : decode cX9_pipeAt 14 = .ok (.imul, 1) := by decide +kernel
theorem dX9_pipeAt_15 : decode cX9_pipeAt 15 = .ok (.iconst 2, 1) := by decide +kernel
theorem dX9_pipeAt_16 : decode cX9_pipeAt 16 = .ok (.iload_n 1, 1) := by decide +kernel
theorem dX9_pipeAt_17 : decode cX9_pipeAt 17 = .ok (.imul, 1) := by decide +kernel
theorem dX9_pipeAt_18 : decode cX9_pipeAt 18 = .ok (.iadd, 1) := by decide +kernel
theorem dX9_pipeAt_19 : decode cX9_pipeAt 19 = .ok (.iload_n 3, 1) := by decide +kernel
theorem dX9_pipeAt_20 : decode cX9_pipeAt 20 = .ok (.ifCond .eq 7, 3) := by decide +kernel
theorem dX9_pipeAt_23 : decode cX9_pipeAt 23 = .ok (.iconst 1, 1) := by decide +kernel
theorem dX9_pipeAt_24 : decode cX9_pipeAt 24 = .ok (.goto 4, 3) := by decide +kernel
theorem dX9_pipeAt_27 : decode cX9_pipeAt 27 = .ok (.iconst 0, 1) := by decide +kernel
theorem dX9_pipeAt_28 : decode cX9_pipeAt 28 = .ok (.iadd, 1) := by decide +kernel
theorem dX9_pipeAt_29 : decode cX9_pipeAt 29 = .ok (.istore 4, 2) := by decide +kernel
theorem dX9_pipeAt_31 : decode cX9_pipeAt 31 = .ok (.aload_n 0, 1) := by decide +kernel
theorem dX9_pipeAt_32 : decode cX9_pipeAt 32 = .ok (.iload 4, 2) := by decide +kernel
theorem dX9_pipeAt_34 : decode cX9_pipeAt 34 = .ok (.invokevirtual 208, 3) := by decide +kernel
theorem dX9_pipeAt_37 : decode cX9_pipeAt 37 = .ok (.ifCond .eq 8, 3) := by decide +kernel
theorem dX9_pipeAt_40 : decode cX9_pipeAt 40 = .ok (.iload 4, 2) := by decide +kernel
theorem dX9_pipeAt_42 : decode cX9_pipeAt 42 = .ok (.goto 4, 3) := by decide +kernel
theorem dX9_pipeAt_45 : decode cX9_pipeAt 45 = .ok (.iconst (-1), 1) := by decide +kernel
theorem dX9_pipeAt_46 : decode cX9_pipeAt 46 = .ok (.ireturn, 1) := by decide +kernel
theorem dX9_pipe_0 : decode cX9_pipe 0 = .ok (.aload_n 0, 1) := by decide +kernel
theorem dX9_pipe_1 : decode cX9_pipe 1 = .ok (.iload_n 1, 1) := by decide +kernel
theorem dX9_pipe_2 : decode cX9_pipe 2 = .ok (.iload_n 2, 1) := by decide +kernel
theorem dX9_pipe_3 : decode cX9_pipe 3 = .ok (.iload_n 3, 1) := by decide +kernel
theorem dX9_pipe_4 : decode cX9_pipe 4 = .ok (.invokevirtual 211, 3) := by decide +kernel
theorem dX9_pipe_7 : decode cX9_pipe 7 = .ok (.istore 4, 2) := by decide +kernel
theorem dX9_pipe_9 : decode cX9_pipe 9 = .ok (.aload_n 0, 1) := by decide +kernel
theorem dX9_pipe_10 : decode cX9_pipe 10 = .ok (.iload 4, 2) := by decide +kernel
theorem dX9_pipe_12 : decode cX9_pipe 12 = .ok (.iconst (-1), 1) := by decide +kernel
theorem dX9_pipe_13 : decode cX9_pipe 13 = .ok (.if_icmp .ne 7, 3) := by decide +kernel
theorem dX9_pipe_16 : decode cX9_pipe 16 = .ok (.iconst 1, 1) := by decide +kernel
theorem dX9_pipe_17 : decode cX9_pipe 17 = .ok (.goto 4, 3) := by decide +kernel
theorem dX9_pipe_20 : decode cX9_pipe 20 = .ok (.iconst 0, 1) := by decide +kernel
theorem dX9_pipe_21 : decode cX9_pipe 21 = .ok (.putfield 103, 3) := by decide +kernel
theorem dX9_pipe_24 : decode cX9_pipe 24 = .ok (.aload_n 0, 1) := by decide +kernel
theorem dX9_pipe_25 : decode cX9_pipe 25 = .ok (.getfield 103, 3) := by decide +kernel
theorem dX9_pipe_28 : decode cX9_pipe 28 = .ok (.ifCond .le 7, 3) := by decide +kernel
theorem dX9_pipe_31 : decode cX9_pipe 31 = .ok (.iconst 0, 1) := by decide +kernel
theorem dX9_pipe_32 : decode cX9_pipe 32 = .ok (.goto 9, 3) := by decide +kernel
theorem dX9_pipe_35 : decode cX9_pipe 35 = .ok (.aload_n 0, 1) := by decide +kernel
theorem dX9_pipe_36 : decode cX9_pipe 36 = .ok (.iload 4, 2) := by decide +kernel
theorem dX9_pipe_38 : decode cX9_pipe 38 = .ok (.invokevirtual 215, 3) := by decide +kernel
theorem dX9_pipe_41 : decode cX9_pipe 41 = .ok (.ireturn, 1) := by decide +kernel
theorem dX9_stone_0 : decode cX9_stone 0 = .ok (.aload_n 0, 1) := by decide +kernel
theorem dX9_stone_1 : decode cX9_stone 1 = .ok (.aload_n 0, 1) := by decide +kernel
theorem dX9_stone_2 : decode cX9_stone 2 = .ok (.iload_n 1, 1) := by decide +kernel
theorem dX9_stone_3 : decode cX9_stone 3 = .ok (.iload_n 2, 1) := by decide +kernel
theorem dX9_stone_4 : decode cX9_stone 4 = .ok (.invokevirtual 204, 3) := by decide +kernel
theorem dX9_stone_7 : decode cX9_stone 7 = .ok (.ifCond .eq 7, 3) := by decide +kernel
theorem dX9_stone_10 : decode cX9_stone 10 = .ok (.iconst 0, 1) := by decide +kernel
theorem dX9_stone_11 : decode cX9_stone 11 = .ok (.goto 4, 3) := by decide +kernel
theorem dX9_stone_14 : decode cX9_stone 14 = .ok (.iconst 1, 1) := by decide +kernel
theorem dX9_stone_15 : decode cX9_stone 15 = .ok (.putfield 103, 3) := by decide +kernel
theorem dX9_stone_18 : decode cX9_stone 18 = .ok (.aload_n 0, 1) := by decide +kernel
theorem dX9_stone_19 : decode cX9_stone 19 = .ok (.getfield 103, 3) := by decide +kernel
theorem dX9_stone_22 : decode cX9_stone 22 = .ok (.ifCond .ne 20, 3) := by decide +kernel
theorem dX9_stone_25 : decode cX9_stone 25 = .ok (.aload_n 0, 1) := by decide +kernel
theorem dX9_stone_26 : decode cX9_stone 26 = .ok (.getfield 36, 3) := by decide +kernel
theorem dX9_stone_29 : decode cX9_stone 29 = .ok (.iconst 5, 1) := by decide +kernel
theorem dX9_stone_30 : decode cX9_stone 30 = .ok (.iload_n 2, 1) := by decide +kernel
theorem dX9_stone_31 : decode cX9_stone 31 = .ok (.imul, 1) := by decide +kernel
theorem dX9_stone_32 : decode cX9_stone 32 = .ok (.iload_n 1, 1) := by decide +kernel
theorem dX9_stone_33 : decode cX9_stone 33 = .ok (.iadd, 1) := by decide +kernel
theorem dX9_stone_34 : decode cX9_stone 34 = .ok (.baload, 1) := by decide +kernel
theorem dX9_stone_35 : decode cX9_stone 35 = .ok (.ifCond .eq 7, 3) := by decide +kernel
theorem dX9_stone_38 : decode cX9_stone 38 = .ok (.iconst 1, 1) := by decide +kernel
theorem dX9_stone_39 : decode cX9_stone 39 = .ok (.goto 4, 3) := by decide +kernel
theorem dX9_stone_42 : decode cX9_stone 42 = .ok (.iconst 0, 1) := by decide +kernel
theorem dX9_stone_43 : decode cX9_stone 43 = .ok (.ireturn, 1) := by decide +kernel
theorem dX9_remembers_0 : decode cX9_remembers 0 = .ok (.aload_n 0, 1) := by decide +kernel
theorem dX9_remembers_1 : decode cX9_remembers 1 = .ok (.getfield 184, 3) := by decide +kernel
theorem dX9_remembers_4 : decode cX9_remembers 4 = .ok (.bipush 16, 2) := by decide +kernel
theorem dX9_remembers_6 : decode cX9_remembers 6 = .ok (.if_icmp .ne 115, 3) := by decide +kernel
theorem dX9_remembers_9 : decode cX9_remembers 9 = .ok (.iconst 0, 1) := by decide +kernel
theorem dX9_remembers_10 : decode cX9_remembers 10 = .ok (.istore_n 1, 1) := by decide +kernel
theorem dX9_remembers_11 : decode cX9_remembers 11 = .ok (.iload_n 1, 1) := by decide +kernel
theorem dX9_remembers_12 : decode cX9_remembers 12 = .ok (.sipush 750, 3) := by decide +kernel
theorem dX9_remembers_15 : decode cX9_remembers 15 = .ok (.if_icmp .ge 24, 3) := by decide +kernel
theorem dX9_remembers_18 : decode cX9_remembers 18 = .ok (.aload_n 0, 1) := by decide +kernel
theorem dX9_remembers_19 : decode cX9_remembers 19 = .ok (.getfield 39, 3) := by decide +kernel
theorem dX9_remembers_22 : decode cX9_remembers 22 = .ok (.iload_n 1, 1) := by decide +kernel
theorem dX9_remembers_23 : decode cX9_remembers 23 = .ok (.aload_n 0, 1) := by decide +kernel
theorem dX9_remembers_24 : decode cX9_remembers 24 = .ok (.getfield 39, 3) := by decide +kernel
theorem dX9_remembers_27 : decode cX9_remembers 27 = .ok (.iload_n 1, 1) := by decide +kernel
theorem dX9_remembers_28 : decode cX9_remembers 28 = .ok (.bipush 50, 2) := by decide +kernel
theorem dX9_remembers_30 : decode cX9_remembers 30 = .ok (.iadd, 1) := by decide +kernel
theorem dX9_remembers_31 : decode cX9_remembers 31 = .ok (.iaload, 1) := by decide +kernel
theorem dX9_remembers_32 : decode cX9_remembers 32 = .ok (.iastore, 1) := by decide +kernel
theorem dX9_remembers_33 : decode cX9_remembers 33 = .ok (.iinc 1 1, 3) := by decide +kernel
theorem dX9_remembers_36 : decode cX9_remembers 36 = .ok (.goto (-25), 3) := by decide +kernel
theorem dX9_remembers_39 : decode cX9_remembers 39 = .ok (.iconst 0, 1) := by decide +kernel
theorem dX9_remembers_40 : decode cX9_remembers 40 = .ok (.istore_n 1, 1) := by decide +kernel
theorem dX9_remembers_41 : decode cX9_remembers 41 = .ok (.iload_n 1, 1) := by decide +kernel
theorem dX9_remembers_42 : decode cX9_remembers 42 = .ok (.sipush 375, 3) := by decide +kernel
theorem dX9_remembers_45 : decode cX9_remembers 45 = .ok (.if_icmp .ge 24, 3) := by decide +kernel
theorem dX9_remembers_48 : decode cX9_remembers 48 = .ok (.aload_n 0, 1) := by decide +kernel
theorem dX9_remembers_49 : decode cX9_remembers 49 = .ok (.getfield 42, 3) := by decide +kernel
theorem dX9_remembers_52 : decode cX9_remembers 52 = .ok (.iload_n 1, 1) := by decide +kernel
theorem dX9_remembers_53 : decode cX9_remembers 53 = .ok (.aload_n 0, 1) := by decide +kernel
theorem dX9_remembers_54 : decode cX9_remembers 54 = .ok (.getfield 42, 3) := by decide +kernel
theorem dX9_remembers_57 : decode cX9_remembers 57 = .ok (.iload_n 1, 1) := by decide +kernel
theorem dX9_remembers_58 : decode cX9_remembers 58 = .ok (.bipush 25, 2) := by decide +kernel
theorem dX9_remembers_60 : decode cX9_remembers 60 = .ok (.iadd, 1) := by decide +kernel
theorem dX9_remembers_61 : decode cX9_remembers 61 = .ok (.baload, 1) := by decide +kernel
theorem dX9_remembers_62 : decode cX9_remembers 62 = .ok (.bastore, 1) := by decide +kernel
theorem dX9_remembers_63 : decode cX9_remembers 63 = .ok (.iinc 1 1, 3) := by decide +kernel
theorem dX9_remembers_66 : decode cX9_remembers 66 = .ok (.goto (-25), 3) := by decide +kernel
theorem dX9_remembers_69 : decode cX9_remembers 69 = .ok (.iconst 0, 1) := by decide +kernel
theorem dX9_remembers_70 : decode cX9_remembers 70 = .ok (.istore_n 1, 1) := by decide +kernel
theorem dX9_remembers_71 : decode cX9_remembers 71 = .ok (.iload_n 1, 1) := by decide +kernel
theorem dX9_remembers_72 : decode cX9_remembers 72 = .ok (.bipush 15, 2) := by decide +kernel
theorem dX9_remembers_74 : decode cX9_remembers 74 = .ok (.if_icmp .ge 37, 3) := by decide +kernel
theorem dX9_remembers_77 : decode cX9_remembers 77 = .ok (.aload_n 0, 1) := by decide +kernel
theorem dX9_remembers_78 : decode cX9_remembers 78 = .ok (.getfield 45, 3) := by decide +kernel
theorem dX9_remembers_81 : decode cX9_remembers 81 = .ok (.iload_n 1, 1) := by decide +kernel
theorem dX9_remembers_82 : decode cX9_remembers 82 = .ok (.aload_n 0, 1) := by decide +kernel
theorem dX9_remembers_83 : decode cX9_remembers 83 = .ok (.getfield 45, 3) := by decide +kernel
theorem dX9_remembers_86 : decode cX9_remembers 86 = .ok (.iload_n 1, 1) := by decide +kernel
theorem dX9_remembers_87 : decode cX9_remembers 87 = .ok (.iconst 1, 1) := by decide +kernel
theorem dX9_remembers_88 : decode cX9_remembers 88 = .ok (.iadd, 1) := by decide +kernel
theorem dX9_remembers_89 : decode cX9_remembers 89 = .ok (.iaload, 1) := by decide +kernel
theorem dX9_remembers_90 : decode cX9_remembers 90 = .ok (.iastore, 1) := by decide +kernel
theorem dX9_remembers_91 : decode cX9_remembers 91 = .ok (.aload_n 0, 1) := by decide +kernel
theorem dX9_remembers_92 : decode cX9_remembers 92 = .ok (.getfield 48, 3) := by decide +kernel
theorem dX9_remembers_95 : decode cX9_remembers 95 = .ok (.iload_n 1, 1) := by decide +kernel
theorem dX9_remembers_96 : decode cX9_remembers 96 = .ok (.aload_n 0, 1) := by decide +kernel
theorem dX9_remembers_97 : decode cX9_remembers 97 = .ok (.getfield 48, 3) := by decide +kernel
theorem dX9_remembers_100 : decode cX9_remembers 100 = .ok (.iload_n 1, 1) := by decide +kernel
theorem dX9_remembers_101 : decode cX9_remembers 101 = .ok (.iconst 1, 1) := by decide +kernel
theorem dX9_remembers_102 : decode cX9_remembers 102 = .ok (.iadd, 1) := by decide +kernel
theorem dX9_remembers_103 : decode cX9_remembers 103 = .ok (.iaload, 1) := by decide +kernel
theorem dX9_remembers_104 : decode cX9_remembers 104 = .ok (.iastore, 1) := by decide +kernel
theorem dX9_remembers_105 : decode cX9_remembers 105 = .ok (.iinc 1 1, 3) := by decide +kernel
theorem dX9_remembers_108 : decode cX9_remembers 108 = .ok (.goto (-37), 3) := by decide +kernel
theorem dX9_remembers_111 : decode cX9_remembers 111 = .ok (.aload_n 0, 1) := by decide +kernel
theorem dX9_remembers_112 : decode cX9_remembers 112 = .ok (.dup, 1) := by decide +kernel
theorem dX9_remembers_113 : decode cX9_remembers 113 = .ok (.getfield 184, 3) := by decide +kernel
theorem dX9_remembers_116 : decode cX9_remembers 116 = .ok (.iconst 1, 1) := by decide +kernel
theorem dX9_remembers_117 : decode cX9_remembers 117 = .ok (.isub, 1) := by decide +kernel
theorem dX9_remembers_118 : decode cX9_remembers 118 = .ok (.putfield 184, 3) := by decide +kernel
theorem dX9_remembers_121 : decode cX9_remembers 121 = .ok (.iconst 0, 1) := by decide +kernel
theorem dX9_remembers_122 : decode cX9_remembers 122 = .ok (.istore_n 1, 1) := by decide +kernel
theorem dX9_remembers_123 : decode cX9_remembers 123 = .ok (.iload_n 1, 1) := by decide +kernel
theorem dX9_remembers_124 : decode cX9_remembers 124 = .ok (.bipush 50, 2) := by decide +kernel
theorem dX9_remembers_126 : decode cX9_remembers 126 = .ok (.if_icmp .ge 29, 3) := by decide +kernel
theorem dX9_remembers_129 : decode cX9_remembers 129 = .ok (.aload_n 0, 1) := by decide +kernel
theorem dX9_remembers_130 : decode cX9_remembers 130 = .ok (.getfield 39, 3) := by decide +kernel
theorem dX9_remembers_133 : decode cX9_remembers 133 = .ok (.bipush 50, 2) := by decide +kernel
theorem dX9_remembers_135 : decode cX9_remembers 135 = .ok (.aload_n 0, 1) := by decide +kernel
theorem dX9_remembers_136 : decode cX9_remembers 136 = .ok (.getfield 184, 3) := by decide +kernel
theorem dX9_remembers_139 : decode cX9_remembers 139 = .ok (.imul, 1) := by decide +kernel
theorem dX9_remembers_140 : decode cX9_remembers 140 = .ok (.iload_n 1, 1) := by decide +kernel
theorem dX9_remembers_141 : decode cX9_remembers 141 = .ok (.iadd, 1) := by decide +kernel
theorem dX9_remembers_142 : decode cX9_remembers 142 = .ok (.aload_n 0, 1) := by decide +kernel
theorem dX9_remembers_143 : decode cX9_remembers 143 = .ok (.getfield 33, 3) := by decide +kernel
theorem dX9_remembers_146 : decode cX9_remembers 146 = .ok (.iload_n 1, 1) := by decide +kernel
theorem dX9_remembers_147 : decode cX9_remembers 147 = .ok (.iaload, 1) := by decide +kernel
theorem dX9_remembers_148 : decode cX9_remembers 148 = .ok (.iastore, 1) := by decide +kernel
theorem dX9_remembers_149 : decode cX9_remembers 149 = .ok (.iinc 1 1, 3) := by decide +kernel
theorem dX9_remembers_152 : decode cX9_remembers 152 = .ok (.goto (-29), 3) := by decide +kernel
theorem dX9_remembers_155 : decode cX9_remembers 155 = .ok (.iconst 0, 1) := by decide +kernel
theorem dX9_remembers_156 : decode cX9_remembers 156 = .ok (.istore_n 1, 1) := by decide +kernel
theorem dX9_remembers_157 : decode cX9_remembers 157 = .ok (.iload_n 1, 1) := by decide +kernel
theorem dX9_remembers_158 : decode cX9_remembers 158 = .ok (.bipush 25, 2) := by decide +kernel
theorem dX9_remembers_160 : decode cX9_remembers 160 = .ok (.if_icmp .ge 29, 3) := by decide +kernel
theorem dX9_remembers_163 : decode cX9_remembers 163 = .ok (.aload_n 0, 1) := by decide +kernel
theorem dX9_remembers_164 : decode cX9_remembers 164 = .ok (.getfield 42, 3) := by decide +kernel
theorem dX9_remembers_167 : decode cX9_remembers 167 = .ok (.bipush 25, 2) := by decide +kernel
theorem dX9_remembers_169 : decode cX9_remembers 169 = .ok (.aload_n 0, 1) := by decide +kernel
theorem dX9_remembers_170 : decode cX9_remembers 170 = .ok (.getfield 184, 3) := by decide +kernel
theorem dX9_remembers_173 : decode cX9_remembers 173 = .ok (.imul, 1) := by decide +kernel
theorem dX9_remembers_174 : decode cX9_remembers 174 = .ok (.iload_n 1, 1) := by decide +kernel
theorem dX9_remembers_175 : decode cX9_remembers 175 = .ok (.iadd, 1) := by decide +kernel
theorem dX9_remembers_176 : decode cX9_remembers 176 = .ok (.aload_n 0, 1) := by decide +kernel
theorem dX9_remembers_177 : decode cX9_remembers 177 = .ok (.getfield 36, 3) := by decide +kernel
theorem dX9_remembers_180 : decode cX9_remembers 180 = .ok (.iload_n 1, 1) := by decide +kernel
theorem dX9_remembers_181 : decode cX9_remembers 181 = .ok (.baload, 1) := by decide +kernel
theorem dX9_remembers_182 : decode cX9_remembers 182 = .ok (.bastore, 1) := by decide +kernel
theorem dX9_remembers_183 : decode cX9_remembers 183 = .ok (.iinc 1 1, 3) := by decide +kernel
theorem dX9_remembers_186 : decode cX9_remembers 186 = .ok (.goto (-29), 3) := by decide +kernel
theorem dX9_remembers_189 : decode cX9_remembers 189 = .ok (.aload_n 0, 1) := by decide +kernel
theorem dX9_remembers_190 : decode cX9_remembers 190 = .ok (.getfield 45, 3) := by decide +kernel
theorem dX9_remembers_193 : decode cX9_remembers 193 = .ok (.aload_n 0, 1) := by decide +kernel
theorem dX9_remembers_194 : decode cX9_remembers 194 = .ok (.getfield 184, 3) := by decide +kernel
theorem dX9_remembers_197 : decode cX9_remembers 197 = .ok (.aload_n 0, 1) := by decide +kernel
theorem dX9_remembers_198 : decode cX9_remembers 198 = .ok (.getfield 27, 3) := by decide +kernel
theorem dX9_remembers_201 : decode cX9_remembers 201 = .ok (.iastore, 1) := by decide +kernel
theorem dX9_remembers_202 : decode cX9_remembers 202 = .ok (.aload_n 0, 1) := by decide +kernel
theorem dX9_remembers_203 : decode cX9_remembers 203 = .ok (.getfield 48, 3) := by decide +kernel
theorem dX9_remembers_206 : decode cX9_remembers 206 = .ok (.aload_n 0, 1) := by decide +kernel
theorem dX9_remembers_207 : decode cX9_remembers 207 = .ok (.getfield 184, 3) := by decide +kernel
theorem dX9_remembers_210 : decode cX9_remembers 210 = .ok (.aload_n 0, 1) := by decide +kernel
theorem dX9_remembers_211 : decode cX9_remembers 211 = .ok (.getfield 30, 3) := by decide +kernel
theorem dX9_remembers_214 : decode cX9_remembers 214 = .ok (.iastore, 1) := by decide +kernel
theorem dX9_remembers_215 : decode cX9_remembers 215 = .ok (.aload_n 0, 1) := by decide +kernel
theorem dX9_remembers_216 : decode cX9_remembers 216 = .ok (.dup, 1) := by decide +kernel
theorem dX9_remembers_217 : decode cX9_remembers 217 = .ok (.getfield 184, 3) := by decide +kernel
theorem dX9_remembers_220 : decode cX9_remembers 220 = .ok (.iconst 1, 1) := by decide +kernel
theorem dX9_remembers_221 : decode cX9_remembers 221 = .ok (.iadd, 1) := by decide +kernel
theorem dX9_remembers_222 : decode cX9_remembers 222 = .ok (.putfield 184, 3) := by decide +kernel
theorem dX9_remembers_225 : decode cX9_remembers 225 = .ok (.aload_n 0, 1) := by decide +kernel
theorem dX9_remembers_226 : decode cX9_remembers 226 = .ok (.iconst 0, 1) := by decide +kernel
theorem dX9_remembers_227 : decode cX9_remembers 227 = .ok (.putfield 99, 3) := by decide +kernel
theorem dX9_remembers_230 : decode cX9_remembers 230 = .ok (.return_, 1) := by decide +kernel
theorem dX9_tell_0 : decode cX9_tell 0 = .ok (.aload_n 0, 1) := by decide +kernel
theorem dX9_tell_1 : decode cX9_tell 1 = .ok (.iload_n 1, 1) := by decide +kernel
theorem dX9_tell_2 : decode cX9_tell 2 = .ok (.iload_n 2, 1) := by decide +kernel
theorem dX9_tell_3 : decode cX9_tell 3 = .ok (.iload_n 3, 1) := by decide +kernel
theorem dX9_tell_4 : decode cX9_tell 4 = .ok (.invokevirtual 211, 3) := by decide +kernel
theorem dX9_tell_7 : decode cX9_tell 7 = .ok (.istore 5, 2) := by decide +kernel
theorem dX9_tell_9 : decode cX9_tell 9 = .ok (.aload_n 0, 1) := by decide +kernel
theorem dX9_tell_10 : decode cX9_tell 10 = .ok (.iload 5, 2) := by decide +kernel
theorem dX9_tell_12 : decode cX9_tell 12 = .ok (.iconst (-1), 1) := by decide +kernel
theorem dX9_tell_13 : decode cX9_tell 13 = .ok (.if_icmp .ne 7, 3) := by decide +kernel
theorem dX9_tell_16 : decode cX9_tell 16 = .ok (.iconst 1, 1) := by decide +kernel
theorem dX9_tell_17 : decode cX9_tell 17 = .ok (.goto 18, 3) := by decide +kernel
theorem dX9_tell_20 : decode cX9_tell 20 = .ok (.iload 4, 2) := by decide +kernel
theorem dX9_tell_22 : decode cX9_tell 22 = .ok (.iconst 0, 1) := by decide +kernel
theorem dX9_tell_23 : decode cX9_tell 23 = .ok (.iconst 2, 1) := by decide +kernel
theorem dX9_tell_24 : decode cX9_tell 24 = .ok (.invokestatic 142, 3) := by decide +kernel
theorem dX9_tell_27 : decode cX9_tell 27 = .ok (.ifCond .ne 7, 3) := by decide +kernel
theorem dX9_tell_30 : decode cX9_tell 30 = .ok (.iconst 2, 1) := by decide +kernel
theorem dX9_tell_31 : decode cX9_tell 31 = .ok (.goto 4, 3) := by decide +kernel
theorem dX9_tell_34 : decode cX9_tell 34 = .ok (.iconst 0, 1) := by decide +kernel
theorem dX9_tell_35 : decode cX9_tell 35 = .ok (.putfield 103, 3) := by decide +kernel
theorem dX9_tell_38 : decode cX9_tell 38 = .ok (.aload_n 0, 1) := by decide +kernel
theorem dX9_tell_39 : decode cX9_tell 39 = .ok (.getfield 103, 3) := by decide +kernel
theorem dX9_tell_42 : decode cX9_tell 42 = .ok (.ifCond .le 5, 3) := by decide +kernel
theorem dX9_tell_45 : decode cX9_tell 45 = .ok (.iconst 0, 1) := by decide +kernel
theorem dX9_tell_46 : decode cX9_tell 46 = .ok (.ireturn, 1) := by decide +kernel
theorem dX9_tell_47 : decode cX9_tell 47 = .ok (.aload_n 0, 1) := by decide +kernel
theorem dX9_tell_48 : decode cX9_tell 48 = .ok (.getfield 33, 3) := by decide +kernel
theorem dX9_tell_51 : decode cX9_tell 51 = .ok (.iload 5, 2) := by decide +kernel
theorem dX9_tell_53 : decode cX9_tell 53 = .ok (.iaload, 1) := by decide +kernel
theorem dX9_tell_54 : decode cX9_tell 54 = .ok (.istore 6, 2) := by decide +kernel
theorem dX9_tell_56 : decode cX9_tell 56 = .ok (.aload_n 0, 1) := by decide +kernel
theorem dX9_tell_57 : decode cX9_tell 57 = .ok (.getfield 33, 3) := by decide +kernel
theorem dX9_tell_60 : decode cX9_tell 60 = .ok (.iload 5, 2) := by decide +kernel
theorem dX9_tell_62 : decode cX9_tell 62 = .ok (.iload 4, 2) := by decide +kernel
theorem dX9_tell_64 : decode cX9_tell 64 = .ok (.iastore, 1) := by decide +kernel
theorem dX9_tell_65 : decode cX9_tell 65 = .ok (.aload_n 0, 1) := by decide +kernel
theorem dX9_tell_66 : decode cX9_tell 66 = .ok (.invokevirtual 187, 3) := by decide +kernel
theorem dX9_tell_69 : decode cX9_tell 69 = .ok (.bipush 24, 2) := by decide +kernel
theorem dX9_tell_71 : decode cX9_tell 71 = .ok (.if_icmp .le 7, 3) := by decide +kernel
theorem dX9_tell_74 : decode cX9_tell 74 = .ok (.iconst 1, 1) := by decide +kernel
theorem dX9_tell_75 : decode cX9_tell 75 = .ok (.goto 4, 3) := by decide +kernel
theorem dX9_tell_78 : decode cX9_tell 78 = .ok (.iconst 0, 1) := by decide +kernel
theorem dX9_tell_79 : decode cX9_tell 79 = .ok (.istore 7, 2) := by decide +kernel
theorem dX9_tell_81 : decode cX9_tell 81 = .ok (.aload_n 0, 1) := by decide +kernel
theorem dX9_tell_82 : decode cX9_tell 82 = .ok (.getfield 33, 3) := by decide +kernel
theorem dX9_tell_85 : decode cX9_tell 85 = .ok (.iload 5, 2) := by decide +kernel
theorem dX9_tell_87 : decode cX9_tell 87 = .ok (.iload 6, 2) := by decide +kernel
theorem dX9_tell_89 : decode cX9_tell 89 = .ok (.iastore, 1) := by decide +kernel
theorem dX9_tell_90 : decode cX9_tell 90 = .ok (.aload_n 0, 1) := by decide +kernel
theorem dX9_tell_91 : decode cX9_tell 91 = .ok (.iload 7, 2) := by decide +kernel
theorem dX9_tell_93 : decode cX9_tell 93 = .ok (.ifCond .eq 7, 3) := by decide +kernel
theorem dX9_tell_96 : decode cX9_tell 96 = .ok (.iconst 3, 1) := by decide +kernel
theorem dX9_tell_97 : decode cX9_tell 97 = .ok (.goto 4, 3) := by decide +kernel
theorem dX9_tell_100 : decode cX9_tell 100 = .ok (.iconst 0, 1) := by decide +kernel
theorem dX9_tell_101 : decode cX9_tell 101 = .ok (.putfield 103, 3) := by decide +kernel
theorem dX9_tell_104 : decode cX9_tell 104 = .ok (.aload_n 0, 1) := by decide +kernel
theorem dX9_tell_105 : decode cX9_tell 105 = .ok (.getfield 103, 3) := by decide +kernel
theorem dX9_tell_108 : decode cX9_tell 108 = .ok (.ifCond .le 5, 3) := by decide +kernel
theorem dX9_tell_111 : decode cX9_tell 111 = .ok (.iconst 0, 1) := by decide +kernel
theorem dX9_tell_112 : decode cX9_tell 112 = .ok (.ireturn, 1) := by decide +kernel
theorem dX9_tell_113 : decode cX9_tell 113 = .ok (.aload_n 0, 1) := by decide +kernel
theorem dX9_tell_114 : decode cX9_tell 114 = .ok (.invokevirtual 218, 3) := by decide +kernel
theorem dX9_tell_117 : decode cX9_tell 117 = .ok (.aload_n 0, 1) := by decide +kernel
theorem dX9_tell_118 : decode cX9_tell 118 = .ok (.getfield 33, 3) := by decide +kernel
theorem dX9_tell_121 : decode cX9_tell 121 = .ok (.iload 5, 2) := by decide +kernel
theorem dX9_tell_123 : decode cX9_tell 123 = .ok (.iload 4, 2) := by decide +kernel
theorem dX9_tell_125 : decode cX9_tell 125 = .ok (.iastore, 1) := by decide +kernel
theorem dX9_tell_126 : decode cX9_tell 126 = .ok (.iload 6, 2) := by decide +kernel
theorem dX9_tell_128 : decode cX9_tell 128 = .ok (.ireturn, 1) := by decide +kernel
theorem dX9_put_0 : decode cX9_put 0 = .ok (.aload_n 0, 1) := by decide +kernel
theorem dX9_put_1 : decode cX9_put 1 = .ok (.aload_n 0, 1) := by decide +kernel
theorem dX9_put_2 : decode cX9_put 2 = .ok (.iload_n 1, 1) := by decide +kernel
theorem dX9_put_3 : decode cX9_put 3 = .ok (.iload_n 2, 1) := by decide +kernel
theorem dX9_put_4 : decode cX9_put 4 = .ok (.invokevirtual 204, 3) := by decide +kernel
theorem dX9_put_7 : decode cX9_put 7 = .ok (.ifCond .eq 7, 3) := by decide +kernel
theorem dX9_put_10 : decode cX9_put 10 = .ok (.iconst 0, 1) := by decide +kernel
theorem dX9_put_11 : decode cX9_put 11 = .ok (.goto 4, 3) := by decide +kernel
theorem dX9_put_14 : decode cX9_put 14 = .ok (.iconst 1, 1) := by decide +kernel
theorem dX9_put_15 : decode cX9_put 15 = .ok (.putfield 103, 3) := by decide +kernel
theorem dX9_put_18 : decode cX9_put 18 = .ok (.aload_n 0, 1) := by decide +kernel
theorem dX9_put_19 : decode cX9_put 19 = .ok (.getfield 103, 3) := by decide +kernel
theorem dX9_put_22 : decode cX9_put 22 = .ok (.ifCond .le 5, 3) := by decide +kernel
theorem dX9_put_25 : decode cX9_put 25 = .ok (.iconst 0, 1) := by decide +kernel
theorem dX9_put_26 : decode cX9_put 26 = .ok (.ireturn, 1) := by decide +kernel
theorem dX9_put_27 : decode cX9_put 27 = .ok (.iconst 5, 1) := by decide +kernel
theorem dX9_put_28 : decode cX9_put 28 = .ok (.iload_n 2, 1) := by decide +kernel
theorem dX9_put_29 : decode cX9_put 29 = .ok (.imul, 1) := by decide +kernel
theorem dX9_put_30 : decode cX9_put 30 = .ok (.iload_n 1, 1) := by decide +kernel
theorem dX9_put_31 : decode cX9_put 31 = .ok (.iadd, 1) := by decide +kernel
theorem dX9_put_32 : decode cX9_put 32 = .ok (.istore 4, 2) := by decide +kernel
theorem dX9_put_34 : decode cX9_put 34 = .ok (.aload_n 0, 1) := by decide +kernel
theorem dX9_put_35 : decode cX9_put 35 = .ok (.getfield 36, 3) := by decide +kernel
theorem dX9_put_38 : decode cX9_put 38 = .ok (.iload 4, 2) := by decide +kernel
theorem dX9_put_40 : decode cX9_put 40 = .ok (.baload, 1) := by decide +kernel
theorem dX9_put_41 : decode cX9_put 41 = .ok (.istore 5, 2) := by decide +kernel
theorem dX9_put_43 : decode cX9_put 43 = .ok (.aload_n 0, 1) := by decide +kernel
theorem dX9_put_44 : decode cX9_put 44 = .ok (.getfield 36, 3) := by decide +kernel
theorem dX9_put_47 : decode cX9_put 47 = .ok (.iload 4, 2) := by decide +kernel
theorem dX9_put_49 : decode cX9_put 49 = .ok (.iload_n 3, 1) := by decide +kernel
theorem dX9_put_50 : decode cX9_put 50 = .ok (.bastore, 1) := by decide +kernel
theorem dX9_put_51 : decode cX9_put 51 = .ok (.aload_n 0, 1) := by decide +kernel
theorem dX9_put_52 : decode cX9_put 52 = .ok (.invokevirtual 187, 3) := by decide +kernel
theorem dX9_put_55 : decode cX9_put 55 = .ok (.bipush 24, 2) := by decide +kernel
theorem dX9_put_57 : decode cX9_put 57 = .ok (.if_icmp .le 7, 3) := by decide +kernel
theorem dX9_put_60 : decode cX9_put 60 = .ok (.iconst 1, 1) := by decide +kernel
theorem dX9_put_61 : decode cX9_put 61 = .ok (.goto 4, 3) := by decide +kernel
theorem dX9_put_64 : decode cX9_put 64 = .ok (.iconst 0, 1) := by decide +kernel
theorem dX9_put_65 : decode cX9_put 65 = .ok (.istore 6, 2) := by decide +kernel
theorem dX9_put_67 : decode cX9_put 67 = .ok (.aload_n 0, 1) := by decide +kernel
theorem dX9_put_68 : decode cX9_put 68 = .ok (.getfield 36, 3) := by decide +kernel
theorem dX9_put_71 : decode cX9_put 71 = .ok (.iload 4, 2) := by decide +kernel
theorem dX9_put_73 : decode cX9_put 73 = .ok (.iload 5, 2) := by decide +kernel
theorem dX9_put_75 : decode cX9_put 75 = .ok (.bastore, 1) := by decide +kernel
theorem dX9_put_76 : decode cX9_put 76 = .ok (.aload_n 0, 1) := by decide +kernel
theorem dX9_put_77 : decode cX9_put 77 = .ok (.iload 6, 2) := by decide +kernel
theorem dX9_put_79 : decode cX9_put 79 = .ok (.ifCond .eq 7, 3) := by decide +kernel
theorem dX9_put_82 : decode cX9_put 82 = .ok (.iconst 2, 1) := by decide +kernel
theorem dX9_put_83 : decode cX9_put 83 = .ok (.goto 4, 3) := by decide +kernel
theorem dX9_put_86 : decode cX9_put 86 = .ok (.iconst 0, 1) := by decide +kernel
theorem dX9_put_87 : decode cX9_put 87 = .ok (.putfield 103, 3) := by decide +kernel
theorem dX9_put_90 : decode cX9_put 90 = .ok (.aload_n 0, 1) := by decide +kernel
theorem dX9_put_91 : decode cX9_put 91 = .ok (.getfield 103, 3) := by decide +kernel
theorem dX9_put_94 : decode cX9_put 94 = .ok (.ifCond .le 5, 3) := by decide +kernel
theorem dX9_put_97 : decode cX9_put 97 = .ok (.iconst 0, 1) := by decide +kernel
theorem dX9_put_98 : decode cX9_put 98 = .ok (.ireturn, 1) := by decide +kernel
theorem dX9_put_99 : decode cX9_put 99 = .ok (.aload_n 0, 1) := by decide +kernel
theorem dX9_put_100 : decode cX9_put 100 = .ok (.invokevirtual 218, 3) := by decide +kernel
theorem dX9_put_103 : decode cX9_put 103 = .ok (.aload_n 0, 1) := by decide +kernel
theorem dX9_put_104 : decode cX9_put 104 = .ok (.getfield 36, 3) := by decide +kernel
theorem dX9_put_107 : decode cX9_put 107 = .ok (.iload 4, 2) := by decide +kernel
theorem dX9_put_109 : decode cX9_put 109 = .ok (.iload_n 3, 1) := by decide +kernel
theorem dX9_put_110 : decode cX9_put 110 = .ok (.bastore, 1) := by decide +kernel
theorem dX9_put_111 : decode cX9_put 111 = .ok (.iload 5, 2) := by decide +kernel
theorem dX9_put_113 : decode cX9_put 113 = .ok (.ireturn, 1) := by decide +kernel
theorem dX9_turn_0 : decode cX9_turn 0 = .ok (.aload_n 0, 1) := by decide +kernel
theorem dX9_turn_1 : decode cX9_turn 1 = .ok (.iload_n 1, 1) := by decide +kernel
theorem dX9_turn_2 : decode cX9_turn 2 = .ok (.iconst 0, 1) := by decide +kernel
theorem dX9_turn_3 : decode cX9_turn 3 = .ok (.iconst 2, 1) := by decide +kernel
theorem dX9_turn_4 : decode cX9_turn 4 = .ok (.invokestatic 142, 3) := by decide +kernel
theorem dX9_turn_7 : decode cX9_turn 7 = .ok (.ifCond .eq 7, 3) := by decide +kernel
theorem dX9_turn_10 : decode cX9_turn 10 = .ok (.iconst 0, 1) := by decide +kernel
theorem dX9_turn_11 : decode cX9_turn 11 = .ok (.goto 4, 3) := by decide +kernel
theorem dX9_turn_14 : decode cX9_turn 14 = .ok (.iconst 1, 1) := by decide +kernel
theorem dX9_turn_15 : decode cX9_turn 15 = .ok (.putfield 103, 3) := by decide +kernel
theorem dX9_turn_18 : decode cX9_turn 18 = .ok (.aload_n 0, 1) := by decide +kernel
theorem dX9_turn_19 : decode cX9_turn 19 = .ok (.getfield 103, 3) := by decide +kernel
theorem dX9_turn_22 : decode cX9_turn 22 = .ok (.ifCond .le 4, 3) := by decide +kernel
theorem dX9_turn_25 : decode cX9_turn 25 = .ok (.return_, 1) := by decide +kernel
theorem dX9_turn_26 : decode cX9_turn 26 = .ok (.aload_n 0, 1) := by decide +kernel
theorem dX9_turn_27 : decode cX9_turn 27 = .ok (.invokevirtual 218, 3) := by decide +kernel
theorem dX9_turn_30 : decode cX9_turn 30 = .ok (.iload_n 1, 1) := by decide +kernel
theorem dX9_turn_31 : decode cX9_turn 31 = .ok (.iconst 2, 1) := by decide +kernel
theorem dX9_turn_32 : decode cX9_turn 32 = .ok (.if_icmp .ne 8, 3) := by decide +kernel
theorem dX9_turn_35 : decode cX9_turn 35 = .ok (.aload_n 0, 1) := by decide +kernel
theorem dX9_turn_36 : decode cX9_turn 36 = .ok (.invokevirtual 221, 3) := by decide +kernel
theorem dX9_turn_39 : decode cX9_turn 39 = .ok (.return_, 1) := by decide +kernel
theorem dX9_turn_40 : decode cX9_turn 40 = .ok (.bipush 50, 2) := by decide +kernel
theorem dX9_turn_42 : decode cX9_turn 42 = .ok (.aload_n 0, 1) := by decide +kernel
theorem dX9_turn_43 : decode cX9_turn 43 = .ok (.getfield 184, 3) := by decide +kernel
theorem dX9_turn_46 : decode cX9_turn 46 = .ok (.iconst 1, 1) := by decide +kernel
theorem dX9_turn_47 : decode cX9_turn 47 = .ok (.isub, 1) := by decide +kernel
theorem dX9_turn_48 : decode cX9_turn 48 = .ok (.imul, 1) := by decide +kernel
theorem dX9_turn_49 : decode cX9_turn 49 = .ok (.istore_n 2, 1) := by decide +kernel
theorem dX9_turn_50 : decode cX9_turn 50 = .ok (.bipush 25, 2) := by decide +kernel
theorem dX9_turn_52 : decode cX9_turn 52 = .ok (.aload_n 0, 1) := by decide +kernel
theorem dX9_turn_53 : decode cX9_turn 53 = .ok (.getfield 184, 3) := by decide +kernel
theorem dX9_turn_56 : decode cX9_turn 56 = .ok (.iconst 1, 1) := by decide +kernel
theorem dX9_turn_57 : decode cX9_turn 57 = .ok (.isub, 1) := by decide +kernel
theorem dX9_turn_58 : decode cX9_turn 58 = .ok (.imul, 1) := by decide +kernel
theorem dX9_turn_59 : decode cX9_turn 59 = .ok (.istore_n 3, 1) := by decide +kernel
theorem dX9_turn_60 : decode cX9_turn 60 = .ok (.iconst 0, 1) := by decide +kernel
theorem dX9_turn_61 : decode cX9_turn 61 = .ok (.istore 4, 2) := by decide +kernel
theorem dX9_turn_63 : decode cX9_turn 63 = .ok (.iload 4, 2) := by decide +kernel
theorem dX9_turn_65 : decode cX9_turn 65 = .ok (.aload_n 0, 1) := by decide +kernel
theorem dX9_turn_66 : decode cX9_turn 66 = .ok (.getfield 30, 3) := by decide +kernel
theorem dX9_turn_69 : decode cX9_turn 69 = .ok (.if_icmp .ge 215, 3) := by decide +kernel
theorem dX9_turn_72 : decode cX9_turn 72 = .ok (.iconst 0, 1) := by decide +kernel
theorem dX9_turn_73 : decode cX9_turn 73 = .ok (.istore 5, 2) := by decide +kernel
theorem dX9_turn_75 : decode cX9_turn 75 = .ok (.iload 5, 2) := by decide +kernel
theorem dX9_turn_77 : decode cX9_turn 77 = .ok (.aload_n 0, 1) := by decide +kernel
theorem dX9_turn_78 : decode cX9_turn 78 = .ok (.getfield 27, 3) := by decide +kernel
theorem dX9_turn_81 : decode cX9_turn 81 = .ok (.if_icmp .ge 197, 3) := by decide +kernel
theorem dX9_turn_84 : decode cX9_turn 84 = .ok (.iload_n 1, 1) := by decide +kernel
theorem dX9_turn_85 : decode cX9_turn 85 = .ok (.ifCond .ne 15, 3) := by decide +kernel
theorem dX9_turn_88 : decode cX9_turn 88 = .ok (.aload_n 0, 1) := by decide +kernel
theorem dX9_turn_89 : decode cX9_turn 89 = .ok (.getfield 27, 3) := by decide +kernel
theorem dX9_turn_92 : decode cX9_turn 92 = .ok (.iconst 1, 1) := by decide +kernel
theorem dX9_turn_93 : decode cX9_turn 93 = .ok (.isub, 1) := by decide +kernel
theorem dX9_turn_94 : decode cX9_turn 94 = .ok (.iload 5, 2) := by decide +kernel
theorem dX9_turn_96 : decode cX9_turn 96 = .ok (.isub, 1) := by decide +kernel
theorem dX9_turn_97 : decode cX9_turn 97 = .ok (.goto 5, 3) := by decide +kernel
theorem dX9_turn_100 : decode cX9_turn 100 = .ok (.iload 5, 2) := by decide +kernel
theorem dX9_turn_102 : decode cX9_turn 102 = .ok (.istore 6, 2) := by decide +kernel
theorem dX9_turn_104 : decode cX9_turn 104 = .ok (.iload_n 1, 1) := by decide +kernel
theorem dX9_turn_105 : decode cX9_turn 105 = .ok (.iconst 1, 1) := by decide +kernel
theorem dX9_turn_106 : decode cX9_turn 106 = .ok (.if_icmp .ne 15, 3) := by decide +kernel
theorem dX9_turn_109 : decode cX9_turn 109 = .ok (.aload_n 0, 1) := by decide +kernel
theorem dX9_turn_110 : decode cX9_turn 110 = .ok (.getfield 30, 3) := by decide +kernel
theorem dX9_turn_113 : decode cX9_turn 113 = .ok (.iconst 1, 1) := by decide +kernel
theorem dX9_turn_114 : decode cX9_turn 114 = .ok (.isub, 1) := by decide +kernel
theorem dX9_turn_115 : decode cX9_turn 115 = .ok (.iload 4, 2) := by decide +kernel
theorem dX9_turn_117 : decode cX9_turn 117 = .ok (.isub, 1) := by decide +kernel
theorem dX9_turn_118 : decode cX9_turn 118 = .ok (.goto 5, 3) := by decide +kernel
theorem dX9_turn_121 : decode cX9_turn 121 = .ok (.iload 4, 2) := by decide +kernel
theorem dX9_turn_123 : decode cX9_turn 123 = .ok (.istore 7, 2) := by decide +kernel
theorem dX9_turn_125 : decode cX9_turn 125 = .ok (.aload_n 0, 1) := by decide +kernel
theorem dX9_turn_126 : decode cX9_turn 126 = .ok (.getfield 36, 3) := by decide +kernel
theorem dX9_turn_129 : decode cX9_turn 129 = .ok (.iconst 5, 1) := by decide +kernel
theorem dX9_turn_130 : decode cX9_turn 130 = .ok (.iload 7, 2) := by decide +kernel
theorem dX9_turn_132 : decode cX9_turn 132 = .ok (.imul, 1) := by decide +kernel
theorem dX9_turn_133 : decode cX9_turn 133 = .ok (.iload 6, 2) := by decide +kernel
theorem dX9_turn_135 : decode cX9_turn 135 = .ok (.iadd, 1) := by decide +kernel
theorem dX9_turn_136 : decode cX9_turn 136 = .ok (.aload_n 0, 1) := by decide +kernel
theorem dX9_turn_137 : decode cX9_turn 137 = .ok (.getfield 42, 3) := by decide +kernel
theorem dX9_turn_140 : decode cX9_turn 140 = .ok (.iload_n 3, 1) := by decide +kernel
theorem dX9_turn_141 : decode cX9_turn 141 = .ok (.iconst 5, 1) := by decide +kernel
theorem dX9_turn_142 : decode cX9_turn 142 = .ok (.iload 4, 2) := by decide +kernel
theorem dX9_turn_144 : decode cX9_turn 144 = .ok (.imul, 1) := by decide +kernel
theorem dX9_turn_145 : decode cX9_turn 145 = .ok (.iadd, 1) := by decide +kernel
theorem dX9_turn_146 : decode cX9_turn 146 = .ok (.iload 5, 2) := by decide +kernel
theorem dX9_turn_148 : decode cX9_turn 148 = .ok (.iadd, 1) := by decide +kernel
theorem dX9_turn_149 : decode cX9_turn 149 = .ok (.baload, 1) := by decide +kernel
theorem dX9_turn_150 : decode cX9_turn 150 = .ok (.bastore, 1) := by decide +kernel
theorem dX9_turn_151 : decode cX9_turn 151 = .ok (.bipush 10, 2) := by decide +kernel
theorem dX9_turn_153 : decode cX9_turn 153 = .ok (.iload 7, 2) := by decide +kernel
theorem dX9_turn_155 : decode cX9_turn 155 = .ok (.imul, 1) := by decide +kernel
theorem dX9_turn_156 : decode cX9_turn 156 = .ok (.iconst 2, 1) := by decide +kernel
theorem dX9_turn_157 : decode cX9_turn 157 = .ok (.iload_n 1, 1) := by decide +kernel
theorem dX9_turn_158 : decode cX9_turn 158 = .ok (.ifCond .ne 10, 3) := by decide +kernel
theorem dX9_turn_161 : decode cX9_turn 161 = .ok (.iload 6, 2) := by decide +kernel
theorem dX9_turn_163 : decode cX9_turn 163 = .ok (.iconst 1, 1) := by decide +kernel
theorem dX9_turn_164 : decode cX9_turn 164 = .ok (.isub, 1) := by decide +kernel
theorem dX9_turn_165 : decode cX9_turn 165 = .ok (.goto 5, 3) := by decide +kernel
theorem dX9_turn_168 : decode cX9_turn 168 = .ok (.iload 6, 2) := by decide +kernel
theorem dX9_turn_170 : decode cX9_turn 170 = .ok (.imul, 1) := by decide +kernel
theorem dX9_turn_171 : decode cX9_turn 171 = .ok (.iadd, 1) := by decide +kernel
theorem dX9_turn_172 : decode cX9_turn 172 = .ok (.istore 8, 2) := by decide +kernel
theorem dX9_turn_174 : decode cX9_turn 174 = .ok (.bipush 10, 2) := by decide +kernel
theorem dX9_turn_176 : decode cX9_turn 176 = .ok (.iload_n 1, 1) := by decide +kernel
theorem dX9_turn_177 : decode cX9_turn 177 = .ok (.iconst 1, 1) := by decide +kernel
theorem dX9_turn_178 : decode cX9_turn 178 = .ok (.if_icmp .ne 10, 3) := by decide +kernel
theorem dX9_turn_181 : decode cX9_turn 181 = .ok (.iload 7, 2) := by decide +kernel
theorem dX9_turn_183 : decode cX9_turn 183 = .ok (.iconst 1, 1) := by decide +kernel
theorem dX9_turn_184 : decode cX9_turn 184 = .ok (.isub, 1) := by decide +kernel
theorem dX9_turn_185 : decode cX9_turn 185 = .ok (.goto 5, 3) := by decide +kernel
theorem dX9_turn_188 : decode cX9_turn 188 = .ok (.iload 7, 2) := by decide +kernel
theorem dX9_turn_190 : decode cX9_turn 190 = .ok (.imul, 1) := by decide +kernel
theorem dX9_turn_191 : decode cX9_turn 191 = .ok (.iconst 2, 1) := by decide +kernel
theorem dX9_turn_192 : decode cX9_turn 192 = .ok (.iload 6, 2) := by decide +kernel
theorem dX9_turn_194 : decode cX9_turn 194 = .ok (.imul, 1) := by decide +kernel
theorem dX9_turn_195 : decode cX9_turn 195 = .ok (.iadd, 1) := by decide +kernel
theorem dX9_turn_196 : decode cX9_turn 196 = .ok (.iconst 1, 1) := by decide +kernel
theorem dX9_turn_197 : decode cX9_turn 197 = .ok (.iadd, 1) := by decide +kernel
theorem dX9_turn_198 : decode cX9_turn 198 = .ok (.istore 9, 2) := by decide +kernel
theorem dX9_turn_200 : decode cX9_turn 200 = .ok (.iload 5, 2) := by decide +kernel
theorem dX9_turn_202 : decode cX9_turn 202 = .ok (.iconst 1, 1) := by decide +kernel
theorem dX9_turn_203 : decode cX9_turn 203 = .ok (.iadd, 1) := by decide +kernel
theorem dX9_turn_204 : decode cX9_turn 204 = .ok (.aload_n 0, 1) := by decide +kernel
theorem dX9_turn_205 : decode cX9_turn 205 = .ok (.getfield 27, 3) := by decide +kernel
theorem dX9_turn_208 : decode cX9_turn 208 = .ok (.if_icmp .ge 27, 3) := by decide +kernel
theorem dX9_turn_211 : decode cX9_turn 211 = .ok (.aload_n 0, 1) := by decide +kernel
theorem dX9_turn_212 : decode cX9_turn 212 = .ok (.getfield 33, 3) := by decide +kernel
theorem dX9_turn_215 : decode cX9_turn 215 = .ok (.iload 8, 2) := by decide +kernel
theorem dX9_turn_217 : decode cX9_turn 217 = .ok (.aload_n 0, 1) := by decide +kernel
theorem dX9_turn_218 : decode cX9_turn 218 = .ok (.getfield 39, 3) := by decide +kernel
theorem dX9_turn_221 : decode cX9_turn 221 = .ok (.iload_n 2, 1) := by decide +kernel
theorem dX9_turn_222 : decode cX9_turn 222 = .ok (.bipush 10, 2) := by decide +kernel
theorem dX9_turn_224 : decode cX9_turn 224 = .ok (.iload 4, 2) := by decide +kernel
theorem dX9_turn_226 : decode cX9_turn 226 = .ok (.imul, 1) := by decide +kernel
theorem dX9_turn_227 : decode cX9_turn 227 = .ok (.iadd, 1) := by decide +kernel
theorem dX9_turn_228 : decode cX9_turn 228 = .ok (.iconst 2, 1) := by decide +kernel
theorem dX9_turn_229 : decode cX9_turn 229 = .ok (.iload 5, 2) := by decide +kernel
theorem dX9_turn_231 : decode cX9_turn 231 = .ok (.imul, 1) := by decide +kernel
theorem dX9_turn_232 : decode cX9_turn 232 = .ok (.iadd, 1) := by decide +kernel
theorem dX9_turn_233 : decode cX9_turn 233 = .ok (.iaload, 1) := by decide +kernel
theorem dX9_turn_234 : decode cX9_turn 234 = .ok (.iastore, 1) := by decide +kernel
theorem dX9_turn_235 : decode cX9_turn 235 = .ok (.iload 4, 2) := by decide +kernel
theorem dX9_turn_237 : decode cX9_turn 237 = .ok (.iconst 1, 1) := by decide +kernel
theorem dX9_turn_238 : decode cX9_turn 238 = .ok (.iadd, 1) := by decide +kernel
theorem dX9_turn_239 : decode cX9_turn 239 = .ok (.aload_n 0, 1) := by decide +kernel
theorem dX9_turn_240 : decode cX9_turn 240 = .ok (.getfield 30, 3) := by decide +kernel
theorem dX9_turn_243 : decode cX9_turn 243 = .ok (.if_icmp .ge 29, 3) := by decide +kernel
theorem dX9_turn_246 : decode cX9_turn 246 = .ok (.aload_n 0, 1) := by decide +kernel
theorem dX9_turn_247 : decode cX9_turn 247 = .ok (.getfield 33, 3) := by decide +kernel
theorem dX9_turn_250 : decode cX9_turn 250 = .ok (.iload 9, 2) := by decide +kernel
theorem dX9_turn_252 : decode cX9_turn 252 = .ok (.aload_n 0, 1) := by decide +kernel
theorem dX9_turn_253 : decode cX9_turn 253 = .ok (.getfield 39, 3) := by decide +kernel
theorem dX9_turn_256 : decode cX9_turn 256 = .ok (.iload_n 2, 1) := by decide +kernel
theorem dX9_turn_257 : decode cX9_turn 257 = .ok (.bipush 10, 2) := by decide +kernel
theorem dX9_turn_259 : decode cX9_turn 259 = .ok (.iload 4, 2) := by decide +kernel
theorem dX9_turn_261 : decode cX9_turn 261 = .ok (.imul, 1) := by decide +kernel
theorem dX9_turn_262 : decode cX9_turn 262 = .ok (.iadd, 1) := by decide +kernel
theorem dX9_turn_263 : decode cX9_turn 263 = .ok (.iconst 2, 1) := by decide +kernel
theorem dX9_turn_264 : decode cX9_turn 264 = .ok (.iload 5, 2) := by decide +kernel
theorem dX9_turn_266 : decode cX9_turn 266 = .ok (.imul, 1) := by decide +kernel
theorem dX9_turn_267 : decode cX9_turn 267 = .ok (.iadd, 1) := by decide +kernel
theorem dX9_turn_268 : decode cX9_turn 268 = .ok (.iconst 1, 1) := by decide +kernel
theorem dX9_turn_269 : decode cX9_turn 269 = .ok (.iadd, 1) := by decide +kernel
theorem dX9_turn_270 : decode cX9_turn 270 = .ok (.iaload, 1) := by decide +kernel
theorem dX9_turn_271 : decode cX9_turn 271 = .ok (.iastore, 1) := by decide +kernel
theorem dX9_turn_272 : decode cX9_turn 272 = .ok (.iinc 5 1, 3) := by decide +kernel
theorem dX9_turn_275 : decode cX9_turn 275 = .ok (.goto (-200), 3) := by decide +kernel
theorem dX9_turn_278 : decode cX9_turn 278 = .ok (.iinc 4 1, 3) := by decide +kernel
theorem dX9_turn_281 : decode cX9_turn 281 = .ok (.goto (-218), 3) := by decide +kernel
theorem dX9_turn_284 : decode cX9_turn 284 = .ok (.return_, 1) := by decide +kernel
theorem dX9_turnsOver_0 : decode cX9_turnsOver 0 = .ok (.bipush 50, 2) := by decide +kernel
theorem dX9_turnsOver_2 : decode cX9_turnsOver 2 = .ok (.aload_n 0, 1) := by decide +kernel
theorem dX9_turnsOver_3 : decode cX9_turnsOver 3 = .ok (.getfield 184, 3) := by decide +kernel
theorem dX9_turnsOver_6 : decode cX9_turnsOver 6 = .ok (.iconst 1, 1) := by decide +kernel
theorem dX9_turnsOver_7 : decode cX9_turnsOver 7 = .ok (.isub, 1) := by decide +kernel
theorem dX9_turnsOver_8 : decode cX9_turnsOver 8 = .ok (.imul, 1) := by decide +kernel
theorem dX9_turnsOver_9 : decode cX9_turnsOver 9 = .ok (.istore_n 1, 1) := by decide +kernel
theorem dX9_turnsOver_10 : decode cX9_turnsOver 10 = .ok (.bipush 25, 2) := by decide +kernel
theorem dX9_turnsOver_12 : decode cX9_turnsOver 12 = .ok (.aload_n 0, 1) := by decide +kernel
theorem dX9_turnsOver_13 : decode cX9_turnsOver 13 = .ok (.getfield 184, 3) := by decide +kernel
theorem dX9_turnsOver_16 : decode cX9_turnsOver 16 = .ok (.iconst 1, 1) := by decide +kernel
theorem dX9_turnsOver_17 : decode cX9_turnsOver 17 = .ok (.isub, 1) := by decide +kernel
theorem dX9_turnsOver_18 : decode cX9_turnsOver 18 = .ok (.imul, 1) := by decide +kernel
theorem dX9_turnsOver_19 : decode cX9_turnsOver 19 = .ok (.istore_n 2, 1) := by decide +kernel
theorem dX9_turnsOver_20 : decode cX9_turnsOver 20 = .ok (.iconst 0, 1) := by decide +kernel
theorem dX9_turnsOver_21 : decode cX9_turnsOver 21 = .ok (.istore_n 3, 1) := by decide +kernel
theorem dX9_turnsOver_22 : decode cX9_turnsOver 22 = .ok (.iload_n 3, 1) := by decide +kernel
theorem dX9_turnsOver_23 : decode cX9_turnsOver 23 = .ok (.bipush 50, 2) := by decide +kernel
theorem dX9_turnsOver_25 : decode cX9_turnsOver 25 = .ok (.if_icmp .ge 16, 3) := by decide +kernel
theorem dX9_turnsOver_28 : decode cX9_turnsOver 28 = .ok (.aload_n 0, 1) := by decide +kernel
theorem dX9_turnsOver_29 : decode cX9_turnsOver 29 = .ok (.getfield 33, 3) := by decide +kernel
theorem dX9_turnsOver_32 : decode cX9_turnsOver 32 = .ok (.iload_n 3, 1) := by decide +kernel
theorem dX9_turnsOver_33 : decode cX9_turnsOver 33 = .ok (.iconst 0, 1) := by decide +kernel
theorem dX9_turnsOver_34 : decode cX9_turnsOver 34 = .ok (.iastore, 1) := by decide +kernel
theorem dX9_turnsOver_35 : decode cX9_turnsOver 35 = .ok (.iinc 3 1, 3) := by decide +kernel
theorem dX9_turnsOver_38 : decode cX9_turnsOver 38 = .ok (.goto (-16), 3) := by decide +kernel
theorem dX9_turnsOver_41 : decode cX9_turnsOver 41 = .ok (.iconst 0, 1) := by decide +kernel
theorem dX9_turnsOver_42 : decode cX9_turnsOver 42 = .ok (.istore_n 3, 1) := by decide +kernel
theorem dX9_turnsOver_43 : decode cX9_turnsOver 43 = .ok (.iload_n 3, 1) := by decide +kernel
theorem dX9_turnsOver_44 : decode cX9_turnsOver 44 = .ok (.bipush 25, 2) := by decide +kernel
theorem dX9_turnsOver_46 : decode cX9_turnsOver 46 = .ok (.if_icmp .ge 16, 3) := by decide +kernel
theorem dX9_turnsOver_49 : decode cX9_turnsOver 49 = .ok (.aload_n 0, 1) := by decide +kernel
theorem dX9_turnsOver_50 : decode cX9_turnsOver 50 = .ok (.getfield 36, 3) := by decide +kernel
theorem dX9_turnsOver_53 : decode cX9_turnsOver 53 = .ok (.iload_n 3, 1) := by decide +kernel
theorem dX9_turnsOver_54 : decode cX9_turnsOver 54 = .ok (.iconst 0, 1) := by decide +kernel
theorem dX9_turnsOver_55 : decode cX9_turnsOver 55 = .ok (.bastore, 1) := by decide +kernel
theorem dX9_turnsOver_56 : decode cX9_turnsOver 56 = .ok (.iinc 3 1, 3) := by decide +kernel
theorem dX9_turnsOver_59 : decode cX9_turnsOver 59 = .ok (.goto (-16), 3) := by decide +kernel
theorem dX9_turnsOver_62 : decode cX9_turnsOver 62 = .ok (.iconst 0, 1) := by decide +kernel
theorem dX9_turnsOver_63 : decode cX9_turnsOver 63 = .ok (.istore_n 3, 1) := by decide +kernel
theorem dX9_turnsOver_64 : decode cX9_turnsOver 64 = .ok (.iload_n 3, 1) := by decide +kernel
theorem dX9_turnsOver_65 : decode cX9_turnsOver 65 = .ok (.aload_n 0, 1) := by decide +kernel
theorem dX9_turnsOver_66 : decode cX9_turnsOver 66 = .ok (.getfield 30, 3) := by decide +kernel
theorem dX9_turnsOver_69 : decode cX9_turnsOver 69 = .ok (.if_icmp .ge 136, 3) := by decide +kernel
theorem dX9_turnsOver_72 : decode cX9_turnsOver 72 = .ok (.iconst 0, 1) := by decide +kernel
theorem dX9_turnsOver_73 : decode cX9_turnsOver 73 = .ok (.istore 4, 2) := by decide +kernel
theorem dX9_turnsOver_75 : decode cX9_turnsOver 75 = .ok (.iload 4, 2) := by decide +kernel
theorem dX9_turnsOver_77 : decode cX9_turnsOver 77 = .ok (.aload_n 0, 1) := by decide +kernel
theorem dX9_turnsOver_78 : decode cX9_turnsOver 78 = .ok (.getfield 27, 3) := by decide +kernel
theorem dX9_turnsOver_81 : decode cX9_turnsOver 81 = .ok (.if_icmp .ge 118, 3) := by decide +kernel
theorem dX9_turnsOver_84 : decode cX9_turnsOver 84 = .ok (.aload_n 0, 1) := by decide +kernel
theorem dX9_turnsOver_85 : decode cX9_turnsOver 85 = .ok (.getfield 36, 3) := by decide +kernel
theorem dX9_turnsOver_88 : decode cX9_turnsOver 88 = .ok (.iconst 5, 1) := by decide +kernel
theorem dX9_turnsOver_89 : decode cX9_turnsOver 89 = .ok (.iload 4, 2) := by decide +kernel
theorem dX9_turnsOver_91 : decode cX9_turnsOver 91 = .ok (.imul, 1) := by decide +kernel
theorem dX9_turnsOver_92 : decode cX9_turnsOver 92 = .ok (.iload_n 3, 1) := by decide +kernel
theorem dX9_turnsOver_93 : decode cX9_turnsOver 93 = .ok (.iadd, 1) := by decide +kernel
theorem dX9_turnsOver_94 : decode cX9_turnsOver 94 = .ok (.aload_n 0, 1) := by decide +kernel
theorem dX9_turnsOver_95 : decode cX9_turnsOver 95 = .ok (.getfield 42, 3) := by decide +kernel
theorem dX9_turnsOver_98 : decode cX9_turnsOver 98 = .ok (.iload_n 2, 1) := by decide +kernel
theorem dX9_turnsOver_99 : decode cX9_turnsOver 99 = .ok (.iconst 5, 1) := by decide +kernel
theorem dX9_turnsOver_100 : decode cX9_turnsOver 100 = .ok (.iload_n 3, 1) := by decide +kernel
theorem dX9_turnsOver_101 : decode cX9_turnsOver 101 = .ok (.imul, 1) := by decide +kernel
theorem dX9_turnsOver_102 : decode cX9_turnsOver 102 = .ok (.iadd, 1) := by decide +kernel
theorem dX9_turnsOver_103 : decode cX9_turnsOver 103 = .ok (.iload 4, 2) := by decide +kernel
theorem dX9_turnsOver_105 : decode cX9_turnsOver 105 = .ok (.iadd, 1) := by decide +kernel
theorem dX9_turnsOver_106 : decode cX9_turnsOver 106 = .ok (.baload, 1) := by decide +kernel
theorem dX9_turnsOver_107 : decode cX9_turnsOver 107 = .ok (.bastore, 1) := by decide +kernel
theorem dX9_turnsOver_108 : decode cX9_turnsOver 108 = .ok (.iload 4, 2) := by decide +kernel
theorem dX9_turnsOver_110 : decode cX9_turnsOver 110 = .ok (.iconst 1, 1) := by decide +kernel
theorem dX9_turnsOver_111 : decode cX9_turnsOver 111 = .ok (.iadd, 1) := by decide +kernel
theorem dX9_turnsOver_112 : decode cX9_turnsOver 112 = .ok (.aload_n 0, 1) := by decide +kernel
theorem dX9_turnsOver_113 : decode cX9_turnsOver 113 = .ok (.getfield 27, 3) := by decide +kernel
theorem dX9_turnsOver_116 : decode cX9_turnsOver 116 = .ok (.if_icmp .ge 35, 3) := by decide +kernel
theorem dX9_turnsOver_119 : decode cX9_turnsOver 119 = .ok (.aload_n 0, 1) := by decide +kernel
theorem dX9_turnsOver_120 : decode cX9_turnsOver 120 = .ok (.getfield 33, 3) := by decide +kernel
theorem dX9_turnsOver_123 : decode cX9_turnsOver 123 = .ok (.bipush 10, 2) := by decide +kernel
theorem dX9_turnsOver_125 : decode cX9_turnsOver 125 = .ok (.iload 4, 2) := by decide +kernel
theorem dX9_turnsOver_127 : decode cX9_turnsOver 127 = .ok (.imul, 1) := by decide +kernel
theorem dX9_turnsOver_128 : decode cX9_turnsOver 128 = .ok (.iconst 2, 1) := by decide +kernel
theorem dX9_turnsOver_129 : decode cX9_turnsOver 129 = .ok (.iload_n 3, 1) := by decide +kernel
theorem dX9_turnsOver_130 : decode cX9_turnsOver 130 = .ok (.imul, 1) := by decide +kernel
theorem dX9_turnsOver_131 : decode cX9_turnsOver 131 = .ok (.iadd, 1) := by decide +kernel
theorem dX9_turnsOver_132 : decode cX9_turnsOver 132 = .ok (.iconst 1, 1) := by decide +kernel
theorem dX9_turnsOver_133 : decode cX9_turnsOver 133 = .ok (.iadd, 1) := by decide +kernel
theorem dX9_turnsOver_134 : decode cX9_turnsOver 134 = .ok (.aload_n 0, 1) := by decide +kernel
theorem dX9_turnsOver_135 : decode cX9_turnsOver 135 = .ok (.getfield 39, 3) := by decide +kernel
theorem dX9_turnsOver_138 : decode cX9_turnsOver 138 = .ok (.iload_n 1, 1) := by decide +kernel
theorem dX9_turnsOver_139 : decode cX9_turnsOver 139 = .ok (.bipush 10, 2) := by decide +kernel
theorem dX9_turnsOver_141 : decode cX9_turnsOver 141 = .ok (.iload_n 3, 1) := by decide +kernel
theorem dX9_turnsOver_142 : decode cX9_turnsOver 142 = .ok (.imul, 1) := by decide +kernel
theorem dX9_turnsOver_143 : decode cX9_turnsOver 143 = .ok (.iadd, 1) := by decide +kernel
theorem dX9_turnsOver_144 : decode cX9_turnsOver 144 = .ok (.iconst 2, 1) := by decide +kernel
theorem dX9_turnsOver_145 : decode cX9_turnsOver 145 = .ok (.iload 4, 2) := by decide +kernel
theorem dX9_turnsOver_147 : decode cX9_turnsOver 147 = .ok (.imul, 1) := by decide +kernel
theorem dX9_turnsOver_148 : decode cX9_turnsOver 148 = .ok (.iadd, 1) := by decide +kernel
theorem dX9_turnsOver_149 : decode cX9_turnsOver 149 = .ok (.iaload, 1) := by decide +kernel
theorem dX9_turnsOver_150 : decode cX9_turnsOver 150 = .ok (.iastore, 1) := by decide +kernel
theorem dX9_turnsOver_151 : decode cX9_turnsOver 151 = .ok (.iload_n 3, 1) := by decide +kernel
theorem dX9_turnsOver_152 : decode cX9_turnsOver 152 = .ok (.iconst 1, 1) := by decide +kernel
theorem dX9_turnsOver_153 : decode cX9_turnsOver 153 = .ok (.iadd, 1) := by decide +kernel
theorem dX9_turnsOver_154 : decode cX9_turnsOver 154 = .ok (.aload_n 0, 1) := by decide +kernel
theorem dX9_turnsOver_155 : decode cX9_turnsOver 155 = .ok (.getfield 30, 3) := by decide +kernel
theorem dX9_turnsOver_158 : decode cX9_turnsOver 158 = .ok (.if_icmp .ge 35, 3) := by decide +kernel
theorem dX9_turnsOver_161 : decode cX9_turnsOver 161 = .ok (.aload_n 0, 1) := by decide +kernel
theorem dX9_turnsOver_162 : decode cX9_turnsOver 162 = .ok (.getfield 33, 3) := by decide +kernel
theorem dX9_turnsOver_165 : decode cX9_turnsOver 165 = .ok (.bipush 10, 2) := by decide +kernel
theorem dX9_turnsOver_167 : decode cX9_turnsOver 167 = .ok (.iload 4, 2) := by decide +kernel
theorem dX9_turnsOver_169 : decode cX9_turnsOver 169 = .ok (.imul, 1) := by decide +kernel
theorem dX9_turnsOver_170 : decode cX9_turnsOver 170 = .ok (.iconst 2, 1) := by decide +kernel
theorem dX9_turnsOver_171 : decode cX9_turnsOver 171 = .ok (.iload_n 3, 1) := by decide +kernel
theorem dX9_turnsOver_172 : decode cX9_turnsOver 172 = .ok (.imul, 1) := by decide +kernel
theorem dX9_turnsOver_173 : decode cX9_turnsOver 173 = .ok (.iadd, 1) := by decide +kernel
theorem dX9_turnsOver_174 : decode cX9_turnsOver 174 = .ok (.aload_n 0, 1) := by decide +kernel
theorem dX9_turnsOver_175 : decode cX9_turnsOver 175 = .ok (.getfield 39, 3) := by decide +kernel
theorem dX9_turnsOver_178 : decode cX9_turnsOver 178 = .ok (.iload_n 1, 1) := by decide +kernel
theorem dX9_turnsOver_179 : decode cX9_turnsOver 179 = .ok (.bipush 10, 2) := by decide +kernel
theorem dX9_turnsOver_181 : decode cX9_turnsOver 181 = .ok (.iload_n 3, 1) := by decide +kernel
theorem dX9_turnsOver_182 : decode cX9_turnsOver 182 = .ok (.imul, 1) := by decide +kernel
theorem dX9_turnsOver_183 : decode cX9_turnsOver 183 = .ok (.iadd, 1) := by decide +kernel
theorem dX9_turnsOver_184 : decode cX9_turnsOver 184 = .ok (.iconst 2, 1) := by decide +kernel
theorem dX9_turnsOver_185 : decode cX9_turnsOver 185 = .ok (.iload 4, 2) := by decide +kernel
theorem dX9_turnsOver_187 : decode cX9_turnsOver 187 = .ok (.imul, 1) := by decide +kernel
theorem dX9_turnsOver_188 : decode cX9_turnsOver 188 = .ok (.iadd, 1) := by decide +kernel
theorem dX9_turnsOver_189 : decode cX9_turnsOver 189 = .ok (.iconst 1, 1) := by decide +kernel
theorem dX9_turnsOver_190 : decode cX9_turnsOver 190 = .ok (.iadd, 1) := by decide +kernel
theorem dX9_turnsOver_191 : decode cX9_turnsOver 191 = .ok (.iaload, 1) := by decide +kernel
theorem dX9_turnsOver_192 : decode cX9_turnsOver 192 = .ok (.iastore, 1) := by decide +kernel
theorem dX9_turnsOver_193 : decode cX9_turnsOver 193 = .ok (.iinc 4 1, 3) := by decide +kernel
theorem dX9_turnsOver_196 : decode cX9_turnsOver 196 = .ok (.goto (-121), 3) := by decide +kernel
theorem dX9_turnsOver_199 : decode cX9_turnsOver 199 = .ok (.iinc 3 1, 3) := by decide +kernel
theorem dX9_turnsOver_202 : decode cX9_turnsOver 202 = .ok (.goto (-138), 3) := by decide +kernel
theorem dX9_turnsOver_205 : decode cX9_turnsOver 205 = .ok (.aload_n 0, 1) := by decide +kernel
theorem dX9_turnsOver_206 : decode cX9_turnsOver 206 = .ok (.getfield 27, 3) := by decide +kernel
theorem dX9_turnsOver_209 : decode cX9_turnsOver 209 = .ok (.istore_n 3, 1) := by decide +kernel
theorem dX9_turnsOver_210 : decode cX9_turnsOver 210 = .ok (.aload_n 0, 1) := by decide +kernel
theorem dX9_turnsOver_211 : decode cX9_turnsOver 211 = .ok (.aload_n 0, 1) := by decide +kernel
theorem dX9_turnsOver_212 : decode cX9_turnsOver 212 = .ok (.getfield 30, 3) := by decide +kernel
theorem dX9_turnsOver_215 : decode cX9_turnsOver 215 = .ok (.putfield 27, 3) := by decide +kernel
theorem dX9_turnsOver_218 : decode cX9_turnsOver 218 = .ok (.aload_n 0, 1) := by decide +kernel
theorem dX9_turnsOver_219 : decode cX9_turnsOver 219 = .ok (.iload_n 3, 1) := by decide +kernel
theorem dX9_turnsOver_220 : decode cX9_turnsOver 220 = .ok (.putfield 30, 3) := by decide +kernel
theorem dX9_turnsOver_223 : decode cX9_turnsOver 223 = .ok (.return_, 1) := by decide +kernel
theorem dX9_undo_0 : decode cX9_undo 0 = .ok (.aload_n 0, 1) := by decide +kernel
theorem dX9_undo_1 : decode cX9_undo 1 = .ok (.iconst 0, 1) := by decide +kernel
theorem dX9_undo_2 : decode cX9_undo 2 = .ok (.putfield 103, 3) := by decide +kernel
theorem dX9_undo_5 : decode cX9_undo 5 = .ok (.aload_n 0, 1) := by decide +kernel
theorem dX9_undo_6 : decode cX9_undo 6 = .ok (.getfield 184, 3) := by decide +kernel
theorem dX9_undo_9 : decode cX9_undo 9 = .ok (.ifCond .ne 5, 3) := by decide +kernel
theorem dX9_undo_12 : decode cX9_undo 12 = .ok (.iconst (-1), 1) := by decide +kernel
theorem dX9_undo_13 : decode cX9_undo 13 = .ok (.ireturn, 1) := by decide +kernel
theorem dX9_undo_14 : decode cX9_undo 14 = .ok (.aload_n 0, 1) := by decide +kernel
theorem dX9_undo_15 : decode cX9_undo 15 = .ok (.dup, 1) := by decide +kernel
theorem dX9_undo_16 : decode cX9_undo 16 = .ok (.getfield 184, 3) := by decide +kernel
theorem dX9_undo_19 : decode cX9_undo 19 = .ok (.iconst 1, 1) := by decide +kernel
theorem dX9_undo_20 : decode cX9_undo 20 = .ok (.isub, 1) := by decide +kernel
theorem dX9_undo_21 : decode cX9_undo 21 = .ok (.putfield 184, 3) := by decide +kernel
theorem dX9_undo_24 : decode cX9_undo 24 = .ok (.iconst 0, 1) := by decide +kernel
theorem dX9_undo_25 : decode cX9_undo 25 = .ok (.istore_n 1, 1) := by decide +kernel
theorem dX9_undo_26 : decode cX9_undo 26 = .ok (.iload_n 1, 1) := by decide +kernel
theorem dX9_undo_27 : decode cX9_undo 27 = .ok (.bipush 50, 2) := by decide +kernel
theorem dX9_undo_29 : decode cX9_undo 29 = .ok (.if_icmp .ge 29, 3) := by decide +kernel
theorem dX9_undo_32 : decode cX9_undo 32 = .ok (.aload_n 0, 1) := by decide +kernel
theorem dX9_undo_33 : decode cX9_undo 33 = .ok (.getfield 33, 3) := by decide +kernel
theorem dX9_undo_36 : decode cX9_undo 36 = .ok (.iload_n 1, 1) := by decide +kernel
theorem dX9_undo_37 : decode cX9_undo 37 = .ok (.aload_n 0, 1) := by decide +kernel
theorem dX9_undo_38 : decode cX9_undo 38 = .ok (.getfield 39, 3) := by decide +kernel
theorem dX9_undo_41 : decode cX9_undo 41 = .ok (.bipush 50, 2) := by decide +kernel
theorem dX9_undo_43 : decode cX9_undo 43 = .ok (.aload_n 0, 1) := by decide +kernel
theorem dX9_undo_44 : decode cX9_undo 44 = .ok (.getfield 184, 3) := by decide +kernel
theorem dX9_undo_47 : decode cX9_undo 47 = .ok (.imul, 1) := by decide +kernel
theorem dX9_undo_48 : decode cX9_undo 48 = .ok (.iload_n 1, 1) := by decide +kernel
theorem dX9_undo_49 : decode cX9_undo 49 = .ok (.iadd, 1) := by decide +kernel
theorem dX9_undo_50 : decode cX9_undo 50 = .ok (.iaload, 1) := by decide +kernel
theorem dX9_undo_51 : decode cX9_undo 51 = .ok (.iastore, 1) := by decide +kernel
theorem dX9_undo_52 : decode cX9_undo 52 = .ok (.iinc 1 1, 3) := by decide +kernel
theorem dX9_undo_55 : decode cX9_undo 55 = .ok (.goto (-29), 3) := by decide +kernel
theorem dX9_undo_58 : decode cX9_undo 58 = .ok (.iconst 0, 1) := by decide +kernel
theorem dX9_undo_59 : decode cX9_undo 59 = .ok (.istore_n 1, 1) := by decide +kernel
theorem dX9_undo_60 : decode cX9_undo 60 = .ok (.iload_n 1, 1) := by decide +kernel
theorem dX9_undo_61 : decode cX9_undo 61 = .ok (.bipush 25, 2) := by decide +kernel
theorem dX9_undo_63 : decode cX9_undo 63 = .ok (.if_icmp .ge 29, 3) := by decide +kernel
theorem dX9_undo_66 : decode cX9_undo 66 = .ok (.aload_n 0, 1) := by decide +kernel
theorem dX9_undo_67 : decode cX9_undo 67 = .ok (.getfield 36, 3) := by decide +kernel
theorem dX9_undo_70 : decode cX9_undo 70 = .ok (.iload_n 1, 1) := by decide +kernel
theorem dX9_undo_71 : decode cX9_undo 71 = .ok (.aload_n 0, 1) := by decide +kernel
theorem dX9_undo_72 : decode cX9_undo 72 = .ok (.getfield 42, 3) := by decide +kernel
theorem dX9_undo_75 : decode cX9_undo 75 = .ok (.bipush 25, 2) := by decide +kernel
theorem dX9_undo_77 : decode cX9_undo 77 = .ok (.aload_n 0, 1) := by decide +kernel
theorem dX9_undo_78 : decode cX9_undo 78 = .ok (.getfield 184, 3) := by decide +kernel
theorem dX9_undo_81 : decode cX9_undo 81 = .ok (.imul, 1) := by decide +kernel
theorem dX9_undo_82 : decode cX9_undo 82 = .ok (.iload_n 1, 1) := by decide +kernel
theorem dX9_undo_83 : decode cX9_undo 83 = .ok (.iadd, 1) := by decide +kernel
theorem dX9_undo_84 : decode cX9_undo 84 = .ok (.baload, 1) := by decide +kernel
theorem dX9_undo_85 : decode cX9_undo 85 = .ok (.bastore, 1) := by decide +kernel
theorem dX9_undo_86 : decode cX9_undo 86 = .ok (.iinc 1 1, 3) := by decide +kernel
theorem dX9_undo_89 : decode cX9_undo 89 = .ok (.goto (-29), 3) := by decide +kernel
theorem dX9_undo_92 : decode cX9_undo 92 = .ok (.aload_n 0, 1) := by decide +kernel
theorem dX9_undo_93 : decode cX9_undo 93 = .ok (.aload_n 0, 1) := by decide +kernel
theorem dX9_undo_94 : decode cX9_undo 94 = .ok (.getfield 45, 3) := by decide +kernel
theorem dX9_undo_97 : decode cX9_undo 97 = .ok (.aload_n 0, 1) := by decide +kernel
theorem dX9_undo_98 : decode cX9_undo 98 = .ok (.getfield 184, 3) := by decide +kernel
theorem dX9_undo_101 : decode cX9_undo 101 = .ok (.iaload, 1) := by decide +kernel
theorem dX9_undo_102 : decode cX9_undo 102 = .ok (.putfield 27, 3) := by decide +kernel
theorem dX9_undo_105 : decode cX9_undo 105 = .ok (.aload_n 0, 1) := by decide +kernel
theorem dX9_undo_106 : decode cX9_undo 106 = .ok (.aload_n 0, 1) := by decide +kernel
theorem dX9_undo_107 : decode cX9_undo 107 = .ok (.getfield 48, 3) := by decide +kernel
theorem dX9_undo_110 : decode cX9_undo 110 = .ok (.aload_n 0, 1) := by decide +kernel
theorem dX9_undo_111 : decode cX9_undo 111 = .ok (.getfield 184, 3) := by decide +kernel
theorem dX9_undo_114 : decode cX9_undo 114 = .ok (.iaload, 1) := by decide +kernel
theorem dX9_undo_115 : decode cX9_undo 115 = .ok (.putfield 30, 3) := by decide +kernel
theorem dX9_undo_118 : decode cX9_undo 118 = .ok (.aload_n 0, 1) := by decide +kernel
theorem dX9_undo_119 : decode cX9_undo 119 = .ok (.iconst 0, 1) := by decide +kernel
theorem dX9_undo_120 : decode cX9_undo 120 = .ok (.putfield 99, 3) := by decide +kernel
theorem dX9_undo_123 : decode cX9_undo 123 = .ok (.aload_n 0, 1) := by decide +kernel
theorem dX9_undo_124 : decode cX9_undo 124 = .ok (.getfield 184, 3) := by decide +kernel
theorem dX9_undo_127 : decode cX9_undo 127 = .ok (.ireturn, 1) := by decide +kernel
theorem dX9_named_0 : decode cX9_named 0 = .ok (.iconst 0, 1) := by decide +kernel
theorem dX9_named_1 : decode cX9_named 1 = .ok (.istore_n 1, 1) := by decide +kernel
theorem dX9_named_2 : decode cX9_named 2 = .ok (.iconst 0, 1) := by decide +kernel
theorem dX9_named_3 : decode cX9_named 3 = .ok (.istore_n 2, 1) := by decide +kernel
theorem dX9_named_4 : decode cX9_named 4 = .ok (.iconst 0, 1) := by decide +kernel
theorem dX9_named_5 : decode cX9_named 5 = .ok (.istore_n 3, 1) := by decide +kernel
theorem dX9_named_6 : decode cX9_named 6 = .ok (.iload_n 3, 1) := by decide +kernel
theorem dX9_named_7 : decode cX9_named 7 = .ok (.aload_n 0, 1) := by decide +kernel
theorem dX9_named_8 : decode cX9_named 8 = .ok (.getfield 27, 3) := by decide +kernel
theorem dX9_named_11 : decode cX9_named 11 = .ok (.if_icmp .ge 146, 3) := by decide +kernel
theorem dX9_named_14 : decode cX9_named 14 = .ok (.aload_n 0, 1) := by decide +kernel
theorem dX9_named_15 : decode cX9_named 15 = .ok (.getfield 66, 3) := by decide +kernel
theorem dX9_named_18 : decode cX9_named 18 = .ok (.iload_n 3, 1) := by decide +kernel
theorem dX9_named_19 : decode cX9_named 19 = .ok (.iaload, 1) := by decide +kernel
theorem dX9_named_20 : decode cX9_named 20 = .ok (.istore 4, 2) := by decide +kernel
theorem dX9_named_22 : decode cX9_named 22 = .ok (.iload_n 3, 1) := by decide +kernel
theorem dX9_named_23 : decode cX9_named 23 = .ok (.istore 5, 2) := by decide +kernel
theorem dX9_named_25 : decode cX9_named 25 = .ok (.iload_n 3, 1) := by decide +kernel
theorem dX9_named_26 : decode cX9_named 26 = .ok (.iconst 1, 1) := by decide +kernel
theorem dX9_named_27 : decode cX9_named 27 = .ok (.isub, 1) := by decide +kernel
theorem dX9_named_28 : decode cX9_named 28 = .ok (.istore 6, 2) := by decide +kernel
theorem dX9_named_30 : decode cX9_named 30 = .ok (.iload 6, 2) := by decide +kernel
theorem dX9_named_32 : decode cX9_named 32 = .ok (.ifCond .lt 30, 3) := by decide +kernel
theorem dX9_named_35 : decode cX9_named 35 = .ok (.aload_n 0, 1) := by decide +kernel
theorem dX9_named_36 : decode cX9_named 36 = .ok (.getfield 66, 3) := by decide +kernel
theorem dX9_named_39 : decode cX9_named 39 = .ok (.iload 6, 2) := by decide +kernel
theorem dX9_named_41 : decode cX9_named 41 = .ok (.iaload, 1) := by decide +kernel
theorem dX9_named_42 : decode cX9_named 42 = .ok (.iload 4, 2) := by decide +kernel
theorem dX9_named_44 : decode cX9_named 44 = .ok (.if_icmp .ne 8, 3) := by decide +kernel
theorem dX9_named_47 : decode cX9_named 47 = .ok (.iload 6, 2) := by decide +kernel
theorem dX9_named_49 : decode cX9_named 49 = .ok (.goto 5, 3) := by decide +kernel
theorem dX9_named_52 : decode cX9_named 52 = .ok (.iload 5, 2) := by decide +kernel
theorem dX9_named_54 : decode cX9_named 54 = .ok (.istore 5, 2) := by decide +kernel
theorem dX9_named_56 : decode cX9_named 56 = .ok (.iinc 6 (-1), 3) := by decide +kernel
theorem dX9_named_59 : decode cX9_named 59 = .ok (.goto (-29), 3) := by decide +kernel
theorem dX9_named_62 : decode cX9_named 62 = .ok (.iload 4, 2) := by decide +kernel
theorem dX9_named_64 : decode cX9_named 64 = .ok (.ifCond .eq 20, 3) := by decide +kernel
theorem dX9_named_67 : decode cX9_named 67 = .ok (.iload 4, 2) := by decide +kernel
theorem dX9_named_69 : decode cX9_named 69 = .ok (.bipush 9, 2) := by decide +kernel
theorem dX9_named_71 : decode cX9_named 71 = .ok (.if_icmp .eq 13, 3) := by decide +kernel
theorem dX9_named_74 : decode cX9_named 74 = .ok (.iload 5, 2) := by decide +kernel
theorem dX9_named_76 : decode cX9_named 76 = .ok (.iload_n 3, 1) := by decide +kernel
theorem dX9_named_77 : decode cX9_named 77 = .ok (.if_icmp .ne 7, 3) := by decide +kernel
theorem dX9_named_80 : decode cX9_named 80 = .ok (.iconst 1, 1) := by decide +kernel
theorem dX9_named_81 : decode cX9_named 81 = .ok (.goto 4, 3) := by decide +kernel
theorem dX9_named_84 : decode cX9_named 84 = .ok (.iconst 0, 1) := by decide +kernel
theorem dX9_named_85 : decode cX9_named 85 = .ok (.istore 6, 2) := by decide +kernel
theorem dX9_named_87 : decode cX9_named 87 = .ok (.iload_n 2, 1) := by decide +kernel
theorem dX9_named_88 : decode cX9_named 88 = .ok (.iload 6, 2) := by decide +kernel
theorem dX9_named_90 : decode cX9_named 90 = .ok (.ifCond .eq 7, 3) := by decide +kernel
theorem dX9_named_93 : decode cX9_named 93 = .ok (.iconst 1, 1) := by decide +kernel
theorem dX9_named_94 : decode cX9_named 94 = .ok (.goto 4, 3) := by decide +kernel
theorem dX9_named_97 : decode cX9_named 97 = .ok (.iconst 0, 1) := by decide +kernel
theorem dX9_named_98 : decode cX9_named 98 = .ok (.iadd, 1) := by decide +kernel
theorem dX9_named_99 : decode cX9_named 99 = .ok (.istore_n 2, 1) := by decide +kernel
theorem dX9_named_100 : decode cX9_named 100 = .ok (.aload_n 0, 1) := by decide +kernel
theorem dX9_named_101 : decode cX9_named 101 = .ok (.getfield 81, 3) := by decide +kernel
theorem dX9_named_104 : decode cX9_named 104 = .ok (.iload_n 3, 1) := by decide +kernel
theorem dX9_named_105 : decode cX9_named 105 = .ok (.iload 4, 2) := by decide +kernel
theorem dX9_named_107 : decode cX9_named 107 = .ok (.ifCond .eq 10, 3) := by decide +kernel
theorem dX9_named_110 : decode cX9_named 110 = .ok (.iload 4, 2) := by decide +kernel
theorem dX9_named_112 : decode cX9_named 112 = .ok (.bipush 9, 2) := by decide +kernel
theorem dX9_named_114 : decode cX9_named 114 = .ok (.if_icmp .ne 8, 3) := by decide +kernel
theorem dX9_named_117 : decode cX9_named 117 = .ok (.iload 4, 2) := by decide +kernel
theorem dX9_named_119 : decode cX9_named 119 = .ok (.goto 19, 3) := by decide +kernel
theorem dX9_named_122 : decode cX9_named 122 = .ok (.iload 6, 2) := by decide +kernel
theorem dX9_named_124 : decode cX9_named 124 = .ok (.ifCond .eq 7, 3) := by decide +kernel
theorem dX9_named_127 : decode cX9_named 127 = .ok (.iload_n 2, 1) := by decide +kernel
theorem dX9_named_128 : decode cX9_named 128 = .ok (.goto 10, 3) := by decide +kernel
theorem dX9_named_131 : decode cX9_named 131 = .ok (.aload_n 0, 1) := by decide +kernel
theorem dX9_named_132 : decode cX9_named 132 = .ok (.getfield 81, 3) := by decide +kernel
theorem dX9_named_135 : decode cX9_named 135 = .ok (.iload 5, 2) := by decide +kernel
theorem dX9_named_137 : decode cX9_named 137 = .ok (.iaload, 1) := by decide +kernel
theorem dX9_named_138 : decode cX9_named 138 = .ok (.iastore, 1) := by decide +kernel
theorem dX9_named_139 : decode cX9_named 139 = .ok (.bipush 10, 2) := by decide +kernel
theorem dX9_named_141 : decode cX9_named 141 = .ok (.iload_n 1, 1) := by decide +kernel
theorem dX9_named_142 : decode cX9_named 142 = .ok (.imul, 1) := by decide +kernel
theorem dX9_named_143 : decode cX9_named 143 = .ok (.aload_n 0, 1) := by decide +kernel
theorem dX9_named_144 : decode cX9_named 144 = .ok (.getfield 81, 3) := by decide +kernel
theorem dX9_named_147 : decode cX9_named 147 = .ok (.iload_n 3, 1) := by decide +kernel
theorem dX9_named_148 : decode cX9_named 148 = .ok (.iaload, 1) := by decide +kernel
theorem dX9_named_149 : decode cX9_named 149 = .ok (.iadd, 1) := by decide +kernel
theorem dX9_named_150 : decode cX9_named 150 = .ok (.istore_n 1, 1) := by decide +kernel
theorem dX9_named_151 : decode cX9_named 151 = .ok (.iinc 3 1, 3) := by decide +kernel
theorem dX9_named_154 : decode cX9_named 154 = .ok (.goto (-148), 3) := by decide +kernel
theorem dX9_named_157 : decode cX9_named 157 = .ok (.iload_n 1, 1) := by decide +kernel
theorem dX9_named_158 : decode cX9_named 158 = .ok (.ireturn, 1) := by decide +kernel
theorem dX9_adds_0 : decode cX9_adds 0 = .ok (.aload_n 0, 1) := by decide +kernel
theorem dX9_adds_1 : decode cX9_adds 1 = .ok (.getfield 63, 3) := by decide +kernel
theorem dX9_adds_4 : decode cX9_adds 4 = .ok (.iload_n 2, 1) := by decide +kernel
theorem dX9_adds_5 : decode cX9_adds 5 = .ok (.iaload, 1) := by decide +kernel
theorem dX9_adds_6 : decode cX9_adds 6 = .ok (.ifCond .ne 77, 3) := by decide +kernel
theorem dX9_adds_9 : decode cX9_adds 9 = .ok (.sipush 300, 3) := by decide +kernel
theorem dX9_adds_12 : decode cX9_adds 12 = .ok (.iload_n 1, 1) := by decide +kernel
theorem dX9_adds_13 : decode cX9_adds 13 = .ok (.imul, 1) := by decide +kernel
theorem dX9_adds_14 : decode cX9_adds 14 = .ok (.aload_n 0, 1) := by decide +kernel
theorem dX9_adds_15 : decode cX9_adds 15 = .ok (.getfield 51, 3) := by decide +kernel
theorem dX9_adds_18 : decode cX9_adds 18 = .ok (.iload_n 1, 1) := by decide +kernel
theorem dX9_adds_19 : decode cX9_adds 19 = .ok (.iaload, 1) := by decide +kernel
theorem dX9_adds_20 : decode cX9_adds 20 = .ok (.iadd, 1) := by decide +kernel
theorem dX9_adds_21 : decode cX9_adds 21 = .ok (.istore 5, 2) := by decide +kernel
theorem dX9_adds_23 : decode cX9_adds 23 = .ok (.aload_n 0, 1) := by decide +kernel
theorem dX9_adds_24 : decode cX9_adds 24 = .ok (.getfield 54, 3) := by decide +kernel
theorem dX9_adds_27 : decode cX9_adds 27 = .ok (.iload 5, 2) := by decide +kernel
theorem dX9_adds_29 : decode cX9_adds 29 = .ok (.iload_n 2, 1) := by decide +kernel
theorem dX9_adds_30 : decode cX9_adds 30 = .ok (.iastore, 1) := by decide +kernel
theorem dX9_adds_31 : decode cX9_adds 31 = .ok (.iconst 0, 1) := by decide +kernel
theorem dX9_adds_32 : decode cX9_adds 32 = .ok (.istore 6, 2) := by decide +kernel
theorem dX9_adds_34 : decode cX9_adds 34 = .ok (.iload 6, 2) := by decide +kernel
theorem dX9_adds_36 : decode cX9_adds 36 = .ok (.bipush 25, 2) := by decide +kernel
theorem dX9_adds_38 : decode cX9_adds 38 = .ok (.if_icmp .ge 23, 3) := by decide +kernel
theorem dX9_adds_41 : decode cX9_adds 41 = .ok (.aload_n 0, 1) := by decide +kernel
theorem dX9_adds_42 : decode cX9_adds 42 = .ok (.getfield 58, 3) := by decide +kernel
theorem dX9_adds_45 : decode cX9_adds 45 = .ok (.bipush 25, 2) := by decide +kernel
theorem dX9_adds_47 : decode cX9_adds 47 = .ok (.iload 5, 2) := by decide +kernel
theorem dX9_adds_49 : decode cX9_adds 49 = .ok (.imul, 1) := by decide +kernel
theorem dX9_adds_50 : decode cX9_adds 50 = .ok (.iload 6, 2) := by decide +kernel
theorem dX9_adds_52 : decode cX9_adds 52 = .ok (.iadd, 1) := by decide +kernel
theorem dX9_adds_53 : decode cX9_adds 53 = .ok (.lconst 0, 1) := by decide +kernel
theorem dX9_adds_54 : decode cX9_adds 54 = .ok (.lastore, 1) := by decide +kernel
theorem dX9_adds_55 : decode cX9_adds 55 = .ok (.iinc 6 1, 3) := by decide +kernel
theorem dX9_adds_58 : decode cX9_adds 58 = .ok (.goto (-24), 3) := by decide +kernel
theorem dX9_adds_61 : decode cX9_adds 61 = .ok (.aload_n 0, 1) := by decide +kernel
theorem dX9_adds_62 : decode cX9_adds 62 = .ok (.getfield 51, 3) := by decide +kernel
theorem dX9_adds_65 : decode cX9_adds 65 = .ok (.iload_n 1, 1) := by decide +kernel
theorem dX9_adds_66 : decode cX9_adds 66 = .ok (.dup2, 1) := by decide +kernel
theorem dX9_adds_67 : decode cX9_adds 67 = .ok (.iaload, 1) := by decide +kernel
theorem dX9_adds_68 : decode cX9_adds 68 = .ok (.iconst 1, 1) := by decide +kernel
theorem dX9_adds_69 : decode cX9_adds 69 = .ok (.iadd, 1) := by decide +kernel
theorem dX9_adds_70 : decode cX9_adds 70 = .ok (.iastore, 1) := by decide +kernel
theorem dX9_adds_71 : decode cX9_adds 71 = .ok (.aload_n 0, 1) := by decide +kernel
theorem dX9_adds_72 : decode cX9_adds 72 = .ok (.getfield 63, 3) := by decide +kernel
theorem dX9_adds_75 : decode cX9_adds 75 = .ok (.iload_n 2, 1) := by decide +kernel
theorem dX9_adds_76 : decode cX9_adds 76 = .ok (.aload_n 0, 1) := by decide +kernel
theorem dX9_adds_77 : decode cX9_adds 77 = .ok (.getfield 51, 3) := by decide +kernel
theorem dX9_adds_80 : decode cX9_adds 80 = .ok (.iload_n 1, 1) := by decide +kernel
theorem dX9_adds_81 : decode cX9_adds 81 = .ok (.iaload, 1) := by decide +kernel
theorem dX9_adds_82 : decode cX9_adds 82 = .ok (.iastore, 1) := by decide +kernel
theorem dX9_adds_83 : decode cX9_adds 83 = .ok (.sipush 300, 3) := by decide +kernel
theorem dX9_adds_86 : decode cX9_adds 86 = .ok (.iload_n 1, 1) := by decide +kernel
theorem dX9_adds_87 : decode cX9_adds 87 = .ok (.imul, 1) := by decide +kernel
theorem dX9_adds_88 : decode cX9_adds 88 = .ok (.aload_n 0, 1) := by decide +kernel
theorem dX9_adds_89 : decode cX9_adds 89 = .ok (.getfield 63, 3) := by decide +kernel
theorem dX9_adds_92 : decode cX9_adds 92 = .ok (.iload_n 2, 1) := by decide +kernel
theorem dX9_adds_93 : decode cX9_adds 93 = .ok (.iaload, 1) := by decide +kernel
theorem dX9_adds_94 : decode cX9_adds 94 = .ok (.iadd, 1) := by decide +kernel
theorem dX9_adds_95 : decode cX9_adds 95 = .ok (.iconst 1, 1) := by decide +kernel
theorem dX9_adds_96 : decode cX9_adds 96 = .ok (.isub, 1) := by decide +kernel
theorem dX9_adds_97 : decode cX9_adds 97 = .ok (.istore 5, 2) := by decide +kernel
theorem dX9_adds_99 : decode cX9_adds 99 = .ok (.iload_n 3, 1) := by decide +kernel
theorem dX9_adds_100 : decode cX9_adds 100 = .ok (.iconst (-1), 1) := by decide +kernel
theorem dX9_adds_101 : decode cX9_adds 101 = .ok (.if_icmp .ne 21, 3) := by decide +kernel
theorem dX9_adds_104 : decode cX9_adds 104 = .ok (.aload_n 0, 1) := by decide +kernel
theorem dX9_adds_105 : decode cX9_adds 105 = .ok (.getfield 58, 3) := by decide +kernel
theorem dX9_adds_108 : decode cX9_adds 108 = .ok (.bipush 25, 2) := by decide +kernel
theorem dX9_adds_110 : decode cX9_adds 110 = .ok (.iload 5, 2) := by decide +kernel
theorem dX9_adds_112 : decode cX9_adds 112 = .ok (.imul, 1) := by decide +kernel
theorem dX9_adds_113 : decode cX9_adds 113 = .ok (.iload 4, 2) := by decide +kernel
theorem dX9_adds_115 : decode cX9_adds 115 = .ok (.iadd, 1) := by decide +kernel
theorem dX9_adds_116 : decode cX9_adds 116 = .ok (.dup2, 1) := by decide +kernel
theorem dX9_adds_117 : decode cX9_adds 117 = .ok (.laload, 1) := by decide +kernel
theorem dX9_adds_118 : decode cX9_adds 118 = .ok (.lconst 1, 1) := by decide +kernel
theorem dX9_adds_119 : decode cX9_adds 119 = .ok (.ladd, 1) := by decide +kernel
theorem dX9_adds_120 : decode cX9_adds 120 = .ok (.lastore, 1) := by decide +kernel
theorem dX9_adds_121 : decode cX9_adds 121 = .ok (.return_, 1) := by decide +kernel
theorem dX9_adds_122 : decode cX9_adds 122 = .ok (.iconst 0, 1) := by decide +kernel
theorem dX9_adds_123 : decode cX9_adds 123 = .ok (.istore 6, 2) := by decide +kernel
theorem dX9_adds_125 : decode cX9_adds 125 = .ok (.iload 6, 2) := by decide +kernel
theorem dX9_adds_127 : decode cX9_adds 127 = .ok (.iload 4, 2) := by decide +kernel
theorem dX9_adds_129 : decode cX9_adds 129 = .ok (.iadd, 1) := by decide +kernel
theorem dX9_adds_130 : decode cX9_adds 130 = .ok (.bipush 25, 2) := by decide +kernel
theorem dX9_adds_132 : decode cX9_adds 132 = .ok (.if_icmp .ge 40, 3) := by decide +kernel
theorem dX9_adds_135 : decode cX9_adds 135 = .ok (.aload_n 0, 1) := by decide +kernel
theorem dX9_adds_136 : decode cX9_adds 136 = .ok (.getfield 58, 3) := by decide +kernel
theorem dX9_adds_139 : decode cX9_adds 139 = .ok (.bipush 25, 2) := by decide +kernel
theorem dX9_adds_141 : decode cX9_adds 141 = .ok (.iload 5, 2) := by decide +kernel
theorem dX9_adds_143 : decode cX9_adds 143 = .ok (.imul, 1) := by decide +kernel
theorem dX9_adds_144 : decode cX9_adds 144 = .ok (.iload 6, 2) := by decide +kernel
theorem dX9_adds_146 : decode cX9_adds 146 = .ok (.iadd, 1) := by decide +kernel
theorem dX9_adds_147 : decode cX9_adds 147 = .ok (.iload 4, 2) := by decide +kernel
theorem dX9_adds_149 : decode cX9_adds 149 = .ok (.iadd, 1) := by decide +kernel
theorem dX9_adds_150 : decode cX9_adds 150 = .ok (.dup2, 1) := by decide +kernel
theorem dX9_adds_151 : decode cX9_adds 151 = .ok (.laload, 1) := by decide +kernel
theorem dX9_adds_152 : decode cX9_adds 152 = .ok (.aload_n 0, 1) := by decide +kernel
theorem dX9_adds_153 : decode cX9_adds 153 = .ok (.getfield 58, 3) := by decide +kernel
theorem dX9_adds_156 : decode cX9_adds 156 = .ok (.bipush 25, 2) := by decide +kernel
theorem dX9_adds_158 : decode cX9_adds 158 = .ok (.iload_n 3, 1) := by decide +kernel
theorem dX9_adds_159 : decode cX9_adds 159 = .ok (.imul, 1) := by decide +kernel
theorem dX9_adds_160 : decode cX9_adds 160 = .ok (.iload 6, 2) := by decide +kernel
theorem dX9_adds_162 : decode cX9_adds 162 = .ok (.iadd, 1) := by decide +kernel
theorem dX9_adds_163 : decode cX9_adds 163 = .ok (.laload, 1) := by decide +kernel
theorem dX9_adds_164 : decode cX9_adds 164 = .ok (.ladd, 1) := by decide +kernel
theorem dX9_adds_165 : decode cX9_adds 165 = .ok (.lastore, 1) := by decide +kernel
theorem dX9_adds_166 : decode cX9_adds 166 = .ok (.iinc 6 1, 3) := by decide +kernel
theorem dX9_adds_169 : decode cX9_adds 169 = .ok (.goto (-44), 3) := by decide +kernel
theorem dX9_adds_172 : decode cX9_adds 172 = .ok (.return_, 1) := by decide +kernel
theorem dX9_joinsLabels_0 : decode cX9_joinsLabels 0 = .ok (.iload_n 1, 1) := by decide +kernel
theorem dX9_joinsLabels_1 : decode cX9_joinsLabels 1 = .ok (.iload_n 2, 1) := by decide +kernel
theorem dX9_joinsLabels_2 : decode cX9_joinsLabels 2 = .ok (.if_icmp .ge 7, 3) := by decide +kernel
theorem dX9_joinsLabels_5 : decode cX9_joinsLabels 5 = .ok (.iload_n 1, 1) := by decide +kernel
theorem dX9_joinsLabels_6 : decode cX9_joinsLabels 6 = .ok (.goto 4, 3) := by decide +kernel
theorem dX9_joinsLabels_9 : decode cX9_joinsLabels 9 = .ok (.iload_n 2, 1) := by decide +kernel
theorem dX9_joinsLabels_10 : decode cX9_joinsLabels 10 = .ok (.istore_n 3, 1) := by decide +kernel
theorem dX9_joinsLabels_11 : decode cX9_joinsLabels 11 = .ok (.iload_n 1, 1) := by decide +kernel
theorem dX9_joinsLabels_12 : decode cX9_joinsLabels 12 = .ok (.iload_n 2, 1) := by decide +kernel
theorem dX9_joinsLabels_13 : decode cX9_joinsLabels 13 = .ok (.if_icmp .ge 7, 3) := by decide +kernel
theorem dX9_joinsLabels_16 : decode cX9_joinsLabels 16 = .ok (.iload_n 2, 1) := by decide +kernel
theorem dX9_joinsLabels_17 : decode cX9_joinsLabels 17 = .ok (.goto 4, 3) := by decide +kernel
theorem dX9_joinsLabels_20 : decode cX9_joinsLabels 20 = .ok (.iload_n 1, 1) := by decide +kernel
theorem dX9_joinsLabels_21 : decode cX9_joinsLabels 21 = .ok (.istore 4, 2) := by decide +kernel
theorem dX9_joinsLabels_23 : decode cX9_joinsLabels 23 = .ok (.iconst 0, 1) := by decide +kernel
theorem dX9_joinsLabels_24 : decode cX9_joinsLabels 24 = .ok (.istore 5, 2) := by decide +kernel
theorem dX9_joinsLabels_26 : decode cX9_joinsLabels 26 = .ok (.iload 5, 2) := by decide +kernel
theorem dX9_joinsLabels_28 : decode cX9_joinsLabels 28 = .ok (.aload_n 0, 1) := by decide +kernel
theorem dX9_joinsLabels_29 : decode cX9_joinsLabels 29 = .ok (.getfield 27, 3) := by decide +kernel
theorem dX9_joinsLabels_32 : decode cX9_joinsLabels 32 = .ok (.if_icmp .ge 39, 3) := by decide +kernel
theorem dX9_joinsLabels_35 : decode cX9_joinsLabels 35 = .ok (.aload_n 0, 1) := by decide +kernel
theorem dX9_joinsLabels_36 : decode cX9_joinsLabels 36 = .ok (.getfield 66, 3) := by decide +kernel
theorem dX9_joinsLabels_39 : decode cX9_joinsLabels 39 = .ok (.iload 5, 2) := by decide +kernel
theorem dX9_joinsLabels_41 : decode cX9_joinsLabels 41 = .ok (.aload_n 0, 1) := by decide +kernel
theorem dX9_joinsLabels_42 : decode cX9_joinsLabels 42 = .ok (.getfield 66, 3) := by decide +kernel
theorem dX9_joinsLabels_45 : decode cX9_joinsLabels 45 = .ok (.iload 5, 2) := by decide +kernel
theorem dX9_joinsLabels_47 : decode cX9_joinsLabels 47 = .ok (.iaload, 1) := by decide +kernel
theorem dX9_joinsLabels_48 : decode cX9_joinsLabels 48 = .ok (.iload 4, 2) := by decide +kernel
theorem dX9_joinsLabels_50 : decode cX9_joinsLabels 50 = .ok (.if_icmp .ne 7, 3) := by decide +kernel
theorem dX9_joinsLabels_53 : decode cX9_joinsLabels 53 = .ok (.iload_n 3, 1) := by decide +kernel
theorem dX9_joinsLabels_54 : decode cX9_joinsLabels 54 = .ok (.goto 10, 3) := by decide +kernel
theorem dX9_joinsLabels_57 : decode cX9_joinsLabels 57 = .ok (.aload_n 0, 1) := by decide +kernel
theorem dX9_joinsLabels_58 : decode cX9_joinsLabels 58 = .ok (.getfield 66, 3) := by decide +kernel
theorem dX9_joinsLabels_61 : decode cX9_joinsLabels 61 = .ok (.iload 5, 2) := by decide +kernel
theorem dX9_joinsLabels_63 : decode cX9_joinsLabels 63 = .ok (.iaload, 1) := by decide +kernel
theorem dX9_joinsLabels_64 : decode cX9_joinsLabels 64 = .ok (.iastore, 1) := by decide +kernel
theorem dX9_joinsLabels_65 : decode cX9_joinsLabels 65 = .ok (.iinc 5 1, 3) := by decide +kernel
theorem dX9_joinsLabels_68 : decode cX9_joinsLabels 68 = .ok (.goto (-42), 3) := by decide +kernel
theorem dX9_joinsLabels_71 : decode cX9_joinsLabels 71 = .ok (.return_, 1) := by decide +kernel
theorem dX9_laysLabels_0 : decode cX9_laysLabels 0 = .ok (.iconst 0, 1) := by decide +kernel
theorem dX9_laysLabels_1 : decode cX9_laysLabels 1 = .ok (.istore_n 2, 1) := by decide +kernel
theorem dX9_laysLabels_2 : decode cX9_laysLabels 2 = .ok (.iload_n 2, 1) := by decide +kernel
theorem dX9_laysLabels_3 : decode cX9_laysLabels 3 = .ok (.aload_n 0, 1) := by decide +kernel
theorem dX9_laysLabels_4 : decode cX9_laysLabels 4 = .ok (.getfield 27, 3) := by decide +kernel
theorem dX9_laysLabels_7 : decode cX9_laysLabels 7 = .ok (.if_icmp .ge 88, 3) := by decide +kernel
theorem dX9_laysLabels_10 : decode cX9_laysLabels 10 = .ok (.iload_n 1, 1) := by decide +kernel
theorem dX9_laysLabels_11 : decode cX9_laysLabels 11 = .ok (.ifCond .le 27, 3) := by decide +kernel
theorem dX9_laysLabels_14 : decode cX9_laysLabels 14 = .ok (.aload_n 0, 1) := by decide +kernel
theorem dX9_laysLabels_15 : decode cX9_laysLabels 15 = .ok (.getfield 72, 3) := by decide +kernel
theorem dX9_laysLabels_18 : decode cX9_laysLabels 18 = .ok (.bipush 10, 2) := by decide +kernel
theorem dX9_laysLabels_20 : decode cX9_laysLabels 20 = .ok (.iload_n 1, 1) := by decide +kernel
theorem dX9_laysLabels_21 : decode cX9_laysLabels 21 = .ok (.iconst 1, 1) := by decide +kernel
theorem dX9_laysLabels_22 : decode cX9_laysLabels 22 = .ok (.isub, 1) := by decide +kernel
theorem dX9_laysLabels_23 : decode cX9_laysLabels 23 = .ok (.imul, 1) := by decide +kernel
theorem dX9_laysLabels_24 : decode cX9_laysLabels 24 = .ok (.iconst 2, 1) := by decide +kernel
theorem dX9_laysLabels_25 : decode cX9_laysLabels 25 = .ok (.iload_n 2, 1) := by decide +kernel
theorem dX9_laysLabels_26 : decode cX9_laysLabels 26 = .ok (.imul, 1) := by decide +kernel
theorem dX9_laysLabels_27 : decode cX9_laysLabels 27 = .ok (.iadd, 1) := by decide +kernel
theorem dX9_laysLabels_28 : decode cX9_laysLabels 28 = .ok (.iconst 1, 1) := by decide +kernel
theorem dX9_laysLabels_29 : decode cX9_laysLabels 29 = .ok (.iadd, 1) := by decide +kernel
theorem dX9_laysLabels_30 : decode cX9_laysLabels 30 = .ok (.baload, 1) := by decide +kernel
theorem dX9_laysLabels_31 : decode cX9_laysLabels 31 = .ok (.ifCond .eq 7, 3) := by decide +kernel
theorem dX9_laysLabels_34 : decode cX9_laysLabels 34 = .ok (.iconst 1, 1) := by decide +kernel
theorem dX9_laysLabels_35 : decode cX9_laysLabels 35 = .ok (.goto 4, 3) := by decide +kernel
theorem dX9_laysLabels_38 : decode cX9_laysLabels 38 = .ok (.iconst 0, 1) := by decide +kernel
theorem dX9_laysLabels_39 : decode cX9_laysLabels 39 = .ok (.istore_n 3, 1) := by decide +kernel
theorem dX9_laysLabels_40 : decode cX9_laysLabels 40 = .ok (.aload_n 0, 1) := by decide +kernel
theorem dX9_laysLabels_41 : decode cX9_laysLabels 41 = .ok (.getfield 66, 3) := by decide +kernel
theorem dX9_laysLabels_44 : decode cX9_laysLabels 44 = .ok (.iload_n 2, 1) := by decide +kernel
theorem dX9_laysLabels_45 : decode cX9_laysLabels 45 = .ok (.aload_n 0, 1) := by decide +kernel
theorem dX9_laysLabels_46 : decode cX9_laysLabels 46 = .ok (.getfield 36, 3) := by decide +kernel
theorem dX9_laysLabels_49 : decode cX9_laysLabels 49 = .ok (.iconst 5, 1) := by decide +kernel
theorem dX9_laysLabels_50 : decode cX9_laysLabels 50 = .ok (.iload_n 1, 1) := by decide +kernel
theorem dX9_laysLabels_51 : decode cX9_laysLabels 51 = .ok (.imul, 1) := by decide +kernel
theorem dX9_laysLabels_52 : decode cX9_laysLabels 52 = .ok (.iload_n 2, 1) := by decide +kernel
theorem dX9_laysLabels_53 : decode cX9_laysLabels 53 = .ok (.iadd, 1) := by decide +kernel
theorem dX9_laysLabels_54 : decode cX9_laysLabels 54 = .ok (.baload, 1) := by decide +kernel
theorem dX9_laysLabels_55 : decode cX9_laysLabels 55 = .ok (.ifCond .eq 8, 3) := by decide +kernel
theorem dX9_laysLabels_58 : decode cX9_laysLabels 58 = .ok (.bipush 9, 2) := by decide +kernel
theorem dX9_laysLabels_60 : decode cX9_laysLabels 60 = .ok (.goto 28, 3) := by decide +kernel
theorem dX9_laysLabels_63 : decode cX9_laysLabels 63 = .ok (.iload_n 1, 1) := by decide +kernel
theorem dX9_laysLabels_64 : decode cX9_laysLabels 64 = .ok (.ifCond .ne 7, 3) := by decide +kernel
theorem dX9_laysLabels_67 : decode cX9_laysLabels 67 = .ok (.iconst 0, 1) := by decide +kernel
theorem dX9_laysLabels_68 : decode cX9_laysLabels 68 = .ok (.goto 20, 3) := by decide +kernel
theorem dX9_laysLabels_71 : decode cX9_laysLabels 71 = .ok (.iload_n 3, 1) := by decide +kernel
theorem dX9_laysLabels_72 : decode cX9_laysLabels 72 = .ok (.ifCond .eq 12, 3) := by decide +kernel
theorem dX9_laysLabels_75 : decode cX9_laysLabels 75 = .ok (.aload_n 0, 1) := by decide +kernel
theorem dX9_laysLabels_76 : decode cX9_laysLabels 76 = .ok (.getfield 69, 3) := by decide +kernel
theorem dX9_laysLabels_79 : decode cX9_laysLabels 79 = .ok (.iload_n 2, 1) := by decide +kernel
theorem dX9_laysLabels_80 : decode cX9_laysLabels 80 = .ok (.iaload, 1) := by decide +kernel
theorem dX9_laysLabels_81 : decode cX9_laysLabels 81 = .ok (.goto 7, 3) := by decide +kernel
theorem dX9_laysLabels_84 : decode cX9_laysLabels 84 = .ok (.bipush 10, 2) := by decide +kernel
theorem dX9_laysLabels_86 : decode cX9_laysLabels 86 = .ok (.iload_n 2, 1) := by decide +kernel
theorem dX9_laysLabels_87 : decode cX9_laysLabels 87 = .ok (.iadd, 1) := by decide +kernel
theorem dX9_laysLabels_88 : decode cX9_laysLabels 88 = .ok (.iastore, 1) := by decide +kernel
theorem dX9_laysLabels_89 : decode cX9_laysLabels 89 = .ok (.iinc 2 1, 3) := by decide +kernel
theorem dX9_laysLabels_92 : decode cX9_laysLabels 92 = .ok (.goto (-90), 3) := by decide +kernel
theorem dX9_laysLabels_95 : decode cX9_laysLabels 95 = .ok (.iconst 0, 1) := by decide +kernel
theorem dX9_laysLabels_96 : decode cX9_laysLabels 96 = .ok (.istore_n 2, 1) := by decide +kernel
theorem dX9_laysLabels_97 : decode cX9_laysLabels 97 = .ok (.iload_n 2, 1) := by decide +kernel
theorem dX9_laysLabels_98 : decode cX9_laysLabels 98 = .ok (.iconst 1, 1) := by decide +kernel
theorem dX9_laysLabels_99 : decode cX9_laysLabels 99 = .ok (.iadd, 1) := by decide +kernel
theorem dX9_laysLabels_100 : decode cX9_laysLabels 100 = .ok (.aload_n 0, 1) := by decide +kernel
theorem dX9_laysLabels_101 : decode cX9_laysLabels 101 = .ok (.getfield 27, 3) := by decide +kernel
theorem dX9_laysLabels_104 : decode cX9_laysLabels 104 = .ok (.if_icmp .ge 60, 3) := by decide +kernel
theorem dX9_laysLabels_107 : decode cX9_laysLabels 107 = .ok (.aload_n 0, 1) := by decide +kernel
theorem dX9_laysLabels_108 : decode cX9_laysLabels 108 = .ok (.getfield 72, 3) := by decide +kernel
theorem dX9_laysLabels_111 : decode cX9_laysLabels 111 = .ok (.bipush 10, 2) := by decide +kernel
theorem dX9_laysLabels_113 : decode cX9_laysLabels 113 = .ok (.iload_n 1, 1) := by decide +kernel
theorem dX9_laysLabels_114 : decode cX9_laysLabels 114 = .ok (.imul, 1) := by decide +kernel
theorem dX9_laysLabels_115 : decode cX9_laysLabels 115 = .ok (.iconst 2, 1) := by decide +kernel
theorem dX9_laysLabels_116 : decode cX9_laysLabels 116 = .ok (.iload_n 2, 1) := by decide +kernel
theorem dX9_laysLabels_117 : decode cX9_laysLabels 117 = .ok (.imul, 1) := by decide +kernel
theorem dX9_laysLabels_118 : decode cX9_laysLabels 118 = .ok (.iadd, 1) := by decide +kernel
theorem dX9_laysLabels_119 : decode cX9_laysLabels 119 = .ok (.baload, 1) := by decide +kernel
theorem dX9_laysLabels_120 : decode cX9_laysLabels 120 = .ok (.ifCond .eq 38, 3) := by decide +kernel
theorem dX9_laysLabels_123 : decode cX9_laysLabels 123 = .ok (.aload_n 0, 1) := by decide +kernel
theorem dX9_laysLabels_124 : decode cX9_laysLabels 124 = .ok (.getfield 66, 3) := by decide +kernel
theorem dX9_laysLabels_127 : decode cX9_laysLabels 127 = .ok (.iload_n 2, 1) := by decide +kernel
theorem dX9_laysLabels_128 : decode cX9_laysLabels 128 = .ok (.iaload, 1) := by decide +kernel
theorem dX9_laysLabels_129 : decode cX9_laysLabels 129 = .ok (.aload_n 0, 1) := by decide +kernel
theorem dX9_laysLabels_130 : decode cX9_laysLabels 130 = .ok (.getfield 66, 3) := by decide +kernel
theorem dX9_laysLabels_133 : decode cX9_laysLabels 133 = .ok (.iload_n 2, 1) := by decide +kernel
theorem dX9_laysLabels_134 : decode cX9_laysLabels 134 = .ok (.iconst 1, 1) := by decide +kernel
theorem dX9_laysLabels_135 : decode cX9_laysLabels 135 = .ok (.iadd, 1) := by decide +kernel
theorem dX9_laysLabels_136 : decode cX9_laysLabels 136 = .ok (.iaload, 1) := by decide +kernel
theorem dX9_laysLabels_137 : decode cX9_laysLabels 137 = .ok (.if_icmp .eq 21, 3) := by decide +kernel
theorem dX9_laysLabels_140 : decode cX9_laysLabels 140 = .ok (.aload_n 0, 1) := by decide +kernel
theorem dX9_laysLabels_141 : decode cX9_laysLabels 141 = .ok (.aload_n 0, 1) := by decide +kernel
theorem dX9_laysLabels_142 : decode cX9_laysLabels 142 = .ok (.getfield 66, 3) := by decide +kernel
theorem dX9_laysLabels_145 : decode cX9_laysLabels 145 = .ok (.iload_n 2, 1) := by decide +kernel
theorem dX9_laysLabels_146 : decode cX9_laysLabels 146 = .ok (.iaload, 1) := by decide +kernel
theorem dX9_laysLabels_147 : decode cX9_laysLabels 147 = .ok (.aload_n 0, 1) := by decide +kernel
theorem dX9_laysLabels_148 : decode cX9_laysLabels 148 = .ok (.getfield 66, 3) := by decide +kernel
theorem dX9_laysLabels_151 : decode cX9_laysLabels 151 = .ok (.iload_n 2, 1) := by decide +kernel
theorem dX9_laysLabels_152 : decode cX9_laysLabels 152 = .ok (.iconst 1, 1) := by decide +kernel
theorem dX9_laysLabels_153 : decode cX9_laysLabels 153 = .ok (.iadd, 1) := by decide +kernel
theorem dX9_laysLabels_154 : decode cX9_laysLabels 154 = .ok (.iaload, 1) := by decide +kernel
theorem dX9_laysLabels_155 : decode cX9_laysLabels 155 = .ok (.invokevirtual 224, 3) := by decide +kernel
theorem dX9_laysLabels_158 : decode cX9_laysLabels 158 = .ok (.iinc 2 1, 3) := by decide +kernel
theorem dX9_laysLabels_161 : decode cX9_laysLabels 161 = .ok (.goto (-64), 3) := by decide +kernel
theorem dX9_laysLabels_164 : decode cX9_laysLabels 164 = .ok (.return_, 1) := by decide +kernel
theorem dX9_laysRow_0 : decode cX9_laysRow 0 = .ok (.iconst 0, 1) := by decide +kernel
theorem dX9_laysRow_1 : decode cX9_laysRow 1 = .ok (.istore_n 2, 1) := by decide +kernel
theorem dX9_laysRow_2 : decode cX9_laysRow 2 = .ok (.iconst 0, 1) := by decide +kernel
theorem dX9_laysRow_3 : decode cX9_laysRow 3 = .ok (.istore_n 3, 1) := by decide +kernel
theorem dX9_laysRow_4 : decode cX9_laysRow 4 = .ok (.iload_n 3, 1) := by decide +kernel
theorem dX9_laysRow_5 : decode cX9_laysRow 5 = .ok (.aload_n 0, 1) := by decide +kernel
theorem dX9_laysRow_6 : decode cX9_laysRow 6 = .ok (.getfield 27, 3) := by decide +kernel
theorem dX9_laysRow_9 : decode cX9_laysRow 9 = .ok (.if_icmp .ge 116, 3) := by decide +kernel
theorem dX9_laysRow_12 : decode cX9_laysRow 12 = .ok (.iconst 0, 1) := by decide +kernel
theorem dX9_laysRow_13 : decode cX9_laysRow 13 = .ok (.istore 4, 2) := by decide +kernel
theorem dX9_laysRow_15 : decode cX9_laysRow 15 = .ok (.iload 4, 2) := by decide +kernel
theorem dX9_laysRow_17 : decode cX9_laysRow 17 = .ok (.iconst 2, 1) := by decide +kernel
theorem dX9_laysRow_18 : decode cX9_laysRow 18 = .ok (.if_icmp .ge 101, 3) := by decide +kernel
theorem dX9_laysRow_21 : decode cX9_laysRow 21 = .ok (.iload 4, 2) := by decide +kernel
theorem dX9_laysRow_23 : decode cX9_laysRow 23 = .ok (.ifCond .ne 14, 3) := by decide +kernel
theorem dX9_laysRow_26 : decode cX9_laysRow 26 = .ok (.bipush 10, 2) := by decide +kernel
theorem dX9_laysRow_28 : decode cX9_laysRow 28 = .ok (.iload_n 1, 1) := by decide +kernel
theorem dX9_laysRow_29 : decode cX9_laysRow 29 = .ok (.imul, 1) := by decide +kernel
theorem dX9_laysRow_30 : decode cX9_laysRow 30 = .ok (.iconst 2, 1) := by decide +kernel
theorem dX9_laysRow_31 : decode cX9_laysRow 31 = .ok (.iload_n 3, 1) := by decide +kernel
theorem dX9_laysRow_32 : decode cX9_laysRow 32 = .ok (.imul, 1) := by decide +kernel
theorem dX9_laysRow_33 : decode cX9_laysRow 33 = .ok (.iadd, 1) := by decide +kernel
theorem dX9_laysRow_34 : decode cX9_laysRow 34 = .ok (.goto 15, 3) := by decide +kernel
theorem dX9_laysRow_37 : decode cX9_laysRow 37 = .ok (.bipush 10, 2) := by decide +kernel
theorem dX9_laysRow_39 : decode cX9_laysRow 39 = .ok (.iload_n 1, 1) := by decide +kernel
theorem dX9_laysRow_40 : decode cX9_laysRow 40 = .ok (.iconst 1, 1) := by decide +kernel
theorem dX9_laysRow_41 : decode cX9_laysRow 41 = .ok (.isub, 1) := by decide +kernel
theorem dX9_laysRow_42 : decode cX9_laysRow 42 = .ok (.imul, 1) := by decide +kernel
theorem dX9_laysRow_43 : decode cX9_laysRow 43 = .ok (.iconst 2, 1) := by decide +kernel
theorem dX9_laysRow_44 : decode cX9_laysRow 44 = .ok (.iload_n 3, 1) := by decide +kernel
theorem dX9_laysRow_45 : decode cX9_laysRow 45 = .ok (.imul, 1) := by decide +kernel
theorem dX9_laysRow_46 : decode cX9_laysRow 46 = .ok (.iadd, 1) := by decide +kernel
theorem dX9_laysRow_47 : decode cX9_laysRow 47 = .ok (.iconst 1, 1) := by decide +kernel
theorem dX9_laysRow_48 : decode cX9_laysRow 48 = .ok (.iadd, 1) := by decide +kernel
theorem dX9_laysRow_49 : decode cX9_laysRow 49 = .ok (.istore 5, 2) := by decide +kernel
theorem dX9_laysRow_51 : decode cX9_laysRow 51 = .ok (.iload 5, 2) := by decide +kernel
theorem dX9_laysRow_53 : decode cX9_laysRow 53 = .ok (.ifCond .lt 60, 3) := by decide +kernel
theorem dX9_laysRow_56 : decode cX9_laysRow 56 = .ok (.aload_n 0, 1) := by decide +kernel
theorem dX9_laysRow_57 : decode cX9_laysRow 57 = .ok (.iload 5, 2) := by decide +kernel
theorem dX9_laysRow_59 : decode cX9_laysRow 59 = .ok (.invokevirtual 208, 3) := by decide +kernel
theorem dX9_laysRow_62 : decode cX9_laysRow 62 = .ok (.ifCond .ne 6, 3) := by decide +kernel
theorem dX9_laysRow_65 : decode cX9_laysRow 65 = .ok (.goto 48, 3) := by decide +kernel
theorem dX9_laysRow_68 : decode cX9_laysRow 68 = .ok (.aload_n 0, 1) := by decide +kernel
theorem dX9_laysRow_69 : decode cX9_laysRow 69 = .ok (.getfield 72, 3) := by decide +kernel
theorem dX9_laysRow_72 : decode cX9_laysRow 72 = .ok (.iload 5, 2) := by decide +kernel
theorem dX9_laysRow_74 : decode cX9_laysRow 74 = .ok (.aload_n 0, 1) := by decide +kernel
theorem dX9_laysRow_75 : decode cX9_laysRow 75 = .ok (.iload 5, 2) := by decide +kernel
theorem dX9_laysRow_77 : decode cX9_laysRow 77 = .ok (.invokevirtual 215, 3) := by decide +kernel
theorem dX9_laysRow_80 : decode cX9_laysRow 80 = .ok (.iconst 1, 1) := by decide +kernel
theorem dX9_laysRow_81 : decode cX9_laysRow 81 = .ok (.if_icmp .ne 7, 3) := by decide +kernel
theorem dX9_laysRow_84 : decode cX9_laysRow 84 = .ok (.iconst 1, 1) := by decide +kernel
theorem dX9_laysRow_85 : decode cX9_laysRow 85 = .ok (.goto 4, 3) := by decide +kernel
theorem dX9_laysRow_88 : decode cX9_laysRow 88 = .ok (.iconst 0, 1) := by decide +kernel
theorem dX9_laysRow_89 : decode cX9_laysRow 89 = .ok (.bastore, 1) := by decide +kernel
theorem dX9_laysRow_90 : decode cX9_laysRow 90 = .ok (.aload_n 0, 1) := by decide +kernel
theorem dX9_laysRow_91 : decode cX9_laysRow 91 = .ok (.iload 5, 2) := by decide +kernel
theorem dX9_laysRow_93 : decode cX9_laysRow 93 = .ok (.invokevirtual 215, 3) := by decide +kernel
theorem dX9_laysRow_96 : decode cX9_laysRow 96 = .ok (.ifCond .eq 6, 3) := by decide +kernel
theorem dX9_laysRow_99 : decode cX9_laysRow 99 = .ok (.goto 14, 3) := by decide +kernel
theorem dX9_laysRow_102 : decode cX9_laysRow 102 = .ok (.aload_n 0, 1) := by decide +kernel
theorem dX9_laysRow_103 : decode cX9_laysRow 103 = .ok (.getfield 75, 3) := by decide +kernel
theorem dX9_laysRow_106 : decode cX9_laysRow 106 = .ok (.iload_n 2, 1) := by decide +kernel
theorem dX9_laysRow_107 : decode cX9_laysRow 107 = .ok (.iload 5, 2) := by decide +kernel
theorem dX9_laysRow_109 : decode cX9_laysRow 109 = .ok (.iastore, 1) := by decide +kernel
theorem dX9_laysRow_110 : decode cX9_laysRow 110 = .ok (.iinc 2 1, 3) := by decide +kernel
theorem dX9_laysRow_113 : decode cX9_laysRow 113 = .ok (.iinc 4 1, 3) := by decide +kernel
theorem dX9_laysRow_116 : decode cX9_laysRow 116 = .ok (.goto (-101), 3) := by decide +kernel
theorem dX9_laysRow_119 : decode cX9_laysRow 119 = .ok (.iinc 3 1, 3) := by decide +kernel
theorem dX9_laysRow_122 : decode cX9_laysRow 122 = .ok (.goto (-118), 3) := by decide +kernel
theorem dX9_laysRow_125 : decode cX9_laysRow 125 = .ok (.aload_n 0, 1) := by decide +kernel
theorem dX9_laysRow_126 : decode cX9_laysRow 126 = .ok (.getfield 51, 3) := by decide +kernel
theorem dX9_laysRow_129 : decode cX9_laysRow 129 = .ok (.iload_n 1, 1) := by decide +kernel
theorem dX9_laysRow_130 : decode cX9_laysRow 130 = .ok (.iconst 0, 1) := by decide +kernel
theorem dX9_laysRow_131 : decode cX9_laysRow 131 = .ok (.iastore, 1) := by decide +kernel
theorem dX9_laysRow_132 : decode cX9_laysRow 132 = .ok (.iload_n 1, 1) := by decide +kernel
theorem dX9_laysRow_133 : decode cX9_laysRow 133 = .ok (.ifCond .ne 7, 3) := by decide +kernel
theorem dX9_laysRow_136 : decode cX9_laysRow 136 = .ok (.iconst 1, 1) := by decide +kernel
theorem dX9_laysRow_137 : decode cX9_laysRow 137 = .ok (.goto 11, 3) := by decide +kernel
theorem dX9_laysRow_140 : decode cX9_laysRow 140 = .ok (.aload_n 0, 1) := by decide +kernel
theorem dX9_laysRow_141 : decode cX9_laysRow 141 = .ok (.getfield 51, 3) := by decide +kernel
theorem dX9_laysRow_144 : decode cX9_laysRow 144 = .ok (.iload_n 1, 1) := by decide +kernel
theorem dX9_laysRow_145 : decode cX9_laysRow 145 = .ok (.iconst 1, 1) := by decide +kernel
theorem dX9_laysRow_146 : decode cX9_laysRow 146 = .ok (.isub, 1) := by decide +kernel
theorem dX9_laysRow_147 : decode cX9_laysRow 147 = .ok (.iaload, 1) := by decide +kernel
theorem dX9_laysRow_148 : decode cX9_laysRow 148 = .ok (.istore_n 3, 1) := by decide +kernel
theorem dX9_laysRow_149 : decode cX9_laysRow 149 = .ok (.iconst 0, 1) := by decide +kernel
theorem dX9_laysRow_150 : decode cX9_laysRow 150 = .ok (.istore 4, 2) := by decide +kernel
theorem dX9_laysRow_152 : decode cX9_laysRow 152 = .ok (.iload 4, 2) := by decide +kernel
theorem dX9_laysRow_154 : decode cX9_laysRow 154 = .ok (.iload_n 3, 1) := by decide +kernel
theorem dX9_laysRow_155 : decode cX9_laysRow 155 = .ok (.if_icmp .ge 177, 3) := by decide +kernel
theorem dX9_laysRow_158 : decode cX9_laysRow 158 = .ok (.iload_n 1, 1) := by decide +kernel
theorem dX9_laysRow_159 : decode cX9_laysRow 159 = .ok (.ifCond .ne 7, 3) := by decide +kernel
theorem dX9_laysRow_162 : decode cX9_laysRow 162 = .ok (.iconst (-1), 1) := by decide +kernel
theorem dX9_laysRow_163 : decode cX9_laysRow 163 = .ok (.goto 13, 3) := by decide +kernel
theorem dX9_laysRow_166 : decode cX9_laysRow 166 = .ok (.sipush 300, 3) := by decide +kernel
theorem dX9_laysRow_169 : decode cX9_laysRow 169 = .ok (.iload_n 1, 1) := by decide +kernel
theorem dX9_laysRow_170 : decode cX9_laysRow 170 = .ok (.iconst 1, 1) := by decide +kernel
theorem dX9_laysRow_171 : decode cX9_laysRow 171 = .ok (.isub, 1) := by decide +kernel
theorem dX9_laysRow_172 : decode cX9_laysRow 172 = .ok (.imul, 1) := by decide +kernel
theorem dX9_laysRow_173 : decode cX9_laysRow 173 = .ok (.iload 4, 2) := by decide +kernel
theorem dX9_laysRow_175 : decode cX9_laysRow 175 = .ok (.iadd, 1) := by decide +kernel
theorem dX9_laysRow_176 : decode cX9_laysRow 176 = .ok (.istore 5, 2) := by decide +kernel
theorem dX9_laysRow_178 : decode cX9_laysRow 178 = .ok (.iload_n 1, 1) := by decide +kernel
theorem dX9_laysRow_179 : decode cX9_laysRow 179 = .ok (.ifCond .ne 7, 3) := by decide +kernel
theorem dX9_laysRow_182 : decode cX9_laysRow 182 = .ok (.iconst 0, 1) := by decide +kernel
theorem dX9_laysRow_183 : decode cX9_laysRow 183 = .ok (.goto 10, 3) := by decide +kernel
theorem dX9_laysRow_186 : decode cX9_laysRow 186 = .ok (.aload_n 0, 1) := by decide +kernel
theorem dX9_laysRow_187 : decode cX9_laysRow 187 = .ok (.getfield 54, 3) := by decide +kernel
theorem dX9_laysRow_190 : decode cX9_laysRow 190 = .ok (.iload 5, 2) := by decide +kernel
theorem dX9_laysRow_192 : decode cX9_laysRow 192 = .ok (.iaload, 1) := by decide +kernel
theorem dX9_laysRow_193 : decode cX9_laysRow 193 = .ok (.istore 6, 2) := by decide +kernel
theorem dX9_laysRow_195 : decode cX9_laysRow 195 = .ok (.aload_n 0, 1) := by decide +kernel
theorem dX9_laysRow_196 : decode cX9_laysRow 196 = .ok (.getfield 27, 3) := by decide +kernel
theorem dX9_laysRow_199 : decode cX9_laysRow 199 = .ok (.iconst 1, 1) := by decide +kernel
theorem dX9_laysRow_200 : decode cX9_laysRow 200 = .ok (.isub, 1) := by decide +kernel
theorem dX9_laysRow_201 : decode cX9_laysRow 201 = .ok (.istore 7, 2) := by decide +kernel
theorem dX9_laysRow_203 : decode cX9_laysRow 203 = .ok (.iload 7, 2) := by decide +kernel
theorem dX9_laysRow_205 : decode cX9_laysRow 205 = .ok (.ifCond .lt 28, 3) := by decide +kernel
theorem dX9_laysRow_208 : decode cX9_laysRow 208 = .ok (.aload_n 0, 1) := by decide +kernel
theorem dX9_laysRow_209 : decode cX9_laysRow 209 = .ok (.getfield 69, 3) := by decide +kernel
theorem dX9_laysRow_212 : decode cX9_laysRow 212 = .ok (.iload 7, 2) := by decide +kernel
theorem dX9_laysRow_214 : decode cX9_laysRow 214 = .ok (.iload 6, 2) := by decide +kernel
theorem dX9_laysRow_216 : decode cX9_laysRow 216 = .ok (.bipush 10, 2) := by decide +kernel
theorem dX9_laysRow_218 : decode cX9_laysRow 218 = .ok (.irem, 1) := by decide +kernel
theorem dX9_laysRow_219 : decode cX9_laysRow 219 = .ok (.iastore, 1) := by decide +kernel
theorem dX9_laysRow_220 : decode cX9_laysRow 220 = .ok (.iload 6, 2) := by decide +kernel
theorem dX9_laysRow_222 : decode cX9_laysRow 222 = .ok (.bipush 10, 2) := by decide +kernel
theorem dX9_laysRow_224 : decode cX9_laysRow 224 = .ok (.idiv, 1) := by decide +kernel
theorem dX9_laysRow_225 : decode cX9_laysRow 225 = .ok (.istore 6, 2) := by decide +kernel
theorem dX9_laysRow_227 : decode cX9_laysRow 227 = .ok (.iinc 7 (-1), 3) := by decide +kernel
theorem dX9_laysRow_230 : decode cX9_laysRow 230 = .ok (.goto (-27), 3) := by decide +kernel
theorem dX9_laysRow_233 : decode cX9_laysRow 233 = .ok (.iconst 0, 1) := by decide +kernel
theorem dX9_laysRow_234 : decode cX9_laysRow 234 = .ok (.istore 7, 2) := by decide +kernel
theorem dX9_laysRow_236 : decode cX9_laysRow 236 = .ok (.iload 7, 2) := by decide +kernel
theorem dX9_laysRow_238 : decode cX9_laysRow 238 = .ok (.iconst 1, 1) := by decide +kernel
theorem dX9_laysRow_239 : decode cX9_laysRow 239 = .ok (.iload_n 2, 1) := by decide +kernel
theorem dX9_laysRow_240 : decode cX9_laysRow 240 = .ok (.ishl, 1) := by decide +kernel
theorem dX9_laysRow_241 : decode cX9_laysRow 241 = .ok (.if_icmp .ge 85, 3) := by decide +kernel
theorem dX9_laysRow_244 : decode cX9_laysRow 244 = .ok (.iconst 0, 1) := by decide +kernel
theorem dX9_laysRow_245 : decode cX9_laysRow 245 = .ok (.istore 8, 2) := by decide +kernel
theorem dX9_laysRow_247 : decode cX9_laysRow 247 = .ok (.iconst 0, 1) := by decide +kernel
theorem dX9_laysRow_248 : decode cX9_laysRow 248 = .ok (.istore 9, 2) := by decide +kernel
theorem dX9_laysRow_250 : decode cX9_laysRow 250 = .ok (.iload 9, 2) := by decide +kernel
theorem dX9_laysRow_252 : decode cX9_laysRow 252 = .ok (.iload_n 2, 1) := by decide +kernel
theorem dX9_laysRow_253 : decode cX9_laysRow 253 = .ok (.if_icmp .ge 49, 3) := by decide +kernel
theorem dX9_laysRow_256 : decode cX9_laysRow 256 = .ok (.aload_n 0, 1) := by decide +kernel
theorem dX9_laysRow_257 : decode cX9_laysRow 257 = .ok (.getfield 72, 3) := by decide +kernel
theorem dX9_laysRow_260 : decode cX9_laysRow 260 = .ok (.aload_n 0, 1) := by decide +kernel
theorem dX9_laysRow_261 : decode cX9_laysRow 261 = .ok (.getfield 75, 3) := by decide +kernel
theorem dX9_laysRow_264 : decode cX9_laysRow 264 = .ok (.iload 9, 2) := by decide +kernel
theorem dX9_laysRow_266 : decode cX9_laysRow 266 = .ok (.iaload, 1) := by decide +kernel
theorem dX9_laysRow_267 : decode cX9_laysRow 267 = .ok (.iload 7, 2) := by decide +kernel
theorem dX9_laysRow_269 : decode cX9_laysRow 269 = .ok (.iload 9, 2) := by decide +kernel
theorem dX9_laysRow_271 : decode cX9_laysRow 271 = .ok (.ishr, 1) := by decide +kernel
theorem dX9_laysRow_272 : decode cX9_laysRow 272 = .ok (.iconst 1, 1) := by decide +kernel
theorem dX9_laysRow_273 : decode cX9_laysRow 273 = .ok (.iand, 1) := by decide +kernel
theorem dX9_laysRow_274 : decode cX9_laysRow 274 = .ok (.iconst 1, 1) := by decide +kernel
theorem dX9_laysRow_275 : decode cX9_laysRow 275 = .ok (.if_icmp .ne 7, 3) := by decide +kernel
theorem dX9_laysRow_278 : decode cX9_laysRow 278 = .ok (.iconst 1, 1) := by decide +kernel
theorem dX9_laysRow_279 : decode cX9_laysRow 279 = .ok (.goto 4, 3) := by decide +kernel
theorem dX9_laysRow_282 : decode cX9_laysRow 282 = .ok (.iconst 0, 1) := by decide +kernel
theorem dX9_laysRow_283 : decode cX9_laysRow 283 = .ok (.bastore, 1) := by decide +kernel
theorem dX9_laysRow_284 : decode cX9_laysRow 284 = .ok (.iload 8, 2) := by decide +kernel
theorem dX9_laysRow_286 : decode cX9_laysRow 286 = .ok (.iload 7, 2) := by decide +kernel
theorem dX9_laysRow_288 : decode cX9_laysRow 288 = .ok (.iload 9, 2) := by decide +kernel
theorem dX9_laysRow_290 : decode cX9_laysRow 290 = .ok (.ishr, 1) := by decide +kernel
theorem dX9_laysRow_291 : decode cX9_laysRow 291 = .ok (.iconst 1, 1) := by decide +kernel
theorem dX9_laysRow_292 : decode cX9_laysRow 292 = .ok (.iand, 1) := by decide +kernel
theorem dX9_laysRow_293 : decode cX9_laysRow 293 = .ok (.iadd, 1) := by decide +kernel
theorem dX9_laysRow_294 : decode cX9_laysRow 294 = .ok (.istore 8, 2) := by decide +kernel
theorem dX9_laysRow_296 : decode cX9_laysRow 296 = .ok (.iinc 9 1, 3) := by decide +kernel
theorem dX9_laysRow_299 : decode cX9_laysRow 299 = .ok (.goto (-49), 3) := by decide +kernel
theorem dX9_laysRow_302 : decode cX9_laysRow 302 = .ok (.aload_n 0, 1) := by decide +kernel
theorem dX9_laysRow_303 : decode cX9_laysRow 303 = .ok (.iload_n 1, 1) := by decide +kernel
theorem dX9_laysRow_304 : decode cX9_laysRow 304 = .ok (.invokevirtual 228, 3) := by decide +kernel
theorem dX9_laysRow_307 : decode cX9_laysRow 307 = .ok (.aload_n 0, 1) := by decide +kernel
theorem dX9_laysRow_308 : decode cX9_laysRow 308 = .ok (.iload_n 1, 1) := by decide +kernel
theorem dX9_laysRow_309 : decode cX9_laysRow 309 = .ok (.aload_n 0, 1) := by decide +kernel
theorem dX9_laysRow_310 : decode cX9_laysRow 310 = .ok (.invokevirtual 231, 3) := by decide +kernel
theorem dX9_laysRow_313 : decode cX9_laysRow 313 = .ok (.iload 5, 2) := by decide +kernel
theorem dX9_laysRow_315 : decode cX9_laysRow 315 = .ok (.iload 8, 2) := by decide +kernel
theorem dX9_laysRow_317 : decode cX9_laysRow 317 = .ok (.invokevirtual 234, 3) := by decide +kernel
theorem dX9_laysRow_320 : decode cX9_laysRow 320 = .ok (.iinc 7 1, 3) := by decide +kernel
theorem dX9_laysRow_323 : decode cX9_laysRow 323 = .ok (.goto (-87), 3) := by decide +kernel
theorem dX9_laysRow_326 : decode cX9_laysRow 326 = .ok (.iinc 4 1, 3) := by decide +kernel
theorem dX9_laysRow_329 : decode cX9_laysRow 329 = .ok (.goto (-177), 3) := by decide +kernel
theorem dX9_laysRow_332 : decode cX9_laysRow 332 = .ok (.iconst 0, 1) := by decide +kernel
theorem dX9_laysRow_333 : decode cX9_laysRow 333 = .ok (.istore 4, 2) := by decide +kernel
theorem dX9_laysRow_335 : decode cX9_laysRow 335 = .ok (.iload 4, 2) := by decide +kernel
theorem dX9_laysRow_337 : decode cX9_laysRow 337 = .ok (.aload_n 0, 1) := by decide +kernel
theorem dX9_laysRow_338 : decode cX9_laysRow 338 = .ok (.getfield 51, 3) := by decide +kernel
theorem dX9_laysRow_341 : decode cX9_laysRow 341 = .ok (.iload_n 1, 1) := by decide +kernel
theorem dX9_laysRow_342 : decode cX9_laysRow 342 = .ok (.iaload, 1) := by decide +kernel
theorem dX9_laysRow_343 : decode cX9_laysRow 343 = .ok (.if_icmp .ge 28, 3) := by decide +kernel
theorem dX9_laysRow_346 : decode cX9_laysRow 346 = .ok (.aload_n 0, 1) := by decide +kernel
theorem dX9_laysRow_347 : decode cX9_laysRow 347 = .ok (.getfield 63, 3) := by decide +kernel
theorem dX9_laysRow_350 : decode cX9_laysRow 350 = .ok (.aload_n 0, 1) := by decide +kernel
theorem dX9_laysRow_351 : decode cX9_laysRow 351 = .ok (.getfield 54, 3) := by decide +kernel
theorem dX9_laysRow_354 : decode cX9_laysRow 354 = .ok (.sipush 300, 3) := by decide +kernel
theorem dX9_laysRow_357 : decode cX9_laysRow 357 = .ok (.iload_n 1, 1) := by decide +kernel
theorem dX9_laysRow_358 : decode cX9_laysRow 358 = .ok (.imul, 1) := by decide +kernel
theorem dX9_laysRow_359 : decode cX9_laysRow 359 = .ok (.iload 4, 2) := by decide +kernel
theorem dX9_laysRow_361 : decode cX9_laysRow 361 = .ok (.iadd, 1) := by decide +kernel
theorem dX9_laysRow_362 : decode cX9_laysRow 362 = .ok (.iaload, 1) := by decide +kernel
theorem dX9_laysRow_363 : decode cX9_laysRow 363 = .ok (.iconst 0, 1) := by decide +kernel
theorem dX9_laysRow_364 : decode cX9_laysRow 364 = .ok (.iastore, 1) := by decide +kernel
theorem dX9_laysRow_365 : decode cX9_laysRow 365 = .ok (.iinc 4 1, 3) := by decide +kernel
theorem dX9_laysRow_368 : decode cX9_laysRow 368 = .ok (.goto (-33), 3) := by decide +kernel
theorem dX9_laysRow_371 : decode cX9_laysRow 371 = .ok (.aload_n 0, 1) := by decide +kernel
theorem dX9_laysRow_372 : decode cX9_laysRow 372 = .ok (.iload_n 1, 1) := by decide +kernel
theorem dX9_laysRow_373 : decode cX9_laysRow 373 = .ok (.invokevirtual 238, 3) := by decide +kernel
theorem dX9_laysRow_376 : decode cX9_laysRow 376 = .ok (.return_, 1) := by decide +kernel
theorem dX9_sorts_0 : decode cX9_sorts 0 = .ok (.iconst 1, 1) := by decide +kernel
theorem dX9_sorts_1 : decode cX9_sorts 1 = .ok (.istore_n 2, 1) := by decide +kernel
theorem dX9_sorts_2 : decode cX9_sorts 2 = .ok (.iload_n 2, 1) := by decide +kernel
theorem dX9_sorts_3 : decode cX9_sorts 3 = .ok (.aload_n 0, 1) := by decide +kernel
theorem dX9_sorts_4 : decode cX9_sorts 4 = .ok (.getfield 51, 3) := by decide +kernel
theorem dX9_sorts_7 : decode cX9_sorts 7 = .ok (.iload_n 1, 1) := by decide +kernel
theorem dX9_sorts_8 : decode cX9_sorts 8 = .ok (.iaload, 1) := by decide +kernel
theorem dX9_sorts_9 : decode cX9_sorts 9 = .ok (.if_icmp .ge 153, 3) := by decide +kernel
theorem dX9_sorts_12 : decode cX9_sorts 12 = .ok (.sipush 300, 3) := by decide +kernel
theorem dX9_sorts_15 : decode cX9_sorts 15 = .ok (.iload_n 1, 1) := by decide +kernel
theorem dX9_sorts_16 : decode cX9_sorts 16 = .ok (.imul, 1) := by decide +kernel
theorem dX9_sorts_17 : decode cX9_sorts 17 = .ok (.iload_n 2, 1) := by decide +kernel
theorem dX9_sorts_18 : decode cX9_sorts 18 = .ok (.iadd, 1) := by decide +kernel
theorem dX9_sorts_19 : decode cX9_sorts 19 = .ok (.istore_n 3, 1) := by decide +kernel
theorem dX9_sorts_20 : decode cX9_sorts 20 = .ok (.iload_n 3, 1) := by decide +kernel
theorem dX9_sorts_21 : decode cX9_sorts 21 = .ok (.sipush 300, 3) := by decide +kernel
theorem dX9_sorts_24 : decode cX9_sorts 24 = .ok (.iload_n 1, 1) := by decide +kernel
theorem dX9_sorts_25 : decode cX9_sorts 25 = .ok (.imul, 1) := by decide +kernel
theorem dX9_sorts_26 : decode cX9_sorts 26 = .ok (.if_icmp .le 130, 3) := by decide +kernel
theorem dX9_sorts_29 : decode cX9_sorts 29 = .ok (.aload_n 0, 1) := by decide +kernel
theorem dX9_sorts_30 : decode cX9_sorts 30 = .ok (.getfield 54, 3) := by decide +kernel
theorem dX9_sorts_33 : decode cX9_sorts 33 = .ok (.iload_n 3, 1) := by decide +kernel
theorem dX9_sorts_34 : decode cX9_sorts 34 = .ok (.iconst 1, 1) := by decide +kernel
theorem dX9_sorts_35 : decode cX9_sorts 35 = .ok (.isub, 1) := by decide +kernel
theorem dX9_sorts_36 : decode cX9_sorts 36 = .ok (.iaload, 1) := by decide +kernel
theorem dX9_sorts_37 : decode cX9_sorts 37 = .ok (.aload_n 0, 1) := by decide +kernel
theorem dX9_sorts_38 : decode cX9_sorts 38 = .ok (.getfield 54, 3) := by decide +kernel
theorem dX9_sorts_41 : decode cX9_sorts 41 = .ok (.iload_n 3, 1) := by decide +kernel
theorem dX9_sorts_42 : decode cX9_sorts 42 = .ok (.iaload, 1) := by decide +kernel
theorem dX9_sorts_43 : decode cX9_sorts 43 = .ok (.if_icmp .le 113, 3) := by decide +kernel
theorem dX9_sorts_46 : decode cX9_sorts 46 = .ok (.aload_n 0, 1) := by decide +kernel
theorem dX9_sorts_47 : decode cX9_sorts 47 = .ok (.getfield 54, 3) := by decide +kernel
theorem dX9_sorts_50 : decode cX9_sorts 50 = .ok (.iload_n 3, 1) := by decide +kernel
theorem dX9_sorts_51 : decode cX9_sorts 51 = .ok (.iaload, 1) := by decide +kernel
theorem dX9_sorts_52 : decode cX9_sorts 52 = .ok (.istore 4, 2) := by decide +kernel
theorem dX9_sorts_54 : decode cX9_sorts 54 = .ok (.aload_n 0, 1) := by decide +kernel
theorem dX9_sorts_55 : decode cX9_sorts 55 = .ok (.getfield 54, 3) := by decide +kernel
theorem dX9_sorts_58 : decode cX9_sorts 58 = .ok (.iload_n 3, 1) := by decide +kernel
theorem dX9_sorts_59 : decode cX9_sorts 59 = .ok (.aload_n 0, 1) := by decide +kernel
theorem dX9_sorts_60 : decode cX9_sorts 60 = .ok (.getfield 54, 3) := by decide +kernel
theorem dX9_sorts_63 : decode cX9_sorts 63 = .ok (.iload_n 3, 1) := by decide +kernel
theorem dX9_sorts_64 : decode cX9_sorts 64 = .ok (.iconst 1, 1) := by decide +kernel
theorem dX9_sorts_65 : decode cX9_sorts 65 = .ok (.isub, 1) := by decide +kernel
theorem dX9_sorts_66 : decode cX9_sorts 66 = .ok (.iaload, 1) := by decide +kernel
theorem dX9_sorts_67 : decode cX9_sorts 67 = .ok (.iastore, 1) := by decide +kernel
theorem dX9_sorts_68 : decode cX9_sorts 68 = .ok (.aload_n 0, 1) := by decide +kernel
theorem dX9_sorts_69 : decode cX9_sorts 69 = .ok (.getfield 54, 3) := by decide +kernel
theorem dX9_sorts_72 : decode cX9_sorts 72 = .ok (.iload_n 3, 1) := by decide +kernel
theorem dX9_sorts_73 : decode cX9_sorts 73 = .ok (.iconst 1, 1) := by decide +kernel
theorem dX9_sorts_74 : decode cX9_sorts 74 = .ok (.isub, 1) := by decide +kernel
theorem dX9_sorts_75 : decode cX9_sorts 75 = .ok (.iload 4, 2) := by decide +kernel
theorem dX9_sorts_77 : decode cX9_sorts 77 = .ok (.iastore, 1) := by decide +kernel
theorem dX9_sorts_78 : decode cX9_sorts 78 = .ok (.iconst 0, 1) := by decide +kernel
theorem dX9_sorts_79 : decode cX9_sorts 79 = .ok (.istore 5, 2) := by decide +kernel
theorem dX9_sorts_81 : decode cX9_sorts 81 = .ok (.iload 5, 2) := by decide +kernel
theorem dX9_sorts_83 : decode cX9_sorts 83 = .ok (.bipush 25, 2) := by decide +kernel
theorem dX9_sorts_85 : decode cX9_sorts 85 = .ok (.if_icmp .ge 65, 3) := by decide +kernel
theorem dX9_sorts_88 : decode cX9_sorts 88 = .ok (.aload_n 0, 1) := by decide +kernel
theorem dX9_sorts_89 : decode cX9_sorts 89 = .ok (.getfield 58, 3) := by decide +kernel
theorem dX9_sorts_92 : decode cX9_sorts 92 = .ok (.bipush 25, 2) := by decide +kernel
theorem dX9_sorts_94 : decode cX9_sorts 94 = .ok (.iload_n 3, 1) := by decide +kernel
theorem dX9_sorts_95 : decode cX9_sorts 95 = .ok (.imul, 1) := by decide +kernel
theorem dX9_sorts_96 : decode cX9_sorts 96 = .ok (.iload 5, 2) := by decide +kernel
theorem dX9_sorts_98 : decode cX9_sorts 98 = .ok (.iadd, 1) := by decide +kernel
theorem dX9_sorts_99 : decode cX9_sorts 99 = .ok (.laload, 1) := by decide +kernel
theorem dX9_sorts_100 : decode cX9_sorts 100 = .ok (.lstore 6, 2) := by decide +kernel
theorem dX9_sorts_102 : decode cX9_sorts 102 = .ok (.aload_n 0, 1) := by decide +kernel
theorem dX9_sorts_103 : decode cX9_sorts 103 = .ok (.getfield 58, 3) := by decide +kernel
theorem dX9_sorts_106 : decode cX9_sorts 106 = .ok (.bipush 25, 2) := by decide +kernel
theorem dX9_sorts_108 : decode cX9_sorts 108 = .ok (.iload_n 3, 1) := by decide +kernel
theorem dX9_sorts_109 : decode cX9_sorts 109 = .ok (.imul, 1) := by decide +kernel
theorem dX9_sorts_110 : decode cX9_sorts 110 = .ok (.iload 5, 2) := by decide +kernel
theorem dX9_sorts_112 : decode cX9_sorts 112 = .ok (.iadd, 1) := by decide +kernel
theorem dX9_sorts_113 : decode cX9_sorts 113 = .ok (.aload_n 0, 1) := by decide +kernel
theorem dX9_sorts_114 : decode cX9_sorts 114 = .ok (.getfield 58, 3) := by decide +kernel
theorem dX9_sorts_117 : decode cX9_sorts 117 = .ok (.bipush 25, 2) := by decide +kernel
theorem dX9_sorts_119 : decode cX9_sorts 119 = .ok (.iload_n 3, 1) := by decide +kernel
theorem dX9_sorts_120 : decode cX9_sorts 120 = .ok (.iconst 1, 1) := by decide +kernel
theorem dX9_sorts_121 : decode cX9_sorts 121 = .ok (.isub, 1) := by decide +kernel
theorem dX9_sorts_122 : decode cX9_sorts 122 = .ok (.imul, 1) := by decide +kernel
theorem dX9_sorts_123 : decode cX9_sorts 123 = .ok (.iload 5, 2) := by decide +kernel
theorem dX9_sorts_125 : decode cX9_sorts 125 = .ok (.iadd, 1) := by decide +kernel
theorem dX9_sorts_126 : decode cX9_sorts 126 = .ok (.laload, 1) := by decide +kernel
theorem dX9_sorts_127 : decode cX9_sorts 127 = .ok (.lastore, 1) := by decide +kernel
theorem dX9_sorts_128 : decode cX9_sorts 128 = .ok (.aload_n 0, 1) := by decide +kernel
theorem dX9_sorts_129 : decode cX9_sorts 129 = .ok (.getfield 58, 3) := by decide +kernel
theorem dX9_sorts_132 : decode cX9_sorts 132 = .ok (.bipush 25, 2) := by decide +kernel
theorem dX9_sorts_134 : decode cX9_sorts 134 = .ok (.iload_n 3, 1) := by decide +kernel
theorem dX9_sorts_135 : decode cX9_sorts 135 = .ok (.iconst 1, 1) := by decide +kernel
theorem dX9_sorts_136 : decode cX9_sorts 136 = .ok (.isub, 1) := by decide +kernel
theorem dX9_sorts_137 : decode cX9_sorts 137 = .ok (.imul, 1) := by decide +kernel
theorem dX9_sorts_138 : decode cX9_sorts 138 = .ok (.iload 5, 2) := by decide +kernel
theorem dX9_sorts_140 : decode cX9_sorts 140 = .ok (.iadd, 1) := by decide +kernel
theorem dX9_sorts_141 : decode cX9_sorts 141 = .ok (.lload 6, 2) := by decide +kernel
theorem dX9_sorts_143 : decode cX9_sorts 143 = .ok (.lastore, 1) := by decide +kernel
theorem dX9_sorts_144 : decode cX9_sorts 144 = .ok (.iinc 5 1, 3) := by decide +kernel
theorem dX9_sorts_147 : decode cX9_sorts 147 = .ok (.goto (-66), 3) := by decide +kernel
theorem dX9_sorts_150 : decode cX9_sorts 150 = .ok (.iinc 3 (-1), 3) := by decide +kernel
theorem dX9_sorts_153 : decode cX9_sorts 153 = .ok (.goto (-133), 3) := by decide +kernel
theorem dX9_sorts_156 : decode cX9_sorts 156 = .ok (.iinc 2 1, 3) := by decide +kernel
theorem dX9_sorts_159 : decode cX9_sorts 159 = .ok (.goto (-157), 3) := by decide +kernel
theorem dX9_sorts_162 : decode cX9_sorts 162 = .ok (.return_, 1) := by decide +kernel
theorem dX9_wetSet_0 : decode cX9_wetSet 0 = .ok (.iconst 0, 1) := by decide +kernel
theorem dX9_wetSet_1 : decode cX9_wetSet 1 = .ok (.istore_n 2, 1) := by decide +kernel
theorem dX9_wetSet_2 : decode cX9_wetSet 2 = .ok (.iload_n 1, 1) := by decide +kernel
theorem dX9_wetSet_3 : decode cX9_wetSet 3 = .ok (.istore_n 3, 1) := by decide +kernel
theorem dX9_wetSet_4 : decode cX9_wetSet 4 = .ok (.aload_n 0, 1) := by decide +kernel
theorem dX9_wetSet_5 : decode cX9_wetSet 5 = .ok (.getfield 27, 3) := by decide +kernel
theorem dX9_wetSet_8 : decode cX9_wetSet 8 = .ok (.iconst 1, 1) := by decide +kernel
theorem dX9_wetSet_9 : decode cX9_wetSet 9 = .ok (.isub, 1) := by decide +kernel
theorem dX9_wetSet_10 : decode cX9_wetSet 10 = .ok (.istore 4, 2) := by decide +kernel
theorem dX9_wetSet_12 : decode cX9_wetSet 12 = .ok (.iload 4, 2) := by decide +kernel
theorem dX9_wetSet_14 : decode cX9_wetSet 14 = .ok (.ifCond .lt 32, 3) := by decide +kernel
theorem dX9_wetSet_17 : decode cX9_wetSet 17 = .ok (.iload_n 2, 1) := by decide +kernel
theorem dX9_wetSet_18 : decode cX9_wetSet 18 = .ok (.iload_n 3, 1) := by decide +kernel
theorem dX9_wetSet_19 : decode cX9_wetSet 19 = .ok (.bipush 10, 2) := by decide +kernel
theorem dX9_wetSet_21 : decode cX9_wetSet 21 = .ok (.irem, 1) := by decide +kernel
theorem dX9_wetSet_22 : decode cX9_wetSet 22 = .ok (.ifCond .ne 10, 3) := by decide +kernel
theorem dX9_wetSet_25 : decode cX9_wetSet 25 = .ok (.iconst 1, 1) := by decide +kernel
theorem dX9_wetSet_26 : decode cX9_wetSet 26 = .ok (.iload 4, 2) := by decide +kernel
theorem dX9_wetSet_28 : decode cX9_wetSet 28 = .ok (.ishl, 1) := by decide +kernel
theorem dX9_wetSet_29 : decode cX9_wetSet 29 = .ok (.goto 4, 3) := by decide +kernel
theorem dX9_wetSet_32 : decode cX9_wetSet 32 = .ok (.iconst 0, 1) := by decide +kernel
theorem dX9_wetSet_33 : decode cX9_wetSet 33 = .ok (.ior, 1) := by decide +kernel
theorem dX9_wetSet_34 : decode cX9_wetSet 34 = .ok (.istore_n 2, 1) := by decide +kernel
theorem dX9_wetSet_35 : decode cX9_wetSet 35 = .ok (.iload_n 3, 1) := by decide +kernel
theorem dX9_wetSet_36 : decode cX9_wetSet 36 = .ok (.bipush 10, 2) := by decide +kernel
theorem dX9_wetSet_38 : decode cX9_wetSet 38 = .ok (.idiv, 1) := by decide +kernel
theorem dX9_wetSet_39 : decode cX9_wetSet 39 = .ok (.istore_n 3, 1) := by decide +kernel
theorem dX9_wetSet_40 : decode cX9_wetSet 40 = .ok (.iinc 4 (-1), 3) := by decide +kernel
theorem dX9_wetSet_43 : decode cX9_wetSet 43 = .ok (.goto (-31), 3) := by decide +kernel
theorem dX9_wetSet_46 : decode cX9_wetSet 46 = .ok (.iload_n 2, 1) := by decide +kernel
theorem dX9_wetSet_47 : decode cX9_wetSet 47 = .ok (.ireturn, 1) := by decide +kernel
theorem dX9_lays_0 : decode cX9_lays 0 = .ok (.aload_n 0, 1) := by decide +kernel
theorem dX9_lays_1 : decode cX9_lays 1 = .ok (.getfield 99, 3) := by decide +kernel
theorem dX9_lays_4 : decode cX9_lays 4 = .ok (.ifCond .eq 4, 3) := by decide +kernel
theorem dX9_lays_7 : decode cX9_lays 7 = .ok (.return_, 1) := by decide +kernel
theorem dX9_lays_8 : decode cX9_lays 8 = .ok (.aload_n 0, 1) := by decide +kernel
theorem dX9_lays_9 : decode cX9_lays 9 = .ok (.iconst 1, 1) := by decide +kernel
theorem dX9_lays_10 : decode cX9_lays 10 = .ok (.putfield 99, 3) := by decide +kernel
theorem dX9_lays_13 : decode cX9_lays 13 = .ok (.iconst 0, 1) := by decide +kernel
theorem dX9_lays_14 : decode cX9_lays 14 = .ok (.istore_n 1, 1) := by decide +kernel
theorem dX9_lays_15 : decode cX9_lays 15 = .ok (.iload_n 1, 1) := by decide +kernel
theorem dX9_lays_16 : decode cX9_lays 16 = .ok (.aload_n 0, 1) := by decide +kernel
theorem dX9_lays_17 : decode cX9_lays 17 = .ok (.getfield 30, 3) := by decide +kernel
theorem dX9_lays_20 : decode cX9_lays 20 = .ok (.if_icmp .ge 14, 3) := by decide +kernel
theorem dX9_lays_23 : decode cX9_lays 23 = .ok (.aload_n 0, 1) := by decide +kernel
theorem dX9_lays_24 : decode cX9_lays 24 = .ok (.iload_n 1, 1) := by decide +kernel
theorem dX9_lays_25 : decode cX9_lays 25 = .ok (.invokevirtual 241, 3) := by decide +kernel
theorem dX9_lays_28 : decode cX9_lays 28 = .ok (.iinc 1 1, 3) := by decide +kernel
theorem dX9_lays_31 : decode cX9_lays 31 = .ok (.goto (-16), 3) := by decide +kernel
theorem dX9_lays_34 : decode cX9_lays 34 = .ok (.sipush 300, 3) := by decide +kernel
theorem dX9_lays_37 : decode cX9_lays 37 = .ok (.aload_n 0, 1) := by decide +kernel
theorem dX9_lays_38 : decode cX9_lays 38 = .ok (.getfield 30, 3) := by decide +kernel
theorem dX9_lays_41 : decode cX9_lays 41 = .ok (.iconst 1, 1) := by decide +kernel
theorem dX9_lays_42 : decode cX9_lays 42 = .ok (.isub, 1) := by decide +kernel
theorem dX9_lays_43 : decode cX9_lays 43 = .ok (.imul, 1) := by decide +kernel
theorem dX9_lays_44 : decode cX9_lays 44 = .ok (.istore_n 1, 1) := by decide +kernel
theorem dX9_lays_45 : decode cX9_lays 45 = .ok (.iconst 0, 1) := by decide +kernel
theorem dX9_lays_46 : decode cX9_lays 46 = .ok (.istore_n 2, 1) := by decide +kernel
theorem dX9_lays_47 : decode cX9_lays 47 = .ok (.iload_n 2, 1) := by decide +kernel
theorem dX9_lays_48 : decode cX9_lays 48 = .ok (.bipush 25, 2) := by decide +kernel
theorem dX9_lays_50 : decode cX9_lays 50 = .ok (.if_icmp .ge 80, 3) := by decide +kernel
theorem dX9_lays_53 : decode cX9_lays 53 = .ok (.aload_n 0, 1) := by decide +kernel
theorem dX9_lays_54 : decode cX9_lays 54 = .ok (.getfield 78, 3) := by decide +kernel
theorem dX9_lays_57 : decode cX9_lays 57 = .ok (.iload_n 2, 1) := by decide +kernel
theorem dX9_lays_58 : decode cX9_lays 58 = .ok (.lconst 0, 1) := by decide +kernel
theorem dX9_lays_59 : decode cX9_lays 59 = .ok (.lastore, 1) := by decide +kernel
theorem dX9_lays_60 : decode cX9_lays 60 = .ok (.iconst 0, 1) := by decide +kernel
theorem dX9_lays_61 : decode cX9_lays 61 = .ok (.istore_n 3, 1) := by decide +kernel
theorem dX9_lays_62 : decode cX9_lays 62 = .ok (.iload_n 3, 1) := by decide +kernel
theorem dX9_lays_63 : decode cX9_lays 63 = .ok (.aload_n 0, 1) := by decide +kernel
theorem dX9_lays_64 : decode cX9_lays 64 = .ok (.getfield 51, 3) := by decide +kernel
theorem dX9_lays_67 : decode cX9_lays 67 = .ok (.aload_n 0, 1) := by decide +kernel
theorem dX9_lays_68 : decode cX9_lays 68 = .ok (.getfield 30, 3) := by decide +kernel
theorem dX9_lays_71 : decode cX9_lays 71 = .ok (.iconst 1, 1) := by decide +kernel
theorem dX9_lays_72 : decode cX9_lays 72 = .ok (.isub, 1) := by decide +kernel
theorem dX9_lays_73 : decode cX9_lays 73 = .ok (.iaload, 1) := by decide +kernel
theorem dX9_lays_74 : decode cX9_lays 74 = .ok (.if_icmp .ge 50, 3) := by decide +kernel
theorem dX9_lays_77 : decode cX9_lays 77 = .ok (.aload_n 0, 1) := by decide +kernel
theorem dX9_lays_78 : decode cX9_lays 78 = .ok (.getfield 78, 3) := by decide +kernel
theorem dX9_lays_81 : decode cX9_lays 81 = .ok (.iload_n 2, 1) := by decide +kernel
theorem dX9_lays_82 : decode cX9_lays 82 = .ok (.dup2, 1) := by decide +kernel
theorem dX9_lays_83 : decode cX9_lays 83 = .ok (.laload, 1) := by decide +kernel
theorem dX9_lays_84 : decode cX9_lays 84 = .ok (.aload_n 0, 1) := by decide +kernel
theorem dX9_lays_85 : decode cX9_lays 85 = .ok (.aload_n 0, 1) := by decide +kernel
theorem dX9_lays_86 : decode cX9_lays 86 = .ok (.getfield 54, 3) := by decide +kernel
theorem dX9_lays_89 : decode cX9_lays 89 = .ok (.iload_n 1, 1) := by decide +kernel
theorem dX9_lays_90 : decode cX9_lays 90 = .ok (.iload_n 3, 1) := by decide +kernel
theorem dX9_lays_91 : decode cX9_lays 91 = .ok (.iadd, 1) := by decide +kernel
theorem dX9_lays_92 : decode cX9_lays 92 = .ok (.iaload, 1) := by decide +kernel
theorem dX9_lays_93 : decode cX9_lays 93 = .ok (.invokevirtual 244, 3) := by decide +kernel
theorem dX9_lays_96 : decode cX9_lays 96 = .ok (.ifCond .eq 19, 3) := by decide +kernel
theorem dX9_lays_99 : decode cX9_lays 99 = .ok (.aload_n 0, 1) := by decide +kernel
theorem dX9_lays_100 : decode cX9_lays 100 = .ok (.getfield 58, 3) := by decide +kernel
theorem dX9_lays_103 : decode cX9_lays 103 = .ok (.bipush 25, 2) := by decide +kernel
theorem dX9_lays_105 : decode cX9_lays 105 = .ok (.iload_n 1, 1) := by decide +kernel
theorem dX9_lays_106 : decode cX9_lays 106 = .ok (.iload_n 3, 1) := by decide +kernel
theorem dX9_lays_107 : decode cX9_lays 107 = .ok (.iadd, 1) := by decide +kernel
theorem dX9_lays_108 : decode cX9_lays 108 = .ok (.imul, 1) := by decide +kernel
theorem dX9_lays_109 : decode cX9_lays 109 = .ok (.iload_n 2, 1) := by decide +kernel
theorem dX9_lays_110 : decode cX9_lays 110 = .ok (.iadd, 1) := by decide +kernel
theorem dX9_lays_111 : decode cX9_lays 111 = .ok (.laload, 1) := by decide +kernel
theorem dX9_lays_112 : decode cX9_lays 112 = .ok (.goto 4, 3) := by decide +kernel
theorem dX9_lays_115 : decode cX9_lays 115 = .ok (.lconst 0, 1) := by decide +kernel
theorem dX9_lays_116 : decode cX9_lays 116 = .ok (.ladd, 1) := by decide +kernel
theorem dX9_lays_117 : decode cX9_lays 117 = .ok (.lastore, 1) := by decide +kernel
theorem dX9_lays_118 : decode cX9_lays 118 = .ok (.iinc 3 1, 3) := by decide +kernel
theorem dX9_lays_121 : decode cX9_lays 121 = .ok (.goto (-59), 3) := by decide +kernel
theorem dX9_lays_124 : decode cX9_lays 124 = .ok (.iinc 2 1, 3) := by decide +kernel
theorem dX9_lays_127 : decode cX9_lays 127 = .ok (.goto (-80), 3) := by decide +kernel
theorem dX9_lays_130 : decode cX9_lays 130 = .ok (.return_, 1) := by decide +kernel
theorem dX9_choose_0 : decode cX9_choose 0 = .ok (.iload_n 1, 1) := by decide +kernel
theorem dX9_choose_1 : decode cX9_choose 1 = .ok (.ifCond .lt 8, 3) := by decide +kernel
theorem dX9_choose_4 : decode cX9_choose 4 = .ok (.iload_n 1, 1) := by decide +kernel
theorem dX9_choose_5 : decode cX9_choose 5 = .ok (.iload_n 0, 1) := by decide +kernel
theorem dX9_choose_6 : decode cX9_choose 6 = .ok (.if_icmp .le 5, 3) := by decide +kernel
theorem dX9_choose_9 : decode cX9_choose 9 = .ok (.lconst 0, 1) := by decide +kernel
theorem dX9_choose_10 : decode cX9_choose 10 = .ok (.lreturn, 1) := by decide +kernel
theorem dX9_choose_11 : decode cX9_choose 11 = .ok (.lconst 1, 1) := by decide +kernel
theorem dX9_choose_12 : decode cX9_choose 12 = .ok (.lstore_n 2, 1) := by decide +kernel
theorem dX9_choose_13 : decode cX9_choose 13 = .ok (.iconst 1, 1) := by decide +kernel
theorem dX9_choose_14 : decode cX9_choose 14 = .ok (.istore 4, 2) := by decide +kernel
theorem dX9_choose_16 : decode cX9_choose 16 = .ok (.iload 4, 2) := by decide +kernel
theorem dX9_choose_18 : decode cX9_choose 18 = .ok (.iload_n 1, 1) := by decide +kernel
theorem dX9_choose_19 : decode cX9_choose 19 = .ok (.if_icmp .gt 23, 3) := by decide +kernel
theorem dX9_choose_22 : decode cX9_choose 22 = .ok (.lload_n 2, 1) := by decide +kernel
theorem dX9_choose_23 : decode cX9_choose 23 = .ok (.iload_n 0, 1) := by decide +kernel
theorem dX9_choose_24 : decode cX9_choose 24 = .ok (.iload_n 1, 1) := by decide +kernel
theorem dX9_choose_25 : decode cX9_choose 25 = .ok (.isub, 1) := by decide +kernel
theorem dX9_choose_26 : decode cX9_choose 26 = .ok (.iload 4, 2) := by decide +kernel
theorem dX9_choose_28 : decode cX9_choose 28 = .ok (.iadd, 1) := by decide +kernel
theorem dX9_choose_29 : decode cX9_choose 29 = .ok (.i2l, 1) := by decide +kernel
theorem dX9_choose_30 : decode cX9_choose 30 = .ok (.lmul, 1) := by decide +kernel
theorem dX9_choose_31 : decode cX9_choose 31 = .ok (.iload 4, 2) := by decide +kernel
theorem dX9_choose_33 : decode cX9_choose 33 = .ok (.i2l, 1) := by decide +kernel
theorem dX9_choose_34 : decode cX9_choose 34 = .ok (.ldiv, 1) := by decide +kernel
theorem dX9_choose_35 : decode cX9_choose 35 = .ok (.lstore_n 2, 1) := by decide +kernel
theorem dX9_choose_36 : decode cX9_choose 36 = .ok (.iinc 4 1, 3) := by decide +kernel
theorem dX9_choose_39 : decode cX9_choose 39 = .ok (.goto (-23), 3) := by decide +kernel
theorem dX9_choose_42 : decode cX9_choose 42 = .ok (.lload_n 2, 1) := by decide +kernel
theorem dX9_choose_43 : decode cX9_choose 43 = .ok (.lreturn, 1) := by decide +kernel
theorem dX9_joinsOf_0 : decode cX9_joinsOf 0 = .ok (.aload_n 0, 1) := by decide +kernel
theorem dX9_joinsOf_1 : decode cX9_joinsOf 1 = .ok (.invokevirtual 247, 3) := by decide +kernel
theorem dX9_joinsOf_4 : decode cX9_joinsOf 4 = .ok (.iload_n 1, 1) := by decide +kernel
theorem dX9_joinsOf_5 : decode cX9_joinsOf 5 = .ok (.iconst 0, 1) := by decide +kernel
theorem dX9_joinsOf_6 : decode cX9_joinsOf 6 = .ok (.aload_n 0, 1) := by decide +kernel
theorem dX9_joinsOf_7 : decode cX9_joinsOf 7 = .ok (.invokevirtual 187, 3) := by decide +kernel
theorem dX9_joinsOf_10 : decode cX9_joinsOf 10 = .ok (.invokestatic 142, 3) := by decide +kernel
theorem dX9_joinsOf_13 : decode cX9_joinsOf 13 = .ok (.ifCond .eq 12, 3) := by decide +kernel
theorem dX9_joinsOf_16 : decode cX9_joinsOf 16 = .ok (.aload_n 0, 1) := by decide +kernel
theorem dX9_joinsOf_17 : decode cX9_joinsOf 17 = .ok (.getfield 78, 3) := by decide +kernel
theorem dX9_joinsOf_20 : decode cX9_joinsOf 20 = .ok (.iload_n 1, 1) := by decide +kernel
theorem dX9_joinsOf_21 : decode cX9_joinsOf 21 = .ok (.laload, 1) := by decide +kernel
theorem dX9_joinsOf_22 : decode cX9_joinsOf 22 = .ok (.goto 4, 3) := by decide +kernel
theorem dX9_joinsOf_25 : decode cX9_joinsOf 25 = .ok (.lconst 0, 1) := by decide +kernel
theorem dX9_joinsOf_26 : decode cX9_joinsOf 26 = .ok (.lreturn, 1) := by decide +kernel
theorem dX9_barsOf_0 : decode cX9_barsOf 0 = .ok (.aload_n 0, 1) := by decide +kernel
theorem dX9_barsOf_1 : decode cX9_barsOf 1 = .ok (.invokevirtual 187, 3) := by decide +kernel
theorem dX9_barsOf_4 : decode cX9_barsOf 4 = .ok (.istore_n 2, 1) := by decide +kernel
theorem dX9_barsOf_5 : decode cX9_barsOf 5 = .ok (.aload_n 0, 1) := by decide +kernel
theorem dX9_barsOf_6 : decode cX9_barsOf 6 = .ok (.getfield 30, 3) := by decide +kernel
theorem dX9_barsOf_9 : decode cX9_barsOf 9 = .ok (.iconst 1, 1) := by decide +kernel
theorem dX9_barsOf_10 : decode cX9_barsOf 10 = .ok (.if_icmp .eq 12, 3) := by decide +kernel
theorem dX9_barsOf_13 : decode cX9_barsOf 13 = .ok (.iload_n 1, 1) := by decide +kernel
theorem dX9_barsOf_14 : decode cX9_barsOf 14 = .ok (.iconst 0, 1) := by decide +kernel
theorem dX9_barsOf_15 : decode cX9_barsOf 15 = .ok (.iload_n 2, 1) := by decide +kernel
theorem dX9_barsOf_16 : decode cX9_barsOf 16 = .ok (.invokestatic 142, 3) := by decide +kernel
theorem dX9_barsOf_19 : decode cX9_barsOf 19 = .ok (.ifCond .ne 7, 3) := by decide +kernel
theorem dX9_barsOf_22 : decode cX9_barsOf 22 = .ok (.lconst 0, 1) := by decide +kernel
theorem dX9_barsOf_23 : decode cX9_barsOf 23 = .ok (.goto 16, 3) := by decide +kernel
theorem dX9_barsOf_26 : decode cX9_barsOf 26 = .ok (.iload_n 2, 1) := by decide +kernel
theorem dX9_barsOf_27 : decode cX9_barsOf 27 = .ok (.iload_n 1, 1) := by decide +kernel
theorem dX9_barsOf_28 : decode cX9_barsOf 28 = .ok (.invokestatic 250, 3) := by decide +kernel
theorem dX9_barsOf_31 : decode cX9_barsOf 31 = .ok (.aload_n 0, 1) := by decide +kernel
theorem dX9_barsOf_32 : decode cX9_barsOf 32 = .ok (.iload_n 2, 1) := by decide +kernel
theorem dX9_barsOf_33 : decode cX9_barsOf 33 = .ok (.iload_n 1, 1) := by decide +kernel
theorem dX9_barsOf_34 : decode cX9_barsOf 34 = .ok (.isub, 1) := by decide +kernel
theorem dX9_barsOf_35 : decode cX9_barsOf 35 = .ok (.invokevirtual 254, 3) := by decide +kernel
theorem dX9_barsOf_38 : decode cX9_barsOf 38 = .ok (.lsub, 1) := by decide +kernel
theorem dX9_barsOf_39 : decode cX9_barsOf 39 = .ok (.lreturn, 1) := by decide +kernel
theorem dX9_joins_0 : decode cX9_joins 0 = .ok (.aload_n 0, 1) := by decide +kernel
theorem dX9_joins_1 : decode cX9_joins 1 = .ok (.iconst 0, 1) := by decide +kernel
theorem dX9_joins_2 : decode cX9_joins 2 = .ok (.putfield 103, 3) := by decide +kernel
theorem dX9_joins_5 : decode cX9_joins 5 = .ok (.aload_n 0, 1) := by decide +kernel
theorem dX9_joins_6 : decode cX9_joins 6 = .ok (.iload_n 1, 1) := by decide +kernel
theorem dX9_joins_7 : decode cX9_joins 7 = .ok (.invokevirtual 254, 3) := by decide +kernel
theorem dX9_joins_10 : decode cX9_joins 10 = .ok (.lreturn, 1) := by decide +kernel
theorem dX9_bars_0 : decode cX9_bars 0 = .ok (.aload_n 0, 1) := by decide +kernel
theorem dX9_bars_1 : decode cX9_bars 1 = .ok (.iconst 0, 1) := by decide +kernel
theorem dX9_bars_2 : decode cX9_bars 2 = .ok (.putfield 103, 3) := by decide +kernel
theorem dX9_bars_5 : decode cX9_bars 5 = .ok (.aload_n 0, 1) := by decide +kernel
theorem dX9_bars_6 : decode cX9_bars 6 = .ok (.iload_n 1, 1) := by decide +kernel
theorem dX9_bars_7 : decode cX9_bars 7 = .ok (.invokevirtual 258, 3) := by decide +kernel
theorem dX9_bars_10 : decode cX9_bars 10 = .ok (.lreturn, 1) := by decide +kernel
theorem dX9_choices_0 : decode cX9_choices 0 = .ok (.aload_n 0, 1) := by decide +kernel
