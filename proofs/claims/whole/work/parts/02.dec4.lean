theorem dX8_changes_28 : decode cX8_changes 28 = .ok (.iadd, 1) := by decide +kernel
theorem dX8_changes_29 : decode cX8_changes 29 = .ok (.iaload, 1) := by decide +kernel
theorem dX8_changes_30 : decode cX8_changes 30 = .ok (.istore_n 3, 1) := by decide +kernel
theorem dX8_changes_31 : decode cX8_changes 31 = .ok (.iload_n 3, 1) := by decide +kernel
theorem dX8_changes_32 : decode cX8_changes 32 = .ok (.iload_n 2, 1) := by decide +kernel
theorem dX8_changes_33 : decode cX8_changes 33 = .ok (.if_icmp .ne 6, 3) := by decide +kernel
theorem dX8_changes_36 : decode cX8_changes 36 = .ok (.bipush (-2), 2) := by decide +kernel
theorem dX8_changes_38 : decode cX8_changes 38 = .ok (.ireturn, 1) := by decide +kernel
theorem dX8_changes_39 : decode cX8_changes 39 = .ok (.aload_n 0, 1) := by decide +kernel
theorem dX8_changes_40 : decode cX8_changes 40 = .ok (.getfield 7, 3) := by decide +kernel
theorem dX8_changes_43 : decode cX8_changes 43 = .ok (.bipush 13, 2) := by decide +kernel
theorem dX8_changes_45 : decode cX8_changes 45 = .ok (.iload_n 1, 1) := by decide +kernel
theorem dX8_changes_46 : decode cX8_changes 46 = .ok (.iadd, 1) := by decide +kernel
theorem dX8_changes_47 : decode cX8_changes 47 = .ok (.iload_n 2, 1) := by decide +kernel
theorem dX8_changes_48 : decode cX8_changes 48 = .ok (.iastore, 1) := by decide +kernel
theorem dX8_changes_49 : decode cX8_changes 49 = .ok (.iload_n 3, 1) := by decide +kernel
theorem dX8_changes_50 : decode cX8_changes 50 = .ok (.ireturn, 1) := by decide +kernel
theorem dX8_without_0 : decode cX8_without 0 = .ok (.iload_n 0, 1) := by decide +kernel
theorem dX8_without_1 : decode cX8_without 1 = .ok (.iconst 1, 1) := by decide +kernel
theorem dX8_without_2 : decode cX8_without 2 = .ok (.iload_n 1, 1) := by decide +kernel
theorem dX8_without_3 : decode cX8_without 3 = .ok (.ishl, 1) := by decide +kernel
theorem dX8_without_4 : decode cX8_without 4 = .ok (.iconst 1, 1) := by decide +kernel
theorem dX8_without_5 : decode cX8_without 5 = .ok (.isub, 1) := by decide +kernel
theorem dX8_without_6 : decode cX8_without 6 = .ok (.iand, 1) := by decide +kernel
theorem dX8_without_7 : decode cX8_without 7 = .ok (.istore_n 2, 1) := by decide +kernel
theorem dX8_without_8 : decode cX8_without 8 = .ok (.iload_n 2, 1) := by decide +kernel
theorem dX8_without_9 : decode cX8_without 9 = .ok (.iload_n 0, 1) := by decide +kernel
theorem dX8_without_10 : decode cX8_without 10 = .ok (.iload_n 1, 1) := by decide +kernel
theorem dX8_without_11 : decode cX8_without 11 = .ok (.iconst 1, 1) := by decide +kernel
theorem dX8_without_12 : decode cX8_without 12 = .ok (.iadd, 1) := by decide +kernel
theorem dX8_without_13 : decode cX8_without 13 = .ok (.ishr, 1) := by decide +kernel
theorem dX8_without_14 : decode cX8_without 14 = .ok (.iload_n 1, 1) := by decide +kernel
theorem dX8_without_15 : decode cX8_without 15 = .ok (.ishl, 1) := by decide +kernel
theorem dX8_without_16 : decode cX8_without 16 = .ok (.ior, 1) := by decide +kernel
theorem dX8_without_17 : decode cX8_without 17 = .ok (.ireturn, 1) := by decide +kernel
theorem dX8_loses_0 : decode cX8_loses 0 = .ok (.aload_n 0, 1) := by decide +kernel
theorem dX8_loses_1 : decode cX8_loses 1 = .ok (.iload_n 1, 1) := by decide +kernel
theorem dX8_loses_2 : decode cX8_loses 2 = .ok (.invokevirtual 104, 3) := by decide +kernel
theorem dX8_loses_5 : decode cX8_loses 5 = .ok (.ifCond .ne 5, 3) := by decide +kernel
theorem dX8_loses_8 : decode cX8_loses 8 = .ok (.iconst (-1), 1) := by decide +kernel
theorem dX8_loses_9 : decode cX8_loses 9 = .ok (.ireturn, 1) := by decide +kernel
theorem dX8_loses_10 : decode cX8_loses 10 = .ok (.aload_n 0, 1) := by decide +kernel
theorem dX8_loses_11 : decode cX8_loses 11 = .ok (.getfield 7, 3) := by decide +kernel
theorem dX8_loses_14 : decode cX8_loses 14 = .ok (.iconst 0, 1) := by decide +kernel
theorem dX8_loses_15 : decode cX8_loses 15 = .ok (.iaload, 1) := by decide +kernel
theorem dX8_loses_16 : decode cX8_loses 16 = .ok (.iconst 1, 1) := by decide +kernel
theorem dX8_loses_17 : decode cX8_loses 17 = .ok (.isub, 1) := by decide +kernel
theorem dX8_loses_18 : decode cX8_loses 18 = .ok (.istore_n 2, 1) := by decide +kernel
theorem dX8_loses_19 : decode cX8_loses 19 = .ok (.aload_n 0, 1) := by decide +kernel
theorem dX8_loses_20 : decode cX8_loses 20 = .ok (.iload_n 1, 1) := by decide +kernel
theorem dX8_loses_21 : decode cX8_loses 21 = .ok (.invokevirtual 111, 3) := by decide +kernel
theorem dX8_loses_24 : decode cX8_loses 24 = .ok (.istore_n 3, 1) := by decide +kernel
theorem dX8_loses_25 : decode cX8_loses 25 = .ok (.iload_n 3, 1) := by decide +kernel
theorem dX8_loses_26 : decode cX8_loses 26 = .ok (.istore 4, 2) := by decide +kernel
theorem dX8_loses_28 : decode cX8_loses 28 = .ok (.iload 4, 2) := by decide +kernel
theorem dX8_loses_30 : decode cX8_loses 30 = .ok (.iload_n 2, 1) := by decide +kernel
theorem dX8_loses_31 : decode cX8_loses 31 = .ok (.if_icmp .ge 31, 3) := by decide +kernel
theorem dX8_loses_34 : decode cX8_loses 34 = .ok (.aload_n 0, 1) := by decide +kernel
theorem dX8_loses_35 : decode cX8_loses 35 = .ok (.getfield 7, 3) := by decide +kernel
theorem dX8_loses_38 : decode cX8_loses 38 = .ok (.bipush 6, 2) := by decide +kernel
theorem dX8_loses_40 : decode cX8_loses 40 = .ok (.iload 4, 2) := by decide +kernel
theorem dX8_loses_42 : decode cX8_loses 42 = .ok (.iadd, 1) := by decide +kernel
theorem dX8_loses_43 : decode cX8_loses 43 = .ok (.aload_n 0, 1) := by decide +kernel
theorem dX8_loses_44 : decode cX8_loses 44 = .ok (.getfield 7, 3) := by decide +kernel
theorem dX8_loses_47 : decode cX8_loses 47 = .ok (.bipush 6, 2) := by decide +kernel
theorem dX8_loses_49 : decode cX8_loses 49 = .ok (.iload 4, 2) := by decide +kernel
theorem dX8_loses_51 : decode cX8_loses 51 = .ok (.iadd, 1) := by decide +kernel
theorem dX8_loses_52 : decode cX8_loses 52 = .ok (.iconst 1, 1) := by decide +kernel
theorem dX8_loses_53 : decode cX8_loses 53 = .ok (.iadd, 1) := by decide +kernel
theorem dX8_loses_54 : decode cX8_loses 54 = .ok (.iaload, 1) := by decide +kernel
theorem dX8_loses_55 : decode cX8_loses 55 = .ok (.iastore, 1) := by decide +kernel
theorem dX8_loses_56 : decode cX8_loses 56 = .ok (.iinc 4 1, 3) := by decide +kernel
theorem dX8_loses_59 : decode cX8_loses 59 = .ok (.goto (-31), 3) := by decide +kernel
theorem dX8_loses_62 : decode cX8_loses 62 = .ok (.iload_n 1, 1) := by decide +kernel
theorem dX8_loses_63 : decode cX8_loses 63 = .ok (.istore 4, 2) := by decide +kernel
theorem dX8_loses_65 : decode cX8_loses 65 = .ok (.iload 4, 2) := by decide +kernel
theorem dX8_loses_67 : decode cX8_loses 67 = .ok (.iload_n 2, 1) := by decide +kernel
theorem dX8_loses_68 : decode cX8_loses 68 = .ok (.if_icmp .ge 53, 3) := by decide +kernel
theorem dX8_loses_71 : decode cX8_loses 71 = .ok (.aload_n 0, 1) := by decide +kernel
theorem dX8_loses_72 : decode cX8_loses 72 = .ok (.getfield 7, 3) := by decide +kernel
theorem dX8_loses_75 : decode cX8_loses 75 = .ok (.bipush 13, 2) := by decide +kernel
theorem dX8_loses_77 : decode cX8_loses 77 = .ok (.iload 4, 2) := by decide +kernel
theorem dX8_loses_79 : decode cX8_loses 79 = .ok (.iadd, 1) := by decide +kernel
theorem dX8_loses_80 : decode cX8_loses 80 = .ok (.aload_n 0, 1) := by decide +kernel
theorem dX8_loses_81 : decode cX8_loses 81 = .ok (.getfield 7, 3) := by decide +kernel
theorem dX8_loses_84 : decode cX8_loses 84 = .ok (.bipush 13, 2) := by decide +kernel
theorem dX8_loses_86 : decode cX8_loses 86 = .ok (.iload 4, 2) := by decide +kernel
theorem dX8_loses_88 : decode cX8_loses 88 = .ok (.iadd, 1) := by decide +kernel
theorem dX8_loses_89 : decode cX8_loses 89 = .ok (.iconst 1, 1) := by decide +kernel
theorem dX8_loses_90 : decode cX8_loses 90 = .ok (.iadd, 1) := by decide +kernel
theorem dX8_loses_91 : decode cX8_loses 91 = .ok (.iaload, 1) := by decide +kernel
theorem dX8_loses_92 : decode cX8_loses 92 = .ok (.iastore, 1) := by decide +kernel
theorem dX8_loses_93 : decode cX8_loses 93 = .ok (.aload_n 0, 1) := by decide +kernel
theorem dX8_loses_94 : decode cX8_loses 94 = .ok (.getfield 7, 3) := by decide +kernel
theorem dX8_loses_97 : decode cX8_loses 97 = .ok (.bipush 20, 2) := by decide +kernel
theorem dX8_loses_99 : decode cX8_loses 99 = .ok (.iload 4, 2) := by decide +kernel
theorem dX8_loses_101 : decode cX8_loses 101 = .ok (.iadd, 1) := by decide +kernel
theorem dX8_loses_102 : decode cX8_loses 102 = .ok (.aload_n 0, 1) := by decide +kernel
theorem dX8_loses_103 : decode cX8_loses 103 = .ok (.getfield 7, 3) := by decide +kernel
theorem dX8_loses_106 : decode cX8_loses 106 = .ok (.bipush 20, 2) := by decide +kernel
theorem dX8_loses_108 : decode cX8_loses 108 = .ok (.iload 4, 2) := by decide +kernel
theorem dX8_loses_110 : decode cX8_loses 110 = .ok (.iadd, 1) := by decide +kernel
theorem dX8_loses_111 : decode cX8_loses 111 = .ok (.iconst 1, 1) := by decide +kernel
theorem dX8_loses_112 : decode cX8_loses 112 = .ok (.iadd, 1) := by decide +kernel
theorem dX8_loses_113 : decode cX8_loses 113 = .ok (.iaload, 1) := by decide +kernel
theorem dX8_loses_114 : decode cX8_loses 114 = .ok (.iastore, 1) := by decide +kernel
theorem dX8_loses_115 : decode cX8_loses 115 = .ok (.iinc 4 1, 3) := by decide +kernel
theorem dX8_loses_118 : decode cX8_loses 118 = .ok (.goto (-53), 3) := by decide +kernel
theorem dX8_loses_121 : decode cX8_loses 121 = .ok (.aload_n 0, 1) := by decide +kernel
theorem dX8_loses_122 : decode cX8_loses 122 = .ok (.getfield 7, 3) := by decide +kernel
theorem dX8_loses_125 : decode cX8_loses 125 = .ok (.iconst 0, 1) := by decide +kernel
theorem dX8_loses_126 : decode cX8_loses 126 = .ok (.iload_n 2, 1) := by decide +kernel
theorem dX8_loses_127 : decode cX8_loses 127 = .ok (.iastore, 1) := by decide +kernel
theorem dX8_loses_128 : decode cX8_loses 128 = .ok (.aload_n 0, 1) := by decide +kernel
theorem dX8_loses_129 : decode cX8_loses 129 = .ok (.getfield 7, 3) := by decide +kernel
theorem dX8_loses_132 : decode cX8_loses 132 = .ok (.bipush 6, 2) := by decide +kernel
theorem dX8_loses_134 : decode cX8_loses 134 = .ok (.iload_n 2, 1) := by decide +kernel
theorem dX8_loses_135 : decode cX8_loses 135 = .ok (.iadd, 1) := by decide +kernel
theorem dX8_loses_136 : decode cX8_loses 136 = .ok (.iconst 0, 1) := by decide +kernel
theorem dX8_loses_137 : decode cX8_loses 137 = .ok (.iastore, 1) := by decide +kernel
theorem dX8_loses_138 : decode cX8_loses 138 = .ok (.aload_n 0, 1) := by decide +kernel
theorem dX8_loses_139 : decode cX8_loses 139 = .ok (.getfield 7, 3) := by decide +kernel
theorem dX8_loses_142 : decode cX8_loses 142 = .ok (.bipush 13, 2) := by decide +kernel
theorem dX8_loses_144 : decode cX8_loses 144 = .ok (.iload_n 2, 1) := by decide +kernel
theorem dX8_loses_145 : decode cX8_loses 145 = .ok (.iadd, 1) := by decide +kernel
theorem dX8_loses_146 : decode cX8_loses 146 = .ok (.iconst 0, 1) := by decide +kernel
theorem dX8_loses_147 : decode cX8_loses 147 = .ok (.iastore, 1) := by decide +kernel
theorem dX8_loses_148 : decode cX8_loses 148 = .ok (.aload_n 0, 1) := by decide +kernel
theorem dX8_loses_149 : decode cX8_loses 149 = .ok (.getfield 7, 3) := by decide +kernel
theorem dX8_loses_152 : decode cX8_loses 152 = .ok (.bipush 20, 2) := by decide +kernel
theorem dX8_loses_154 : decode cX8_loses 154 = .ok (.iload_n 2, 1) := by decide +kernel
theorem dX8_loses_155 : decode cX8_loses 155 = .ok (.iadd, 1) := by decide +kernel
theorem dX8_loses_156 : decode cX8_loses 156 = .ok (.iconst 0, 1) := by decide +kernel
theorem dX8_loses_157 : decode cX8_loses 157 = .ok (.iastore, 1) := by decide +kernel
theorem dX8_loses_158 : decode cX8_loses 158 = .ok (.iconst 0, 1) := by decide +kernel
theorem dX8_loses_159 : decode cX8_loses 159 = .ok (.istore 4, 2) := by decide +kernel
theorem dX8_loses_161 : decode cX8_loses 161 = .ok (.iload 4, 2) := by decide +kernel
theorem dX8_loses_163 : decode cX8_loses 163 = .ok (.iload_n 2, 1) := by decide +kernel
theorem dX8_loses_164 : decode cX8_loses 164 = .ok (.if_icmp .ge 65, 3) := by decide +kernel
theorem dX8_loses_167 : decode cX8_loses 167 = .ok (.aload_n 0, 1) := by decide +kernel
theorem dX8_loses_168 : decode cX8_loses 168 = .ok (.getfield 7, 3) := by decide +kernel
theorem dX8_loses_171 : decode cX8_loses 171 = .ok (.bipush 6, 2) := by decide +kernel
theorem dX8_loses_173 : decode cX8_loses 173 = .ok (.iload 4, 2) := by decide +kernel
theorem dX8_loses_175 : decode cX8_loses 175 = .ok (.iadd, 1) := by decide +kernel
theorem dX8_loses_176 : decode cX8_loses 176 = .ok (.dup2, 1) := by decide +kernel
theorem dX8_loses_177 : decode cX8_loses 177 = .ok (.iaload, 1) := by decide +kernel
theorem dX8_loses_178 : decode cX8_loses 178 = .ok (.aload_n 0, 1) := by decide +kernel
theorem dX8_loses_179 : decode cX8_loses 179 = .ok (.getfield 7, 3) := by decide +kernel
theorem dX8_loses_182 : decode cX8_loses 182 = .ok (.bipush 6, 2) := by decide +kernel
theorem dX8_loses_184 : decode cX8_loses 184 = .ok (.iload 4, 2) := by decide +kernel
theorem dX8_loses_186 : decode cX8_loses 186 = .ok (.iadd, 1) := by decide +kernel
theorem dX8_loses_187 : decode cX8_loses 187 = .ok (.iaload, 1) := by decide +kernel
theorem dX8_loses_188 : decode cX8_loses 188 = .ok (.iload_n 1, 1) := by decide +kernel
theorem dX8_loses_189 : decode cX8_loses 189 = .ok (.if_icmp .le 7, 3) := by decide +kernel
theorem dX8_loses_192 : decode cX8_loses 192 = .ok (.iconst 1, 1) := by decide +kernel
theorem dX8_loses_193 : decode cX8_loses 193 = .ok (.goto 4, 3) := by decide +kernel
theorem dX8_loses_196 : decode cX8_loses 196 = .ok (.iconst 0, 1) := by decide +kernel
theorem dX8_loses_197 : decode cX8_loses 197 = .ok (.isub, 1) := by decide +kernel
theorem dX8_loses_198 : decode cX8_loses 198 = .ok (.iastore, 1) := by decide +kernel
theorem dX8_loses_199 : decode cX8_loses 199 = .ok (.aload_n 0, 1) := by decide +kernel
theorem dX8_loses_200 : decode cX8_loses 200 = .ok (.getfield 7, 3) := by decide +kernel
theorem dX8_loses_203 : decode cX8_loses 203 = .ok (.bipush 20, 2) := by decide +kernel
theorem dX8_loses_205 : decode cX8_loses 205 = .ok (.iload 4, 2) := by decide +kernel
theorem dX8_loses_207 : decode cX8_loses 207 = .ok (.iadd, 1) := by decide +kernel
theorem dX8_loses_208 : decode cX8_loses 208 = .ok (.aload_n 0, 1) := by decide +kernel
theorem dX8_loses_209 : decode cX8_loses 209 = .ok (.getfield 7, 3) := by decide +kernel
theorem dX8_loses_212 : decode cX8_loses 212 = .ok (.bipush 20, 2) := by decide +kernel
theorem dX8_loses_214 : decode cX8_loses 214 = .ok (.iload 4, 2) := by decide +kernel
theorem dX8_loses_216 : decode cX8_loses 216 = .ok (.iadd, 1) := by decide +kernel
theorem dX8_loses_217 : decode cX8_loses 217 = .ok (.iaload, 1) := by decide +kernel
theorem dX8_loses_218 : decode cX8_loses 218 = .ok (.iload_n 1, 1) := by decide +kernel
theorem dX8_loses_219 : decode cX8_loses 219 = .ok (.invokestatic 175, 3) := by decide +kernel
theorem dX8_loses_222 : decode cX8_loses 222 = .ok (.iastore, 1) := by decide +kernel
theorem dX8_loses_223 : decode cX8_loses 223 = .ok (.iinc 4 1, 3) := by decide +kernel
theorem dX8_loses_226 : decode cX8_loses 226 = .ok (.goto (-65), 3) := by decide +kernel
theorem dX8_loses_229 : decode cX8_loses 229 = .ok (.iload_n 2, 1) := by decide +kernel
theorem dX8_loses_230 : decode cX8_loses 230 = .ok (.ireturn, 1) := by decide +kernel
theorem dX8_comesTo_0 : decode cX8_comesTo 0 = .ok (.iconst 1, 1) := by decide +kernel
theorem dX8_comesTo_1 : decode cX8_comesTo 1 = .ok (.iload_n 1, 1) := by decide +kernel
theorem dX8_comesTo_2 : decode cX8_comesTo 2 = .ok (.ishl, 1) := by decide +kernel
theorem dX8_comesTo_3 : decode cX8_comesTo 3 = .ok (.istore_n 3, 1) := by decide +kernel
theorem dX8_comesTo_4 : decode cX8_comesTo 4 = .ok (.iconst 0, 1) := by decide +kernel
theorem dX8_comesTo_5 : decode cX8_comesTo 5 = .ok (.istore 4, 2) := by decide +kernel
theorem dX8_comesTo_7 : decode cX8_comesTo 7 = .ok (.iload 4, 2) := by decide +kernel
theorem dX8_comesTo_9 : decode cX8_comesTo 9 = .ok (.bipush 7, 2) := by decide +kernel
theorem dX8_comesTo_11 : decode cX8_comesTo 11 = .ok (.if_icmp .ge 55, 3) := by decide +kernel
theorem dX8_comesTo_14 : decode cX8_comesTo 14 = .ok (.iconst 0, 1) := by decide +kernel
theorem dX8_comesTo_15 : decode cX8_comesTo 15 = .ok (.istore 5, 2) := by decide +kernel
theorem dX8_comesTo_17 : decode cX8_comesTo 17 = .ok (.iload 5, 2) := by decide +kernel
theorem dX8_comesTo_19 : decode cX8_comesTo 19 = .ok (.aload_n 0, 1) := by decide +kernel
theorem dX8_comesTo_20 : decode cX8_comesTo 20 = .ok (.getfield 7, 3) := by decide +kernel
theorem dX8_comesTo_23 : decode cX8_comesTo 23 = .ok (.iconst 0, 1) := by decide +kernel
theorem dX8_comesTo_24 : decode cX8_comesTo 24 = .ok (.iaload, 1) := by decide +kernel
theorem dX8_comesTo_25 : decode cX8_comesTo 25 = .ok (.if_icmp .ge 35, 3) := by decide +kernel
theorem dX8_comesTo_28 : decode cX8_comesTo 28 = .ok (.iload_n 3, 1) := by decide +kernel
theorem dX8_comesTo_29 : decode cX8_comesTo 29 = .ok (.iload_n 3, 1) := by decide +kernel
theorem dX8_comesTo_30 : decode cX8_comesTo 30 = .ok (.iload 5, 2) := by decide +kernel
theorem dX8_comesTo_32 : decode cX8_comesTo 32 = .ok (.invokestatic 75, 3) := by decide +kernel
theorem dX8_comesTo_35 : decode cX8_comesTo 35 = .ok (.ifCond .eq 16, 3) := by decide +kernel
theorem dX8_comesTo_38 : decode cX8_comesTo 38 = .ok (.aload_n 0, 1) := by decide +kernel
theorem dX8_comesTo_39 : decode cX8_comesTo 39 = .ok (.getfield 7, 3) := by decide +kernel
theorem dX8_comesTo_42 : decode cX8_comesTo 42 = .ok (.bipush 20, 2) := by decide +kernel
theorem dX8_comesTo_44 : decode cX8_comesTo 44 = .ok (.iload 5, 2) := by decide +kernel
theorem dX8_comesTo_46 : decode cX8_comesTo 46 = .ok (.iadd, 1) := by decide +kernel
theorem dX8_comesTo_47 : decode cX8_comesTo 47 = .ok (.iaload, 1) := by decide +kernel
theorem dX8_comesTo_48 : decode cX8_comesTo 48 = .ok (.goto 4, 3) := by decide +kernel
theorem dX8_comesTo_51 : decode cX8_comesTo 51 = .ok (.iconst 0, 1) := by decide +kernel
theorem dX8_comesTo_52 : decode cX8_comesTo 52 = .ok (.ior, 1) := by decide +kernel
theorem dX8_comesTo_53 : decode cX8_comesTo 53 = .ok (.istore_n 3, 1) := by decide +kernel
theorem dX8_comesTo_54 : decode cX8_comesTo 54 = .ok (.iinc 5 1, 3) := by decide +kernel
theorem dX8_comesTo_57 : decode cX8_comesTo 57 = .ok (.goto (-40), 3) := by decide +kernel
theorem dX8_comesTo_60 : decode cX8_comesTo 60 = .ok (.iinc 4 1, 3) := by decide +kernel
theorem dX8_comesTo_63 : decode cX8_comesTo 63 = .ok (.goto (-56), 3) := by decide +kernel
theorem dX8_comesTo_66 : decode cX8_comesTo 66 = .ok (.iload_n 3, 1) := by decide +kernel
theorem dX8_comesTo_67 : decode cX8_comesTo 67 = .ok (.iload_n 2, 1) := by decide +kernel
theorem dX8_comesTo_68 : decode cX8_comesTo 68 = .ok (.invokestatic 75, 3) := by decide +kernel
theorem dX8_comesTo_71 : decode cX8_comesTo 71 = .ok (.ireturn, 1) := by decide +kernel
theorem dX8_puts_0 : decode cX8_puts 0 = .ok (.aload_n 0, 1) := by decide +kernel
theorem dX8_puts_1 : decode cX8_puts 1 = .ok (.iload_n 1, 1) := by decide +kernel
theorem dX8_puts_2 : decode cX8_puts 2 = .ok (.invokevirtual 104, 3) := by decide +kernel
theorem dX8_puts_5 : decode cX8_puts 5 = .ok (.ifCond .eq 16, 3) := by decide +kernel
theorem dX8_puts_8 : decode cX8_puts 8 = .ok (.aload_n 0, 1) := by decide +kernel
theorem dX8_puts_9 : decode cX8_puts 9 = .ok (.iload_n 2, 1) := by decide +kernel
theorem dX8_puts_10 : decode cX8_puts 10 = .ok (.invokevirtual 104, 3) := by decide +kernel
theorem dX8_puts_13 : decode cX8_puts 13 = .ok (.ifCond .eq 8, 3) := by decide +kernel
theorem dX8_puts_16 : decode cX8_puts 16 = .ok (.iload_n 1, 1) := by decide +kernel
theorem dX8_puts_17 : decode cX8_puts 17 = .ok (.iload_n 2, 1) := by decide +kernel
theorem dX8_puts_18 : decode cX8_puts 18 = .ok (.if_icmp .ne 5, 3) := by decide +kernel
theorem dX8_puts_21 : decode cX8_puts 21 = .ok (.iconst (-1), 1) := by decide +kernel
theorem dX8_puts_22 : decode cX8_puts 22 = .ok (.ireturn, 1) := by decide +kernel
theorem dX8_puts_23 : decode cX8_puts 23 = .ok (.aload_n 0, 1) := by decide +kernel
theorem dX8_puts_24 : decode cX8_puts 24 = .ok (.getfield 7, 3) := by decide +kernel
theorem dX8_puts_27 : decode cX8_puts 27 = .ok (.bipush 20, 2) := by decide +kernel
theorem dX8_puts_29 : decode cX8_puts 29 = .ok (.iload_n 1, 1) := by decide +kernel
theorem dX8_puts_30 : decode cX8_puts 30 = .ok (.iadd, 1) := by decide +kernel
theorem dX8_puts_31 : decode cX8_puts 31 = .ok (.iaload, 1) := by decide +kernel
theorem dX8_puts_32 : decode cX8_puts 32 = .ok (.iload_n 2, 1) := by decide +kernel
theorem dX8_puts_33 : decode cX8_puts 33 = .ok (.invokestatic 75, 3) := by decide +kernel
theorem dX8_puts_36 : decode cX8_puts 36 = .ok (.istore_n 3, 1) := by decide +kernel
theorem dX8_puts_37 : decode cX8_puts 37 = .ok (.iload_n 3, 1) := by decide +kernel
theorem dX8_puts_38 : decode cX8_puts 38 = .ok (.ifCond .ne 15, 3) := by decide +kernel
theorem dX8_puts_41 : decode cX8_puts 41 = .ok (.aload_n 0, 1) := by decide +kernel
theorem dX8_puts_42 : decode cX8_puts 42 = .ok (.iload_n 2, 1) := by decide +kernel
theorem dX8_puts_43 : decode cX8_puts 43 = .ok (.iload_n 1, 1) := by decide +kernel
theorem dX8_puts_44 : decode cX8_puts 44 = .ok (.invokevirtual 179, 3) := by decide +kernel
theorem dX8_puts_47 : decode cX8_puts 47 = .ok (.ifCond .eq 6, 3) := by decide +kernel
theorem dX8_puts_50 : decode cX8_puts 50 = .ok (.bipush (-2), 2) := by decide +kernel
theorem dX8_puts_52 : decode cX8_puts 52 = .ok (.ireturn, 1) := by decide +kernel
theorem dX8_puts_53 : decode cX8_puts 53 = .ok (.aload_n 0, 1) := by decide +kernel
theorem dX8_puts_54 : decode cX8_puts 54 = .ok (.getfield 7, 3) := by decide +kernel
theorem dX8_puts_57 : decode cX8_puts 57 = .ok (.bipush 20, 2) := by decide +kernel
theorem dX8_puts_59 : decode cX8_puts 59 = .ok (.iload_n 1, 1) := by decide +kernel
theorem dX8_puts_60 : decode cX8_puts 60 = .ok (.iadd, 1) := by decide +kernel
theorem dX8_puts_61 : decode cX8_puts 61 = .ok (.dup2, 1) := by decide +kernel
theorem dX8_puts_62 : decode cX8_puts 62 = .ok (.iaload, 1) := by decide +kernel
theorem dX8_puts_63 : decode cX8_puts 63 = .ok (.iconst 1, 1) := by decide +kernel
theorem dX8_puts_64 : decode cX8_puts 64 = .ok (.iload_n 2, 1) := by decide +kernel
theorem dX8_puts_65 : decode cX8_puts 65 = .ok (.ishl, 1) := by decide +kernel
theorem dX8_puts_66 : decode cX8_puts 66 = .ok (.ixor, 1) := by decide +kernel
theorem dX8_puts_67 : decode cX8_puts 67 = .ok (.iastore, 1) := by decide +kernel
theorem dX8_puts_68 : decode cX8_puts 68 = .ok (.iload_n 3, 1) := by decide +kernel
theorem dX8_puts_69 : decode cX8_puts 69 = .ok (.ifCond .eq 7, 3) := by decide +kernel
theorem dX8_puts_72 : decode cX8_puts 72 = .ok (.iconst 0, 1) := by decide +kernel
theorem dX8_puts_73 : decode cX8_puts 73 = .ok (.goto 4, 3) := by decide +kernel
theorem dX8_puts_76 : decode cX8_puts 76 = .ok (.iconst 1, 1) := by decide +kernel
theorem dX8_puts_77 : decode cX8_puts 77 = .ok (.ireturn, 1) := by decide +kernel
theorem dX8_sets_0 : decode cX8_sets 0 = .ok (.iload_n 1, 1) := by decide +kernel
theorem dX8_sets_1 : decode cX8_sets 1 = .ok (.invokestatic 172, 3) := by decide +kernel
theorem dX8_sets_4 : decode cX8_sets 4 = .ok (.ifCond .ne 5, 3) := by decide +kernel
theorem dX8_sets_7 : decode cX8_sets 7 = .ok (.iconst (-1), 1) := by decide +kernel
theorem dX8_sets_8 : decode cX8_sets 8 = .ok (.ireturn, 1) := by decide +kernel
theorem dX8_sets_9 : decode cX8_sets 9 = .ok (.aload_n 0, 1) := by decide +kernel
theorem dX8_sets_10 : decode cX8_sets 10 = .ok (.getfield 7, 3) := by decide +kernel
theorem dX8_sets_13 : decode cX8_sets 13 = .ok (.iconst 1, 1) := by decide +kernel
theorem dX8_sets_14 : decode cX8_sets 14 = .ok (.iaload, 1) := by decide +kernel
theorem dX8_sets_15 : decode cX8_sets 15 = .ok (.istore_n 2, 1) := by decide +kernel
theorem dX8_sets_16 : decode cX8_sets 16 = .ok (.iload_n 2, 1) := by decide +kernel
theorem dX8_sets_17 : decode cX8_sets 17 = .ok (.iload_n 1, 1) := by decide +kernel
theorem dX8_sets_18 : decode cX8_sets 18 = .ok (.if_icmp .ne 6, 3) := by decide +kernel
theorem dX8_sets_21 : decode cX8_sets 21 = .ok (.bipush (-2), 2) := by decide +kernel
theorem dX8_sets_23 : decode cX8_sets 23 = .ok (.ireturn, 1) := by decide +kernel
theorem dX8_sets_24 : decode cX8_sets 24 = .ok (.aload_n 0, 1) := by decide +kernel
theorem dX8_sets_25 : decode cX8_sets 25 = .ok (.getfield 7, 3) := by decide +kernel
theorem dX8_sets_28 : decode cX8_sets 28 = .ok (.iconst 1, 1) := by decide +kernel
theorem dX8_sets_29 : decode cX8_sets 29 = .ok (.iload_n 1, 1) := by decide +kernel
theorem dX8_sets_30 : decode cX8_sets 30 = .ok (.iastore, 1) := by decide +kernel
theorem dX8_sets_31 : decode cX8_sets 31 = .ok (.iload_n 2, 1) := by decide +kernel
theorem dX8_sets_32 : decode cX8_sets 32 = .ok (.ireturn, 1) := by decide +kernel
theorem dX8_tells_0 : decode cX8_tells 0 = .ok (.iload_n 1, 1) := by decide +kernel
theorem dX8_tells_1 : decode cX8_tells 1 = .ok (.ifCond .ne 15, 3) := by decide +kernel
theorem dX8_tells_4 : decode cX8_tells 4 = .ok (.iload_n 2, 1) := by decide +kernel
theorem dX8_tells_5 : decode cX8_tells 5 = .ok (.i2l, 1) := by decide +kernel
theorem dX8_tells_6 : decode cX8_tells 6 = .ok (.lconst 1, 1) := by decide +kernel
theorem dX8_tells_7 : decode cX8_tells 7 = .ok (.ldc2_w 182, 3) := by decide +kernel
theorem dX8_tells_10 : decode cX8_tells 10 = .ok (.invokestatic 71, 3) := by decide +kernel
theorem dX8_tells_13 : decode cX8_tells 13 = .ok (.goto 42, 3) := by decide +kernel
theorem dX8_tells_16 : decode cX8_tells 16 = .ok (.iload_n 1, 1) := by decide +kernel
theorem dX8_tells_17 : decode cX8_tells 17 = .ok (.iconst 1, 1) := by decide +kernel
theorem dX8_tells_18 : decode cX8_tells 18 = .ok (.if_icmp .ne 15, 3) := by decide +kernel
theorem dX8_tells_21 : decode cX8_tells 21 = .ok (.iload_n 2, 1) := by decide +kernel
theorem dX8_tells_22 : decode cX8_tells 22 = .ok (.i2l, 1) := by decide +kernel
theorem dX8_tells_23 : decode cX8_tells 23 = .ok (.lconst 0, 1) := by decide +kernel
theorem dX8_tells_24 : decode cX8_tells 24 = .ok (.ldc2_w 184, 3) := by decide +kernel
theorem dX8_tells_27 : decode cX8_tells 27 = .ok (.invokestatic 71, 3) := by decide +kernel
theorem dX8_tells_30 : decode cX8_tells 30 = .ok (.goto 25, 3) := by decide +kernel
theorem dX8_tells_33 : decode cX8_tells 33 = .ok (.iload_n 1, 1) := by decide +kernel
theorem dX8_tells_34 : decode cX8_tells 34 = .ok (.iconst 2, 1) := by decide +kernel
theorem dX8_tells_35 : decode cX8_tells 35 = .ok (.if_icmp .ne 19, 3) := by decide +kernel
theorem dX8_tells_38 : decode cX8_tells 38 = .ok (.iload_n 2, 1) := by decide +kernel
theorem dX8_tells_39 : decode cX8_tells 39 = .ok (.i2l, 1) := by decide +kernel
theorem dX8_tells_40 : decode cX8_tells 40 = .ok (.lconst 0, 1) := by decide +kernel
theorem dX8_tells_41 : decode cX8_tells 41 = .ok (.ldc2_w 186, 3) := by decide +kernel
theorem dX8_tells_44 : decode cX8_tells 44 = .ok (.invokestatic 71, 3) := by decide +kernel
theorem dX8_tells_47 : decode cX8_tells 47 = .ok (.ifCond .eq 7, 3) := by decide +kernel
theorem dX8_tells_50 : decode cX8_tells 50 = .ok (.iconst 1, 1) := by decide +kernel
theorem dX8_tells_51 : decode cX8_tells 51 = .ok (.goto 4, 3) := by decide +kernel
theorem dX8_tells_54 : decode cX8_tells 54 = .ok (.iconst 0, 1) := by decide +kernel
theorem dX8_tells_55 : decode cX8_tells 55 = .ok (.istore_n 3, 1) := by decide +kernel
theorem dX8_tells_56 : decode cX8_tells 56 = .ok (.iload_n 3, 1) := by decide +kernel
theorem dX8_tells_57 : decode cX8_tells 57 = .ok (.ifCond .ne 5, 3) := by decide +kernel
theorem dX8_tells_60 : decode cX8_tells 60 = .ok (.iconst (-1), 1) := by decide +kernel
theorem dX8_tells_61 : decode cX8_tells 61 = .ok (.ireturn, 1) := by decide +kernel
theorem dX8_tells_62 : decode cX8_tells 62 = .ok (.aload_n 0, 1) := by decide +kernel
theorem dX8_tells_63 : decode cX8_tells 63 = .ok (.getfield 7, 3) := by decide +kernel
theorem dX8_tells_66 : decode cX8_tells 66 = .ok (.iconst 2, 1) := by decide +kernel
theorem dX8_tells_67 : decode cX8_tells 67 = .ok (.iload_n 1, 1) := by decide +kernel
theorem dX8_tells_68 : decode cX8_tells 68 = .ok (.iadd, 1) := by decide +kernel
theorem dX8_tells_69 : decode cX8_tells 69 = .ok (.iaload, 1) := by decide +kernel
theorem dX8_tells_70 : decode cX8_tells 70 = .ok (.istore 4, 2) := by decide +kernel
theorem dX8_tells_72 : decode cX8_tells 72 = .ok (.iload 4, 2) := by decide +kernel
theorem dX8_tells_74 : decode cX8_tells 74 = .ok (.iload_n 2, 1) := by decide +kernel
theorem dX8_tells_75 : decode cX8_tells 75 = .ok (.if_icmp .ne 6, 3) := by decide +kernel
theorem dX8_tells_78 : decode cX8_tells 78 = .ok (.bipush (-2), 2) := by decide +kernel
theorem dX8_tells_80 : decode cX8_tells 80 = .ok (.ireturn, 1) := by decide +kernel
theorem dX8_tells_81 : decode cX8_tells 81 = .ok (.aload_n 0, 1) := by decide +kernel
theorem dX8_tells_82 : decode cX8_tells 82 = .ok (.getfield 7, 3) := by decide +kernel
theorem dX8_tells_85 : decode cX8_tells 85 = .ok (.iconst 2, 1) := by decide +kernel
theorem dX8_tells_86 : decode cX8_tells 86 = .ok (.iload_n 1, 1) := by decide +kernel
theorem dX8_tells_87 : decode cX8_tells 87 = .ok (.iadd, 1) := by decide +kernel
theorem dX8_tells_88 : decode cX8_tells 88 = .ok (.iload_n 2, 1) := by decide +kernel
theorem dX8_tells_89 : decode cX8_tells 89 = .ok (.iastore, 1) := by decide +kernel
theorem dX8_tells_90 : decode cX8_tells 90 = .ok (.iload 4, 2) := by decide +kernel
theorem dX8_tells_92 : decode cX8_tells 92 = .ok (.ireturn, 1) := by decide +kernel
theorem dX8_shifts_0 : decode cX8_shifts 0 = .ok (.iload_n 1, 1) := by decide +kernel
theorem dX8_shifts_1 : decode cX8_shifts 1 = .ok (.i2l, 1) := by decide +kernel
theorem dX8_shifts_2 : decode cX8_shifts 2 = .ok (.lconst 0, 1) := by decide +kernel
theorem dX8_shifts_3 : decode cX8_shifts 3 = .ok (.aload_n 0, 1) := by decide +kernel
theorem dX8_shifts_4 : decode cX8_shifts 4 = .ok (.getfield 7, 3) := by decide +kernel
theorem dX8_shifts_7 : decode cX8_shifts 7 = .ok (.iconst 0, 1) := by decide +kernel
theorem dX8_shifts_8 : decode cX8_shifts 8 = .ok (.iaload, 1) := by decide +kernel
theorem dX8_shifts_9 : decode cX8_shifts 9 = .ok (.iconst 1, 1) := by decide +kernel
theorem dX8_shifts_10 : decode cX8_shifts 10 = .ok (.isub, 1) := by decide +kernel
theorem dX8_shifts_11 : decode cX8_shifts 11 = .ok (.i2l, 1) := by decide +kernel
theorem dX8_shifts_12 : decode cX8_shifts 12 = .ok (.invokestatic 71, 3) := by decide +kernel
theorem dX8_shifts_15 : decode cX8_shifts 15 = .ok (.ifCond .eq 21, 3) := by decide +kernel
theorem dX8_shifts_18 : decode cX8_shifts 18 = .ok (.iload_n 2, 1) := by decide +kernel
theorem dX8_shifts_19 : decode cX8_shifts 19 = .ok (.i2l, 1) := by decide +kernel
theorem dX8_shifts_20 : decode cX8_shifts 20 = .ok (.lconst 0, 1) := by decide +kernel
theorem dX8_shifts_21 : decode cX8_shifts 21 = .ok (.aload_n 0, 1) := by decide +kernel
theorem dX8_shifts_22 : decode cX8_shifts 22 = .ok (.getfield 7, 3) := by decide +kernel
theorem dX8_shifts_25 : decode cX8_shifts 25 = .ok (.iconst 0, 1) := by decide +kernel
theorem dX8_shifts_26 : decode cX8_shifts 26 = .ok (.iaload, 1) := by decide +kernel
theorem dX8_shifts_27 : decode cX8_shifts 27 = .ok (.iconst 1, 1) := by decide +kernel
theorem dX8_shifts_28 : decode cX8_shifts 28 = .ok (.isub, 1) := by decide +kernel
theorem dX8_shifts_29 : decode cX8_shifts 29 = .ok (.i2l, 1) := by decide +kernel
theorem dX8_shifts_30 : decode cX8_shifts 30 = .ok (.invokestatic 71, 3) := by decide +kernel
theorem dX8_shifts_33 : decode cX8_shifts 33 = .ok (.ifCond .ne 5, 3) := by decide +kernel
theorem dX8_shifts_36 : decode cX8_shifts 36 = .ok (.iconst (-1), 1) := by decide +kernel
theorem dX8_shifts_37 : decode cX8_shifts 37 = .ok (.ireturn, 1) := by decide +kernel
theorem dX8_shifts_38 : decode cX8_shifts 38 = .ok (.iload_n 1, 1) := by decide +kernel
theorem dX8_shifts_39 : decode cX8_shifts 39 = .ok (.iload_n 2, 1) := by decide +kernel
theorem dX8_shifts_40 : decode cX8_shifts 40 = .ok (.if_icmp .ne 6, 3) := by decide +kernel
theorem dX8_shifts_43 : decode cX8_shifts 43 = .ok (.bipush (-2), 2) := by decide +kernel
theorem dX8_shifts_45 : decode cX8_shifts 45 = .ok (.ireturn, 1) := by decide +kernel
theorem dX8_shifts_46 : decode cX8_shifts 46 = .ok (.aload_n 0, 1) := by decide +kernel
theorem dX8_shifts_47 : decode cX8_shifts 47 = .ok (.getfield 7, 3) := by decide +kernel
theorem dX8_shifts_50 : decode cX8_shifts 50 = .ok (.bipush 6, 2) := by decide +kernel
theorem dX8_shifts_52 : decode cX8_shifts 52 = .ok (.iload_n 1, 1) := by decide +kernel
theorem dX8_shifts_53 : decode cX8_shifts 53 = .ok (.iadd, 1) := by decide +kernel
theorem dX8_shifts_54 : decode cX8_shifts 54 = .ok (.iaload, 1) := by decide +kernel
theorem dX8_shifts_55 : decode cX8_shifts 55 = .ok (.istore_n 3, 1) := by decide +kernel
theorem dX8_shifts_56 : decode cX8_shifts 56 = .ok (.iload_n 1, 1) := by decide +kernel
theorem dX8_shifts_57 : decode cX8_shifts 57 = .ok (.iload_n 2, 1) := by decide +kernel
theorem dX8_shifts_58 : decode cX8_shifts 58 = .ok (.if_icmp .ge 7, 3) := by decide +kernel
theorem dX8_shifts_61 : decode cX8_shifts 61 = .ok (.iconst 1, 1) := by decide +kernel
theorem dX8_shifts_62 : decode cX8_shifts 62 = .ok (.goto 4, 3) := by decide +kernel
theorem dX8_shifts_65 : decode cX8_shifts 65 = .ok (.iconst (-1), 1) := by decide +kernel
theorem dX8_shifts_66 : decode cX8_shifts 66 = .ok (.istore 4, 2) := by decide +kernel
theorem dX8_shifts_68 : decode cX8_shifts 68 = .ok (.iload_n 1, 1) := by decide +kernel
theorem dX8_shifts_69 : decode cX8_shifts 69 = .ok (.istore 5, 2) := by decide +kernel
theorem dX8_shifts_71 : decode cX8_shifts 71 = .ok (.iload 5, 2) := by decide +kernel
theorem dX8_shifts_73 : decode cX8_shifts 73 = .ok (.iload_n 2, 1) := by decide +kernel
theorem dX8_shifts_74 : decode cX8_shifts 74 = .ok (.if_icmp .eq 36, 3) := by decide +kernel
theorem dX8_shifts_77 : decode cX8_shifts 77 = .ok (.aload_n 0, 1) := by decide +kernel
theorem dX8_shifts_78 : decode cX8_shifts 78 = .ok (.getfield 7, 3) := by decide +kernel
theorem dX8_shifts_81 : decode cX8_shifts 81 = .ok (.bipush 6, 2) := by decide +kernel
theorem dX8_shifts_83 : decode cX8_shifts 83 = .ok (.iload 5, 2) := by decide +kernel
theorem dX8_shifts_85 : decode cX8_shifts 85 = .ok (.iadd, 1) := by decide +kernel
theorem dX8_shifts_86 : decode cX8_shifts 86 = .ok (.aload_n 0, 1) := by decide +kernel
theorem dX8_shifts_87 : decode cX8_shifts 87 = .ok (.getfield 7, 3) := by decide +kernel
theorem dX8_shifts_90 : decode cX8_shifts 90 = .ok (.bipush 6, 2) := by decide +kernel
theorem dX8_shifts_92 : decode cX8_shifts 92 = .ok (.iload 5, 2) := by decide +kernel
theorem dX8_shifts_94 : decode cX8_shifts 94 = .ok (.iadd, 1) := by decide +kernel
theorem dX8_shifts_95 : decode cX8_shifts 95 = .ok (.iload 4, 2) := by decide +kernel
theorem dX8_shifts_97 : decode cX8_shifts 97 = .ok (.iadd, 1) := by decide +kernel
theorem dX8_shifts_98 : decode cX8_shifts 98 = .ok (.iaload, 1) := by decide +kernel
theorem dX8_shifts_99 : decode cX8_shifts 99 = .ok (.iastore, 1) := by decide +kernel
theorem dX8_shifts_100 : decode cX8_shifts 100 = .ok (.iload 5, 2) := by decide +kernel
theorem dX8_shifts_102 : decode cX8_shifts 102 = .ok (.iload 4, 2) := by decide +kernel
theorem dX8_shifts_104 : decode cX8_shifts 104 = .ok (.iadd, 1) := by decide +kernel
theorem dX8_shifts_105 : decode cX8_shifts 105 = .ok (.istore 5, 2) := by decide +kernel
theorem dX8_shifts_107 : decode cX8_shifts 107 = .ok (.goto (-36), 3) := by decide +kernel
theorem dX8_shifts_110 : decode cX8_shifts 110 = .ok (.aload_n 0, 1) := by decide +kernel
theorem dX8_shifts_111 : decode cX8_shifts 111 = .ok (.getfield 7, 3) := by decide +kernel
theorem dX8_shifts_114 : decode cX8_shifts 114 = .ok (.bipush 6, 2) := by decide +kernel
theorem dX8_shifts_116 : decode cX8_shifts 116 = .ok (.iload_n 2, 1) := by decide +kernel
theorem dX8_shifts_117 : decode cX8_shifts 117 = .ok (.iadd, 1) := by decide +kernel
theorem dX8_shifts_118 : decode cX8_shifts 118 = .ok (.iload_n 3, 1) := by decide +kernel
theorem dX8_shifts_119 : decode cX8_shifts 119 = .ok (.iastore, 1) := by decide +kernel
theorem dX8_shifts_120 : decode cX8_shifts 120 = .ok (.iload_n 3, 1) := by decide +kernel
theorem dX8_shifts_121 : decode cX8_shifts 121 = .ok (.ireturn, 1) := by decide +kernel
theorem dX8_settles_0 : decode cX8_settles 0 = .ok (.iload_n 1, 1) := by decide +kernel
theorem dX8_settles_1 : decode cX8_settles 1 = .ok (.i2l, 1) := by decide +kernel
theorem dX8_settles_2 : decode cX8_settles 2 = .ok (.lconst 0, 1) := by decide +kernel
theorem dX8_settles_3 : decode cX8_settles 3 = .ok (.lconst 1, 1) := by decide +kernel
theorem dX8_settles_4 : decode cX8_settles 4 = .ok (.invokestatic 71, 3) := by decide +kernel
theorem dX8_settles_7 : decode cX8_settles 7 = .ok (.ifCond .ne 5, 3) := by decide +kernel
theorem dX8_settles_10 : decode cX8_settles 10 = .ok (.iconst (-1), 1) := by decide +kernel
theorem dX8_settles_11 : decode cX8_settles 11 = .ok (.ireturn, 1) := by decide +kernel
theorem dX8_settles_12 : decode cX8_settles 12 = .ok (.aload_n 0, 1) := by decide +kernel
theorem dX8_settles_13 : decode cX8_settles 13 = .ok (.invokevirtual 96, 3) := by decide +kernel
theorem dX8_settles_16 : decode cX8_settles 16 = .ok (.aload_n 0, 1) := by decide +kernel
theorem dX8_settles_17 : decode cX8_settles 17 = .ok (.invokevirtual 114, 3) := by decide +kernel
theorem dX8_settles_20 : decode cX8_settles 20 = .ok (.istore_n 2, 1) := by decide +kernel
theorem dX8_settles_21 : decode cX8_settles 21 = .ok (.iload_n 2, 1) := by decide +kernel
theorem dX8_settles_22 : decode cX8_settles 22 = .ok (.istore_n 3, 1) := by decide +kernel
theorem dX8_settles_23 : decode cX8_settles 23 = .ok (.iload_n 1, 1) := by decide +kernel
theorem dX8_settles_24 : decode cX8_settles 24 = .ok (.ifCond .ne 15, 3) := by decide +kernel
theorem dX8_settles_27 : decode cX8_settles 27 = .ok (.aload_n 0, 1) := by decide +kernel
theorem dX8_settles_28 : decode cX8_settles 28 = .ok (.invokevirtual 148, 3) := by decide +kernel
theorem dX8_settles_31 : decode cX8_settles 31 = .ok (.aload_n 0, 1) := by decide +kernel
theorem dX8_settles_32 : decode cX8_settles 32 = .ok (.getfield 131, 3) := by decide +kernel
theorem dX8_settles_35 : decode cX8_settles 35 = .ok (.istore_n 3, 1) := by decide +kernel
theorem dX8_settles_36 : decode cX8_settles 36 = .ok (.goto 12, 3) := by decide +kernel
theorem dX8_settles_39 : decode cX8_settles 39 = .ok (.aload_n 0, 1) := by decide +kernel
theorem dX8_settles_40 : decode cX8_settles 40 = .ok (.invokevirtual 151, 3) := by decide +kernel
theorem dX8_settles_43 : decode cX8_settles 43 = .ok (.aload_n 0, 1) := by decide +kernel
theorem dX8_settles_44 : decode cX8_settles 44 = .ok (.invokevirtual 114, 3) := by decide +kernel
theorem dX8_settles_47 : decode cX8_settles 47 = .ok (.istore_n 3, 1) := by decide +kernel
theorem dX8_settles_48 : decode cX8_settles 48 = .ok (.aload_n 0, 1) := by decide +kernel
theorem dX8_settles_49 : decode cX8_settles 49 = .ok (.getfield 7, 3) := by decide +kernel
theorem dX8_settles_52 : decode cX8_settles 52 = .ok (.iconst 0, 1) := by decide +kernel
theorem dX8_settles_53 : decode cX8_settles 53 = .ok (.iaload, 1) := by decide +kernel
theorem dX8_settles_54 : decode cX8_settles 54 = .ok (.ifCond .eq 8, 3) := by decide +kernel
theorem dX8_settles_57 : decode cX8_settles 57 = .ok (.iload_n 3, 1) := by decide +kernel
theorem dX8_settles_58 : decode cX8_settles 58 = .ok (.iload_n 2, 1) := by decide +kernel
theorem dX8_settles_59 : decode cX8_settles 59 = .ok (.if_icmp .ne 6, 3) := by decide +kernel
theorem dX8_settles_62 : decode cX8_settles 62 = .ok (.bipush (-2), 2) := by decide +kernel
theorem dX8_settles_64 : decode cX8_settles 64 = .ok (.ireturn, 1) := by decide +kernel
theorem dX8_settles_65 : decode cX8_settles 65 = .ok (.iload_n 3, 1) := by decide +kernel
theorem dX8_settles_66 : decode cX8_settles 66 = .ok (.istore 4, 2) := by decide +kernel
theorem dX8_settles_68 : decode cX8_settles 68 = .ok (.aload_n 0, 1) := by decide +kernel
theorem dX8_settles_69 : decode cX8_settles 69 = .ok (.getfield 7, 3) := by decide +kernel
theorem dX8_settles_72 : decode cX8_settles 72 = .ok (.iconst 0, 1) := by decide +kernel
theorem dX8_settles_73 : decode cX8_settles 73 = .ok (.iaload, 1) := by decide +kernel
theorem dX8_settles_74 : decode cX8_settles 74 = .ok (.iconst 1, 1) := by decide +kernel
theorem dX8_settles_75 : decode cX8_settles 75 = .ok (.isub, 1) := by decide +kernel
theorem dX8_settles_76 : decode cX8_settles 76 = .ok (.istore 5, 2) := by decide +kernel
theorem dX8_settles_78 : decode cX8_settles 78 = .ok (.iload 5, 2) := by decide +kernel
theorem dX8_settles_80 : decode cX8_settles 80 = .ok (.ifCond .lt 31, 3) := by decide +kernel
theorem dX8_settles_83 : decode cX8_settles 83 = .ok (.aload_n 0, 1) := by decide +kernel
theorem dX8_settles_84 : decode cX8_settles 84 = .ok (.getfield 7, 3) := by decide +kernel
theorem dX8_settles_87 : decode cX8_settles 87 = .ok (.bipush 6, 2) := by decide +kernel
theorem dX8_settles_89 : decode cX8_settles 89 = .ok (.iload 5, 2) := by decide +kernel
theorem dX8_settles_91 : decode cX8_settles 91 = .ok (.iadd, 1) := by decide +kernel
theorem dX8_settles_92 : decode cX8_settles 92 = .ok (.iload 4, 2) := by decide +kernel
theorem dX8_settles_94 : decode cX8_settles 94 = .ok (.bipush 10, 2) := by decide +kernel
theorem dX8_settles_96 : decode cX8_settles 96 = .ok (.irem, 1) := by decide +kernel
theorem dX8_settles_97 : decode cX8_settles 97 = .ok (.iastore, 1) := by decide +kernel
theorem dX8_settles_98 : decode cX8_settles 98 = .ok (.iload 4, 2) := by decide +kernel
theorem dX8_settles_100 : decode cX8_settles 100 = .ok (.bipush 10, 2) := by decide +kernel
theorem dX8_settles_102 : decode cX8_settles 102 = .ok (.idiv, 1) := by decide +kernel
theorem dX8_settles_103 : decode cX8_settles 103 = .ok (.istore 4, 2) := by decide +kernel
theorem dX8_settles_105 : decode cX8_settles 105 = .ok (.iinc 5 (-1), 3) := by decide +kernel
theorem dX8_settles_108 : decode cX8_settles 108 = .ok (.goto (-30), 3) := by decide +kernel
theorem dX8_settles_111 : decode cX8_settles 111 = .ok (.iload_n 3, 1) := by decide +kernel
theorem dX8_settles_112 : decode cX8_settles 112 = .ok (.ireturn, 1) := by decide +kernel
theorem dX8_book_0 : decode cX8_book 0 = .ok (.aload_n 0, 1) := by decide +kernel
theorem dX8_book_1 : decode cX8_book 1 = .ok (.invokevirtual 188, 3) := by decide +kernel
theorem dX8_book_4 : decode cX8_book 4 = .ok (.aload_n 0, 1) := by decide +kernel
theorem dX8_book_5 : decode cX8_book 5 = .ok (.aload_n 0, 1) := by decide +kernel
theorem dX8_book_6 : decode cX8_book 6 = .ok (.iload_n 1, 1) := by decide +kernel
theorem dX8_book_7 : decode cX8_book 7 = .ok (.invokevirtual 191, 3) := by decide +kernel
theorem dX8_book_10 : decode cX8_book 10 = .ok (.invokevirtual 194, 3) := by decide +kernel
theorem dX8_book_13 : decode cX8_book 13 = .ok (.ireturn, 1) := by decide +kernel
theorem dX8_words_0 : decode cX8_words 0 = .ok (.aload_n 0, 1) := by decide +kernel
theorem dX8_words_1 : decode cX8_words 1 = .ok (.invokevirtual 188, 3) := by decide +kernel
theorem dX8_words_4 : decode cX8_words 4 = .ok (.aload_n 0, 1) := by decide +kernel
theorem dX8_words_5 : decode cX8_words 5 = .ok (.aload_n 0, 1) := by decide +kernel
theorem dX8_words_6 : decode cX8_words 6 = .ok (.iload_n 1, 1) := by decide +kernel
theorem dX8_words_7 : decode cX8_words 7 = .ok (.iload_n 2, 1) := by decide +kernel
theorem dX8_words_8 : decode cX8_words 8 = .ok (.invokevirtual 197, 3) := by decide +kernel
theorem dX8_words_11 : decode cX8_words 11 = .ok (.invokevirtual 194, 3) := by decide +kernel
theorem dX8_words_14 : decode cX8_words 14 = .ok (.ireturn, 1) := by decide +kernel
theorem dX8_lose_0 : decode cX8_lose 0 = .ok (.aload_n 0, 1) := by decide +kernel
theorem dX8_lose_1 : decode cX8_lose 1 = .ok (.invokevirtual 188, 3) := by decide +kernel
theorem dX8_lose_4 : decode cX8_lose 4 = .ok (.aload_n 0, 1) := by decide +kernel
theorem dX8_lose_5 : decode cX8_lose 5 = .ok (.aload_n 0, 1) := by decide +kernel
theorem dX8_lose_6 : decode cX8_lose 6 = .ok (.iload_n 1, 1) := by decide +kernel
theorem dX8_lose_7 : decode cX8_lose 7 = .ok (.invokevirtual 200, 3) := by decide +kernel
theorem dX8_lose_10 : decode cX8_lose 10 = .ok (.invokevirtual 194, 3) := by decide +kernel
theorem dX8_lose_13 : decode cX8_lose 13 = .ok (.ireturn, 1) := by decide +kernel
theorem dX8_ahead_0 : decode cX8_ahead 0 = .ok (.aload_n 0, 1) := by decide +kernel
theorem dX8_ahead_1 : decode cX8_ahead 1 = .ok (.invokevirtual 188, 3) := by decide +kernel
theorem dX8_ahead_4 : decode cX8_ahead 4 = .ok (.aload_n 0, 1) := by decide +kernel
theorem dX8_ahead_5 : decode cX8_ahead 5 = .ok (.aload_n 0, 1) := by decide +kernel
theorem dX8_ahead_6 : decode cX8_ahead 6 = .ok (.iload_n 1, 1) := by decide +kernel
theorem dX8_ahead_7 : decode cX8_ahead 7 = .ok (.iload_n 2, 1) := by decide +kernel
theorem dX8_ahead_8 : decode cX8_ahead 8 = .ok (.invokevirtual 203, 3) := by decide +kernel
theorem dX8_ahead_11 : decode cX8_ahead 11 = .ok (.invokevirtual 194, 3) := by decide +kernel
theorem dX8_ahead_14 : decode cX8_ahead 14 = .ok (.ireturn, 1) := by decide +kernel
theorem dX8_prior_0 : decode cX8_prior 0 = .ok (.aload_n 0, 1) := by decide +kernel
theorem dX8_prior_1 : decode cX8_prior 1 = .ok (.invokevirtual 188, 3) := by decide +kernel
theorem dX8_prior_4 : decode cX8_prior 4 = .ok (.aload_n 0, 1) := by decide +kernel
theorem dX8_prior_5 : decode cX8_prior 5 = .ok (.aload_n 0, 1) := by decide +kernel
theorem dX8_prior_6 : decode cX8_prior 6 = .ok (.iload_n 1, 1) := by decide +kernel
theorem dX8_prior_7 : decode cX8_prior 7 = .ok (.invokevirtual 206, 3) := by decide +kernel
theorem dX8_prior_10 : decode cX8_prior 10 = .ok (.invokevirtual 194, 3) := by decide +kernel
theorem dX8_prior_13 : decode cX8_prior 13 = .ok (.ireturn, 1) := by decide +kernel
theorem dX8_tell_0 : decode cX8_tell 0 = .ok (.aload_n 0, 1) := by decide +kernel
theorem dX8_tell_1 : decode cX8_tell 1 = .ok (.invokevirtual 188, 3) := by decide +kernel
theorem dX8_tell_4 : decode cX8_tell 4 = .ok (.aload_n 0, 1) := by decide +kernel
theorem dX8_tell_5 : decode cX8_tell 5 = .ok (.aload_n 0, 1) := by decide +kernel
theorem dX8_tell_6 : decode cX8_tell 6 = .ok (.iload_n 1, 1) := by decide +kernel
theorem dX8_tell_7 : decode cX8_tell 7 = .ok (.iload_n 2, 1) := by decide +kernel
theorem dX8_tell_8 : decode cX8_tell 8 = .ok (.invokevirtual 209, 3) := by decide +kernel
theorem dX8_tell_11 : decode cX8_tell 11 = .ok (.invokevirtual 194, 3) := by decide +kernel
theorem dX8_tell_14 : decode cX8_tell 14 = .ok (.ireturn, 1) := by decide +kernel
theorem dX8_move_0 : decode cX8_move 0 = .ok (.aload_n 0, 1) := by decide +kernel
theorem dX8_move_1 : decode cX8_move 1 = .ok (.invokevirtual 188, 3) := by decide +kernel
theorem dX8_move_4 : decode cX8_move 4 = .ok (.aload_n 0, 1) := by decide +kernel
theorem dX8_move_5 : decode cX8_move 5 = .ok (.aload_n 0, 1) := by decide +kernel
theorem dX8_move_6 : decode cX8_move 6 = .ok (.iload_n 1, 1) := by decide +kernel
theorem dX8_move_7 : decode cX8_move 7 = .ok (.iload_n 2, 1) := by decide +kernel
theorem dX8_move_8 : decode cX8_move 8 = .ok (.invokevirtual 212, 3) := by decide +kernel
theorem dX8_move_11 : decode cX8_move 11 = .ok (.invokevirtual 194, 3) := by decide +kernel
theorem dX8_move_14 : decode cX8_move 14 = .ok (.ireturn, 1) := by decide +kernel
theorem dX8_settle_0 : decode cX8_settle 0 = .ok (.aload_n 0, 1) := by decide +kernel
theorem dX8_settle_1 : decode cX8_settle 1 = .ok (.invokevirtual 188, 3) := by decide +kernel
theorem dX8_settle_4 : decode cX8_settle 4 = .ok (.aload_n 0, 1) := by decide +kernel
theorem dX8_settle_5 : decode cX8_settle 5 = .ok (.aload_n 0, 1) := by decide +kernel
theorem dX8_settle_6 : decode cX8_settle 6 = .ok (.iload_n 1, 1) := by decide +kernel
theorem dX8_settle_7 : decode cX8_settle 7 = .ok (.invokevirtual 215, 3) := by decide +kernel
theorem dX8_settle_10 : decode cX8_settle 10 = .ok (.invokevirtual 194, 3) := by decide +kernel
theorem dX8_settle_13 : decode cX8_settle 13 = .ok (.ireturn, 1) := by decide +kernel
theorem dX8_type_0 : decode cX8_type 0 = .ok (.iload_n 1, 1) := by decide +kernel
theorem dX8_type_1 : decode cX8_type 1 = .ok (.i2l, 1) := by decide +kernel
theorem dX8_type_2 : decode cX8_type 2 = .ok (.ldc2_w 218, 3) := by decide +kernel
theorem dX8_type_5 : decode cX8_type 5 = .ok (.ldc2_w 220, 3) := by decide +kernel
theorem dX8_type_8 : decode cX8_type 8 = .ok (.invokestatic 71, 3) := by decide +kernel
theorem dX8_type_11 : decode cX8_type 11 = .ok (.ifCond .ne 5, 3) := by decide +kernel
theorem dX8_type_14 : decode cX8_type 14 = .ok (.iconst (-1), 1) := by decide +kernel
theorem dX8_type_15 : decode cX8_type 15 = .ok (.ireturn, 1) := by decide +kernel
theorem dX8_type_16 : decode cX8_type 16 = .ok (.aload_n 0, 1) := by decide +kernel
theorem dX8_type_17 : decode cX8_type 17 = .ok (.getfield 222, 3) := by decide +kernel
theorem dX8_type_20 : decode cX8_type 20 = .ok (.bipush 90, 2) := by decide +kernel
theorem dX8_type_22 : decode cX8_type 22 = .ok (.if_icmp .ne 6, 3) := by decide +kernel
theorem dX8_type_25 : decode cX8_type 25 = .ok (.bipush (-3), 2) := by decide +kernel
theorem dX8_type_27 : decode cX8_type 27 = .ok (.ireturn, 1) := by decide +kernel
theorem dX8_type_28 : decode cX8_type 28 = .ok (.aload_n 0, 1) := by decide +kernel
theorem dX8_type_29 : decode cX8_type 29 = .ok (.getfield 26, 3) := by decide +kernel
theorem dX8_type_32 : decode cX8_type 32 = .ok (.aload_n 0, 1) := by decide +kernel
theorem dX8_type_33 : decode cX8_type 33 = .ok (.getfield 222, 3) := by decide +kernel
theorem dX8_type_36 : decode cX8_type 36 = .ok (.iload_n 1, 1) := by decide +kernel
theorem dX8_type_37 : decode cX8_type 37 = .ok (.iastore, 1) := by decide +kernel
theorem dX8_type_38 : decode cX8_type 38 = .ok (.aload_n 0, 1) := by decide +kernel
theorem dX8_type_39 : decode cX8_type 39 = .ok (.dup, 1) := by decide +kernel
theorem dX8_type_40 : decode cX8_type 40 = .ok (.getfield 222, 3) := by decide +kernel
theorem dX8_type_43 : decode cX8_type 43 = .ok (.iconst 1, 1) := by decide +kernel
theorem dX8_type_44 : decode cX8_type 44 = .ok (.iadd, 1) := by decide +kernel
theorem dX8_type_45 : decode cX8_type 45 = .ok (.putfield 222, 3) := by decide +kernel
theorem dX8_type_48 : decode cX8_type 48 = .ok (.aload_n 0, 1) := by decide +kernel
theorem dX8_type_49 : decode cX8_type 49 = .ok (.getfield 222, 3) := by decide +kernel
theorem dX8_type_52 : decode cX8_type 52 = .ok (.ireturn, 1) := by decide +kernel
theorem dX8_here_0 : decode cX8_here 0 = .ok (.aload_n 0, 1) := by decide +kernel
theorem dX8_here_1 : decode cX8_here 1 = .ok (.getfield 225, 3) := by decide +kernel
theorem dX8_here_4 : decode cX8_here 4 = .ok (.aload_n 0, 1) := by decide +kernel
theorem dX8_here_5 : decode cX8_here 5 = .ok (.getfield 222, 3) := by decide +kernel
theorem dX8_here_8 : decode cX8_here 8 = .ok (.if_icmp .ge 30, 3) := by decide +kernel
theorem dX8_here_11 : decode cX8_here 11 = .ok (.aload_n 0, 1) := by decide +kernel
theorem dX8_here_12 : decode cX8_here 12 = .ok (.getfield 26, 3) := by decide +kernel
theorem dX8_here_15 : decode cX8_here 15 = .ok (.aload_n 0, 1) := by decide +kernel
theorem dX8_here_16 : decode cX8_here 16 = .ok (.getfield 225, 3) := by decide +kernel
theorem dX8_here_19 : decode cX8_here 19 = .ok (.iaload, 1) := by decide +kernel
theorem dX8_here_20 : decode cX8_here 20 = .ok (.bipush 32, 2) := by decide +kernel
theorem dX8_here_22 : decode cX8_here 22 = .ok (.if_icmp .ne 16, 3) := by decide +kernel
theorem dX8_here_25 : decode cX8_here 25 = .ok (.aload_n 0, 1) := by decide +kernel
theorem dX8_here_26 : decode cX8_here 26 = .ok (.dup, 1) := by decide +kernel
theorem dX8_here_27 : decode cX8_here 27 = .ok (.getfield 225, 3) := by decide +kernel
theorem dX8_here_30 : decode cX8_here 30 = .ok (.iconst 1, 1) := by decide +kernel
theorem dX8_here_31 : decode cX8_here 31 = .ok (.iadd, 1) := by decide +kernel
theorem dX8_here_32 : decode cX8_here 32 = .ok (.putfield 225, 3) := by decide +kernel
theorem dX8_here_35 : decode cX8_here 35 = .ok (.goto (-35), 3) := by decide +kernel
theorem dX8_here_38 : decode cX8_here 38 = .ok (.aload_n 0, 1) := by decide +kernel
theorem dX8_here_39 : decode cX8_here 39 = .ok (.getfield 225, 3) := by decide +kernel
theorem dX8_here_42 : decode cX8_here 42 = .ok (.aload_n 0, 1) := by decide +kernel
theorem dX8_here_43 : decode cX8_here 43 = .ok (.getfield 222, 3) := by decide +kernel
theorem dX8_here_46 : decode cX8_here 46 = .ok (.if_icmp .ge 15, 3) := by decide +kernel
theorem dX8_here_49 : decode cX8_here 49 = .ok (.aload_n 0, 1) := by decide +kernel
theorem dX8_here_50 : decode cX8_here 50 = .ok (.getfield 26, 3) := by decide +kernel
theorem dX8_here_53 : decode cX8_here 53 = .ok (.aload_n 0, 1) := by decide +kernel
theorem dX8_here_54 : decode cX8_here 54 = .ok (.getfield 225, 3) := by decide +kernel
theorem dX8_here_57 : decode cX8_here 57 = .ok (.iaload, 1) := by decide +kernel
theorem dX8_here_58 : decode cX8_here 58 = .ok (.goto 4, 3) := by decide +kernel
theorem dX8_here_61 : decode cX8_here 61 = .ok (.iconst 0, 1) := by decide +kernel
theorem dX8_here_62 : decode cX8_here 62 = .ok (.ireturn, 1) := by decide +kernel
theorem dX8_isAt_0 : decode cX8_isAt 0 = .ok (.iload_n 1, 1) := by decide +kernel
theorem dX8_isAt_1 : decode cX8_isAt 1 = .ok (.aload_n 0, 1) := by decide +kernel
theorem dX8_isAt_2 : decode cX8_isAt 2 = .ok (.getfield 222, 3) := by decide +kernel
theorem dX8_isAt_5 : decode cX8_isAt 5 = .ok (.if_icmp .ge 24, 3) := by decide +kernel
theorem dX8_isAt_8 : decode cX8_isAt 8 = .ok (.aload_n 0, 1) := by decide +kernel
theorem dX8_isAt_9 : decode cX8_isAt 9 = .ok (.getfield 26, 3) := by decide +kernel
theorem dX8_isAt_12 : decode cX8_isAt 12 = .ok (.iload_n 1, 1) := by decide +kernel
theorem dX8_isAt_13 : decode cX8_isAt 13 = .ok (.iaload, 1) := by decide +kernel
theorem dX8_isAt_14 : decode cX8_isAt 14 = .ok (.i2l, 1) := by decide +kernel
theorem dX8_isAt_15 : decode cX8_isAt 15 = .ok (.iload_n 2, 1) := by decide +kernel
theorem dX8_isAt_16 : decode cX8_isAt 16 = .ok (.i2l, 1) := by decide +kernel
theorem dX8_isAt_17 : decode cX8_isAt 17 = .ok (.iload_n 3, 1) := by decide +kernel
theorem dX8_isAt_18 : decode cX8_isAt 18 = .ok (.i2l, 1) := by decide +kernel
theorem dX8_isAt_19 : decode cX8_isAt 19 = .ok (.invokestatic 71, 3) := by decide +kernel
theorem dX8_isAt_22 : decode cX8_isAt 22 = .ok (.ifCond .eq 7, 3) := by decide +kernel
theorem dX8_isAt_25 : decode cX8_isAt 25 = .ok (.iconst 1, 1) := by decide +kernel
theorem dX8_isAt_26 : decode cX8_isAt 26 = .ok (.goto 4, 3) := by decide +kernel
theorem dX8_isAt_29 : decode cX8_isAt 29 = .ok (.iconst 0, 1) := by decide +kernel
theorem dX8_isAt_30 : decode cX8_isAt 30 = .ok (.ireturn, 1) := by decide +kernel
theorem dX8_isWord_0 : decode cX8_isWord 0 = .ok (.aload_n 0, 1) := by decide +kernel
theorem dX8_isWord_1 : decode cX8_isWord 1 = .ok (.getfield 225, 3) := by decide +kernel
theorem dX8_isWord_4 : decode cX8_isWord 4 = .ok (.iload_n 1, 1) := by decide +kernel
theorem dX8_isWord_5 : decode cX8_isWord 5 = .ok (.iadd, 1) := by decide +kernel
theorem dX8_isWord_6 : decode cX8_isWord 6 = .ok (.aload_n 0, 1) := by decide +kernel
theorem dX8_isWord_7 : decode cX8_isWord 7 = .ok (.getfield 222, 3) := by decide +kernel
theorem dX8_isWord_10 : decode cX8_isWord 10 = .ok (.if_icmp .gt 84, 3) := by decide +kernel
theorem dX8_isWord_13 : decode cX8_isWord 13 = .ok (.aload_n 0, 1) := by decide +kernel
theorem dX8_isWord_14 : decode cX8_isWord 14 = .ok (.getfield 26, 3) := by decide +kernel
theorem dX8_isWord_17 : decode cX8_isWord 17 = .ok (.aload_n 0, 1) := by decide +kernel
theorem dX8_isWord_18 : decode cX8_isWord 18 = .ok (.getfield 225, 3) := by decide +kernel
theorem dX8_isWord_21 : decode cX8_isWord 21 = .ok (.iaload, 1) := by decide +kernel
theorem dX8_isWord_22 : decode cX8_isWord 22 = .ok (.iload_n 2, 1) := by decide +kernel
theorem dX8_isWord_23 : decode cX8_isWord 23 = .ok (.if_icmp .ne 71, 3) := by decide +kernel
theorem dX8_isWord_26 : decode cX8_isWord 26 = .ok (.aload_n 0, 1) := by decide +kernel
theorem dX8_isWord_27 : decode cX8_isWord 27 = .ok (.getfield 26, 3) := by decide +kernel
theorem dX8_isWord_30 : decode cX8_isWord 30 = .ok (.aload_n 0, 1) := by decide +kernel
theorem dX8_isWord_31 : decode cX8_isWord 31 = .ok (.getfield 225, 3) := by decide +kernel
theorem dX8_isWord_34 : decode cX8_isWord 34 = .ok (.iconst 1, 1) := by decide +kernel
theorem dX8_isWord_35 : decode cX8_isWord 35 = .ok (.iadd, 1) := by decide +kernel
theorem dX8_isWord_36 : decode cX8_isWord 36 = .ok (.iaload, 1) := by decide +kernel
theorem dX8_isWord_37 : decode cX8_isWord 37 = .ok (.iload_n 3, 1) := by decide +kernel
theorem dX8_isWord_38 : decode cX8_isWord 38 = .ok (.if_icmp .ne 56, 3) := by decide +kernel
theorem dX8_isWord_41 : decode cX8_isWord 41 = .ok (.aload_n 0, 1) := by decide +kernel
theorem dX8_isWord_42 : decode cX8_isWord 42 = .ok (.getfield 26, 3) := by decide +kernel
theorem dX8_isWord_45 : decode cX8_isWord 45 = .ok (.aload_n 0, 1) := by decide +kernel
theorem dX8_isWord_46 : decode cX8_isWord 46 = .ok (.getfield 225, 3) := by decide +kernel
theorem dX8_isWord_49 : decode cX8_isWord 49 = .ok (.iconst 2, 1) := by decide +kernel
theorem dX8_isWord_50 : decode cX8_isWord 50 = .ok (.iadd, 1) := by decide +kernel
theorem dX8_isWord_51 : decode cX8_isWord 51 = .ok (.iaload, 1) := by decide +kernel
theorem dX8_isWord_52 : decode cX8_isWord 52 = .ok (.iload 4, 2) := by decide +kernel
theorem dX8_isWord_54 : decode cX8_isWord 54 = .ok (.if_icmp .ne 40, 3) := by decide +kernel
theorem dX8_isWord_57 : decode cX8_isWord 57 = .ok (.aload_n 0, 1) := by decide +kernel
theorem dX8_isWord_58 : decode cX8_isWord 58 = .ok (.getfield 26, 3) := by decide +kernel
theorem dX8_isWord_61 : decode cX8_isWord 61 = .ok (.aload_n 0, 1) := by decide +kernel
theorem dX8_isWord_62 : decode cX8_isWord 62 = .ok (.getfield 225, 3) := by decide +kernel
theorem dX8_isWord_65 : decode cX8_isWord 65 = .ok (.iconst 3, 1) := by decide +kernel
theorem dX8_isWord_66 : decode cX8_isWord 66 = .ok (.iadd, 1) := by decide +kernel
theorem dX8_isWord_67 : decode cX8_isWord 67 = .ok (.iaload, 1) := by decide +kernel
theorem dX8_isWord_68 : decode cX8_isWord 68 = .ok (.iload 5, 2) := by decide +kernel
theorem dX8_isWord_70 : decode cX8_isWord 70 = .ok (.if_icmp .ne 24, 3) := by decide +kernel
theorem dX8_isWord_73 : decode cX8_isWord 73 = .ok (.aload_n 0, 1) := by decide +kernel
theorem dX8_isWord_74 : decode cX8_isWord 74 = .ok (.aload_n 0, 1) := by decide +kernel
theorem dX8_isWord_75 : decode cX8_isWord 75 = .ok (.getfield 225, 3) := by decide +kernel
theorem dX8_isWord_78 : decode cX8_isWord 78 = .ok (.iload_n 1, 1) := by decide +kernel
theorem dX8_isWord_79 : decode cX8_isWord 79 = .ok (.iadd, 1) := by decide +kernel
theorem dX8_isWord_80 : decode cX8_isWord 80 = .ok (.bipush 97, 2) := by decide +kernel
theorem dX8_isWord_82 : decode cX8_isWord 82 = .ok (.bipush 122, 2) := by decide +kernel
theorem dX8_isWord_84 : decode cX8_isWord 84 = .ok (.invokevirtual 228, 3) := by decide +kernel
theorem dX8_isWord_87 : decode cX8_isWord 87 = .ok (.ifCond .ne 7, 3) := by decide +kernel
theorem dX8_isWord_90 : decode cX8_isWord 90 = .ok (.iconst 1, 1) := by decide +kernel
theorem dX8_isWord_91 : decode cX8_isWord 91 = .ok (.goto 4, 3) := by decide +kernel
theorem dX8_isWord_94 : decode cX8_isWord 94 = .ok (.iconst 0, 1) := by decide +kernel
theorem dX8_isWord_95 : decode cX8_isWord 95 = .ok (.ireturn, 1) := by decide +kernel
theorem dX8_isMore_0 : decode cX8_isMore 0 = .ok (.aload_n 0, 1) := by decide +kernel
theorem dX8_isMore_1 : decode cX8_isMore 1 = .ok (.getfield 26, 3) := by decide +kernel
theorem dX8_isMore_4 : decode cX8_isMore 4 = .ok (.iload_n 1, 1) := by decide +kernel
theorem dX8_isMore_5 : decode cX8_isMore 5 = .ok (.iaload, 1) := by decide +kernel
theorem dX8_isMore_6 : decode cX8_isMore 6 = .ok (.iload_n 2, 1) := by decide +kernel
theorem dX8_isMore_7 : decode cX8_isMore 7 = .ok (.if_icmp .ne 45, 3) := by decide +kernel
theorem dX8_isMore_10 : decode cX8_isMore 10 = .ok (.aload_n 0, 1) := by decide +kernel
theorem dX8_isMore_11 : decode cX8_isMore 11 = .ok (.getfield 26, 3) := by decide +kernel
theorem dX8_isMore_14 : decode cX8_isMore 14 = .ok (.iload_n 1, 1) := by decide +kernel
theorem dX8_isMore_15 : decode cX8_isMore 15 = .ok (.iconst 1, 1) := by decide +kernel
theorem dX8_isMore_16 : decode cX8_isMore 16 = .ok (.iadd, 1) := by decide +kernel
theorem dX8_isMore_17 : decode cX8_isMore 17 = .ok (.iaload, 1) := by decide +kernel
theorem dX8_isMore_18 : decode cX8_isMore 18 = .ok (.iload_n 3, 1) := by decide +kernel
theorem dX8_isMore_19 : decode cX8_isMore 19 = .ok (.if_icmp .ne 33, 3) := by decide +kernel
theorem dX8_isMore_22 : decode cX8_isMore 22 = .ok (.aload_n 0, 1) := by decide +kernel
theorem dX8_isMore_23 : decode cX8_isMore 23 = .ok (.getfield 26, 3) := by decide +kernel
theorem dX8_isMore_26 : decode cX8_isMore 26 = .ok (.iload_n 1, 1) := by decide +kernel
theorem dX8_isMore_27 : decode cX8_isMore 27 = .ok (.iconst 2, 1) := by decide +kernel
theorem dX8_isMore_28 : decode cX8_isMore 28 = .ok (.iadd, 1) := by decide +kernel
theorem dX8_isMore_29 : decode cX8_isMore 29 = .ok (.iaload, 1) := by decide +kernel
theorem dX8_isMore_30 : decode cX8_isMore 30 = .ok (.iload 4, 2) := by decide +kernel
theorem dX8_isMore_32 : decode cX8_isMore 32 = .ok (.if_icmp .ne 20, 3) := by decide +kernel
theorem dX8_isMore_35 : decode cX8_isMore 35 = .ok (.aload_n 0, 1) := by decide +kernel
theorem dX8_isMore_36 : decode cX8_isMore 36 = .ok (.getfield 26, 3) := by decide +kernel
theorem dX8_isMore_39 : decode cX8_isMore 39 = .ok (.iload_n 1, 1) := by decide +kernel
theorem dX8_isMore_40 : decode cX8_isMore 40 = .ok (.iconst 3, 1) := by decide +kernel
theorem dX8_isMore_41 : decode cX8_isMore 41 = .ok (.iadd, 1) := by decide +kernel
theorem dX8_isMore_42 : decode cX8_isMore 42 = .ok (.iaload, 1) := by decide +kernel
theorem dX8_isMore_43 : decode cX8_isMore 43 = .ok (.iload 5, 2) := by decide +kernel
theorem dX8_isMore_45 : decode cX8_isMore 45 = .ok (.if_icmp .ne 7, 3) := by decide +kernel
theorem dX8_isMore_48 : decode cX8_isMore 48 = .ok (.iconst 1, 1) := by decide +kernel
theorem dX8_isMore_49 : decode cX8_isMore 49 = .ok (.goto 4, 3) := by decide +kernel
theorem dX8_isMore_52 : decode cX8_isMore 52 = .ok (.iconst 0, 1) := by decide +kernel
theorem dX8_isMore_53 : decode cX8_isMore 53 = .ok (.ireturn, 1) := by decide +kernel
theorem dX8_rule_0 : decode cX8_rule 0 = .ok (.aload_n 0, 1) := by decide +kernel
theorem dX8_rule_1 : decode cX8_rule 1 = .ok (.invokevirtual 232, 3) := by decide +kernel
theorem dX8_rule_4 : decode cX8_rule 4 = .ok (.pop, 1) := by decide +kernel
theorem dX8_rule_5 : decode cX8_rule 5 = .ok (.aload_n 0, 1) := by decide +kernel
theorem dX8_rule_6 : decode cX8_rule 6 = .ok (.bipush 6, 2) := by decide +kernel
theorem dX8_rule_8 : decode cX8_rule 8 = .ok (.bipush 115, 2) := by decide +kernel
theorem dX8_rule_10 : decode cX8_rule 10 = .ok (.bipush 116, 2) := by decide +kernel
theorem dX8_rule_12 : decode cX8_rule 12 = .ok (.bipush 101, 2) := by decide +kernel
theorem dX8_rule_14 : decode cX8_rule 14 = .ok (.bipush 97, 2) := by decide +kernel
theorem dX8_rule_16 : decode cX8_rule 16 = .ok (.invokevirtual 235, 3) := by decide +kernel
theorem dX8_rule_19 : decode cX8_rule 19 = .ok (.ifCond .eq 37, 3) := by decide +kernel
theorem dX8_rule_22 : decode cX8_rule 22 = .ok (.aload_n 0, 1) := by decide +kernel
theorem dX8_rule_23 : decode cX8_rule 23 = .ok (.getfield 26, 3) := by decide +kernel
theorem dX8_rule_26 : decode cX8_rule 26 = .ok (.aload_n 0, 1) := by decide +kernel
theorem dX8_rule_27 : decode cX8_rule 27 = .ok (.getfield 225, 3) := by decide +kernel
theorem dX8_rule_30 : decode cX8_rule 30 = .ok (.iconst 4, 1) := by decide +kernel
theorem dX8_rule_31 : decode cX8_rule 31 = .ok (.iadd, 1) := by decide +kernel
theorem dX8_rule_32 : decode cX8_rule 32 = .ok (.iaload, 1) := by decide +kernel
theorem dX8_rule_33 : decode cX8_rule 33 = .ok (.bipush 100, 2) := by decide +kernel
theorem dX8_rule_35 : decode cX8_rule 35 = .ok (.if_icmp .ne 21, 3) := by decide +kernel
theorem dX8_rule_38 : decode cX8_rule 38 = .ok (.aload_n 0, 1) := by decide +kernel
theorem dX8_rule_39 : decode cX8_rule 39 = .ok (.getfield 26, 3) := by decide +kernel
theorem dX8_rule_42 : decode cX8_rule 42 = .ok (.aload_n 0, 1) := by decide +kernel
theorem dX8_rule_43 : decode cX8_rule 43 = .ok (.getfield 225, 3) := by decide +kernel
theorem dX8_rule_46 : decode cX8_rule 46 = .ok (.iconst 5, 1) := by decide +kernel
theorem dX8_rule_47 : decode cX8_rule 47 = .ok (.iadd, 1) := by decide +kernel
theorem dX8_rule_48 : decode cX8_rule 48 = .ok (.iaload, 1) := by decide +kernel
theorem dX8_rule_49 : decode cX8_rule 49 = .ok (.bipush 121, 2) := by decide +kernel
theorem dX8_rule_51 : decode cX8_rule 51 = .ok (.if_icmp .ne 5, 3) := by decide +kernel
theorem dX8_rule_54 : decode cX8_rule 54 = .ok (.iconst 0, 1) := by decide +kernel
theorem dX8_rule_55 : decode cX8_rule 55 = .ok (.ireturn, 1) := by decide +kernel
theorem dX8_rule_56 : decode cX8_rule 56 = .ok (.aload_n 0, 1) := by decide +kernel
theorem dX8_rule_57 : decode cX8_rule 57 = .ok (.bipush 7, 2) := by decide +kernel
theorem dX8_rule_59 : decode cX8_rule 59 = .ok (.bipush 103, 2) := by decide +kernel
theorem dX8_rule_61 : decode cX8_rule 61 = .ok (.bipush 114, 2) := by decide +kernel
theorem dX8_rule_63 : decode cX8_rule 63 = .ok (.bipush 111, 2) := by decide +kernel
theorem dX8_rule_65 : decode cX8_rule 65 = .ok (.bipush 119, 2) := by decide +kernel
theorem dX8_rule_67 : decode cX8_rule 67 = .ok (.invokevirtual 235, 3) := by decide +kernel
theorem dX8_rule_70 : decode cX8_rule 70 = .ok (.ifCond .eq 26, 3) := by decide +kernel
theorem dX8_rule_73 : decode cX8_rule 73 = .ok (.aload_n 0, 1) := by decide +kernel
theorem dX8_rule_74 : decode cX8_rule 74 = .ok (.aload_n 0, 1) := by decide +kernel
theorem dX8_rule_75 : decode cX8_rule 75 = .ok (.getfield 225, 3) := by decide +kernel
theorem dX8_rule_78 : decode cX8_rule 78 = .ok (.iconst 3, 1) := by decide +kernel
theorem dX8_rule_79 : decode cX8_rule 79 = .ok (.iadd, 1) := by decide +kernel
theorem dX8_rule_80 : decode cX8_rule 80 = .ok (.bipush 119, 2) := by decide +kernel
theorem dX8_rule_82 : decode cX8_rule 82 = .ok (.bipush 105, 2) := by decide +kernel
theorem dX8_rule_84 : decode cX8_rule 84 = .ok (.bipush 110, 2) := by decide +kernel
theorem dX8_rule_86 : decode cX8_rule 86 = .ok (.bipush 103, 2) := by decide +kernel
theorem dX8_rule_88 : decode cX8_rule 88 = .ok (.invokevirtual 239, 3) := by decide +kernel
theorem dX8_rule_91 : decode cX8_rule 91 = .ok (.ifCond .eq 5, 3) := by decide +kernel
theorem dX8_rule_94 : decode cX8_rule 94 = .ok (.iconst 1, 1) := by decide +kernel
theorem dX8_rule_95 : decode cX8_rule 95 = .ok (.ireturn, 1) := by decide +kernel
theorem dX8_rule_96 : decode cX8_rule 96 = .ok (.aload_n 0, 1) := by decide +kernel
theorem dX8_rule_97 : decode cX8_rule 97 = .ok (.bipush 8, 2) := by decide +kernel
theorem dX8_rule_99 : decode cX8_rule 99 = .ok (.bipush 100, 2) := by decide +kernel
theorem dX8_rule_101 : decode cX8_rule 101 = .ok (.bipush 111, 2) := by decide +kernel
theorem dX8_rule_103 : decode cX8_rule 103 = .ok (.bipush 117, 2) := by decide +kernel
theorem dX8_rule_105 : decode cX8_rule 105 = .ok (.bipush 98, 2) := by decide +kernel
theorem dX8_rule_107 : decode cX8_rule 107 = .ok (.invokevirtual 235, 3) := by decide +kernel
theorem dX8_rule_110 : decode cX8_rule 110 = .ok (.ifCond .eq 28, 3) := by decide +kernel
theorem dX8_rule_113 : decode cX8_rule 113 = .ok (.aload_n 0, 1) := by decide +kernel
theorem dX8_rule_114 : decode cX8_rule 114 = .ok (.aload_n 0, 1) := by decide +kernel
theorem dX8_rule_115 : decode cX8_rule 115 = .ok (.getfield 225, 3) := by decide +kernel
theorem dX8_rule_118 : decode cX8_rule 118 = .ok (.iconst 4, 1) := by decide +kernel
theorem dX8_rule_119 : decode cX8_rule 119 = .ok (.iadd, 1) := by decide +kernel
theorem dX8_rule_120 : decode cX8_rule 120 = .ok (.bipush 108, 2) := by decide +kernel
theorem dX8_rule_122 : decode cX8_rule 122 = .ok (.bipush 105, 2) := by decide +kernel
theorem dX8_rule_124 : decode cX8_rule 124 = .ok (.bipush 110, 2) := by decide +kernel
theorem dX8_rule_126 : decode cX8_rule 126 = .ok (.bipush 103, 2) := by decide +kernel
theorem dX8_rule_128 : decode cX8_rule 128 = .ok (.invokevirtual 239, 3) := by decide +kernel
theorem dX8_rule_131 : decode cX8_rule 131 = .ok (.ifCond .eq 7, 3) := by decide +kernel
theorem dX8_rule_134 : decode cX8_rule 134 = .ok (.iconst 2, 1) := by decide +kernel
theorem dX8_rule_135 : decode cX8_rule 135 = .ok (.goto 5, 3) := by decide +kernel
theorem dX8_rule_138 : decode cX8_rule 138 = .ok (.bipush (-4), 2) := by decide +kernel
theorem dX8_rule_140 : decode cX8_rule 140 = .ok (.ireturn, 1) := by decide +kernel
theorem dX8_takes_0 : decode cX8_takes 0 = .ok (.aload_n 0, 1) := by decide +kernel
theorem dX8_takes_1 : decode cX8_takes 1 = .ok (.invokevirtual 232, 3) := by decide +kernel
theorem dX8_takes_4 : decode cX8_takes 4 = .ok (.iload_n 1, 1) := by decide +kernel
theorem dX8_takes_5 : decode cX8_takes 5 = .ok (.if_icmp .ne 7, 3) := by decide +kernel
theorem dX8_takes_8 : decode cX8_takes 8 = .ok (.iconst 1, 1) := by decide +kernel
theorem dX8_takes_9 : decode cX8_takes 9 = .ok (.goto 4, 3) := by decide +kernel
theorem dX8_takes_12 : decode cX8_takes 12 = .ok (.iconst 0, 1) := by decide +kernel
theorem dX8_takes_13 : decode cX8_takes 13 = .ok (.istore_n 2, 1) := by decide +kernel
theorem dX8_takes_14 : decode cX8_takes 14 = .ok (.aload_n 0, 1) := by decide +kernel
theorem dX8_takes_15 : decode cX8_takes 15 = .ok (.dup, 1) := by decide +kernel
theorem dX8_takes_16 : decode cX8_takes 16 = .ok (.getfield 225, 3) := by decide +kernel
theorem dX8_takes_19 : decode cX8_takes 19 = .ok (.iload_n 2, 1) := by decide +kernel
theorem dX8_takes_20 : decode cX8_takes 20 = .ok (.ifCond .eq 7, 3) := by decide +kernel
theorem dX8_takes_23 : decode cX8_takes 23 = .ok (.iconst 1, 1) := by decide +kernel
theorem dX8_takes_24 : decode cX8_takes 24 = .ok (.goto 4, 3) := by decide +kernel
theorem dX8_takes_27 : decode cX8_takes 27 = .ok (.iconst 0, 1) := by decide +kernel
theorem dX8_takes_28 : decode cX8_takes 28 = .ok (.iadd, 1) := by decide +kernel
theorem dX8_takes_29 : decode cX8_takes 29 = .ok (.putfield 225, 3) := by decide +kernel
theorem dX8_takes_32 : decode cX8_takes 32 = .ok (.iload_n 2, 1) := by decide +kernel
theorem dX8_takes_33 : decode cX8_takes 33 = .ok (.ireturn, 1) := by decide +kernel
theorem dX8_figure_0 : decode cX8_figure 0 = .ok (.aload_n 0, 1) := by decide +kernel
theorem dX8_figure_1 : decode cX8_figure 1 = .ok (.invokevirtual 232, 3) := by decide +kernel
theorem dX8_figure_4 : decode cX8_figure 4 = .ok (.bipush 48, 2) := by decide +kernel
theorem dX8_figure_6 : decode cX8_figure 6 = .ok (.isub, 1) := by decide +kernel
theorem dX8_figure_7 : decode cX8_figure 7 = .ok (.istore_n 3, 1) := by decide +kernel
theorem dX8_figure_8 : decode cX8_figure 8 = .ok (.iload_n 3, 1) := by decide +kernel
theorem dX8_figure_9 : decode cX8_figure 9 = .ok (.i2l, 1) := by decide +kernel
theorem dX8_figure_10 : decode cX8_figure 10 = .ok (.iload_n 1, 1) := by decide +kernel
theorem dX8_figure_11 : decode cX8_figure 11 = .ok (.i2l, 1) := by decide +kernel
theorem dX8_figure_12 : decode cX8_figure 12 = .ok (.iload_n 2, 1) := by decide +kernel
theorem dX8_figure_13 : decode cX8_figure 13 = .ok (.i2l, 1) := by decide +kernel
theorem dX8_figure_14 : decode cX8_figure 14 = .ok (.invokestatic 71, 3) := by decide +kernel
theorem dX8_figure_17 : decode cX8_figure 17 = .ok (.ifCond .ne 6, 3) := by decide +kernel
theorem dX8_figure_20 : decode cX8_figure 20 = .ok (.bipush (-4), 2) := by decide +kernel
theorem dX8_figure_22 : decode cX8_figure 22 = .ok (.ireturn, 1) := by decide +kernel
theorem dX8_figure_23 : decode cX8_figure 23 = .ok (.aload_n 0, 1) := by decide +kernel
theorem dX8_figure_24 : decode cX8_figure 24 = .ok (.dup, 1) := by decide +kernel
theorem dX8_figure_25 : decode cX8_figure 25 = .ok (.getfield 225, 3) := by decide +kernel
theorem dX8_figure_28 : decode cX8_figure 28 = .ok (.iconst 1, 1) := by decide +kernel
theorem dX8_figure_29 : decode cX8_figure 29 = .ok (.iadd, 1) := by decide +kernel
theorem dX8_figure_30 : decode cX8_figure 30 = .ok (.putfield 225, 3) := by decide +kernel
theorem dX8_figure_33 : decode cX8_figure 33 = .ok (.iload_n 3, 1) := by decide +kernel
theorem dX8_figure_34 : decode cX8_figure 34 = .ok (.ireturn, 1) := by decide +kernel
theorem dX8_readsBook_0 : decode cX8_readsBook 0 = .ok (.aload_n 0, 1) := by decide +kernel
theorem dX8_readsBook_1 : decode cX8_readsBook 1 = .ok (.invokevirtual 232, 3) := by decide +kernel
theorem dX8_readsBook_4 : decode cX8_readsBook 4 = .ok (.i2l, 1) := by decide +kernel
theorem dX8_readsBook_5 : decode cX8_readsBook 5 = .ok (.ldc2_w 242, 3) := by decide +kernel
theorem dX8_readsBook_8 : decode cX8_readsBook 8 = .ok (.ldc2_w 244, 3) := by decide +kernel
theorem dX8_readsBook_11 : decode cX8_readsBook 11 = .ok (.invokestatic 71, 3) := by decide +kernel
theorem dX8_readsBook_14 : decode cX8_readsBook 14 = .ok (.ifCond .eq 14, 3) := by decide +kernel
theorem dX8_readsBook_17 : decode cX8_readsBook 17 = .ok (.aload_n 0, 1) := by decide +kernel
theorem dX8_readsBook_18 : decode cX8_readsBook 18 = .ok (.getfield 7, 3) := by decide +kernel
theorem dX8_readsBook_21 : decode cX8_readsBook 21 = .ok (.iconst 0, 1) := by decide +kernel
theorem dX8_readsBook_22 : decode cX8_readsBook 22 = .ok (.iaload, 1) := by decide +kernel
theorem dX8_readsBook_23 : decode cX8_readsBook 23 = .ok (.bipush 7, 2) := by decide +kernel
theorem dX8_readsBook_25 : decode cX8_readsBook 25 = .ok (.if_icmp .ne 5, 3) := by decide +kernel
theorem dX8_readsBook_28 : decode cX8_readsBook 28 = .ok (.iconst 0, 1) := by decide +kernel
theorem dX8_readsBook_29 : decode cX8_readsBook 29 = .ok (.ireturn, 1) := by decide +kernel
theorem dX8_readsBook_30 : decode cX8_readsBook 30 = .ok (.iconst 0, 1) := by decide +kernel
theorem dX8_readsBook_31 : decode cX8_readsBook 31 = .ok (.istore_n 1, 1) := by decide +kernel
theorem dX8_readsBook_32 : decode cX8_readsBook 32 = .ok (.aload_n 0, 1) := by decide +kernel
theorem dX8_readsBook_33 : decode cX8_readsBook 33 = .ok (.aload_n 0, 1) := by decide +kernel
theorem dX8_readsBook_34 : decode cX8_readsBook 34 = .ok (.getfield 225, 3) := by decide +kernel
theorem dX8_readsBook_37 : decode cX8_readsBook 37 = .ok (.bipush 97, 2) := by decide +kernel
theorem dX8_readsBook_39 : decode cX8_readsBook 39 = .ok (.bipush 116, 2) := by decide +kernel
theorem dX8_readsBook_41 : decode cX8_readsBook 41 = .ok (.invokevirtual 228, 3) := by decide +kernel
theorem dX8_readsBook_44 : decode cX8_readsBook 44 = .ok (.ifCond .eq 33, 3) := by decide +kernel
theorem dX8_readsBook_47 : decode cX8_readsBook 47 = .ok (.iload_n 1, 1) := by decide +kernel
theorem dX8_readsBook_48 : decode cX8_readsBook 48 = .ok (.iconst 1, 1) := by decide +kernel
theorem dX8_readsBook_49 : decode cX8_readsBook 49 = .ok (.aload_n 0, 1) := by decide +kernel
theorem dX8_readsBook_50 : decode cX8_readsBook 50 = .ok (.getfield 26, 3) := by decide +kernel
theorem dX8_readsBook_53 : decode cX8_readsBook 53 = .ok (.aload_n 0, 1) := by decide +kernel
theorem dX8_readsBook_54 : decode cX8_readsBook 54 = .ok (.getfield 225, 3) := by decide +kernel
theorem dX8_readsBook_57 : decode cX8_readsBook 57 = .ok (.iaload, 1) := by decide +kernel
theorem dX8_readsBook_58 : decode cX8_readsBook 58 = .ok (.bipush 97, 2) := by decide +kernel
theorem dX8_readsBook_60 : decode cX8_readsBook 60 = .ok (.isub, 1) := by decide +kernel
theorem dX8_readsBook_61 : decode cX8_readsBook 61 = .ok (.ishl, 1) := by decide +kernel
theorem dX8_readsBook_62 : decode cX8_readsBook 62 = .ok (.ior, 1) := by decide +kernel
theorem dX8_readsBook_63 : decode cX8_readsBook 63 = .ok (.istore_n 1, 1) := by decide +kernel
theorem dX8_readsBook_64 : decode cX8_readsBook 64 = .ok (.aload_n 0, 1) := by decide +kernel
theorem dX8_readsBook_65 : decode cX8_readsBook 65 = .ok (.dup, 1) := by decide +kernel
theorem dX8_readsBook_66 : decode cX8_readsBook 66 = .ok (.getfield 225, 3) := by decide +kernel
theorem dX8_readsBook_69 : decode cX8_readsBook 69 = .ok (.iconst 1, 1) := by decide +kernel
theorem dX8_readsBook_70 : decode cX8_readsBook 70 = .ok (.iadd, 1) := by decide +kernel
theorem dX8_readsBook_71 : decode cX8_readsBook 71 = .ok (.putfield 225, 3) := by decide +kernel
theorem dX8_readsBook_74 : decode cX8_readsBook 74 = .ok (.goto (-42), 3) := by decide +kernel
theorem dX8_readsBook_77 : decode cX8_readsBook 77 = .ok (.aload_n 0, 1) := by decide +kernel
theorem dX8_readsBook_78 : decode cX8_readsBook 78 = .ok (.iload_n 1, 1) := by decide +kernel
theorem dX8_readsBook_79 : decode cX8_readsBook 79 = .ok (.invokevirtual 191, 3) := by decide +kernel
theorem dX8_readsBook_82 : decode cX8_readsBook 82 = .ok (.ifCond .lt 7, 3) := by decide +kernel
theorem dX8_readsBook_85 : decode cX8_readsBook 85 = .ok (.iconst 1, 1) := by decide +kernel
theorem dX8_readsBook_86 : decode cX8_readsBook 86 = .ok (.goto 4, 3) := by decide +kernel
theorem dX8_readsBook_89 : decode cX8_readsBook 89 = .ok (.iconst 0, 1) := by decide +kernel
theorem dX8_readsBook_90 : decode cX8_readsBook 90 = .ok (.ireturn, 1) := by decide +kernel
theorem dX8_readsPair_0 : decode cX8_readsPair 0 = .ok (.aload_n 0, 1) := by decide +kernel
theorem dX8_readsPair_1 : decode cX8_readsPair 1 = .ok (.iconst 0, 1) := by decide +kernel
theorem dX8_readsPair_2 : decode cX8_readsPair 2 = .ok (.aload_n 0, 1) := by decide +kernel
theorem dX8_readsPair_3 : decode cX8_readsPair 3 = .ok (.getfield 7, 3) := by decide +kernel
theorem dX8_readsPair_6 : decode cX8_readsPair 6 = .ok (.iconst 0, 1) := by decide +kernel
theorem dX8_readsPair_7 : decode cX8_readsPair 7 = .ok (.iaload, 1) := by decide +kernel
theorem dX8_readsPair_8 : decode cX8_readsPair 8 = .ok (.iconst 1, 1) := by decide +kernel
theorem dX8_readsPair_9 : decode cX8_readsPair 9 = .ok (.isub, 1) := by decide +kernel
theorem dX8_readsPair_10 : decode cX8_readsPair 10 = .ok (.invokevirtual 246, 3) := by decide +kernel
theorem dX8_readsPair_13 : decode cX8_readsPair 13 = .ok (.istore_n 1, 1) := by decide +kernel
theorem dX8_readsPair_14 : decode cX8_readsPair 14 = .ok (.iload_n 1, 1) := by decide +kernel
theorem dX8_readsPair_15 : decode cX8_readsPair 15 = .ok (.ifCond .ge 5, 3) := by decide +kernel
theorem dX8_readsPair_18 : decode cX8_readsPair 18 = .ok (.iconst 0, 1) := by decide +kernel
theorem dX8_readsPair_19 : decode cX8_readsPair 19 = .ok (.ireturn, 1) := by decide +kernel
theorem dX8_readsPair_20 : decode cX8_readsPair 20 = .ok (.aload_n 0, 1) := by decide +kernel
theorem dX8_readsPair_21 : decode cX8_readsPair 21 = .ok (.invokevirtual 232, 3) := by decide +kernel
theorem dX8_readsPair_24 : decode cX8_readsPair 24 = .ok (.bipush 48, 2) := by decide +kernel
theorem dX8_readsPair_26 : decode cX8_readsPair 26 = .ok (.isub, 1) := by decide +kernel
theorem dX8_readsPair_27 : decode cX8_readsPair 27 = .ok (.istore_n 2, 1) := by decide +kernel
theorem dX8_readsPair_28 : decode cX8_readsPair 28 = .ok (.aload_n 0, 1) := by decide +kernel
theorem dX8_readsPair_29 : decode cX8_readsPair 29 = .ok (.iload_n 2, 1) := by decide +kernel
theorem dX8_readsPair_30 : decode cX8_readsPair 30 = .ok (.invokevirtual 104, 3) := by decide +kernel
theorem dX8_readsPair_33 : decode cX8_readsPair 33 = .ok (.ifCond .eq 28, 3) := by decide +kernel
theorem dX8_readsPair_36 : decode cX8_readsPair 36 = .ok (.aload_n 0, 1) := by decide +kernel
theorem dX8_readsPair_37 : decode cX8_readsPair 37 = .ok (.getfield 7, 3) := by decide +kernel
theorem dX8_readsPair_40 : decode cX8_readsPair 40 = .ok (.bipush 20, 2) := by decide +kernel
theorem dX8_readsPair_42 : decode cX8_readsPair 42 = .ok (.iload_n 1, 1) := by decide +kernel
theorem dX8_readsPair_43 : decode cX8_readsPair 43 = .ok (.iadd, 1) := by decide +kernel
theorem dX8_readsPair_44 : decode cX8_readsPair 44 = .ok (.iaload, 1) := by decide +kernel
theorem dX8_readsPair_45 : decode cX8_readsPair 45 = .ok (.iload_n 2, 1) := by decide +kernel
theorem dX8_readsPair_46 : decode cX8_readsPair 46 = .ok (.invokestatic 75, 3) := by decide +kernel
theorem dX8_readsPair_49 : decode cX8_readsPair 49 = .ok (.ifCond .ne 12, 3) := by decide +kernel
theorem dX8_readsPair_52 : decode cX8_readsPair 52 = .ok (.aload_n 0, 1) := by decide +kernel
theorem dX8_readsPair_53 : decode cX8_readsPair 53 = .ok (.iload_n 1, 1) := by decide +kernel
theorem dX8_readsPair_54 : decode cX8_readsPair 54 = .ok (.iload_n 2, 1) := by decide +kernel
theorem dX8_readsPair_55 : decode cX8_readsPair 55 = .ok (.invokevirtual 203, 3) := by decide +kernel
theorem dX8_readsPair_58 : decode cX8_readsPair 58 = .ok (.ifCond .ge 5, 3) := by decide +kernel
theorem dX8_readsPair_61 : decode cX8_readsPair 61 = .ok (.iconst 0, 1) := by decide +kernel
theorem dX8_readsPair_62 : decode cX8_readsPair 62 = .ok (.ireturn, 1) := by decide +kernel
theorem dX8_readsPair_63 : decode cX8_readsPair 63 = .ok (.aload_n 0, 1) := by decide +kernel
theorem dX8_readsPair_64 : decode cX8_readsPair 64 = .ok (.dup, 1) := by decide +kernel
theorem dX8_readsPair_65 : decode cX8_readsPair 65 = .ok (.getfield 225, 3) := by decide +kernel
theorem dX8_readsPair_68 : decode cX8_readsPair 68 = .ok (.iconst 1, 1) := by decide +kernel
theorem dX8_readsPair_69 : decode cX8_readsPair 69 = .ok (.iadd, 1) := by decide +kernel
theorem dX8_readsPair_70 : decode cX8_readsPair 70 = .ok (.putfield 225, 3) := by decide +kernel
theorem dX8_readsPair_73 : decode cX8_readsPair 73 = .ok (.iconst 1, 1) := by decide +kernel
theorem dX8_readsPair_74 : decode cX8_readsPair 74 = .ok (.ireturn, 1) := by decide +kernel
theorem dX8_readsAll_0 : decode cX8_readsAll 0 = .ok (.aload_n 0, 1) := by decide +kernel
theorem dX8_readsAll_1 : decode cX8_readsAll 1 = .ok (.iconst 0, 1) := by decide +kernel
theorem dX8_readsAll_2 : decode cX8_readsAll 2 = .ok (.putfield 225, 3) := by decide +kernel
theorem dX8_readsAll_5 : decode cX8_readsAll 5 = .ok (.aload_n 0, 1) := by decide +kernel
theorem dX8_readsAll_6 : decode cX8_readsAll 6 = .ok (.invokevirtual 249, 3) := by decide +kernel
theorem dX8_readsAll_9 : decode cX8_readsAll 9 = .ok (.istore_n 1, 1) := by decide +kernel
theorem dX8_readsAll_10 : decode cX8_readsAll 10 = .ok (.iload_n 1, 1) := by decide +kernel
theorem dX8_readsAll_11 : decode cX8_readsAll 11 = .ok (.ifCond .ge 5, 3) := by decide +kernel
theorem dX8_readsAll_14 : decode cX8_readsAll 14 = .ok (.iconst 0, 1) := by decide +kernel
theorem dX8_readsAll_15 : decode cX8_readsAll 15 = .ok (.ireturn, 1) := by decide +kernel
theorem dX8_readsAll_16 : decode cX8_readsAll 16 = .ok (.aload_n 0, 1) := by decide +kernel
theorem dX8_readsAll_17 : decode cX8_readsAll 17 = .ok (.dup, 1) := by decide +kernel
theorem dX8_readsAll_18 : decode cX8_readsAll 18 = .ok (.getfield 225, 3) := by decide +kernel
theorem dX8_readsAll_21 : decode cX8_readsAll 21 = .ok (.bipush 6, 2) := by decide +kernel
theorem dX8_readsAll_23 : decode cX8_readsAll 23 = .ok (.iload_n 1, 1) := by decide +kernel
theorem dX8_readsAll_24 : decode cX8_readsAll 24 = .ok (.iadd, 1) := by decide +kernel
theorem dX8_readsAll_25 : decode cX8_readsAll 25 = .ok (.iadd, 1) := by decide +kernel
theorem dX8_readsAll_26 : decode cX8_readsAll 26 = .ok (.putfield 225, 3) := by decide +kernel
theorem dX8_readsAll_29 : decode cX8_readsAll 29 = .ok (.aload_n 0, 1) := by decide +kernel
theorem dX8_readsAll_30 : decode cX8_readsAll 30 = .ok (.iconst 1, 1) := by decide +kernel
theorem dX8_readsAll_31 : decode cX8_readsAll 31 = .ok (.iconst 4, 1) := by decide +kernel
theorem dX8_readsAll_32 : decode cX8_readsAll 32 = .ok (.invokevirtual 246, 3) := by decide +kernel
theorem dX8_readsAll_35 : decode cX8_readsAll 35 = .ok (.istore_n 2, 1) := by decide +kernel
theorem dX8_readsAll_36 : decode cX8_readsAll 36 = .ok (.iload_n 2, 1) := by decide +kernel
theorem dX8_readsAll_37 : decode cX8_readsAll 37 = .ok (.ifCond .lt 12, 3) := by decide +kernel
theorem dX8_readsAll_40 : decode cX8_readsAll 40 = .ok (.aload_n 0, 1) := by decide +kernel
theorem dX8_readsAll_41 : decode cX8_readsAll 41 = .ok (.bipush 58, 2) := by decide +kernel
theorem dX8_readsAll_43 : decode cX8_readsAll 43 = .ok (.invokevirtual 252, 3) := by decide +kernel
theorem dX8_readsAll_46 : decode cX8_readsAll 46 = .ok (.ifCond .ne 5, 3) := by decide +kernel
theorem dX8_readsAll_49 : decode cX8_readsAll 49 = .ok (.iconst 0, 1) := by decide +kernel
theorem dX8_readsAll_50 : decode cX8_readsAll 50 = .ok (.ireturn, 1) := by decide +kernel
theorem dX8_readsAll_51 : decode cX8_readsAll 51 = .ok (.aload_n 0, 1) := by decide +kernel
theorem dX8_readsAll_52 : decode cX8_readsAll 52 = .ok (.getfield 7, 3) := by decide +kernel
theorem dX8_readsAll_55 : decode cX8_readsAll 55 = .ok (.iconst 4, 1) := by decide +kernel
theorem dX8_readsAll_56 : decode cX8_readsAll 56 = .ok (.iload_n 1, 1) := by decide +kernel
theorem dX8_readsAll_57 : decode cX8_readsAll 57 = .ok (.iastore, 1) := by decide +kernel
theorem dX8_readsAll_58 : decode cX8_readsAll 58 = .ok (.aload_n 0, 1) := by decide +kernel
theorem dX8_readsAll_59 : decode cX8_readsAll 59 = .ok (.getfield 7, 3) := by decide +kernel
theorem dX8_readsAll_62 : decode cX8_readsAll 62 = .ok (.iconst 2, 1) := by decide +kernel
theorem dX8_readsAll_63 : decode cX8_readsAll 63 = .ok (.iload_n 2, 1) := by decide +kernel
theorem dX8_readsAll_64 : decode cX8_readsAll 64 = .ok (.iastore, 1) := by decide +kernel
theorem dX8_readsAll_65 : decode cX8_readsAll 65 = .ok (.bipush 6, 2) := by decide +kernel
theorem dX8_readsAll_67 : decode cX8_readsAll 67 = .ok (.istore_n 3, 1) := by decide +kernel
theorem dX8_readsAll_68 : decode cX8_readsAll 68 = .ok (.iload_n 3, 1) := by decide +kernel
theorem dX8_readsAll_69 : decode cX8_readsAll 69 = .ok (.bipush 27, 2) := by decide +kernel
theorem dX8_readsAll_71 : decode cX8_readsAll 71 = .ok (.if_icmp .ge 16, 3) := by decide +kernel
theorem dX8_readsAll_74 : decode cX8_readsAll 74 = .ok (.aload_n 0, 1) := by decide +kernel
theorem dX8_readsAll_75 : decode cX8_readsAll 75 = .ok (.getfield 7, 3) := by decide +kernel
theorem dX8_readsAll_78 : decode cX8_readsAll 78 = .ok (.iload_n 3, 1) := by decide +kernel
theorem dX8_readsAll_79 : decode cX8_readsAll 79 = .ok (.iconst 0, 1) := by decide +kernel
theorem dX8_readsAll_80 : decode cX8_readsAll 80 = .ok (.iastore, 1) := by decide +kernel
theorem dX8_readsAll_81 : decode cX8_readsAll 81 = .ok (.iinc 3 1, 3) := by decide +kernel
theorem dX8_readsAll_84 : decode cX8_readsAll 84 = .ok (.goto (-16), 3) := by decide +kernel
theorem dX8_readsAll_87 : decode cX8_readsAll 87 = .ok (.aload_n 0, 1) := by decide +kernel
theorem dX8_readsAll_88 : decode cX8_readsAll 88 = .ok (.getfield 7, 3) := by decide +kernel
theorem dX8_readsAll_91 : decode cX8_readsAll 91 = .ok (.iconst 0, 1) := by decide +kernel
theorem dX8_readsAll_92 : decode cX8_readsAll 92 = .ok (.iconst 0, 1) := by decide +kernel
theorem dX8_readsAll_93 : decode cX8_readsAll 93 = .ok (.iastore, 1) := by decide +kernel
theorem dX8_readsAll_94 : decode cX8_readsAll 94 = .ok (.iconst 1, 1) := by decide +kernel
theorem dX8_readsAll_95 : decode cX8_readsAll 95 = .ok (.istore_n 3, 1) := by decide +kernel
theorem dX8_readsAll_96 : decode cX8_readsAll 96 = .ok (.iload_n 3, 1) := by decide +kernel
theorem dX8_readsAll_97 : decode cX8_readsAll 97 = .ok (.ifCond .eq 22, 3) := by decide +kernel
theorem dX8_readsAll_100 : decode cX8_readsAll 100 = .ok (.aload_n 0, 1) := by decide +kernel
theorem dX8_readsAll_101 : decode cX8_readsAll 101 = .ok (.invokevirtual 255, 3) := by decide +kernel
theorem dX8_readsAll_104 : decode cX8_readsAll 104 = .ok (.ifCond .ne 5, 3) := by decide +kernel
theorem dX8_readsAll_107 : decode cX8_readsAll 107 = .ok (.iconst 0, 1) := by decide +kernel
theorem dX8_readsAll_108 : decode cX8_readsAll 108 = .ok (.ireturn, 1) := by decide +kernel
theorem dX8_readsAll_109 : decode cX8_readsAll 109 = .ok (.aload_n 0, 1) := by decide +kernel
theorem dX8_readsAll_110 : decode cX8_readsAll 110 = .ok (.bipush 44, 2) := by decide +kernel
theorem dX8_readsAll_112 : decode cX8_readsAll 112 = .ok (.invokevirtual 252, 3) := by decide +kernel
theorem dX8_readsAll_115 : decode cX8_readsAll 115 = .ok (.istore_n 3, 1) := by decide +kernel
theorem dX8_readsAll_116 : decode cX8_readsAll 116 = .ok (.goto (-20), 3) := by decide +kernel
theorem dX8_readsAll_119 : decode cX8_readsAll 119 = .ok (.aload_n 0, 1) := by decide +kernel
theorem dX8_readsAll_120 : decode cX8_readsAll 120 = .ok (.bipush 59, 2) := by decide +kernel
theorem dX8_readsAll_122 : decode cX8_readsAll 122 = .ok (.invokevirtual 252, 3) := by decide +kernel
theorem dX8_readsAll_125 : decode cX8_readsAll 125 = .ok (.istore_n 3, 1) := by decide +kernel
theorem dX8_readsAll_126 : decode cX8_readsAll 126 = .ok (.iload_n 3, 1) := by decide +kernel
theorem dX8_readsAll_127 : decode cX8_readsAll 127 = .ok (.ifCond .eq 22, 3) := by decide +kernel
theorem dX8_readsAll_130 : decode cX8_readsAll 130 = .ok (.aload_n 0, 1) := by decide +kernel
theorem dX8_readsAll_131 : decode cX8_readsAll 131 = .ok (.invokevirtual 258, 3) := by decide +kernel
theorem dX8_readsAll_134 : decode cX8_readsAll 134 = .ok (.ifCond .ne 5, 3) := by decide +kernel
theorem dX8_readsAll_137 : decode cX8_readsAll 137 = .ok (.iconst 0, 1) := by decide +kernel
theorem dX8_readsAll_138 : decode cX8_readsAll 138 = .ok (.ireturn, 1) := by decide +kernel
theorem dX8_readsAll_139 : decode cX8_readsAll 139 = .ok (.aload_n 0, 1) := by decide +kernel
theorem dX8_readsAll_140 : decode cX8_readsAll 140 = .ok (.bipush 44, 2) := by decide +kernel
theorem dX8_readsAll_142 : decode cX8_readsAll 142 = .ok (.invokevirtual 252, 3) := by decide +kernel
theorem dX8_readsAll_145 : decode cX8_readsAll 145 = .ok (.istore_n 3, 1) := by decide +kernel
theorem dX8_readsAll_146 : decode cX8_readsAll 146 = .ok (.goto (-20), 3) := by decide +kernel
theorem dX8_readsAll_149 : decode cX8_readsAll 149 = .ok (.aload_n 0, 1) := by decide +kernel
theorem dX8_readsAll_150 : decode cX8_readsAll 150 = .ok (.invokevirtual 232, 3) := by decide +kernel
theorem dX8_readsAll_153 : decode cX8_readsAll 153 = .ok (.ifCond .ne 7, 3) := by decide +kernel
theorem dX8_readsAll_156 : decode cX8_readsAll 156 = .ok (.iconst 1, 1) := by decide +kernel
theorem dX8_readsAll_157 : decode cX8_readsAll 157 = .ok (.goto 4, 3) := by decide +kernel
theorem dX8_readsAll_160 : decode cX8_readsAll 160 = .ok (.iconst 0, 1) := by decide +kernel
theorem dX8_readsAll_161 : decode cX8_readsAll 161 = .ok (.ireturn, 1) := by decide +kernel
theorem dX8_read_0 : decode cX8_read 0 = .ok (.aload_n 0, 1) := by decide +kernel
theorem dX8_read_1 : decode cX8_read 1 = .ok (.invokevirtual 188, 3) := by decide +kernel
theorem dX8_read_4 : decode cX8_read 4 = .ok (.aload_n 0, 1) := by decide +kernel
theorem dX8_read_5 : decode cX8_read 5 = .ok (.invokevirtual 261, 3) := by decide +kernel
theorem dX8_read_8 : decode cX8_read 8 = .ok (.istore_n 1, 1) := by decide +kernel
theorem dX8_read_9 : decode cX8_read 9 = .ok (.aload_n 0, 1) := by decide +kernel
theorem dX8_read_10 : decode cX8_read 10 = .ok (.invokevirtual 232, 3) := by decide +kernel
theorem dX8_read_13 : decode cX8_read 13 = .ok (.pop, 1) := by decide +kernel
theorem dX8_read_14 : decode cX8_read 14 = .ok (.aload_n 0, 1) := by decide +kernel
theorem dX8_read_15 : decode cX8_read 15 = .ok (.iconst 0, 1) := by decide +kernel
theorem dX8_read_16 : decode cX8_read 16 = .ok (.putfield 222, 3) := by decide +kernel
theorem dX8_read_19 : decode cX8_read 19 = .ok (.iload_n 1, 1) := by decide +kernel
theorem dX8_read_20 : decode cX8_read 20 = .ok (.ifCond .ne 37, 3) := by decide +kernel
theorem dX8_read_23 : decode cX8_read 23 = .ok (.iconst 0, 1) := by decide +kernel
theorem dX8_read_24 : decode cX8_read 24 = .ok (.istore_n 2, 1) := by decide +kernel
theorem dX8_read_25 : decode cX8_read 25 = .ok (.iload_n 2, 1) := by decide +kernel
theorem dX8_read_26 : decode cX8_read 26 = .ok (.bipush 27, 2) := by decide +kernel
theorem dX8_read_28 : decode cX8_read 28 = .ok (.if_icmp .ge 21, 3) := by decide +kernel
theorem dX8_read_31 : decode cX8_read 31 = .ok (.aload_n 0, 1) := by decide +kernel
theorem dX8_read_32 : decode cX8_read 32 = .ok (.getfield 7, 3) := by decide +kernel
theorem dX8_read_35 : decode cX8_read 35 = .ok (.iload_n 2, 1) := by decide +kernel
theorem dX8_read_36 : decode cX8_read 36 = .ok (.aload_n 0, 1) := by decide +kernel
theorem dX8_read_37 : decode cX8_read 37 = .ok (.getfield 66, 3) := by decide +kernel
theorem dX8_read_40 : decode cX8_read 40 = .ok (.iload_n 2, 1) := by decide +kernel
theorem dX8_read_41 : decode cX8_read 41 = .ok (.iaload, 1) := by decide +kernel
theorem dX8_read_42 : decode cX8_read 42 = .ok (.iastore, 1) := by decide +kernel
theorem dX8_read_43 : decode cX8_read 43 = .ok (.iinc 2 1, 3) := by decide +kernel
theorem dX8_read_46 : decode cX8_read 46 = .ok (.goto (-21), 3) := by decide +kernel
theorem dX8_read_49 : decode cX8_read 49 = .ok (.bipush (-20), 2) := by decide +kernel
theorem dX8_read_51 : decode cX8_read 51 = .ok (.aload_n 0, 1) := by decide +kernel
theorem dX8_read_52 : decode cX8_read 52 = .ok (.getfield 225, 3) := by decide +kernel
theorem dX8_read_55 : decode cX8_read 55 = .ok (.isub, 1) := by decide +kernel
theorem dX8_read_56 : decode cX8_read 56 = .ok (.ireturn, 1) := by decide +kernel
theorem dX8_read_57 : decode cX8_read 57 = .ok (.aload_n 0, 1) := by decide +kernel
theorem dX8_read_58 : decode cX8_read 58 = .ok (.invokevirtual 169, 3) := by decide +kernel
theorem dX8_read_61 : decode cX8_read 61 = .ok (.aload_n 0, 1) := by decide +kernel
theorem dX8_read_62 : decode cX8_read 62 = .ok (.getfield 7, 3) := by decide +kernel
theorem dX8_read_65 : decode cX8_read 65 = .ok (.iconst 0, 1) := by decide +kernel
theorem dX8_read_66 : decode cX8_read 66 = .ok (.iaload, 1) := by decide +kernel
theorem dX8_read_67 : decode cX8_read 67 = .ok (.ireturn, 1) := by decide +kernel
theorem dX8_draws_0 : decode cX8_draws 0 = .ok (.aload_n 0, 1) := by decide +kernel
theorem dX8_draws_1 : decode cX8_draws 1 = .ok (.getfield 7, 3) := by decide +kernel
theorem dX8_draws_4 : decode cX8_draws 4 = .ok (.iconst 5, 1) := by decide +kernel
theorem dX8_draws_5 : decode cX8_draws 5 = .ok (.aload_n 0, 1) := by decide +kernel
theorem dX8_draws_6 : decode cX8_draws 6 = .ok (.getfield 7, 3) := by decide +kernel
theorem dX8_draws_9 : decode cX8_draws 9 = .ok (.iconst 5, 1) := by decide +kernel
theorem dX8_draws_10 : decode cX8_draws 10 = .ok (.iaload, 1) := by decide +kernel
theorem dX8_draws_11 : decode cX8_draws 11 = .ok (.i2l, 1) := by decide +kernel
theorem dX8_draws_12 : decode cX8_draws 12 = .ok (.ldc2_w 264, 3) := by decide +kernel
theorem dX8_draws_15 : decode cX8_draws 15 = .ok (.lmul, 1) := by decide +kernel
theorem dX8_draws_16 : decode cX8_draws 16 = .ok (.ldc2_w 266, 3) := by decide +kernel
theorem dX8_draws_19 : decode cX8_draws 19 = .ok (.ladd, 1) := by decide +kernel
theorem dX8_draws_20 : decode cX8_draws 20 = .ok (.ldc2_w 268, 3) := by decide +kernel
theorem dX8_draws_23 : decode cX8_draws 23 = .ok (.land, 1) := by decide +kernel
theorem dX8_draws_24 : decode cX8_draws 24 = .ok (.l2i, 1) := by decide +kernel
theorem dX8_draws_25 : decode cX8_draws 25 = .ok (.iastore, 1) := by decide +kernel
theorem dX8_draws_26 : decode cX8_draws 26 = .ok (.aload_n 0, 1) := by decide +kernel
theorem dX8_draws_27 : decode cX8_draws 27 = .ok (.getfield 7, 3) := by decide +kernel
theorem dX8_draws_30 : decode cX8_draws 30 = .ok (.iconst 5, 1) := by decide +kernel
theorem dX8_draws_31 : decode cX8_draws 31 = .ok (.iaload, 1) := by decide +kernel
theorem dX8_draws_32 : decode cX8_draws 32 = .ok (.iload_n 1, 1) := by decide +kernel
theorem dX8_draws_33 : decode cX8_draws 33 = .ok (.idiv, 1) := by decide +kernel
theorem dX8_draws_34 : decode cX8_draws 34 = .ok (.ireturn, 1) := by decide +kernel
theorem dX8_does_0 : decode cX8_does 0 = .ok (.iload_n 1, 1) := by decide +kernel
theorem dX8_does_1 : decode cX8_does 1 = .ok (.bipush 8, 2) := by decide +kernel
theorem dX8_does_3 : decode cX8_does 3 = .ok (.idiv, 1) := by decide +kernel
theorem dX8_does_4 : decode cX8_does 4 = .ok (.bipush 7, 2) := by decide +kernel
theorem dX8_does_6 : decode cX8_does 6 = .ok (.irem, 1) := by decide +kernel
theorem dX8_does_7 : decode cX8_does 7 = .ok (.istore_n 3, 1) := by decide +kernel
theorem dX8_does_8 : decode cX8_does 8 = .ok (.iload_n 1, 1) := by decide +kernel
theorem dX8_does_9 : decode cX8_does 9 = .ok (.bipush 64, 2) := by decide +kernel
theorem dX8_does_11 : decode cX8_does 11 = .ok (.idiv, 1) := by decide +kernel
theorem dX8_does_12 : decode cX8_does 12 = .ok (.bipush 7, 2) := by decide +kernel
theorem dX8_does_14 : decode cX8_does 14 = .ok (.irem, 1) := by decide +kernel
theorem dX8_does_15 : decode cX8_does 15 = .ok (.istore 4, 2) := by decide +kernel
theorem dX8_does_17 : decode cX8_does 17 = .ok (.iload_n 1, 1) := by decide +kernel
theorem dX8_does_18 : decode cX8_does 18 = .ok (.bipush 8, 2) := by decide +kernel
theorem dX8_does_20 : decode cX8_does 20 = .ok (.irem, 1) := by decide +kernel
theorem dX8_does_21 : decode cX8_does 21 = .ok (.tableswitch 86 0 6 #[43, 43, 49, 56, 64, 64, 72], 43) := by decide +kernel
theorem dX8_does_64 : decode cX8_does 64 = .ok (.aload_n 0, 1) := by decide +kernel
theorem dX8_does_65 : decode cX8_does 65 = .ok (.iload_n 2, 1) := by decide +kernel
theorem dX8_does_66 : decode cX8_does 66 = .ok (.invokevirtual 191, 3) := by decide +kernel
theorem dX8_does_69 : decode cX8_does 69 = .ok (.ireturn, 1) := by decide +kernel
theorem dX8_does_70 : decode cX8_does 70 = .ok (.aload_n 0, 1) := by decide +kernel
theorem dX8_does_71 : decode cX8_does 71 = .ok (.iload_n 3, 1) := by decide +kernel
theorem dX8_does_72 : decode cX8_does 72 = .ok (.iload_n 2, 1) := by decide +kernel
theorem dX8_does_73 : decode cX8_does 73 = .ok (.invokevirtual 197, 3) := by decide +kernel
theorem dX8_does_76 : decode cX8_does 76 = .ok (.ireturn, 1) := by decide +kernel
theorem dX8_does_77 : decode cX8_does 77 = .ok (.aload_n 0, 1) := by decide +kernel
theorem dX8_does_78 : decode cX8_does 78 = .ok (.iload_n 3, 1) := by decide +kernel
theorem dX8_does_79 : decode cX8_does 79 = .ok (.iload 4, 2) := by decide +kernel
theorem dX8_does_81 : decode cX8_does 81 = .ok (.invokevirtual 203, 3) := by decide +kernel
theorem dX8_does_84 : decode cX8_does 84 = .ok (.ireturn, 1) := by decide +kernel
theorem dX8_does_85 : decode cX8_does 85 = .ok (.aload_n 0, 1) := by decide +kernel
theorem dX8_does_86 : decode cX8_does 86 = .ok (.iload_n 3, 1) := by decide +kernel
theorem dX8_does_87 : decode cX8_does 87 = .ok (.iload 4, 2) := by decide +kernel
theorem dX8_does_89 : decode cX8_does 89 = .ok (.invokevirtual 212, 3) := by decide +kernel
theorem dX8_does_92 : decode cX8_does 92 = .ok (.ireturn, 1) := by decide +kernel
theorem dX8_does_93 : decode cX8_does 93 = .ok (.aload_n 0, 1) := by decide +kernel
theorem dX8_does_94 : decode cX8_does 94 = .ok (.iconst 0, 1) := by decide +kernel
theorem dX8_does_95 : decode cX8_does 95 = .ok (.iload_n 1, 1) := by decide +kernel
theorem dX8_does_96 : decode cX8_does 96 = .ok (.bipush 8, 2) := by decide +kernel
theorem dX8_does_98 : decode cX8_does 98 = .ok (.idiv, 1) := by decide +kernel
theorem dX8_does_99 : decode cX8_does 99 = .ok (.iconst 4, 1) := by decide +kernel
theorem dX8_does_100 : decode cX8_does 100 = .ok (.irem, 1) := by decide +kernel
theorem dX8_does_101 : decode cX8_does 101 = .ok (.iconst 1, 1) := by decide +kernel
theorem dX8_does_102 : decode cX8_does 102 = .ok (.iadd, 1) := by decide +kernel
theorem dX8_does_103 : decode cX8_does 103 = .ok (.invokevirtual 209, 3) := by decide +kernel
theorem dX8_does_106 : decode cX8_does 106 = .ok (.ireturn, 1) := by decide +kernel
theorem dX8_does_107 : decode cX8_does 107 = .ok (.aload_n 0, 1) := by decide +kernel
theorem dX8_does_108 : decode cX8_does 108 = .ok (.iconst 2, 1) := by decide +kernel
theorem dX8_does_109 : decode cX8_does 109 = .ok (.iload_n 1, 1) := by decide +kernel
theorem dX8_does_110 : decode cX8_does 110 = .ok (.bipush 8, 2) := by decide +kernel
theorem dX8_does_112 : decode cX8_does 112 = .ok (.idiv, 1) := by decide +kernel
theorem dX8_does_113 : decode cX8_does 113 = .ok (.iconst 3, 1) := by decide +kernel
theorem dX8_does_114 : decode cX8_does 114 = .ok (.irem, 1) := by decide +kernel
theorem dX8_does_115 : decode cX8_does 115 = .ok (.invokevirtual 209, 3) := by decide +kernel
theorem dX8_does_118 : decode cX8_does 118 = .ok (.ireturn, 1) := by decide +kernel
theorem dX8_drift_0 : decode cX8_drift 0 = .ok (.iload_n 1, 1) := by decide +kernel
theorem dX8_drift_1 : decode cX8_drift 1 = .ok (.i2l, 1) := by decide +kernel
theorem dX8_drift_2 : decode cX8_drift 2 = .ok (.lconst 1, 1) := by decide +kernel
theorem dX8_drift_3 : decode cX8_drift 3 = .ok (.ldc2_w 270, 3) := by decide +kernel
theorem dX8_drift_6 : decode cX8_drift 6 = .ok (.invokestatic 71, 3) := by decide +kernel
theorem dX8_drift_9 : decode cX8_drift 9 = .ok (.ifCond .ne 5, 3) := by decide +kernel
theorem dX8_drift_12 : decode cX8_drift 12 = .ok (.iconst (-1), 1) := by decide +kernel
theorem dX8_drift_13 : decode cX8_drift 13 = .ok (.ireturn, 1) := by decide +kernel
theorem dX8_drift_14 : decode cX8_drift 14 = .ok (.iconst 0, 1) := by decide +kernel
theorem dX8_drift_15 : decode cX8_drift 15 = .ok (.istore_n 2, 1) := by decide +kernel
theorem dX8_drift_16 : decode cX8_drift 16 = .ok (.iload_n 2, 1) := by decide +kernel
theorem dX8_drift_17 : decode cX8_drift 17 = .ok (.iload_n 1, 1) := by decide +kernel
theorem dX8_drift_18 : decode cX8_drift 18 = .ok (.if_icmp .ge 49, 3) := by decide +kernel
theorem dX8_drift_21 : decode cX8_drift 21 = .ok (.aload_n 0, 1) := by decide +kernel
theorem dX8_drift_22 : decode cX8_drift 22 = .ok (.invokevirtual 188, 3) := by decide +kernel
theorem dX8_drift_25 : decode cX8_drift 25 = .ok (.aload_n 0, 1) := by decide +kernel
theorem dX8_drift_26 : decode cX8_drift 26 = .ok (.invokevirtual 169, 3) := by decide +kernel
theorem dX8_drift_29 : decode cX8_drift 29 = .ok (.aload_n 0, 1) := by decide +kernel
theorem dX8_drift_30 : decode cX8_drift 30 = .ok (.ldc_w 272, 3) := by decide +kernel
theorem dX8_drift_33 : decode cX8_drift 33 = .ok (.invokevirtual 273, 3) := by decide +kernel
theorem dX8_drift_36 : decode cX8_drift 36 = .ok (.istore_n 3, 1) := by decide +kernel
theorem dX8_drift_37 : decode cX8_drift 37 = .ok (.aload_n 0, 1) := by decide +kernel
theorem dX8_drift_38 : decode cX8_drift 38 = .ok (.sipush 2048, 3) := by decide +kernel
theorem dX8_drift_41 : decode cX8_drift 41 = .ok (.invokevirtual 273, 3) := by decide +kernel
theorem dX8_drift_44 : decode cX8_drift 44 = .ok (.istore 4, 2) := by decide +kernel
theorem dX8_drift_46 : decode cX8_drift 46 = .ok (.aload_n 0, 1) := by decide +kernel
theorem dX8_drift_47 : decode cX8_drift 47 = .ok (.aload_n 0, 1) := by decide +kernel
theorem dX8_drift_48 : decode cX8_drift 48 = .ok (.iload_n 3, 1) := by decide +kernel
theorem dX8_drift_49 : decode cX8_drift 49 = .ok (.iload 4, 2) := by decide +kernel
theorem dX8_drift_51 : decode cX8_drift 51 = .ok (.ldc_w 276, 3) := by decide +kernel
theorem dX8_drift_54 : decode cX8_drift 54 = .ok (.irem, 1) := by decide +kernel
theorem dX8_drift_55 : decode cX8_drift 55 = .ok (.invokevirtual 277, 3) := by decide +kernel
theorem dX8_drift_58 : decode cX8_drift 58 = .ok (.putfield 280, 3) := by decide +kernel
theorem dX8_drift_61 : decode cX8_drift 61 = .ok (.iinc 2 1, 3) := by decide +kernel
theorem dX8_drift_64 : decode cX8_drift 64 = .ok (.goto (-48), 3) := by decide +kernel
theorem dX8_drift_67 : decode cX8_drift 67 = .ok (.aload_n 0, 1) := by decide +kernel
theorem dX8_drift_68 : decode cX8_drift 68 = .ok (.getfield 7, 3) := by decide +kernel
theorem dX8_drift_71 : decode cX8_drift 71 = .ok (.iconst 0, 1) := by decide +kernel
theorem dX8_drift_72 : decode cX8_drift 72 = .ok (.iaload, 1) := by decide +kernel
theorem dX8_drift_73 : decode cX8_drift 73 = .ok (.ireturn, 1) := by decide +kernel
theorem dX8_undo_0 : decode cX8_undo 0 = .ok (.aload_n 0, 1) := by decide +kernel
theorem dX8_undo_1 : decode cX8_undo 1 = .ok (.getfield 128, 3) := by decide +kernel
theorem dX8_undo_4 : decode cX8_undo 4 = .ok (.ifCond .ne 6, 3) := by decide +kernel
theorem dX8_undo_7 : decode cX8_undo 7 = .ok (.bipush (-4), 2) := by decide +kernel
theorem dX8_undo_9 : decode cX8_undo 9 = .ok (.ireturn, 1) := by decide +kernel
theorem dX8_undo_10 : decode cX8_undo 10 = .ok (.aload_n 0, 1) := by decide +kernel
theorem dX8_undo_11 : decode cX8_undo 11 = .ok (.dup, 1) := by decide +kernel
theorem dX8_undo_12 : decode cX8_undo 12 = .ok (.getfield 128, 3) := by decide +kernel
theorem dX8_undo_15 : decode cX8_undo 15 = .ok (.iconst 1, 1) := by decide +kernel
theorem dX8_undo_16 : decode cX8_undo 16 = .ok (.isub, 1) := by decide +kernel
theorem dX8_undo_17 : decode cX8_undo 17 = .ok (.putfield 128, 3) := by decide +kernel
theorem dX8_undo_20 : decode cX8_undo 20 = .ok (.iconst 0, 1) := by decide +kernel
theorem dX8_undo_21 : decode cX8_undo 21 = .ok (.istore_n 1, 1) := by decide +kernel
theorem dX8_undo_22 : decode cX8_undo 22 = .ok (.iload_n 1, 1) := by decide +kernel
theorem dX8_undo_23 : decode cX8_undo 23 = .ok (.bipush 27, 2) := by decide +kernel
theorem dX8_undo_25 : decode cX8_undo 25 = .ok (.if_icmp .ge 29, 3) := by decide +kernel
theorem dX8_undo_28 : decode cX8_undo 28 = .ok (.aload_n 0, 1) := by decide +kernel
theorem dX8_undo_29 : decode cX8_undo 29 = .ok (.getfield 7, 3) := by decide +kernel
theorem dX8_undo_32 : decode cX8_undo 32 = .ok (.iload_n 1, 1) := by decide +kernel
theorem dX8_undo_33 : decode cX8_undo 33 = .ok (.aload_n 0, 1) := by decide +kernel
theorem dX8_undo_34 : decode cX8_undo 34 = .ok (.getfield 13, 3) := by decide +kernel
theorem dX8_undo_37 : decode cX8_undo 37 = .ok (.bipush 27, 2) := by decide +kernel
theorem dX8_undo_39 : decode cX8_undo 39 = .ok (.aload_n 0, 1) := by decide +kernel
theorem dX8_undo_40 : decode cX8_undo 40 = .ok (.getfield 128, 3) := by decide +kernel
theorem dX8_undo_43 : decode cX8_undo 43 = .ok (.imul, 1) := by decide +kernel
theorem dX8_undo_44 : decode cX8_undo 44 = .ok (.iload_n 1, 1) := by decide +kernel
theorem dX8_undo_45 : decode cX8_undo 45 = .ok (.iadd, 1) := by decide +kernel
theorem dX8_undo_46 : decode cX8_undo 46 = .ok (.iaload, 1) := by decide +kernel
theorem dX8_undo_47 : decode cX8_undo 47 = .ok (.iastore, 1) := by decide +kernel
theorem dX8_undo_48 : decode cX8_undo 48 = .ok (.iinc 1 1, 3) := by decide +kernel
theorem dX8_undo_51 : decode cX8_undo 51 = .ok (.goto (-29), 3) := by decide +kernel
theorem dX8_undo_54 : decode cX8_undo 54 = .ok (.aload_n 0, 1) := by decide +kernel
theorem dX8_undo_55 : decode cX8_undo 55 = .ok (.getfield 128, 3) := by decide +kernel
theorem dX8_undo_58 : decode cX8_undo 58 = .ok (.ireturn, 1) := by decide +kernel
theorem dX8_seed_0 : decode cX8_seed 0 = .ok (.iload_n 1, 1) := by decide +kernel
theorem dX8_seed_1 : decode cX8_seed 1 = .ok (.ifCond .ge 5, 3) := by decide +kernel
theorem dX8_seed_4 : decode cX8_seed 4 = .ok (.iconst (-1), 1) := by decide +kernel
theorem dX8_seed_5 : decode cX8_seed 5 = .ok (.ireturn, 1) := by decide +kernel
theorem dX8_seed_6 : decode cX8_seed 6 = .ok (.aload_n 0, 1) := by decide +kernel
theorem dX8_seed_7 : decode cX8_seed 7 = .ok (.getfield 7, 3) := by decide +kernel
theorem dX8_seed_10 : decode cX8_seed 10 = .ok (.iconst 5, 1) := by decide +kernel
theorem dX8_seed_11 : decode cX8_seed 11 = .ok (.iaload, 1) := by decide +kernel
theorem dX8_seed_12 : decode cX8_seed 12 = .ok (.istore_n 2, 1) := by decide +kernel
theorem dX8_seed_13 : decode cX8_seed 13 = .ok (.aload_n 0, 1) := by decide +kernel
theorem dX8_seed_14 : decode cX8_seed 14 = .ok (.getfield 7, 3) := by decide +kernel
theorem dX8_seed_17 : decode cX8_seed 17 = .ok (.iconst 5, 1) := by decide +kernel
theorem dX8_seed_18 : decode cX8_seed 18 = .ok (.iload_n 1, 1) := by decide +kernel
theorem dX8_seed_19 : decode cX8_seed 19 = .ok (.iastore, 1) := by decide +kernel
theorem dX8_seed_20 : decode cX8_seed 20 = .ok (.iload_n 2, 1) := by decide +kernel
theorem dX8_seed_21 : decode cX8_seed 21 = .ok (.ireturn, 1) := by decide +kernel
theorem dX8_image_0 : decode cX8_image 0 = .ok (.iconst 0, 1) := by decide +kernel
theorem dX8_image_1 : decode cX8_image 1 = .ok (.istore_n 1, 1) := by decide +kernel
theorem dX8_image_2 : decode cX8_image 2 = .ok (.iload_n 1, 1) := by decide +kernel
theorem dX8_image_3 : decode cX8_image 3 = .ok (.bipush 27, 2) := by decide +kernel
theorem dX8_image_5 : decode cX8_image 5 = .ok (.if_icmp .ge 21, 3) := by decide +kernel
theorem dX8_image_8 : decode cX8_image 8 = .ok (.aload_n 0, 1) := by decide +kernel
theorem dX8_image_9 : decode cX8_image 9 = .ok (.getfield 16, 3) := by decide +kernel
theorem dX8_image_12 : decode cX8_image 12 = .ok (.iload_n 1, 1) := by decide +kernel
theorem dX8_image_13 : decode cX8_image 13 = .ok (.aload_n 0, 1) := by decide +kernel
theorem dX8_image_14 : decode cX8_image 14 = .ok (.getfield 7, 3) := by decide +kernel
theorem dX8_image_17 : decode cX8_image 17 = .ok (.iload_n 1, 1) := by decide +kernel
theorem dX8_image_18 : decode cX8_image 18 = .ok (.iaload, 1) := by decide +kernel
theorem dX8_image_19 : decode cX8_image 19 = .ok (.iastore, 1) := by decide +kernel
theorem dX8_image_20 : decode cX8_image 20 = .ok (.iinc 1 1, 3) := by decide +kernel
theorem dX8_image_23 : decode cX8_image 23 = .ok (.goto (-21), 3) := by decide +kernel
theorem dX8_image_26 : decode cX8_image 26 = .ok (.iconst 0, 1) := by decide +kernel
theorem dX8_image_27 : decode cX8_image 27 = .ok (.istore_n 1, 1) := by decide +kernel
theorem dX8_image_28 : decode cX8_image 28 = .ok (.iload_n 1, 1) := by decide +kernel
theorem dX8_image_29 : decode cX8_image 29 = .ok (.sipush 162, 3) := by decide +kernel
theorem dX8_image_32 : decode cX8_image 32 = .ok (.if_icmp .ge 21, 3) := by decide +kernel
theorem dX8_image_35 : decode cX8_image 35 = .ok (.aload_n 0, 1) := by decide +kernel
theorem dX8_image_36 : decode cX8_image 36 = .ok (.getfield 19, 3) := by decide +kernel
theorem dX8_image_39 : decode cX8_image 39 = .ok (.iload_n 1, 1) := by decide +kernel
theorem dX8_image_40 : decode cX8_image 40 = .ok (.aload_n 0, 1) := by decide +kernel
theorem dX8_image_41 : decode cX8_image 41 = .ok (.getfield 13, 3) := by decide +kernel
theorem dX8_image_44 : decode cX8_image 44 = .ok (.iload_n 1, 1) := by decide +kernel
theorem dX8_image_45 : decode cX8_image 45 = .ok (.iaload, 1) := by decide +kernel
theorem dX8_image_46 : decode cX8_image 46 = .ok (.iastore, 1) := by decide +kernel
theorem dX8_image_47 : decode cX8_image 47 = .ok (.iinc 1 1, 3) := by decide +kernel
theorem dX8_image_50 : decode cX8_image 50 = .ok (.goto (-22), 3) := by decide +kernel
theorem dX8_image_53 : decode cX8_image 53 = .ok (.aload_n 0, 1) := by decide +kernel
theorem dX8_image_54 : decode cX8_image 54 = .ok (.aload_n 0, 1) := by decide +kernel
theorem dX8_image_55 : decode cX8_image 55 = .ok (.getfield 128, 3) := by decide +kernel
theorem dX8_image_58 : decode cX8_image 58 = .ok (.putfield 22, 3) := by decide +kernel
theorem dX8_image_61 : decode cX8_image 61 = .ok (.iconst 1, 1) := by decide +kernel
theorem dX8_image_62 : decode cX8_image 62 = .ok (.ireturn, 1) := by decide +kernel
theorem dX8_restore_0 : decode cX8_restore 0 = .ok (.aload_n 0, 1) := by decide +kernel
theorem dX8_restore_1 : decode cX8_restore 1 = .ok (.getfield 22, 3) := by decide +kernel
theorem dX8_restore_4 : decode cX8_restore 4 = .ok (.ifCond .ge 6, 3) := by decide +kernel
theorem dX8_restore_7 : decode cX8_restore 7 = .ok (.bipush (-4), 2) := by decide +kernel
theorem dX8_restore_9 : decode cX8_restore 9 = .ok (.ireturn, 1) := by decide +kernel
theorem dX8_restore_10 : decode cX8_restore 10 = .ok (.iconst 0, 1) := by decide +kernel
theorem dX8_restore_11 : decode cX8_restore 11 = .ok (.istore_n 1, 1) := by decide +kernel
theorem dX8_restore_12 : decode cX8_restore 12 = .ok (.iload_n 1, 1) := by decide +kernel
theorem dX8_restore_13 : decode cX8_restore 13 = .ok (.bipush 27, 2) := by decide +kernel
theorem dX8_restore_15 : decode cX8_restore 15 = .ok (.if_icmp .ge 21, 3) := by decide +kernel
theorem dX8_restore_18 : decode cX8_restore 18 = .ok (.aload_n 0, 1) := by decide +kernel
theorem dX8_restore_19 : decode cX8_restore 19 = .ok (.getfield 7, 3) := by decide +kernel
theorem dX8_restore_22 : decode cX8_restore 22 = .ok (.iload_n 1, 1) := by decide +kernel
theorem dX8_restore_23 : decode cX8_restore 23 = .ok (.aload_n 0, 1) := by decide +kernel
theorem dX8_restore_24 : decode cX8_restore 24 = .ok (.getfield 16, 3) := by decide +kernel
theorem dX8_restore_27 : decode cX8_restore 27 = .ok (.iload_n 1, 1) := by decide +kernel
theorem dX8_restore_28 : decode cX8_restore 28 = .ok (.iaload, 1) := by decide +kernel
theorem dX8_restore_29 : decode cX8_restore 29 = .ok (.iastore, 1) := by decide +kernel
theorem dX8_restore_30 : decode cX8_restore 30 = .ok (.iinc 1 1, 3) := by decide +kernel
theorem dX8_restore_33 : decode cX8_restore 33 = .ok (.goto (-21), 3) := by decide +kernel
theorem dX8_restore_36 : decode cX8_restore 36 = .ok (.iconst 0, 1) := by decide +kernel
theorem dX8_restore_37 : decode cX8_restore 37 = .ok (.istore_n 1, 1) := by decide +kernel
