theorem dX8_reads_167 : decode cX8_reads 167 = .ok (.if_icmp .lt 22, 3) := by decide +kernel
theorem dX8_reads_170 : decode cX8_reads 170 = .ok (.aload_n 0, 1) := by decide +kernel
theorem dX8_reads_171 : decode cX8_reads 171 = .ok (.getfield 57, 3) := by decide +kernel
theorem dX8_reads_174 : decode cX8_reads 174 = .ok (.iload_n 1, 1) := by decide +kernel
theorem dX8_reads_175 : decode cX8_reads 175 = .ok (.dup2, 1) := by decide +kernel
theorem dX8_reads_176 : decode cX8_reads 176 = .ok (.iaload, 1) := by decide +kernel
theorem dX8_reads_177 : decode cX8_reads 177 = .ok (.iconst 1, 1) := by decide +kernel
theorem dX8_reads_178 : decode cX8_reads 178 = .ok (.iload_n 3, 1) := by decide +kernel
theorem dX8_reads_179 : decode cX8_reads 179 = .ok (.ishl, 1) := by decide +kernel
theorem dX8_reads_180 : decode cX8_reads 180 = .ok (.ior, 1) := by decide +kernel
theorem dX8_reads_181 : decode cX8_reads 181 = .ok (.iastore, 1) := by decide +kernel
theorem dX8_reads_182 : decode cX8_reads 182 = .ok (.aload_n 0, 1) := by decide +kernel
theorem dX8_reads_183 : decode cX8_reads 183 = .ok (.getfield 45, 3) := by decide +kernel
theorem dX8_reads_186 : decode cX8_reads 186 = .ok (.iload_n 3, 1) := by decide +kernel
theorem dX8_reads_187 : decode cX8_reads 187 = .ok (.iconst 0, 1) := by decide +kernel
theorem dX8_reads_188 : decode cX8_reads 188 = .ok (.iastore, 1) := by decide +kernel
theorem dX8_reads_189 : decode cX8_reads 189 = .ok (.aload_n 0, 1) := by decide +kernel
theorem dX8_reads_190 : decode cX8_reads 190 = .ok (.getfield 60, 3) := by decide +kernel
theorem dX8_reads_193 : decode cX8_reads 193 = .ok (.iload_n 1, 1) := by decide +kernel
theorem dX8_reads_194 : decode cX8_reads 194 = .ok (.dup2, 1) := by decide +kernel
theorem dX8_reads_195 : decode cX8_reads 195 = .ok (.iaload, 1) := by decide +kernel
theorem dX8_reads_196 : decode cX8_reads 196 = .ok (.aload_n 0, 1) := by decide +kernel
theorem dX8_reads_197 : decode cX8_reads 197 = .ok (.getfield 45, 3) := by decide +kernel
theorem dX8_reads_200 : decode cX8_reads 200 = .ok (.iload_n 3, 1) := by decide +kernel
theorem dX8_reads_201 : decode cX8_reads 201 = .ok (.iaload, 1) := by decide +kernel
theorem dX8_reads_202 : decode cX8_reads 202 = .ok (.ifCond .le 9, 3) := by decide +kernel
theorem dX8_reads_205 : decode cX8_reads 205 = .ok (.iconst 1, 1) := by decide +kernel
theorem dX8_reads_206 : decode cX8_reads 206 = .ok (.iload_n 3, 1) := by decide +kernel
theorem dX8_reads_207 : decode cX8_reads 207 = .ok (.ishl, 1) := by decide +kernel
theorem dX8_reads_208 : decode cX8_reads 208 = .ok (.goto 4, 3) := by decide +kernel
theorem dX8_reads_211 : decode cX8_reads 211 = .ok (.iconst 0, 1) := by decide +kernel
theorem dX8_reads_212 : decode cX8_reads 212 = .ok (.ior, 1) := by decide +kernel
theorem dX8_reads_213 : decode cX8_reads 213 = .ok (.iastore, 1) := by decide +kernel
theorem dX8_reads_214 : decode cX8_reads 214 = .ok (.iinc 3 1, 3) := by decide +kernel
theorem dX8_reads_217 : decode cX8_reads 217 = .ok (.goto (-187), 3) := by decide +kernel
theorem dX8_reads_220 : decode cX8_reads 220 = .ok (.return_, 1) := by decide +kernel
theorem dX8_wordsAt_0 : decode cX8_wordsAt 0 = .ok (.aload_n 0, 1) := by decide +kernel
theorem dX8_wordsAt_1 : decode cX8_wordsAt 1 = .ok (.getfield 7, 3) := by decide +kernel
theorem dX8_wordsAt_4 : decode cX8_wordsAt 4 = .ok (.bipush 13, 2) := by decide +kernel
theorem dX8_wordsAt_6 : decode cX8_wordsAt 6 = .ok (.aload_n 0, 1) := by decide +kernel
theorem dX8_wordsAt_7 : decode cX8_wordsAt 7 = .ok (.getfield 42, 3) := by decide +kernel
theorem dX8_wordsAt_10 : decode cX8_wordsAt 10 = .ok (.iload_n 1, 1) := by decide +kernel
theorem dX8_wordsAt_11 : decode cX8_wordsAt 11 = .ok (.iaload, 1) := by decide +kernel
theorem dX8_wordsAt_12 : decode cX8_wordsAt 12 = .ok (.iadd, 1) := by decide +kernel
theorem dX8_wordsAt_13 : decode cX8_wordsAt 13 = .ok (.iaload, 1) := by decide +kernel
theorem dX8_wordsAt_14 : decode cX8_wordsAt 14 = .ok (.ireturn, 1) := by decide +kernel
theorem dX8_readsOrder_0 : decode cX8_readsOrder 0 = .ok (.aload_n 0, 1) := by decide +kernel
theorem dX8_readsOrder_1 : decode cX8_readsOrder 1 = .ok (.invokevirtual 83, 3) := by decide +kernel
theorem dX8_readsOrder_4 : decode cX8_readsOrder 4 = .ok (.iconst 0, 1) := by decide +kernel
theorem dX8_readsOrder_5 : decode cX8_readsOrder 5 = .ok (.istore_n 1, 1) := by decide +kernel
theorem dX8_readsOrder_6 : decode cX8_readsOrder 6 = .ok (.iload_n 1, 1) := by decide +kernel
theorem dX8_readsOrder_7 : decode cX8_readsOrder 7 = .ok (.aload_n 0, 1) := by decide +kernel
theorem dX8_readsOrder_8 : decode cX8_readsOrder 8 = .ok (.getfield 7, 3) := by decide +kernel
theorem dX8_readsOrder_11 : decode cX8_readsOrder 11 = .ok (.iconst 0, 1) := by decide +kernel
theorem dX8_readsOrder_12 : decode cX8_readsOrder 12 = .ok (.iaload, 1) := by decide +kernel
theorem dX8_readsOrder_13 : decode cX8_readsOrder 13 = .ok (.if_icmp .ge 19, 3) := by decide +kernel
theorem dX8_readsOrder_16 : decode cX8_readsOrder 16 = .ok (.aload_n 0, 1) := by decide +kernel
theorem dX8_readsOrder_17 : decode cX8_readsOrder 17 = .ok (.iload_n 1, 1) := by decide +kernel
theorem dX8_readsOrder_18 : decode cX8_readsOrder 18 = .ok (.aload_n 0, 1) := by decide +kernel
theorem dX8_readsOrder_19 : decode cX8_readsOrder 19 = .ok (.iload_n 1, 1) := by decide +kernel
theorem dX8_readsOrder_20 : decode cX8_readsOrder 20 = .ok (.invokevirtual 86, 3) := by decide +kernel
theorem dX8_readsOrder_23 : decode cX8_readsOrder 23 = .ok (.invokevirtual 89, 3) := by decide +kernel
theorem dX8_readsOrder_26 : decode cX8_readsOrder 26 = .ok (.iinc 1 1, 3) := by decide +kernel
theorem dX8_readsOrder_29 : decode cX8_readsOrder 29 = .ok (.goto (-23), 3) := by decide +kernel
theorem dX8_readsOrder_32 : decode cX8_readsOrder 32 = .ok (.return_, 1) := by decide +kernel
theorem dX8_peak_0 : decode cX8_peak 0 = .ok (.iconst 0, 1) := by decide +kernel
theorem dX8_peak_1 : decode cX8_peak 1 = .ok (.istore_n 1, 1) := by decide +kernel
theorem dX8_peak_2 : decode cX8_peak 2 = .ok (.iconst 0, 1) := by decide +kernel
theorem dX8_peak_3 : decode cX8_peak 3 = .ok (.istore_n 2, 1) := by decide +kernel
theorem dX8_peak_4 : decode cX8_peak 4 = .ok (.iload_n 2, 1) := by decide +kernel
theorem dX8_peak_5 : decode cX8_peak 5 = .ok (.aload_n 0, 1) := by decide +kernel
theorem dX8_peak_6 : decode cX8_peak 6 = .ok (.getfield 7, 3) := by decide +kernel
theorem dX8_peak_9 : decode cX8_peak 9 = .ok (.iconst 0, 1) := by decide +kernel
theorem dX8_peak_10 : decode cX8_peak 10 = .ok (.iaload, 1) := by decide +kernel
theorem dX8_peak_11 : decode cX8_peak 11 = .ok (.if_icmp .ge 36, 3) := by decide +kernel
theorem dX8_peak_14 : decode cX8_peak 14 = .ok (.aload_n 0, 1) := by decide +kernel
theorem dX8_peak_15 : decode cX8_peak 15 = .ok (.getfield 51, 3) := by decide +kernel
theorem dX8_peak_18 : decode cX8_peak 18 = .ok (.iload_n 2, 1) := by decide +kernel
theorem dX8_peak_19 : decode cX8_peak 19 = .ok (.iaload, 1) := by decide +kernel
theorem dX8_peak_20 : decode cX8_peak 20 = .ok (.invokestatic 93, 3) := by decide +kernel
theorem dX8_peak_23 : decode cX8_peak 23 = .ok (.iload_n 1, 1) := by decide +kernel
theorem dX8_peak_24 : decode cX8_peak 24 = .ok (.if_icmp .le 15, 3) := by decide +kernel
theorem dX8_peak_27 : decode cX8_peak 27 = .ok (.aload_n 0, 1) := by decide +kernel
theorem dX8_peak_28 : decode cX8_peak 28 = .ok (.getfield 51, 3) := by decide +kernel
theorem dX8_peak_31 : decode cX8_peak 31 = .ok (.iload_n 2, 1) := by decide +kernel
theorem dX8_peak_32 : decode cX8_peak 32 = .ok (.iaload, 1) := by decide +kernel
theorem dX8_peak_33 : decode cX8_peak 33 = .ok (.invokestatic 93, 3) := by decide +kernel
theorem dX8_peak_36 : decode cX8_peak 36 = .ok (.goto 4, 3) := by decide +kernel
theorem dX8_peak_39 : decode cX8_peak 39 = .ok (.iload_n 1, 1) := by decide +kernel
theorem dX8_peak_40 : decode cX8_peak 40 = .ok (.istore_n 1, 1) := by decide +kernel
theorem dX8_peak_41 : decode cX8_peak 41 = .ok (.iinc 2 1, 3) := by decide +kernel
theorem dX8_peak_44 : decode cX8_peak 44 = .ok (.goto (-40), 3) := by decide +kernel
theorem dX8_peak_47 : decode cX8_peak 47 = .ok (.iload_n 1, 1) := by decide +kernel
theorem dX8_peak_48 : decode cX8_peak 48 = .ok (.ireturn, 1) := by decide +kernel
theorem dX8_loss_0 : decode cX8_loss 0 = .ok (.iconst 0, 1) := by decide +kernel
theorem dX8_loss_1 : decode cX8_loss 1 = .ok (.istore_n 1, 1) := by decide +kernel
theorem dX8_loss_2 : decode cX8_loss 2 = .ok (.iconst 0, 1) := by decide +kernel
theorem dX8_loss_3 : decode cX8_loss 3 = .ok (.istore_n 2, 1) := by decide +kernel
theorem dX8_loss_4 : decode cX8_loss 4 = .ok (.iload_n 2, 1) := by decide +kernel
theorem dX8_loss_5 : decode cX8_loss 5 = .ok (.aload_n 0, 1) := by decide +kernel
theorem dX8_loss_6 : decode cX8_loss 6 = .ok (.getfield 7, 3) := by decide +kernel
theorem dX8_loss_9 : decode cX8_loss 9 = .ok (.iconst 0, 1) := by decide +kernel
theorem dX8_loss_10 : decode cX8_loss 10 = .ok (.iaload, 1) := by decide +kernel
theorem dX8_loss_11 : decode cX8_loss 11 = .ok (.if_icmp .ge 21, 3) := by decide +kernel
theorem dX8_loss_14 : decode cX8_loss 14 = .ok (.iload_n 1, 1) := by decide +kernel
theorem dX8_loss_15 : decode cX8_loss 15 = .ok (.aload_n 0, 1) := by decide +kernel
theorem dX8_loss_16 : decode cX8_loss 16 = .ok (.getfield 57, 3) := by decide +kernel
theorem dX8_loss_19 : decode cX8_loss 19 = .ok (.iload_n 2, 1) := by decide +kernel
theorem dX8_loss_20 : decode cX8_loss 20 = .ok (.iaload, 1) := by decide +kernel
theorem dX8_loss_21 : decode cX8_loss 21 = .ok (.invokestatic 93, 3) := by decide +kernel
theorem dX8_loss_24 : decode cX8_loss 24 = .ok (.iadd, 1) := by decide +kernel
theorem dX8_loss_25 : decode cX8_loss 25 = .ok (.istore_n 1, 1) := by decide +kernel
theorem dX8_loss_26 : decode cX8_loss 26 = .ok (.iinc 2 1, 3) := by decide +kernel
theorem dX8_loss_29 : decode cX8_loss 29 = .ok (.goto (-25), 3) := by decide +kernel
theorem dX8_loss_32 : decode cX8_loss 32 = .ok (.iload_n 1, 1) := by decide +kernel
theorem dX8_loss_33 : decode cX8_loss 33 = .ok (.ireturn, 1) := by decide +kernel
theorem dX8_isHolding_0 : decode cX8_isHolding 0 = .ok (.iconst 0, 1) := by decide +kernel
theorem dX8_isHolding_1 : decode cX8_isHolding 1 = .ok (.istore_n 1, 1) := by decide +kernel
theorem dX8_isHolding_2 : decode cX8_isHolding 2 = .ok (.iconst 1, 1) := by decide +kernel
theorem dX8_isHolding_3 : decode cX8_isHolding 3 = .ok (.istore_n 2, 1) := by decide +kernel
theorem dX8_isHolding_4 : decode cX8_isHolding 4 = .ok (.iconst 0, 1) := by decide +kernel
theorem dX8_isHolding_5 : decode cX8_isHolding 5 = .ok (.istore_n 3, 1) := by decide +kernel
theorem dX8_isHolding_6 : decode cX8_isHolding 6 = .ok (.iload_n 3, 1) := by decide +kernel
theorem dX8_isHolding_7 : decode cX8_isHolding 7 = .ok (.aload_n 0, 1) := by decide +kernel
theorem dX8_isHolding_8 : decode cX8_isHolding 8 = .ok (.getfield 7, 3) := by decide +kernel
theorem dX8_isHolding_11 : decode cX8_isHolding 11 = .ok (.iconst 0, 1) := by decide +kernel
theorem dX8_isHolding_12 : decode cX8_isHolding 12 = .ok (.iaload, 1) := by decide +kernel
theorem dX8_isHolding_13 : decode cX8_isHolding 13 = .ok (.if_icmp .ge 49, 3) := by decide +kernel
theorem dX8_isHolding_16 : decode cX8_isHolding 16 = .ok (.iload_n 2, 1) := by decide +kernel
theorem dX8_isHolding_17 : decode cX8_isHolding 17 = .ok (.ifCond .eq 26, 3) := by decide +kernel
theorem dX8_isHolding_20 : decode cX8_isHolding 20 = .ok (.aload_n 0, 1) := by decide +kernel
theorem dX8_isHolding_21 : decode cX8_isHolding 21 = .ok (.getfield 7, 3) := by decide +kernel
theorem dX8_isHolding_24 : decode cX8_isHolding 24 = .ok (.bipush 20, 2) := by decide +kernel
theorem dX8_isHolding_26 : decode cX8_isHolding 26 = .ok (.aload_n 0, 1) := by decide +kernel
theorem dX8_isHolding_27 : decode cX8_isHolding 27 = .ok (.getfield 42, 3) := by decide +kernel
theorem dX8_isHolding_30 : decode cX8_isHolding 30 = .ok (.iload_n 3, 1) := by decide +kernel
theorem dX8_isHolding_31 : decode cX8_isHolding 31 = .ok (.iaload, 1) := by decide +kernel
theorem dX8_isHolding_32 : decode cX8_isHolding 32 = .ok (.iadd, 1) := by decide +kernel
theorem dX8_isHolding_33 : decode cX8_isHolding 33 = .ok (.iaload, 1) := by decide +kernel
theorem dX8_isHolding_34 : decode cX8_isHolding 34 = .ok (.iload_n 1, 1) := by decide +kernel
theorem dX8_isHolding_35 : decode cX8_isHolding 35 = .ok (.iand, 1) := by decide +kernel
theorem dX8_isHolding_36 : decode cX8_isHolding 36 = .ok (.ifCond .ne 7, 3) := by decide +kernel
theorem dX8_isHolding_39 : decode cX8_isHolding 39 = .ok (.iconst 1, 1) := by decide +kernel
theorem dX8_isHolding_40 : decode cX8_isHolding 40 = .ok (.goto 4, 3) := by decide +kernel
theorem dX8_isHolding_43 : decode cX8_isHolding 43 = .ok (.iconst 0, 1) := by decide +kernel
theorem dX8_isHolding_44 : decode cX8_isHolding 44 = .ok (.istore_n 2, 1) := by decide +kernel
theorem dX8_isHolding_45 : decode cX8_isHolding 45 = .ok (.iload_n 1, 1) := by decide +kernel
theorem dX8_isHolding_46 : decode cX8_isHolding 46 = .ok (.iconst 1, 1) := by decide +kernel
theorem dX8_isHolding_47 : decode cX8_isHolding 47 = .ok (.aload_n 0, 1) := by decide +kernel
theorem dX8_isHolding_48 : decode cX8_isHolding 48 = .ok (.getfield 42, 3) := by decide +kernel
theorem dX8_isHolding_51 : decode cX8_isHolding 51 = .ok (.iload_n 3, 1) := by decide +kernel
theorem dX8_isHolding_52 : decode cX8_isHolding 52 = .ok (.iaload, 1) := by decide +kernel
theorem dX8_isHolding_53 : decode cX8_isHolding 53 = .ok (.ishl, 1) := by decide +kernel
theorem dX8_isHolding_54 : decode cX8_isHolding 54 = .ok (.ior, 1) := by decide +kernel
theorem dX8_isHolding_55 : decode cX8_isHolding 55 = .ok (.istore_n 1, 1) := by decide +kernel
theorem dX8_isHolding_56 : decode cX8_isHolding 56 = .ok (.iinc 3 1, 3) := by decide +kernel
theorem dX8_isHolding_59 : decode cX8_isHolding 59 = .ok (.goto (-53), 3) := by decide +kernel
theorem dX8_isHolding_62 : decode cX8_isHolding 62 = .ok (.iload_n 2, 1) := by decide +kernel
theorem dX8_isHolding_63 : decode cX8_isHolding 63 = .ok (.ireturn, 1) := by decide +kernel
theorem dX8_number_0 : decode cX8_number 0 = .ok (.iconst 0, 1) := by decide +kernel
theorem dX8_number_1 : decode cX8_number 1 = .ok (.istore_n 1, 1) := by decide +kernel
theorem dX8_number_2 : decode cX8_number 2 = .ok (.iconst 0, 1) := by decide +kernel
theorem dX8_number_3 : decode cX8_number 3 = .ok (.istore_n 2, 1) := by decide +kernel
theorem dX8_number_4 : decode cX8_number 4 = .ok (.iload_n 2, 1) := by decide +kernel
theorem dX8_number_5 : decode cX8_number 5 = .ok (.aload_n 0, 1) := by decide +kernel
theorem dX8_number_6 : decode cX8_number 6 = .ok (.getfield 7, 3) := by decide +kernel
theorem dX8_number_9 : decode cX8_number 9 = .ok (.iconst 0, 1) := by decide +kernel
theorem dX8_number_10 : decode cX8_number 10 = .ok (.iaload, 1) := by decide +kernel
theorem dX8_number_11 : decode cX8_number 11 = .ok (.if_icmp .ge 21, 3) := by decide +kernel
theorem dX8_number_14 : decode cX8_number 14 = .ok (.bipush 10, 2) := by decide +kernel
theorem dX8_number_16 : decode cX8_number 16 = .ok (.iload_n 1, 1) := by decide +kernel
theorem dX8_number_17 : decode cX8_number 17 = .ok (.imul, 1) := by decide +kernel
theorem dX8_number_18 : decode cX8_number 18 = .ok (.aload_n 0, 1) := by decide +kernel
theorem dX8_number_19 : decode cX8_number 19 = .ok (.getfield 42, 3) := by decide +kernel
theorem dX8_number_22 : decode cX8_number 22 = .ok (.iload_n 2, 1) := by decide +kernel
theorem dX8_number_23 : decode cX8_number 23 = .ok (.iaload, 1) := by decide +kernel
theorem dX8_number_24 : decode cX8_number 24 = .ok (.iadd, 1) := by decide +kernel
theorem dX8_number_25 : decode cX8_number 25 = .ok (.istore_n 1, 1) := by decide +kernel
theorem dX8_number_26 : decode cX8_number 26 = .ok (.iinc 2 1, 3) := by decide +kernel
theorem dX8_number_29 : decode cX8_number 29 = .ok (.goto (-25), 3) := by decide +kernel
theorem dX8_number_32 : decode cX8_number 32 = .ok (.iload_n 1, 1) := by decide +kernel
theorem dX8_number_33 : decode cX8_number 33 = .ok (.ireturn, 1) := by decide +kernel
theorem dX8_takesOrder_0 : decode cX8_takesOrder 0 = .ok (.iconst 0, 1) := by decide +kernel
theorem dX8_takesOrder_1 : decode cX8_takesOrder 1 = .ok (.istore_n 1, 1) := by decide +kernel
theorem dX8_takesOrder_2 : decode cX8_takesOrder 2 = .ok (.iload_n 1, 1) := by decide +kernel
theorem dX8_takesOrder_3 : decode cX8_takesOrder 3 = .ok (.bipush 7, 2) := by decide +kernel
theorem dX8_takesOrder_5 : decode cX8_takesOrder 5 = .ok (.if_icmp .ge 24, 3) := by decide +kernel
theorem dX8_takesOrder_8 : decode cX8_takesOrder 8 = .ok (.aload_n 0, 1) := by decide +kernel
theorem dX8_takesOrder_9 : decode cX8_takesOrder 9 = .ok (.getfield 42, 3) := by decide +kernel
theorem dX8_takesOrder_12 : decode cX8_takesOrder 12 = .ok (.iload_n 1, 1) := by decide +kernel
theorem dX8_takesOrder_13 : decode cX8_takesOrder 13 = .ok (.aload_n 0, 1) := by decide +kernel
theorem dX8_takesOrder_14 : decode cX8_takesOrder 14 = .ok (.getfield 7, 3) := by decide +kernel
theorem dX8_takesOrder_17 : decode cX8_takesOrder 17 = .ok (.bipush 6, 2) := by decide +kernel
theorem dX8_takesOrder_19 : decode cX8_takesOrder 19 = .ok (.iload_n 1, 1) := by decide +kernel
theorem dX8_takesOrder_20 : decode cX8_takesOrder 20 = .ok (.iadd, 1) := by decide +kernel
theorem dX8_takesOrder_21 : decode cX8_takesOrder 21 = .ok (.iaload, 1) := by decide +kernel
theorem dX8_takesOrder_22 : decode cX8_takesOrder 22 = .ok (.iastore, 1) := by decide +kernel
theorem dX8_takesOrder_23 : decode cX8_takesOrder 23 = .ok (.iinc 1 1, 3) := by decide +kernel
theorem dX8_takesOrder_26 : decode cX8_takesOrder 26 = .ok (.goto (-24), 3) := by decide +kernel
theorem dX8_takesOrder_29 : decode cX8_takesOrder 29 = .ok (.return_, 1) := by decide +kernel
theorem dX8_firstOrder_0 : decode cX8_firstOrder 0 = .ok (.iconst 0, 1) := by decide +kernel
theorem dX8_firstOrder_1 : decode cX8_firstOrder 1 = .ok (.istore_n 1, 1) := by decide +kernel
theorem dX8_firstOrder_2 : decode cX8_firstOrder 2 = .ok (.iload_n 1, 1) := by decide +kernel
theorem dX8_firstOrder_3 : decode cX8_firstOrder 3 = .ok (.bipush 7, 2) := by decide +kernel
theorem dX8_firstOrder_5 : decode cX8_firstOrder 5 = .ok (.if_icmp .ge 16, 3) := by decide +kernel
theorem dX8_firstOrder_8 : decode cX8_firstOrder 8 = .ok (.aload_n 0, 1) := by decide +kernel
theorem dX8_firstOrder_9 : decode cX8_firstOrder 9 = .ok (.getfield 42, 3) := by decide +kernel
theorem dX8_firstOrder_12 : decode cX8_firstOrder 12 = .ok (.iload_n 1, 1) := by decide +kernel
theorem dX8_firstOrder_13 : decode cX8_firstOrder 13 = .ok (.iload_n 1, 1) := by decide +kernel
theorem dX8_firstOrder_14 : decode cX8_firstOrder 14 = .ok (.iastore, 1) := by decide +kernel
theorem dX8_firstOrder_15 : decode cX8_firstOrder 15 = .ok (.iinc 1 1, 3) := by decide +kernel
theorem dX8_firstOrder_18 : decode cX8_firstOrder 18 = .ok (.goto (-16), 3) := by decide +kernel
theorem dX8_firstOrder_21 : decode cX8_firstOrder 21 = .ok (.return_, 1) := by decide +kernel
theorem dX8_nextOrder_0 : decode cX8_nextOrder 0 = .ok (.aload_n 0, 1) := by decide +kernel
theorem dX8_nextOrder_1 : decode cX8_nextOrder 1 = .ok (.getfield 7, 3) := by decide +kernel
theorem dX8_nextOrder_4 : decode cX8_nextOrder 4 = .ok (.iconst 0, 1) := by decide +kernel
theorem dX8_nextOrder_5 : decode cX8_nextOrder 5 = .ok (.iaload, 1) := by decide +kernel
theorem dX8_nextOrder_6 : decode cX8_nextOrder 6 = .ok (.iconst 2, 1) := by decide +kernel
theorem dX8_nextOrder_7 : decode cX8_nextOrder 7 = .ok (.isub, 1) := by decide +kernel
theorem dX8_nextOrder_8 : decode cX8_nextOrder 8 = .ok (.istore_n 1, 1) := by decide +kernel
theorem dX8_nextOrder_9 : decode cX8_nextOrder 9 = .ok (.iload_n 1, 1) := by decide +kernel
theorem dX8_nextOrder_10 : decode cX8_nextOrder 10 = .ok (.ifCond .lt 26, 3) := by decide +kernel
theorem dX8_nextOrder_13 : decode cX8_nextOrder 13 = .ok (.aload_n 0, 1) := by decide +kernel
theorem dX8_nextOrder_14 : decode cX8_nextOrder 14 = .ok (.getfield 42, 3) := by decide +kernel
theorem dX8_nextOrder_17 : decode cX8_nextOrder 17 = .ok (.iload_n 1, 1) := by decide +kernel
theorem dX8_nextOrder_18 : decode cX8_nextOrder 18 = .ok (.iaload, 1) := by decide +kernel
theorem dX8_nextOrder_19 : decode cX8_nextOrder 19 = .ok (.aload_n 0, 1) := by decide +kernel
theorem dX8_nextOrder_20 : decode cX8_nextOrder 20 = .ok (.getfield 42, 3) := by decide +kernel
theorem dX8_nextOrder_23 : decode cX8_nextOrder 23 = .ok (.iload_n 1, 1) := by decide +kernel
theorem dX8_nextOrder_24 : decode cX8_nextOrder 24 = .ok (.iconst 1, 1) := by decide +kernel
theorem dX8_nextOrder_25 : decode cX8_nextOrder 25 = .ok (.iadd, 1) := by decide +kernel
theorem dX8_nextOrder_26 : decode cX8_nextOrder 26 = .ok (.iaload, 1) := by decide +kernel
theorem dX8_nextOrder_27 : decode cX8_nextOrder 27 = .ok (.if_icmp .le 9, 3) := by decide +kernel
theorem dX8_nextOrder_30 : decode cX8_nextOrder 30 = .ok (.iinc 1 (-1), 3) := by decide +kernel
theorem dX8_nextOrder_33 : decode cX8_nextOrder 33 = .ok (.goto (-24), 3) := by decide +kernel
theorem dX8_nextOrder_36 : decode cX8_nextOrder 36 = .ok (.iload_n 1, 1) := by decide +kernel
theorem dX8_nextOrder_37 : decode cX8_nextOrder 37 = .ok (.ifCond .ge 5, 3) := by decide +kernel
theorem dX8_nextOrder_40 : decode cX8_nextOrder 40 = .ok (.iconst 0, 1) := by decide +kernel
theorem dX8_nextOrder_41 : decode cX8_nextOrder 41 = .ok (.ireturn, 1) := by decide +kernel
theorem dX8_nextOrder_42 : decode cX8_nextOrder 42 = .ok (.aload_n 0, 1) := by decide +kernel
theorem dX8_nextOrder_43 : decode cX8_nextOrder 43 = .ok (.getfield 7, 3) := by decide +kernel
theorem dX8_nextOrder_46 : decode cX8_nextOrder 46 = .ok (.iconst 0, 1) := by decide +kernel
theorem dX8_nextOrder_47 : decode cX8_nextOrder 47 = .ok (.iaload, 1) := by decide +kernel
theorem dX8_nextOrder_48 : decode cX8_nextOrder 48 = .ok (.iconst 1, 1) := by decide +kernel
theorem dX8_nextOrder_49 : decode cX8_nextOrder 49 = .ok (.isub, 1) := by decide +kernel
theorem dX8_nextOrder_50 : decode cX8_nextOrder 50 = .ok (.istore_n 2, 1) := by decide +kernel
theorem dX8_nextOrder_51 : decode cX8_nextOrder 51 = .ok (.aload_n 0, 1) := by decide +kernel
theorem dX8_nextOrder_52 : decode cX8_nextOrder 52 = .ok (.getfield 42, 3) := by decide +kernel
theorem dX8_nextOrder_55 : decode cX8_nextOrder 55 = .ok (.iload_n 2, 1) := by decide +kernel
theorem dX8_nextOrder_56 : decode cX8_nextOrder 56 = .ok (.iaload, 1) := by decide +kernel
theorem dX8_nextOrder_57 : decode cX8_nextOrder 57 = .ok (.aload_n 0, 1) := by decide +kernel
theorem dX8_nextOrder_58 : decode cX8_nextOrder 58 = .ok (.getfield 42, 3) := by decide +kernel
theorem dX8_nextOrder_61 : decode cX8_nextOrder 61 = .ok (.iload_n 1, 1) := by decide +kernel
theorem dX8_nextOrder_62 : decode cX8_nextOrder 62 = .ok (.iaload, 1) := by decide +kernel
theorem dX8_nextOrder_63 : decode cX8_nextOrder 63 = .ok (.if_icmp .ge 9, 3) := by decide +kernel
theorem dX8_nextOrder_66 : decode cX8_nextOrder 66 = .ok (.iinc 2 (-1), 3) := by decide +kernel
theorem dX8_nextOrder_69 : decode cX8_nextOrder 69 = .ok (.goto (-18), 3) := by decide +kernel
theorem dX8_nextOrder_72 : decode cX8_nextOrder 72 = .ok (.aload_n 0, 1) := by decide +kernel
theorem dX8_nextOrder_73 : decode cX8_nextOrder 73 = .ok (.getfield 42, 3) := by decide +kernel
theorem dX8_nextOrder_76 : decode cX8_nextOrder 76 = .ok (.iload_n 1, 1) := by decide +kernel
theorem dX8_nextOrder_77 : decode cX8_nextOrder 77 = .ok (.iaload, 1) := by decide +kernel
theorem dX8_nextOrder_78 : decode cX8_nextOrder 78 = .ok (.istore_n 3, 1) := by decide +kernel
theorem dX8_nextOrder_79 : decode cX8_nextOrder 79 = .ok (.aload_n 0, 1) := by decide +kernel
theorem dX8_nextOrder_80 : decode cX8_nextOrder 80 = .ok (.getfield 42, 3) := by decide +kernel
theorem dX8_nextOrder_83 : decode cX8_nextOrder 83 = .ok (.iload_n 1, 1) := by decide +kernel
theorem dX8_nextOrder_84 : decode cX8_nextOrder 84 = .ok (.aload_n 0, 1) := by decide +kernel
theorem dX8_nextOrder_85 : decode cX8_nextOrder 85 = .ok (.getfield 42, 3) := by decide +kernel
theorem dX8_nextOrder_88 : decode cX8_nextOrder 88 = .ok (.iload_n 2, 1) := by decide +kernel
theorem dX8_nextOrder_89 : decode cX8_nextOrder 89 = .ok (.iaload, 1) := by decide +kernel
theorem dX8_nextOrder_90 : decode cX8_nextOrder 90 = .ok (.iastore, 1) := by decide +kernel
theorem dX8_nextOrder_91 : decode cX8_nextOrder 91 = .ok (.aload_n 0, 1) := by decide +kernel
theorem dX8_nextOrder_92 : decode cX8_nextOrder 92 = .ok (.getfield 42, 3) := by decide +kernel
theorem dX8_nextOrder_95 : decode cX8_nextOrder 95 = .ok (.iload_n 2, 1) := by decide +kernel
theorem dX8_nextOrder_96 : decode cX8_nextOrder 96 = .ok (.iload_n 3, 1) := by decide +kernel
theorem dX8_nextOrder_97 : decode cX8_nextOrder 97 = .ok (.iastore, 1) := by decide +kernel
theorem dX8_nextOrder_98 : decode cX8_nextOrder 98 = .ok (.iload_n 1, 1) := by decide +kernel
theorem dX8_nextOrder_99 : decode cX8_nextOrder 99 = .ok (.iconst 1, 1) := by decide +kernel
theorem dX8_nextOrder_100 : decode cX8_nextOrder 100 = .ok (.iadd, 1) := by decide +kernel
theorem dX8_nextOrder_101 : decode cX8_nextOrder 101 = .ok (.istore 4, 2) := by decide +kernel
theorem dX8_nextOrder_103 : decode cX8_nextOrder 103 = .ok (.aload_n 0, 1) := by decide +kernel
theorem dX8_nextOrder_104 : decode cX8_nextOrder 104 = .ok (.getfield 7, 3) := by decide +kernel
theorem dX8_nextOrder_107 : decode cX8_nextOrder 107 = .ok (.iconst 0, 1) := by decide +kernel
theorem dX8_nextOrder_108 : decode cX8_nextOrder 108 = .ok (.iaload, 1) := by decide +kernel
theorem dX8_nextOrder_109 : decode cX8_nextOrder 109 = .ok (.iconst 1, 1) := by decide +kernel
theorem dX8_nextOrder_110 : decode cX8_nextOrder 110 = .ok (.isub, 1) := by decide +kernel
theorem dX8_nextOrder_111 : decode cX8_nextOrder 111 = .ok (.istore 5, 2) := by decide +kernel
theorem dX8_nextOrder_113 : decode cX8_nextOrder 113 = .ok (.iload 4, 2) := by decide +kernel
theorem dX8_nextOrder_115 : decode cX8_nextOrder 115 = .ok (.iload 5, 2) := by decide +kernel
theorem dX8_nextOrder_117 : decode cX8_nextOrder 117 = .ok (.if_icmp .ge 44, 3) := by decide +kernel
theorem dX8_nextOrder_120 : decode cX8_nextOrder 120 = .ok (.aload_n 0, 1) := by decide +kernel
theorem dX8_nextOrder_121 : decode cX8_nextOrder 121 = .ok (.getfield 42, 3) := by decide +kernel
theorem dX8_nextOrder_124 : decode cX8_nextOrder 124 = .ok (.iload 4, 2) := by decide +kernel
theorem dX8_nextOrder_126 : decode cX8_nextOrder 126 = .ok (.iaload, 1) := by decide +kernel
theorem dX8_nextOrder_127 : decode cX8_nextOrder 127 = .ok (.istore 6, 2) := by decide +kernel
theorem dX8_nextOrder_129 : decode cX8_nextOrder 129 = .ok (.aload_n 0, 1) := by decide +kernel
theorem dX8_nextOrder_130 : decode cX8_nextOrder 130 = .ok (.getfield 42, 3) := by decide +kernel
theorem dX8_nextOrder_133 : decode cX8_nextOrder 133 = .ok (.iload 4, 2) := by decide +kernel
theorem dX8_nextOrder_135 : decode cX8_nextOrder 135 = .ok (.aload_n 0, 1) := by decide +kernel
theorem dX8_nextOrder_136 : decode cX8_nextOrder 136 = .ok (.getfield 42, 3) := by decide +kernel
theorem dX8_nextOrder_139 : decode cX8_nextOrder 139 = .ok (.iload 5, 2) := by decide +kernel
theorem dX8_nextOrder_141 : decode cX8_nextOrder 141 = .ok (.iaload, 1) := by decide +kernel
theorem dX8_nextOrder_142 : decode cX8_nextOrder 142 = .ok (.iastore, 1) := by decide +kernel
theorem dX8_nextOrder_143 : decode cX8_nextOrder 143 = .ok (.aload_n 0, 1) := by decide +kernel
theorem dX8_nextOrder_144 : decode cX8_nextOrder 144 = .ok (.getfield 42, 3) := by decide +kernel
theorem dX8_nextOrder_147 : decode cX8_nextOrder 147 = .ok (.iload 5, 2) := by decide +kernel
theorem dX8_nextOrder_149 : decode cX8_nextOrder 149 = .ok (.iload 6, 2) := by decide +kernel
theorem dX8_nextOrder_151 : decode cX8_nextOrder 151 = .ok (.iastore, 1) := by decide +kernel
theorem dX8_nextOrder_152 : decode cX8_nextOrder 152 = .ok (.iinc 4 1, 3) := by decide +kernel
theorem dX8_nextOrder_155 : decode cX8_nextOrder 155 = .ok (.iinc 5 (-1), 3) := by decide +kernel
theorem dX8_nextOrder_158 : decode cX8_nextOrder 158 = .ok (.goto (-45), 3) := by decide +kernel
theorem dX8_nextOrder_161 : decode cX8_nextOrder 161 = .ok (.iconst 1, 1) := by decide +kernel
theorem dX8_nextOrder_162 : decode cX8_nextOrder 162 = .ok (.ireturn, 1) := by decide +kernel
theorem dX8_place_0 : decode cX8_place 0 = .ok (.iload_n 1, 1) := by decide +kernel
theorem dX8_place_1 : decode cX8_place 1 = .ok (.i2l, 1) := by decide +kernel
theorem dX8_place_2 : decode cX8_place 2 = .ok (.lconst 0, 1) := by decide +kernel
theorem dX8_place_3 : decode cX8_place 3 = .ok (.aload_n 0, 1) := by decide +kernel
theorem dX8_place_4 : decode cX8_place 4 = .ok (.getfield 7, 3) := by decide +kernel
theorem dX8_place_7 : decode cX8_place 7 = .ok (.iconst 0, 1) := by decide +kernel
theorem dX8_place_8 : decode cX8_place 8 = .ok (.iaload, 1) := by decide +kernel
theorem dX8_place_9 : decode cX8_place 9 = .ok (.iconst 1, 1) := by decide +kernel
theorem dX8_place_10 : decode cX8_place 10 = .ok (.isub, 1) := by decide +kernel
theorem dX8_place_11 : decode cX8_place 11 = .ok (.i2l, 1) := by decide +kernel
theorem dX8_place_12 : decode cX8_place 12 = .ok (.invokestatic 71, 3) := by decide +kernel
theorem dX8_place_15 : decode cX8_place 15 = .ok (.ifCond .ne 5, 3) := by decide +kernel
theorem dX8_place_18 : decode cX8_place 18 = .ok (.iconst (-1), 1) := by decide +kernel
theorem dX8_place_19 : decode cX8_place 19 = .ok (.ireturn, 1) := by decide +kernel
theorem dX8_place_20 : decode cX8_place 20 = .ok (.aload_n 0, 1) := by decide +kernel
theorem dX8_place_21 : decode cX8_place 21 = .ok (.invokevirtual 96, 3) := by decide +kernel
theorem dX8_place_24 : decode cX8_place 24 = .ok (.aload_n 0, 1) := by decide +kernel
theorem dX8_place_25 : decode cX8_place 25 = .ok (.invokevirtual 99, 3) := by decide +kernel
theorem dX8_place_28 : decode cX8_place 28 = .ok (.iload_n 2, 1) := by decide +kernel
theorem dX8_place_29 : decode cX8_place 29 = .ok (.tableswitch 101 0 6 #[43, 50, 60, 70, 80, 87, 94], 43) := by decide +kernel
theorem dX8_place_72 : decode cX8_place 72 = .ok (.aload_n 0, 1) := by decide +kernel
theorem dX8_place_73 : decode cX8_place 73 = .ok (.getfield 42, 3) := by decide +kernel
theorem dX8_place_76 : decode cX8_place 76 = .ok (.iload_n 1, 1) := by decide +kernel
theorem dX8_place_77 : decode cX8_place 77 = .ok (.iaload, 1) := by decide +kernel
theorem dX8_place_78 : decode cX8_place 78 = .ok (.ireturn, 1) := by decide +kernel
theorem dX8_place_79 : decode cX8_place 79 = .ok (.aload_n 0, 1) := by decide +kernel
theorem dX8_place_80 : decode cX8_place 80 = .ok (.getfield 51, 3) := by decide +kernel
theorem dX8_place_83 : decode cX8_place 83 = .ok (.iload_n 1, 1) := by decide +kernel
theorem dX8_place_84 : decode cX8_place 84 = .ok (.iaload, 1) := by decide +kernel
theorem dX8_place_85 : decode cX8_place 85 = .ok (.invokestatic 93, 3) := by decide +kernel
theorem dX8_place_88 : decode cX8_place 88 = .ok (.ireturn, 1) := by decide +kernel
theorem dX8_place_89 : decode cX8_place 89 = .ok (.aload_n 0, 1) := by decide +kernel
theorem dX8_place_90 : decode cX8_place 90 = .ok (.getfield 54, 3) := by decide +kernel
theorem dX8_place_93 : decode cX8_place 93 = .ok (.iload_n 1, 1) := by decide +kernel
theorem dX8_place_94 : decode cX8_place 94 = .ok (.iaload, 1) := by decide +kernel
theorem dX8_place_95 : decode cX8_place 95 = .ok (.invokestatic 93, 3) := by decide +kernel
theorem dX8_place_98 : decode cX8_place 98 = .ok (.ireturn, 1) := by decide +kernel
theorem dX8_place_99 : decode cX8_place 99 = .ok (.aload_n 0, 1) := by decide +kernel
theorem dX8_place_100 : decode cX8_place 100 = .ok (.getfield 57, 3) := by decide +kernel
theorem dX8_place_103 : decode cX8_place 103 = .ok (.iload_n 1, 1) := by decide +kernel
theorem dX8_place_104 : decode cX8_place 104 = .ok (.iaload, 1) := by decide +kernel
theorem dX8_place_105 : decode cX8_place 105 = .ok (.invokestatic 93, 3) := by decide +kernel
theorem dX8_place_108 : decode cX8_place 108 = .ok (.ireturn, 1) := by decide +kernel
theorem dX8_place_109 : decode cX8_place 109 = .ok (.aload_n 0, 1) := by decide +kernel
theorem dX8_place_110 : decode cX8_place 110 = .ok (.getfield 51, 3) := by decide +kernel
theorem dX8_place_113 : decode cX8_place 113 = .ok (.iload_n 1, 1) := by decide +kernel
theorem dX8_place_114 : decode cX8_place 114 = .ok (.iaload, 1) := by decide +kernel
theorem dX8_place_115 : decode cX8_place 115 = .ok (.ireturn, 1) := by decide +kernel
theorem dX8_place_116 : decode cX8_place 116 = .ok (.aload_n 0, 1) := by decide +kernel
theorem dX8_place_117 : decode cX8_place 117 = .ok (.getfield 57, 3) := by decide +kernel
theorem dX8_place_120 : decode cX8_place 120 = .ok (.iload_n 1, 1) := by decide +kernel
theorem dX8_place_121 : decode cX8_place 121 = .ok (.iaload, 1) := by decide +kernel
theorem dX8_place_122 : decode cX8_place 122 = .ok (.ireturn, 1) := by decide +kernel
theorem dX8_place_123 : decode cX8_place 123 = .ok (.aload_n 0, 1) := by decide +kernel
theorem dX8_place_124 : decode cX8_place 124 = .ok (.getfield 60, 3) := by decide +kernel
theorem dX8_place_127 : decode cX8_place 127 = .ok (.iload_n 1, 1) := by decide +kernel
theorem dX8_place_128 : decode cX8_place 128 = .ok (.iaload, 1) := by decide +kernel
theorem dX8_place_129 : decode cX8_place 129 = .ok (.ireturn, 1) := by decide +kernel
theorem dX8_place_130 : decode cX8_place 130 = .ok (.iconst (-1), 1) := by decide +kernel
theorem dX8_place_131 : decode cX8_place 131 = .ok (.ireturn, 1) := by decide +kernel
theorem dX8_word_0 : decode cX8_word 0 = .ok (.iload_n 1, 1) := by decide +kernel
theorem dX8_word_1 : decode cX8_word 1 = .ok (.i2l, 1) := by decide +kernel
theorem dX8_word_2 : decode cX8_word 2 = .ok (.lconst 0, 1) := by decide +kernel
theorem dX8_word_3 : decode cX8_word 3 = .ok (.ldc2_w 102, 3) := by decide +kernel
theorem dX8_word_6 : decode cX8_word 6 = .ok (.invokestatic 71, 3) := by decide +kernel
theorem dX8_word_9 : decode cX8_word 9 = .ok (.ifCond .ne 5, 3) := by decide +kernel
theorem dX8_word_12 : decode cX8_word 12 = .ok (.iconst (-1), 1) := by decide +kernel
theorem dX8_word_13 : decode cX8_word 13 = .ok (.ireturn, 1) := by decide +kernel
theorem dX8_word_14 : decode cX8_word 14 = .ok (.aload_n 0, 1) := by decide +kernel
theorem dX8_word_15 : decode cX8_word 15 = .ok (.invokevirtual 96, 3) := by decide +kernel
theorem dX8_word_18 : decode cX8_word 18 = .ok (.aload_n 0, 1) := by decide +kernel
theorem dX8_word_19 : decode cX8_word 19 = .ok (.invokevirtual 99, 3) := by decide +kernel
theorem dX8_word_22 : decode cX8_word 22 = .ok (.bipush (-4), 2) := by decide +kernel
theorem dX8_word_24 : decode cX8_word 24 = .ok (.istore_n 3, 1) := by decide +kernel
theorem dX8_word_25 : decode cX8_word 25 = .ok (.iconst 0, 1) := by decide +kernel
theorem dX8_word_26 : decode cX8_word 26 = .ok (.istore 4, 2) := by decide +kernel
theorem dX8_word_28 : decode cX8_word 28 = .ok (.iconst 0, 1) := by decide +kernel
theorem dX8_word_29 : decode cX8_word 29 = .ok (.istore 5, 2) := by decide +kernel
theorem dX8_word_31 : decode cX8_word 31 = .ok (.iconst 0, 1) := by decide +kernel
theorem dX8_word_32 : decode cX8_word 32 = .ok (.istore 6, 2) := by decide +kernel
theorem dX8_word_34 : decode cX8_word 34 = .ok (.aload_n 0, 1) := by decide +kernel
theorem dX8_word_35 : decode cX8_word 35 = .ok (.getfield 7, 3) := by decide +kernel
theorem dX8_word_38 : decode cX8_word 38 = .ok (.iconst 0, 1) := by decide +kernel
theorem dX8_word_39 : decode cX8_word 39 = .ok (.iaload, 1) := by decide +kernel
theorem dX8_word_40 : decode cX8_word 40 = .ok (.iconst 1, 1) := by decide +kernel
theorem dX8_word_41 : decode cX8_word 41 = .ok (.isub, 1) := by decide +kernel
theorem dX8_word_42 : decode cX8_word 42 = .ok (.istore 7, 2) := by decide +kernel
theorem dX8_word_44 : decode cX8_word 44 = .ok (.iload 7, 2) := by decide +kernel
theorem dX8_word_46 : decode cX8_word 46 = .ok (.ifCond .lt 105, 3) := by decide +kernel
theorem dX8_word_49 : decode cX8_word 49 = .ok (.aload_n 0, 1) := by decide +kernel
theorem dX8_word_50 : decode cX8_word 50 = .ok (.getfield 51, 3) := by decide +kernel
theorem dX8_word_53 : decode cX8_word 53 = .ok (.iload 7, 2) := by decide +kernel
theorem dX8_word_55 : decode cX8_word 55 = .ok (.iaload, 1) := by decide +kernel
theorem dX8_word_56 : decode cX8_word 56 = .ok (.iload_n 1, 1) := by decide +kernel
theorem dX8_word_57 : decode cX8_word 57 = .ok (.invokestatic 75, 3) := by decide +kernel
theorem dX8_word_60 : decode cX8_word 60 = .ok (.ifCond .eq 8, 3) := by decide +kernel
theorem dX8_word_63 : decode cX8_word 63 = .ok (.iload 7, 2) := by decide +kernel
theorem dX8_word_65 : decode cX8_word 65 = .ok (.goto 4, 3) := by decide +kernel
theorem dX8_word_68 : decode cX8_word 68 = .ok (.iload_n 3, 1) := by decide +kernel
theorem dX8_word_69 : decode cX8_word 69 = .ok (.istore_n 3, 1) := by decide +kernel
theorem dX8_word_70 : decode cX8_word 70 = .ok (.iload 4, 2) := by decide +kernel
theorem dX8_word_72 : decode cX8_word 72 = .ok (.aload_n 0, 1) := by decide +kernel
theorem dX8_word_73 : decode cX8_word 73 = .ok (.getfield 51, 3) := by decide +kernel
theorem dX8_word_76 : decode cX8_word 76 = .ok (.iload 7, 2) := by decide +kernel
theorem dX8_word_78 : decode cX8_word 78 = .ok (.iaload, 1) := by decide +kernel
theorem dX8_word_79 : decode cX8_word 79 = .ok (.iload_n 1, 1) := by decide +kernel
theorem dX8_word_80 : decode cX8_word 80 = .ok (.invokestatic 75, 3) := by decide +kernel
theorem dX8_word_83 : decode cX8_word 83 = .ok (.ifCond .eq 7, 3) := by decide +kernel
theorem dX8_word_86 : decode cX8_word 86 = .ok (.iconst 1, 1) := by decide +kernel
theorem dX8_word_87 : decode cX8_word 87 = .ok (.goto 4, 3) := by decide +kernel
theorem dX8_word_90 : decode cX8_word 90 = .ok (.iconst 0, 1) := by decide +kernel
theorem dX8_word_91 : decode cX8_word 91 = .ok (.iadd, 1) := by decide +kernel
theorem dX8_word_92 : decode cX8_word 92 = .ok (.istore 4, 2) := by decide +kernel
theorem dX8_word_94 : decode cX8_word 94 = .ok (.iload 5, 2) := by decide +kernel
theorem dX8_word_96 : decode cX8_word 96 = .ok (.aload_n 0, 1) := by decide +kernel
theorem dX8_word_97 : decode cX8_word 97 = .ok (.getfield 57, 3) := by decide +kernel
theorem dX8_word_100 : decode cX8_word 100 = .ok (.iload 7, 2) := by decide +kernel
theorem dX8_word_102 : decode cX8_word 102 = .ok (.iaload, 1) := by decide +kernel
theorem dX8_word_103 : decode cX8_word 103 = .ok (.iload_n 1, 1) := by decide +kernel
theorem dX8_word_104 : decode cX8_word 104 = .ok (.invokestatic 75, 3) := by decide +kernel
theorem dX8_word_107 : decode cX8_word 107 = .ok (.ifCond .eq 7, 3) := by decide +kernel
theorem dX8_word_110 : decode cX8_word 110 = .ok (.iconst 1, 1) := by decide +kernel
theorem dX8_word_111 : decode cX8_word 111 = .ok (.goto 4, 3) := by decide +kernel
theorem dX8_word_114 : decode cX8_word 114 = .ok (.iconst 0, 1) := by decide +kernel
theorem dX8_word_115 : decode cX8_word 115 = .ok (.iadd, 1) := by decide +kernel
theorem dX8_word_116 : decode cX8_word 116 = .ok (.istore 5, 2) := by decide +kernel
theorem dX8_word_118 : decode cX8_word 118 = .ok (.iload 6, 2) := by decide +kernel
theorem dX8_word_120 : decode cX8_word 120 = .ok (.aload_n 0, 1) := by decide +kernel
theorem dX8_word_121 : decode cX8_word 121 = .ok (.getfield 7, 3) := by decide +kernel
theorem dX8_word_124 : decode cX8_word 124 = .ok (.bipush 13, 2) := by decide +kernel
theorem dX8_word_126 : decode cX8_word 126 = .ok (.iload 7, 2) := by decide +kernel
theorem dX8_word_128 : decode cX8_word 128 = .ok (.iadd, 1) := by decide +kernel
theorem dX8_word_129 : decode cX8_word 129 = .ok (.iaload, 1) := by decide +kernel
theorem dX8_word_130 : decode cX8_word 130 = .ok (.iload_n 1, 1) := by decide +kernel
theorem dX8_word_131 : decode cX8_word 131 = .ok (.invokestatic 75, 3) := by decide +kernel
theorem dX8_word_134 : decode cX8_word 134 = .ok (.ifCond .eq 7, 3) := by decide +kernel
theorem dX8_word_137 : decode cX8_word 137 = .ok (.iconst 1, 1) := by decide +kernel
theorem dX8_word_138 : decode cX8_word 138 = .ok (.goto 4, 3) := by decide +kernel
theorem dX8_word_141 : decode cX8_word 141 = .ok (.iconst 0, 1) := by decide +kernel
theorem dX8_word_142 : decode cX8_word 142 = .ok (.iadd, 1) := by decide +kernel
theorem dX8_word_143 : decode cX8_word 143 = .ok (.istore 6, 2) := by decide +kernel
theorem dX8_word_145 : decode cX8_word 145 = .ok (.iinc 7 (-1), 3) := by decide +kernel
theorem dX8_word_148 : decode cX8_word 148 = .ok (.goto (-104), 3) := by decide +kernel
theorem dX8_word_151 : decode cX8_word 151 = .ok (.iload_n 2, 1) := by decide +kernel
theorem dX8_word_152 : decode cX8_word 152 = .ok (.tableswitch 54 0 4 #[36, 38, 45, 48, 51], 36) := by decide +kernel
theorem dX8_word_188 : decode cX8_word 188 = .ok (.iload_n 3, 1) := by decide +kernel
theorem dX8_word_189 : decode cX8_word 189 = .ok (.ireturn, 1) := by decide +kernel
theorem dX8_word_190 : decode cX8_word 190 = .ok (.aload_n 0, 1) := by decide +kernel
theorem dX8_word_191 : decode cX8_word 191 = .ok (.getfield 45, 3) := by decide +kernel
theorem dX8_word_194 : decode cX8_word 194 = .ok (.iload_n 1, 1) := by decide +kernel
theorem dX8_word_195 : decode cX8_word 195 = .ok (.iaload, 1) := by decide +kernel
theorem dX8_word_196 : decode cX8_word 196 = .ok (.ireturn, 1) := by decide +kernel
theorem dX8_word_197 : decode cX8_word 197 = .ok (.iload 4, 2) := by decide +kernel
theorem dX8_word_199 : decode cX8_word 199 = .ok (.ireturn, 1) := by decide +kernel
theorem dX8_word_200 : decode cX8_word 200 = .ok (.iload 5, 2) := by decide +kernel
theorem dX8_word_202 : decode cX8_word 202 = .ok (.ireturn, 1) := by decide +kernel
theorem dX8_word_203 : decode cX8_word 203 = .ok (.iload 6, 2) := by decide +kernel
theorem dX8_word_205 : decode cX8_word 205 = .ok (.ireturn, 1) := by decide +kernel
theorem dX8_word_206 : decode cX8_word 206 = .ok (.iconst (-1), 1) := by decide +kernel
theorem dX8_word_207 : decode cX8_word 207 = .ok (.ireturn, 1) := by decide +kernel
theorem dX8_aheadOf_0 : decode cX8_aheadOf 0 = .ok (.iconst 0, 1) := by decide +kernel
theorem dX8_aheadOf_1 : decode cX8_aheadOf 1 = .ok (.istore_n 2, 1) := by decide +kernel
theorem dX8_aheadOf_2 : decode cX8_aheadOf 2 = .ok (.iconst 0, 1) := by decide +kernel
theorem dX8_aheadOf_3 : decode cX8_aheadOf 3 = .ok (.istore_n 3, 1) := by decide +kernel
theorem dX8_aheadOf_4 : decode cX8_aheadOf 4 = .ok (.iload_n 3, 1) := by decide +kernel
theorem dX8_aheadOf_5 : decode cX8_aheadOf 5 = .ok (.aload_n 0, 1) := by decide +kernel
theorem dX8_aheadOf_6 : decode cX8_aheadOf 6 = .ok (.getfield 7, 3) := by decide +kernel
theorem dX8_aheadOf_9 : decode cX8_aheadOf 9 = .ok (.iconst 0, 1) := by decide +kernel
theorem dX8_aheadOf_10 : decode cX8_aheadOf 10 = .ok (.iaload, 1) := by decide +kernel
theorem dX8_aheadOf_11 : decode cX8_aheadOf 11 = .ok (.if_icmp .ge 35, 3) := by decide +kernel
theorem dX8_aheadOf_14 : decode cX8_aheadOf 14 = .ok (.iload_n 2, 1) := by decide +kernel
theorem dX8_aheadOf_15 : decode cX8_aheadOf 15 = .ok (.aload_n 0, 1) := by decide +kernel
theorem dX8_aheadOf_16 : decode cX8_aheadOf 16 = .ok (.getfield 7, 3) := by decide +kernel
theorem dX8_aheadOf_19 : decode cX8_aheadOf 19 = .ok (.bipush 20, 2) := by decide +kernel
theorem dX8_aheadOf_21 : decode cX8_aheadOf 21 = .ok (.iload_n 3, 1) := by decide +kernel
theorem dX8_aheadOf_22 : decode cX8_aheadOf 22 = .ok (.iadd, 1) := by decide +kernel
theorem dX8_aheadOf_23 : decode cX8_aheadOf 23 = .ok (.iaload, 1) := by decide +kernel
theorem dX8_aheadOf_24 : decode cX8_aheadOf 24 = .ok (.iload_n 1, 1) := by decide +kernel
theorem dX8_aheadOf_25 : decode cX8_aheadOf 25 = .ok (.invokestatic 75, 3) := by decide +kernel
theorem dX8_aheadOf_28 : decode cX8_aheadOf 28 = .ok (.ifCond .eq 9, 3) := by decide +kernel
theorem dX8_aheadOf_31 : decode cX8_aheadOf 31 = .ok (.iconst 1, 1) := by decide +kernel
theorem dX8_aheadOf_32 : decode cX8_aheadOf 32 = .ok (.iload_n 3, 1) := by decide +kernel
theorem dX8_aheadOf_33 : decode cX8_aheadOf 33 = .ok (.ishl, 1) := by decide +kernel
theorem dX8_aheadOf_34 : decode cX8_aheadOf 34 = .ok (.goto 4, 3) := by decide +kernel
theorem dX8_aheadOf_37 : decode cX8_aheadOf 37 = .ok (.iconst 0, 1) := by decide +kernel
theorem dX8_aheadOf_38 : decode cX8_aheadOf 38 = .ok (.ior, 1) := by decide +kernel
theorem dX8_aheadOf_39 : decode cX8_aheadOf 39 = .ok (.istore_n 2, 1) := by decide +kernel
theorem dX8_aheadOf_40 : decode cX8_aheadOf 40 = .ok (.iinc 3 1, 3) := by decide +kernel
theorem dX8_aheadOf_43 : decode cX8_aheadOf 43 = .ok (.goto (-39), 3) := by decide +kernel
theorem dX8_aheadOf_46 : decode cX8_aheadOf 46 = .ok (.iload_n 2, 1) := by decide +kernel
theorem dX8_aheadOf_47 : decode cX8_aheadOf 47 = .ok (.ireturn, 1) := by decide +kernel
theorem dX8_placeOf_0 : decode cX8_placeOf 0 = .ok (.iconst 0, 1) := by decide +kernel
theorem dX8_placeOf_1 : decode cX8_placeOf 1 = .ok (.istore_n 2, 1) := by decide +kernel
theorem dX8_placeOf_2 : decode cX8_placeOf 2 = .ok (.aload_n 0, 1) := by decide +kernel
theorem dX8_placeOf_3 : decode cX8_placeOf 3 = .ok (.getfield 7, 3) := by decide +kernel
theorem dX8_placeOf_6 : decode cX8_placeOf 6 = .ok (.bipush 6, 2) := by decide +kernel
theorem dX8_placeOf_8 : decode cX8_placeOf 8 = .ok (.iload_n 2, 1) := by decide +kernel
theorem dX8_placeOf_9 : decode cX8_placeOf 9 = .ok (.iadd, 1) := by decide +kernel
theorem dX8_placeOf_10 : decode cX8_placeOf 10 = .ok (.iaload, 1) := by decide +kernel
theorem dX8_placeOf_11 : decode cX8_placeOf 11 = .ok (.iload_n 1, 1) := by decide +kernel
theorem dX8_placeOf_12 : decode cX8_placeOf 12 = .ok (.if_icmp .eq 9, 3) := by decide +kernel
theorem dX8_placeOf_15 : decode cX8_placeOf 15 = .ok (.iinc 2 1, 3) := by decide +kernel
theorem dX8_placeOf_18 : decode cX8_placeOf 18 = .ok (.goto (-16), 3) := by decide +kernel
theorem dX8_placeOf_21 : decode cX8_placeOf 21 = .ok (.iload_n 2, 1) := by decide +kernel
theorem dX8_placeOf_22 : decode cX8_placeOf 22 = .ok (.ireturn, 1) := by decide +kernel
theorem dX8_told_0 : decode cX8_told 0 = .ok (.aload_n 0, 1) := by decide +kernel
theorem dX8_told_1 : decode cX8_told 1 = .ok (.iload_n 1, 1) := by decide +kernel
theorem dX8_told_2 : decode cX8_told 2 = .ok (.invokevirtual 104, 3) := by decide +kernel
theorem dX8_told_5 : decode cX8_told 5 = .ok (.ifCond .ne 5, 3) := by decide +kernel
theorem dX8_told_8 : decode cX8_told 8 = .ok (.iconst (-1), 1) := by decide +kernel
theorem dX8_told_9 : decode cX8_told 9 = .ok (.ireturn, 1) := by decide +kernel
theorem dX8_told_10 : decode cX8_told 10 = .ok (.iload_n 2, 1) := by decide +kernel
theorem dX8_told_11 : decode cX8_told 11 = .ok (.tableswitch 61 0 3 #[29, 39, 49, 55], 29) := by decide +kernel
theorem dX8_told_40 : decode cX8_told 40 = .ok (.aload_n 0, 1) := by decide +kernel
theorem dX8_told_41 : decode cX8_told 41 = .ok (.getfield 7, 3) := by decide +kernel
theorem dX8_told_44 : decode cX8_told 44 = .ok (.bipush 13, 2) := by decide +kernel
theorem dX8_told_46 : decode cX8_told 46 = .ok (.iload_n 1, 1) := by decide +kernel
theorem dX8_told_47 : decode cX8_told 47 = .ok (.iadd, 1) := by decide +kernel
theorem dX8_told_48 : decode cX8_told 48 = .ok (.iaload, 1) := by decide +kernel
theorem dX8_told_49 : decode cX8_told 49 = .ok (.ireturn, 1) := by decide +kernel
theorem dX8_told_50 : decode cX8_told 50 = .ok (.aload_n 0, 1) := by decide +kernel
theorem dX8_told_51 : decode cX8_told 51 = .ok (.getfield 7, 3) := by decide +kernel
theorem dX8_told_54 : decode cX8_told 54 = .ok (.bipush 20, 2) := by decide +kernel
theorem dX8_told_56 : decode cX8_told 56 = .ok (.iload_n 1, 1) := by decide +kernel
theorem dX8_told_57 : decode cX8_told 57 = .ok (.iadd, 1) := by decide +kernel
theorem dX8_told_58 : decode cX8_told 58 = .ok (.iaload, 1) := by decide +kernel
theorem dX8_told_59 : decode cX8_told 59 = .ok (.ireturn, 1) := by decide +kernel
theorem dX8_told_60 : decode cX8_told 60 = .ok (.aload_n 0, 1) := by decide +kernel
theorem dX8_told_61 : decode cX8_told 61 = .ok (.iload_n 1, 1) := by decide +kernel
theorem dX8_told_62 : decode cX8_told 62 = .ok (.invokevirtual 108, 3) := by decide +kernel
theorem dX8_told_65 : decode cX8_told 65 = .ok (.ireturn, 1) := by decide +kernel
theorem dX8_told_66 : decode cX8_told 66 = .ok (.aload_n 0, 1) := by decide +kernel
theorem dX8_told_67 : decode cX8_told 67 = .ok (.iload_n 1, 1) := by decide +kernel
theorem dX8_told_68 : decode cX8_told 68 = .ok (.invokevirtual 111, 3) := by decide +kernel
theorem dX8_told_71 : decode cX8_told 71 = .ok (.ireturn, 1) := by decide +kernel
theorem dX8_told_72 : decode cX8_told 72 = .ok (.iconst (-1), 1) := by decide +kernel
theorem dX8_told_73 : decode cX8_told 73 = .ok (.ireturn, 1) := by decide +kernel
theorem dX8_count_0 : decode cX8_count 0 = .ok (.aload_n 0, 1) := by decide +kernel
theorem dX8_count_1 : decode cX8_count 1 = .ok (.invokevirtual 96, 3) := by decide +kernel
theorem dX8_count_4 : decode cX8_count 4 = .ok (.aload_n 0, 1) := by decide +kernel
theorem dX8_count_5 : decode cX8_count 5 = .ok (.invokevirtual 99, 3) := by decide +kernel
theorem dX8_count_8 : decode cX8_count 8 = .ok (.iload_n 1, 1) := by decide +kernel
theorem dX8_count_9 : decode cX8_count 9 = .ok (.tableswitch 125 0 10 #[59, 59, 59, 59, 59, 66, 71, 76, 81, 94, 120], 59) := by decide +kernel
theorem dX8_count_68 : decode cX8_count 68 = .ok (.aload_n 0, 1) := by decide +kernel
theorem dX8_count_69 : decode cX8_count 69 = .ok (.getfield 7, 3) := by decide +kernel
theorem dX8_count_72 : decode cX8_count 72 = .ok (.iload_n 1, 1) := by decide +kernel
theorem dX8_count_73 : decode cX8_count 73 = .ok (.iaload, 1) := by decide +kernel
theorem dX8_count_74 : decode cX8_count 74 = .ok (.ireturn, 1) := by decide +kernel
theorem dX8_count_75 : decode cX8_count 75 = .ok (.aload_n 0, 1) := by decide +kernel
theorem dX8_count_76 : decode cX8_count 76 = .ok (.invokevirtual 114, 3) := by decide +kernel
theorem dX8_count_79 : decode cX8_count 79 = .ok (.ireturn, 1) := by decide +kernel
theorem dX8_count_80 : decode cX8_count 80 = .ok (.aload_n 0, 1) := by decide +kernel
theorem dX8_count_81 : decode cX8_count 81 = .ok (.invokevirtual 118, 3) := by decide +kernel
theorem dX8_count_84 : decode cX8_count 84 = .ok (.ireturn, 1) := by decide +kernel
theorem dX8_count_85 : decode cX8_count 85 = .ok (.aload_n 0, 1) := by decide +kernel
theorem dX8_count_86 : decode cX8_count 86 = .ok (.invokevirtual 121, 3) := by decide +kernel
theorem dX8_count_89 : decode cX8_count 89 = .ok (.ireturn, 1) := by decide +kernel
theorem dX8_count_90 : decode cX8_count 90 = .ok (.aload_n 0, 1) := by decide +kernel
theorem dX8_count_91 : decode cX8_count 91 = .ok (.invokevirtual 124, 3) := by decide +kernel
theorem dX8_count_94 : decode cX8_count 94 = .ok (.ifCond .eq 7, 3) := by decide +kernel
theorem dX8_count_97 : decode cX8_count 97 = .ok (.iconst 1, 1) := by decide +kernel
theorem dX8_count_98 : decode cX8_count 98 = .ok (.goto 4, 3) := by decide +kernel
theorem dX8_count_101 : decode cX8_count 101 = .ok (.iconst 0, 1) := by decide +kernel
theorem dX8_count_102 : decode cX8_count 102 = .ok (.ireturn, 1) := by decide +kernel
theorem dX8_count_103 : decode cX8_count 103 = .ok (.aload_n 0, 1) := by decide +kernel
theorem dX8_count_104 : decode cX8_count 104 = .ok (.invokevirtual 124, 3) := by decide +kernel
theorem dX8_count_107 : decode cX8_count 107 = .ok (.ifCond .eq 20, 3) := by decide +kernel
theorem dX8_count_110 : decode cX8_count 110 = .ok (.aload_n 0, 1) := by decide +kernel
theorem dX8_count_111 : decode cX8_count 111 = .ok (.invokevirtual 118, 3) := by decide +kernel
theorem dX8_count_114 : decode cX8_count 114 = .ok (.aload_n 0, 1) := by decide +kernel
theorem dX8_count_115 : decode cX8_count 115 = .ok (.getfield 7, 3) := by decide +kernel
theorem dX8_count_118 : decode cX8_count 118 = .ok (.iconst 3, 1) := by decide +kernel
theorem dX8_count_119 : decode cX8_count 119 = .ok (.iaload, 1) := by decide +kernel
theorem dX8_count_120 : decode cX8_count 120 = .ok (.if_icmp .gt 7, 3) := by decide +kernel
theorem dX8_count_123 : decode cX8_count 123 = .ok (.iconst 1, 1) := by decide +kernel
theorem dX8_count_124 : decode cX8_count 124 = .ok (.goto 4, 3) := by decide +kernel
theorem dX8_count_127 : decode cX8_count 127 = .ok (.iconst 0, 1) := by decide +kernel
theorem dX8_count_128 : decode cX8_count 128 = .ok (.ireturn, 1) := by decide +kernel
theorem dX8_count_129 : decode cX8_count 129 = .ok (.aload_n 0, 1) := by decide +kernel
theorem dX8_count_130 : decode cX8_count 130 = .ok (.getfield 128, 3) := by decide +kernel
theorem dX8_count_133 : decode cX8_count 133 = .ok (.ireturn, 1) := by decide +kernel
theorem dX8_count_134 : decode cX8_count 134 = .ok (.iconst (-1), 1) := by decide +kernel
theorem dX8_count_135 : decode cX8_count 135 = .ok (.ireturn, 1) := by decide +kernel
theorem dX8_laysBest_0 : decode cX8_laysBest 0 = .ok (.aload_n 0, 1) := by decide +kernel
theorem dX8_laysBest_1 : decode cX8_laysBest 1 = .ok (.bipush (-4), 2) := by decide +kernel
theorem dX8_laysBest_3 : decode cX8_laysBest 3 = .ok (.putfield 131, 3) := by decide +kernel
theorem dX8_laysBest_6 : decode cX8_laysBest 6 = .ok (.aload_n 0, 1) := by decide +kernel
theorem dX8_laysBest_7 : decode cX8_laysBest 7 = .ok (.invokevirtual 134, 3) := by decide +kernel
theorem dX8_laysBest_10 : decode cX8_laysBest 10 = .ok (.iconst 1, 1) := by decide +kernel
theorem dX8_laysBest_11 : decode cX8_laysBest 11 = .ok (.istore_n 1, 1) := by decide +kernel
theorem dX8_laysBest_12 : decode cX8_laysBest 12 = .ok (.iload_n 1, 1) := by decide +kernel
theorem dX8_laysBest_13 : decode cX8_laysBest 13 = .ok (.ifCond .eq 81, 3) := by decide +kernel
theorem dX8_laysBest_16 : decode cX8_laysBest 16 = .ok (.aload_n 0, 1) := by decide +kernel
theorem dX8_laysBest_17 : decode cX8_laysBest 17 = .ok (.invokevirtual 124, 3) := by decide +kernel
theorem dX8_laysBest_20 : decode cX8_laysBest 20 = .ok (.ifCond .eq 66, 3) := by decide +kernel
theorem dX8_laysBest_23 : decode cX8_laysBest 23 = .ok (.aload_n 0, 1) := by decide +kernel
theorem dX8_laysBest_24 : decode cX8_laysBest 24 = .ok (.invokevirtual 99, 3) := by decide +kernel
theorem dX8_laysBest_27 : decode cX8_laysBest 27 = .ok (.aload_n 0, 1) := by decide +kernel
theorem dX8_laysBest_28 : decode cX8_laysBest 28 = .ok (.invokevirtual 118, 3) := by decide +kernel
theorem dX8_laysBest_31 : decode cX8_laysBest 31 = .ok (.istore_n 2, 1) := by decide +kernel
theorem dX8_laysBest_32 : decode cX8_laysBest 32 = .ok (.aload_n 0, 1) := by decide +kernel
theorem dX8_laysBest_33 : decode cX8_laysBest 33 = .ok (.invokevirtual 121, 3) := by decide +kernel
theorem dX8_laysBest_36 : decode cX8_laysBest 36 = .ok (.istore_n 3, 1) := by decide +kernel
theorem dX8_laysBest_37 : decode cX8_laysBest 37 = .ok (.aload_n 0, 1) := by decide +kernel
theorem dX8_laysBest_38 : decode cX8_laysBest 38 = .ok (.getfield 131, 3) := by decide +kernel
theorem dX8_laysBest_41 : decode cX8_laysBest 41 = .ok (.ifCond .lt 27, 3) := by decide +kernel
theorem dX8_laysBest_44 : decode cX8_laysBest 44 = .ok (.iload_n 2, 1) := by decide +kernel
theorem dX8_laysBest_45 : decode cX8_laysBest 45 = .ok (.aload_n 0, 1) := by decide +kernel
theorem dX8_laysBest_46 : decode cX8_laysBest 46 = .ok (.getfield 137, 3) := by decide +kernel
theorem dX8_laysBest_49 : decode cX8_laysBest 49 = .ok (.if_icmp .lt 19, 3) := by decide +kernel
theorem dX8_laysBest_52 : decode cX8_laysBest 52 = .ok (.iload_n 2, 1) := by decide +kernel
theorem dX8_laysBest_53 : decode cX8_laysBest 53 = .ok (.aload_n 0, 1) := by decide +kernel
theorem dX8_laysBest_54 : decode cX8_laysBest 54 = .ok (.getfield 137, 3) := by decide +kernel
theorem dX8_laysBest_57 : decode cX8_laysBest 57 = .ok (.if_icmp .ne 29, 3) := by decide +kernel
theorem dX8_laysBest_60 : decode cX8_laysBest 60 = .ok (.iload_n 3, 1) := by decide +kernel
theorem dX8_laysBest_61 : decode cX8_laysBest 61 = .ok (.aload_n 0, 1) := by decide +kernel
theorem dX8_laysBest_62 : decode cX8_laysBest 62 = .ok (.getfield 140, 3) := by decide +kernel
theorem dX8_laysBest_65 : decode cX8_laysBest 65 = .ok (.if_icmp .ge 21, 3) := by decide +kernel
theorem dX8_laysBest_68 : decode cX8_laysBest 68 = .ok (.aload_n 0, 1) := by decide +kernel
theorem dX8_laysBest_69 : decode cX8_laysBest 69 = .ok (.aload_n 0, 1) := by decide +kernel
theorem dX8_laysBest_70 : decode cX8_laysBest 70 = .ok (.invokevirtual 114, 3) := by decide +kernel
theorem dX8_laysBest_73 : decode cX8_laysBest 73 = .ok (.putfield 131, 3) := by decide +kernel
theorem dX8_laysBest_76 : decode cX8_laysBest 76 = .ok (.aload_n 0, 1) := by decide +kernel
theorem dX8_laysBest_77 : decode cX8_laysBest 77 = .ok (.iload_n 2, 1) := by decide +kernel
theorem dX8_laysBest_78 : decode cX8_laysBest 78 = .ok (.putfield 137, 3) := by decide +kernel
theorem dX8_laysBest_81 : decode cX8_laysBest 81 = .ok (.aload_n 0, 1) := by decide +kernel
theorem dX8_laysBest_82 : decode cX8_laysBest 82 = .ok (.iload_n 3, 1) := by decide +kernel
theorem dX8_laysBest_83 : decode cX8_laysBest 83 = .ok (.putfield 140, 3) := by decide +kernel
theorem dX8_laysBest_86 : decode cX8_laysBest 86 = .ok (.aload_n 0, 1) := by decide +kernel
theorem dX8_laysBest_87 : decode cX8_laysBest 87 = .ok (.invokevirtual 143, 3) := by decide +kernel
theorem dX8_laysBest_90 : decode cX8_laysBest 90 = .ok (.istore_n 1, 1) := by decide +kernel
theorem dX8_laysBest_91 : decode cX8_laysBest 91 = .ok (.goto (-79), 3) := by decide +kernel
theorem dX8_laysBest_94 : decode cX8_laysBest 94 = .ok (.return_, 1) := by decide +kernel
theorem dX8_grows_0 : decode cX8_grows 0 = .ok (.iconst 1, 1) := by decide +kernel
theorem dX8_grows_1 : decode cX8_grows 1 = .ok (.aload_n 0, 1) := by decide +kernel
theorem dX8_grows_2 : decode cX8_grows 2 = .ok (.getfield 7, 3) := by decide +kernel
theorem dX8_grows_5 : decode cX8_grows 5 = .ok (.iconst 0, 1) := by decide +kernel
theorem dX8_grows_6 : decode cX8_grows 6 = .ok (.iaload, 1) := by decide +kernel
theorem dX8_grows_7 : decode cX8_grows 7 = .ok (.ishl, 1) := by decide +kernel
theorem dX8_grows_8 : decode cX8_grows 8 = .ok (.iconst 1, 1) := by decide +kernel
theorem dX8_grows_9 : decode cX8_grows 9 = .ok (.isub, 1) := by decide +kernel
theorem dX8_grows_10 : decode cX8_grows 10 = .ok (.istore_n 1, 1) := by decide +kernel
theorem dX8_grows_11 : decode cX8_grows 11 = .ok (.aload_n 0, 1) := by decide +kernel
theorem dX8_grows_12 : decode cX8_grows 12 = .ok (.invokevirtual 83, 3) := by decide +kernel
theorem dX8_grows_15 : decode cX8_grows 15 = .ok (.iconst 0, 1) := by decide +kernel
theorem dX8_grows_16 : decode cX8_grows 16 = .ok (.istore_n 2, 1) := by decide +kernel
theorem dX8_grows_17 : decode cX8_grows 17 = .ok (.iload_n 2, 1) := by decide +kernel
theorem dX8_grows_18 : decode cX8_grows 18 = .ok (.aload_n 0, 1) := by decide +kernel
theorem dX8_grows_19 : decode cX8_grows 19 = .ok (.getfield 7, 3) := by decide +kernel
theorem dX8_grows_22 : decode cX8_grows 22 = .ok (.iconst 0, 1) := by decide +kernel
theorem dX8_grows_23 : decode cX8_grows 23 = .ok (.iaload, 1) := by decide +kernel
theorem dX8_grows_24 : decode cX8_grows 24 = .ok (.if_icmp .ge 217, 3) := by decide +kernel
theorem dX8_grows_27 : decode cX8_grows 27 = .ok (.bipush (-4), 2) := by decide +kernel
theorem dX8_grows_29 : decode cX8_grows 29 = .ok (.istore_n 3, 1) := by decide +kernel
theorem dX8_grows_30 : decode cX8_grows 30 = .ok (.iconst 0, 1) := by decide +kernel
theorem dX8_grows_31 : decode cX8_grows 31 = .ok (.istore 4, 2) := by decide +kernel
theorem dX8_grows_33 : decode cX8_grows 33 = .ok (.iconst 0, 1) := by decide +kernel
theorem dX8_grows_34 : decode cX8_grows 34 = .ok (.istore 5, 2) := by decide +kernel
theorem dX8_grows_36 : decode cX8_grows 36 = .ok (.iconst 0, 1) := by decide +kernel
theorem dX8_grows_37 : decode cX8_grows 37 = .ok (.istore 6, 2) := by decide +kernel
theorem dX8_grows_39 : decode cX8_grows 39 = .ok (.iload 6, 2) := by decide +kernel
theorem dX8_grows_41 : decode cX8_grows 41 = .ok (.aload_n 0, 1) := by decide +kernel
theorem dX8_grows_42 : decode cX8_grows 42 = .ok (.getfield 7, 3) := by decide +kernel
theorem dX8_grows_45 : decode cX8_grows 45 = .ok (.iconst 0, 1) := by decide +kernel
theorem dX8_grows_46 : decode cX8_grows 46 = .ok (.iaload, 1) := by decide +kernel
theorem dX8_grows_47 : decode cX8_grows 47 = .ok (.if_icmp .ge 163, 3) := by decide +kernel
theorem dX8_grows_50 : decode cX8_grows 50 = .ok (.iload_n 1, 1) := by decide +kernel
theorem dX8_grows_51 : decode cX8_grows 51 = .ok (.iload 6, 2) := by decide +kernel
theorem dX8_grows_53 : decode cX8_grows 53 = .ok (.invokestatic 75, 3) := by decide +kernel
theorem dX8_grows_56 : decode cX8_grows 56 = .ok (.ifCond .eq 148, 3) := by decide +kernel
theorem dX8_grows_59 : decode cX8_grows 59 = .ok (.aload_n 0, 1) := by decide +kernel
theorem dX8_grows_60 : decode cX8_grows 60 = .ok (.iload 6, 2) := by decide +kernel
theorem dX8_grows_62 : decode cX8_grows 62 = .ok (.invokevirtual 108, 3) := by decide +kernel
theorem dX8_grows_65 : decode cX8_grows 65 = .ok (.iload_n 1, 1) := by decide +kernel
theorem dX8_grows_66 : decode cX8_grows 66 = .ok (.iand, 1) := by decide +kernel
theorem dX8_grows_67 : decode cX8_grows 67 = .ok (.ifCond .ne 137, 3) := by decide +kernel
theorem dX8_grows_70 : decode cX8_grows 70 = .ok (.iconst 0, 1) := by decide +kernel
theorem dX8_grows_71 : decode cX8_grows 71 = .ok (.istore 7, 2) := by decide +kernel
theorem dX8_grows_73 : decode cX8_grows 73 = .ok (.iconst 0, 1) := by decide +kernel
theorem dX8_grows_74 : decode cX8_grows 74 = .ok (.istore 8, 2) := by decide +kernel
theorem dX8_grows_76 : decode cX8_grows 76 = .ok (.iconst 0, 1) := by decide +kernel
theorem dX8_grows_77 : decode cX8_grows 77 = .ok (.istore 9, 2) := by decide +kernel
theorem dX8_grows_79 : decode cX8_grows 79 = .ok (.iload 9, 2) := by decide +kernel
theorem dX8_grows_81 : decode cX8_grows 81 = .ok (.bipush 20, 2) := by decide +kernel
theorem dX8_grows_83 : decode cX8_grows 83 = .ok (.if_icmp .ge 85, 3) := by decide +kernel
theorem dX8_grows_86 : decode cX8_grows 86 = .ok (.aload_n 0, 1) := by decide +kernel
theorem dX8_grows_87 : decode cX8_grows 87 = .ok (.getfield 7, 3) := by decide +kernel
theorem dX8_grows_90 : decode cX8_grows 90 = .ok (.bipush 13, 2) := by decide +kernel
theorem dX8_grows_92 : decode cX8_grows 92 = .ok (.iload 6, 2) := by decide +kernel
theorem dX8_grows_94 : decode cX8_grows 94 = .ok (.iadd, 1) := by decide +kernel
theorem dX8_grows_95 : decode cX8_grows 95 = .ok (.iaload, 1) := by decide +kernel
theorem dX8_grows_96 : decode cX8_grows 96 = .ok (.aload_n 0, 1) := by decide +kernel
theorem dX8_grows_97 : decode cX8_grows 97 = .ok (.getfield 7, 3) := by decide +kernel
theorem dX8_grows_100 : decode cX8_grows 100 = .ok (.iconst 1, 1) := by decide +kernel
theorem dX8_grows_101 : decode cX8_grows 101 = .ok (.iaload, 1) := by decide +kernel
theorem dX8_grows_102 : decode cX8_grows 102 = .ok (.iconst (-1), 1) := by decide +kernel
theorem dX8_grows_103 : decode cX8_grows 103 = .ok (.ixor, 1) := by decide +kernel
theorem dX8_grows_104 : decode cX8_grows 104 = .ok (.iand, 1) := by decide +kernel
theorem dX8_grows_105 : decode cX8_grows 105 = .ok (.iload 9, 2) := by decide +kernel
theorem dX8_grows_107 : decode cX8_grows 107 = .ok (.invokestatic 75, 3) := by decide +kernel
theorem dX8_grows_110 : decode cX8_grows 110 = .ok (.istore 10, 2) := by decide +kernel
theorem dX8_grows_112 : decode cX8_grows 112 = .ok (.iload 7, 2) := by decide +kernel
theorem dX8_grows_114 : decode cX8_grows 114 = .ok (.iload 10, 2) := by decide +kernel
theorem dX8_grows_116 : decode cX8_grows 116 = .ok (.ifCond .eq 17, 3) := by decide +kernel
theorem dX8_grows_119 : decode cX8_grows 119 = .ok (.aload_n 0, 1) := by decide +kernel
theorem dX8_grows_120 : decode cX8_grows 120 = .ok (.getfield 45, 3) := by decide +kernel
theorem dX8_grows_123 : decode cX8_grows 123 = .ok (.iload 9, 2) := by decide +kernel
theorem dX8_grows_125 : decode cX8_grows 125 = .ok (.iaload, 1) := by decide +kernel
theorem dX8_grows_126 : decode cX8_grows 126 = .ok (.ifCond .ne 7, 3) := by decide +kernel
theorem dX8_grows_129 : decode cX8_grows 129 = .ok (.iconst 1, 1) := by decide +kernel
theorem dX8_grows_130 : decode cX8_grows 130 = .ok (.goto 4, 3) := by decide +kernel
theorem dX8_grows_133 : decode cX8_grows 133 = .ok (.iconst 0, 1) := by decide +kernel
theorem dX8_grows_134 : decode cX8_grows 134 = .ok (.iadd, 1) := by decide +kernel
theorem dX8_grows_135 : decode cX8_grows 135 = .ok (.istore 7, 2) := by decide +kernel
theorem dX8_grows_137 : decode cX8_grows 137 = .ok (.iload 8, 2) := by decide +kernel
theorem dX8_grows_139 : decode cX8_grows 139 = .ok (.iload 10, 2) := by decide +kernel
theorem dX8_grows_141 : decode cX8_grows 141 = .ok (.ifCond .eq 17, 3) := by decide +kernel
theorem dX8_grows_144 : decode cX8_grows 144 = .ok (.aload_n 0, 1) := by decide +kernel
theorem dX8_grows_145 : decode cX8_grows 145 = .ok (.getfield 45, 3) := by decide +kernel
theorem dX8_grows_148 : decode cX8_grows 148 = .ok (.iload 9, 2) := by decide +kernel
theorem dX8_grows_150 : decode cX8_grows 150 = .ok (.iaload, 1) := by decide +kernel
theorem dX8_grows_151 : decode cX8_grows 151 = .ok (.ifCond .le 7, 3) := by decide +kernel
theorem dX8_grows_154 : decode cX8_grows 154 = .ok (.iconst 1, 1) := by decide +kernel
theorem dX8_grows_155 : decode cX8_grows 155 = .ok (.goto 4, 3) := by decide +kernel
theorem dX8_grows_158 : decode cX8_grows 158 = .ok (.iconst 0, 1) := by decide +kernel
theorem dX8_grows_159 : decode cX8_grows 159 = .ok (.iadd, 1) := by decide +kernel
theorem dX8_grows_160 : decode cX8_grows 160 = .ok (.istore 8, 2) := by decide +kernel
theorem dX8_grows_162 : decode cX8_grows 162 = .ok (.iinc 9 1, 3) := by decide +kernel
theorem dX8_grows_165 : decode cX8_grows 165 = .ok (.goto (-86), 3) := by decide +kernel
theorem dX8_grows_168 : decode cX8_grows 168 = .ok (.iload_n 3, 1) := by decide +kernel
theorem dX8_grows_169 : decode cX8_grows 169 = .ok (.ifCond .lt 24, 3) := by decide +kernel
theorem dX8_grows_172 : decode cX8_grows 172 = .ok (.iload 7, 2) := by decide +kernel
theorem dX8_grows_174 : decode cX8_grows 174 = .ok (.iload 4, 2) := by decide +kernel
theorem dX8_grows_176 : decode cX8_grows 176 = .ok (.if_icmp .lt 17, 3) := by decide +kernel
theorem dX8_grows_179 : decode cX8_grows 179 = .ok (.iload 7, 2) := by decide +kernel
theorem dX8_grows_181 : decode cX8_grows 181 = .ok (.iload 4, 2) := by decide +kernel
theorem dX8_grows_183 : decode cX8_grows 183 = .ok (.if_icmp .ne 21, 3) := by decide +kernel
theorem dX8_grows_186 : decode cX8_grows 186 = .ok (.iload 8, 2) := by decide +kernel
theorem dX8_grows_188 : decode cX8_grows 188 = .ok (.iload 5, 2) := by decide +kernel
theorem dX8_grows_190 : decode cX8_grows 190 = .ok (.if_icmp .le 14, 3) := by decide +kernel
theorem dX8_grows_193 : decode cX8_grows 193 = .ok (.iload 6, 2) := by decide +kernel
theorem dX8_grows_195 : decode cX8_grows 195 = .ok (.istore_n 3, 1) := by decide +kernel
theorem dX8_grows_196 : decode cX8_grows 196 = .ok (.iload 7, 2) := by decide +kernel
theorem dX8_grows_198 : decode cX8_grows 198 = .ok (.istore 4, 2) := by decide +kernel
theorem dX8_grows_200 : decode cX8_grows 200 = .ok (.iload 8, 2) := by decide +kernel
theorem dX8_grows_202 : decode cX8_grows 202 = .ok (.istore 5, 2) := by decide +kernel
theorem dX8_grows_204 : decode cX8_grows 204 = .ok (.iinc 6 1, 3) := by decide +kernel
theorem dX8_grows_207 : decode cX8_grows 207 = .ok (.goto (-168), 3) := by decide +kernel
theorem dX8_grows_210 : decode cX8_grows 210 = .ok (.aload_n 0, 1) := by decide +kernel
theorem dX8_grows_211 : decode cX8_grows 211 = .ok (.getfield 42, 3) := by decide +kernel
theorem dX8_grows_214 : decode cX8_grows 214 = .ok (.iload_n 2, 1) := by decide +kernel
theorem dX8_grows_215 : decode cX8_grows 215 = .ok (.iload_n 3, 1) := by decide +kernel
theorem dX8_grows_216 : decode cX8_grows 216 = .ok (.iastore, 1) := by decide +kernel
theorem dX8_grows_217 : decode cX8_grows 217 = .ok (.iload_n 1, 1) := by decide +kernel
theorem dX8_grows_218 : decode cX8_grows 218 = .ok (.iconst 1, 1) := by decide +kernel
theorem dX8_grows_219 : decode cX8_grows 219 = .ok (.iload_n 3, 1) := by decide +kernel
theorem dX8_grows_220 : decode cX8_grows 220 = .ok (.ishl, 1) := by decide +kernel
theorem dX8_grows_221 : decode cX8_grows 221 = .ok (.iconst (-1), 1) := by decide +kernel
theorem dX8_grows_222 : decode cX8_grows 222 = .ok (.ixor, 1) := by decide +kernel
theorem dX8_grows_223 : decode cX8_grows 223 = .ok (.iand, 1) := by decide +kernel
theorem dX8_grows_224 : decode cX8_grows 224 = .ok (.istore_n 1, 1) := by decide +kernel
theorem dX8_grows_225 : decode cX8_grows 225 = .ok (.aload_n 0, 1) := by decide +kernel
theorem dX8_grows_226 : decode cX8_grows 226 = .ok (.iload_n 2, 1) := by decide +kernel
theorem dX8_grows_227 : decode cX8_grows 227 = .ok (.aload_n 0, 1) := by decide +kernel
theorem dX8_grows_228 : decode cX8_grows 228 = .ok (.iload_n 2, 1) := by decide +kernel
theorem dX8_grows_229 : decode cX8_grows 229 = .ok (.invokevirtual 86, 3) := by decide +kernel
theorem dX8_grows_232 : decode cX8_grows 232 = .ok (.invokevirtual 89, 3) := by decide +kernel
theorem dX8_grows_235 : decode cX8_grows 235 = .ok (.iinc 2 1, 3) := by decide +kernel
theorem dX8_grows_238 : decode cX8_grows 238 = .ok (.goto (-221), 3) := by decide +kernel
theorem dX8_grows_241 : decode cX8_grows 241 = .ok (.return_, 1) := by decide +kernel
theorem dX8_best_0 : decode cX8_best 0 = .ok (.iload_n 1, 1) := by decide +kernel
theorem dX8_best_1 : decode cX8_best 1 = .ok (.i2l, 1) := by decide +kernel
theorem dX8_best_2 : decode cX8_best 2 = .ok (.lconst 0, 1) := by decide +kernel
theorem dX8_best_3 : decode cX8_best 3 = .ok (.ldc2_w 146, 3) := by decide +kernel
theorem dX8_best_6 : decode cX8_best 6 = .ok (.invokestatic 71, 3) := by decide +kernel
theorem dX8_best_9 : decode cX8_best 9 = .ok (.ifCond .ne 5, 3) := by decide +kernel
theorem dX8_best_12 : decode cX8_best 12 = .ok (.iconst (-1), 1) := by decide +kernel
theorem dX8_best_13 : decode cX8_best 13 = .ok (.ireturn, 1) := by decide +kernel
theorem dX8_best_14 : decode cX8_best 14 = .ok (.iload_n 1, 1) := by decide +kernel
theorem dX8_best_15 : decode cX8_best 15 = .ok (.iconst 3, 1) := by decide +kernel
theorem dX8_best_16 : decode cX8_best 16 = .ok (.if_icmp .ge 35, 3) := by decide +kernel
theorem dX8_best_19 : decode cX8_best 19 = .ok (.aload_n 0, 1) := by decide +kernel
theorem dX8_best_20 : decode cX8_best 20 = .ok (.invokevirtual 148, 3) := by decide +kernel
theorem dX8_best_23 : decode cX8_best 23 = .ok (.iload_n 1, 1) := by decide +kernel
theorem dX8_best_24 : decode cX8_best 24 = .ok (.ifCond .ne 10, 3) := by decide +kernel
theorem dX8_best_27 : decode cX8_best 27 = .ok (.aload_n 0, 1) := by decide +kernel
theorem dX8_best_28 : decode cX8_best 28 = .ok (.getfield 131, 3) := by decide +kernel
theorem dX8_best_31 : decode cX8_best 31 = .ok (.goto 19, 3) := by decide +kernel
theorem dX8_best_34 : decode cX8_best 34 = .ok (.iload_n 1, 1) := by decide +kernel
theorem dX8_best_35 : decode cX8_best 35 = .ok (.iconst 1, 1) := by decide +kernel
theorem dX8_best_36 : decode cX8_best 36 = .ok (.if_icmp .ne 10, 3) := by decide +kernel
theorem dX8_best_39 : decode cX8_best 39 = .ok (.aload_n 0, 1) := by decide +kernel
theorem dX8_best_40 : decode cX8_best 40 = .ok (.getfield 137, 3) := by decide +kernel
theorem dX8_best_43 : decode cX8_best 43 = .ok (.goto 7, 3) := by decide +kernel
theorem dX8_best_46 : decode cX8_best 46 = .ok (.aload_n 0, 1) := by decide +kernel
theorem dX8_best_47 : decode cX8_best 47 = .ok (.getfield 140, 3) := by decide +kernel
theorem dX8_best_50 : decode cX8_best 50 = .ok (.ireturn, 1) := by decide +kernel
theorem dX8_best_51 : decode cX8_best 51 = .ok (.aload_n 0, 1) := by decide +kernel
theorem dX8_best_52 : decode cX8_best 52 = .ok (.invokevirtual 151, 3) := by decide +kernel
theorem dX8_best_55 : decode cX8_best 55 = .ok (.iload_n 1, 1) := by decide +kernel
theorem dX8_best_56 : decode cX8_best 56 = .ok (.iconst 3, 1) := by decide +kernel
theorem dX8_best_57 : decode cX8_best 57 = .ok (.if_icmp .ne 10, 3) := by decide +kernel
theorem dX8_best_60 : decode cX8_best 60 = .ok (.aload_n 0, 1) := by decide +kernel
theorem dX8_best_61 : decode cX8_best 61 = .ok (.invokevirtual 114, 3) := by decide +kernel
theorem dX8_best_64 : decode cX8_best 64 = .ok (.goto 19, 3) := by decide +kernel
theorem dX8_best_67 : decode cX8_best 67 = .ok (.iload_n 1, 1) := by decide +kernel
theorem dX8_best_68 : decode cX8_best 68 = .ok (.iconst 4, 1) := by decide +kernel
theorem dX8_best_69 : decode cX8_best 69 = .ok (.if_icmp .ne 10, 3) := by decide +kernel
theorem dX8_best_72 : decode cX8_best 72 = .ok (.aload_n 0, 1) := by decide +kernel
theorem dX8_best_73 : decode cX8_best 73 = .ok (.invokevirtual 118, 3) := by decide +kernel
theorem dX8_best_76 : decode cX8_best 76 = .ok (.goto 7, 3) := by decide +kernel
theorem dX8_best_79 : decode cX8_best 79 = .ok (.aload_n 0, 1) := by decide +kernel
theorem dX8_best_80 : decode cX8_best 80 = .ok (.invokevirtual 121, 3) := by decide +kernel
theorem dX8_best_83 : decode cX8_best 83 = .ok (.ireturn, 1) := by decide +kernel
theorem dX8_many_0 : decode cX8_many 0 = .ok (.iload_n 1, 1) := by decide +kernel
theorem dX8_many_1 : decode cX8_many 1 = .ok (.i2l, 1) := by decide +kernel
theorem dX8_many_2 : decode cX8_many 2 = .ok (.lconst 0, 1) := by decide +kernel
theorem dX8_many_3 : decode cX8_many 3 = .ok (.lconst 1, 1) := by decide +kernel
theorem dX8_many_4 : decode cX8_many 4 = .ok (.invokestatic 71, 3) := by decide +kernel
theorem dX8_many_7 : decode cX8_many 7 = .ok (.ifCond .ne 5, 3) := by decide +kernel
theorem dX8_many_10 : decode cX8_many 10 = .ok (.iconst (-1), 1) := by decide +kernel
theorem dX8_many_11 : decode cX8_many 11 = .ok (.ireturn, 1) := by decide +kernel
theorem dX8_many_12 : decode cX8_many 12 = .ok (.iconst 0, 1) := by decide +kernel
theorem dX8_many_13 : decode cX8_many 13 = .ok (.istore_n 2, 1) := by decide +kernel
theorem dX8_many_14 : decode cX8_many 14 = .ok (.aload_n 0, 1) := by decide +kernel
theorem dX8_many_15 : decode cX8_many 15 = .ok (.invokevirtual 134, 3) := by decide +kernel
theorem dX8_many_18 : decode cX8_many 18 = .ok (.iconst 1, 1) := by decide +kernel
theorem dX8_many_19 : decode cX8_many 19 = .ok (.istore_n 3, 1) := by decide +kernel
theorem dX8_many_20 : decode cX8_many 20 = .ok (.iload_n 3, 1) := by decide +kernel
theorem dX8_many_21 : decode cX8_many 21 = .ok (.ifCond .eq 64, 3) := by decide +kernel
theorem dX8_many_24 : decode cX8_many 24 = .ok (.aload_n 0, 1) := by decide +kernel
theorem dX8_many_25 : decode cX8_many 25 = .ok (.invokevirtual 124, 3) := by decide +kernel
theorem dX8_many_28 : decode cX8_many 28 = .ok (.istore 4, 2) := by decide +kernel
theorem dX8_many_30 : decode cX8_many 30 = .ok (.iload 4, 2) := by decide +kernel
theorem dX8_many_32 : decode cX8_many 32 = .ok (.ifCond .eq 32, 3) := by decide +kernel
theorem dX8_many_35 : decode cX8_many 35 = .ok (.iload_n 1, 1) := by decide +kernel
theorem dX8_many_36 : decode cX8_many 36 = .ok (.iconst 1, 1) := by decide +kernel
theorem dX8_many_37 : decode cX8_many 37 = .ok (.if_icmp .ne 27, 3) := by decide +kernel
theorem dX8_many_40 : decode cX8_many 40 = .ok (.aload_n 0, 1) := by decide +kernel
theorem dX8_many_41 : decode cX8_many 41 = .ok (.invokevirtual 99, 3) := by decide +kernel
theorem dX8_many_44 : decode cX8_many 44 = .ok (.aload_n 0, 1) := by decide +kernel
theorem dX8_many_45 : decode cX8_many 45 = .ok (.invokevirtual 118, 3) := by decide +kernel
theorem dX8_many_48 : decode cX8_many 48 = .ok (.aload_n 0, 1) := by decide +kernel
theorem dX8_many_49 : decode cX8_many 49 = .ok (.getfield 7, 3) := by decide +kernel
theorem dX8_many_52 : decode cX8_many 52 = .ok (.iconst 3, 1) := by decide +kernel
theorem dX8_many_53 : decode cX8_many 53 = .ok (.iaload, 1) := by decide +kernel
theorem dX8_many_54 : decode cX8_many 54 = .ok (.if_icmp .gt 7, 3) := by decide +kernel
theorem dX8_many_57 : decode cX8_many 57 = .ok (.iconst 1, 1) := by decide +kernel
theorem dX8_many_58 : decode cX8_many 58 = .ok (.goto 4, 3) := by decide +kernel
theorem dX8_many_61 : decode cX8_many 61 = .ok (.iconst 0, 1) := by decide +kernel
theorem dX8_many_62 : decode cX8_many 62 = .ok (.istore 4, 2) := by decide +kernel
theorem dX8_many_64 : decode cX8_many 64 = .ok (.iload_n 2, 1) := by decide +kernel
theorem dX8_many_65 : decode cX8_many 65 = .ok (.iload 4, 2) := by decide +kernel
theorem dX8_many_67 : decode cX8_many 67 = .ok (.ifCond .eq 7, 3) := by decide +kernel
theorem dX8_many_70 : decode cX8_many 70 = .ok (.iconst 1, 1) := by decide +kernel
theorem dX8_many_71 : decode cX8_many 71 = .ok (.goto 4, 3) := by decide +kernel
theorem dX8_many_74 : decode cX8_many 74 = .ok (.iconst 0, 1) := by decide +kernel
theorem dX8_many_75 : decode cX8_many 75 = .ok (.iadd, 1) := by decide +kernel
theorem dX8_many_76 : decode cX8_many 76 = .ok (.istore_n 2, 1) := by decide +kernel
theorem dX8_many_77 : decode cX8_many 77 = .ok (.aload_n 0, 1) := by decide +kernel
theorem dX8_many_78 : decode cX8_many 78 = .ok (.invokevirtual 143, 3) := by decide +kernel
theorem dX8_many_81 : decode cX8_many 81 = .ok (.istore_n 3, 1) := by decide +kernel
theorem dX8_many_82 : decode cX8_many 82 = .ok (.goto (-62), 3) := by decide +kernel
theorem dX8_many_85 : decode cX8_many 85 = .ok (.iload_n 2, 1) := by decide +kernel
theorem dX8_many_86 : decode cX8_many 86 = .ok (.ireturn, 1) := by decide +kernel
theorem dX8_fit_0 : decode cX8_fit 0 = .ok (.iload_n 1, 1) := by decide +kernel
theorem dX8_fit_1 : decode cX8_fit 1 = .ok (.ifCond .ge 5, 3) := by decide +kernel
theorem dX8_fit_4 : decode cX8_fit 4 = .ok (.iconst (-1), 1) := by decide +kernel
theorem dX8_fit_5 : decode cX8_fit 5 = .ok (.ireturn, 1) := by decide +kernel
theorem dX8_fit_6 : decode cX8_fit 6 = .ok (.iload_n 1, 1) := by decide +kernel
theorem dX8_fit_7 : decode cX8_fit 7 = .ok (.istore_n 2, 1) := by decide +kernel
theorem dX8_fit_8 : decode cX8_fit 8 = .ok (.aload_n 0, 1) := by decide +kernel
theorem dX8_fit_9 : decode cX8_fit 9 = .ok (.invokevirtual 134, 3) := by decide +kernel
theorem dX8_fit_12 : decode cX8_fit 12 = .ok (.iconst 1, 1) := by decide +kernel
theorem dX8_fit_13 : decode cX8_fit 13 = .ok (.istore_n 3, 1) := by decide +kernel
theorem dX8_fit_14 : decode cX8_fit 14 = .ok (.iload_n 3, 1) := by decide +kernel
theorem dX8_fit_15 : decode cX8_fit 15 = .ok (.ifCond .eq 47, 3) := by decide +kernel
theorem dX8_fit_18 : decode cX8_fit 18 = .ok (.aload_n 0, 1) := by decide +kernel
theorem dX8_fit_19 : decode cX8_fit 19 = .ok (.invokevirtual 124, 3) := by decide +kernel
theorem dX8_fit_22 : decode cX8_fit 22 = .ok (.ifCond .eq 32, 3) := by decide +kernel
theorem dX8_fit_25 : decode cX8_fit 25 = .ok (.aload_n 0, 1) := by decide +kernel
theorem dX8_fit_26 : decode cX8_fit 26 = .ok (.invokevirtual 99, 3) := by decide +kernel
theorem dX8_fit_29 : decode cX8_fit 29 = .ok (.aload_n 0, 1) := by decide +kernel
theorem dX8_fit_30 : decode cX8_fit 30 = .ok (.invokevirtual 118, 3) := by decide +kernel
theorem dX8_fit_33 : decode cX8_fit 33 = .ok (.aload_n 0, 1) := by decide +kernel
theorem dX8_fit_34 : decode cX8_fit 34 = .ok (.getfield 7, 3) := by decide +kernel
theorem dX8_fit_37 : decode cX8_fit 37 = .ok (.iconst 3, 1) := by decide +kernel
theorem dX8_fit_38 : decode cX8_fit 38 = .ok (.iaload, 1) := by decide +kernel
theorem dX8_fit_39 : decode cX8_fit 39 = .ok (.if_icmp .gt 15, 3) := by decide +kernel
theorem dX8_fit_42 : decode cX8_fit 42 = .ok (.iload_n 2, 1) := by decide +kernel
theorem dX8_fit_43 : decode cX8_fit 43 = .ok (.ifCond .ne 8, 3) := by decide +kernel
theorem dX8_fit_46 : decode cX8_fit 46 = .ok (.aload_n 0, 1) := by decide +kernel
theorem dX8_fit_47 : decode cX8_fit 47 = .ok (.invokevirtual 114, 3) := by decide +kernel
theorem dX8_fit_50 : decode cX8_fit 50 = .ok (.ireturn, 1) := by decide +kernel
theorem dX8_fit_51 : decode cX8_fit 51 = .ok (.iinc 2 (-1), 3) := by decide +kernel
theorem dX8_fit_54 : decode cX8_fit 54 = .ok (.aload_n 0, 1) := by decide +kernel
theorem dX8_fit_55 : decode cX8_fit 55 = .ok (.invokevirtual 143, 3) := by decide +kernel
theorem dX8_fit_58 : decode cX8_fit 58 = .ok (.istore_n 3, 1) := by decide +kernel
theorem dX8_fit_59 : decode cX8_fit 59 = .ok (.goto (-45), 3) := by decide +kernel
theorem dX8_fit_62 : decode cX8_fit 62 = .ok (.bipush (-4), 2) := by decide +kernel
theorem dX8_fit_64 : decode cX8_fit 64 = .ok (.ireturn, 1) := by decide +kernel
theorem dX8_kept_0 : decode cX8_kept 0 = .ok (.iload_n 1, 1) := by decide +kernel
theorem dX8_kept_1 : decode cX8_kept 1 = .ok (.i2l, 1) := by decide +kernel
theorem dX8_kept_2 : decode cX8_kept 2 = .ok (.lconst 0, 1) := by decide +kernel
theorem dX8_kept_3 : decode cX8_kept 3 = .ok (.ldc2_w 102, 3) := by decide +kernel
theorem dX8_kept_6 : decode cX8_kept 6 = .ok (.invokestatic 71, 3) := by decide +kernel
theorem dX8_kept_9 : decode cX8_kept 9 = .ok (.ifCond .eq 25, 3) := by decide +kernel
theorem dX8_kept_12 : decode cX8_kept 12 = .ok (.iload_n 2, 1) := by decide +kernel
theorem dX8_kept_13 : decode cX8_kept 13 = .ok (.i2l, 1) := by decide +kernel
theorem dX8_kept_14 : decode cX8_kept 14 = .ok (.lconst 0, 1) := by decide +kernel
theorem dX8_kept_15 : decode cX8_kept 15 = .ok (.ldc2_w 154, 3) := by decide +kernel
theorem dX8_kept_18 : decode cX8_kept 18 = .ok (.invokestatic 71, 3) := by decide +kernel
theorem dX8_kept_21 : decode cX8_kept 21 = .ok (.ifCond .eq 13, 3) := by decide +kernel
theorem dX8_kept_24 : decode cX8_kept 24 = .ok (.iload_n 3, 1) := by decide +kernel
theorem dX8_kept_25 : decode cX8_kept 25 = .ok (.i2l, 1) := by decide +kernel
theorem dX8_kept_26 : decode cX8_kept 26 = .ok (.lconst 0, 1) := by decide +kernel
theorem dX8_kept_27 : decode cX8_kept 27 = .ok (.lconst 1, 1) := by decide +kernel
theorem dX8_kept_28 : decode cX8_kept 28 = .ok (.invokestatic 71, 3) := by decide +kernel
theorem dX8_kept_31 : decode cX8_kept 31 = .ok (.ifCond .ne 5, 3) := by decide +kernel
theorem dX8_kept_34 : decode cX8_kept 34 = .ok (.iconst (-1), 1) := by decide +kernel
theorem dX8_kept_35 : decode cX8_kept 35 = .ok (.ireturn, 1) := by decide +kernel
theorem dX8_kept_36 : decode cX8_kept 36 = .ok (.aload_n 0, 1) := by decide +kernel
theorem dX8_kept_37 : decode cX8_kept 37 = .ok (.invokevirtual 96, 3) := by decide +kernel
theorem dX8_kept_40 : decode cX8_kept 40 = .ok (.iconst 0, 1) := by decide +kernel
theorem dX8_kept_41 : decode cX8_kept 41 = .ok (.istore 4, 2) := by decide +kernel
theorem dX8_kept_43 : decode cX8_kept 43 = .ok (.iconst 1, 1) := by decide +kernel
theorem dX8_kept_44 : decode cX8_kept 44 = .ok (.istore 5, 2) := by decide +kernel
theorem dX8_kept_46 : decode cX8_kept 46 = .ok (.iconst 0, 1) := by decide +kernel
theorem dX8_kept_47 : decode cX8_kept 47 = .ok (.istore 6, 2) := by decide +kernel
theorem dX8_kept_49 : decode cX8_kept 49 = .ok (.iload 6, 2) := by decide +kernel
theorem dX8_kept_51 : decode cX8_kept 51 = .ok (.aload_n 0, 1) := by decide +kernel
theorem dX8_kept_52 : decode cX8_kept 52 = .ok (.getfield 7, 3) := by decide +kernel
theorem dX8_kept_55 : decode cX8_kept 55 = .ok (.iconst 0, 1) := by decide +kernel
theorem dX8_kept_56 : decode cX8_kept 56 = .ok (.iaload, 1) := by decide +kernel
theorem dX8_kept_57 : decode cX8_kept 57 = .ok (.if_icmp .ge 16, 3) := by decide +kernel
theorem dX8_kept_60 : decode cX8_kept 60 = .ok (.iload 5, 2) := by decide +kernel
theorem dX8_kept_62 : decode cX8_kept 62 = .ok (.bipush 10, 2) := by decide +kernel
theorem dX8_kept_64 : decode cX8_kept 64 = .ok (.imul, 1) := by decide +kernel
theorem dX8_kept_65 : decode cX8_kept 65 = .ok (.istore 5, 2) := by decide +kernel
theorem dX8_kept_67 : decode cX8_kept 67 = .ok (.iinc 6 1, 3) := by decide +kernel
theorem dX8_kept_70 : decode cX8_kept 70 = .ok (.goto (-21), 3) := by decide +kernel
theorem dX8_kept_73 : decode cX8_kept 73 = .ok (.iconst 0, 1) := by decide +kernel
theorem dX8_kept_74 : decode cX8_kept 74 = .ok (.istore 6, 2) := by decide +kernel
theorem dX8_kept_76 : decode cX8_kept 76 = .ok (.iload 6, 2) := by decide +kernel
theorem dX8_kept_78 : decode cX8_kept 78 = .ok (.iconst 1, 1) := by decide +kernel
theorem dX8_kept_79 : decode cX8_kept 79 = .ok (.aload_n 0, 1) := by decide +kernel
theorem dX8_kept_80 : decode cX8_kept 80 = .ok (.getfield 7, 3) := by decide +kernel
theorem dX8_kept_83 : decode cX8_kept 83 = .ok (.iconst 0, 1) := by decide +kernel
theorem dX8_kept_84 : decode cX8_kept 84 = .ok (.iaload, 1) := by decide +kernel
theorem dX8_kept_85 : decode cX8_kept 85 = .ok (.ishl, 1) := by decide +kernel
theorem dX8_kept_86 : decode cX8_kept 86 = .ok (.if_icmp .ge 109, 3) := by decide +kernel
theorem dX8_kept_89 : decode cX8_kept 89 = .ok (.iconst 1, 1) := by decide +kernel
theorem dX8_kept_90 : decode cX8_kept 90 = .ok (.istore 7, 2) := by decide +kernel
theorem dX8_kept_92 : decode cX8_kept 92 = .ok (.aload_n 0, 1) := by decide +kernel
theorem dX8_kept_93 : decode cX8_kept 93 = .ok (.invokevirtual 83, 3) := by decide +kernel
theorem dX8_kept_96 : decode cX8_kept 96 = .ok (.iconst 0, 1) := by decide +kernel
theorem dX8_kept_97 : decode cX8_kept 97 = .ok (.istore 8, 2) := by decide +kernel
theorem dX8_kept_99 : decode cX8_kept 99 = .ok (.iload 8, 2) := by decide +kernel
theorem dX8_kept_101 : decode cX8_kept 101 = .ok (.aload_n 0, 1) := by decide +kernel
theorem dX8_kept_102 : decode cX8_kept 102 = .ok (.getfield 7, 3) := by decide +kernel
theorem dX8_kept_105 : decode cX8_kept 105 = .ok (.iconst 0, 1) := by decide +kernel
theorem dX8_kept_106 : decode cX8_kept 106 = .ok (.iaload, 1) := by decide +kernel
theorem dX8_kept_107 : decode cX8_kept 107 = .ok (.if_icmp .ge 62, 3) := by decide +kernel
theorem dX8_kept_110 : decode cX8_kept 110 = .ok (.iload 7, 2) := by decide +kernel
theorem dX8_kept_112 : decode cX8_kept 112 = .ok (.iload 6, 2) := by decide +kernel
theorem dX8_kept_114 : decode cX8_kept 114 = .ok (.iload 8, 2) := by decide +kernel
theorem dX8_kept_116 : decode cX8_kept 116 = .ok (.invokestatic 75, 3) := by decide +kernel
theorem dX8_kept_119 : decode cX8_kept 119 = .ok (.ifCond .eq 10, 3) := by decide +kernel
theorem dX8_kept_122 : decode cX8_kept 122 = .ok (.bipush 10, 2) := by decide +kernel
theorem dX8_kept_124 : decode cX8_kept 124 = .ok (.iload_n 2, 1) := by decide +kernel
theorem dX8_kept_125 : decode cX8_kept 125 = .ok (.isub, 1) := by decide +kernel
theorem dX8_kept_126 : decode cX8_kept 126 = .ok (.goto 4, 3) := by decide +kernel
theorem dX8_kept_129 : decode cX8_kept 129 = .ok (.iload_n 2, 1) := by decide +kernel
theorem dX8_kept_130 : decode cX8_kept 130 = .ok (.imul, 1) := by decide +kernel
theorem dX8_kept_131 : decode cX8_kept 131 = .ok (.istore 7, 2) := by decide +kernel
theorem dX8_kept_133 : decode cX8_kept 133 = .ok (.aload_n 0, 1) := by decide +kernel
theorem dX8_kept_134 : decode cX8_kept 134 = .ok (.iload 8, 2) := by decide +kernel
theorem dX8_kept_136 : decode cX8_kept 136 = .ok (.iload 6, 2) := by decide +kernel
theorem dX8_kept_138 : decode cX8_kept 138 = .ok (.iload 8, 2) := by decide +kernel
theorem dX8_kept_140 : decode cX8_kept 140 = .ok (.invokestatic 75, 3) := by decide +kernel
theorem dX8_kept_143 : decode cX8_kept 143 = .ok (.ifCond .eq 16, 3) := by decide +kernel
theorem dX8_kept_146 : decode cX8_kept 146 = .ok (.aload_n 0, 1) := by decide +kernel
theorem dX8_kept_147 : decode cX8_kept 147 = .ok (.iload 8, 2) := by decide +kernel
theorem dX8_kept_149 : decode cX8_kept 149 = .ok (.invokevirtual 86, 3) := by decide +kernel
theorem dX8_kept_152 : decode cX8_kept 152 = .ok (.iconst 1, 1) := by decide +kernel
theorem dX8_kept_153 : decode cX8_kept 153 = .ok (.iload_n 1, 1) := by decide +kernel
theorem dX8_kept_154 : decode cX8_kept 154 = .ok (.ishl, 1) := by decide +kernel
theorem dX8_kept_155 : decode cX8_kept 155 = .ok (.iand, 1) := by decide +kernel
theorem dX8_kept_156 : decode cX8_kept 156 = .ok (.goto 4, 3) := by decide +kernel
theorem dX8_kept_159 : decode cX8_kept 159 = .ok (.iconst 0, 1) := by decide +kernel
theorem dX8_kept_160 : decode cX8_kept 160 = .ok (.invokevirtual 89, 3) := by decide +kernel
theorem dX8_kept_163 : decode cX8_kept 163 = .ok (.iinc 8 1, 3) := by decide +kernel
theorem dX8_kept_166 : decode cX8_kept 166 = .ok (.goto (-67), 3) := by decide +kernel
theorem dX8_kept_169 : decode cX8_kept 169 = .ok (.iload 4, 2) := by decide +kernel
theorem dX8_kept_171 : decode cX8_kept 171 = .ok (.aload_n 0, 1) := by decide +kernel
theorem dX8_kept_172 : decode cX8_kept 172 = .ok (.getfield 45, 3) := by decide +kernel
theorem dX8_kept_175 : decode cX8_kept 175 = .ok (.iload_n 1, 1) := by decide +kernel
theorem dX8_kept_176 : decode cX8_kept 176 = .ok (.iaload, 1) := by decide +kernel
theorem dX8_kept_177 : decode cX8_kept 177 = .ok (.ifCond .le 8, 3) := by decide +kernel
theorem dX8_kept_180 : decode cX8_kept 180 = .ok (.iload 7, 2) := by decide +kernel
theorem dX8_kept_182 : decode cX8_kept 182 = .ok (.goto 4, 3) := by decide +kernel
theorem dX8_kept_185 : decode cX8_kept 185 = .ok (.iconst 0, 1) := by decide +kernel
theorem dX8_kept_186 : decode cX8_kept 186 = .ok (.iadd, 1) := by decide +kernel
theorem dX8_kept_187 : decode cX8_kept 187 = .ok (.istore 4, 2) := by decide +kernel
theorem dX8_kept_189 : decode cX8_kept 189 = .ok (.iinc 6 1, 3) := by decide +kernel
theorem dX8_kept_192 : decode cX8_kept 192 = .ok (.goto (-116), 3) := by decide +kernel
theorem dX8_kept_195 : decode cX8_kept 195 = .ok (.iload 4, 2) := by decide +kernel
theorem dX8_kept_197 : decode cX8_kept 197 = .ok (.istore 6, 2) := by decide +kernel
theorem dX8_kept_199 : decode cX8_kept 199 = .ok (.iload 5, 2) := by decide +kernel
theorem dX8_kept_201 : decode cX8_kept 201 = .ok (.istore 7, 2) := by decide +kernel
theorem dX8_kept_203 : decode cX8_kept 203 = .ok (.iload 7, 2) := by decide +kernel
theorem dX8_kept_205 : decode cX8_kept 205 = .ok (.ifCond .eq 21, 3) := by decide +kernel
theorem dX8_kept_208 : decode cX8_kept 208 = .ok (.iload 6, 2) := by decide +kernel
theorem dX8_kept_210 : decode cX8_kept 210 = .ok (.iload 7, 2) := by decide +kernel
theorem dX8_kept_212 : decode cX8_kept 212 = .ok (.irem, 1) := by decide +kernel
theorem dX8_kept_213 : decode cX8_kept 213 = .ok (.istore 8, 2) := by decide +kernel
theorem dX8_kept_215 : decode cX8_kept 215 = .ok (.iload 7, 2) := by decide +kernel
theorem dX8_kept_217 : decode cX8_kept 217 = .ok (.istore 6, 2) := by decide +kernel
theorem dX8_kept_219 : decode cX8_kept 219 = .ok (.iload 8, 2) := by decide +kernel
theorem dX8_kept_221 : decode cX8_kept 221 = .ok (.istore 7, 2) := by decide +kernel
theorem dX8_kept_223 : decode cX8_kept 223 = .ok (.goto (-20), 3) := by decide +kernel
theorem dX8_kept_226 : decode cX8_kept 226 = .ok (.iload_n 3, 1) := by decide +kernel
theorem dX8_kept_227 : decode cX8_kept 227 = .ok (.ifCond .ne 11, 3) := by decide +kernel
theorem dX8_kept_230 : decode cX8_kept 230 = .ok (.iload 4, 2) := by decide +kernel
theorem dX8_kept_232 : decode cX8_kept 232 = .ok (.iload 6, 2) := by decide +kernel
theorem dX8_kept_234 : decode cX8_kept 234 = .ok (.idiv, 1) := by decide +kernel
theorem dX8_kept_235 : decode cX8_kept 235 = .ok (.goto 8, 3) := by decide +kernel
theorem dX8_kept_238 : decode cX8_kept 238 = .ok (.iload 5, 2) := by decide +kernel
theorem dX8_kept_240 : decode cX8_kept 240 = .ok (.iload 6, 2) := by decide +kernel
theorem dX8_kept_242 : decode cX8_kept 242 = .ok (.idiv, 1) := by decide +kernel
theorem dX8_kept_243 : decode cX8_kept 243 = .ok (.ireturn, 1) := by decide +kernel
theorem dX8_writes_0 : decode cX8_writes 0 = .ok (.aload_n 0, 1) := by decide +kernel
theorem dX8_writes_1 : decode cX8_writes 1 = .ok (.getfield 63, 3) := by decide +kernel
theorem dX8_writes_4 : decode cX8_writes 4 = .ok (.aload_n 0, 1) := by decide +kernel
theorem dX8_writes_5 : decode cX8_writes 5 = .ok (.getfield 156, 3) := by decide +kernel
theorem dX8_writes_8 : decode cX8_writes 8 = .ok (.iload_n 1, 1) := by decide +kernel
theorem dX8_writes_9 : decode cX8_writes 9 = .ok (.iastore, 1) := by decide +kernel
theorem dX8_writes_10 : decode cX8_writes 10 = .ok (.aload_n 0, 1) := by decide +kernel
theorem dX8_writes_11 : decode cX8_writes 11 = .ok (.dup, 1) := by decide +kernel
theorem dX8_writes_12 : decode cX8_writes 12 = .ok (.getfield 156, 3) := by decide +kernel
theorem dX8_writes_15 : decode cX8_writes 15 = .ok (.iconst 1, 1) := by decide +kernel
theorem dX8_writes_16 : decode cX8_writes 16 = .ok (.iadd, 1) := by decide +kernel
theorem dX8_writes_17 : decode cX8_writes 17 = .ok (.putfield 156, 3) := by decide +kernel
theorem dX8_writes_20 : decode cX8_writes 20 = .ok (.return_, 1) := by decide +kernel
theorem dX8_writesNumber_0 : decode cX8_writesNumber 0 = .ok (.iload_n 1, 1) := by decide +kernel
theorem dX8_writesNumber_1 : decode cX8_writesNumber 1 = .ok (.bipush 9, 2) := by decide +kernel
theorem dX8_writesNumber_3 : decode cX8_writesNumber 3 = .ok (.if_icmp .le 14, 3) := by decide +kernel
theorem dX8_writesNumber_6 : decode cX8_writesNumber 6 = .ok (.aload_n 0, 1) := by decide +kernel
theorem dX8_writesNumber_7 : decode cX8_writesNumber 7 = .ok (.bipush 48, 2) := by decide +kernel
theorem dX8_writesNumber_9 : decode cX8_writesNumber 9 = .ok (.iload_n 1, 1) := by decide +kernel
theorem dX8_writesNumber_10 : decode cX8_writesNumber 10 = .ok (.bipush 10, 2) := by decide +kernel
theorem dX8_writesNumber_12 : decode cX8_writesNumber 12 = .ok (.idiv, 1) := by decide +kernel
theorem dX8_writesNumber_13 : decode cX8_writesNumber 13 = .ok (.iadd, 1) := by decide +kernel
theorem dX8_writesNumber_14 : decode cX8_writesNumber 14 = .ok (.invokevirtual 159, 3) := by decide +kernel
theorem dX8_writesNumber_17 : decode cX8_writesNumber 17 = .ok (.aload_n 0, 1) := by decide +kernel
theorem dX8_writesNumber_18 : decode cX8_writesNumber 18 = .ok (.bipush 48, 2) := by decide +kernel
theorem dX8_writesNumber_20 : decode cX8_writesNumber 20 = .ok (.iload_n 1, 1) := by decide +kernel
theorem dX8_writesNumber_21 : decode cX8_writesNumber 21 = .ok (.bipush 10, 2) := by decide +kernel
theorem dX8_writesNumber_23 : decode cX8_writesNumber 23 = .ok (.irem, 1) := by decide +kernel
theorem dX8_writesNumber_24 : decode cX8_writesNumber 24 = .ok (.iadd, 1) := by decide +kernel
theorem dX8_writesNumber_25 : decode cX8_writesNumber 25 = .ok (.invokevirtual 159, 3) := by decide +kernel
theorem dX8_writesNumber_28 : decode cX8_writesNumber 28 = .ok (.return_, 1) := by decide +kernel
theorem dX8_writesNote_0 : decode cX8_writesNote 0 = .ok (.aload_n 0, 1) := by decide +kernel
theorem dX8_writesNote_1 : decode cX8_writesNote 1 = .ok (.iconst 0, 1) := by decide +kernel
theorem dX8_writesNote_2 : decode cX8_writesNote 2 = .ok (.putfield 156, 3) := by decide +kernel
theorem dX8_writesNote_5 : decode cX8_writesNote 5 = .ok (.aload_n 0, 1) := by decide +kernel
theorem dX8_writesNote_6 : decode cX8_writesNote 6 = .ok (.invokevirtual 96, 3) := by decide +kernel
theorem dX8_writesNote_9 : decode cX8_writesNote 9 = .ok (.aload_n 0, 1) := by decide +kernel
theorem dX8_writesNote_10 : decode cX8_writesNote 10 = .ok (.invokevirtual 99, 3) := by decide +kernel
theorem dX8_writesNote_13 : decode cX8_writesNote 13 = .ok (.iconst 0, 1) := by decide +kernel
theorem dX8_writesNote_14 : decode cX8_writesNote 14 = .ok (.istore_n 1, 1) := by decide +kernel
theorem dX8_writesNote_15 : decode cX8_writesNote 15 = .ok (.iload_n 1, 1) := by decide +kernel
theorem dX8_writesNote_16 : decode cX8_writesNote 16 = .ok (.aload_n 0, 1) := by decide +kernel
theorem dX8_writesNote_17 : decode cX8_writesNote 17 = .ok (.getfield 7, 3) := by decide +kernel
theorem dX8_writesNote_20 : decode cX8_writesNote 20 = .ok (.iconst 0, 1) := by decide +kernel
theorem dX8_writesNote_21 : decode cX8_writesNote 21 = .ok (.iaload, 1) := by decide +kernel
theorem dX8_writesNote_22 : decode cX8_writesNote 22 = .ok (.if_icmp .ge 79, 3) := by decide +kernel
theorem dX8_writesNote_25 : decode cX8_writesNote 25 = .ok (.iload_n 1, 1) := by decide +kernel
theorem dX8_writesNote_26 : decode cX8_writesNote 26 = .ok (.ifCond .le 9, 3) := by decide +kernel
theorem dX8_writesNote_29 : decode cX8_writesNote 29 = .ok (.aload_n 0, 1) := by decide +kernel
theorem dX8_writesNote_30 : decode cX8_writesNote 30 = .ok (.bipush 32, 2) := by decide +kernel
theorem dX8_writesNote_32 : decode cX8_writesNote 32 = .ok (.invokevirtual 159, 3) := by decide +kernel
theorem dX8_writesNote_35 : decode cX8_writesNote 35 = .ok (.aload_n 0, 1) := by decide +kernel
theorem dX8_writesNote_36 : decode cX8_writesNote 36 = .ok (.bipush 48, 2) := by decide +kernel
theorem dX8_writesNote_38 : decode cX8_writesNote 38 = .ok (.aload_n 0, 1) := by decide +kernel
theorem dX8_writesNote_39 : decode cX8_writesNote 39 = .ok (.getfield 42, 3) := by decide +kernel
theorem dX8_writesNote_42 : decode cX8_writesNote 42 = .ok (.iload_n 1, 1) := by decide +kernel
theorem dX8_writesNote_43 : decode cX8_writesNote 43 = .ok (.iaload, 1) := by decide +kernel
theorem dX8_writesNote_44 : decode cX8_writesNote 44 = .ok (.iadd, 1) := by decide +kernel
theorem dX8_writesNote_45 : decode cX8_writesNote 45 = .ok (.invokevirtual 159, 3) := by decide +kernel
theorem dX8_writesNote_48 : decode cX8_writesNote 48 = .ok (.aload_n 0, 1) := by decide +kernel
theorem dX8_writesNote_49 : decode cX8_writesNote 49 = .ok (.bipush 43, 2) := by decide +kernel
theorem dX8_writesNote_51 : decode cX8_writesNote 51 = .ok (.invokevirtual 159, 3) := by decide +kernel
theorem dX8_writesNote_54 : decode cX8_writesNote 54 = .ok (.aload_n 0, 1) := by decide +kernel
theorem dX8_writesNote_55 : decode cX8_writesNote 55 = .ok (.aload_n 0, 1) := by decide +kernel
theorem dX8_writesNote_56 : decode cX8_writesNote 56 = .ok (.getfield 51, 3) := by decide +kernel
theorem dX8_writesNote_59 : decode cX8_writesNote 59 = .ok (.iload_n 1, 1) := by decide +kernel
theorem dX8_writesNote_60 : decode cX8_writesNote 60 = .ok (.iaload, 1) := by decide +kernel
theorem dX8_writesNote_61 : decode cX8_writesNote 61 = .ok (.invokestatic 93, 3) := by decide +kernel
theorem dX8_writesNote_64 : decode cX8_writesNote 64 = .ok (.invokevirtual 163, 3) := by decide +kernel
theorem dX8_writesNote_67 : decode cX8_writesNote 67 = .ok (.aload_n 0, 1) := by decide +kernel
theorem dX8_writesNote_68 : decode cX8_writesNote 68 = .ok (.getfield 57, 3) := by decide +kernel
theorem dX8_writesNote_71 : decode cX8_writesNote 71 = .ok (.iload_n 1, 1) := by decide +kernel
theorem dX8_writesNote_72 : decode cX8_writesNote 72 = .ok (.iaload, 1) := by decide +kernel
theorem dX8_writesNote_73 : decode cX8_writesNote 73 = .ok (.ifCond .eq 22, 3) := by decide +kernel
theorem dX8_writesNote_76 : decode cX8_writesNote 76 = .ok (.aload_n 0, 1) := by decide +kernel
theorem dX8_writesNote_77 : decode cX8_writesNote 77 = .ok (.bipush 45, 2) := by decide +kernel
theorem dX8_writesNote_79 : decode cX8_writesNote 79 = .ok (.invokevirtual 159, 3) := by decide +kernel
theorem dX8_writesNote_82 : decode cX8_writesNote 82 = .ok (.aload_n 0, 1) := by decide +kernel
theorem dX8_writesNote_83 : decode cX8_writesNote 83 = .ok (.aload_n 0, 1) := by decide +kernel
theorem dX8_writesNote_84 : decode cX8_writesNote 84 = .ok (.getfield 57, 3) := by decide +kernel
theorem dX8_writesNote_87 : decode cX8_writesNote 87 = .ok (.iload_n 1, 1) := by decide +kernel
theorem dX8_writesNote_88 : decode cX8_writesNote 88 = .ok (.iaload, 1) := by decide +kernel
theorem dX8_writesNote_89 : decode cX8_writesNote 89 = .ok (.invokestatic 93, 3) := by decide +kernel
theorem dX8_writesNote_92 : decode cX8_writesNote 92 = .ok (.invokevirtual 163, 3) := by decide +kernel
theorem dX8_writesNote_95 : decode cX8_writesNote 95 = .ok (.iinc 1 1, 3) := by decide +kernel
theorem dX8_writesNote_98 : decode cX8_writesNote 98 = .ok (.goto (-83), 3) := by decide +kernel
theorem dX8_writesNote_101 : decode cX8_writesNote 101 = .ok (.aload_n 0, 1) := by decide +kernel
theorem dX8_writesNote_102 : decode cX8_writesNote 102 = .ok (.getfield 7, 3) := by decide +kernel
theorem dX8_writesNote_105 : decode cX8_writesNote 105 = .ok (.iconst 0, 1) := by decide +kernel
theorem dX8_writesNote_106 : decode cX8_writesNote 106 = .ok (.iaload, 1) := by decide +kernel
theorem dX8_writesNote_107 : decode cX8_writesNote 107 = .ok (.ifCond .ne 27, 3) := by decide +kernel
theorem dX8_writesNote_110 : decode cX8_writesNote 110 = .ok (.aload_n 0, 1) := by decide +kernel
theorem dX8_writesNote_111 : decode cX8_writesNote 111 = .ok (.bipush 110, 2) := by decide +kernel
theorem dX8_writesNote_113 : decode cX8_writesNote 113 = .ok (.invokevirtual 159, 3) := by decide +kernel
theorem dX8_writesNote_116 : decode cX8_writesNote 116 = .ok (.aload_n 0, 1) := by decide +kernel
theorem dX8_writesNote_117 : decode cX8_writesNote 117 = .ok (.bipush 111, 2) := by decide +kernel
theorem dX8_writesNote_119 : decode cX8_writesNote 119 = .ok (.invokevirtual 159, 3) := by decide +kernel
theorem dX8_writesNote_122 : decode cX8_writesNote 122 = .ok (.aload_n 0, 1) := by decide +kernel
theorem dX8_writesNote_123 : decode cX8_writesNote 123 = .ok (.bipush 110, 2) := by decide +kernel
theorem dX8_writesNote_125 : decode cX8_writesNote 125 = .ok (.invokevirtual 159, 3) := by decide +kernel
theorem dX8_writesNote_128 : decode cX8_writesNote 128 = .ok (.aload_n 0, 1) := by decide +kernel
theorem dX8_writesNote_129 : decode cX8_writesNote 129 = .ok (.bipush 101, 2) := by decide +kernel
theorem dX8_writesNote_131 : decode cX8_writesNote 131 = .ok (.invokevirtual 159, 3) := by decide +kernel
theorem dX8_writesNote_134 : decode cX8_writesNote 134 = .ok (.return_, 1) := by decide +kernel
theorem dX8_letter_0 : decode cX8_letter 0 = .ok (.iload_n 1, 1) := by decide +kernel
theorem dX8_letter_1 : decode cX8_letter 1 = .ok (.ifCond .ge 5, 3) := by decide +kernel
theorem dX8_letter_4 : decode cX8_letter 4 = .ok (.iconst (-1), 1) := by decide +kernel
theorem dX8_letter_5 : decode cX8_letter 5 = .ok (.ireturn, 1) := by decide +kernel
theorem dX8_letter_6 : decode cX8_letter 6 = .ok (.aload_n 0, 1) := by decide +kernel
theorem dX8_letter_7 : decode cX8_letter 7 = .ok (.invokevirtual 166, 3) := by decide +kernel
theorem dX8_letter_10 : decode cX8_letter 10 = .ok (.iload_n 1, 1) := by decide +kernel
theorem dX8_letter_11 : decode cX8_letter 11 = .ok (.aload_n 0, 1) := by decide +kernel
theorem dX8_letter_12 : decode cX8_letter 12 = .ok (.getfield 156, 3) := by decide +kernel
theorem dX8_letter_15 : decode cX8_letter 15 = .ok (.if_icmp .ge 12, 3) := by decide +kernel
theorem dX8_letter_18 : decode cX8_letter 18 = .ok (.aload_n 0, 1) := by decide +kernel
theorem dX8_letter_19 : decode cX8_letter 19 = .ok (.getfield 63, 3) := by decide +kernel
theorem dX8_letter_22 : decode cX8_letter 22 = .ok (.iload_n 1, 1) := by decide +kernel
theorem dX8_letter_23 : decode cX8_letter 23 = .ok (.iaload, 1) := by decide +kernel
theorem dX8_letter_24 : decode cX8_letter 24 = .ok (.goto 5, 3) := by decide +kernel
theorem dX8_letter_27 : decode cX8_letter 27 = .ok (.bipush (-4), 2) := by decide +kernel
theorem dX8_letter_29 : decode cX8_letter 29 = .ok (.ireturn, 1) := by decide +kernel
theorem dX8_notes_0 : decode cX8_notes 0 = .ok (.aload_n 0, 1) := by decide +kernel
theorem dX8_notes_1 : decode cX8_notes 1 = .ok (.getfield 128, 3) := by decide +kernel
theorem dX8_notes_4 : decode cX8_notes 4 = .ok (.bipush 6, 2) := by decide +kernel
theorem dX8_notes_6 : decode cX8_notes 6 = .ok (.if_icmp .ne 38, 3) := by decide +kernel
theorem dX8_notes_9 : decode cX8_notes 9 = .ok (.iconst 0, 1) := by decide +kernel
theorem dX8_notes_10 : decode cX8_notes 10 = .ok (.istore_n 1, 1) := by decide +kernel
theorem dX8_notes_11 : decode cX8_notes 11 = .ok (.iload_n 1, 1) := by decide +kernel
theorem dX8_notes_12 : decode cX8_notes 12 = .ok (.sipush 135, 3) := by decide +kernel
theorem dX8_notes_15 : decode cX8_notes 15 = .ok (.if_icmp .ge 24, 3) := by decide +kernel
theorem dX8_notes_18 : decode cX8_notes 18 = .ok (.aload_n 0, 1) := by decide +kernel
theorem dX8_notes_19 : decode cX8_notes 19 = .ok (.getfield 13, 3) := by decide +kernel
theorem dX8_notes_22 : decode cX8_notes 22 = .ok (.iload_n 1, 1) := by decide +kernel
theorem dX8_notes_23 : decode cX8_notes 23 = .ok (.aload_n 0, 1) := by decide +kernel
theorem dX8_notes_24 : decode cX8_notes 24 = .ok (.getfield 13, 3) := by decide +kernel
theorem dX8_notes_27 : decode cX8_notes 27 = .ok (.iload_n 1, 1) := by decide +kernel
theorem dX8_notes_28 : decode cX8_notes 28 = .ok (.bipush 27, 2) := by decide +kernel
theorem dX8_notes_30 : decode cX8_notes 30 = .ok (.iadd, 1) := by decide +kernel
theorem dX8_notes_31 : decode cX8_notes 31 = .ok (.iaload, 1) := by decide +kernel
theorem dX8_notes_32 : decode cX8_notes 32 = .ok (.iastore, 1) := by decide +kernel
theorem dX8_notes_33 : decode cX8_notes 33 = .ok (.iinc 1 1, 3) := by decide +kernel
theorem dX8_notes_36 : decode cX8_notes 36 = .ok (.goto (-25), 3) := by decide +kernel
theorem dX8_notes_39 : decode cX8_notes 39 = .ok (.aload_n 0, 1) := by decide +kernel
theorem dX8_notes_40 : decode cX8_notes 40 = .ok (.iconst 5, 1) := by decide +kernel
theorem dX8_notes_41 : decode cX8_notes 41 = .ok (.putfield 128, 3) := by decide +kernel
theorem dX8_notes_44 : decode cX8_notes 44 = .ok (.iconst 0, 1) := by decide +kernel
theorem dX8_notes_45 : decode cX8_notes 45 = .ok (.istore_n 1, 1) := by decide +kernel
theorem dX8_notes_46 : decode cX8_notes 46 = .ok (.iload_n 1, 1) := by decide +kernel
theorem dX8_notes_47 : decode cX8_notes 47 = .ok (.bipush 27, 2) := by decide +kernel
theorem dX8_notes_49 : decode cX8_notes 49 = .ok (.if_icmp .ge 29, 3) := by decide +kernel
theorem dX8_notes_52 : decode cX8_notes 52 = .ok (.aload_n 0, 1) := by decide +kernel
theorem dX8_notes_53 : decode cX8_notes 53 = .ok (.getfield 13, 3) := by decide +kernel
theorem dX8_notes_56 : decode cX8_notes 56 = .ok (.bipush 27, 2) := by decide +kernel
theorem dX8_notes_58 : decode cX8_notes 58 = .ok (.aload_n 0, 1) := by decide +kernel
theorem dX8_notes_59 : decode cX8_notes 59 = .ok (.getfield 128, 3) := by decide +kernel
theorem dX8_notes_62 : decode cX8_notes 62 = .ok (.imul, 1) := by decide +kernel
theorem dX8_notes_63 : decode cX8_notes 63 = .ok (.iload_n 1, 1) := by decide +kernel
theorem dX8_notes_64 : decode cX8_notes 64 = .ok (.iadd, 1) := by decide +kernel
theorem dX8_notes_65 : decode cX8_notes 65 = .ok (.aload_n 0, 1) := by decide +kernel
theorem dX8_notes_66 : decode cX8_notes 66 = .ok (.getfield 66, 3) := by decide +kernel
theorem dX8_notes_69 : decode cX8_notes 69 = .ok (.iload_n 1, 1) := by decide +kernel
theorem dX8_notes_70 : decode cX8_notes 70 = .ok (.iaload, 1) := by decide +kernel
theorem dX8_notes_71 : decode cX8_notes 71 = .ok (.iastore, 1) := by decide +kernel
theorem dX8_notes_72 : decode cX8_notes 72 = .ok (.iinc 1 1, 3) := by decide +kernel
theorem dX8_notes_75 : decode cX8_notes 75 = .ok (.goto (-29), 3) := by decide +kernel
theorem dX8_notes_78 : decode cX8_notes 78 = .ok (.aload_n 0, 1) := by decide +kernel
theorem dX8_notes_79 : decode cX8_notes 79 = .ok (.dup, 1) := by decide +kernel
theorem dX8_notes_80 : decode cX8_notes 80 = .ok (.getfield 128, 3) := by decide +kernel
theorem dX8_notes_83 : decode cX8_notes 83 = .ok (.iconst 1, 1) := by decide +kernel
theorem dX8_notes_84 : decode cX8_notes 84 = .ok (.iadd, 1) := by decide +kernel
theorem dX8_notes_85 : decode cX8_notes 85 = .ok (.putfield 128, 3) := by decide +kernel
theorem dX8_notes_88 : decode cX8_notes 88 = .ok (.return_, 1) := by decide +kernel
theorem dX8_holds_0 : decode cX8_holds 0 = .ok (.iconst 0, 1) := by decide +kernel
theorem dX8_holds_1 : decode cX8_holds 1 = .ok (.istore_n 1, 1) := by decide +kernel
theorem dX8_holds_2 : decode cX8_holds 2 = .ok (.iload_n 1, 1) := by decide +kernel
theorem dX8_holds_3 : decode cX8_holds 3 = .ok (.bipush 27, 2) := by decide +kernel
theorem dX8_holds_5 : decode cX8_holds 5 = .ok (.if_icmp .ge 21, 3) := by decide +kernel
theorem dX8_holds_8 : decode cX8_holds 8 = .ok (.aload_n 0, 1) := by decide +kernel
theorem dX8_holds_9 : decode cX8_holds 9 = .ok (.getfield 66, 3) := by decide +kernel
theorem dX8_holds_12 : decode cX8_holds 12 = .ok (.iload_n 1, 1) := by decide +kernel
theorem dX8_holds_13 : decode cX8_holds 13 = .ok (.aload_n 0, 1) := by decide +kernel
theorem dX8_holds_14 : decode cX8_holds 14 = .ok (.getfield 7, 3) := by decide +kernel
theorem dX8_holds_17 : decode cX8_holds 17 = .ok (.iload_n 1, 1) := by decide +kernel
theorem dX8_holds_18 : decode cX8_holds 18 = .ok (.iaload, 1) := by decide +kernel
theorem dX8_holds_19 : decode cX8_holds 19 = .ok (.iastore, 1) := by decide +kernel
theorem dX8_holds_20 : decode cX8_holds 20 = .ok (.iinc 1 1, 3) := by decide +kernel
theorem dX8_holds_23 : decode cX8_holds 23 = .ok (.goto (-21), 3) := by decide +kernel
theorem dX8_holds_26 : decode cX8_holds 26 = .ok (.return_, 1) := by decide +kernel
theorem dX8_acted_0 : decode cX8_acted 0 = .ok (.iload_n 1, 1) := by decide +kernel
theorem dX8_acted_1 : decode cX8_acted 1 = .ok (.ifCond .lt 7, 3) := by decide +kernel
theorem dX8_acted_4 : decode cX8_acted 4 = .ok (.aload_n 0, 1) := by decide +kernel
theorem dX8_acted_5 : decode cX8_acted 5 = .ok (.invokevirtual 169, 3) := by decide +kernel
theorem dX8_acted_8 : decode cX8_acted 8 = .ok (.iload_n 1, 1) := by decide +kernel
theorem dX8_acted_9 : decode cX8_acted 9 = .ok (.ireturn, 1) := by decide +kernel
theorem dX8_adds_0 : decode cX8_adds 0 = .ok (.iload_n 1, 1) := by decide +kernel
theorem dX8_adds_1 : decode cX8_adds 1 = .ok (.invokestatic 172, 3) := by decide +kernel
theorem dX8_adds_4 : decode cX8_adds 4 = .ok (.ifCond .eq 7, 3) := by decide +kernel
theorem dX8_adds_7 : decode cX8_adds 7 = .ok (.iload_n 1, 1) := by decide +kernel
theorem dX8_adds_8 : decode cX8_adds 8 = .ok (.ifCond .ne 5, 3) := by decide +kernel
theorem dX8_adds_11 : decode cX8_adds 11 = .ok (.iconst (-1), 1) := by decide +kernel
theorem dX8_adds_12 : decode cX8_adds 12 = .ok (.ireturn, 1) := by decide +kernel
theorem dX8_adds_13 : decode cX8_adds 13 = .ok (.aload_n 0, 1) := by decide +kernel
theorem dX8_adds_14 : decode cX8_adds 14 = .ok (.getfield 7, 3) := by decide +kernel
theorem dX8_adds_17 : decode cX8_adds 17 = .ok (.iconst 0, 1) := by decide +kernel
theorem dX8_adds_18 : decode cX8_adds 18 = .ok (.iaload, 1) := by decide +kernel
theorem dX8_adds_19 : decode cX8_adds 19 = .ok (.istore_n 2, 1) := by decide +kernel
theorem dX8_adds_20 : decode cX8_adds 20 = .ok (.iload_n 2, 1) := by decide +kernel
theorem dX8_adds_21 : decode cX8_adds 21 = .ok (.bipush 7, 2) := by decide +kernel
theorem dX8_adds_23 : decode cX8_adds 23 = .ok (.if_icmp .ne 6, 3) := by decide +kernel
theorem dX8_adds_26 : decode cX8_adds 26 = .ok (.bipush (-3), 2) := by decide +kernel
theorem dX8_adds_28 : decode cX8_adds 28 = .ok (.ireturn, 1) := by decide +kernel
theorem dX8_adds_29 : decode cX8_adds 29 = .ok (.aload_n 0, 1) := by decide +kernel
theorem dX8_adds_30 : decode cX8_adds 30 = .ok (.getfield 7, 3) := by decide +kernel
theorem dX8_adds_33 : decode cX8_adds 33 = .ok (.bipush 6, 2) := by decide +kernel
theorem dX8_adds_35 : decode cX8_adds 35 = .ok (.iload_n 2, 1) := by decide +kernel
theorem dX8_adds_36 : decode cX8_adds 36 = .ok (.iadd, 1) := by decide +kernel
theorem dX8_adds_37 : decode cX8_adds 37 = .ok (.iload_n 2, 1) := by decide +kernel
theorem dX8_adds_38 : decode cX8_adds 38 = .ok (.iastore, 1) := by decide +kernel
theorem dX8_adds_39 : decode cX8_adds 39 = .ok (.aload_n 0, 1) := by decide +kernel
theorem dX8_adds_40 : decode cX8_adds 40 = .ok (.getfield 7, 3) := by decide +kernel
theorem dX8_adds_43 : decode cX8_adds 43 = .ok (.bipush 13, 2) := by decide +kernel
theorem dX8_adds_45 : decode cX8_adds 45 = .ok (.iload_n 2, 1) := by decide +kernel
theorem dX8_adds_46 : decode cX8_adds 46 = .ok (.iadd, 1) := by decide +kernel
theorem dX8_adds_47 : decode cX8_adds 47 = .ok (.iload_n 1, 1) := by decide +kernel
theorem dX8_adds_48 : decode cX8_adds 48 = .ok (.iastore, 1) := by decide +kernel
theorem dX8_adds_49 : decode cX8_adds 49 = .ok (.aload_n 0, 1) := by decide +kernel
theorem dX8_adds_50 : decode cX8_adds 50 = .ok (.getfield 7, 3) := by decide +kernel
theorem dX8_adds_53 : decode cX8_adds 53 = .ok (.bipush 20, 2) := by decide +kernel
theorem dX8_adds_55 : decode cX8_adds 55 = .ok (.iload_n 2, 1) := by decide +kernel
theorem dX8_adds_56 : decode cX8_adds 56 = .ok (.iadd, 1) := by decide +kernel
theorem dX8_adds_57 : decode cX8_adds 57 = .ok (.iconst 0, 1) := by decide +kernel
theorem dX8_adds_58 : decode cX8_adds 58 = .ok (.iastore, 1) := by decide +kernel
theorem dX8_adds_59 : decode cX8_adds 59 = .ok (.aload_n 0, 1) := by decide +kernel
theorem dX8_adds_60 : decode cX8_adds 60 = .ok (.getfield 7, 3) := by decide +kernel
theorem dX8_adds_63 : decode cX8_adds 63 = .ok (.iconst 0, 1) := by decide +kernel
theorem dX8_adds_64 : decode cX8_adds 64 = .ok (.dup2, 1) := by decide +kernel
theorem dX8_adds_65 : decode cX8_adds 65 = .ok (.iaload, 1) := by decide +kernel
theorem dX8_adds_66 : decode cX8_adds 66 = .ok (.iconst 1, 1) := by decide +kernel
theorem dX8_adds_67 : decode cX8_adds 67 = .ok (.iadd, 1) := by decide +kernel
theorem dX8_adds_68 : decode cX8_adds 68 = .ok (.iastore, 1) := by decide +kernel
theorem dX8_adds_69 : decode cX8_adds 69 = .ok (.iload_n 2, 1) := by decide +kernel
theorem dX8_adds_70 : decode cX8_adds 70 = .ok (.ireturn, 1) := by decide +kernel
theorem dX8_changes_0 : decode cX8_changes 0 = .ok (.aload_n 0, 1) := by decide +kernel
theorem dX8_changes_1 : decode cX8_changes 1 = .ok (.iload_n 1, 1) := by decide +kernel
theorem dX8_changes_2 : decode cX8_changes 2 = .ok (.invokevirtual 104, 3) := by decide +kernel
theorem dX8_changes_5 : decode cX8_changes 5 = .ok (.ifCond .eq 14, 3) := by decide +kernel
theorem dX8_changes_8 : decode cX8_changes 8 = .ok (.iload_n 2, 1) := by decide +kernel
theorem dX8_changes_9 : decode cX8_changes 9 = .ok (.invokestatic 172, 3) := by decide +kernel
theorem dX8_changes_12 : decode cX8_changes 12 = .ok (.ifCond .eq 7, 3) := by decide +kernel
theorem dX8_changes_15 : decode cX8_changes 15 = .ok (.iload_n 2, 1) := by decide +kernel
theorem dX8_changes_16 : decode cX8_changes 16 = .ok (.ifCond .ne 5, 3) := by decide +kernel
theorem dX8_changes_19 : decode cX8_changes 19 = .ok (.iconst (-1), 1) := by decide +kernel
theorem dX8_changes_20 : decode cX8_changes 20 = .ok (.ireturn, 1) := by decide +kernel
theorem dX8_changes_21 : decode cX8_changes 21 = .ok (.aload_n 0, 1) := by decide +kernel
theorem dX8_changes_22 : decode cX8_changes 22 = .ok (.getfield 7, 3) := by decide +kernel
theorem dX8_changes_25 : decode cX8_changes 25 = .ok (.bipush 13, 2) := by decide +kernel
theorem dX8_changes_27 : decode cX8_changes 27 = .ok (.iload_n 1, 1) := by decide +kernel
