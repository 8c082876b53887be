theorem dX12_init_188 : decode cX12_init 188 = .ok (.putfield 78, 3) := by decide +kernel
theorem dX12_init_191 : decode cX12_init 191 = .ok (.aload_n 0, 1) := by decide +kernel
theorem dX12_init_192 : decode cX12_init 192 = .ok (.sipush 9720, 3) := by decide +kernel
theorem dX12_init_195 : decode cX12_init 195 = .ok (.newarray .long, 2) := by decide +kernel
theorem dX12_init_197 : decode cX12_init 197 = .ok (.putfield 81, 3) := by decide +kernel
theorem dX12_init_200 : decode cX12_init 200 = .ok (.aload_n 0, 1) := by decide +kernel
theorem dX12_init_201 : decode cX12_init 201 = .ok (.sipush 9720, 3) := by decide +kernel
theorem dX12_init_204 : decode cX12_init 204 = .ok (.newarray .int, 2) := by decide +kernel
theorem dX12_init_206 : decode cX12_init 206 = .ok (.putfield 84, 3) := by decide +kernel
theorem dX12_init_209 : decode cX12_init 209 = .ok (.aload_n 0, 1) := by decide +kernel
theorem dX12_init_210 : decode cX12_init 210 = .ok (.sipush 19440, 3) := by decide +kernel
theorem dX12_init_213 : decode cX12_init 213 = .ok (.newarray .boolean, 2) := by decide +kernel
theorem dX12_init_215 : decode cX12_init 215 = .ok (.putfield 87, 3) := by decide +kernel
theorem dX12_init_218 : decode cX12_init 218 = .ok (.aload_n 0, 1) := by decide +kernel
theorem dX12_init_219 : decode cX12_init 219 = .ok (.bipush 12, 2) := by decide +kernel
theorem dX12_init_221 : decode cX12_init 221 = .ok (.newarray .int, 2) := by decide +kernel
theorem dX12_init_223 : decode cX12_init 223 = .ok (.putfield 90, 3) := by decide +kernel
theorem dX12_init_226 : decode cX12_init 226 = .ok (.aload_n 0, 1) := by decide +kernel
theorem dX12_init_227 : decode cX12_init 227 = .ok (.bipush 8, 2) := by decide +kernel
theorem dX12_init_229 : decode cX12_init 229 = .ok (.newarray .int, 2) := by decide +kernel
theorem dX12_init_231 : decode cX12_init 231 = .ok (.putfield 93, 3) := by decide +kernel
theorem dX12_init_234 : decode cX12_init 234 = .ok (.aload_n 0, 1) := by decide +kernel
theorem dX12_init_235 : decode cX12_init 235 = .ok (.sipush 256, 3) := by decide +kernel
theorem dX12_init_238 : decode cX12_init 238 = .ok (.newarray .long, 2) := by decide +kernel
theorem dX12_init_240 : decode cX12_init 240 = .ok (.putfield 96, 3) := by decide +kernel
theorem dX12_init_243 : decode cX12_init 243 = .ok (.aload_n 0, 1) := by decide +kernel
theorem dX12_init_244 : decode cX12_init 244 = .ok (.getfield 25, 3) := by decide +kernel
theorem dX12_init_247 : decode cX12_init 247 = .ok (.invokestatic 99, 3) := by decide +kernel
theorem dX12_init_250 : decode cX12_init 250 = .ok (.return_, 1) := by decide +kernel
theorem dX12_empty_0 : decode cX12_empty 0 = .ok (.iconst 0, 1) := by decide +kernel
theorem dX12_empty_1 : decode cX12_empty 1 = .ok (.istore_n 1, 1) := by decide +kernel
theorem dX12_empty_2 : decode cX12_empty 2 = .ok (.iload_n 1, 1) := by decide +kernel
theorem dX12_empty_3 : decode cX12_empty 3 = .ok (.bipush 25, 2) := by decide +kernel
theorem dX12_empty_5 : decode cX12_empty 5 = .ok (.if_icmp .ge 13, 3) := by decide +kernel
theorem dX12_empty_8 : decode cX12_empty 8 = .ok (.aload_n 0, 1) := by decide +kernel
theorem dX12_empty_9 : decode cX12_empty 9 = .ok (.iload_n 1, 1) := by decide +kernel
theorem dX12_empty_10 : decode cX12_empty 10 = .ok (.iconst 0, 1) := by decide +kernel
theorem dX12_empty_11 : decode cX12_empty 11 = .ok (.iastore, 1) := by decide +kernel
theorem dX12_empty_12 : decode cX12_empty 12 = .ok (.iinc 1 1, 3) := by decide +kernel
theorem dX12_empty_15 : decode cX12_empty 15 = .ok (.goto (-13), 3) := by decide +kernel
theorem dX12_empty_18 : decode cX12_empty 18 = .ok (.return_, 1) := by decide +kernel
theorem dX12_copy_0 : decode cX12_copy 0 = .ok (.iconst 0, 1) := by decide +kernel
theorem dX12_copy_1 : decode cX12_copy 1 = .ok (.istore_n 2, 1) := by decide +kernel
theorem dX12_copy_2 : decode cX12_copy 2 = .ok (.iload_n 2, 1) := by decide +kernel
theorem dX12_copy_3 : decode cX12_copy 3 = .ok (.bipush 25, 2) := by decide +kernel
theorem dX12_copy_5 : decode cX12_copy 5 = .ok (.if_icmp .ge 15, 3) := by decide +kernel
theorem dX12_copy_8 : decode cX12_copy 8 = .ok (.aload_n 1, 1) := by decide +kernel
theorem dX12_copy_9 : decode cX12_copy 9 = .ok (.iload_n 2, 1) := by decide +kernel
theorem dX12_copy_10 : decode cX12_copy 10 = .ok (.aload_n 0, 1) := by decide +kernel
theorem dX12_copy_11 : decode cX12_copy 11 = .ok (.iload_n 2, 1) := by decide +kernel
theorem dX12_copy_12 : decode cX12_copy 12 = .ok (.iaload, 1) := by decide +kernel
theorem dX12_copy_13 : decode cX12_copy 13 = .ok (.iastore, 1) := by decide +kernel
theorem dX12_copy_14 : decode cX12_copy 14 = .ok (.iinc 2 1, 3) := by decide +kernel
theorem dX12_copy_17 : decode cX12_copy 17 = .ok (.goto (-15), 3) := by decide +kernel
theorem dX12_copy_20 : decode cX12_copy 20 = .ok (.return_, 1) := by decide +kernel
theorem dX12_in_0 : decode cX12_in 0 = .ok (.lload_n 0, 1) := by decide +kernel
theorem dX12_in_1 : decode cX12_in 1 = .ok (.lload_n 2, 1) := by decide +kernel
theorem dX12_in_2 : decode cX12_in 2 = .ok (.lcmp, 1) := by decide +kernel
theorem dX12_in_3 : decode cX12_in 3 = .ok (.ifCond .lt 14, 3) := by decide +kernel
theorem dX12_in_6 : decode cX12_in 6 = .ok (.lload_n 0, 1) := by decide +kernel
theorem dX12_in_7 : decode cX12_in 7 = .ok (.lload 4, 2) := by decide +kernel
theorem dX12_in_9 : decode cX12_in 9 = .ok (.lcmp, 1) := by decide +kernel
theorem dX12_in_10 : decode cX12_in 10 = .ok (.ifCond .gt 7, 3) := by decide +kernel
theorem dX12_in_13 : decode cX12_in 13 = .ok (.iconst 1, 1) := by decide +kernel
theorem dX12_in_14 : decode cX12_in 14 = .ok (.goto 4, 3) := by decide +kernel
theorem dX12_in_17 : decode cX12_in 17 = .ok (.iconst 0, 1) := by decide +kernel
theorem dX12_in_18 : decode cX12_in 18 = .ok (.ireturn, 1) := by decide +kernel
theorem dX12_has_0 : decode cX12_has 0 = .ok (.iload_n 0, 1) := by decide +kernel
theorem dX12_has_1 : decode cX12_has 1 = .ok (.iload_n 1, 1) := by decide +kernel
theorem dX12_has_2 : decode cX12_has 2 = .ok (.ishr, 1) := by decide +kernel
theorem dX12_has_3 : decode cX12_has 3 = .ok (.iconst 1, 1) := by decide +kernel
theorem dX12_has_4 : decode cX12_has 4 = .ok (.iand, 1) := by decide +kernel
theorem dX12_has_5 : decode cX12_has 5 = .ok (.iconst 1, 1) := by decide +kernel
theorem dX12_has_6 : decode cX12_has 6 = .ok (.if_icmp .ne 7, 3) := by decide +kernel
theorem dX12_has_9 : decode cX12_has 9 = .ok (.iconst 1, 1) := by decide +kernel
theorem dX12_has_10 : decode cX12_has 10 = .ok (.goto 4, 3) := by decide +kernel
theorem dX12_has_13 : decode cX12_has 13 = .ok (.iconst 0, 1) := by decide +kernel
theorem dX12_has_14 : decode cX12_has 14 = .ok (.ireturn, 1) := by decide +kernel
theorem dX12_ones_0 : decode cX12_ones 0 = .ok (.iconst 0, 1) := by decide +kernel
theorem dX12_ones_1 : decode cX12_ones 1 = .ok (.istore_n 1, 1) := by decide +kernel
theorem dX12_ones_2 : decode cX12_ones 2 = .ok (.iconst 0, 1) := by decide +kernel
theorem dX12_ones_3 : decode cX12_ones 3 = .ok (.istore_n 2, 1) := by decide +kernel
theorem dX12_ones_4 : decode cX12_ones 4 = .ok (.iload_n 2, 1) := by decide +kernel
theorem dX12_ones_5 : decode cX12_ones 5 = .ok (.bipush 16, 2) := by decide +kernel
theorem dX12_ones_7 : decode cX12_ones 7 = .ok (.if_icmp .ge 17, 3) := by decide +kernel
theorem dX12_ones_10 : decode cX12_ones 10 = .ok (.iload_n 1, 1) := by decide +kernel
theorem dX12_ones_11 : decode cX12_ones 11 = .ok (.iload_n 0, 1) := by decide +kernel
theorem dX12_ones_12 : decode cX12_ones 12 = .ok (.iload_n 2, 1) := by decide +kernel
theorem dX12_ones_13 : decode cX12_ones 13 = .ok (.ishr, 1) := by decide +kernel
theorem dX12_ones_14 : decode cX12_ones 14 = .ok (.iconst 1, 1) := by decide +kernel
theorem dX12_ones_15 : decode cX12_ones 15 = .ok (.iand, 1) := by decide +kernel
theorem dX12_ones_16 : decode cX12_ones 16 = .ok (.iadd, 1) := by decide +kernel
theorem dX12_ones_17 : decode cX12_ones 17 = .ok (.istore_n 1, 1) := by decide +kernel
theorem dX12_ones_18 : decode cX12_ones 18 = .ok (.iinc 2 1, 3) := by decide +kernel
theorem dX12_ones_21 : decode cX12_ones 21 = .ok (.goto (-17), 3) := by decide +kernel
theorem dX12_ones_24 : decode cX12_ones 24 = .ok (.iload_n 1, 1) := by decide +kernel
theorem dX12_ones_25 : decode cX12_ones 25 = .ok (.ireturn, 1) := by decide +kernel
theorem dX12_power_0 : decode cX12_power 0 = .ok (.iconst 1, 1) := by decide +kernel
theorem dX12_power_1 : decode cX12_power 1 = .ok (.istore_n 2, 1) := by decide +kernel
theorem dX12_power_2 : decode cX12_power 2 = .ok (.iconst 0, 1) := by decide +kernel
theorem dX12_power_3 : decode cX12_power 3 = .ok (.istore_n 3, 1) := by decide +kernel
theorem dX12_power_4 : decode cX12_power 4 = .ok (.iload_n 3, 1) := by decide +kernel
theorem dX12_power_5 : decode cX12_power 5 = .ok (.iload_n 1, 1) := by decide +kernel
theorem dX12_power_6 : decode cX12_power 6 = .ok (.if_icmp .ge 13, 3) := by decide +kernel
theorem dX12_power_9 : decode cX12_power 9 = .ok (.iload_n 2, 1) := by decide +kernel
theorem dX12_power_10 : decode cX12_power 10 = .ok (.iload_n 0, 1) := by decide +kernel
theorem dX12_power_11 : decode cX12_power 11 = .ok (.imul, 1) := by decide +kernel
theorem dX12_power_12 : decode cX12_power 12 = .ok (.istore_n 2, 1) := by decide +kernel
theorem dX12_power_13 : decode cX12_power 13 = .ok (.iinc 3 1, 3) := by decide +kernel
theorem dX12_power_16 : decode cX12_power 16 = .ok (.goto (-12), 3) := by decide +kernel
theorem dX12_power_19 : decode cX12_power 19 = .ok (.iload_n 2, 1) := by decide +kernel
theorem dX12_power_20 : decode cX12_power 20 = .ok (.ireturn, 1) := by decide +kernel
theorem dX12_factorial_0 : decode cX12_factorial 0 = .ok (.iconst 1, 1) := by decide +kernel
theorem dX12_factorial_1 : decode cX12_factorial 1 = .ok (.istore_n 1, 1) := by decide +kernel
theorem dX12_factorial_2 : decode cX12_factorial 2 = .ok (.iconst 2, 1) := by decide +kernel
theorem dX12_factorial_3 : decode cX12_factorial 3 = .ok (.istore_n 2, 1) := by decide +kernel
theorem dX12_factorial_4 : decode cX12_factorial 4 = .ok (.iload_n 2, 1) := by decide +kernel
theorem dX12_factorial_5 : decode cX12_factorial 5 = .ok (.iload_n 0, 1) := by decide +kernel
theorem dX12_factorial_6 : decode cX12_factorial 6 = .ok (.if_icmp .gt 13, 3) := by decide +kernel
theorem dX12_factorial_9 : decode cX12_factorial 9 = .ok (.iload_n 1, 1) := by decide +kernel
theorem dX12_factorial_10 : decode cX12_factorial 10 = .ok (.iload_n 2, 1) := by decide +kernel
theorem dX12_factorial_11 : decode cX12_factorial 11 = .ok (.imul, 1) := by decide +kernel
theorem dX12_factorial_12 : decode cX12_factorial 12 = .ok (.istore_n 1, 1) := by decide +kernel
theorem dX12_factorial_13 : decode cX12_factorial 13 = .ok (.iinc 2 1, 3) := by decide +kernel
theorem dX12_factorial_16 : decode cX12_factorial 16 = .ok (.goto (-12), 3) := by decide +kernel
theorem dX12_factorial_19 : decode cX12_factorial 19 = .ok (.iload_n 1, 1) := by decide +kernel
theorem dX12_factorial_20 : decode cX12_factorial 20 = .ok (.ireturn, 1) := by decide +kernel
theorem dX12_fraction_0 : decode cX12_fraction 0 = .ok (.lload_n 0, 1) := by decide +kernel
theorem dX12_fraction_1 : decode cX12_fraction 1 = .ok (.lconst 0, 1) := by decide +kernel
theorem dX12_fraction_2 : decode cX12_fraction 2 = .ok (.lcmp, 1) := by decide +kernel
theorem dX12_fraction_3 : decode cX12_fraction 3 = .ok (.ifCond .ge 8, 3) := by decide +kernel
theorem dX12_fraction_6 : decode cX12_fraction 6 = .ok (.lload_n 0, 1) := by decide +kernel
theorem dX12_fraction_7 : decode cX12_fraction 7 = .ok (.lneg, 1) := by decide +kernel
theorem dX12_fraction_8 : decode cX12_fraction 8 = .ok (.goto 4, 3) := by decide +kernel
theorem dX12_fraction_11 : decode cX12_fraction 11 = .ok (.lload_n 0, 1) := by decide +kernel
theorem dX12_fraction_12 : decode cX12_fraction 12 = .ok (.lstore 5, 2) := by decide +kernel
theorem dX12_fraction_14 : decode cX12_fraction 14 = .ok (.lload_n 2, 1) := by decide +kernel
theorem dX12_fraction_15 : decode cX12_fraction 15 = .ok (.lstore 7, 2) := by decide +kernel
theorem dX12_fraction_17 : decode cX12_fraction 17 = .ok (.lload 7, 2) := by decide +kernel
theorem dX12_fraction_19 : decode cX12_fraction 19 = .ok (.lconst 0, 1) := by decide +kernel
theorem dX12_fraction_20 : decode cX12_fraction 20 = .ok (.lcmp, 1) := by decide +kernel
theorem dX12_fraction_21 : decode cX12_fraction 21 = .ok (.ifCond .eq 21, 3) := by decide +kernel
theorem dX12_fraction_24 : decode cX12_fraction 24 = .ok (.lload 5, 2) := by decide +kernel
theorem dX12_fraction_26 : decode cX12_fraction 26 = .ok (.lload 7, 2) := by decide +kernel
theorem dX12_fraction_28 : decode cX12_fraction 28 = .ok (.lrem, 1) := by decide +kernel
theorem dX12_fraction_29 : decode cX12_fraction 29 = .ok (.lstore 9, 2) := by decide +kernel
theorem dX12_fraction_31 : decode cX12_fraction 31 = .ok (.lload 7, 2) := by decide +kernel
theorem dX12_fraction_33 : decode cX12_fraction 33 = .ok (.lstore 5, 2) := by decide +kernel
theorem dX12_fraction_35 : decode cX12_fraction 35 = .ok (.lload 9, 2) := by decide +kernel
theorem dX12_fraction_37 : decode cX12_fraction 37 = .ok (.lstore 7, 2) := by decide +kernel
theorem dX12_fraction_39 : decode cX12_fraction 39 = .ok (.goto (-22), 3) := by decide +kernel
theorem dX12_fraction_42 : decode cX12_fraction 42 = .ok (.iload 4, 2) := by decide +kernel
theorem dX12_fraction_44 : decode cX12_fraction 44 = .ok (.ifCond .eq 10, 3) := by decide +kernel
theorem dX12_fraction_47 : decode cX12_fraction 47 = .ok (.lload_n 0, 1) := by decide +kernel
theorem dX12_fraction_48 : decode cX12_fraction 48 = .ok (.lload 5, 2) := by decide +kernel
theorem dX12_fraction_50 : decode cX12_fraction 50 = .ok (.ldiv, 1) := by decide +kernel
theorem dX12_fraction_51 : decode cX12_fraction 51 = .ok (.goto 7, 3) := by decide +kernel
theorem dX12_fraction_54 : decode cX12_fraction 54 = .ok (.lload_n 2, 1) := by decide +kernel
theorem dX12_fraction_55 : decode cX12_fraction 55 = .ok (.lload 5, 2) := by decide +kernel
theorem dX12_fraction_57 : decode cX12_fraction 57 = .ok (.ldiv, 1) := by decide +kernel
theorem dX12_fraction_58 : decode cX12_fraction 58 = .ok (.lreturn, 1) := by decide +kernel
theorem dX12_isWord_0 : decode cX12_isWord 0 = .ok (.iload_n 1, 1) := by decide +kernel
theorem dX12_isWord_1 : decode cX12_isWord 1 = .ok (.i2l, 1) := by decide +kernel
theorem dX12_isWord_2 : decode cX12_isWord 2 = .ok (.lconst 0, 1) := by decide +kernel
theorem dX12_isWord_3 : decode cX12_isWord 3 = .ok (.aload_n 0, 1) := by decide +kernel
theorem dX12_isWord_4 : decode cX12_isWord 4 = .ok (.getfield 103, 3) := by decide +kernel
theorem dX12_isWord_7 : decode cX12_isWord 7 = .ok (.iconst 1, 1) := by decide +kernel
theorem dX12_isWord_8 : decode cX12_isWord 8 = .ok (.isub, 1) := by decide +kernel
theorem dX12_isWord_9 : decode cX12_isWord 9 = .ok (.i2l, 1) := by decide +kernel
theorem dX12_isWord_10 : decode cX12_isWord 10 = .ok (.invokestatic 107, 3) := by decide +kernel
theorem dX12_isWord_13 : decode cX12_isWord 13 = .ok (.ireturn, 1) := by decide +kernel
theorem dX12_isLetter_0 : decode cX12_isLetter 0 = .ok (.iload_n 0, 1) := by decide +kernel
theorem dX12_isLetter_1 : decode cX12_isLetter 1 = .ok (.i2l, 1) := by decide +kernel
theorem dX12_isLetter_2 : decode cX12_isLetter 2 = .ok (.lconst 0, 1) := by decide +kernel
theorem dX12_isLetter_3 : decode cX12_isLetter 3 = .ok (.ldc2_w 111, 3) := by decide +kernel
theorem dX12_isLetter_6 : decode cX12_isLetter 6 = .ok (.invokestatic 107, 3) := by decide +kernel
theorem dX12_isLetter_9 : decode cX12_isLetter 9 = .ok (.ireturn, 1) := by decide +kernel
theorem dX12_isKind_0 : decode cX12_isKind 0 = .ok (.iload_n 0, 1) := by decide +kernel
theorem dX12_isKind_1 : decode cX12_isKind 1 = .ok (.i2l, 1) := by decide +kernel
theorem dX12_isKind_2 : decode cX12_isKind 2 = .ok (.lconst 0, 1) := by decide +kernel
theorem dX12_isKind_3 : decode cX12_isKind 3 = .ok (.ldc2_w 113, 3) := by decide +kernel
theorem dX12_isKind_6 : decode cX12_isKind 6 = .ok (.invokestatic 107, 3) := by decide +kernel
theorem dX12_isKind_9 : decode cX12_isKind 9 = .ok (.ireturn, 1) := by decide +kernel
theorem dX12_bagOf_0 : decode cX12_bagOf 0 = .ok (.iconst 0, 1) := by decide +kernel
theorem dX12_bagOf_1 : decode cX12_bagOf 1 = .ok (.istore_n 1, 1) := by decide +kernel
theorem dX12_bagOf_2 : decode cX12_bagOf 2 = .ok (.iconst 0, 1) := by decide +kernel
theorem dX12_bagOf_3 : decode cX12_bagOf 3 = .ok (.istore_n 2, 1) := by decide +kernel
theorem dX12_bagOf_4 : decode cX12_bagOf 4 = .ok (.iload_n 2, 1) := by decide +kernel
theorem dX12_bagOf_5 : decode cX12_bagOf 5 = .ok (.bipush 8, 2) := by decide +kernel
theorem dX12_bagOf_7 : decode cX12_bagOf 7 = .ok (.if_icmp .ge 15, 3) := by decide +kernel
theorem dX12_bagOf_10 : decode cX12_bagOf 10 = .ok (.iload_n 1, 1) := by decide +kernel
theorem dX12_bagOf_11 : decode cX12_bagOf 11 = .ok (.aload_n 0, 1) := by decide +kernel
theorem dX12_bagOf_12 : decode cX12_bagOf 12 = .ok (.iload_n 2, 1) := by decide +kernel
theorem dX12_bagOf_13 : decode cX12_bagOf 13 = .ok (.iaload, 1) := by decide +kernel
theorem dX12_bagOf_14 : decode cX12_bagOf 14 = .ok (.iadd, 1) := by decide +kernel
theorem dX12_bagOf_15 : decode cX12_bagOf 15 = .ok (.istore_n 1, 1) := by decide +kernel
theorem dX12_bagOf_16 : decode cX12_bagOf 16 = .ok (.iinc 2 1, 3) := by decide +kernel
theorem dX12_bagOf_19 : decode cX12_bagOf 19 = .ok (.goto (-15), 3) := by decide +kernel
theorem dX12_bagOf_22 : decode cX12_bagOf 22 = .ok (.iload_n 1, 1) := by decide +kernel
theorem dX12_bagOf_23 : decode cX12_bagOf 23 = .ok (.ireturn, 1) := by decide +kernel
theorem dX12_write_0 : decode cX12_write 0 = .ok (.iload_n 1, 1) := by decide +kernel
theorem dX12_write_1 : decode cX12_write 1 = .ok (.i2l, 1) := by decide +kernel
theorem dX12_write_2 : decode cX12_write 2 = .ok (.lconst 0, 1) := by decide +kernel
theorem dX12_write_3 : decode cX12_write 3 = .ok (.ldc2_w 115, 3) := by decide +kernel
theorem dX12_write_6 : decode cX12_write 6 = .ok (.invokestatic 107, 3) := by decide +kernel
theorem dX12_write_9 : decode cX12_write 9 = .ok (.ifCond .ne 6, 3) := by decide +kernel
theorem dX12_write_12 : decode cX12_write 12 = .ok (.bipush (-2), 2) := by decide +kernel
theorem dX12_write_14 : decode cX12_write 14 = .ok (.ireturn, 1) := by decide +kernel
theorem dX12_write_15 : decode cX12_write 15 = .ok (.aload_n 0, 1) := by decide +kernel
theorem dX12_write_16 : decode cX12_write 16 = .ok (.getfield 117, 3) := by decide +kernel
theorem dX12_write_19 : decode cX12_write 19 = .ok (.sipush 180, 3) := by decide +kernel
theorem dX12_write_22 : decode cX12_write 22 = .ok (.if_icmp .ne 6, 3) := by decide +kernel
theorem dX12_write_25 : decode cX12_write 25 = .ok (.bipush (-4), 2) := by decide +kernel
theorem dX12_write_27 : decode cX12_write 27 = .ok (.ireturn, 1) := by decide +kernel
theorem dX12_write_28 : decode cX12_write 28 = .ok (.aload_n 0, 1) := by decide +kernel
theorem dX12_write_29 : decode cX12_write 29 = .ok (.getfield 7, 3) := by decide +kernel
theorem dX12_write_32 : decode cX12_write 32 = .ok (.aload_n 0, 1) := by decide +kernel
theorem dX12_write_33 : decode cX12_write 33 = .ok (.getfield 117, 3) := by decide +kernel
theorem dX12_write_36 : decode cX12_write 36 = .ok (.iload_n 1, 1) := by decide +kernel
theorem dX12_write_37 : decode cX12_write 37 = .ok (.iastore, 1) := by decide +kernel
theorem dX12_write_38 : decode cX12_write 38 = .ok (.aload_n 0, 1) := by decide +kernel
theorem dX12_write_39 : decode cX12_write 39 = .ok (.dup, 1) := by decide +kernel
theorem dX12_write_40 : decode cX12_write 40 = .ok (.getfield 117, 3) := by decide +kernel
theorem dX12_write_43 : decode cX12_write 43 = .ok (.iconst 1, 1) := by decide +kernel
theorem dX12_write_44 : decode cX12_write 44 = .ok (.iadd, 1) := by decide +kernel
theorem dX12_write_45 : decode cX12_write 45 = .ok (.putfield 117, 3) := by decide +kernel
theorem dX12_write_48 : decode cX12_write 48 = .ok (.aload_n 0, 1) := by decide +kernel
theorem dX12_write_49 : decode cX12_write 49 = .ok (.getfield 117, 3) := by decide +kernel
theorem dX12_write_52 : decode cX12_write 52 = .ok (.ireturn, 1) := by decide +kernel
theorem dX12_wipe_0 : decode cX12_wipe 0 = .ok (.aload_n 0, 1) := by decide +kernel
theorem dX12_wipe_1 : decode cX12_wipe 1 = .ok (.getfield 117, 3) := by decide +kernel
theorem dX12_wipe_4 : decode cX12_wipe 4 = .ok (.istore_n 1, 1) := by decide +kernel
theorem dX12_wipe_5 : decode cX12_wipe 5 = .ok (.aload_n 0, 1) := by decide +kernel
theorem dX12_wipe_6 : decode cX12_wipe 6 = .ok (.iconst 0, 1) := by decide +kernel
theorem dX12_wipe_7 : decode cX12_wipe 7 = .ok (.putfield 117, 3) := by decide +kernel
theorem dX12_wipe_10 : decode cX12_wipe 10 = .ok (.iload_n 1, 1) := by decide +kernel
theorem dX12_wipe_11 : decode cX12_wipe 11 = .ok (.ireturn, 1) := by decide +kernel
theorem dX12_takeSign_0 : decode cX12_takeSign 0 = .ok (.aload_n 0, 1) := by decide +kernel
theorem dX12_takeSign_1 : decode cX12_takeSign 1 = .ok (.iload_n 1, 1) := by decide +kernel
theorem dX12_takeSign_2 : decode cX12_takeSign 2 = .ok (.putfield 120, 3) := by decide +kernel
theorem dX12_takeSign_5 : decode cX12_takeSign 5 = .ok (.aload_n 0, 1) := by decide +kernel
theorem dX12_takeSign_6 : decode cX12_takeSign 6 = .ok (.iconst 1, 1) := by decide +kernel
theorem dX12_takeSign_7 : decode cX12_takeSign 7 = .ok (.putfield 123, 3) := by decide +kernel
theorem dX12_takeSign_10 : decode cX12_takeSign 10 = .ok (.iload_n 1, 1) := by decide +kernel
theorem dX12_takeSign_11 : decode cX12_takeSign 11 = .ok (.lookupswitch 201 #[(43, 105), (46, 141), (58, 159), (94, 123), (119, 49)], 49) := by decide +kernel
theorem dX12_takeSign_60 : decode cX12_takeSign 60 = .ok (.aload_n 0, 1) := by decide +kernel
theorem dX12_takeSign_61 : decode cX12_takeSign 61 = .ok (.getfield 56, 3) := by decide +kernel
theorem dX12_takeSign_64 : decode cX12_takeSign 64 = .ok (.aload_n 0, 1) := by decide +kernel
theorem dX12_takeSign_65 : decode cX12_takeSign 65 = .ok (.getfield 126, 3) := by decide +kernel
theorem dX12_takeSign_68 : decode cX12_takeSign 68 = .ok (.bipush 10, 2) := by decide +kernel
theorem dX12_takeSign_70 : decode cX12_takeSign 70 = .ok (.if_icmp .ge 10, 3) := by decide +kernel
theorem dX12_takeSign_73 : decode cX12_takeSign 73 = .ok (.aload_n 0, 1) := by decide +kernel
theorem dX12_takeSign_74 : decode cX12_takeSign 74 = .ok (.getfield 126, 3) := by decide +kernel
theorem dX12_takeSign_77 : decode cX12_takeSign 77 = .ok (.goto 4, 3) := by decide +kernel
theorem dX12_takeSign_80 : decode cX12_takeSign 80 = .ok (.iconst 0, 1) := by decide +kernel
theorem dX12_takeSign_81 : decode cX12_takeSign 81 = .ok (.aload_n 0, 1) := by decide +kernel
theorem dX12_takeSign_82 : decode cX12_takeSign 82 = .ok (.getfield 126, 3) := by decide +kernel
theorem dX12_takeSign_85 : decode cX12_takeSign 85 = .ok (.bipush 10, 2) := by decide +kernel
theorem dX12_takeSign_87 : decode cX12_takeSign 87 = .ok (.if_icmp .ge 7, 3) := by decide +kernel
theorem dX12_takeSign_90 : decode cX12_takeSign 90 = .ok (.iconst 0, 1) := by decide +kernel
theorem dX12_takeSign_91 : decode cX12_takeSign 91 = .ok (.goto 9, 3) := by decide +kernel
theorem dX12_takeSign_94 : decode cX12_takeSign 94 = .ok (.aload_n 0, 1) := by decide +kernel
theorem dX12_takeSign_95 : decode cX12_takeSign 95 = .ok (.getfield 56, 3) := by decide +kernel
theorem dX12_takeSign_98 : decode cX12_takeSign 98 = .ok (.iconst 0, 1) := by decide +kernel
theorem dX12_takeSign_99 : decode cX12_takeSign 99 = .ok (.iaload, 1) := by decide +kernel
theorem dX12_takeSign_100 : decode cX12_takeSign 100 = .ok (.iastore, 1) := by decide +kernel
theorem dX12_takeSign_101 : decode cX12_takeSign 101 = .ok (.aload_n 0, 1) := by decide +kernel
theorem dX12_takeSign_102 : decode cX12_takeSign 102 = .ok (.getfield 126, 3) := by decide +kernel
theorem dX12_takeSign_105 : decode cX12_takeSign 105 = .ok (.bipush 10, 2) := by decide +kernel
theorem dX12_takeSign_107 : decode cX12_takeSign 107 = .ok (.if_icmp .ge 7, 3) := by decide +kernel
theorem dX12_takeSign_110 : decode cX12_takeSign 110 = .ok (.iconst 1, 1) := by decide +kernel
theorem dX12_takeSign_111 : decode cX12_takeSign 111 = .ok (.goto 4, 3) := by decide +kernel
theorem dX12_takeSign_114 : decode cX12_takeSign 114 = .ok (.iconst 0, 1) := by decide +kernel
theorem dX12_takeSign_115 : decode cX12_takeSign 115 = .ok (.ireturn, 1) := by decide +kernel
theorem dX12_takeSign_116 : decode cX12_takeSign 116 = .ok (.aload_n 0, 1) := by decide +kernel
theorem dX12_takeSign_117 : decode cX12_takeSign 117 = .ok (.getfield 62, 3) := by decide +kernel
theorem dX12_takeSign_120 : decode cX12_takeSign 120 = .ok (.invokestatic 129, 3) := by decide +kernel
theorem dX12_takeSign_123 : decode cX12_takeSign 123 = .ok (.bipush 12, 2) := by decide +kernel
theorem dX12_takeSign_125 : decode cX12_takeSign 125 = .ok (.if_icmp .ge 7, 3) := by decide +kernel
theorem dX12_takeSign_128 : decode cX12_takeSign 128 = .ok (.iconst 1, 1) := by decide +kernel
theorem dX12_takeSign_129 : decode cX12_takeSign 129 = .ok (.goto 4, 3) := by decide +kernel
theorem dX12_takeSign_132 : decode cX12_takeSign 132 = .ok (.iconst 0, 1) := by decide +kernel
theorem dX12_takeSign_133 : decode cX12_takeSign 133 = .ok (.ireturn, 1) := by decide +kernel
theorem dX12_takeSign_134 : decode cX12_takeSign 134 = .ok (.aload_n 0, 1) := by decide +kernel
theorem dX12_takeSign_135 : decode cX12_takeSign 135 = .ok (.getfield 62, 3) := by decide +kernel
theorem dX12_takeSign_138 : decode cX12_takeSign 138 = .ok (.bipush 19, 2) := by decide +kernel
theorem dX12_takeSign_140 : decode cX12_takeSign 140 = .ok (.iaload, 1) := by decide +kernel
theorem dX12_takeSign_141 : decode cX12_takeSign 141 = .ok (.bipush 15, 2) := by decide +kernel
theorem dX12_takeSign_143 : decode cX12_takeSign 143 = .ok (.if_icmp .eq 7, 3) := by decide +kernel
theorem dX12_takeSign_146 : decode cX12_takeSign 146 = .ok (.iconst 1, 1) := by decide +kernel
theorem dX12_takeSign_147 : decode cX12_takeSign 147 = .ok (.goto 4, 3) := by decide +kernel
theorem dX12_takeSign_150 : decode cX12_takeSign 150 = .ok (.iconst 0, 1) := by decide +kernel
theorem dX12_takeSign_151 : decode cX12_takeSign 151 = .ok (.ireturn, 1) := by decide +kernel
theorem dX12_takeSign_152 : decode cX12_takeSign 152 = .ok (.aload_n 0, 1) := by decide +kernel
theorem dX12_takeSign_153 : decode cX12_takeSign 153 = .ok (.getfield 62, 3) := by decide +kernel
theorem dX12_takeSign_156 : decode cX12_takeSign 156 = .ok (.bipush 20, 2) := by decide +kernel
theorem dX12_takeSign_158 : decode cX12_takeSign 158 = .ok (.iaload, 1) := by decide +kernel
theorem dX12_takeSign_159 : decode cX12_takeSign 159 = .ok (.bipush 15, 2) := by decide +kernel
theorem dX12_takeSign_161 : decode cX12_takeSign 161 = .ok (.if_icmp .eq 7, 3) := by decide +kernel
theorem dX12_takeSign_164 : decode cX12_takeSign 164 = .ok (.iconst 1, 1) := by decide +kernel
theorem dX12_takeSign_165 : decode cX12_takeSign 165 = .ok (.goto 4, 3) := by decide +kernel
theorem dX12_takeSign_168 : decode cX12_takeSign 168 = .ok (.iconst 0, 1) := by decide +kernel
theorem dX12_takeSign_169 : decode cX12_takeSign 169 = .ok (.ireturn, 1) := by decide +kernel
theorem dX12_takeSign_170 : decode cX12_takeSign 170 = .ok (.aload_n 0, 1) := by decide +kernel
theorem dX12_takeSign_171 : decode cX12_takeSign 171 = .ok (.getfield 62, 3) := by decide +kernel
theorem dX12_takeSign_174 : decode cX12_takeSign 174 = .ok (.bipush 21, 2) := by decide +kernel
theorem dX12_takeSign_176 : decode cX12_takeSign 176 = .ok (.iaload, 1) := by decide +kernel
theorem dX12_takeSign_177 : decode cX12_takeSign 177 = .ok (.aload_n 0, 1) := by decide +kernel
theorem dX12_takeSign_178 : decode cX12_takeSign 178 = .ok (.getfield 62, 3) := by decide +kernel
theorem dX12_takeSign_181 : decode cX12_takeSign 181 = .ok (.bipush 22, 2) := by decide +kernel
theorem dX12_takeSign_183 : decode cX12_takeSign 183 = .ok (.iaload, 1) := by decide +kernel
theorem dX12_takeSign_184 : decode cX12_takeSign 184 = .ok (.iadd, 1) := by decide +kernel
theorem dX12_takeSign_185 : decode cX12_takeSign 185 = .ok (.aload_n 0, 1) := by decide +kernel
theorem dX12_takeSign_186 : decode cX12_takeSign 186 = .ok (.getfield 62, 3) := by decide +kernel
theorem dX12_takeSign_189 : decode cX12_takeSign 189 = .ok (.bipush 23, 2) := by decide +kernel
theorem dX12_takeSign_191 : decode cX12_takeSign 191 = .ok (.iaload, 1) := by decide +kernel
theorem dX12_takeSign_192 : decode cX12_takeSign 192 = .ok (.iadd, 1) := by decide +kernel
theorem dX12_takeSign_193 : decode cX12_takeSign 193 = .ok (.aload_n 0, 1) := by decide +kernel
theorem dX12_takeSign_194 : decode cX12_takeSign 194 = .ok (.getfield 62, 3) := by decide +kernel
theorem dX12_takeSign_197 : decode cX12_takeSign 197 = .ok (.bipush 24, 2) := by decide +kernel
theorem dX12_takeSign_199 : decode cX12_takeSign 199 = .ok (.iaload, 1) := by decide +kernel
theorem dX12_takeSign_200 : decode cX12_takeSign 200 = .ok (.iadd, 1) := by decide +kernel
theorem dX12_takeSign_201 : decode cX12_takeSign 201 = .ok (.bipush 60, 2) := by decide +kernel
theorem dX12_takeSign_203 : decode cX12_takeSign 203 = .ok (.if_icmp .eq 7, 3) := by decide +kernel
theorem dX12_takeSign_206 : decode cX12_takeSign 206 = .ok (.iconst 1, 1) := by decide +kernel
theorem dX12_takeSign_207 : decode cX12_takeSign 207 = .ok (.goto 4, 3) := by decide +kernel
theorem dX12_takeSign_210 : decode cX12_takeSign 210 = .ok (.iconst 0, 1) := by decide +kernel
theorem dX12_takeSign_211 : decode cX12_takeSign 211 = .ok (.ireturn, 1) := by decide +kernel
theorem dX12_takeSign_212 : decode cX12_takeSign 212 = .ok (.iconst 0, 1) := by decide +kernel
theorem dX12_takeSign_213 : decode cX12_takeSign 213 = .ok (.ireturn, 1) := by decide +kernel
theorem dX12_takeOfWord_0 : decode cX12_takeOfWord 0 = .ok (.aload_n 0, 1) := by decide +kernel
theorem dX12_takeOfWord_1 : decode cX12_takeOfWord 1 = .ok (.getfield 126, 3) := by decide +kernel
theorem dX12_takeOfWord_4 : decode cX12_takeOfWord 4 = .ok (.istore_n 2, 1) := by decide +kernel
theorem dX12_takeOfWord_5 : decode cX12_takeOfWord 5 = .ok (.aload_n 0, 1) := by decide +kernel
theorem dX12_takeOfWord_6 : decode cX12_takeOfWord 6 = .ok (.getfield 123, 3) := by decide +kernel
theorem dX12_takeOfWord_9 : decode cX12_takeOfWord 9 = .ok (.iconst 2, 1) := by decide +kernel
theorem dX12_takeOfWord_10 : decode cX12_takeOfWord 10 = .ok (.if_icmp .ne 43, 3) := by decide +kernel
theorem dX12_takeOfWord_13 : decode cX12_takeOfWord 13 = .ok (.aload_n 0, 1) := by decide +kernel
theorem dX12_takeOfWord_14 : decode cX12_takeOfWord 14 = .ok (.getfield 62, 3) := by decide +kernel
theorem dX12_takeOfWord_17 : decode cX12_takeOfWord 17 = .ok (.bipush 9, 2) := by decide +kernel
theorem dX12_takeOfWord_19 : decode cX12_takeOfWord 19 = .ok (.iload_n 2, 1) := by decide +kernel
theorem dX12_takeOfWord_20 : decode cX12_takeOfWord 20 = .ok (.iadd, 1) := by decide +kernel
theorem dX12_takeOfWord_21 : decode cX12_takeOfWord 21 = .ok (.iload_n 1, 1) := by decide +kernel
theorem dX12_takeOfWord_22 : decode cX12_takeOfWord 22 = .ok (.bipush 48, 2) := by decide +kernel
theorem dX12_takeOfWord_24 : decode cX12_takeOfWord 24 = .ok (.isub, 1) := by decide +kernel
theorem dX12_takeOfWord_25 : decode cX12_takeOfWord 25 = .ok (.iastore, 1) := by decide +kernel
theorem dX12_takeOfWord_26 : decode cX12_takeOfWord 26 = .ok (.aload_n 0, 1) := by decide +kernel
theorem dX12_takeOfWord_27 : decode cX12_takeOfWord 27 = .ok (.dup, 1) := by decide +kernel
theorem dX12_takeOfWord_28 : decode cX12_takeOfWord 28 = .ok (.getfield 126, 3) := by decide +kernel
theorem dX12_takeOfWord_31 : decode cX12_takeOfWord 31 = .ok (.iconst 1, 1) := by decide +kernel
theorem dX12_takeOfWord_32 : decode cX12_takeOfWord 32 = .ok (.iadd, 1) := by decide +kernel
theorem dX12_takeOfWord_33 : decode cX12_takeOfWord 33 = .ok (.putfield 126, 3) := by decide +kernel
theorem dX12_takeOfWord_36 : decode cX12_takeOfWord 36 = .ok (.aload_n 0, 1) := by decide +kernel
theorem dX12_takeOfWord_37 : decode cX12_takeOfWord 37 = .ok (.iconst 0, 1) := by decide +kernel
theorem dX12_takeOfWord_38 : decode cX12_takeOfWord 38 = .ok (.putfield 123, 3) := by decide +kernel
theorem dX12_takeOfWord_41 : decode cX12_takeOfWord 41 = .ok (.iload_n 1, 1) := by decide +kernel
theorem dX12_takeOfWord_42 : decode cX12_takeOfWord 42 = .ok (.i2l, 1) := by decide +kernel
theorem dX12_takeOfWord_43 : decode cX12_takeOfWord 43 = .ok (.ldc2_w 133, 3) := by decide +kernel
theorem dX12_takeOfWord_46 : decode cX12_takeOfWord 46 = .ok (.ldc2_w 135, 3) := by decide +kernel
theorem dX12_takeOfWord_49 : decode cX12_takeOfWord 49 = .ok (.invokestatic 107, 3) := by decide +kernel
theorem dX12_takeOfWord_52 : decode cX12_takeOfWord 52 = .ok (.ireturn, 1) := by decide +kernel
theorem dX12_takeOfWord_53 : decode cX12_takeOfWord 53 = .ok (.iload_n 1, 1) := by decide +kernel
theorem dX12_takeOfWord_54 : decode cX12_takeOfWord 54 = .ok (.i2l, 1) := by decide +kernel
theorem dX12_takeOfWord_55 : decode cX12_takeOfWord 55 = .ok (.ldc2_w 137, 3) := by decide +kernel
theorem dX12_takeOfWord_58 : decode cX12_takeOfWord 58 = .ok (.ldc2_w 139, 3) := by decide +kernel
theorem dX12_takeOfWord_61 : decode cX12_takeOfWord 61 = .ok (.invokestatic 107, 3) := by decide +kernel
theorem dX12_takeOfWord_64 : decode cX12_takeOfWord 64 = .ok (.ifCond .eq 46, 3) := by decide +kernel
theorem dX12_takeOfWord_67 : decode cX12_takeOfWord 67 = .ok (.aload_n 0, 1) := by decide +kernel
theorem dX12_takeOfWord_68 : decode cX12_takeOfWord 68 = .ok (.getfield 56, 3) := by decide +kernel
theorem dX12_takeOfWord_71 : decode cX12_takeOfWord 71 = .ok (.iload_n 2, 1) := by decide +kernel
theorem dX12_takeOfWord_72 : decode cX12_takeOfWord 72 = .ok (.iaload, 1) := by decide +kernel
theorem dX12_takeOfWord_73 : decode cX12_takeOfWord 73 = .ok (.bipush 6, 2) := by decide +kernel
theorem dX12_takeOfWord_75 : decode cX12_takeOfWord 75 = .ok (.if_icmp .ge 35, 3) := by decide +kernel
theorem dX12_takeOfWord_78 : decode cX12_takeOfWord 78 = .ok (.aload_n 0, 1) := by decide +kernel
theorem dX12_takeOfWord_79 : decode cX12_takeOfWord 79 = .ok (.getfield 53, 3) := by decide +kernel
theorem dX12_takeOfWord_82 : decode cX12_takeOfWord 82 = .ok (.bipush 6, 2) := by decide +kernel
theorem dX12_takeOfWord_84 : decode cX12_takeOfWord 84 = .ok (.iload_n 2, 1) := by decide +kernel
theorem dX12_takeOfWord_85 : decode cX12_takeOfWord 85 = .ok (.imul, 1) := by decide +kernel
theorem dX12_takeOfWord_86 : decode cX12_takeOfWord 86 = .ok (.aload_n 0, 1) := by decide +kernel
theorem dX12_takeOfWord_87 : decode cX12_takeOfWord 87 = .ok (.getfield 56, 3) := by decide +kernel
theorem dX12_takeOfWord_90 : decode cX12_takeOfWord 90 = .ok (.iload_n 2, 1) := by decide +kernel
theorem dX12_takeOfWord_91 : decode cX12_takeOfWord 91 = .ok (.iaload, 1) := by decide +kernel
theorem dX12_takeOfWord_92 : decode cX12_takeOfWord 92 = .ok (.iadd, 1) := by decide +kernel
theorem dX12_takeOfWord_93 : decode cX12_takeOfWord 93 = .ok (.iload_n 1, 1) := by decide +kernel
theorem dX12_takeOfWord_94 : decode cX12_takeOfWord 94 = .ok (.bipush 97, 2) := by decide +kernel
theorem dX12_takeOfWord_96 : decode cX12_takeOfWord 96 = .ok (.isub, 1) := by decide +kernel
theorem dX12_takeOfWord_97 : decode cX12_takeOfWord 97 = .ok (.iastore, 1) := by decide +kernel
theorem dX12_takeOfWord_98 : decode cX12_takeOfWord 98 = .ok (.aload_n 0, 1) := by decide +kernel
theorem dX12_takeOfWord_99 : decode cX12_takeOfWord 99 = .ok (.getfield 56, 3) := by decide +kernel
theorem dX12_takeOfWord_102 : decode cX12_takeOfWord 102 = .ok (.iload_n 2, 1) := by decide +kernel
theorem dX12_takeOfWord_103 : decode cX12_takeOfWord 103 = .ok (.dup2, 1) := by decide +kernel
theorem dX12_takeOfWord_104 : decode cX12_takeOfWord 104 = .ok (.iaload, 1) := by decide +kernel
theorem dX12_takeOfWord_105 : decode cX12_takeOfWord 105 = .ok (.iconst 1, 1) := by decide +kernel
theorem dX12_takeOfWord_106 : decode cX12_takeOfWord 106 = .ok (.iadd, 1) := by decide +kernel
theorem dX12_takeOfWord_107 : decode cX12_takeOfWord 107 = .ok (.iastore, 1) := by decide +kernel
theorem dX12_takeOfWord_108 : decode cX12_takeOfWord 108 = .ok (.iconst 1, 1) := by decide +kernel
theorem dX12_takeOfWord_109 : decode cX12_takeOfWord 109 = .ok (.ireturn, 1) := by decide +kernel
theorem dX12_takeOfWord_110 : decode cX12_takeOfWord 110 = .ok (.aload_n 0, 1) := by decide +kernel
theorem dX12_takeOfWord_111 : decode cX12_takeOfWord 111 = .ok (.getfield 59, 3) := by decide +kernel
theorem dX12_takeOfWord_114 : decode cX12_takeOfWord 114 = .ok (.iload_n 2, 1) := by decide +kernel
theorem dX12_takeOfWord_115 : decode cX12_takeOfWord 115 = .ok (.iload_n 1, 1) := by decide +kernel
theorem dX12_takeOfWord_116 : decode cX12_takeOfWord 116 = .ok (.bipush 65, 2) := by decide +kernel
theorem dX12_takeOfWord_118 : decode cX12_takeOfWord 118 = .ok (.isub, 1) := by decide +kernel
theorem dX12_takeOfWord_119 : decode cX12_takeOfWord 119 = .ok (.iastore, 1) := by decide +kernel
theorem dX12_takeOfWord_120 : decode cX12_takeOfWord 120 = .ok (.aload_n 0, 1) := by decide +kernel
theorem dX12_takeOfWord_121 : decode cX12_takeOfWord 121 = .ok (.iconst 2, 1) := by decide +kernel
theorem dX12_takeOfWord_122 : decode cX12_takeOfWord 122 = .ok (.putfield 123, 3) := by decide +kernel
theorem dX12_takeOfWord_125 : decode cX12_takeOfWord 125 = .ok (.iload_n 1, 1) := by decide +kernel
theorem dX12_takeOfWord_126 : decode cX12_takeOfWord 126 = .ok (.i2l, 1) := by decide +kernel
theorem dX12_takeOfWord_127 : decode cX12_takeOfWord 127 = .ok (.ldc2_w 141, 3) := by decide +kernel
theorem dX12_takeOfWord_130 : decode cX12_takeOfWord 130 = .ok (.ldc2_w 143, 3) := by decide +kernel
theorem dX12_takeOfWord_133 : decode cX12_takeOfWord 133 = .ok (.invokestatic 107, 3) := by decide +kernel
theorem dX12_takeOfWord_136 : decode cX12_takeOfWord 136 = .ok (.ifCond .eq 16, 3) := by decide +kernel
theorem dX12_takeOfWord_139 : decode cX12_takeOfWord 139 = .ok (.aload_n 0, 1) := by decide +kernel
theorem dX12_takeOfWord_140 : decode cX12_takeOfWord 140 = .ok (.getfield 56, 3) := by decide +kernel
theorem dX12_takeOfWord_143 : decode cX12_takeOfWord 143 = .ok (.iload_n 2, 1) := by decide +kernel
theorem dX12_takeOfWord_144 : decode cX12_takeOfWord 144 = .ok (.iaload, 1) := by decide +kernel
theorem dX12_takeOfWord_145 : decode cX12_takeOfWord 145 = .ok (.ifCond .le 7, 3) := by decide +kernel
theorem dX12_takeOfWord_148 : decode cX12_takeOfWord 148 = .ok (.iconst 1, 1) := by decide +kernel
theorem dX12_takeOfWord_149 : decode cX12_takeOfWord 149 = .ok (.goto 4, 3) := by decide +kernel
theorem dX12_takeOfWord_152 : decode cX12_takeOfWord 152 = .ok (.iconst 0, 1) := by decide +kernel
theorem dX12_takeOfWord_153 : decode cX12_takeOfWord 153 = .ok (.ireturn, 1) := by decide +kernel
theorem dX12_takeKind_0 : decode cX12_takeKind 0 = .ok (.iload_n 1, 1) := by decide +kernel
theorem dX12_takeKind_1 : decode cX12_takeKind 1 = .ok (.bipush 65, 2) := by decide +kernel
theorem dX12_takeKind_3 : decode cX12_takeKind 3 = .ok (.isub, 1) := by decide +kernel
theorem dX12_takeKind_4 : decode cX12_takeKind 4 = .ok (.istore_n 3, 1) := by decide +kernel
theorem dX12_takeKind_5 : decode cX12_takeKind 5 = .ok (.iload_n 3, 1) := by decide +kernel
theorem dX12_takeKind_6 : decode cX12_takeKind 6 = .ok (.invokestatic 145, 3) := by decide +kernel
theorem dX12_takeKind_9 : decode cX12_takeKind 9 = .ok (.ifCond .eq 16, 3) := by decide +kernel
theorem dX12_takeKind_12 : decode cX12_takeKind 12 = .ok (.aload_n 0, 1) := by decide +kernel
theorem dX12_takeKind_13 : decode cX12_takeKind 13 = .ok (.getfield 62, 3) := by decide +kernel
theorem dX12_takeKind_16 : decode cX12_takeKind 16 = .ok (.iload_n 2, 1) := by decide +kernel
theorem dX12_takeKind_17 : decode cX12_takeKind 17 = .ok (.iaload, 1) := by decide +kernel
theorem dX12_takeKind_18 : decode cX12_takeKind 18 = .ok (.iload_n 3, 1) := by decide +kernel
theorem dX12_takeKind_19 : decode cX12_takeKind 19 = .ok (.invokestatic 149, 3) := by decide +kernel
theorem dX12_takeKind_22 : decode cX12_takeKind 22 = .ok (.ifCond .eq 5, 3) := by decide +kernel
theorem dX12_takeKind_25 : decode cX12_takeKind 25 = .ok (.iconst 0, 1) := by decide +kernel
theorem dX12_takeKind_26 : decode cX12_takeKind 26 = .ok (.ireturn, 1) := by decide +kernel
theorem dX12_takeKind_27 : decode cX12_takeKind 27 = .ok (.aload_n 0, 1) := by decide +kernel
theorem dX12_takeKind_28 : decode cX12_takeKind 28 = .ok (.getfield 62, 3) := by decide +kernel
theorem dX12_takeKind_31 : decode cX12_takeKind 31 = .ok (.iload_n 2, 1) := by decide +kernel
theorem dX12_takeKind_32 : decode cX12_takeKind 32 = .ok (.dup2, 1) := by decide +kernel
theorem dX12_takeKind_33 : decode cX12_takeKind 33 = .ok (.iaload, 1) := by decide +kernel
theorem dX12_takeKind_34 : decode cX12_takeKind 34 = .ok (.iconst 1, 1) := by decide +kernel
theorem dX12_takeKind_35 : decode cX12_takeKind 35 = .ok (.iload_n 3, 1) := by decide +kernel
theorem dX12_takeKind_36 : decode cX12_takeKind 36 = .ok (.ishl, 1) := by decide +kernel
theorem dX12_takeKind_37 : decode cX12_takeKind 37 = .ok (.ior, 1) := by decide +kernel
theorem dX12_takeKind_38 : decode cX12_takeKind 38 = .ok (.iastore, 1) := by decide +kernel
theorem dX12_takeKind_39 : decode cX12_takeKind 39 = .ok (.aload_n 0, 1) := by decide +kernel
theorem dX12_takeKind_40 : decode cX12_takeKind 40 = .ok (.iconst 0, 1) := by decide +kernel
theorem dX12_takeKind_41 : decode cX12_takeKind 41 = .ok (.putfield 123, 3) := by decide +kernel
theorem dX12_takeKind_44 : decode cX12_takeKind 44 = .ok (.iconst 1, 1) := by decide +kernel
theorem dX12_takeKind_45 : decode cX12_takeKind 45 = .ok (.ireturn, 1) := by decide +kernel
theorem dX12_takeOfPair_0 : decode cX12_takeOfPair 0 = .ok (.iload_n 1, 1) := by decide +kernel
theorem dX12_takeOfPair_1 : decode cX12_takeOfPair 1 = .ok (.bipush 65, 2) := by decide +kernel
theorem dX12_takeOfPair_3 : decode cX12_takeOfPair 3 = .ok (.isub, 1) := by decide +kernel
theorem dX12_takeOfPair_4 : decode cX12_takeOfPair 4 = .ok (.istore_n 2, 1) := by decide +kernel
theorem dX12_takeOfPair_5 : decode cX12_takeOfPair 5 = .ok (.aload_n 0, 1) := by decide +kernel
theorem dX12_takeOfPair_6 : decode cX12_takeOfPair 6 = .ok (.getfield 123, 3) := by decide +kernel
theorem dX12_takeOfPair_9 : decode cX12_takeOfPair 9 = .ok (.iconst 2, 1) := by decide +kernel
theorem dX12_takeOfPair_10 : decode cX12_takeOfPair 10 = .ok (.if_icmp .ne 16, 3) := by decide +kernel
theorem dX12_takeOfPair_13 : decode cX12_takeOfPair 13 = .ok (.aload_n 0, 1) := by decide +kernel
theorem dX12_takeOfPair_14 : decode cX12_takeOfPair 14 = .ok (.iload_n 1, 1) := by decide +kernel
theorem dX12_takeOfPair_15 : decode cX12_takeOfPair 15 = .ok (.bipush 21, 2) := by decide +kernel
theorem dX12_takeOfPair_17 : decode cX12_takeOfPair 17 = .ok (.aload_n 0, 1) := by decide +kernel
theorem dX12_takeOfPair_18 : decode cX12_takeOfPair 18 = .ok (.getfield 153, 3) := by decide +kernel
theorem dX12_takeOfPair_21 : decode cX12_takeOfPair 21 = .ok (.iadd, 1) := by decide +kernel
theorem dX12_takeOfPair_22 : decode cX12_takeOfPair 22 = .ok (.invokevirtual 156, 3) := by decide +kernel
theorem dX12_takeOfPair_25 : decode cX12_takeOfPair 25 = .ok (.ireturn, 1) := by decide +kernel
theorem dX12_takeOfPair_26 : decode cX12_takeOfPair 26 = .ok (.aload_n 0, 1) := by decide +kernel
theorem dX12_takeOfPair_27 : decode cX12_takeOfPair 27 = .ok (.iload_n 2, 1) := by decide +kernel
theorem dX12_takeOfPair_28 : decode cX12_takeOfPair 28 = .ok (.putfield 153, 3) := by decide +kernel
theorem dX12_takeOfPair_31 : decode cX12_takeOfPair 31 = .ok (.aload_n 0, 1) := by decide +kernel
theorem dX12_takeOfPair_32 : decode cX12_takeOfPair 32 = .ok (.iconst 2, 1) := by decide +kernel
theorem dX12_takeOfPair_33 : decode cX12_takeOfPair 33 = .ok (.putfield 123, 3) := by decide +kernel
theorem dX12_takeOfPair_36 : decode cX12_takeOfPair 36 = .ok (.iload_n 2, 1) := by decide +kernel
theorem dX12_takeOfPair_37 : decode cX12_takeOfPair 37 = .ok (.invokestatic 145, 3) := by decide +kernel
theorem dX12_takeOfPair_40 : decode cX12_takeOfPair 40 = .ok (.ifCond .eq 21, 3) := by decide +kernel
theorem dX12_takeOfPair_43 : decode cX12_takeOfPair 43 = .ok (.aload_n 0, 1) := by decide +kernel
theorem dX12_takeOfPair_44 : decode cX12_takeOfPair 44 = .ok (.getfield 62, 3) := by decide +kernel
theorem dX12_takeOfPair_47 : decode cX12_takeOfPair 47 = .ok (.bipush 21, 2) := by decide +kernel
theorem dX12_takeOfPair_49 : decode cX12_takeOfPair 49 = .ok (.iload_n 2, 1) := by decide +kernel
theorem dX12_takeOfPair_50 : decode cX12_takeOfPair 50 = .ok (.iadd, 1) := by decide +kernel
theorem dX12_takeOfPair_51 : decode cX12_takeOfPair 51 = .ok (.iaload, 1) := by decide +kernel
theorem dX12_takeOfPair_52 : decode cX12_takeOfPair 52 = .ok (.bipush 15, 2) := by decide +kernel
theorem dX12_takeOfPair_54 : decode cX12_takeOfPair 54 = .ok (.if_icmp .eq 7, 3) := by decide +kernel
theorem dX12_takeOfPair_57 : decode cX12_takeOfPair 57 = .ok (.iconst 1, 1) := by decide +kernel
theorem dX12_takeOfPair_58 : decode cX12_takeOfPair 58 = .ok (.goto 4, 3) := by decide +kernel
theorem dX12_takeOfPair_61 : decode cX12_takeOfPair 61 = .ok (.iconst 0, 1) := by decide +kernel
theorem dX12_takeOfPair_62 : decode cX12_takeOfPair 62 = .ok (.ireturn, 1) := by decide +kernel
theorem dX12_takeOfBag_0 : decode cX12_takeOfBag 0 = .ok (.iload_n 1, 1) := by decide +kernel
theorem dX12_takeOfBag_1 : decode cX12_takeOfBag 1 = .ok (.i2l, 1) := by decide +kernel
theorem dX12_takeOfBag_2 : decode cX12_takeOfBag 2 = .ok (.ldc2_w 137, 3) := by decide +kernel
theorem dX12_takeOfBag_5 : decode cX12_takeOfBag 5 = .ok (.ldc2_w 139, 3) := by decide +kernel
theorem dX12_takeOfBag_8 : decode cX12_takeOfBag 8 = .ok (.invokestatic 107, 3) := by decide +kernel
theorem dX12_takeOfBag_11 : decode cX12_takeOfBag 11 = .ok (.ifCond .ne 5, 3) := by decide +kernel
theorem dX12_takeOfBag_14 : decode cX12_takeOfBag 14 = .ok (.iconst 0, 1) := by decide +kernel
theorem dX12_takeOfBag_15 : decode cX12_takeOfBag 15 = .ok (.ireturn, 1) := by decide +kernel
theorem dX12_takeOfBag_16 : decode cX12_takeOfBag 16 = .ok (.aload_n 0, 1) := by decide +kernel
theorem dX12_takeOfBag_17 : decode cX12_takeOfBag 17 = .ok (.getfield 62, 3) := by decide +kernel
theorem dX12_takeOfBag_20 : decode cX12_takeOfBag 20 = .ok (.iload_n 1, 1) := by decide +kernel
theorem dX12_takeOfBag_21 : decode cX12_takeOfBag 21 = .ok (.bipush 97, 2) := by decide +kernel
theorem dX12_takeOfBag_23 : decode cX12_takeOfBag 23 = .ok (.isub, 1) := by decide +kernel
theorem dX12_takeOfBag_24 : decode cX12_takeOfBag 24 = .ok (.dup2, 1) := by decide +kernel
theorem dX12_takeOfBag_25 : decode cX12_takeOfBag 25 = .ok (.iaload, 1) := by decide +kernel
theorem dX12_takeOfBag_26 : decode cX12_takeOfBag 26 = .ok (.iconst 1, 1) := by decide +kernel
theorem dX12_takeOfBag_27 : decode cX12_takeOfBag 27 = .ok (.iadd, 1) := by decide +kernel
theorem dX12_takeOfBag_28 : decode cX12_takeOfBag 28 = .ok (.iastore, 1) := by decide +kernel
theorem dX12_takeOfBag_29 : decode cX12_takeOfBag 29 = .ok (.aload_n 0, 1) := by decide +kernel
theorem dX12_takeOfBag_30 : decode cX12_takeOfBag 30 = .ok (.iconst 0, 1) := by decide +kernel
theorem dX12_takeOfBag_31 : decode cX12_takeOfBag 31 = .ok (.putfield 123, 3) := by decide +kernel
theorem dX12_takeOfBag_34 : decode cX12_takeOfBag 34 = .ok (.iconst 1, 1) := by decide +kernel
theorem dX12_takeOfBag_35 : decode cX12_takeOfBag 35 = .ok (.ireturn, 1) := by decide +kernel
theorem dX12_takeIn_0 : decode cX12_takeIn 0 = .ok (.aload_n 0, 1) := by decide +kernel
theorem dX12_takeIn_1 : decode cX12_takeIn 1 = .ok (.getfield 120, 3) := by decide +kernel
theorem dX12_takeIn_4 : decode cX12_takeIn 4 = .ok (.lookupswitch 72 #[(43, 50), (46, 64), (94, 56), (119, 44)], 44) := by decide +kernel
theorem dX12_takeIn_48 : decode cX12_takeIn 48 = .ok (.aload_n 0, 1) := by decide +kernel
theorem dX12_takeIn_49 : decode cX12_takeIn 49 = .ok (.iload_n 1, 1) := by decide +kernel
theorem dX12_takeIn_50 : decode cX12_takeIn 50 = .ok (.invokevirtual 159, 3) := by decide +kernel
theorem dX12_takeIn_53 : decode cX12_takeIn 53 = .ok (.ireturn, 1) := by decide +kernel
theorem dX12_takeIn_54 : decode cX12_takeIn 54 = .ok (.aload_n 0, 1) := by decide +kernel
theorem dX12_takeIn_55 : decode cX12_takeIn 55 = .ok (.iload_n 1, 1) := by decide +kernel
theorem dX12_takeIn_56 : decode cX12_takeIn 56 = .ok (.invokevirtual 162, 3) := by decide +kernel
theorem dX12_takeIn_59 : decode cX12_takeIn 59 = .ok (.ireturn, 1) := by decide +kernel
theorem dX12_takeIn_60 : decode cX12_takeIn 60 = .ok (.aload_n 0, 1) := by decide +kernel
theorem dX12_takeIn_61 : decode cX12_takeIn 61 = .ok (.iload_n 1, 1) := by decide +kernel
theorem dX12_takeIn_62 : decode cX12_takeIn 62 = .ok (.bipush 19, 2) := by decide +kernel
theorem dX12_takeIn_64 : decode cX12_takeIn 64 = .ok (.invokevirtual 156, 3) := by decide +kernel
theorem dX12_takeIn_67 : decode cX12_takeIn 67 = .ok (.ireturn, 1) := by decide +kernel
theorem dX12_takeIn_68 : decode cX12_takeIn 68 = .ok (.aload_n 0, 1) := by decide +kernel
theorem dX12_takeIn_69 : decode cX12_takeIn 69 = .ok (.iload_n 1, 1) := by decide +kernel
theorem dX12_takeIn_70 : decode cX12_takeIn 70 = .ok (.bipush 20, 2) := by decide +kernel
theorem dX12_takeIn_72 : decode cX12_takeIn 72 = .ok (.invokevirtual 156, 3) := by decide +kernel
theorem dX12_takeIn_75 : decode cX12_takeIn 75 = .ok (.ireturn, 1) := by decide +kernel
theorem dX12_takeIn_76 : decode cX12_takeIn 76 = .ok (.aload_n 0, 1) := by decide +kernel
theorem dX12_takeIn_77 : decode cX12_takeIn 77 = .ok (.iload_n 1, 1) := by decide +kernel
theorem dX12_takeIn_78 : decode cX12_takeIn 78 = .ok (.invokevirtual 165, 3) := by decide +kernel
theorem dX12_takeIn_81 : decode cX12_takeIn 81 = .ok (.ireturn, 1) := by decide +kernel
theorem dX12_readText_0 : decode cX12_readText 0 = .ok (.aload_n 0, 1) := by decide +kernel
theorem dX12_readText_1 : decode cX12_readText 1 = .ok (.iconst 0, 1) := by decide +kernel
theorem dX12_readText_2 : decode cX12_readText 2 = .ok (.putfield 126, 3) := by decide +kernel
theorem dX12_readText_5 : decode cX12_readText 5 = .ok (.aload_n 0, 1) := by decide +kernel
theorem dX12_readText_6 : decode cX12_readText 6 = .ok (.getfield 62, 3) := by decide +kernel
theorem dX12_readText_9 : decode cX12_readText 9 = .ok (.invokestatic 99, 3) := by decide +kernel
theorem dX12_readText_12 : decode cX12_readText 12 = .ok (.aload_n 0, 1) := by decide +kernel
theorem dX12_readText_13 : decode cX12_readText 13 = .ok (.iconst 0, 1) := by decide +kernel
theorem dX12_readText_14 : decode cX12_readText 14 = .ok (.putfield 123, 3) := by decide +kernel
theorem dX12_readText_17 : decode cX12_readText 17 = .ok (.iconst 0, 1) := by decide +kernel
theorem dX12_readText_18 : decode cX12_readText 18 = .ok (.istore_n 1, 1) := by decide +kernel
theorem dX12_readText_19 : decode cX12_readText 19 = .ok (.iload_n 1, 1) := by decide +kernel
theorem dX12_readText_20 : decode cX12_readText 20 = .ok (.aload_n 0, 1) := by decide +kernel
theorem dX12_readText_21 : decode cX12_readText 21 = .ok (.getfield 117, 3) := by decide +kernel
theorem dX12_readText_24 : decode cX12_readText 24 = .ok (.if_icmp .ge 47, 3) := by decide +kernel
theorem dX12_readText_27 : decode cX12_readText 27 = .ok (.aload_n 0, 1) := by decide +kernel
theorem dX12_readText_28 : decode cX12_readText 28 = .ok (.getfield 123, 3) := by decide +kernel
theorem dX12_readText_31 : decode cX12_readText 31 = .ok (.ifCond .ne 19, 3) := by decide +kernel
theorem dX12_readText_34 : decode cX12_readText 34 = .ok (.aload_n 0, 1) := by decide +kernel
theorem dX12_readText_35 : decode cX12_readText 35 = .ok (.aload_n 0, 1) := by decide +kernel
theorem dX12_readText_36 : decode cX12_readText 36 = .ok (.getfield 7, 3) := by decide +kernel
theorem dX12_readText_39 : decode cX12_readText 39 = .ok (.iload_n 1, 1) := by decide +kernel
theorem dX12_readText_40 : decode cX12_readText 40 = .ok (.iaload, 1) := by decide +kernel
theorem dX12_readText_41 : decode cX12_readText 41 = .ok (.invokevirtual 168, 3) := by decide +kernel
theorem dX12_readText_44 : decode cX12_readText 44 = .ok (.ifCond .eq 19, 3) := by decide +kernel
theorem dX12_readText_47 : decode cX12_readText 47 = .ok (.goto 18, 3) := by decide +kernel
theorem dX12_readText_50 : decode cX12_readText 50 = .ok (.aload_n 0, 1) := by decide +kernel
theorem dX12_readText_51 : decode cX12_readText 51 = .ok (.aload_n 0, 1) := by decide +kernel
theorem dX12_readText_52 : decode cX12_readText 52 = .ok (.getfield 7, 3) := by decide +kernel
theorem dX12_readText_55 : decode cX12_readText 55 = .ok (.iload_n 1, 1) := by decide +kernel
theorem dX12_readText_56 : decode cX12_readText 56 = .ok (.iaload, 1) := by decide +kernel
theorem dX12_readText_57 : decode cX12_readText 57 = .ok (.invokevirtual 171, 3) := by decide +kernel
theorem dX12_readText_60 : decode cX12_readText 60 = .ok (.ifCond .ne 5, 3) := by decide +kernel
theorem dX12_readText_63 : decode cX12_readText 63 = .ok (.iload_n 1, 1) := by decide +kernel
theorem dX12_readText_64 : decode cX12_readText 64 = .ok (.ireturn, 1) := by decide +kernel
theorem dX12_readText_65 : decode cX12_readText 65 = .ok (.iinc 1 1, 3) := by decide +kernel
theorem dX12_readText_68 : decode cX12_readText 68 = .ok (.goto (-49), 3) := by decide +kernel
theorem dX12_readText_71 : decode cX12_readText 71 = .ok (.aload_n 0, 1) := by decide +kernel
theorem dX12_readText_72 : decode cX12_readText 72 = .ok (.getfield 123, 3) := by decide +kernel
theorem dX12_readText_75 : decode cX12_readText 75 = .ok (.ifCond .ne 8, 3) := by decide +kernel
theorem dX12_readText_78 : decode cX12_readText 78 = .ok (.bipush (-9), 2) := by decide +kernel
theorem dX12_readText_80 : decode cX12_readText 80 = .ok (.goto 7, 3) := by decide +kernel
theorem dX12_readText_83 : decode cX12_readText 83 = .ok (.aload_n 0, 1) := by decide +kernel
theorem dX12_readText_84 : decode cX12_readText 84 = .ok (.getfield 117, 3) := by decide +kernel
theorem dX12_readText_87 : decode cX12_readText 87 = .ok (.ireturn, 1) := by decide +kernel
theorem dX12_fault_0 : decode cX12_fault 0 = .ok (.aload_n 0, 1) := by decide +kernel
theorem dX12_fault_1 : decode cX12_fault 1 = .ok (.invokevirtual 174, 3) := by decide +kernel
theorem dX12_fault_4 : decode cX12_fault 4 = .ok (.ireturn, 1) := by decide +kernel
theorem dX12_house_0 : decode cX12_house 0 = .ok (.aload_n 0, 1) := by decide +kernel
theorem dX12_house_1 : decode cX12_house 1 = .ok (.invokevirtual 174, 3) := by decide +kernel
theorem dX12_house_4 : decode cX12_house 4 = .ok (.bipush (-9), 2) := by decide +kernel
theorem dX12_house_6 : decode cX12_house 6 = .ok (.if_icmp .eq 6, 3) := by decide +kernel
theorem dX12_house_9 : decode cX12_house 9 = .ok (.bipush (-3), 2) := by decide +kernel
theorem dX12_house_11 : decode cX12_house 11 = .ok (.ireturn, 1) := by decide +kernel
theorem dX12_house_12 : decode cX12_house 12 = .ok (.aload_n 0, 1) := by decide +kernel
theorem dX12_house_13 : decode cX12_house 13 = .ok (.aload_n 0, 1) := by decide +kernel
theorem dX12_house_14 : decode cX12_house 14 = .ok (.getfield 126, 3) := by decide +kernel
theorem dX12_house_17 : decode cX12_house 17 = .ok (.putfield 103, 3) := by decide +kernel
theorem dX12_house_20 : decode cX12_house 20 = .ok (.iconst 0, 1) := by decide +kernel
theorem dX12_house_21 : decode cX12_house 21 = .ok (.istore_n 1, 1) := by decide +kernel
theorem dX12_house_22 : decode cX12_house 22 = .ok (.iload_n 1, 1) := by decide +kernel
theorem dX12_house_23 : decode cX12_house 23 = .ok (.bipush 80, 2) := by decide +kernel
theorem dX12_house_25 : decode cX12_house 25 = .ok (.if_icmp .ge 16, 3) := by decide +kernel
theorem dX12_house_28 : decode cX12_house 28 = .ok (.aload_n 0, 1) := by decide +kernel
theorem dX12_house_29 : decode cX12_house 29 = .ok (.getfield 22, 3) := by decide +kernel
theorem dX12_house_32 : decode cX12_house 32 = .ok (.iload_n 1, 1) := by decide +kernel
theorem dX12_house_33 : decode cX12_house 33 = .ok (.iconst 0, 1) := by decide +kernel
theorem dX12_house_34 : decode cX12_house 34 = .ok (.iastore, 1) := by decide +kernel
theorem dX12_house_35 : decode cX12_house 35 = .ok (.iinc 1 1, 3) := by decide +kernel
theorem dX12_house_38 : decode cX12_house 38 = .ok (.goto (-16), 3) := by decide +kernel
theorem dX12_house_41 : decode cX12_house 41 = .ok (.iconst 0, 1) := by decide +kernel
theorem dX12_house_42 : decode cX12_house 42 = .ok (.istore_n 1, 1) := by decide +kernel
theorem dX12_house_43 : decode cX12_house 43 = .ok (.iload_n 1, 1) := by decide +kernel
theorem dX12_house_44 : decode cX12_house 44 = .ok (.aload_n 0, 1) := by decide +kernel
theorem dX12_house_45 : decode cX12_house 45 = .ok (.getfield 103, 3) := by decide +kernel
theorem dX12_house_48 : decode cX12_house 48 = .ok (.if_icmp .ge 98, 3) := by decide +kernel
theorem dX12_house_51 : decode cX12_house 51 = .ok (.aload_n 0, 1) := by decide +kernel
theorem dX12_house_52 : decode cX12_house 52 = .ok (.getfield 16, 3) := by decide +kernel
theorem dX12_house_55 : decode cX12_house 55 = .ok (.iload_n 1, 1) := by decide +kernel
theorem dX12_house_56 : decode cX12_house 56 = .ok (.aload_n 0, 1) := by decide +kernel
theorem dX12_house_57 : decode cX12_house 57 = .ok (.getfield 56, 3) := by decide +kernel
theorem dX12_house_60 : decode cX12_house 60 = .ok (.iload_n 1, 1) := by decide +kernel
theorem dX12_house_61 : decode cX12_house 61 = .ok (.iaload, 1) := by decide +kernel
theorem dX12_house_62 : decode cX12_house 62 = .ok (.iastore, 1) := by decide +kernel
theorem dX12_house_63 : decode cX12_house 63 = .ok (.aload_n 0, 1) := by decide +kernel
theorem dX12_house_64 : decode cX12_house 64 = .ok (.getfield 19, 3) := by decide +kernel
theorem dX12_house_67 : decode cX12_house 67 = .ok (.iload_n 1, 1) := by decide +kernel
theorem dX12_house_68 : decode cX12_house 68 = .ok (.aload_n 0, 1) := by decide +kernel
theorem dX12_house_69 : decode cX12_house 69 = .ok (.getfield 59, 3) := by decide +kernel
theorem dX12_house_72 : decode cX12_house 72 = .ok (.iload_n 1, 1) := by decide +kernel
theorem dX12_house_73 : decode cX12_house 73 = .ok (.iaload, 1) := by decide +kernel
theorem dX12_house_74 : decode cX12_house 74 = .ok (.iastore, 1) := by decide +kernel
theorem dX12_house_75 : decode cX12_house 75 = .ok (.iconst 0, 1) := by decide +kernel
theorem dX12_house_76 : decode cX12_house 76 = .ok (.istore_n 2, 1) := by decide +kernel
theorem dX12_house_77 : decode cX12_house 77 = .ok (.iload_n 2, 1) := by decide +kernel
theorem dX12_house_78 : decode cX12_house 78 = .ok (.aload_n 0, 1) := by decide +kernel
theorem dX12_house_79 : decode cX12_house 79 = .ok (.getfield 16, 3) := by decide +kernel
theorem dX12_house_82 : decode cX12_house 82 = .ok (.iload_n 1, 1) := by decide +kernel
theorem dX12_house_83 : decode cX12_house 83 = .ok (.iaload, 1) := by decide +kernel
theorem dX12_house_84 : decode cX12_house 84 = .ok (.if_icmp .ge 56, 3) := by decide +kernel
theorem dX12_house_87 : decode cX12_house 87 = .ok (.aload_n 0, 1) := by decide +kernel
theorem dX12_house_88 : decode cX12_house 88 = .ok (.getfield 13, 3) := by decide +kernel
theorem dX12_house_91 : decode cX12_house 91 = .ok (.bipush 6, 2) := by decide +kernel
theorem dX12_house_93 : decode cX12_house 93 = .ok (.iload_n 1, 1) := by decide +kernel
theorem dX12_house_94 : decode cX12_house 94 = .ok (.imul, 1) := by decide +kernel
theorem dX12_house_95 : decode cX12_house 95 = .ok (.iload_n 2, 1) := by decide +kernel
theorem dX12_house_96 : decode cX12_house 96 = .ok (.iadd, 1) := by decide +kernel
theorem dX12_house_97 : decode cX12_house 97 = .ok (.aload_n 0, 1) := by decide +kernel
theorem dX12_house_98 : decode cX12_house 98 = .ok (.getfield 53, 3) := by decide +kernel
theorem dX12_house_101 : decode cX12_house 101 = .ok (.bipush 6, 2) := by decide +kernel
theorem dX12_house_103 : decode cX12_house 103 = .ok (.iload_n 1, 1) := by decide +kernel
theorem dX12_house_104 : decode cX12_house 104 = .ok (.imul, 1) := by decide +kernel
theorem dX12_house_105 : decode cX12_house 105 = .ok (.iload_n 2, 1) := by decide +kernel
theorem dX12_house_106 : decode cX12_house 106 = .ok (.iadd, 1) := by decide +kernel
theorem dX12_house_107 : decode cX12_house 107 = .ok (.iaload, 1) := by decide +kernel
theorem dX12_house_108 : decode cX12_house 108 = .ok (.iastore, 1) := by decide +kernel
theorem dX12_house_109 : decode cX12_house 109 = .ok (.aload_n 0, 1) := by decide +kernel
theorem dX12_house_110 : decode cX12_house 110 = .ok (.getfield 22, 3) := by decide +kernel
theorem dX12_house_113 : decode cX12_house 113 = .ok (.bipush 8, 2) := by decide +kernel
theorem dX12_house_115 : decode cX12_house 115 = .ok (.iload_n 1, 1) := by decide +kernel
theorem dX12_house_116 : decode cX12_house 116 = .ok (.imul, 1) := by decide +kernel
theorem dX12_house_117 : decode cX12_house 117 = .ok (.aload_n 0, 1) := by decide +kernel
theorem dX12_house_118 : decode cX12_house 118 = .ok (.getfield 13, 3) := by decide +kernel
theorem dX12_house_121 : decode cX12_house 121 = .ok (.bipush 6, 2) := by decide +kernel
theorem dX12_house_123 : decode cX12_house 123 = .ok (.iload_n 1, 1) := by decide +kernel
theorem dX12_house_124 : decode cX12_house 124 = .ok (.imul, 1) := by decide +kernel
theorem dX12_house_125 : decode cX12_house 125 = .ok (.iload_n 2, 1) := by decide +kernel
theorem dX12_house_126 : decode cX12_house 126 = .ok (.iadd, 1) := by decide +kernel
theorem dX12_house_127 : decode cX12_house 127 = .ok (.iaload, 1) := by decide +kernel
theorem dX12_house_128 : decode cX12_house 128 = .ok (.iadd, 1) := by decide +kernel
theorem dX12_house_129 : decode cX12_house 129 = .ok (.dup2, 1) := by decide +kernel
theorem dX12_house_130 : decode cX12_house 130 = .ok (.iaload, 1) := by decide +kernel
theorem dX12_house_131 : decode cX12_house 131 = .ok (.iconst 1, 1) := by decide +kernel
theorem dX12_house_132 : decode cX12_house 132 = .ok (.iadd, 1) := by decide +kernel
theorem dX12_house_133 : decode cX12_house 133 = .ok (.iastore, 1) := by decide +kernel
theorem dX12_house_134 : decode cX12_house 134 = .ok (.iinc 2 1, 3) := by decide +kernel
theorem dX12_house_137 : decode cX12_house 137 = .ok (.goto (-60), 3) := by decide +kernel
theorem dX12_house_140 : decode cX12_house 140 = .ok (.iinc 1 1, 3) := by decide +kernel
theorem dX12_house_143 : decode cX12_house 143 = .ok (.goto (-100), 3) := by decide +kernel
theorem dX12_house_146 : decode cX12_house 146 = .ok (.aload_n 0, 1) := by decide +kernel
theorem dX12_house_147 : decode cX12_house 147 = .ok (.getfield 62, 3) := by decide +kernel
theorem dX12_house_150 : decode cX12_house 150 = .ok (.aload_n 0, 1) := by decide +kernel
theorem dX12_house_151 : decode cX12_house 151 = .ok (.getfield 25, 3) := by decide +kernel
theorem dX12_house_154 : decode cX12_house 154 = .ok (.invokestatic 178, 3) := by decide +kernel
theorem dX12_house_157 : decode cX12_house 157 = .ok (.aload_n 0, 1) := by decide +kernel
theorem dX12_house_158 : decode cX12_house 158 = .ok (.iconst 0, 1) := by decide +kernel
theorem dX12_house_159 : decode cX12_house 159 = .ok (.putfield 182, 3) := by decide +kernel
theorem dX12_house_162 : decode cX12_house 162 = .ok (.aload_n 0, 1) := by decide +kernel
theorem dX12_house_163 : decode cX12_house 163 = .ok (.iconst 0, 1) := by decide +kernel
theorem dX12_house_164 : decode cX12_house 164 = .ok (.putfield 185, 3) := by decide +kernel
theorem dX12_house_167 : decode cX12_house 167 = .ok (.aload_n 0, 1) := by decide +kernel
theorem dX12_house_168 : decode cX12_house 168 = .ok (.getfield 37, 3) := by decide +kernel
theorem dX12_house_171 : decode cX12_house 171 = .ok (.iconst 0, 1) := by decide +kernel
theorem dX12_house_172 : decode cX12_house 172 = .ok (.iconst 0, 1) := by decide +kernel
theorem dX12_house_173 : decode cX12_house 173 = .ok (.bastore, 1) := by decide +kernel
theorem dX12_house_174 : decode cX12_house 174 = .ok (.aload_n 0, 1) := by decide +kernel
theorem dX12_house_175 : decode cX12_house 175 = .ok (.getfield 37, 3) := by decide +kernel
theorem dX12_house_178 : decode cX12_house 178 = .ok (.iconst 1, 1) := by decide +kernel
theorem dX12_house_179 : decode cX12_house 179 = .ok (.iconst 0, 1) := by decide +kernel
theorem dX12_house_180 : decode cX12_house 180 = .ok (.bastore, 1) := by decide +kernel
theorem dX12_house_181 : decode cX12_house 181 = .ok (.aload_n 0, 1) := by decide +kernel
theorem dX12_house_182 : decode cX12_house 182 = .ok (.getfield 103, 3) := by decide +kernel
theorem dX12_house_185 : decode cX12_house 185 = .ok (.ireturn, 1) := by decide +kernel
theorem dX12_look_0 : decode cX12_look 0 = .ok (.aload_n 1, 1) := by decide +kernel
theorem dX12_look_1 : decode cX12_look 1 = .ok (.aload_n 0, 1) := by decide +kernel
theorem dX12_look_2 : decode cX12_look 2 = .ok (.getfield 65, 3) := by decide +kernel
theorem dX12_look_5 : decode cX12_look 5 = .ok (.invokestatic 178, 3) := by decide +kernel
theorem dX12_look_8 : decode cX12_look 8 = .ok (.aload_n 0, 1) := by decide +kernel
theorem dX12_look_9 : decode cX12_look 9 = .ok (.getfield 68, 3) := by decide +kernel
theorem dX12_look_12 : decode cX12_look 12 = .ok (.iconst 0, 1) := by decide +kernel
theorem dX12_look_13 : decode cX12_look 13 = .ok (.iconst 1, 1) := by decide +kernel
theorem dX12_look_14 : decode cX12_look 14 = .ok (.iastore, 1) := by decide +kernel
theorem dX12_look_15 : decode cX12_look 15 = .ok (.iconst 0, 1) := by decide +kernel
theorem dX12_look_16 : decode cX12_look 16 = .ok (.istore_n 2, 1) := by decide +kernel
theorem dX12_look_17 : decode cX12_look 17 = .ok (.iload_n 2, 1) := by decide +kernel
theorem dX12_look_18 : decode cX12_look 18 = .ok (.bipush 8, 2) := by decide +kernel
theorem dX12_look_20 : decode cX12_look 20 = .ok (.if_icmp .ge 29, 3) := by decide +kernel
theorem dX12_look_23 : decode cX12_look 23 = .ok (.aload_n 0, 1) := by decide +kernel
theorem dX12_look_24 : decode cX12_look 24 = .ok (.getfield 68, 3) := by decide +kernel
theorem dX12_look_27 : decode cX12_look 27 = .ok (.iload_n 2, 1) := by decide +kernel
theorem dX12_look_28 : decode cX12_look 28 = .ok (.iconst 1, 1) := by decide +kernel
theorem dX12_look_29 : decode cX12_look 29 = .ok (.iadd, 1) := by decide +kernel
theorem dX12_look_30 : decode cX12_look 30 = .ok (.aload_n 0, 1) := by decide +kernel
theorem dX12_look_31 : decode cX12_look 31 = .ok (.getfield 68, 3) := by decide +kernel
theorem dX12_look_34 : decode cX12_look 34 = .ok (.iload_n 2, 1) := by decide +kernel
theorem dX12_look_35 : decode cX12_look 35 = .ok (.iaload, 1) := by decide +kernel
theorem dX12_look_36 : decode cX12_look 36 = .ok (.aload_n 1, 1) := by decide +kernel
theorem dX12_look_37 : decode cX12_look 37 = .ok (.iload_n 2, 1) := by decide +kernel
theorem dX12_look_38 : decode cX12_look 38 = .ok (.iaload, 1) := by decide +kernel
theorem dX12_look_39 : decode cX12_look 39 = .ok (.iconst 1, 1) := by decide +kernel
theorem dX12_look_40 : decode cX12_look 40 = .ok (.iadd, 1) := by decide +kernel
theorem dX12_look_41 : decode cX12_look 41 = .ok (.imul, 1) := by decide +kernel
theorem dX12_look_42 : decode cX12_look 42 = .ok (.iastore, 1) := by decide +kernel
theorem dX12_look_43 : decode cX12_look 43 = .ok (.iinc 2 1, 3) := by decide +kernel
theorem dX12_look_46 : decode cX12_look 46 = .ok (.goto (-29), 3) := by decide +kernel
theorem dX12_look_49 : decode cX12_look 49 = .ok (.aload_n 0, 1) := by decide +kernel
theorem dX12_look_50 : decode cX12_look 50 = .ok (.aload_n 0, 1) := by decide +kernel
theorem dX12_look_51 : decode cX12_look 51 = .ok (.getfield 68, 3) := by decide +kernel
theorem dX12_look_54 : decode cX12_look 54 = .ok (.bipush 8, 2) := by decide +kernel
theorem dX12_look_56 : decode cX12_look 56 = .ok (.iaload, 1) := by decide +kernel
theorem dX12_look_57 : decode cX12_look 57 = .ok (.iconst 1, 1) := by decide +kernel
theorem dX12_look_58 : decode cX12_look 58 = .ok (.isub, 1) := by decide +kernel
theorem dX12_look_59 : decode cX12_look 59 = .ok (.putfield 188, 3) := by decide +kernel
theorem dX12_look_62 : decode cX12_look 62 = .ok (.aload_n 0, 1) := by decide +kernel
theorem dX12_look_63 : decode cX12_look 63 = .ok (.iconst 0, 1) := by decide +kernel
theorem dX12_look_64 : decode cX12_look 64 = .ok (.putfield 191, 3) := by decide +kernel
theorem dX12_look_67 : decode cX12_look 67 = .ok (.iconst 0, 1) := by decide +kernel
theorem dX12_look_68 : decode cX12_look 68 = .ok (.istore_n 2, 1) := by decide +kernel
theorem dX12_look_69 : decode cX12_look 69 = .ok (.iload_n 2, 1) := by decide +kernel
theorem dX12_look_70 : decode cX12_look 70 = .ok (.aload_n 0, 1) := by decide +kernel
theorem dX12_look_71 : decode cX12_look 71 = .ok (.getfield 103, 3) := by decide +kernel
theorem dX12_look_74 : decode cX12_look 74 = .ok (.if_icmp .ge 175, 3) := by decide +kernel
theorem dX12_look_77 : decode cX12_look 77 = .ok (.aload_n 0, 1) := by decide +kernel
theorem dX12_look_78 : decode cX12_look 78 = .ok (.dup, 1) := by decide +kernel
theorem dX12_look_79 : decode cX12_look 79 = .ok (.getfield 191, 3) := by decide +kernel
theorem dX12_look_82 : decode cX12_look 82 = .ok (.aload_n 1, 1) := by decide +kernel
theorem dX12_look_83 : decode cX12_look 83 = .ok (.bipush 8, 2) := by decide +kernel
theorem dX12_look_85 : decode cX12_look 85 = .ok (.iaload, 1) := by decide +kernel
theorem dX12_look_86 : decode cX12_look 86 = .ok (.iload_n 2, 1) := by decide +kernel
theorem dX12_look_87 : decode cX12_look 87 = .ok (.invokestatic 149, 3) := by decide +kernel
theorem dX12_look_90 : decode cX12_look 90 = .ok (.ifCond .eq 7, 3) := by decide +kernel
theorem dX12_look_93 : decode cX12_look 93 = .ok (.iconst 0, 1) := by decide +kernel
theorem dX12_look_94 : decode cX12_look 94 = .ok (.goto 6, 3) := by decide +kernel
theorem dX12_look_97 : decode cX12_look 97 = .ok (.iconst 1, 1) := by decide +kernel
theorem dX12_look_98 : decode cX12_look 98 = .ok (.iload_n 2, 1) := by decide +kernel
theorem dX12_look_99 : decode cX12_look 99 = .ok (.ishl, 1) := by decide +kernel
theorem dX12_look_100 : decode cX12_look 100 = .ok (.ior, 1) := by decide +kernel
theorem dX12_look_101 : decode cX12_look 101 = .ok (.putfield 191, 3) := by decide +kernel
theorem dX12_look_104 : decode cX12_look 104 = .ok (.aload_n 0, 1) := by decide +kernel
theorem dX12_look_105 : decode cX12_look 105 = .ok (.getfield 71, 3) := by decide +kernel
theorem dX12_look_108 : decode cX12_look 108 = .ok (.iload_n 2, 1) := by decide +kernel
theorem dX12_look_109 : decode cX12_look 109 = .ok (.iconst 0, 1) := by decide +kernel
theorem dX12_look_110 : decode cX12_look 110 = .ok (.iastore, 1) := by decide +kernel
theorem dX12_look_111 : decode cX12_look 111 = .ok (.iconst 0, 1) := by decide +kernel
theorem dX12_look_112 : decode cX12_look 112 = .ok (.istore_n 3, 1) := by decide +kernel
theorem dX12_look_113 : decode cX12_look 113 = .ok (.iload_n 3, 1) := by decide +kernel
theorem dX12_look_114 : decode cX12_look 114 = .ok (.bipush 8, 2) := by decide +kernel
theorem dX12_look_116 : decode cX12_look 116 = .ok (.if_icmp .ge 36, 3) := by decide +kernel
theorem dX12_look_119 : decode cX12_look 119 = .ok (.aload_n 0, 1) := by decide +kernel
theorem dX12_look_120 : decode cX12_look 120 = .ok (.getfield 71, 3) := by decide +kernel
theorem dX12_look_123 : decode cX12_look 123 = .ok (.iload_n 2, 1) := by decide +kernel
theorem dX12_look_124 : decode cX12_look 124 = .ok (.dup2, 1) := by decide +kernel
theorem dX12_look_125 : decode cX12_look 125 = .ok (.iaload, 1) := by decide +kernel
theorem dX12_look_126 : decode cX12_look 126 = .ok (.aload_n 0, 1) := by decide +kernel
theorem dX12_look_127 : decode cX12_look 127 = .ok (.getfield 68, 3) := by decide +kernel
theorem dX12_look_130 : decode cX12_look 130 = .ok (.iload_n 3, 1) := by decide +kernel
theorem dX12_look_131 : decode cX12_look 131 = .ok (.iaload, 1) := by decide +kernel
theorem dX12_look_132 : decode cX12_look 132 = .ok (.aload_n 0, 1) := by decide +kernel
theorem dX12_look_133 : decode cX12_look 133 = .ok (.getfield 22, 3) := by decide +kernel
theorem dX12_look_136 : decode cX12_look 136 = .ok (.bipush 8, 2) := by decide +kernel
theorem dX12_look_138 : decode cX12_look 138 = .ok (.iload_n 2, 1) := by decide +kernel
theorem dX12_look_139 : decode cX12_look 139 = .ok (.imul, 1) := by decide +kernel
theorem dX12_look_140 : decode cX12_look 140 = .ok (.iload_n 3, 1) := by decide +kernel
theorem dX12_look_141 : decode cX12_look 141 = .ok (.iadd, 1) := by decide +kernel
theorem dX12_look_142 : decode cX12_look 142 = .ok (.iaload, 1) := by decide +kernel
theorem dX12_look_143 : decode cX12_look 143 = .ok (.imul, 1) := by decide +kernel
theorem dX12_look_144 : decode cX12_look 144 = .ok (.iadd, 1) := by decide +kernel
theorem dX12_look_145 : decode cX12_look 145 = .ok (.iastore, 1) := by decide +kernel
theorem dX12_look_146 : decode cX12_look 146 = .ok (.iinc 3 1, 3) := by decide +kernel
theorem dX12_look_149 : decode cX12_look 149 = .ok (.goto (-36), 3) := by decide +kernel
theorem dX12_look_152 : decode cX12_look 152 = .ok (.iconst 0, 1) := by decide +kernel
theorem dX12_look_153 : decode cX12_look 153 = .ok (.istore_n 3, 1) := by decide +kernel
theorem dX12_look_154 : decode cX12_look 154 = .ok (.iload_n 3, 1) := by decide +kernel
theorem dX12_look_155 : decode cX12_look 155 = .ok (.aload_n 0, 1) := by decide +kernel
theorem dX12_look_156 : decode cX12_look 156 = .ok (.getfield 188, 3) := by decide +kernel
theorem dX12_look_159 : decode cX12_look 159 = .ok (.if_icmp .gt 84, 3) := by decide +kernel
theorem dX12_look_162 : decode cX12_look 162 = .ok (.iconst 1, 1) := by decide +kernel
theorem dX12_look_163 : decode cX12_look 163 = .ok (.istore 4, 2) := by decide +kernel
theorem dX12_look_165 : decode cX12_look 165 = .ok (.iconst 0, 1) := by decide +kernel
theorem dX12_look_166 : decode cX12_look 166 = .ok (.istore 5, 2) := by decide +kernel
theorem dX12_look_168 : decode cX12_look 168 = .ok (.iload 5, 2) := by decide +kernel
theorem dX12_look_170 : decode cX12_look 170 = .ok (.bipush 8, 2) := by decide +kernel
theorem dX12_look_172 : decode cX12_look 172 = .ok (.if_icmp .ge 52, 3) := by decide +kernel
theorem dX12_look_175 : decode cX12_look 175 = .ok (.iload 4, 2) := by decide +kernel
theorem dX12_look_177 : decode cX12_look 177 = .ok (.ifCond .eq 38, 3) := by decide +kernel
theorem dX12_look_180 : decode cX12_look 180 = .ok (.iload_n 3, 1) := by decide +kernel
theorem dX12_look_181 : decode cX12_look 181 = .ok (.aload_n 0, 1) := by decide +kernel
theorem dX12_look_182 : decode cX12_look 182 = .ok (.getfield 68, 3) := by decide +kernel
theorem dX12_look_185 : decode cX12_look 185 = .ok (.iload 5, 2) := by decide +kernel
theorem dX12_look_187 : decode cX12_look 187 = .ok (.iaload, 1) := by decide +kernel
theorem dX12_look_188 : decode cX12_look 188 = .ok (.idiv, 1) := by decide +kernel
theorem dX12_look_189 : decode cX12_look 189 = .ok (.aload_n 1, 1) := by decide +kernel
theorem dX12_look_190 : decode cX12_look 190 = .ok (.iload 5, 2) := by decide +kernel
theorem dX12_look_192 : decode cX12_look 192 = .ok (.iaload, 1) := by decide +kernel
theorem dX12_look_193 : decode cX12_look 193 = .ok (.iconst 1, 1) := by decide +kernel
theorem dX12_look_194 : decode cX12_look 194 = .ok (.iadd, 1) := by decide +kernel
theorem dX12_look_195 : decode cX12_look 195 = .ok (.irem, 1) := by decide +kernel
theorem dX12_look_196 : decode cX12_look 196 = .ok (.aload_n 0, 1) := by decide +kernel
theorem dX12_look_197 : decode cX12_look 197 = .ok (.getfield 22, 3) := by decide +kernel
theorem dX12_look_200 : decode cX12_look 200 = .ok (.bipush 8, 2) := by decide +kernel
theorem dX12_look_202 : decode cX12_look 202 = .ok (.iload_n 2, 1) := by decide +kernel
theorem dX12_look_203 : decode cX12_look 203 = .ok (.imul, 1) := by decide +kernel
theorem dX12_look_204 : decode cX12_look 204 = .ok (.iload 5, 2) := by decide +kernel
theorem dX12_look_206 : decode cX12_look 206 = .ok (.iadd, 1) := by decide +kernel
theorem dX12_look_207 : decode cX12_look 207 = .ok (.iaload, 1) := by decide +kernel
theorem dX12_look_208 : decode cX12_look 208 = .ok (.if_icmp .lt 7, 3) := by decide +kernel
theorem dX12_look_211 : decode cX12_look 211 = .ok (.iconst 1, 1) := by decide +kernel
theorem dX12_look_212 : decode cX12_look 212 = .ok (.goto 4, 3) := by decide +kernel
theorem dX12_look_215 : decode cX12_look 215 = .ok (.iconst 0, 1) := by decide +kernel
theorem dX12_look_216 : decode cX12_look 216 = .ok (.istore 4, 2) := by decide +kernel
theorem dX12_look_218 : decode cX12_look 218 = .ok (.iinc 5 1, 3) := by decide +kernel
theorem dX12_look_221 : decode cX12_look 221 = .ok (.goto (-53), 3) := by decide +kernel
theorem dX12_look_224 : decode cX12_look 224 = .ok (.aload_n 0, 1) := by decide +kernel
theorem dX12_look_225 : decode cX12_look 225 = .ok (.getfield 87, 3) := by decide +kernel
theorem dX12_look_228 : decode cX12_look 228 = .ok (.bipush 10, 2) := by decide +kernel
theorem dX12_look_230 : decode cX12_look 230 = .ok (.iload_n 3, 1) := by decide +kernel
theorem dX12_look_231 : decode cX12_look 231 = .ok (.imul, 1) := by decide +kernel
theorem dX12_look_232 : decode cX12_look 232 = .ok (.iload_n 2, 1) := by decide +kernel
theorem dX12_look_233 : decode cX12_look 233 = .ok (.iadd, 1) := by decide +kernel
theorem dX12_look_234 : decode cX12_look 234 = .ok (.iload 4, 2) := by decide +kernel
theorem dX12_look_236 : decode cX12_look 236 = .ok (.bastore, 1) := by decide +kernel
theorem dX12_look_237 : decode cX12_look 237 = .ok (.iinc 3 1, 3) := by decide +kernel
theorem dX12_look_240 : decode cX12_look 240 = .ok (.goto (-86), 3) := by decide +kernel
theorem dX12_look_243 : decode cX12_look 243 = .ok (.iinc 2 1, 3) := by decide +kernel
theorem dX12_look_246 : decode cX12_look 246 = .ok (.goto (-177), 3) := by decide +kernel
theorem dX12_look_249 : decode cX12_look 249 = .ok (.return_, 1) := by decide +kernel
theorem dX12_mayCome_0 : decode cX12_mayCome 0 = .ok (.iload_n 2, 1) := by decide +kernel
theorem dX12_mayCome_1 : decode cX12_mayCome 1 = .ok (.iconst 4, 1) := by decide +kernel
theorem dX12_mayCome_2 : decode cX12_mayCome 2 = .ok (.if_icmp .ne 13, 3) := by decide +kernel
theorem dX12_mayCome_5 : decode cX12_mayCome 5 = .ok (.aload_n 0, 1) := by decide +kernel
theorem dX12_mayCome_6 : decode cX12_mayCome 6 = .ok (.getfield 65, 3) := by decide +kernel
theorem dX12_mayCome_9 : decode cX12_mayCome 9 = .ok (.bipush 19, 2) := by decide +kernel
theorem dX12_mayCome_11 : decode cX12_mayCome 11 = .ok (.iaload, 1) := by decide +kernel
theorem dX12_mayCome_12 : decode cX12_mayCome 12 = .ok (.goto 12, 3) := by decide +kernel
theorem dX12_mayCome_15 : decode cX12_mayCome 15 = .ok (.aload_n 0, 1) := by decide +kernel
theorem dX12_mayCome_16 : decode cX12_mayCome 16 = .ok (.getfield 65, 3) := by decide +kernel
theorem dX12_mayCome_19 : decode cX12_mayCome 19 = .ok (.bipush 21, 2) := by decide +kernel
theorem dX12_mayCome_21 : decode cX12_mayCome 21 = .ok (.iload_n 2, 1) := by decide +kernel
theorem dX12_mayCome_22 : decode cX12_mayCome 22 = .ok (.iadd, 1) := by decide +kernel
theorem dX12_mayCome_23 : decode cX12_mayCome 23 = .ok (.iaload, 1) := by decide +kernel
theorem dX12_mayCome_24 : decode cX12_mayCome 24 = .ok (.aload_n 0, 1) := by decide +kernel
theorem dX12_mayCome_25 : decode cX12_mayCome 25 = .ok (.getfield 19, 3) := by decide +kernel
theorem dX12_mayCome_28 : decode cX12_mayCome 28 = .ok (.iload_n 3, 1) := by decide +kernel
theorem dX12_mayCome_29 : decode cX12_mayCome 29 = .ok (.iaload, 1) := by decide +kernel
theorem dX12_mayCome_30 : decode cX12_mayCome 30 = .ok (.invokestatic 149, 3) := by decide +kernel
theorem dX12_mayCome_33 : decode cX12_mayCome 33 = .ok (.istore 4, 2) := by decide +kernel
theorem dX12_mayCome_35 : decode cX12_mayCome 35 = .ok (.iload 4, 2) := by decide +kernel
theorem dX12_mayCome_37 : decode cX12_mayCome 37 = .ok (.ifCond .eq 32, 3) := by decide +kernel
theorem dX12_mayCome_40 : decode cX12_mayCome 40 = .ok (.aload_n 0, 1) := by decide +kernel
theorem dX12_mayCome_41 : decode cX12_mayCome 41 = .ok (.getfield 191, 3) := by decide +kernel
theorem dX12_mayCome_44 : decode cX12_mayCome 44 = .ok (.iload_n 3, 1) := by decide +kernel
theorem dX12_mayCome_45 : decode cX12_mayCome 45 = .ok (.invokestatic 149, 3) := by decide +kernel
theorem dX12_mayCome_48 : decode cX12_mayCome 48 = .ok (.ifCond .eq 21, 3) := by decide +kernel
theorem dX12_mayCome_51 : decode cX12_mayCome 51 = .ok (.aload_n 0, 1) := by decide +kernel
theorem dX12_mayCome_52 : decode cX12_mayCome 52 = .ok (.getfield 87, 3) := by decide +kernel
theorem dX12_mayCome_55 : decode cX12_mayCome 55 = .ok (.bipush 10, 2) := by decide +kernel
theorem dX12_mayCome_57 : decode cX12_mayCome 57 = .ok (.iload_n 1, 1) := by decide +kernel
theorem dX12_mayCome_58 : decode cX12_mayCome 58 = .ok (.imul, 1) := by decide +kernel
theorem dX12_mayCome_59 : decode cX12_mayCome 59 = .ok (.iload_n 3, 1) := by decide +kernel
theorem dX12_mayCome_60 : decode cX12_mayCome 60 = .ok (.iadd, 1) := by decide +kernel
theorem dX12_mayCome_61 : decode cX12_mayCome 61 = .ok (.baload, 1) := by decide +kernel
theorem dX12_mayCome_62 : decode cX12_mayCome 62 = .ok (.ifCond .eq 7, 3) := by decide +kernel
theorem dX12_mayCome_65 : decode cX12_mayCome 65 = .ok (.iconst 1, 1) := by decide +kernel
theorem dX12_mayCome_66 : decode cX12_mayCome 66 = .ok (.goto 4, 3) := by decide +kernel
theorem dX12_mayCome_69 : decode cX12_mayCome 69 = .ok (.iconst 0, 1) := by decide +kernel
theorem dX12_mayCome_70 : decode cX12_mayCome 70 = .ok (.ireturn, 1) := by decide +kernel
theorem dX12_endsAs_0 : decode cX12_endsAs 0 = .ok (.iload_n 2, 1) := by decide +kernel
theorem dX12_endsAs_1 : decode cX12_endsAs 1 = .ok (.aload_n 0, 1) := by decide +kernel
theorem dX12_endsAs_2 : decode cX12_endsAs 2 = .ok (.getfield 71, 3) := by decide +kernel
theorem dX12_endsAs_5 : decode cX12_endsAs 5 = .ok (.iload_n 3, 1) := by decide +kernel
theorem dX12_endsAs_6 : decode cX12_endsAs 6 = .ok (.iaload, 1) := by decide +kernel
theorem dX12_endsAs_7 : decode cX12_endsAs 7 = .ok (.isub, 1) := by decide +kernel
theorem dX12_endsAs_8 : decode cX12_endsAs 8 = .ok (.istore 4, 2) := by decide +kernel
theorem dX12_endsAs_10 : decode cX12_endsAs 10 = .ok (.iload 4, 2) := by decide +kernel
theorem dX12_endsAs_12 : decode cX12_endsAs 12 = .ok (.ifCond .le 19, 3) := by decide +kernel
theorem dX12_endsAs_15 : decode cX12_endsAs 15 = .ok (.aload_n 1, 1) := by decide +kernel
theorem dX12_endsAs_16 : decode cX12_endsAs 16 = .ok (.iconst 5, 1) := by decide +kernel
theorem dX12_endsAs_17 : decode cX12_endsAs 17 = .ok (.iload 4, 2) := by decide +kernel
theorem dX12_endsAs_19 : decode cX12_endsAs 19 = .ok (.imul, 1) := by decide +kernel
theorem dX12_endsAs_20 : decode cX12_endsAs 20 = .ok (.aload_n 0, 1) := by decide +kernel
theorem dX12_endsAs_21 : decode cX12_endsAs 21 = .ok (.getfield 19, 3) := by decide +kernel
theorem dX12_endsAs_24 : decode cX12_endsAs 24 = .ok (.iload_n 3, 1) := by decide +kernel
theorem dX12_endsAs_25 : decode cX12_endsAs 25 = .ok (.iaload, 1) := by decide +kernel
theorem dX12_endsAs_26 : decode cX12_endsAs 26 = .ok (.iadd, 1) := by decide +kernel
theorem dX12_endsAs_27 : decode cX12_endsAs 27 = .ok (.laload, 1) := by decide +kernel
theorem dX12_endsAs_28 : decode cX12_endsAs 28 = .ok (.goto 27, 3) := by decide +kernel
theorem dX12_endsAs_31 : decode cX12_endsAs 31 = .ok (.aload_n 0, 1) := by decide +kernel
theorem dX12_endsAs_32 : decode cX12_endsAs 32 = .ok (.getfield 65, 3) := by decide +kernel
theorem dX12_endsAs_35 : decode cX12_endsAs 35 = .ok (.bipush 20, 2) := by decide +kernel
theorem dX12_endsAs_37 : decode cX12_endsAs 37 = .ok (.iaload, 1) := by decide +kernel
theorem dX12_endsAs_38 : decode cX12_endsAs 38 = .ok (.aload_n 0, 1) := by decide +kernel
theorem dX12_endsAs_39 : decode cX12_endsAs 39 = .ok (.getfield 19, 3) := by decide +kernel
theorem dX12_endsAs_42 : decode cX12_endsAs 42 = .ok (.iload_n 3, 1) := by decide +kernel
theorem dX12_endsAs_43 : decode cX12_endsAs 43 = .ok (.iaload, 1) := by decide +kernel
theorem dX12_endsAs_44 : decode cX12_endsAs 44 = .ok (.invokestatic 149, 3) := by decide +kernel
theorem dX12_endsAs_47 : decode cX12_endsAs 47 = .ok (.ifCond .eq 7, 3) := by decide +kernel
theorem dX12_endsAs_50 : decode cX12_endsAs 50 = .ok (.lconst 1, 1) := by decide +kernel
theorem dX12_endsAs_51 : decode cX12_endsAs 51 = .ok (.goto 4, 3) := by decide +kernel
theorem dX12_endsAs_54 : decode cX12_endsAs 54 = .ok (.lconst 0, 1) := by decide +kernel
theorem dX12_endsAs_55 : decode cX12_endsAs 55 = .ok (.lreturn, 1) := by decide +kernel
theorem dX12_layWays_0 : decode cX12_layWays 0 = .ok (.iconst 0, 1) := by decide +kernel
theorem dX12_layWays_1 : decode cX12_layWays 1 = .ok (.istore_n 1, 1) := by decide +kernel
theorem dX12_layWays_2 : decode cX12_layWays 2 = .ok (.iload_n 1, 1) := by decide +kernel
theorem dX12_layWays_3 : decode cX12_layWays 3 = .ok (.aload_n 0, 1) := by decide +kernel
theorem dX12_layWays_4 : decode cX12_layWays 4 = .ok (.getfield 188, 3) := by decide +kernel
theorem dX12_layWays_7 : decode cX12_layWays 7 = .ok (.if_icmp .gt 82, 3) := by decide +kernel
theorem dX12_layWays_10 : decode cX12_layWays 10 = .ok (.iconst 0, 1) := by decide +kernel
theorem dX12_layWays_11 : decode cX12_layWays 11 = .ok (.istore_n 2, 1) := by decide +kernel
theorem dX12_layWays_12 : decode cX12_layWays 12 = .ok (.iload_n 2, 1) := by decide +kernel
theorem dX12_layWays_13 : decode cX12_layWays 13 = .ok (.iconst 4, 1) := by decide +kernel
theorem dX12_layWays_14 : decode cX12_layWays 14 = .ok (.if_icmp .gt 69, 3) := by decide +kernel
theorem dX12_layWays_17 : decode cX12_layWays 17 = .ok (.lconst 0, 1) := by decide +kernel
theorem dX12_layWays_18 : decode cX12_layWays 18 = .ok (.lstore_n 3, 1) := by decide +kernel
theorem dX12_layWays_19 : decode cX12_layWays 19 = .ok (.iconst 0, 1) := by decide +kernel
theorem dX12_layWays_20 : decode cX12_layWays 20 = .ok (.istore 5, 2) := by decide +kernel
theorem dX12_layWays_22 : decode cX12_layWays 22 = .ok (.iload 5, 2) := by decide +kernel
theorem dX12_layWays_24 : decode cX12_layWays 24 = .ok (.aload_n 0, 1) := by decide +kernel
theorem dX12_layWays_25 : decode cX12_layWays 25 = .ok (.getfield 103, 3) := by decide +kernel
theorem dX12_layWays_28 : decode cX12_layWays 28 = .ok (.if_icmp .ge 38, 3) := by decide +kernel
theorem dX12_layWays_31 : decode cX12_layWays 31 = .ok (.lload_n 3, 1) := by decide +kernel
theorem dX12_layWays_32 : decode cX12_layWays 32 = .ok (.aload_n 0, 1) := by decide +kernel
theorem dX12_layWays_33 : decode cX12_layWays 33 = .ok (.iload_n 1, 1) := by decide +kernel
theorem dX12_layWays_34 : decode cX12_layWays 34 = .ok (.iload_n 2, 1) := by decide +kernel
theorem dX12_layWays_35 : decode cX12_layWays 35 = .ok (.iload 5, 2) := by decide +kernel
theorem dX12_layWays_37 : decode cX12_layWays 37 = .ok (.invokevirtual 194, 3) := by decide +kernel
theorem dX12_layWays_40 : decode cX12_layWays 40 = .ok (.ifCond .eq 17, 3) := by decide +kernel
theorem dX12_layWays_43 : decode cX12_layWays 43 = .ok (.aload_n 0, 1) := by decide +kernel
theorem dX12_layWays_44 : decode cX12_layWays 44 = .ok (.aload_n 0, 1) := by decide +kernel
theorem dX12_layWays_45 : decode cX12_layWays 45 = .ok (.getfield 74, 3) := by decide +kernel
theorem dX12_layWays_48 : decode cX12_layWays 48 = .ok (.iload_n 1, 1) := by decide +kernel
theorem dX12_layWays_49 : decode cX12_layWays 49 = .ok (.iload 5, 2) := by decide +kernel
theorem dX12_layWays_51 : decode cX12_layWays 51 = .ok (.invokevirtual 198, 3) := by decide +kernel
theorem dX12_layWays_54 : decode cX12_layWays 54 = .ok (.goto 4, 3) := by decide +kernel
theorem dX12_layWays_57 : decode cX12_layWays 57 = .ok (.lconst 0, 1) := by decide +kernel
theorem dX12_layWays_58 : decode cX12_layWays 58 = .ok (.ladd, 1) := by decide +kernel
theorem dX12_layWays_59 : decode cX12_layWays 59 = .ok (.lstore_n 3, 1) := by decide +kernel
theorem dX12_layWays_60 : decode cX12_layWays 60 = .ok (.iinc 5 1, 3) := by decide +kernel
theorem dX12_layWays_63 : decode cX12_layWays 63 = .ok (.goto (-41), 3) := by decide +kernel
theorem dX12_layWays_66 : decode cX12_layWays 66 = .ok (.aload_n 0, 1) := by decide +kernel
theorem dX12_layWays_67 : decode cX12_layWays 67 = .ok (.getfield 74, 3) := by decide +kernel
theorem dX12_layWays_70 : decode cX12_layWays 70 = .ok (.iconst 5, 1) := by decide +kernel
theorem dX12_layWays_71 : decode cX12_layWays 71 = .ok (.iload_n 1, 1) := by decide +kernel
theorem dX12_layWays_72 : decode cX12_layWays 72 = .ok (.imul, 1) := by decide +kernel
theorem dX12_layWays_73 : decode cX12_layWays 73 = .ok (.iload_n 2, 1) := by decide +kernel
theorem dX12_layWays_74 : decode cX12_layWays 74 = .ok (.iadd, 1) := by decide +kernel
theorem dX12_layWays_75 : decode cX12_layWays 75 = .ok (.lload_n 3, 1) := by decide +kernel
theorem dX12_layWays_76 : decode cX12_layWays 76 = .ok (.lastore, 1) := by decide +kernel
theorem dX12_layWays_77 : decode cX12_layWays 77 = .ok (.iinc 2 1, 3) := by decide +kernel
theorem dX12_layWays_80 : decode cX12_layWays 80 = .ok (.goto (-68), 3) := by decide +kernel
theorem dX12_layWays_83 : decode cX12_layWays 83 = .ok (.iinc 1 1, 3) := by decide +kernel
theorem dX12_layWays_86 : decode cX12_layWays 86 = .ok (.goto (-84), 3) := by decide +kernel
theorem dX12_layWays_89 : decode cX12_layWays 89 = .ok (.return_, 1) := by decide +kernel
theorem dX12_all_0 : decode cX12_all 0 = .ok (.aload_n 0, 1) := by decide +kernel
theorem dX12_all_1 : decode cX12_all 1 = .ok (.getfield 74, 3) := by decide +kernel
theorem dX12_all_4 : decode cX12_all 4 = .ok (.iconst 5, 1) := by decide +kernel
theorem dX12_all_5 : decode cX12_all 5 = .ok (.aload_n 0, 1) := by decide +kernel
theorem dX12_all_6 : decode cX12_all 6 = .ok (.getfield 188, 3) := by decide +kernel
theorem dX12_all_9 : decode cX12_all 9 = .ok (.imul, 1) := by decide +kernel
theorem dX12_all_10 : decode cX12_all 10 = .ok (.iconst 4, 1) := by decide +kernel
theorem dX12_all_11 : decode cX12_all 11 = .ok (.iadd, 1) := by decide +kernel
theorem dX12_all_12 : decode cX12_all 12 = .ok (.laload, 1) := by decide +kernel
theorem dX12_all_13 : decode cX12_all 13 = .ok (.lreturn, 1) := by decide +kernel
theorem dX12_manyOf_0 : decode cX12_manyOf 0 = .ok (.aload_n 0, 1) := by decide +kernel
theorem dX12_manyOf_1 : decode cX12_manyOf 1 = .ok (.aload_n 1, 1) := by decide +kernel
theorem dX12_manyOf_2 : decode cX12_manyOf 2 = .ok (.invokevirtual 202, 3) := by decide +kernel
theorem dX12_manyOf_5 : decode cX12_manyOf 5 = .ok (.aload_n 0, 1) := by decide +kernel
theorem dX12_manyOf_6 : decode cX12_manyOf 6 = .ok (.invokevirtual 205, 3) := by decide +kernel
theorem dX12_manyOf_9 : decode cX12_manyOf 9 = .ok (.aload_n 0, 1) := by decide +kernel
theorem dX12_manyOf_10 : decode cX12_manyOf 10 = .ok (.invokevirtual 208, 3) := by decide +kernel
theorem dX12_manyOf_13 : decode cX12_manyOf 13 = .ok (.lreturn, 1) := by decide +kernel
theorem dX12_manyBy_0 : decode cX12_manyBy 0 = .ok (.iconst 0, 1) := by decide +kernel
theorem dX12_manyBy_1 : decode cX12_manyBy 1 = .ok (.istore_n 2, 1) := by decide +kernel
theorem dX12_manyBy_2 : decode cX12_manyBy 2 = .ok (.iload_n 2, 1) := by decide +kernel
theorem dX12_manyBy_3 : decode cX12_manyBy 3 = .ok (.iconst 5, 1) := by decide +kernel
theorem dX12_manyBy_4 : decode cX12_manyBy 4 = .ok (.aload_n 0, 1) := by decide +kernel
theorem dX12_manyBy_5 : decode cX12_manyBy 5 = .ok (.getfield 188, 3) := by decide +kernel
theorem dX12_manyBy_8 : decode cX12_manyBy 8 = .ok (.imul, 1) := by decide +kernel
theorem dX12_manyBy_9 : decode cX12_manyBy 9 = .ok (.iconst 4, 1) := by decide +kernel
theorem dX12_manyBy_10 : decode cX12_manyBy 10 = .ok (.iadd, 1) := by decide +kernel
theorem dX12_manyBy_11 : decode cX12_manyBy 11 = .ok (.if_icmp .gt 16, 3) := by decide +kernel
theorem dX12_manyBy_14 : decode cX12_manyBy 14 = .ok (.aload_n 0, 1) := by decide +kernel
theorem dX12_manyBy_15 : decode cX12_manyBy 15 = .ok (.getfield 78, 3) := by decide +kernel
theorem dX12_manyBy_18 : decode cX12_manyBy 18 = .ok (.iload_n 2, 1) := by decide +kernel
theorem dX12_manyBy_19 : decode cX12_manyBy 19 = .ok (.lconst 0, 1) := by decide +kernel
theorem dX12_manyBy_20 : decode cX12_manyBy 20 = .ok (.lastore, 1) := by decide +kernel
theorem dX12_manyBy_21 : decode cX12_manyBy 21 = .ok (.iinc 2 1, 3) := by decide +kernel
theorem dX12_manyBy_24 : decode cX12_manyBy 24 = .ok (.goto (-22), 3) := by decide +kernel
theorem dX12_manyBy_27 : decode cX12_manyBy 27 = .ok (.iconst 1, 1) := by decide +kernel
theorem dX12_manyBy_28 : decode cX12_manyBy 28 = .ok (.istore_n 2, 1) := by decide +kernel
theorem dX12_manyBy_29 : decode cX12_manyBy 29 = .ok (.iload_n 2, 1) := by decide +kernel
theorem dX12_manyBy_30 : decode cX12_manyBy 30 = .ok (.iload_n 1, 1) := by decide +kernel
theorem dX12_manyBy_31 : decode cX12_manyBy 31 = .ok (.if_icmp .gt 186, 3) := by decide +kernel
theorem dX12_manyBy_34 : decode cX12_manyBy 34 = .ok (.iconst 0, 1) := by decide +kernel
theorem dX12_manyBy_35 : decode cX12_manyBy 35 = .ok (.istore_n 3, 1) := by decide +kernel
theorem dX12_manyBy_36 : decode cX12_manyBy 36 = .ok (.iload_n 3, 1) := by decide +kernel
theorem dX12_manyBy_37 : decode cX12_manyBy 37 = .ok (.iconst 5, 1) := by decide +kernel
theorem dX12_manyBy_38 : decode cX12_manyBy 38 = .ok (.aload_n 0, 1) := by decide +kernel
theorem dX12_manyBy_39 : decode cX12_manyBy 39 = .ok (.getfield 188, 3) := by decide +kernel
theorem dX12_manyBy_42 : decode cX12_manyBy 42 = .ok (.imul, 1) := by decide +kernel
theorem dX12_manyBy_43 : decode cX12_manyBy 43 = .ok (.iconst 4, 1) := by decide +kernel
theorem dX12_manyBy_44 : decode cX12_manyBy 44 = .ok (.iadd, 1) := by decide +kernel
theorem dX12_manyBy_45 : decode cX12_manyBy 45 = .ok (.if_icmp .gt 134, 3) := by decide +kernel
theorem dX12_manyBy_48 : decode cX12_manyBy 48 = .ok (.lconst 0, 1) := by decide +kernel
theorem dX12_manyBy_49 : decode cX12_manyBy 49 = .ok (.lstore 4, 2) := by decide +kernel
theorem dX12_manyBy_51 : decode cX12_manyBy 51 = .ok (.iconst 0, 1) := by decide +kernel
theorem dX12_manyBy_52 : decode cX12_manyBy 52 = .ok (.istore 6, 2) := by decide +kernel
theorem dX12_manyBy_54 : decode cX12_manyBy 54 = .ok (.iload 6, 2) := by decide +kernel
theorem dX12_manyBy_56 : decode cX12_manyBy 56 = .ok (.aload_n 0, 1) := by decide +kernel
theorem dX12_manyBy_57 : decode cX12_manyBy 57 = .ok (.getfield 103, 3) := by decide +kernel
theorem dX12_manyBy_60 : decode cX12_manyBy 60 = .ok (.if_icmp .ge 105, 3) := by decide +kernel
theorem dX12_manyBy_63 : decode cX12_manyBy 63 = .ok (.iload_n 3, 1) := by decide +kernel
theorem dX12_manyBy_64 : decode cX12_manyBy 64 = .ok (.iconst 5, 1) := by decide +kernel
theorem dX12_manyBy_65 : decode cX12_manyBy 65 = .ok (.idiv, 1) := by decide +kernel
theorem dX12_manyBy_66 : decode cX12_manyBy 66 = .ok (.aload_n 0, 1) := by decide +kernel
theorem dX12_manyBy_67 : decode cX12_manyBy 67 = .ok (.getfield 71, 3) := by decide +kernel
theorem dX12_manyBy_70 : decode cX12_manyBy 70 = .ok (.iload 6, 2) := by decide +kernel
theorem dX12_manyBy_72 : decode cX12_manyBy 72 = .ok (.iaload, 1) := by decide +kernel
theorem dX12_manyBy_73 : decode cX12_manyBy 73 = .ok (.isub, 1) := by decide +kernel
theorem dX12_manyBy_74 : decode cX12_manyBy 74 = .ok (.istore 7, 2) := by decide +kernel
theorem dX12_manyBy_76 : decode cX12_manyBy 76 = .ok (.aload_n 0, 1) := by decide +kernel
theorem dX12_manyBy_77 : decode cX12_manyBy 77 = .ok (.iload_n 3, 1) := by decide +kernel
theorem dX12_manyBy_78 : decode cX12_manyBy 78 = .ok (.iconst 5, 1) := by decide +kernel
theorem dX12_manyBy_79 : decode cX12_manyBy 79 = .ok (.idiv, 1) := by decide +kernel
theorem dX12_manyBy_80 : decode cX12_manyBy 80 = .ok (.iload_n 3, 1) := by decide +kernel
theorem dX12_manyBy_81 : decode cX12_manyBy 81 = .ok (.iconst 5, 1) := by decide +kernel
theorem dX12_manyBy_82 : decode cX12_manyBy 82 = .ok (.irem, 1) := by decide +kernel
theorem dX12_manyBy_83 : decode cX12_manyBy 83 = .ok (.iload 6, 2) := by decide +kernel
theorem dX12_manyBy_85 : decode cX12_manyBy 85 = .ok (.invokevirtual 194, 3) := by decide +kernel
theorem dX12_manyBy_88 : decode cX12_manyBy 88 = .ok (.istore 8, 2) := by decide +kernel
theorem dX12_manyBy_90 : decode cX12_manyBy 90 = .ok (.lload 4, 2) := by decide +kernel
theorem dX12_manyBy_92 : decode cX12_manyBy 92 = .ok (.iload 8, 2) := by decide +kernel
theorem dX12_manyBy_94 : decode cX12_manyBy 94 = .ok (.ifCond .ne 7, 3) := by decide +kernel
theorem dX12_manyBy_97 : decode cX12_manyBy 97 = .ok (.lconst 0, 1) := by decide +kernel
theorem dX12_manyBy_98 : decode cX12_manyBy 98 = .ok (.goto 58, 3) := by decide +kernel
theorem dX12_manyBy_101 : decode cX12_manyBy 101 = .ok (.iload 7, 2) := by decide +kernel
theorem dX12_manyBy_103 : decode cX12_manyBy 103 = .ok (.ifCond .le 23, 3) := by decide +kernel
theorem dX12_manyBy_106 : decode cX12_manyBy 106 = .ok (.aload_n 0, 1) := by decide +kernel
theorem dX12_manyBy_107 : decode cX12_manyBy 107 = .ok (.getfield 78, 3) := by decide +kernel
theorem dX12_manyBy_110 : decode cX12_manyBy 110 = .ok (.iconst 5, 1) := by decide +kernel
theorem dX12_manyBy_111 : decode cX12_manyBy 111 = .ok (.iload 7, 2) := by decide +kernel
theorem dX12_manyBy_113 : decode cX12_manyBy 113 = .ok (.imul, 1) := by decide +kernel
theorem dX12_manyBy_114 : decode cX12_manyBy 114 = .ok (.aload_n 0, 1) := by decide +kernel
theorem dX12_manyBy_115 : decode cX12_manyBy 115 = .ok (.getfield 19, 3) := by decide +kernel
theorem dX12_manyBy_118 : decode cX12_manyBy 118 = .ok (.iload 6, 2) := by decide +kernel
theorem dX12_manyBy_120 : decode cX12_manyBy 120 = .ok (.iaload, 1) := by decide +kernel
theorem dX12_manyBy_121 : decode cX12_manyBy 121 = .ok (.iadd, 1) := by decide +kernel
theorem dX12_manyBy_122 : decode cX12_manyBy 122 = .ok (.laload, 1) := by decide +kernel
theorem dX12_manyBy_123 : decode cX12_manyBy 123 = .ok (.goto 33, 3) := by decide +kernel
theorem dX12_manyBy_126 : decode cX12_manyBy 126 = .ok (.iload_n 2, 1) := by decide +kernel
theorem dX12_manyBy_127 : decode cX12_manyBy 127 = .ok (.iconst 1, 1) := by decide +kernel
theorem dX12_manyBy_128 : decode cX12_manyBy 128 = .ok (.if_icmp .ne 27, 3) := by decide +kernel
theorem dX12_manyBy_131 : decode cX12_manyBy 131 = .ok (.aload_n 0, 1) := by decide +kernel
theorem dX12_manyBy_132 : decode cX12_manyBy 132 = .ok (.getfield 65, 3) := by decide +kernel
theorem dX12_manyBy_135 : decode cX12_manyBy 135 = .ok (.bipush 20, 2) := by decide +kernel
theorem dX12_manyBy_137 : decode cX12_manyBy 137 = .ok (.iaload, 1) := by decide +kernel
theorem dX12_manyBy_138 : decode cX12_manyBy 138 = .ok (.aload_n 0, 1) := by decide +kernel
theorem dX12_manyBy_139 : decode cX12_manyBy 139 = .ok (.getfield 19, 3) := by decide +kernel
theorem dX12_manyBy_142 : decode cX12_manyBy 142 = .ok (.iload 6, 2) := by decide +kernel
theorem dX12_manyBy_144 : decode cX12_manyBy 144 = .ok (.iaload, 1) := by decide +kernel
theorem dX12_manyBy_145 : decode cX12_manyBy 145 = .ok (.invokestatic 149, 3) := by decide +kernel
theorem dX12_manyBy_148 : decode cX12_manyBy 148 = .ok (.ifCond .eq 7, 3) := by decide +kernel
theorem dX12_manyBy_151 : decode cX12_manyBy 151 = .ok (.lconst 1, 1) := by decide +kernel
theorem dX12_manyBy_152 : decode cX12_manyBy 152 = .ok (.goto 4, 3) := by decide +kernel
theorem dX12_manyBy_155 : decode cX12_manyBy 155 = .ok (.lconst 0, 1) := by decide +kernel
theorem dX12_manyBy_156 : decode cX12_manyBy 156 = .ok (.ladd, 1) := by decide +kernel
theorem dX12_manyBy_157 : decode cX12_manyBy 157 = .ok (.lstore 4, 2) := by decide +kernel
theorem dX12_manyBy_159 : decode cX12_manyBy 159 = .ok (.iinc 6 1, 3) := by decide +kernel
theorem dX12_manyBy_162 : decode cX12_manyBy 162 = .ok (.goto (-108), 3) := by decide +kernel
theorem dX12_manyBy_165 : decode cX12_manyBy 165 = .ok (.aload_n 0, 1) := by decide +kernel
theorem dX12_manyBy_166 : decode cX12_manyBy 166 = .ok (.getfield 81, 3) := by decide +kernel
theorem dX12_manyBy_169 : decode cX12_manyBy 169 = .ok (.iload_n 3, 1) := by decide +kernel
theorem dX12_manyBy_170 : decode cX12_manyBy 170 = .ok (.lload 4, 2) := by decide +kernel
theorem dX12_manyBy_172 : decode cX12_manyBy 172 = .ok (.lastore, 1) := by decide +kernel
theorem dX12_manyBy_173 : decode cX12_manyBy 173 = .ok (.iinc 3 1, 3) := by decide +kernel
theorem dX12_manyBy_176 : decode cX12_manyBy 176 = .ok (.goto (-140), 3) := by decide +kernel
theorem dX12_manyBy_179 : decode cX12_manyBy 179 = .ok (.iconst 0, 1) := by decide +kernel
theorem dX12_manyBy_180 : decode cX12_manyBy 180 = .ok (.istore_n 3, 1) := by decide +kernel
theorem dX12_manyBy_181 : decode cX12_manyBy 181 = .ok (.iload_n 3, 1) := by decide +kernel
theorem dX12_manyBy_182 : decode cX12_manyBy 182 = .ok (.iconst 5, 1) := by decide +kernel
theorem dX12_manyBy_183 : decode cX12_manyBy 183 = .ok (.aload_n 0, 1) := by decide +kernel
theorem dX12_manyBy_184 : decode cX12_manyBy 184 = .ok (.getfield 188, 3) := by decide +kernel
theorem dX12_manyBy_187 : decode cX12_manyBy 187 = .ok (.imul, 1) := by decide +kernel
theorem dX12_manyBy_188 : decode cX12_manyBy 188 = .ok (.iconst 4, 1) := by decide +kernel
theorem dX12_manyBy_189 : decode cX12_manyBy 189 = .ok (.iadd, 1) := by decide +kernel
theorem dX12_manyBy_190 : decode cX12_manyBy 190 = .ok (.if_icmp .gt 21, 3) := by decide +kernel
theorem dX12_manyBy_193 : decode cX12_manyBy 193 = .ok (.aload_n 0, 1) := by decide +kernel
theorem dX12_manyBy_194 : decode cX12_manyBy 194 = .ok (.getfield 78, 3) := by decide +kernel
theorem dX12_manyBy_197 : decode cX12_manyBy 197 = .ok (.iload_n 3, 1) := by decide +kernel
theorem dX12_manyBy_198 : decode cX12_manyBy 198 = .ok (.aload_n 0, 1) := by decide +kernel
theorem dX12_manyBy_199 : decode cX12_manyBy 199 = .ok (.getfield 81, 3) := by decide +kernel
theorem dX12_manyBy_202 : decode cX12_manyBy 202 = .ok (.iload_n 3, 1) := by decide +kernel
theorem dX12_manyBy_203 : decode cX12_manyBy 203 = .ok (.laload, 1) := by decide +kernel
theorem dX12_manyBy_204 : decode cX12_manyBy 204 = .ok (.lastore, 1) := by decide +kernel
theorem dX12_manyBy_205 : decode cX12_manyBy 205 = .ok (.iinc 3 1, 3) := by decide +kernel
theorem dX12_manyBy_208 : decode cX12_manyBy 208 = .ok (.goto (-27), 3) := by decide +kernel
theorem dX12_manyBy_211 : decode cX12_manyBy 211 = .ok (.iinc 2 1, 3) := by decide +kernel
theorem dX12_manyBy_214 : decode cX12_manyBy 214 = .ok (.goto (-185), 3) := by decide +kernel
theorem dX12_manyBy_217 : decode cX12_manyBy 217 = .ok (.aload_n 0, 1) := by decide +kernel
theorem dX12_manyBy_218 : decode cX12_manyBy 218 = .ok (.getfield 78, 3) := by decide +kernel
theorem dX12_manyBy_221 : decode cX12_manyBy 221 = .ok (.iconst 5, 1) := by decide +kernel
theorem dX12_manyBy_222 : decode cX12_manyBy 222 = .ok (.aload_n 0, 1) := by decide +kernel
theorem dX12_manyBy_223 : decode cX12_manyBy 223 = .ok (.getfield 188, 3) := by decide +kernel
theorem dX12_manyBy_226 : decode cX12_manyBy 226 = .ok (.imul, 1) := by decide +kernel
theorem dX12_manyBy_227 : decode cX12_manyBy 227 = .ok (.iconst 4, 1) := by decide +kernel
theorem dX12_manyBy_228 : decode cX12_manyBy 228 = .ok (.iadd, 1) := by decide +kernel
theorem dX12_manyBy_229 : decode cX12_manyBy 229 = .ok (.laload, 1) := by decide +kernel
theorem dX12_manyBy_230 : decode cX12_manyBy 230 = .ok (.lreturn, 1) := by decide +kernel
theorem dX12_few_0 : decode cX12_few 0 = .ok (.bipush (-9), 2) := by decide +kernel
theorem dX12_few_2 : decode cX12_few 2 = .ok (.istore_n 2, 1) := by decide +kernel
theorem dX12_few_3 : decode cX12_few 3 = .ok (.bipush 12, 2) := by decide +kernel
theorem dX12_few_5 : decode cX12_few 5 = .ok (.istore_n 3, 1) := by decide +kernel
theorem dX12_few_6 : decode cX12_few 6 = .ok (.iload_n 3, 1) := by decide +kernel
theorem dX12_few_7 : decode cX12_few 7 = .ok (.ifCond .le 35, 3) := by decide +kernel
theorem dX12_few_10 : decode cX12_few 10 = .ok (.aload_n 0, 1) := by decide +kernel
theorem dX12_few_11 : decode cX12_few 11 = .ok (.iload_n 3, 1) := by decide +kernel
theorem dX12_few_12 : decode cX12_few 12 = .ok (.invokevirtual 212, 3) := by decide +kernel
theorem dX12_few_15 : decode cX12_few 15 = .ok (.lconst 0, 1) := by decide +kernel
theorem dX12_few_16 : decode cX12_few 16 = .ok (.lcmp, 1) := by decide +kernel
theorem dX12_few_17 : decode cX12_few 17 = .ok (.ifCond .le 17, 3) := by decide +kernel
theorem dX12_few_20 : decode cX12_few 20 = .ok (.iload_n 1, 1) := by decide +kernel
theorem dX12_few_21 : decode cX12_few 21 = .ok (.ifCond .eq 9, 3) := by decide +kernel
theorem dX12_few_24 : decode cX12_few 24 = .ok (.iload_n 2, 1) := by decide +kernel
theorem dX12_few_25 : decode cX12_few 25 = .ok (.bipush (-9), 2) := by decide +kernel
theorem dX12_few_27 : decode cX12_few 27 = .ok (.if_icmp .ne 7, 3) := by decide +kernel
theorem dX12_few_30 : decode cX12_few 30 = .ok (.iload_n 3, 1) := by decide +kernel
theorem dX12_few_31 : decode cX12_few 31 = .ok (.goto 4, 3) := by decide +kernel
theorem dX12_few_34 : decode cX12_few 34 = .ok (.iload_n 2, 1) := by decide +kernel
theorem dX12_few_35 : decode cX12_few 35 = .ok (.istore_n 2, 1) := by decide +kernel
theorem dX12_few_36 : decode cX12_few 36 = .ok (.iinc 3 (-1), 3) := by decide +kernel
theorem dX12_few_39 : decode cX12_few 39 = .ok (.goto (-33), 3) := by decide +kernel
theorem dX12_few_42 : decode cX12_few 42 = .ok (.iload_n 2, 1) := by decide +kernel
theorem dX12_few_43 : decode cX12_few 43 = .ok (.ireturn, 1) := by decide +kernel
theorem dX12_inPhrases_0 : decode cX12_inPhrases 0 = .ok (.iconst 0, 1) := by decide +kernel
theorem dX12_inPhrases_1 : decode cX12_inPhrases 1 = .ok (.istore_n 1, 1) := by decide +kernel
theorem dX12_inPhrases_2 : decode cX12_inPhrases 2 = .ok (.iconst 0, 1) := by decide +kernel
theorem dX12_inPhrases_3 : decode cX12_inPhrases 3 = .ok (.istore_n 2, 1) := by decide +kernel
theorem dX12_inPhrases_4 : decode cX12_inPhrases 4 = .ok (.iload_n 2, 1) := by decide +kernel
theorem dX12_inPhrases_5 : decode cX12_inPhrases 5 = .ok (.aload_n 0, 1) := by decide +kernel
theorem dX12_inPhrases_6 : decode cX12_inPhrases 6 = .ok (.getfield 103, 3) := by decide +kernel
theorem dX12_inPhrases_9 : decode cX12_inPhrases 9 = .ok (.if_icmp .ge 33, 3) := by decide +kernel
theorem dX12_inPhrases_12 : decode cX12_inPhrases 12 = .ok (.iload_n 1, 1) := by decide +kernel
theorem dX12_inPhrases_13 : decode cX12_inPhrases 13 = .ok (.aload_n 0, 1) := by decide +kernel
theorem dX12_inPhrases_14 : decode cX12_inPhrases 14 = .ok (.aload_n 0, 1) := by decide +kernel
theorem dX12_inPhrases_15 : decode cX12_inPhrases 15 = .ok (.getfield 25, 3) := by decide +kernel
theorem dX12_inPhrases_18 : decode cX12_inPhrases 18 = .ok (.iload_n 2, 1) := by decide +kernel
theorem dX12_inPhrases_19 : decode cX12_inPhrases 19 = .ok (.invokevirtual 216, 3) := by decide +kernel
theorem dX12_inPhrases_22 : decode cX12_inPhrases 22 = .ok (.lconst 0, 1) := by decide +kernel
theorem dX12_inPhrases_23 : decode cX12_inPhrases 23 = .ok (.lcmp, 1) := by decide +kernel
theorem dX12_inPhrases_24 : decode cX12_inPhrases 24 = .ok (.ifCond .le 9, 3) := by decide +kernel
theorem dX12_inPhrases_27 : decode cX12_inPhrases 27 = .ok (.iconst 1, 1) := by decide +kernel
theorem dX12_inPhrases_28 : decode cX12_inPhrases 28 = .ok (.iload_n 2, 1) := by decide +kernel
theorem dX12_inPhrases_29 : decode cX12_inPhrases 29 = .ok (.ishl, 1) := by decide +kernel
theorem dX12_inPhrases_30 : decode cX12_inPhrases 30 = .ok (.goto 4, 3) := by decide +kernel
theorem dX12_inPhrases_33 : decode cX12_inPhrases 33 = .ok (.iconst 0, 1) := by decide +kernel
theorem dX12_inPhrases_34 : decode cX12_inPhrases 34 = .ok (.ior, 1) := by decide +kernel
theorem dX12_inPhrases_35 : decode cX12_inPhrases 35 = .ok (.istore_n 1, 1) := by decide +kernel
theorem dX12_inPhrases_36 : decode cX12_inPhrases 36 = .ok (.iinc 2 1, 3) := by decide +kernel
theorem dX12_inPhrases_39 : decode cX12_inPhrases 39 = .ok (.goto (-35), 3) := by decide +kernel
theorem dX12_inPhrases_42 : decode cX12_inPhrases 42 = .ok (.iload_n 1, 1) := by decide +kernel
theorem dX12_inPhrases_43 : decode cX12_inPhrases 43 = .ok (.ireturn, 1) := by decide +kernel
theorem dX12_makeable_0 : decode cX12_makeable 0 = .ok (.iconst 0, 1) := by decide +kernel
theorem dX12_makeable_1 : decode cX12_makeable 1 = .ok (.istore_n 1, 1) := by decide +kernel
theorem dX12_makeable_2 : decode cX12_makeable 2 = .ok (.iconst 0, 1) := by decide +kernel
theorem dX12_makeable_3 : decode cX12_makeable 3 = .ok (.istore_n 2, 1) := by decide +kernel
theorem dX12_makeable_4 : decode cX12_makeable 4 = .ok (.iload_n 2, 1) := by decide +kernel
theorem dX12_makeable_5 : decode cX12_makeable 5 = .ok (.aload_n 0, 1) := by decide +kernel
theorem dX12_makeable_6 : decode cX12_makeable 6 = .ok (.getfield 103, 3) := by decide +kernel
theorem dX12_makeable_9 : decode cX12_makeable 9 = .ok (.if_icmp .ge 27, 3) := by decide +kernel
theorem dX12_makeable_12 : decode cX12_makeable 12 = .ok (.iload_n 1, 1) := by decide +kernel
theorem dX12_makeable_13 : decode cX12_makeable 13 = .ok (.aload_n 0, 1) := by decide +kernel
theorem dX12_makeable_14 : decode cX12_makeable 14 = .ok (.iload_n 2, 1) := by decide +kernel
theorem dX12_makeable_15 : decode cX12_makeable 15 = .ok (.invokevirtual 220, 3) := by decide +kernel
theorem dX12_makeable_18 : decode cX12_makeable 18 = .ok (.ifCond .le 9, 3) := by decide +kernel
theorem dX12_makeable_21 : decode cX12_makeable 21 = .ok (.iconst 1, 1) := by decide +kernel
theorem dX12_makeable_22 : decode cX12_makeable 22 = .ok (.iload_n 2, 1) := by decide +kernel
theorem dX12_makeable_23 : decode cX12_makeable 23 = .ok (.ishl, 1) := by decide +kernel
theorem dX12_makeable_24 : decode cX12_makeable 24 = .ok (.goto 4, 3) := by decide +kernel
theorem dX12_makeable_27 : decode cX12_makeable 27 = .ok (.iconst 0, 1) := by decide +kernel
theorem dX12_makeable_28 : decode cX12_makeable 28 = .ok (.ior, 1) := by decide +kernel
theorem dX12_makeable_29 : decode cX12_makeable 29 = .ok (.istore_n 1, 1) := by decide +kernel
theorem dX12_makeable_30 : decode cX12_makeable 30 = .ok (.iinc 2 1, 3) := by decide +kernel
theorem dX12_makeable_33 : decode cX12_makeable 33 = .ok (.goto (-29), 3) := by decide +kernel
theorem dX12_makeable_36 : decode cX12_makeable 36 = .ok (.iload_n 1, 1) := by decide +kernel
theorem dX12_makeable_37 : decode cX12_makeable 37 = .ok (.ireturn, 1) := by decide +kernel
theorem dX12_unlike_0 : decode cX12_unlike 0 = .ok (.iconst 0, 1) := by decide +kernel
theorem dX12_unlike_1 : decode cX12_unlike 1 = .ok (.istore_n 1, 1) := by decide +kernel
theorem dX12_unlike_2 : decode cX12_unlike 2 = .ok (.iconst 0, 1) := by decide +kernel
theorem dX12_unlike_3 : decode cX12_unlike 3 = .ok (.istore_n 2, 1) := by decide +kernel
theorem dX12_unlike_4 : decode cX12_unlike 4 = .ok (.iload_n 2, 1) := by decide +kernel
theorem dX12_unlike_5 : decode cX12_unlike 5 = .ok (.bipush 8, 2) := by decide +kernel
theorem dX12_unlike_7 : decode cX12_unlike 7 = .ok (.if_icmp .ge 26, 3) := by decide +kernel
theorem dX12_unlike_10 : decode cX12_unlike 10 = .ok (.iload_n 1, 1) := by decide +kernel
theorem dX12_unlike_11 : decode cX12_unlike 11 = .ok (.aload_n 0, 1) := by decide +kernel
theorem dX12_unlike_12 : decode cX12_unlike 12 = .ok (.getfield 25, 3) := by decide +kernel
theorem dX12_unlike_15 : decode cX12_unlike 15 = .ok (.iload_n 2, 1) := by decide +kernel
theorem dX12_unlike_16 : decode cX12_unlike 16 = .ok (.iaload, 1) := by decide +kernel
theorem dX12_unlike_17 : decode cX12_unlike 17 = .ok (.ifCond .le 7, 3) := by decide +kernel
theorem dX12_unlike_20 : decode cX12_unlike 20 = .ok (.iconst 1, 1) := by decide +kernel
theorem dX12_unlike_21 : decode cX12_unlike 21 = .ok (.goto 4, 3) := by decide +kernel
theorem dX12_unlike_24 : decode cX12_unlike 24 = .ok (.iconst 0, 1) := by decide +kernel
theorem dX12_unlike_25 : decode cX12_unlike 25 = .ok (.iadd, 1) := by decide +kernel
theorem dX12_unlike_26 : decode cX12_unlike 26 = .ok (.istore_n 1, 1) := by decide +kernel
theorem dX12_unlike_27 : decode cX12_unlike 27 = .ok (.iinc 2 1, 3) := by decide +kernel
theorem dX12_unlike_30 : decode cX12_unlike 30 = .ok (.goto (-26), 3) := by decide +kernel
theorem dX12_unlike_33 : decode cX12_unlike 33 = .ok (.iload_n 1, 1) := by decide +kernel
theorem dX12_unlike_34 : decode cX12_unlike 34 = .ok (.ireturn, 1) := by decide +kernel
theorem dX12_about_0 : decode cX12_about 0 = .ok (.aload_n 0, 1) := by decide +kernel
theorem dX12_about_1 : decode cX12_about 1 = .ok (.aload_n 0, 1) := by decide +kernel
theorem dX12_about_2 : decode cX12_about 2 = .ok (.getfield 25, 3) := by decide +kernel
theorem dX12_about_5 : decode cX12_about 5 = .ok (.invokevirtual 202, 3) := by decide +kernel
theorem dX12_about_8 : decode cX12_about 8 = .ok (.iload_n 1, 1) := by decide +kernel
theorem dX12_about_9 : decode cX12_about 9 = .ok (.tableswitch 155 0 13 #[71, 76, 84, 89, 97, 105, 113, 118, 123, 129, 135, 140, 145, 150], 71) := by decide +kernel
theorem dX12_about_80 : decode cX12_about 80 = .ok (.aload_n 0, 1) := by decide +kernel
theorem dX12_about_81 : decode cX12_about 81 = .ok (.getfield 103, 3) := by decide +kernel
theorem dX12_about_84 : decode cX12_about 84 = .ok (.ireturn, 1) := by decide +kernel
theorem dX12_about_85 : decode cX12_about 85 = .ok (.aload_n 0, 1) := by decide +kernel
theorem dX12_about_86 : decode cX12_about 86 = .ok (.getfield 25, 3) := by decide +kernel
theorem dX12_about_89 : decode cX12_about 89 = .ok (.invokestatic 129, 3) := by decide +kernel
theorem dX12_about_92 : decode cX12_about 92 = .ok (.ireturn, 1) := by decide +kernel
theorem dX12_about_93 : decode cX12_about 93 = .ok (.aload_n 0, 1) := by decide +kernel
theorem dX12_about_94 : decode cX12_about 94 = .ok (.invokevirtual 224, 3) := by decide +kernel
theorem dX12_about_97 : decode cX12_about 97 = .ok (.ireturn, 1) := by decide +kernel
theorem dX12_about_98 : decode cX12_about 98 = .ok (.aload_n 0, 1) := by decide +kernel
theorem dX12_about_99 : decode cX12_about 99 = .ok (.getfield 25, 3) := by decide +kernel
theorem dX12_about_102 : decode cX12_about 102 = .ok (.bipush 8, 2) := by decide +kernel
theorem dX12_about_104 : decode cX12_about 104 = .ok (.iaload, 1) := by decide +kernel
theorem dX12_about_105 : decode cX12_about 105 = .ok (.ireturn, 1) := by decide +kernel
theorem dX12_about_106 : decode cX12_about 106 = .ok (.aload_n 0, 1) := by decide +kernel
theorem dX12_about_107 : decode cX12_about 107 = .ok (.getfield 25, 3) := by decide +kernel
theorem dX12_about_110 : decode cX12_about 110 = .ok (.bipush 19, 2) := by decide +kernel
theorem dX12_about_112 : decode cX12_about 112 = .ok (.iaload, 1) := by decide +kernel
theorem dX12_about_113 : decode cX12_about 113 = .ok (.ireturn, 1) := by decide +kernel
theorem dX12_about_114 : decode cX12_about 114 = .ok (.aload_n 0, 1) := by decide +kernel
theorem dX12_about_115 : decode cX12_about 115 = .ok (.getfield 25, 3) := by decide +kernel
theorem dX12_about_118 : decode cX12_about 118 = .ok (.bipush 20, 2) := by decide +kernel
theorem dX12_about_120 : decode cX12_about 120 = .ok (.iaload, 1) := by decide +kernel
theorem dX12_about_121 : decode cX12_about 121 = .ok (.ireturn, 1) := by decide +kernel
theorem dX12_about_122 : decode cX12_about 122 = .ok (.aload_n 0, 1) := by decide +kernel
theorem dX12_about_123 : decode cX12_about 123 = .ok (.invokevirtual 227, 3) := by decide +kernel
theorem dX12_about_126 : decode cX12_about 126 = .ok (.ireturn, 1) := by decide +kernel
theorem dX12_about_127 : decode cX12_about 127 = .ok (.aload_n 0, 1) := by decide +kernel
theorem dX12_about_128 : decode cX12_about 128 = .ok (.invokevirtual 230, 3) := by decide +kernel
theorem dX12_about_131 : decode cX12_about 131 = .ok (.ireturn, 1) := by decide +kernel
theorem dX12_about_132 : decode cX12_about 132 = .ok (.aload_n 0, 1) := by decide +kernel
theorem dX12_about_133 : decode cX12_about 133 = .ok (.iconst 0, 1) := by decide +kernel
theorem dX12_about_134 : decode cX12_about 134 = .ok (.invokevirtual 233, 3) := by decide +kernel
theorem dX12_about_137 : decode cX12_about 137 = .ok (.ireturn, 1) := by decide +kernel
theorem dX12_about_138 : decode cX12_about 138 = .ok (.aload_n 0, 1) := by decide +kernel
theorem dX12_about_139 : decode cX12_about 139 = .ok (.iconst 1, 1) := by decide +kernel
theorem dX12_about_140 : decode cX12_about 140 = .ok (.invokevirtual 233, 3) := by decide +kernel
theorem dX12_about_143 : decode cX12_about 143 = .ok (.ireturn, 1) := by decide +kernel
theorem dX12_about_144 : decode cX12_about 144 = .ok (.aload_n 0, 1) := by decide +kernel
theorem dX12_about_145 : decode cX12_about 145 = .ok (.getfield 182, 3) := by decide +kernel
theorem dX12_about_148 : decode cX12_about 148 = .ok (.ireturn, 1) := by decide +kernel
theorem dX12_about_149 : decode cX12_about 149 = .ok (.aload_n 0, 1) := by decide +kernel
theorem dX12_about_150 : decode cX12_about 150 = .ok (.getfield 237, 3) := by decide +kernel
theorem dX12_about_153 : decode cX12_about 153 = .ok (.ireturn, 1) := by decide +kernel
theorem dX12_about_154 : decode cX12_about 154 = .ok (.aload_n 0, 1) := by decide +kernel
theorem dX12_about_155 : decode cX12_about 155 = .ok (.getfield 117, 3) := by decide +kernel
theorem dX12_about_158 : decode cX12_about 158 = .ok (.ireturn, 1) := by decide +kernel
theorem dX12_about_159 : decode cX12_about 159 = .ok (.aload_n 0, 1) := by decide +kernel
theorem dX12_about_160 : decode cX12_about 160 = .ok (.getfield 185, 3) := by decide +kernel
theorem dX12_about_163 : decode cX12_about 163 = .ok (.ireturn, 1) := by decide +kernel
theorem dX12_about_164 : decode cX12_about 164 = .ok (.bipush (-2), 2) := by decide +kernel
theorem dX12_about_166 : decode cX12_about 166 = .ok (.ireturn, 1) := by decide +kernel
theorem dX12_havers_0 : decode cX12_havers 0 = .ok (.iconst 0, 1) := by decide +kernel
theorem dX12_havers_1 : decode cX12_havers 1 = .ok (.istore_n 2, 1) := by decide +kernel
theorem dX12_havers_2 : decode cX12_havers 2 = .ok (.iconst 0, 1) := by decide +kernel
theorem dX12_havers_3 : decode cX12_havers 3 = .ok (.istore_n 3, 1) := by decide +kernel
theorem dX12_havers_4 : decode cX12_havers 4 = .ok (.iload_n 3, 1) := by decide +kernel
theorem dX12_havers_5 : decode cX12_havers 5 = .ok (.aload_n 0, 1) := by decide +kernel
theorem dX12_havers_6 : decode cX12_havers 6 = .ok (.getfield 103, 3) := by decide +kernel
theorem dX12_havers_9 : decode cX12_havers 9 = .ok (.if_icmp .ge 31, 3) := by decide +kernel
theorem dX12_havers_12 : decode cX12_havers 12 = .ok (.iload_n 2, 1) := by decide +kernel
theorem dX12_havers_13 : decode cX12_havers 13 = .ok (.aload_n 0, 1) := by decide +kernel
theorem dX12_havers_14 : decode cX12_havers 14 = .ok (.getfield 22, 3) := by decide +kernel
theorem dX12_havers_17 : decode cX12_havers 17 = .ok (.bipush 8, 2) := by decide +kernel
theorem dX12_havers_19 : decode cX12_havers 19 = .ok (.iload_n 3, 1) := by decide +kernel
theorem dX12_havers_20 : decode cX12_havers 20 = .ok (.imul, 1) := by decide +kernel
theorem dX12_havers_21 : decode cX12_havers 21 = .ok (.iload_n 1, 1) := by decide +kernel
theorem dX12_havers_22 : decode cX12_havers 22 = .ok (.iadd, 1) := by decide +kernel
theorem dX12_havers_23 : decode cX12_havers 23 = .ok (.iaload, 1) := by decide +kernel
theorem dX12_havers_24 : decode cX12_havers 24 = .ok (.ifCond .le 7, 3) := by decide +kernel
theorem dX12_havers_27 : decode cX12_havers 27 = .ok (.iconst 1, 1) := by decide +kernel
theorem dX12_havers_28 : decode cX12_havers 28 = .ok (.goto 4, 3) := by decide +kernel
theorem dX12_havers_31 : decode cX12_havers 31 = .ok (.iconst 0, 1) := by decide +kernel
theorem dX12_havers_32 : decode cX12_havers 32 = .ok (.iadd, 1) := by decide +kernel
theorem dX12_havers_33 : decode cX12_havers 33 = .ok (.istore_n 2, 1) := by decide +kernel
theorem dX12_havers_34 : decode cX12_havers 34 = .ok (.iinc 3 1, 3) := by decide +kernel
theorem dX12_havers_37 : decode cX12_havers 37 = .ok (.goto (-33), 3) := by decide +kernel
theorem dX12_havers_40 : decode cX12_havers 40 = .ok (.iload_n 2, 1) := by decide +kernel
theorem dX12_havers_41 : decode cX12_havers 41 = .ok (.ireturn, 1) := by decide +kernel
theorem dX12_rarest_0 : decode cX12_rarest 0 = .ok (.bipush (-9), 2) := by decide +kernel
theorem dX12_rarest_2 : decode cX12_rarest 2 = .ok (.istore_n 2, 1) := by decide +kernel
theorem dX12_rarest_3 : decode cX12_rarest 3 = .ok (.bipush 7, 2) := by decide +kernel
theorem dX12_rarest_5 : decode cX12_rarest 5 = .ok (.istore_n 3, 1) := by decide +kernel
theorem dX12_rarest_6 : decode cX12_rarest 6 = .ok (.iload_n 3, 1) := by decide +kernel
theorem dX12_rarest_7 : decode cX12_rarest 7 = .ok (.ifCond .lt 48, 3) := by decide +kernel
theorem dX12_rarest_10 : decode cX12_rarest 10 = .ok (.aload_n 0, 1) := by decide +kernel
theorem dX12_rarest_11 : decode cX12_rarest 11 = .ok (.getfield 22, 3) := by decide +kernel
theorem dX12_rarest_14 : decode cX12_rarest 14 = .ok (.bipush 8, 2) := by decide +kernel
theorem dX12_rarest_16 : decode cX12_rarest 16 = .ok (.iload_n 1, 1) := by decide +kernel
theorem dX12_rarest_17 : decode cX12_rarest 17 = .ok (.imul, 1) := by decide +kernel
theorem dX12_rarest_18 : decode cX12_rarest 18 = .ok (.iload_n 3, 1) := by decide +kernel
theorem dX12_rarest_19 : decode cX12_rarest 19 = .ok (.iadd, 1) := by decide +kernel
theorem dX12_rarest_20 : decode cX12_rarest 20 = .ok (.iaload, 1) := by decide +kernel
theorem dX12_rarest_21 : decode cX12_rarest 21 = .ok (.ifCond .le 26, 3) := by decide +kernel
theorem dX12_rarest_24 : decode cX12_rarest 24 = .ok (.iload_n 2, 1) := by decide +kernel
theorem dX12_rarest_25 : decode cX12_rarest 25 = .ok (.bipush (-9), 2) := by decide +kernel
theorem dX12_rarest_27 : decode cX12_rarest 27 = .ok (.if_icmp .eq 16, 3) := by decide +kernel
theorem dX12_rarest_30 : decode cX12_rarest 30 = .ok (.aload_n 0, 1) := by decide +kernel
theorem dX12_rarest_31 : decode cX12_rarest 31 = .ok (.iload_n 3, 1) := by decide +kernel
theorem dX12_rarest_32 : decode cX12_rarest 32 = .ok (.invokevirtual 240, 3) := by decide +kernel
theorem dX12_rarest_35 : decode cX12_rarest 35 = .ok (.aload_n 0, 1) := by decide +kernel
theorem dX12_rarest_36 : decode cX12_rarest 36 = .ok (.iload_n 2, 1) := by decide +kernel
theorem dX12_rarest_37 : decode cX12_rarest 37 = .ok (.invokevirtual 240, 3) := by decide +kernel
theorem dX12_rarest_40 : decode cX12_rarest 40 = .ok (.if_icmp .gt 7, 3) := by decide +kernel
theorem dX12_rarest_43 : decode cX12_rarest 43 = .ok (.iload_n 3, 1) := by decide +kernel
theorem dX12_rarest_44 : decode cX12_rarest 44 = .ok (.goto 4, 3) := by decide +kernel
theorem dX12_rarest_47 : decode cX12_rarest 47 = .ok (.iload_n 2, 1) := by decide +kernel
theorem dX12_rarest_48 : decode cX12_rarest 48 = .ok (.istore_n 2, 1) := by decide +kernel
theorem dX12_rarest_49 : decode cX12_rarest 49 = .ok (.iinc 3 (-1), 3) := by decide +kernel
theorem dX12_rarest_52 : decode cX12_rarest 52 = .ok (.goto (-46), 3) := by decide +kernel
theorem dX12_rarest_55 : decode cX12_rarest 55 = .ok (.iload_n 2, 1) := by decide +kernel
theorem dX12_rarest_56 : decode cX12_rarest 56 = .ok (.ireturn, 1) := by decide +kernel
theorem dX12_twins_0 : decode cX12_twins 0 = .ok (.iconst 0, 1) := by decide +kernel
theorem dX12_twins_1 : decode cX12_twins 1 = .ok (.istore_n 2, 1) := by decide +kernel
theorem dX12_twins_2 : decode cX12_twins 2 = .ok (.iconst 0, 1) := by decide +kernel
theorem dX12_twins_3 : decode cX12_twins 3 = .ok (.istore_n 3, 1) := by decide +kernel
theorem dX12_twins_4 : decode cX12_twins 4 = .ok (.iload_n 3, 1) := by decide +kernel
theorem dX12_twins_5 : decode cX12_twins 5 = .ok (.aload_n 0, 1) := by decide +kernel
theorem dX12_twins_6 : decode cX12_twins 6 = .ok (.getfield 103, 3) := by decide +kernel
theorem dX12_twins_9 : decode cX12_twins 9 = .ok (.if_icmp .ge 80, 3) := by decide +kernel
theorem dX12_twins_12 : decode cX12_twins 12 = .ok (.iconst 1, 1) := by decide +kernel
theorem dX12_twins_13 : decode cX12_twins 13 = .ok (.istore 4, 2) := by decide +kernel
theorem dX12_twins_15 : decode cX12_twins 15 = .ok (.iconst 0, 1) := by decide +kernel
theorem dX12_twins_16 : decode cX12_twins 16 = .ok (.istore 5, 2) := by decide +kernel
theorem dX12_twins_18 : decode cX12_twins 18 = .ok (.iload 5, 2) := by decide +kernel
theorem dX12_twins_20 : decode cX12_twins 20 = .ok (.bipush 8, 2) := by decide +kernel
theorem dX12_twins_22 : decode cX12_twins 22 = .ok (.if_icmp .ge 48, 3) := by decide +kernel
theorem dX12_twins_25 : decode cX12_twins 25 = .ok (.iload 4, 2) := by decide +kernel
theorem dX12_twins_27 : decode cX12_twins 27 = .ok (.ifCond .eq 34, 3) := by decide +kernel
theorem dX12_twins_30 : decode cX12_twins 30 = .ok (.aload_n 0, 1) := by decide +kernel
theorem dX12_twins_31 : decode cX12_twins 31 = .ok (.getfield 22, 3) := by decide +kernel
theorem dX12_twins_34 : decode cX12_twins 34 = .ok (.bipush 8, 2) := by decide +kernel
theorem dX12_twins_36 : decode cX12_twins 36 = .ok (.iload_n 1, 1) := by decide +kernel
theorem dX12_twins_37 : decode cX12_twins 37 = .ok (.imul, 1) := by decide +kernel
theorem dX12_twins_38 : decode cX12_twins 38 = .ok (.iload 5, 2) := by decide +kernel
theorem dX12_twins_40 : decode cX12_twins 40 = .ok (.iadd, 1) := by decide +kernel
theorem dX12_twins_41 : decode cX12_twins 41 = .ok (.iaload, 1) := by decide +kernel
theorem dX12_twins_42 : decode cX12_twins 42 = .ok (.aload_n 0, 1) := by decide +kernel
theorem dX12_twins_43 : decode cX12_twins 43 = .ok (.getfield 22, 3) := by decide +kernel
theorem dX12_twins_46 : decode cX12_twins 46 = .ok (.bipush 8, 2) := by decide +kernel
theorem dX12_twins_48 : decode cX12_twins 48 = .ok (.iload_n 3, 1) := by decide +kernel
theorem dX12_twins_49 : decode cX12_twins 49 = .ok (.imul, 1) := by decide +kernel
theorem dX12_twins_50 : decode cX12_twins 50 = .ok (.iload 5, 2) := by decide +kernel
theorem dX12_twins_52 : decode cX12_twins 52 = .ok (.iadd, 1) := by decide +kernel
theorem dX12_twins_53 : decode cX12_twins 53 = .ok (.iaload, 1) := by decide +kernel
theorem dX12_twins_54 : decode cX12_twins 54 = .ok (.if_icmp .ne 7, 3) := by decide +kernel
theorem dX12_twins_57 : decode cX12_twins 57 = .ok (.iconst 1, 1) := by decide +kernel
theorem dX12_twins_58 : decode cX12_twins 58 = .ok (.goto 4, 3) := by decide +kernel
theorem dX12_twins_61 : decode cX12_twins 61 = .ok (.iconst 0, 1) := by decide +kernel
theorem dX12_twins_62 : decode cX12_twins 62 = .ok (.istore 4, 2) := by decide +kernel
theorem dX12_twins_64 : decode cX12_twins 64 = .ok (.iinc 5 1, 3) := by decide +kernel
theorem dX12_twins_67 : decode cX12_twins 67 = .ok (.goto (-49), 3) := by decide +kernel
theorem dX12_twins_70 : decode cX12_twins 70 = .ok (.iload_n 2, 1) := by decide +kernel
theorem dX12_twins_71 : decode cX12_twins 71 = .ok (.iload 4, 2) := by decide +kernel
theorem dX12_twins_73 : decode cX12_twins 73 = .ok (.ifCond .eq 7, 3) := by decide +kernel
theorem dX12_twins_76 : decode cX12_twins 76 = .ok (.iconst 1, 1) := by decide +kernel
theorem dX12_twins_77 : decode cX12_twins 77 = .ok (.goto 4, 3) := by decide +kernel
theorem dX12_twins_80 : decode cX12_twins 80 = .ok (.iconst 0, 1) := by decide +kernel
theorem dX12_twins_81 : decode cX12_twins 81 = .ok (.iadd, 1) := by decide +kernel
theorem dX12_twins_82 : decode cX12_twins 82 = .ok (.istore_n 2, 1) := by decide +kernel
theorem dX12_twins_83 : decode cX12_twins 83 = .ok (.iinc 3 1, 3) := by decide +kernel
theorem dX12_twins_86 : decode cX12_twins 86 = .ok (.goto (-82), 3) := by decide +kernel
theorem dX12_twins_89 : decode cX12_twins 89 = .ok (.iload_n 2, 1) := by decide +kernel
theorem dX12_twins_90 : decode cX12_twins 90 = .ok (.ireturn, 1) := by decide +kernel
theorem dX12_madeOf_0 : decode cX12_madeOf 0 = .ok (.bipush 12, 2) := by decide +kernel
theorem dX12_madeOf_2 : decode cX12_madeOf 2 = .ok (.istore_n 2, 1) := by decide +kernel
theorem dX12_madeOf_3 : decode cX12_madeOf 3 = .ok (.iconst 0, 1) := by decide +kernel
theorem dX12_madeOf_4 : decode cX12_madeOf 4 = .ok (.istore_n 3, 1) := by decide +kernel
theorem dX12_madeOf_5 : decode cX12_madeOf 5 = .ok (.iload_n 3, 1) := by decide +kernel
theorem dX12_madeOf_6 : decode cX12_madeOf 6 = .ok (.bipush 8, 2) := by decide +kernel
theorem dX12_madeOf_8 : decode cX12_madeOf 8 = .ok (.if_icmp .ge 54, 3) := by decide +kernel
theorem dX12_madeOf_11 : decode cX12_madeOf 11 = .ok (.aload_n 0, 1) := by decide +kernel
theorem dX12_madeOf_12 : decode cX12_madeOf 12 = .ok (.getfield 22, 3) := by decide +kernel
theorem dX12_madeOf_15 : decode cX12_madeOf 15 = .ok (.bipush 8, 2) := by decide +kernel
theorem dX12_madeOf_17 : decode cX12_madeOf 17 = .ok (.iload_n 1, 1) := by decide +kernel
theorem dX12_madeOf_18 : decode cX12_madeOf 18 = .ok (.imul, 1) := by decide +kernel
theorem dX12_madeOf_19 : decode cX12_madeOf 19 = .ok (.iload_n 3, 1) := by decide +kernel
theorem dX12_madeOf_20 : decode cX12_madeOf 20 = .ok (.iadd, 1) := by decide +kernel
theorem dX12_madeOf_21 : decode cX12_madeOf 21 = .ok (.iaload, 1) := by decide +kernel
theorem dX12_madeOf_22 : decode cX12_madeOf 22 = .ok (.istore 4, 2) := by decide +kernel
theorem dX12_madeOf_24 : decode cX12_madeOf 24 = .ok (.iload 4, 2) := by decide +kernel
theorem dX12_madeOf_26 : decode cX12_madeOf 26 = .ok (.ifCond .le 28, 3) := by decide +kernel
theorem dX12_madeOf_29 : decode cX12_madeOf 29 = .ok (.aload_n 0, 1) := by decide +kernel
theorem dX12_madeOf_30 : decode cX12_madeOf 30 = .ok (.getfield 25, 3) := by decide +kernel
theorem dX12_madeOf_33 : decode cX12_madeOf 33 = .ok (.iload_n 3, 1) := by decide +kernel
theorem dX12_madeOf_34 : decode cX12_madeOf 34 = .ok (.iaload, 1) := by decide +kernel
theorem dX12_madeOf_35 : decode cX12_madeOf 35 = .ok (.iload 4, 2) := by decide +kernel
theorem dX12_madeOf_37 : decode cX12_madeOf 37 = .ok (.idiv, 1) := by decide +kernel
theorem dX12_madeOf_38 : decode cX12_madeOf 38 = .ok (.iload_n 2, 1) := by decide +kernel
theorem dX12_madeOf_39 : decode cX12_madeOf 39 = .ok (.if_icmp .ge 15, 3) := by decide +kernel
theorem dX12_madeOf_42 : decode cX12_madeOf 42 = .ok (.aload_n 0, 1) := by decide +kernel
theorem dX12_madeOf_43 : decode cX12_madeOf 43 = .ok (.getfield 25, 3) := by decide +kernel
theorem dX12_madeOf_46 : decode cX12_madeOf 46 = .ok (.iload_n 3, 1) := by decide +kernel
theorem dX12_madeOf_47 : decode cX12_madeOf 47 = .ok (.iaload, 1) := by decide +kernel
theorem dX12_madeOf_48 : decode cX12_madeOf 48 = .ok (.iload 4, 2) := by decide +kernel
theorem dX12_madeOf_50 : decode cX12_madeOf 50 = .ok (.idiv, 1) := by decide +kernel
theorem dX12_madeOf_51 : decode cX12_madeOf 51 = .ok (.goto 4, 3) := by decide +kernel
theorem dX12_madeOf_54 : decode cX12_madeOf 54 = .ok (.iload_n 2, 1) := by decide +kernel
theorem dX12_madeOf_55 : decode cX12_madeOf 55 = .ok (.istore_n 2, 1) := by decide +kernel
theorem dX12_madeOf_56 : decode cX12_madeOf 56 = .ok (.iinc 3 1, 3) := by decide +kernel
theorem dX12_madeOf_59 : decode cX12_madeOf 59 = .ok (.goto (-54), 3) := by decide +kernel
theorem dX12_madeOf_62 : decode cX12_madeOf 62 = .ok (.iload_n 2, 1) := by decide +kernel
theorem dX12_madeOf_63 : decode cX12_madeOf 63 = .ok (.ireturn, 1) := by decide +kernel
theorem dX12_lettersOf_0 : decode cX12_lettersOf 0 = .ok (.iconst 0, 1) := by decide +kernel
theorem dX12_lettersOf_1 : decode cX12_lettersOf 1 = .ok (.istore_n 2, 1) := by decide +kernel
theorem dX12_lettersOf_2 : decode cX12_lettersOf 2 = .ok (.iconst 0, 1) := by decide +kernel
theorem dX12_lettersOf_3 : decode cX12_lettersOf 3 = .ok (.istore_n 3, 1) := by decide +kernel
theorem dX12_lettersOf_4 : decode cX12_lettersOf 4 = .ok (.iload_n 3, 1) := by decide +kernel
theorem dX12_lettersOf_5 : decode cX12_lettersOf 5 = .ok (.bipush 8, 2) := by decide +kernel
theorem dX12_lettersOf_7 : decode cX12_lettersOf 7 = .ok (.if_icmp .ge 33, 3) := by decide +kernel
theorem dX12_lettersOf_10 : decode cX12_lettersOf 10 = .ok (.iload_n 2, 1) := by decide +kernel
theorem dX12_lettersOf_11 : decode cX12_lettersOf 11 = .ok (.aload_n 0, 1) := by decide +kernel
theorem dX12_lettersOf_12 : decode cX12_lettersOf 12 = .ok (.getfield 22, 3) := by decide +kernel
theorem dX12_lettersOf_15 : decode cX12_lettersOf 15 = .ok (.bipush 8, 2) := by decide +kernel
theorem dX12_lettersOf_17 : decode cX12_lettersOf 17 = .ok (.iload_n 1, 1) := by decide +kernel
theorem dX12_lettersOf_18 : decode cX12_lettersOf 18 = .ok (.imul, 1) := by decide +kernel
theorem dX12_lettersOf_19 : decode cX12_lettersOf 19 = .ok (.iload_n 3, 1) := by decide +kernel
theorem dX12_lettersOf_20 : decode cX12_lettersOf 20 = .ok (.iadd, 1) := by decide +kernel
theorem dX12_lettersOf_21 : decode cX12_lettersOf 21 = .ok (.iaload, 1) := by decide +kernel
theorem dX12_lettersOf_22 : decode cX12_lettersOf 22 = .ok (.ifCond .le 9, 3) := by decide +kernel
theorem dX12_lettersOf_25 : decode cX12_lettersOf 25 = .ok (.iconst 1, 1) := by decide +kernel
theorem dX12_lettersOf_26 : decode cX12_lettersOf 26 = .ok (.iload_n 3, 1) := by decide +kernel
theorem dX12_lettersOf_27 : decode cX12_lettersOf 27 = .ok (.ishl, 1) := by decide +kernel
theorem dX12_lettersOf_28 : decode cX12_lettersOf 28 = .ok (.goto 4, 3) := by decide +kernel
theorem dX12_lettersOf_31 : decode cX12_lettersOf 31 = .ok (.iconst 0, 1) := by decide +kernel
theorem dX12_lettersOf_32 : decode cX12_lettersOf 32 = .ok (.ior, 1) := by decide +kernel
theorem dX12_lettersOf_33 : decode cX12_lettersOf 33 = .ok (.istore_n 2, 1) := by decide +kernel
theorem dX12_lettersOf_34 : decode cX12_lettersOf 34 = .ok (.iinc 3 1, 3) := by decide +kernel
theorem dX12_lettersOf_37 : decode cX12_lettersOf 37 = .ok (.goto (-33), 3) := by decide +kernel
theorem dX12_lettersOf_40 : decode cX12_lettersOf 40 = .ok (.iload_n 2, 1) := by decide +kernel
theorem dX12_lettersOf_41 : decode cX12_lettersOf 41 = .ok (.ireturn, 1) := by decide +kernel
theorem dX12_word_0 : decode cX12_word 0 = .ok (.aload_n 0, 1) := by decide +kernel
theorem dX12_word_1 : decode cX12_word 1 = .ok (.iload_n 1, 1) := by decide +kernel
theorem dX12_word_2 : decode cX12_word 2 = .ok (.invokevirtual 243, 3) := by decide +kernel
theorem dX12_word_5 : decode cX12_word 5 = .ok (.ifCond .ne 5, 3) := by decide +kernel
theorem dX12_word_8 : decode cX12_word 8 = .ok (.iconst (-1), 1) := by decide +kernel
theorem dX12_word_9 : decode cX12_word 9 = .ok (.ireturn, 1) := by decide +kernel
theorem dX12_word_10 : decode cX12_word 10 = .ok (.iload_n 2, 1) := by decide +kernel
theorem dX12_word_11 : decode cX12_word 11 = .ok (.tableswitch 105 0 7 #[45, 52, 59, 69, 81, 87, 93, 99], 45) := by decide +kernel
theorem dX12_word_56 : decode cX12_word 56 = .ok (.aload_n 0, 1) := by decide +kernel
theorem dX12_word_57 : decode cX12_word 57 = .ok (.getfield 16, 3) := by decide +kernel
theorem dX12_word_60 : decode cX12_word 60 = .ok (.iload_n 1, 1) := by decide +kernel
theorem dX12_word_61 : decode cX12_word 61 = .ok (.iaload, 1) := by decide +kernel
theorem dX12_word_62 : decode cX12_word 62 = .ok (.ireturn, 1) := by decide +kernel
theorem dX12_word_63 : decode cX12_word 63 = .ok (.aload_n 0, 1) := by decide +kernel
theorem dX12_word_64 : decode cX12_word 64 = .ok (.getfield 19, 3) := by decide +kernel
theorem dX12_word_67 : decode cX12_word 67 = .ok (.iload_n 1, 1) := by decide +kernel
theorem dX12_word_68 : decode cX12_word 68 = .ok (.iaload, 1) := by decide +kernel
theorem dX12_word_69 : decode cX12_word 69 = .ok (.ireturn, 1) := by decide +kernel
theorem dX12_word_70 : decode cX12_word 70 = .ok (.aload_n 0, 1) := by decide +kernel
theorem dX12_word_71 : decode cX12_word 71 = .ok (.getfield 25, 3) := by decide +kernel
theorem dX12_word_74 : decode cX12_word 74 = .ok (.bipush 9, 2) := by decide +kernel
theorem dX12_word_76 : decode cX12_word 76 = .ok (.iload_n 1, 1) := by decide +kernel
theorem dX12_word_77 : decode cX12_word 77 = .ok (.iadd, 1) := by decide +kernel
theorem dX12_word_78 : decode cX12_word 78 = .ok (.iaload, 1) := by decide +kernel
theorem dX12_word_79 : decode cX12_word 79 = .ok (.ireturn, 1) := by decide +kernel
theorem dX12_word_80 : decode cX12_word 80 = .ok (.aload_n 0, 1) := by decide +kernel
theorem dX12_word_81 : decode cX12_word 81 = .ok (.getfield 25, 3) := by decide +kernel
theorem dX12_word_84 : decode cX12_word 84 = .ok (.bipush 8, 2) := by decide +kernel
theorem dX12_word_86 : decode cX12_word 86 = .ok (.iaload, 1) := by decide +kernel
theorem dX12_word_87 : decode cX12_word 87 = .ok (.iload_n 1, 1) := by decide +kernel
theorem dX12_word_88 : decode cX12_word 88 = .ok (.ishr, 1) := by decide +kernel
theorem dX12_word_89 : decode cX12_word 89 = .ok (.iconst 1, 1) := by decide +kernel
theorem dX12_word_90 : decode cX12_word 90 = .ok (.iand, 1) := by decide +kernel
theorem dX12_word_91 : decode cX12_word 91 = .ok (.ireturn, 1) := by decide +kernel
theorem dX12_word_92 : decode cX12_word 92 = .ok (.aload_n 0, 1) := by decide +kernel
theorem dX12_word_93 : decode cX12_word 93 = .ok (.iload_n 1, 1) := by decide +kernel
theorem dX12_word_94 : decode cX12_word 94 = .ok (.invokevirtual 246, 3) := by decide +kernel
theorem dX12_word_97 : decode cX12_word 97 = .ok (.ireturn, 1) := by decide +kernel
theorem dX12_word_98 : decode cX12_word 98 = .ok (.aload_n 0, 1) := by decide +kernel
theorem dX12_word_99 : decode cX12_word 99 = .ok (.iload_n 1, 1) := by decide +kernel
theorem dX12_word_100 : decode cX12_word 100 = .ok (.invokevirtual 249, 3) := by decide +kernel
theorem dX12_word_103 : decode cX12_word 103 = .ok (.ireturn, 1) := by decide +kernel
theorem dX12_word_104 : decode cX12_word 104 = .ok (.aload_n 0, 1) := by decide +kernel
theorem dX12_word_105 : decode cX12_word 105 = .ok (.iload_n 1, 1) := by decide +kernel
theorem dX12_word_106 : decode cX12_word 106 = .ok (.invokevirtual 220, 3) := by decide +kernel
theorem dX12_word_109 : decode cX12_word 109 = .ok (.ireturn, 1) := by decide +kernel
theorem dX12_word_110 : decode cX12_word 110 = .ok (.aload_n 0, 1) := by decide +kernel
theorem dX12_word_111 : decode cX12_word 111 = .ok (.iload_n 1, 1) := by decide +kernel
theorem dX12_word_112 : decode cX12_word 112 = .ok (.invokevirtual 252, 3) := by decide +kernel
theorem dX12_word_115 : decode cX12_word 115 = .ok (.ireturn, 1) := by decide +kernel
theorem dX12_word_116 : decode cX12_word 116 = .ok (.bipush (-2), 2) := by decide +kernel
theorem dX12_word_118 : decode cX12_word 118 = .ok (.ireturn, 1) := by decide +kernel
theorem dX12_letter_0 : decode cX12_letter 0 = .ok (.iload_n 1, 1) := by decide +kernel
theorem dX12_letter_1 : decode cX12_letter 1 = .ok (.invokestatic 255, 3) := by decide +kernel
theorem dX12_letter_4 : decode cX12_letter 4 = .ok (.ifCond .eq 15, 3) := by decide +kernel
theorem dX12_letter_7 : decode cX12_letter 7 = .ok (.iload_n 2, 1) := by decide +kernel
theorem dX12_letter_8 : decode cX12_letter 8 = .ok (.iconst 2, 1) := by decide +kernel
theorem dX12_letter_9 : decode cX12_letter 9 = .ok (.if_icmp .ne 12, 3) := by decide +kernel
theorem dX12_letter_12 : decode cX12_letter 12 = .ok (.iload_n 1, 1) := by decide +kernel
theorem dX12_letter_13 : decode cX12_letter 13 = .ok (.invokestatic 145, 3) := by decide +kernel
theorem dX12_letter_16 : decode cX12_letter 16 = .ok (.ifCond .ne 5, 3) := by decide +kernel
theorem dX12_letter_19 : decode cX12_letter 19 = .ok (.iconst (-1), 1) := by decide +kernel
theorem dX12_letter_20 : decode cX12_letter 20 = .ok (.ireturn, 1) := by decide +kernel
theorem dX12_letter_21 : decode cX12_letter 21 = .ok (.iload_n 2, 1) := by decide +kernel
theorem dX12_letter_22 : decode cX12_letter 22 = .ok (.tableswitch 49 0 2 #[26, 33, 39], 26) := by decide +kernel
theorem dX12_letter_48 : decode cX12_letter 48 = .ok (.aload_n 0, 1) := by decide +kernel
theorem dX12_letter_49 : decode cX12_letter 49 = .ok (.getfield 25, 3) := by decide +kernel
theorem dX12_letter_52 : decode cX12_letter 52 = .ok (.iload_n 1, 1) := by decide +kernel
theorem dX12_letter_53 : decode cX12_letter 53 = .ok (.iaload, 1) := by decide +kernel
theorem dX12_letter_54 : decode cX12_letter 54 = .ok (.ireturn, 1) := by decide +kernel
theorem dX12_letter_55 : decode cX12_letter 55 = .ok (.aload_n 0, 1) := by decide +kernel
theorem dX12_letter_56 : decode cX12_letter 56 = .ok (.iload_n 1, 1) := by decide +kernel
theorem dX12_letter_57 : decode cX12_letter 57 = .ok (.invokevirtual 240, 3) := by decide +kernel
theorem dX12_letter_60 : decode cX12_letter 60 = .ok (.ireturn, 1) := by decide +kernel
theorem dX12_letter_61 : decode cX12_letter 61 = .ok (.aload_n 0, 1) := by decide +kernel
theorem dX12_letter_62 : decode cX12_letter 62 = .ok (.getfield 25, 3) := by decide +kernel
theorem dX12_letter_65 : decode cX12_letter 65 = .ok (.bipush 21, 2) := by decide +kernel
theorem dX12_letter_67 : decode cX12_letter 67 = .ok (.iload_n 1, 1) := by decide +kernel
theorem dX12_letter_68 : decode cX12_letter 68 = .ok (.iadd, 1) := by decide +kernel
theorem dX12_letter_69 : decode cX12_letter 69 = .ok (.iaload, 1) := by decide +kernel
theorem dX12_letter_70 : decode cX12_letter 70 = .ok (.ireturn, 1) := by decide +kernel
theorem dX12_letter_71 : decode cX12_letter 71 = .ok (.bipush (-2), 2) := by decide +kernel
theorem dX12_letter_73 : decode cX12_letter 73 = .ok (.ireturn, 1) := by decide +kernel
theorem dX12_note_0 : decode cX12_note 0 = .ok (.iconst 0, 1) := by decide +kernel
theorem dX12_note_1 : decode cX12_note 1 = .ok (.istore_n 1, 1) := by decide +kernel
theorem dX12_note_2 : decode cX12_note 2 = .ok (.iload_n 1, 1) := by decide +kernel
theorem dX12_note_3 : decode cX12_note 3 = .ok (.bipush 25, 2) := by decide +kernel
theorem dX12_note_5 : decode cX12_note 5 = .ok (.if_icmp .ge 29, 3) := by decide +kernel
theorem dX12_note_8 : decode cX12_note 8 = .ok (.aload_n 0, 1) := by decide +kernel
theorem dX12_note_9 : decode cX12_note 9 = .ok (.getfield 31, 3) := by decide +kernel
theorem dX12_note_12 : decode cX12_note 12 = .ok (.bipush 25, 2) := by decide +kernel
theorem dX12_note_14 : decode cX12_note 14 = .ok (.aload_n 0, 1) := by decide +kernel
theorem dX12_note_15 : decode cX12_note 15 = .ok (.getfield 258, 3) := by decide +kernel
theorem dX12_note_18 : decode cX12_note 18 = .ok (.imul, 1) := by decide +kernel
theorem dX12_note_19 : decode cX12_note 19 = .ok (.iload_n 1, 1) := by decide +kernel
theorem dX12_note_20 : decode cX12_note 20 = .ok (.iadd, 1) := by decide +kernel
theorem dX12_note_21 : decode cX12_note 21 = .ok (.aload_n 0, 1) := by decide +kernel
theorem dX12_note_22 : decode cX12_note 22 = .ok (.getfield 25, 3) := by decide +kernel
theorem dX12_note_25 : decode cX12_note 25 = .ok (.iload_n 1, 1) := by decide +kernel
theorem dX12_note_26 : decode cX12_note 26 = .ok (.iaload, 1) := by decide +kernel
theorem dX12_note_27 : decode cX12_note 27 = .ok (.iastore, 1) := by decide +kernel
theorem dX12_note_28 : decode cX12_note 28 = .ok (.iinc 1 1, 3) := by decide +kernel
theorem dX12_note_31 : decode cX12_note 31 = .ok (.goto (-29), 3) := by decide +kernel
theorem dX12_note_34 : decode cX12_note 34 = .ok (.aload_n 0, 1) := by decide +kernel
theorem dX12_note_35 : decode cX12_note 35 = .ok (.aload_n 0, 1) := by decide +kernel
theorem dX12_note_36 : decode cX12_note 36 = .ok (.getfield 258, 3) := by decide +kernel
theorem dX12_note_39 : decode cX12_note 39 = .ok (.iconst 1, 1) := by decide +kernel
theorem dX12_note_40 : decode cX12_note 40 = .ok (.iadd, 1) := by decide +kernel
theorem dX12_note_41 : decode cX12_note 41 = .ok (.bipush 14, 2) := by decide +kernel
theorem dX12_note_43 : decode cX12_note 43 = .ok (.irem, 1) := by decide +kernel
theorem dX12_note_44 : decode cX12_note 44 = .ok (.putfield 258, 3) := by decide +kernel
theorem dX12_note_47 : decode cX12_note 47 = .ok (.aload_n 0, 1) := by decide +kernel
theorem dX12_note_48 : decode cX12_note 48 = .ok (.aload_n 0, 1) := by decide +kernel
theorem dX12_note_49 : decode cX12_note 49 = .ok (.getfield 182, 3) := by decide +kernel
theorem dX12_note_52 : decode cX12_note 52 = .ok (.bipush 14, 2) := by decide +kernel
theorem dX12_note_54 : decode cX12_note 54 = .ok (.if_icmp .ge 12, 3) := by decide +kernel
theorem dX12_note_57 : decode cX12_note 57 = .ok (.aload_n 0, 1) := by decide +kernel
theorem dX12_note_58 : decode cX12_note 58 = .ok (.getfield 182, 3) := by decide +kernel
theorem dX12_note_61 : decode cX12_note 61 = .ok (.iconst 1, 1) := by decide +kernel
theorem dX12_note_62 : decode cX12_note 62 = .ok (.iadd, 1) := by decide +kernel
theorem dX12_note_63 : decode cX12_note 63 = .ok (.goto 5, 3) := by decide +kernel
theorem dX12_note_66 : decode cX12_note 66 = .ok (.bipush 14, 2) := by decide +kernel
theorem dX12_note_68 : decode cX12_note 68 = .ok (.putfield 182, 3) := by decide +kernel
theorem dX12_note_71 : decode cX12_note 71 = .ok (.return_, 1) := by decide +kernel
theorem dX12_put_0 : decode cX12_put 0 = .ok (.iload_n 1, 1) := by decide +kernel
theorem dX12_put_1 : decode cX12_put 1 = .ok (.invokestatic 255, 3) := by decide +kernel
theorem dX12_put_4 : decode cX12_put 4 = .ok (.ifCond .ne 5, 3) := by decide +kernel
theorem dX12_put_7 : decode cX12_put 7 = .ok (.iconst (-1), 1) := by decide +kernel
theorem dX12_put_8 : decode cX12_put 8 = .ok (.ireturn, 1) := by decide +kernel
theorem dX12_put_9 : decode cX12_put 9 = .ok (.aload_n 0, 1) := by decide +kernel
theorem dX12_put_10 : decode cX12_put 10 = .ok (.getfield 25, 3) := by decide +kernel
theorem dX12_put_13 : decode cX12_put 13 = .ok (.invokestatic 129, 3) := by decide +kernel
theorem dX12_put_16 : decode cX12_put 16 = .ok (.bipush 12, 2) := by decide +kernel
theorem dX12_put_18 : decode cX12_put 18 = .ok (.if_icmp .ne 6, 3) := by decide +kernel
theorem dX12_put_21 : decode cX12_put 21 = .ok (.bipush (-4), 2) := by decide +kernel
theorem dX12_put_23 : decode cX12_put 23 = .ok (.ireturn, 1) := by decide +kernel
theorem dX12_put_24 : decode cX12_put 24 = .ok (.aload_n 0, 1) := by decide +kernel
theorem dX12_put_25 : decode cX12_put 25 = .ok (.invokevirtual 261, 3) := by decide +kernel
theorem dX12_put_28 : decode cX12_put 28 = .ok (.aload_n 0, 1) := by decide +kernel
theorem dX12_put_29 : decode cX12_put 29 = .ok (.getfield 25, 3) := by decide +kernel
theorem dX12_put_32 : decode cX12_put 32 = .ok (.iload_n 1, 1) := by decide +kernel
theorem dX12_put_33 : decode cX12_put 33 = .ok (.dup2, 1) := by decide +kernel
theorem dX12_put_34 : decode cX12_put 34 = .ok (.iaload, 1) := by decide +kernel
theorem dX12_put_35 : decode cX12_put 35 = .ok (.iconst 1, 1) := by decide +kernel
theorem dX12_put_36 : decode cX12_put 36 = .ok (.iadd, 1) := by decide +kernel
theorem dX12_put_37 : decode cX12_put 37 = .ok (.iastore, 1) := by decide +kernel
theorem dX12_put_38 : decode cX12_put 38 = .ok (.aload_n 0, 1) := by decide +kernel
theorem dX12_put_39 : decode cX12_put 39 = .ok (.getfield 25, 3) := by decide +kernel
theorem dX12_put_42 : decode cX12_put 42 = .ok (.invokestatic 129, 3) := by decide +kernel
theorem dX12_put_45 : decode cX12_put 45 = .ok (.ireturn, 1) := by decide +kernel
theorem dX12_take_0 : decode cX12_take 0 = .ok (.iload_n 1, 1) := by decide +kernel
theorem dX12_take_1 : decode cX12_take 1 = .ok (.invokestatic 255, 3) := by decide +kernel
theorem dX12_take_4 : decode cX12_take 4 = .ok (.ifCond .ne 5, 3) := by decide +kernel
theorem dX12_take_7 : decode cX12_take 7 = .ok (.iconst (-1), 1) := by decide +kernel
theorem dX12_take_8 : decode cX12_take 8 = .ok (.ireturn, 1) := by decide +kernel
theorem dX12_take_9 : decode cX12_take 9 = .ok (.aload_n 0, 1) := by decide +kernel
theorem dX12_take_10 : decode cX12_take 10 = .ok (.getfield 25, 3) := by decide +kernel
theorem dX12_take_13 : decode cX12_take 13 = .ok (.iload_n 1, 1) := by decide +kernel
theorem dX12_take_14 : decode cX12_take 14 = .ok (.iaload, 1) := by decide +kernel
theorem dX12_take_15 : decode cX12_take 15 = .ok (.ifCond .ne 6, 3) := by decide +kernel
theorem dX12_take_18 : decode cX12_take 18 = .ok (.bipush (-3), 2) := by decide +kernel
theorem dX12_take_20 : decode cX12_take 20 = .ok (.ireturn, 1) := by decide +kernel
theorem dX12_take_21 : decode cX12_take 21 = .ok (.aload_n 0, 1) := by decide +kernel
theorem dX12_take_22 : decode cX12_take 22 = .ok (.invokevirtual 261, 3) := by decide +kernel
theorem dX12_take_25 : decode cX12_take 25 = .ok (.aload_n 0, 1) := by decide +kernel
theorem dX12_take_26 : decode cX12_take 26 = .ok (.getfield 25, 3) := by decide +kernel
theorem dX12_take_29 : decode cX12_take 29 = .ok (.iload_n 1, 1) := by decide +kernel
theorem dX12_take_30 : decode cX12_take 30 = .ok (.dup2, 1) := by decide +kernel
theorem dX12_take_31 : decode cX12_take 31 = .ok (.iaload, 1) := by decide +kernel
theorem dX12_take_32 : decode cX12_take 32 = .ok (.iconst 1, 1) := by decide +kernel
theorem dX12_take_33 : decode cX12_take 33 = .ok (.isub, 1) := by decide +kernel
theorem dX12_take_34 : decode cX12_take 34 = .ok (.iastore, 1) := by decide +kernel
theorem dX12_take_35 : decode cX12_take 35 = .ok (.aload_n 0, 1) := by decide +kernel
theorem dX12_take_36 : decode cX12_take 36 = .ok (.getfield 25, 3) := by decide +kernel
theorem dX12_take_39 : decode cX12_take 39 = .ok (.invokestatic 129, 3) := by decide +kernel
theorem dX12_take_42 : decode cX12_take 42 = .ok (.ireturn, 1) := by decide +kernel
theorem dX12_bar_0 : decode cX12_bar 0 = .ok (.aload_n 0, 1) := by decide +kernel
theorem dX12_bar_1 : decode cX12_bar 1 = .ok (.iload_n 1, 1) := by decide +kernel
theorem dX12_bar_2 : decode cX12_bar 2 = .ok (.invokevirtual 243, 3) := by decide +kernel
theorem dX12_bar_5 : decode cX12_bar 5 = .ok (.ifCond .ne 5, 3) := by decide +kernel
theorem dX12_bar_8 : decode cX12_bar 8 = .ok (.iconst (-1), 1) := by decide +kernel
theorem dX12_bar_9 : decode cX12_bar 9 = .ok (.ireturn, 1) := by decide +kernel
theorem dX12_bar_10 : decode cX12_bar 10 = .ok (.aload_n 0, 1) := by decide +kernel
theorem dX12_bar_11 : decode cX12_bar 11 = .ok (.invokevirtual 261, 3) := by decide +kernel
theorem dX12_bar_14 : decode cX12_bar 14 = .ok (.aload_n 0, 1) := by decide +kernel
theorem dX12_bar_15 : decode cX12_bar 15 = .ok (.getfield 25, 3) := by decide +kernel
theorem dX12_bar_18 : decode cX12_bar 18 = .ok (.bipush 8, 2) := by decide +kernel
theorem dX12_bar_20 : decode cX12_bar 20 = .ok (.dup2, 1) := by decide +kernel
theorem dX12_bar_21 : decode cX12_bar 21 = .ok (.iaload, 1) := by decide +kernel
theorem dX12_bar_22 : decode cX12_bar 22 = .ok (.iconst 1, 1) := by decide +kernel
theorem dX12_bar_23 : decode cX12_bar 23 = .ok (.iload_n 1, 1) := by decide +kernel
theorem dX12_bar_24 : decode cX12_bar 24 = .ok (.ishl, 1) := by decide +kernel
theorem dX12_bar_25 : decode cX12_bar 25 = .ok (.ixor, 1) := by decide +kernel
theorem dX12_bar_26 : decode cX12_bar 26 = .ok (.iastore, 1) := by decide +kernel
theorem dX12_bar_27 : decode cX12_bar 27 = .ok (.aload_n 0, 1) := by decide +kernel
theorem dX12_bar_28 : decode cX12_bar 28 = .ok (.getfield 25, 3) := by decide +kernel
theorem dX12_bar_31 : decode cX12_bar 31 = .ok (.bipush 8, 2) := by decide +kernel
theorem dX12_bar_33 : decode cX12_bar 33 = .ok (.iaload, 1) := by decide +kernel
theorem dX12_bar_34 : decode cX12_bar 34 = .ok (.iload_n 1, 1) := by decide +kernel
theorem dX12_bar_35 : decode cX12_bar 35 = .ok (.ishr, 1) := by decide +kernel
theorem dX12_bar_36 : decode cX12_bar 36 = .ok (.iconst 1, 1) := by decide +kernel
theorem dX12_bar_37 : decode cX12_bar 37 = .ok (.iand, 1) := by decide +kernel
theorem dX12_bar_38 : decode cX12_bar 38 = .ok (.ireturn, 1) := by decide +kernel
theorem dX12_rank_0 : decode cX12_rank 0 = .ok (.aload_n 0, 1) := by decide +kernel
theorem dX12_rank_1 : decode cX12_rank 1 = .ok (.iload_n 1, 1) := by decide +kernel
theorem dX12_rank_2 : decode cX12_rank 2 = .ok (.invokevirtual 243, 3) := by decide +kernel
theorem dX12_rank_5 : decode cX12_rank 5 = .ok (.ifCond .ne 5, 3) := by decide +kernel
theorem dX12_rank_8 : decode cX12_rank 8 = .ok (.iconst (-1), 1) := by decide +kernel
theorem dX12_rank_9 : decode cX12_rank 9 = .ok (.ireturn, 1) := by decide +kernel
theorem dX12_rank_10 : decode cX12_rank 10 = .ok (.iload_n 2, 1) := by decide +kernel
theorem dX12_rank_11 : decode cX12_rank 11 = .ok (.i2l, 1) := by decide +kernel
theorem dX12_rank_12 : decode cX12_rank 12 = .ok (.lconst 0, 1) := by decide +kernel
theorem dX12_rank_13 : decode cX12_rank 13 = .ok (.ldc2_w 264, 3) := by decide +kernel
theorem dX12_rank_16 : decode cX12_rank 16 = .ok (.invokestatic 107, 3) := by decide +kernel
theorem dX12_rank_19 : decode cX12_rank 19 = .ok (.ifCond .ne 6, 3) := by decide +kernel
theorem dX12_rank_22 : decode cX12_rank 22 = .ok (.bipush (-2), 2) := by decide +kernel
theorem dX12_rank_24 : decode cX12_rank 24 = .ok (.ireturn, 1) := by decide +kernel
theorem dX12_rank_25 : decode cX12_rank 25 = .ok (.aload_n 0, 1) := by decide +kernel
theorem dX12_rank_26 : decode cX12_rank 26 = .ok (.invokevirtual 261, 3) := by decide +kernel
theorem dX12_rank_29 : decode cX12_rank 29 = .ok (.aload_n 0, 1) := by decide +kernel
theorem dX12_rank_30 : decode cX12_rank 30 = .ok (.getfield 25, 3) := by decide +kernel
theorem dX12_rank_33 : decode cX12_rank 33 = .ok (.bipush 9, 2) := by decide +kernel
theorem dX12_rank_35 : decode cX12_rank 35 = .ok (.iload_n 1, 1) := by decide +kernel
theorem dX12_rank_36 : decode cX12_rank 36 = .ok (.iadd, 1) := by decide +kernel
theorem dX12_rank_37 : decode cX12_rank 37 = .ok (.iaload, 1) := by decide +kernel
theorem dX12_rank_38 : decode cX12_rank 38 = .ok (.istore_n 3, 1) := by decide +kernel
theorem dX12_rank_39 : decode cX12_rank 39 = .ok (.aload_n 0, 1) := by decide +kernel
theorem dX12_rank_40 : decode cX12_rank 40 = .ok (.getfield 25, 3) := by decide +kernel
theorem dX12_rank_43 : decode cX12_rank 43 = .ok (.bipush 9, 2) := by decide +kernel
theorem dX12_rank_45 : decode cX12_rank 45 = .ok (.iload_n 1, 1) := by decide +kernel
theorem dX12_rank_46 : decode cX12_rank 46 = .ok (.iadd, 1) := by decide +kernel
theorem dX12_rank_47 : decode cX12_rank 47 = .ok (.iload_n 2, 1) := by decide +kernel
theorem dX12_rank_48 : decode cX12_rank 48 = .ok (.iastore, 1) := by decide +kernel
theorem dX12_rank_49 : decode cX12_rank 49 = .ok (.iload_n 3, 1) := by decide +kernel
theorem dX12_rank_50 : decode cX12_rank 50 = .ok (.ireturn, 1) := by decide +kernel
theorem dX12_allow_0 : decode cX12_allow 0 = .ok (.iload_n 2, 1) := by decide +kernel
theorem dX12_allow_1 : decode cX12_allow 1 = .ok (.invokestatic 145, 3) := by decide +kernel
theorem dX12_allow_4 : decode cX12_allow 4 = .ok (.ifCond .eq 10, 3) := by decide +kernel
theorem dX12_allow_7 : decode cX12_allow 7 = .ok (.iload_n 3, 1) := by decide +kernel
theorem dX12_allow_8 : decode cX12_allow 8 = .ok (.invokestatic 145, 3) := by decide +kernel
theorem dX12_allow_11 : decode cX12_allow 11 = .ok (.ifCond .ne 5, 3) := by decide +kernel
theorem dX12_allow_14 : decode cX12_allow 14 = .ok (.iconst (-1), 1) := by decide +kernel
theorem dX12_allow_15 : decode cX12_allow 15 = .ok (.ireturn, 1) := by decide +kernel
theorem dX12_allow_16 : decode cX12_allow 16 = .ok (.iload_n 1, 1) := by decide +kernel
theorem dX12_allow_17 : decode cX12_allow 17 = .ok (.i2l, 1) := by decide +kernel
theorem dX12_allow_18 : decode cX12_allow 18 = .ok (.lconst 0, 1) := by decide +kernel
theorem dX12_allow_19 : decode cX12_allow 19 = .ok (.ldc2_w 266, 3) := by decide +kernel
theorem dX12_allow_22 : decode cX12_allow 22 = .ok (.invokestatic 107, 3) := by decide +kernel
theorem dX12_allow_25 : decode cX12_allow 25 = .ok (.ifCond .ne 6, 3) := by decide +kernel
theorem dX12_allow_28 : decode cX12_allow 28 = .ok (.bipush (-2), 2) := by decide +kernel
theorem dX12_allow_30 : decode cX12_allow 30 = .ok (.ireturn, 1) := by decide +kernel
theorem dX12_allow_31 : decode cX12_allow 31 = .ok (.aload_n 0, 1) := by decide +kernel
theorem dX12_allow_32 : decode cX12_allow 32 = .ok (.invokevirtual 261, 3) := by decide +kernel
theorem dX12_allow_35 : decode cX12_allow 35 = .ok (.iload_n 1, 1) := by decide +kernel
theorem dX12_allow_36 : decode cX12_allow 36 = .ok (.ifCond .ne 8, 3) := by decide +kernel
theorem dX12_allow_39 : decode cX12_allow 39 = .ok (.bipush 19, 2) := by decide +kernel
theorem dX12_allow_41 : decode cX12_allow 41 = .ok (.goto 17, 3) := by decide +kernel
theorem dX12_allow_44 : decode cX12_allow 44 = .ok (.iload_n 1, 1) := by decide +kernel
theorem dX12_allow_45 : decode cX12_allow 45 = .ok (.iconst 1, 1) := by decide +kernel
theorem dX12_allow_46 : decode cX12_allow 46 = .ok (.if_icmp .ne 8, 3) := by decide +kernel
theorem dX12_allow_49 : decode cX12_allow 49 = .ok (.bipush 20, 2) := by decide +kernel
theorem dX12_allow_51 : decode cX12_allow 51 = .ok (.goto 7, 3) := by decide +kernel
theorem dX12_allow_54 : decode cX12_allow 54 = .ok (.bipush 21, 2) := by decide +kernel
theorem dX12_allow_56 : decode cX12_allow 56 = .ok (.iload_n 2, 1) := by decide +kernel
theorem dX12_allow_57 : decode cX12_allow 57 = .ok (.iadd, 1) := by decide +kernel
theorem dX12_allow_58 : decode cX12_allow 58 = .ok (.istore 4, 2) := by decide +kernel
theorem dX12_allow_60 : decode cX12_allow 60 = .ok (.iload_n 1, 1) := by decide +kernel
theorem dX12_allow_61 : decode cX12_allow 61 = .ok (.iconst 2, 1) := by decide +kernel
theorem dX12_allow_62 : decode cX12_allow 62 = .ok (.if_icmp .ne 7, 3) := by decide +kernel
theorem dX12_allow_65 : decode cX12_allow 65 = .ok (.iload_n 3, 1) := by decide +kernel
theorem dX12_allow_66 : decode cX12_allow 66 = .ok (.goto 4, 3) := by decide +kernel
theorem dX12_allow_69 : decode cX12_allow 69 = .ok (.iload_n 2, 1) := by decide +kernel
theorem dX12_allow_70 : decode cX12_allow 70 = .ok (.istore 5, 2) := by decide +kernel
theorem dX12_allow_72 : decode cX12_allow 72 = .ok (.aload_n 0, 1) := by decide +kernel
theorem dX12_allow_73 : decode cX12_allow 73 = .ok (.getfield 25, 3) := by decide +kernel
theorem dX12_allow_76 : decode cX12_allow 76 = .ok (.iload 4, 2) := by decide +kernel
theorem dX12_allow_78 : decode cX12_allow 78 = .ok (.dup2, 1) := by decide +kernel
theorem dX12_allow_79 : decode cX12_allow 79 = .ok (.iaload, 1) := by decide +kernel
theorem dX12_allow_80 : decode cX12_allow 80 = .ok (.iconst 1, 1) := by decide +kernel
theorem dX12_allow_81 : decode cX12_allow 81 = .ok (.iload 5, 2) := by decide +kernel
theorem dX12_allow_83 : decode cX12_allow 83 = .ok (.ishl, 1) := by decide +kernel
theorem dX12_allow_84 : decode cX12_allow 84 = .ok (.ixor, 1) := by decide +kernel
theorem dX12_allow_85 : decode cX12_allow 85 = .ok (.iastore, 1) := by decide +kernel
theorem dX12_allow_86 : decode cX12_allow 86 = .ok (.aload_n 0, 1) := by decide +kernel
theorem dX12_allow_87 : decode cX12_allow 87 = .ok (.getfield 25, 3) := by decide +kernel
theorem dX12_allow_90 : decode cX12_allow 90 = .ok (.iload 4, 2) := by decide +kernel
theorem dX12_allow_92 : decode cX12_allow 92 = .ok (.iaload, 1) := by decide +kernel
theorem dX12_allow_93 : decode cX12_allow 93 = .ok (.iload 5, 2) := by decide +kernel
theorem dX12_allow_95 : decode cX12_allow 95 = .ok (.ishr, 1) := by decide +kernel
theorem dX12_allow_96 : decode cX12_allow 96 = .ok (.iconst 1, 1) := by decide +kernel
theorem dX12_allow_97 : decode cX12_allow 97 = .ok (.iand, 1) := by decide +kernel
theorem dX12_allow_98 : decode cX12_allow 98 = .ok (.ireturn, 1) := by decide +kernel
theorem dX12_undo_0 : decode cX12_undo 0 = .ok (.aload_n 0, 1) := by decide +kernel
theorem dX12_undo_1 : decode cX12_undo 1 = .ok (.getfield 182, 3) := by decide +kernel
theorem dX12_undo_4 : decode cX12_undo 4 = .ok (.ifCond .ne 6, 3) := by decide +kernel
theorem dX12_undo_7 : decode cX12_undo 7 = .ok (.bipush (-3), 2) := by decide +kernel
theorem dX12_undo_9 : decode cX12_undo 9 = .ok (.ireturn, 1) := by decide +kernel
theorem dX12_undo_10 : decode cX12_undo 10 = .ok (.aload_n 0, 1) := by decide +kernel
theorem dX12_undo_11 : decode cX12_undo 11 = .ok (.dup, 1) := by decide +kernel
theorem dX12_undo_12 : decode cX12_undo 12 = .ok (.getfield 182, 3) := by decide +kernel
theorem dX12_undo_15 : decode cX12_undo 15 = .ok (.iconst 1, 1) := by decide +kernel
theorem dX12_undo_16 : decode cX12_undo 16 = .ok (.isub, 1) := by decide +kernel
theorem dX12_undo_17 : decode cX12_undo 17 = .ok (.putfield 182, 3) := by decide +kernel
theorem dX12_undo_20 : decode cX12_undo 20 = .ok (.aload_n 0, 1) := by decide +kernel
theorem dX12_undo_21 : decode cX12_undo 21 = .ok (.aload_n 0, 1) := by decide +kernel
theorem dX12_undo_22 : decode cX12_undo 22 = .ok (.getfield 258, 3) := by decide +kernel
theorem dX12_undo_25 : decode cX12_undo 25 = .ok (.bipush 14, 2) := by decide +kernel
theorem dX12_undo_27 : decode cX12_undo 27 = .ok (.iadd, 1) := by decide +kernel
theorem dX12_undo_28 : decode cX12_undo 28 = .ok (.iconst 1, 1) := by decide +kernel
theorem dX12_undo_29 : decode cX12_undo 29 = .ok (.isub, 1) := by decide +kernel
theorem dX12_undo_30 : decode cX12_undo 30 = .ok (.bipush 14, 2) := by decide +kernel
theorem dX12_undo_32 : decode cX12_undo 32 = .ok (.irem, 1) := by decide +kernel
theorem dX12_undo_33 : decode cX12_undo 33 = .ok (.putfield 258, 3) := by decide +kernel
theorem dX12_undo_36 : decode cX12_undo 36 = .ok (.iconst 0, 1) := by decide +kernel
theorem dX12_undo_37 : decode cX12_undo 37 = .ok (.istore_n 1, 1) := by decide +kernel
theorem dX12_undo_38 : decode cX12_undo 38 = .ok (.iload_n 1, 1) := by decide +kernel
theorem dX12_undo_39 : decode cX12_undo 39 = .ok (.bipush 25, 2) := by decide +kernel
theorem dX12_undo_41 : decode cX12_undo 41 = .ok (.if_icmp .ge 29, 3) := by decide +kernel
theorem dX12_undo_44 : decode cX12_undo 44 = .ok (.aload_n 0, 1) := by decide +kernel
theorem dX12_undo_45 : decode cX12_undo 45 = .ok (.getfield 25, 3) := by decide +kernel
theorem dX12_undo_48 : decode cX12_undo 48 = .ok (.iload_n 1, 1) := by decide +kernel
theorem dX12_undo_49 : decode cX12_undo 49 = .ok (.aload_n 0, 1) := by decide +kernel
theorem dX12_undo_50 : decode cX12_undo 50 = .ok (.getfield 31, 3) := by decide +kernel
theorem dX12_undo_53 : decode cX12_undo 53 = .ok (.bipush 25, 2) := by decide +kernel
theorem dX12_undo_55 : decode cX12_undo 55 = .ok (.aload_n 0, 1) := by decide +kernel
theorem dX12_undo_56 : decode cX12_undo 56 = .ok (.getfield 258, 3) := by decide +kernel
theorem dX12_undo_59 : decode cX12_undo 59 = .ok (.imul, 1) := by decide +kernel
theorem dX12_undo_60 : decode cX12_undo 60 = .ok (.iload_n 1, 1) := by decide +kernel
theorem dX12_undo_61 : decode cX12_undo 61 = .ok (.iadd, 1) := by decide +kernel
theorem dX12_undo_62 : decode cX12_undo 62 = .ok (.iaload, 1) := by decide +kernel
theorem dX12_undo_63 : decode cX12_undo 63 = .ok (.iastore, 1) := by decide +kernel
theorem dX12_undo_64 : decode cX12_undo 64 = .ok (.iinc 1 1, 3) := by decide +kernel
theorem dX12_undo_67 : decode cX12_undo 67 = .ok (.goto (-29), 3) := by decide +kernel
theorem dX12_undo_70 : decode cX12_undo 70 = .ok (.aload_n 0, 1) := by decide +kernel
theorem dX12_undo_71 : decode cX12_undo 71 = .ok (.getfield 182, 3) := by decide +kernel
theorem dX12_undo_74 : decode cX12_undo 74 = .ok (.ireturn, 1) := by decide +kernel
theorem dX12_many_0 : decode cX12_many 0 = .ok (.iload_n 1, 1) := by decide +kernel
theorem dX12_many_1 : decode cX12_many 1 = .ok (.i2l, 1) := by decide +kernel
theorem dX12_many_2 : decode cX12_many 2 = .ok (.lconst 0, 1) := by decide +kernel
theorem dX12_many_3 : decode cX12_many 3 = .ok (.ldc2_w 268, 3) := by decide +kernel
theorem dX12_many_6 : decode cX12_many 6 = .ok (.invokestatic 107, 3) := by decide +kernel
theorem dX12_many_9 : decode cX12_many 9 = .ok (.ifCond .ne 7, 3) := by decide +kernel
theorem dX12_many_12 : decode cX12_many 12 = .ok (.ldc2_w 270, 3) := by decide +kernel
theorem dX12_many_15 : decode cX12_many 15 = .ok (.lreturn, 1) := by decide +kernel
theorem dX12_many_16 : decode cX12_many 16 = .ok (.aload_n 0, 1) := by decide +kernel
theorem dX12_many_17 : decode cX12_many 17 = .ok (.aload_n 0, 1) := by decide +kernel
theorem dX12_many_18 : decode cX12_many 18 = .ok (.getfield 25, 3) := by decide +kernel
theorem dX12_many_21 : decode cX12_many 21 = .ok (.invokevirtual 272, 3) := by decide +kernel
theorem dX12_many_24 : decode cX12_many 24 = .ok (.lstore_n 2, 1) := by decide +kernel
theorem dX12_many_25 : decode cX12_many 25 = .ok (.iload_n 1, 1) := by decide +kernel
theorem dX12_many_26 : decode cX12_many 26 = .ok (.ifCond .ne 7, 3) := by decide +kernel
theorem dX12_many_29 : decode cX12_many 29 = .ok (.lload_n 2, 1) := by decide +kernel
theorem dX12_many_30 : decode cX12_many 30 = .ok (.goto 8, 3) := by decide +kernel
theorem dX12_many_33 : decode cX12_many 33 = .ok (.aload_n 0, 1) := by decide +kernel
theorem dX12_many_34 : decode cX12_many 34 = .ok (.iload_n 1, 1) := by decide +kernel
theorem dX12_many_35 : decode cX12_many 35 = .ok (.invokevirtual 212, 3) := by decide +kernel
theorem dX12_many_38 : decode cX12_many 38 = .ok (.lreturn, 1) := by decide +kernel
theorem dX12_withWord_0 : decode cX12_withWord 0 = .ok (.aload_n 0, 1) := by decide +kernel
theorem dX12_withWord_1 : decode cX12_withWord 1 = .ok (.aload_n 1, 1) := by decide +kernel
theorem dX12_withWord_2 : decode cX12_withWord 2 = .ok (.invokevirtual 272, 3) := by decide +kernel
theorem dX12_withWord_5 : decode cX12_withWord 5 = .ok (.lstore_n 3, 1) := by decide +kernel
theorem dX12_withWord_6 : decode cX12_withWord 6 = .ok (.aload_n 0, 1) := by decide +kernel
theorem dX12_withWord_7 : decode cX12_withWord 7 = .ok (.dup, 1) := by decide +kernel
theorem dX12_withWord_8 : decode cX12_withWord 8 = .ok (.getfield 191, 3) := by decide +kernel
theorem dX12_withWord_11 : decode cX12_withWord 11 = .ok (.iconst 1, 1) := by decide +kernel
theorem dX12_withWord_12 : decode cX12_withWord 12 = .ok (.iload_n 2, 1) := by decide +kernel
theorem dX12_withWord_13 : decode cX12_withWord 13 = .ok (.ishl, 1) := by decide +kernel
theorem dX12_withWord_14 : decode cX12_withWord 14 = .ok (.iconst (-1), 1) := by decide +kernel
theorem dX12_withWord_15 : decode cX12_withWord 15 = .ok (.ixor, 1) := by decide +kernel
theorem dX12_withWord_16 : decode cX12_withWord 16 = .ok (.iand, 1) := by decide +kernel
theorem dX12_withWord_17 : decode cX12_withWord 17 = .ok (.putfield 191, 3) := by decide +kernel
theorem dX12_withWord_20 : decode cX12_withWord 20 = .ok (.aload_n 0, 1) := by decide +kernel
theorem dX12_withWord_21 : decode cX12_withWord 21 = .ok (.invokevirtual 205, 3) := by decide +kernel
theorem dX12_withWord_24 : decode cX12_withWord 24 = .ok (.lload_n 3, 1) := by decide +kernel
theorem dX12_withWord_25 : decode cX12_withWord 25 = .ok (.aload_n 0, 1) := by decide +kernel
theorem dX12_withWord_26 : decode cX12_withWord 26 = .ok (.invokevirtual 208, 3) := by decide +kernel
theorem dX12_withWord_29 : decode cX12_withWord 29 = .ok (.lsub, 1) := by decide +kernel
theorem dX12_withWord_30 : decode cX12_withWord 30 = .ok (.lreturn, 1) := by decide +kernel
theorem dX12_having_0 : decode cX12_having 0 = .ok (.aload_n 0, 1) := by decide +kernel
theorem dX12_having_1 : decode cX12_having 1 = .ok (.iload_n 1, 1) := by decide +kernel
theorem dX12_having_2 : decode cX12_having 2 = .ok (.invokevirtual 243, 3) := by decide +kernel
theorem dX12_having_5 : decode cX12_having 5 = .ok (.ifCond .eq 15, 3) := by decide +kernel
theorem dX12_having_8 : decode cX12_having 8 = .ok (.aload_n 0, 1) := by decide +kernel
theorem dX12_having_9 : decode cX12_having 9 = .ok (.aload_n 0, 1) := by decide +kernel
theorem dX12_having_10 : decode cX12_having 10 = .ok (.getfield 25, 3) := by decide +kernel
theorem dX12_having_13 : decode cX12_having 13 = .ok (.iload_n 1, 1) := by decide +kernel
theorem dX12_having_14 : decode cX12_having 14 = .ok (.invokevirtual 216, 3) := by decide +kernel
theorem dX12_having_17 : decode cX12_having 17 = .ok (.goto 6, 3) := by decide +kernel
theorem dX12_having_20 : decode cX12_having 20 = .ok (.ldc2_w 276, 3) := by decide +kernel
theorem dX12_having_23 : decode cX12_having 23 = .ok (.lreturn, 1) := by decide +kernel
theorem dX12_layBest_0 : decode cX12_layBest 0 = .ok (.iconst 0, 1) := by decide +kernel
theorem dX12_layBest_1 : decode cX12_layBest 1 = .ok (.istore_n 1, 1) := by decide +kernel
theorem dX12_layBest_2 : decode cX12_layBest 2 = .ok (.iload_n 1, 1) := by decide +kernel
theorem dX12_layBest_3 : decode cX12_layBest 3 = .ok (.iconst 5, 1) := by decide +kernel
theorem dX12_layBest_4 : decode cX12_layBest 4 = .ok (.aload_n 0, 1) := by decide +kernel
theorem dX12_layBest_5 : decode cX12_layBest 5 = .ok (.getfield 188, 3) := by decide +kernel
theorem dX12_layBest_8 : decode cX12_layBest 8 = .ok (.imul, 1) := by decide +kernel
theorem dX12_layBest_9 : decode cX12_layBest 9 = .ok (.iconst 4, 1) := by decide +kernel
theorem dX12_layBest_10 : decode cX12_layBest 10 = .ok (.iadd, 1) := by decide +kernel
theorem dX12_layBest_11 : decode cX12_layBest 11 = .ok (.if_icmp .gt 87, 3) := by decide +kernel
theorem dX12_layBest_14 : decode cX12_layBest 14 = .ok (.aload_n 0, 1) := by decide +kernel
theorem dX12_layBest_15 : decode cX12_layBest 15 = .ok (.getfield 84, 3) := by decide +kernel
theorem dX12_layBest_18 : decode cX12_layBest 18 = .ok (.iload_n 1, 1) := by decide +kernel
theorem dX12_layBest_19 : decode cX12_layBest 19 = .ok (.bipush (-9), 2) := by decide +kernel
theorem dX12_layBest_21 : decode cX12_layBest 21 = .ok (.iastore, 1) := by decide +kernel
theorem dX12_layBest_22 : decode cX12_layBest 22 = .ok (.iconst 0, 1) := by decide +kernel
theorem dX12_layBest_23 : decode cX12_layBest 23 = .ok (.istore_n 2, 1) := by decide +kernel
theorem dX12_layBest_24 : decode cX12_layBest 24 = .ok (.iload_n 2, 1) := by decide +kernel
theorem dX12_layBest_25 : decode cX12_layBest 25 = .ok (.aload_n 0, 1) := by decide +kernel
theorem dX12_layBest_26 : decode cX12_layBest 26 = .ok (.getfield 103, 3) := by decide +kernel
theorem dX12_layBest_29 : decode cX12_layBest 29 = .ok (.if_icmp .ge 63, 3) := by decide +kernel
theorem dX12_layBest_32 : decode cX12_layBest 32 = .ok (.aload_n 0, 1) := by decide +kernel
theorem dX12_layBest_33 : decode cX12_layBest 33 = .ok (.iload_n 1, 1) := by decide +kernel
theorem dX12_layBest_34 : decode cX12_layBest 34 = .ok (.iconst 5, 1) := by decide +kernel
theorem dX12_layBest_35 : decode cX12_layBest 35 = .ok (.idiv, 1) := by decide +kernel
theorem dX12_layBest_36 : decode cX12_layBest 36 = .ok (.iload_n 1, 1) := by decide +kernel
theorem dX12_layBest_37 : decode cX12_layBest 37 = .ok (.iconst 5, 1) := by decide +kernel
theorem dX12_layBest_38 : decode cX12_layBest 38 = .ok (.irem, 1) := by decide +kernel
theorem dX12_layBest_39 : decode cX12_layBest 39 = .ok (.iload_n 2, 1) := by decide +kernel
theorem dX12_layBest_40 : decode cX12_layBest 40 = .ok (.invokevirtual 194, 3) := by decide +kernel
theorem dX12_layBest_43 : decode cX12_layBest 43 = .ok (.ifCond .eq 14, 3) := by decide +kernel
theorem dX12_layBest_46 : decode cX12_layBest 46 = .ok (.aload_n 0, 1) := by decide +kernel
theorem dX12_layBest_47 : decode cX12_layBest 47 = .ok (.iload_n 1, 1) := by decide +kernel
theorem dX12_layBest_48 : decode cX12_layBest 48 = .ok (.iconst 5, 1) := by decide +kernel
theorem dX12_layBest_49 : decode cX12_layBest 49 = .ok (.idiv, 1) := by decide +kernel
theorem dX12_layBest_50 : decode cX12_layBest 50 = .ok (.iload_n 2, 1) := by decide +kernel
theorem dX12_layBest_51 : decode cX12_layBest 51 = .ok (.invokevirtual 278, 3) := by decide +kernel
theorem dX12_layBest_54 : decode cX12_layBest 54 = .ok (.goto 5, 3) := by decide +kernel
theorem dX12_layBest_57 : decode cX12_layBest 57 = .ok (.bipush (-9), 2) := by decide +kernel
theorem dX12_layBest_59 : decode cX12_layBest 59 = .ok (.istore_n 3, 1) := by decide +kernel
theorem dX12_layBest_60 : decode cX12_layBest 60 = .ok (.aload_n 0, 1) := by decide +kernel
theorem dX12_layBest_61 : decode cX12_layBest 61 = .ok (.getfield 84, 3) := by decide +kernel
theorem dX12_layBest_64 : decode cX12_layBest 64 = .ok (.iload_n 1, 1) := by decide +kernel
theorem dX12_layBest_65 : decode cX12_layBest 65 = .ok (.iload_n 3, 1) := by decide +kernel
theorem dX12_layBest_66 : decode cX12_layBest 66 = .ok (.aload_n 0, 1) := by decide +kernel
theorem dX12_layBest_67 : decode cX12_layBest 67 = .ok (.getfield 84, 3) := by decide +kernel
theorem dX12_layBest_70 : decode cX12_layBest 70 = .ok (.iload_n 1, 1) := by decide +kernel
theorem dX12_layBest_71 : decode cX12_layBest 71 = .ok (.iaload, 1) := by decide +kernel
theorem dX12_layBest_72 : decode cX12_layBest 72 = .ok (.if_icmp .le 7, 3) := by decide +kernel
theorem dX12_layBest_75 : decode cX12_layBest 75 = .ok (.iload_n 3, 1) := by decide +kernel
theorem dX12_layBest_76 : decode cX12_layBest 76 = .ok (.goto 9, 3) := by decide +kernel
theorem dX12_layBest_79 : decode cX12_layBest 79 = .ok (.aload_n 0, 1) := by decide +kernel
theorem dX12_layBest_80 : decode cX12_layBest 80 = .ok (.getfield 84, 3) := by decide +kernel
theorem dX12_layBest_83 : decode cX12_layBest 83 = .ok (.iload_n 1, 1) := by decide +kernel
theorem dX12_layBest_84 : decode cX12_layBest 84 = .ok (.iaload, 1) := by decide +kernel
theorem dX12_layBest_85 : decode cX12_layBest 85 = .ok (.iastore, 1) := by decide +kernel
theorem dX12_layBest_86 : decode cX12_layBest 86 = .ok (.iinc 2 1, 3) := by decide +kernel
theorem dX12_layBest_89 : decode cX12_layBest 89 = .ok (.goto (-65), 3) := by decide +kernel
theorem dX12_layBest_92 : decode cX12_layBest 92 = .ok (.iinc 1 1, 3) := by decide +kernel
theorem dX12_layBest_95 : decode cX12_layBest 95 = .ok (.goto (-93), 3) := by decide +kernel
theorem dX12_layBest_98 : decode cX12_layBest 98 = .ok (.return_, 1) := by decide +kernel
theorem dX12_bestWith_0 : decode cX12_bestWith 0 = .ok (.iload_n 1, 1) := by decide +kernel
theorem dX12_bestWith_1 : decode cX12_bestWith 1 = .ok (.aload_n 0, 1) := by decide +kernel
theorem dX12_bestWith_2 : decode cX12_bestWith 2 = .ok (.getfield 71, 3) := by decide +kernel
theorem dX12_bestWith_5 : decode cX12_bestWith 5 = .ok (.iload_n 2, 1) := by decide +kernel
theorem dX12_bestWith_6 : decode cX12_bestWith 6 = .ok (.iaload, 1) := by decide +kernel
theorem dX12_bestWith_7 : decode cX12_bestWith 7 = .ok (.isub, 1) := by decide +kernel
theorem dX12_bestWith_8 : decode cX12_bestWith 8 = .ok (.istore_n 3, 1) := by decide +kernel
theorem dX12_bestWith_9 : decode cX12_bestWith 9 = .ok (.iload_n 3, 1) := by decide +kernel
theorem dX12_bestWith_10 : decode cX12_bestWith 10 = .ok (.ifCond .ne 37, 3) := by decide +kernel
theorem dX12_bestWith_13 : decode cX12_bestWith 13 = .ok (.aload_n 0, 1) := by decide +kernel
theorem dX12_bestWith_14 : decode cX12_bestWith 14 = .ok (.getfield 65, 3) := by decide +kernel
theorem dX12_bestWith_17 : decode cX12_bestWith 17 = .ok (.bipush 20, 2) := by decide +kernel
theorem dX12_bestWith_19 : decode cX12_bestWith 19 = .ok (.iaload, 1) := by decide +kernel
theorem dX12_bestWith_20 : decode cX12_bestWith 20 = .ok (.aload_n 0, 1) := by decide +kernel
theorem dX12_bestWith_21 : decode cX12_bestWith 21 = .ok (.getfield 19, 3) := by decide +kernel
theorem dX12_bestWith_24 : decode cX12_bestWith 24 = .ok (.iload_n 2, 1) := by decide +kernel
theorem dX12_bestWith_25 : decode cX12_bestWith 25 = .ok (.iaload, 1) := by decide +kernel
theorem dX12_bestWith_26 : decode cX12_bestWith 26 = .ok (.invokestatic 149, 3) := by decide +kernel
theorem dX12_bestWith_29 : decode cX12_bestWith 29 = .ok (.ifCond .eq 15, 3) := by decide +kernel
theorem dX12_bestWith_32 : decode cX12_bestWith 32 = .ok (.aload_n 0, 1) := by decide +kernel
theorem dX12_bestWith_33 : decode cX12_bestWith 33 = .ok (.getfield 65, 3) := by decide +kernel
theorem dX12_bestWith_36 : decode cX12_bestWith 36 = .ok (.bipush 9, 2) := by decide +kernel
theorem dX12_bestWith_38 : decode cX12_bestWith 38 = .ok (.iload_n 2, 1) := by decide +kernel
theorem dX12_bestWith_39 : decode cX12_bestWith 39 = .ok (.iadd, 1) := by decide +kernel
theorem dX12_bestWith_40 : decode cX12_bestWith 40 = .ok (.iaload, 1) := by decide +kernel
theorem dX12_bestWith_41 : decode cX12_bestWith 41 = .ok (.goto 5, 3) := by decide +kernel
theorem dX12_bestWith_44 : decode cX12_bestWith 44 = .ok (.bipush (-9), 2) := by decide +kernel
theorem dX12_bestWith_46 : decode cX12_bestWith 46 = .ok (.ireturn, 1) := by decide +kernel
theorem dX12_bestWith_47 : decode cX12_bestWith 47 = .ok (.aload_n 0, 1) := by decide +kernel
theorem dX12_bestWith_48 : decode cX12_bestWith 48 = .ok (.getfield 84, 3) := by decide +kernel
theorem dX12_bestWith_51 : decode cX12_bestWith 51 = .ok (.iconst 5, 1) := by decide +kernel
theorem dX12_bestWith_52 : decode cX12_bestWith 52 = .ok (.iload_n 3, 1) := by decide +kernel
theorem dX12_bestWith_53 : decode cX12_bestWith 53 = .ok (.imul, 1) := by decide +kernel
theorem dX12_bestWith_54 : decode cX12_bestWith 54 = .ok (.aload_n 0, 1) := by decide +kernel
theorem dX12_bestWith_55 : decode cX12_bestWith 55 = .ok (.getfield 19, 3) := by decide +kernel
theorem dX12_bestWith_58 : decode cX12_bestWith 58 = .ok (.iload_n 2, 1) := by decide +kernel
theorem dX12_bestWith_59 : decode cX12_bestWith 59 = .ok (.iaload, 1) := by decide +kernel
theorem dX12_bestWith_60 : decode cX12_bestWith 60 = .ok (.iadd, 1) := by decide +kernel
theorem dX12_bestWith_61 : decode cX12_bestWith 61 = .ok (.iaload, 1) := by decide +kernel
theorem dX12_bestWith_62 : decode cX12_bestWith 62 = .ok (.ifCond .ge 8, 3) := by decide +kernel
theorem dX12_bestWith_65 : decode cX12_bestWith 65 = .ok (.bipush (-9), 2) := by decide +kernel
theorem dX12_bestWith_67 : decode cX12_bestWith 67 = .ok (.goto 28, 3) := by decide +kernel
theorem dX12_bestWith_70 : decode cX12_bestWith 70 = .ok (.aload_n 0, 1) := by decide +kernel
theorem dX12_bestWith_71 : decode cX12_bestWith 71 = .ok (.getfield 84, 3) := by decide +kernel
theorem dX12_bestWith_74 : decode cX12_bestWith 74 = .ok (.iconst 5, 1) := by decide +kernel
theorem dX12_bestWith_75 : decode cX12_bestWith 75 = .ok (.iload_n 3, 1) := by decide +kernel
theorem dX12_bestWith_76 : decode cX12_bestWith 76 = .ok (.imul, 1) := by decide +kernel
theorem dX12_bestWith_77 : decode cX12_bestWith 77 = .ok (.aload_n 0, 1) := by decide +kernel
theorem dX12_bestWith_78 : decode cX12_bestWith 78 = .ok (.getfield 19, 3) := by decide +kernel
theorem dX12_bestWith_81 : decode cX12_bestWith 81 = .ok (.iload_n 2, 1) := by decide +kernel
theorem dX12_bestWith_82 : decode cX12_bestWith 82 = .ok (.iaload, 1) := by decide +kernel
theorem dX12_bestWith_83 : decode cX12_bestWith 83 = .ok (.iadd, 1) := by decide +kernel
theorem dX12_bestWith_84 : decode cX12_bestWith 84 = .ok (.iaload, 1) := by decide +kernel
theorem dX12_bestWith_85 : decode cX12_bestWith 85 = .ok (.aload_n 0, 1) := by decide +kernel
theorem dX12_bestWith_86 : decode cX12_bestWith 86 = .ok (.getfield 65, 3) := by decide +kernel
theorem dX12_bestWith_89 : decode cX12_bestWith 89 = .ok (.bipush 9, 2) := by decide +kernel
theorem dX12_bestWith_91 : decode cX12_bestWith 91 = .ok (.iload_n 2, 1) := by decide +kernel
theorem dX12_bestWith_92 : decode cX12_bestWith 92 = .ok (.iadd, 1) := by decide +kernel
theorem dX12_bestWith_93 : decode cX12_bestWith 93 = .ok (.iaload, 1) := by decide +kernel
theorem dX12_bestWith_94 : decode cX12_bestWith 94 = .ok (.iadd, 1) := by decide +kernel
theorem dX12_bestWith_95 : decode cX12_bestWith 95 = .ok (.ireturn, 1) := by decide +kernel
theorem dX12_findBest_0 : decode cX12_findBest 0 = .ok (.aload_n 0, 1) := by decide +kernel
theorem dX12_findBest_1 : decode cX12_findBest 1 = .ok (.invokevirtual 282, 3) := by decide +kernel
theorem dX12_findBest_4 : decode cX12_findBest 4 = .ok (.aload_n 0, 1) := by decide +kernel
theorem dX12_findBest_5 : decode cX12_findBest 5 = .ok (.getfield 188, 3) := by decide +kernel
theorem dX12_findBest_8 : decode cX12_findBest 8 = .ok (.istore_n 1, 1) := by decide +kernel
theorem dX12_findBest_9 : decode cX12_findBest 9 = .ok (.iconst 4, 1) := by decide +kernel
theorem dX12_findBest_10 : decode cX12_findBest 10 = .ok (.istore_n 2, 1) := by decide +kernel
theorem dX12_findBest_11 : decode cX12_findBest 11 = .ok (.iconst 0, 1) := by decide +kernel
theorem dX12_findBest_12 : decode cX12_findBest 12 = .ok (.istore_n 3, 1) := by decide +kernel
theorem dX12_findBest_13 : decode cX12_findBest 13 = .ok (.iload_n 1, 1) := by decide +kernel
theorem dX12_findBest_14 : decode cX12_findBest 14 = .ok (.ifCond .le 88, 3) := by decide +kernel
theorem dX12_findBest_17 : decode cX12_findBest 17 = .ok (.aload_n 0, 1) := by decide +kernel
theorem dX12_findBest_18 : decode cX12_findBest 18 = .ok (.getfield 84, 3) := by decide +kernel
theorem dX12_findBest_21 : decode cX12_findBest 21 = .ok (.iconst 5, 1) := by decide +kernel
theorem dX12_findBest_22 : decode cX12_findBest 22 = .ok (.iload_n 1, 1) := by decide +kernel
theorem dX12_findBest_23 : decode cX12_findBest 23 = .ok (.imul, 1) := by decide +kernel
theorem dX12_findBest_24 : decode cX12_findBest 24 = .ok (.iload_n 2, 1) := by decide +kernel
theorem dX12_findBest_25 : decode cX12_findBest 25 = .ok (.iadd, 1) := by decide +kernel
theorem dX12_findBest_26 : decode cX12_findBest 26 = .ok (.iaload, 1) := by decide +kernel
theorem dX12_findBest_27 : decode cX12_findBest 27 = .ok (.ifCond .lt 75, 3) := by decide +kernel
theorem dX12_findBest_30 : decode cX12_findBest 30 = .ok (.iconst 0, 1) := by decide +kernel
theorem dX12_findBest_31 : decode cX12_findBest 31 = .ok (.istore 4, 2) := by decide +kernel
theorem dX12_findBest_33 : decode cX12_findBest 33 = .ok (.aload_n 0, 1) := by decide +kernel
theorem dX12_findBest_34 : decode cX12_findBest 34 = .ok (.iload_n 1, 1) := by decide +kernel
theorem dX12_findBest_35 : decode cX12_findBest 35 = .ok (.iload_n 2, 1) := by decide +kernel
theorem dX12_findBest_36 : decode cX12_findBest 36 = .ok (.iload 4, 2) := by decide +kernel
theorem dX12_findBest_38 : decode cX12_findBest 38 = .ok (.invokevirtual 194, 3) := by decide +kernel
theorem dX12_findBest_41 : decode cX12_findBest 41 = .ok (.ifCond .eq 23, 3) := by decide +kernel
theorem dX12_findBest_44 : decode cX12_findBest 44 = .ok (.aload_n 0, 1) := by decide +kernel
theorem dX12_findBest_45 : decode cX12_findBest 45 = .ok (.iload_n 1, 1) := by decide +kernel
theorem dX12_findBest_46 : decode cX12_findBest 46 = .ok (.iload 4, 2) := by decide +kernel
theorem dX12_findBest_48 : decode cX12_findBest 48 = .ok (.invokevirtual 278, 3) := by decide +kernel
theorem dX12_findBest_51 : decode cX12_findBest 51 = .ok (.aload_n 0, 1) := by decide +kernel
theorem dX12_findBest_52 : decode cX12_findBest 52 = .ok (.getfield 84, 3) := by decide +kernel
theorem dX12_findBest_55 : decode cX12_findBest 55 = .ok (.iconst 5, 1) := by decide +kernel
theorem dX12_findBest_56 : decode cX12_findBest 56 = .ok (.iload_n 1, 1) := by decide +kernel
theorem dX12_findBest_57 : decode cX12_findBest 57 = .ok (.imul, 1) := by decide +kernel
theorem dX12_findBest_58 : decode cX12_findBest 58 = .ok (.iload_n 2, 1) := by decide +kernel
theorem dX12_findBest_59 : decode cX12_findBest 59 = .ok (.iadd, 1) := by decide +kernel
theorem dX12_findBest_60 : decode cX12_findBest 60 = .ok (.iaload, 1) := by decide +kernel
theorem dX12_findBest_61 : decode cX12_findBest 61 = .ok (.if_icmp .eq 9, 3) := by decide +kernel
theorem dX12_findBest_64 : decode cX12_findBest 64 = .ok (.iinc 4 1, 3) := by decide +kernel
theorem dX12_findBest_67 : decode cX12_findBest 67 = .ok (.goto (-34), 3) := by decide +kernel
theorem dX12_findBest_70 : decode cX12_findBest 70 = .ok (.aload_n 0, 1) := by decide +kernel
theorem dX12_findBest_71 : decode cX12_findBest 71 = .ok (.getfield 90, 3) := by decide +kernel
theorem dX12_findBest_74 : decode cX12_findBest 74 = .ok (.iload_n 3, 1) := by decide +kernel
theorem dX12_findBest_75 : decode cX12_findBest 75 = .ok (.iload 4, 2) := by decide +kernel
theorem dX12_findBest_77 : decode cX12_findBest 77 = .ok (.iastore, 1) := by decide +kernel
theorem dX12_findBest_78 : decode cX12_findBest 78 = .ok (.iinc 3 1, 3) := by decide +kernel
theorem dX12_findBest_81 : decode cX12_findBest 81 = .ok (.iload_n 1, 1) := by decide +kernel
theorem dX12_findBest_82 : decode cX12_findBest 82 = .ok (.aload_n 0, 1) := by decide +kernel
theorem dX12_findBest_83 : decode cX12_findBest 83 = .ok (.getfield 71, 3) := by decide +kernel
theorem dX12_findBest_86 : decode cX12_findBest 86 = .ok (.iload 4, 2) := by decide +kernel
theorem dX12_findBest_88 : decode cX12_findBest 88 = .ok (.iaload, 1) := by decide +kernel
theorem dX12_findBest_89 : decode cX12_findBest 89 = .ok (.isub, 1) := by decide +kernel
theorem dX12_findBest_90 : decode cX12_findBest 90 = .ok (.istore_n 1, 1) := by decide +kernel
theorem dX12_findBest_91 : decode cX12_findBest 91 = .ok (.aload_n 0, 1) := by decide +kernel
theorem dX12_findBest_92 : decode cX12_findBest 92 = .ok (.getfield 19, 3) := by decide +kernel
theorem dX12_findBest_95 : decode cX12_findBest 95 = .ok (.iload 4, 2) := by decide +kernel
theorem dX12_findBest_97 : decode cX12_findBest 97 = .ok (.iaload, 1) := by decide +kernel
theorem dX12_findBest_98 : decode cX12_findBest 98 = .ok (.istore_n 2, 1) := by decide +kernel
theorem dX12_findBest_99 : decode cX12_findBest 99 = .ok (.goto (-86), 3) := by decide +kernel
theorem dX12_findBest_102 : decode cX12_findBest 102 = .ok (.iload_n 3, 1) := by decide +kernel
theorem dX12_findBest_103 : decode cX12_findBest 103 = .ok (.ifCond .ne 8, 3) := by decide +kernel
theorem dX12_findBest_106 : decode cX12_findBest 106 = .ok (.bipush (-9), 2) := by decide +kernel
theorem dX12_findBest_108 : decode cX12_findBest 108 = .ok (.goto 4, 3) := by decide +kernel
theorem dX12_findBest_111 : decode cX12_findBest 111 = .ok (.iload_n 3, 1) := by decide +kernel
theorem dX12_findBest_112 : decode cX12_findBest 112 = .ok (.ireturn, 1) := by decide +kernel
theorem dX12_worthOf_0 : decode cX12_worthOf 0 = .ok (.iconst 0, 1) := by decide +kernel
theorem dX12_worthOf_1 : decode cX12_worthOf 1 = .ok (.istore_n 2, 1) := by decide +kernel
theorem dX12_worthOf_2 : decode cX12_worthOf 2 = .ok (.iconst 0, 1) := by decide +kernel
theorem dX12_worthOf_3 : decode cX12_worthOf 3 = .ok (.istore_n 3, 1) := by decide +kernel
theorem dX12_worthOf_4 : decode cX12_worthOf 4 = .ok (.iload_n 3, 1) := by decide +kernel
theorem dX12_worthOf_5 : decode cX12_worthOf 5 = .ok (.iload_n 1, 1) := by decide +kernel
theorem dX12_worthOf_6 : decode cX12_worthOf 6 = .ok (.if_icmp .ge 26, 3) := by decide +kernel
theorem dX12_worthOf_9 : decode cX12_worthOf 9 = .ok (.iload_n 2, 1) := by decide +kernel
theorem dX12_worthOf_10 : decode cX12_worthOf 10 = .ok (.aload_n 0, 1) := by decide +kernel
theorem dX12_worthOf_11 : decode cX12_worthOf 11 = .ok (.getfield 65, 3) := by decide +kernel
theorem dX12_worthOf_14 : decode cX12_worthOf 14 = .ok (.bipush 9, 2) := by decide +kernel
theorem dX12_worthOf_16 : decode cX12_worthOf 16 = .ok (.aload_n 0, 1) := by decide +kernel
theorem dX12_worthOf_17 : decode cX12_worthOf 17 = .ok (.getfield 90, 3) := by decide +kernel
theorem dX12_worthOf_20 : decode cX12_worthOf 20 = .ok (.iload_n 3, 1) := by decide +kernel
theorem dX12_worthOf_21 : decode cX12_worthOf 21 = .ok (.iaload, 1) := by decide +kernel
theorem dX12_worthOf_22 : decode cX12_worthOf 22 = .ok (.iadd, 1) := by decide +kernel
theorem dX12_worthOf_23 : decode cX12_worthOf 23 = .ok (.iaload, 1) := by decide +kernel
theorem dX12_worthOf_24 : decode cX12_worthOf 24 = .ok (.iadd, 1) := by decide +kernel
theorem dX12_worthOf_25 : decode cX12_worthOf 25 = .ok (.istore_n 2, 1) := by decide +kernel
theorem dX12_worthOf_26 : decode cX12_worthOf 26 = .ok (.iinc 3 1, 3) := by decide +kernel
theorem dX12_worthOf_29 : decode cX12_worthOf 29 = .ok (.goto (-25), 3) := by decide +kernel
theorem dX12_worthOf_32 : decode cX12_worthOf 32 = .ok (.iload_n 2, 1) := by decide +kernel
theorem dX12_worthOf_33 : decode cX12_worthOf 33 = .ok (.ireturn, 1) := by decide +kernel
theorem dX12_best_0 : decode cX12_best 0 = .ok (.iload_n 1, 1) := by decide +kernel
theorem dX12_best_1 : decode cX12_best 1 = .ok (.i2l, 1) := by decide +kernel
theorem dX12_best_2 : decode cX12_best 2 = .ok (.lconst 0, 1) := by decide +kernel
theorem dX12_best_3 : decode cX12_best 3 = .ok (.ldc2_w 285, 3) := by decide +kernel
theorem dX12_best_6 : decode cX12_best 6 = .ok (.invokestatic 107, 3) := by decide +kernel
theorem dX12_best_9 : decode cX12_best 9 = .ok (.ifCond .ne 6, 3) := by decide +kernel
theorem dX12_best_12 : decode cX12_best 12 = .ok (.bipush (-2), 2) := by decide +kernel
theorem dX12_best_14 : decode cX12_best 14 = .ok (.ireturn, 1) := by decide +kernel
theorem dX12_best_15 : decode cX12_best 15 = .ok (.aload_n 0, 1) := by decide +kernel
theorem dX12_best_16 : decode cX12_best 16 = .ok (.aload_n 0, 1) := by decide +kernel
theorem dX12_best_17 : decode cX12_best 17 = .ok (.getfield 25, 3) := by decide +kernel
theorem dX12_best_20 : decode cX12_best 20 = .ok (.invokevirtual 202, 3) := by decide +kernel
theorem dX12_best_23 : decode cX12_best 23 = .ok (.aload_n 0, 1) := by decide +kernel
theorem dX12_best_24 : decode cX12_best 24 = .ok (.invokevirtual 287, 3) := by decide +kernel
theorem dX12_best_27 : decode cX12_best 27 = .ok (.istore_n 2, 1) := by decide +kernel
theorem dX12_best_28 : decode cX12_best 28 = .ok (.iload_n 2, 1) := by decide +kernel
theorem dX12_best_29 : decode cX12_best 29 = .ok (.bipush (-9), 2) := by decide +kernel
theorem dX12_best_31 : decode cX12_best 31 = .ok (.if_icmp .eq 10, 3) := by decide +kernel
theorem dX12_best_34 : decode cX12_best 34 = .ok (.iload_n 1, 1) := by decide +kernel
theorem dX12_best_35 : decode cX12_best 35 = .ok (.iload_n 2, 1) := by decide +kernel
theorem dX12_best_36 : decode cX12_best 36 = .ok (.iconst 2, 1) := by decide +kernel
theorem dX12_best_37 : decode cX12_best 37 = .ok (.iadd, 1) := by decide +kernel
theorem dX12_best_38 : decode cX12_best 38 = .ok (.if_icmp .lt 6, 3) := by decide +kernel
theorem dX12_best_41 : decode cX12_best 41 = .ok (.bipush (-9), 2) := by decide +kernel
theorem dX12_best_43 : decode cX12_best 43 = .ok (.ireturn, 1) := by decide +kernel
theorem dX12_best_44 : decode cX12_best 44 = .ok (.iload_n 1, 1) := by decide +kernel
theorem dX12_best_45 : decode cX12_best 45 = .ok (.ifCond .ne 11, 3) := by decide +kernel
theorem dX12_best_48 : decode cX12_best 48 = .ok (.aload_n 0, 1) := by decide +kernel
theorem dX12_best_49 : decode cX12_best 49 = .ok (.iload_n 2, 1) := by decide +kernel
theorem dX12_best_50 : decode cX12_best 50 = .ok (.invokevirtual 290, 3) := by decide +kernel
theorem dX12_best_53 : decode cX12_best 53 = .ok (.goto 20, 3) := by decide +kernel
theorem dX12_best_56 : decode cX12_best 56 = .ok (.iload_n 1, 1) := by decide +kernel
theorem dX12_best_57 : decode cX12_best 57 = .ok (.iconst 1, 1) := by decide +kernel
theorem dX12_best_58 : decode cX12_best 58 = .ok (.if_icmp .ne 7, 3) := by decide +kernel
theorem dX12_best_61 : decode cX12_best 61 = .ok (.iload_n 2, 1) := by decide +kernel
theorem dX12_best_62 : decode cX12_best 62 = .ok (.goto 11, 3) := by decide +kernel
theorem dX12_best_65 : decode cX12_best 65 = .ok (.aload_n 0, 1) := by decide +kernel
theorem dX12_best_66 : decode cX12_best 66 = .ok (.getfield 90, 3) := by decide +kernel
theorem dX12_best_69 : decode cX12_best 69 = .ok (.iload_n 1, 1) := by decide +kernel
theorem dX12_best_70 : decode cX12_best 70 = .ok (.iconst 2, 1) := by decide +kernel
theorem dX12_best_71 : decode cX12_best 71 = .ok (.isub, 1) := by decide +kernel
theorem dX12_best_72 : decode cX12_best 72 = .ok (.iaload, 1) := by decide +kernel
theorem dX12_best_73 : decode cX12_best 73 = .ok (.ireturn, 1) := by decide +kernel
theorem dX12_find_0 : decode cX12_find 0 = .ok (.lload_n 1, 1) := by decide +kernel
theorem dX12_find_1 : decode cX12_find 1 = .ok (.lstore_n 3, 1) := by decide +kernel
theorem dX12_find_2 : decode cX12_find 2 = .ok (.aload_n 0, 1) := by decide +kernel
theorem dX12_find_3 : decode cX12_find 3 = .ok (.getfield 188, 3) := by decide +kernel
theorem dX12_find_6 : decode cX12_find 6 = .ok (.istore 5, 2) := by decide +kernel
theorem dX12_find_8 : decode cX12_find 8 = .ok (.iconst 4, 1) := by decide +kernel
theorem dX12_find_9 : decode cX12_find 9 = .ok (.istore 6, 2) := by decide +kernel
theorem dX12_find_11 : decode cX12_find 11 = .ok (.iconst 0, 1) := by decide +kernel
theorem dX12_find_12 : decode cX12_find 12 = .ok (.istore 7, 2) := by decide +kernel
theorem dX12_find_14 : decode cX12_find 14 = .ok (.iload 5, 2) := by decide +kernel
theorem dX12_find_16 : decode cX12_find 16 = .ok (.ifCond .le 91, 3) := by decide +kernel
theorem dX12_find_19 : decode cX12_find 19 = .ok (.iconst (-1), 1) := by decide +kernel
theorem dX12_find_20 : decode cX12_find 20 = .ok (.istore 8, 2) := by decide +kernel
theorem dX12_find_22 : decode cX12_find 22 = .ok (.lconst 0, 1) := by decide +kernel
theorem dX12_find_23 : decode cX12_find 23 = .ok (.lstore 9, 2) := by decide +kernel
theorem dX12_find_25 : decode cX12_find 25 = .ok (.lload_n 3, 1) := by decide +kernel
theorem dX12_find_26 : decode cX12_find 26 = .ok (.lload 9, 2) := by decide +kernel
theorem dX12_find_28 : decode cX12_find 28 = .ok (.lsub, 1) := by decide +kernel
theorem dX12_find_29 : decode cX12_find 29 = .ok (.lstore_n 3, 1) := by decide +kernel
theorem dX12_find_30 : decode cX12_find 30 = .ok (.iinc 8 1, 3) := by decide +kernel
theorem dX12_find_33 : decode cX12_find 33 = .ok (.aload_n 0, 1) := by decide +kernel
theorem dX12_find_34 : decode cX12_find 34 = .ok (.iload 5, 2) := by decide +kernel
theorem dX12_find_36 : decode cX12_find 36 = .ok (.iload 6, 2) := by decide +kernel
theorem dX12_find_38 : decode cX12_find 38 = .ok (.iload 8, 2) := by decide +kernel
theorem dX12_find_40 : decode cX12_find 40 = .ok (.invokevirtual 194, 3) := by decide +kernel
theorem dX12_find_43 : decode cX12_find 43 = .ok (.ifCond .eq 18, 3) := by decide +kernel
theorem dX12_find_46 : decode cX12_find 46 = .ok (.aload_n 0, 1) := by decide +kernel
theorem dX12_find_47 : decode cX12_find 47 = .ok (.aload_n 0, 1) := by decide +kernel
theorem dX12_find_48 : decode cX12_find 48 = .ok (.getfield 74, 3) := by decide +kernel
theorem dX12_find_51 : decode cX12_find 51 = .ok (.iload 5, 2) := by decide +kernel
theorem dX12_find_53 : decode cX12_find 53 = .ok (.iload 8, 2) := by decide +kernel
theorem dX12_find_55 : decode cX12_find 55 = .ok (.invokevirtual 198, 3) := by decide +kernel
theorem dX12_find_58 : decode cX12_find 58 = .ok (.goto 4, 3) := by decide +kernel
theorem dX12_find_61 : decode cX12_find 61 = .ok (.lconst 0, 1) := by decide +kernel
theorem dX12_find_62 : decode cX12_find 62 = .ok (.lstore 9, 2) := by decide +kernel
theorem dX12_find_64 : decode cX12_find 64 = .ok (.lload_n 3, 1) := by decide +kernel
theorem dX12_find_65 : decode cX12_find 65 = .ok (.lload 9, 2) := by decide +kernel
theorem dX12_find_67 : decode cX12_find 67 = .ok (.lcmp, 1) := by decide +kernel
theorem dX12_find_68 : decode cX12_find 68 = .ok (.ifCond .ge (-43), 3) := by decide +kernel
theorem dX12_find_71 : decode cX12_find 71 = .ok (.aload_n 0, 1) := by decide +kernel
theorem dX12_find_72 : decode cX12_find 72 = .ok (.getfield 90, 3) := by decide +kernel
theorem dX12_find_75 : decode cX12_find 75 = .ok (.iload 7, 2) := by decide +kernel
theorem dX12_find_77 : decode cX12_find 77 = .ok (.iload 8, 2) := by decide +kernel
theorem dX12_find_79 : decode cX12_find 79 = .ok (.iastore, 1) := by decide +kernel
theorem dX12_find_80 : decode cX12_find 80 = .ok (.iinc 7 1, 3) := by decide +kernel
theorem dX12_find_83 : decode cX12_find 83 = .ok (.iload 5, 2) := by decide +kernel
theorem dX12_find_85 : decode cX12_find 85 = .ok (.aload_n 0, 1) := by decide +kernel
theorem dX12_find_86 : decode cX12_find 86 = .ok (.getfield 71, 3) := by decide +kernel
theorem dX12_find_89 : decode cX12_find 89 = .ok (.iload 8, 2) := by decide +kernel
theorem dX12_find_91 : decode cX12_find 91 = .ok (.iaload, 1) := by decide +kernel
theorem dX12_find_92 : decode cX12_find 92 = .ok (.isub, 1) := by decide +kernel
theorem dX12_find_93 : decode cX12_find 93 = .ok (.istore 5, 2) := by decide +kernel
theorem dX12_find_95 : decode cX12_find 95 = .ok (.aload_n 0, 1) := by decide +kernel
theorem dX12_find_96 : decode cX12_find 96 = .ok (.getfield 19, 3) := by decide +kernel
theorem dX12_find_99 : decode cX12_find 99 = .ok (.iload 8, 2) := by decide +kernel
theorem dX12_find_101 : decode cX12_find 101 = .ok (.iaload, 1) := by decide +kernel
theorem dX12_find_102 : decode cX12_find 102 = .ok (.istore 6, 2) := by decide +kernel
theorem dX12_find_104 : decode cX12_find 104 = .ok (.goto (-90), 3) := by decide +kernel
theorem dX12_find_107 : decode cX12_find 107 = .ok (.iload 7, 2) := by decide +kernel
theorem dX12_find_109 : decode cX12_find 109 = .ok (.ireturn, 1) := by decide +kernel
theorem dX12_phrase_0 : decode cX12_phrase 0 = .ok (.lload_n 1, 1) := by decide +kernel
theorem dX12_phrase_1 : decode cX12_phrase 1 = .ok (.lconst 0, 1) := by decide +kernel
theorem dX12_phrase_2 : decode cX12_phrase 2 = .ok (.aload_n 0, 1) := by decide +kernel
theorem dX12_phrase_3 : decode cX12_phrase 3 = .ok (.aload_n 0, 1) := by decide +kernel
theorem dX12_phrase_4 : decode cX12_phrase 4 = .ok (.getfield 25, 3) := by decide +kernel
theorem dX12_phrase_7 : decode cX12_phrase 7 = .ok (.invokevirtual 272, 3) := by decide +kernel
theorem dX12_phrase_10 : decode cX12_phrase 10 = .ok (.lconst 1, 1) := by decide +kernel
theorem dX12_phrase_11 : decode cX12_phrase 11 = .ok (.lsub, 1) := by decide +kernel
theorem dX12_phrase_12 : decode cX12_phrase 12 = .ok (.invokestatic 107, 3) := by decide +kernel
theorem dX12_phrase_15 : decode cX12_phrase 15 = .ok (.ifCond .ne 5, 3) := by decide +kernel
theorem dX12_phrase_18 : decode cX12_phrase 18 = .ok (.iconst (-1), 1) := by decide +kernel
theorem dX12_phrase_19 : decode cX12_phrase 19 = .ok (.ireturn, 1) := by decide +kernel
theorem dX12_phrase_20 : decode cX12_phrase 20 = .ok (.iload_n 3, 1) := by decide +kernel
theorem dX12_phrase_21 : decode cX12_phrase 21 = .ok (.i2l, 1) := by decide +kernel
theorem dX12_phrase_22 : decode cX12_phrase 22 = .ok (.lconst 0, 1) := by decide +kernel
theorem dX12_phrase_23 : decode cX12_phrase 23 = .ok (.ldc2_w 285, 3) := by decide +kernel
theorem dX12_phrase_26 : decode cX12_phrase 26 = .ok (.invokestatic 107, 3) := by decide +kernel
theorem dX12_phrase_29 : decode cX12_phrase 29 = .ok (.ifCond .ne 6, 3) := by decide +kernel
theorem dX12_phrase_32 : decode cX12_phrase 32 = .ok (.bipush (-2), 2) := by decide +kernel
theorem dX12_phrase_34 : decode cX12_phrase 34 = .ok (.ireturn, 1) := by decide +kernel
theorem dX12_phrase_35 : decode cX12_phrase 35 = .ok (.aload_n 0, 1) := by decide +kernel
theorem dX12_phrase_36 : decode cX12_phrase 36 = .ok (.lload_n 1, 1) := by decide +kernel
theorem dX12_phrase_37 : decode cX12_phrase 37 = .ok (.invokevirtual 293, 3) := by decide +kernel
theorem dX12_phrase_40 : decode cX12_phrase 40 = .ok (.istore 4, 2) := by decide +kernel
theorem dX12_phrase_42 : decode cX12_phrase 42 = .ok (.iload_n 3, 1) := by decide +kernel
theorem dX12_phrase_43 : decode cX12_phrase 43 = .ok (.ifCond .ne 8, 3) := by decide +kernel
theorem dX12_phrase_46 : decode cX12_phrase 46 = .ok (.iload 4, 2) := by decide +kernel
theorem dX12_phrase_48 : decode cX12_phrase 48 = .ok (.goto 37, 3) := by decide +kernel
theorem dX12_phrase_51 : decode cX12_phrase 51 = .ok (.iload_n 3, 1) := by decide +kernel
theorem dX12_phrase_52 : decode cX12_phrase 52 = .ok (.bipush 13, 2) := by decide +kernel
theorem dX12_phrase_54 : decode cX12_phrase 54 = .ok (.if_icmp .ne 12, 3) := by decide +kernel
theorem dX12_phrase_57 : decode cX12_phrase 57 = .ok (.aload_n 0, 1) := by decide +kernel
theorem dX12_phrase_58 : decode cX12_phrase 58 = .ok (.iload 4, 2) := by decide +kernel
theorem dX12_phrase_60 : decode cX12_phrase 60 = .ok (.invokevirtual 290, 3) := by decide +kernel
theorem dX12_phrase_63 : decode cX12_phrase 63 = .ok (.goto 22, 3) := by decide +kernel
theorem dX12_phrase_66 : decode cX12_phrase 66 = .ok (.iload_n 3, 1) := by decide +kernel
theorem dX12_phrase_67 : decode cX12_phrase 67 = .ok (.iload 4, 2) := by decide +kernel
theorem dX12_phrase_69 : decode cX12_phrase 69 = .ok (.if_icmp .gt 14, 3) := by decide +kernel
theorem dX12_phrase_72 : decode cX12_phrase 72 = .ok (.aload_n 0, 1) := by decide +kernel
theorem dX12_phrase_73 : decode cX12_phrase 73 = .ok (.getfield 90, 3) := by decide +kernel
theorem dX12_phrase_76 : decode cX12_phrase 76 = .ok (.iload_n 3, 1) := by decide +kernel
theorem dX12_phrase_77 : decode cX12_phrase 77 = .ok (.iconst 1, 1) := by decide +kernel
theorem dX12_phrase_78 : decode cX12_phrase 78 = .ok (.isub, 1) := by decide +kernel
theorem dX12_phrase_79 : decode cX12_phrase 79 = .ok (.iaload, 1) := by decide +kernel
theorem dX12_phrase_80 : decode cX12_phrase 80 = .ok (.goto 5, 3) := by decide +kernel
theorem dX12_phrase_83 : decode cX12_phrase 83 = .ok (.bipush (-9), 2) := by decide +kernel
theorem dX12_phrase_85 : decode cX12_phrase 85 = .ok (.ireturn, 1) := by decide +kernel
theorem dX12_tell_0 : decode cX12_tell 0 = .ok (.aload_n 0, 1) := by decide +kernel
theorem dX12_tell_1 : decode cX12_tell 1 = .ok (.iload_n 1, 1) := by decide +kernel
theorem dX12_tell_2 : decode cX12_tell 2 = .ok (.invokevirtual 243, 3) := by decide +kernel
theorem dX12_tell_5 : decode cX12_tell 5 = .ok (.ifCond .ne 5, 3) := by decide +kernel
theorem dX12_tell_8 : decode cX12_tell 8 = .ok (.iconst (-1), 1) := by decide +kernel
theorem dX12_tell_9 : decode cX12_tell 9 = .ok (.ireturn, 1) := by decide +kernel
theorem dX12_tell_10 : decode cX12_tell 10 = .ok (.aload_n 0, 1) := by decide +kernel
theorem dX12_tell_11 : decode cX12_tell 11 = .ok (.getfield 185, 3) := by decide +kernel
theorem dX12_tell_14 : decode cX12_tell 14 = .ok (.bipush 12, 2) := by decide +kernel
theorem dX12_tell_16 : decode cX12_tell 16 = .ok (.if_icmp .ne 6, 3) := by decide +kernel
theorem dX12_tell_19 : decode cX12_tell 19 = .ok (.bipush (-4), 2) := by decide +kernel
theorem dX12_tell_21 : decode cX12_tell 21 = .ok (.ireturn, 1) := by decide +kernel
theorem dX12_tell_22 : decode cX12_tell 22 = .ok (.aload_n 0, 1) := by decide +kernel
theorem dX12_tell_23 : decode cX12_tell 23 = .ok (.getfield 41, 3) := by decide +kernel
theorem dX12_tell_26 : decode cX12_tell 26 = .ok (.aload_n 0, 1) := by decide +kernel
theorem dX12_tell_27 : decode cX12_tell 27 = .ok (.getfield 185, 3) := by decide +kernel
theorem dX12_tell_30 : decode cX12_tell 30 = .ok (.iload_n 1, 1) := by decide +kernel
theorem dX12_tell_31 : decode cX12_tell 31 = .ok (.iastore, 1) := by decide +kernel
theorem dX12_tell_32 : decode cX12_tell 32 = .ok (.aload_n 0, 1) := by decide +kernel
theorem dX12_tell_33 : decode cX12_tell 33 = .ok (.dup, 1) := by decide +kernel
theorem dX12_tell_34 : decode cX12_tell 34 = .ok (.getfield 185, 3) := by decide +kernel
theorem dX12_tell_37 : decode cX12_tell 37 = .ok (.iconst 1, 1) := by decide +kernel
theorem dX12_tell_38 : decode cX12_tell 38 = .ok (.iadd, 1) := by decide +kernel
theorem dX12_tell_39 : decode cX12_tell 39 = .ok (.putfield 185, 3) := by decide +kernel
theorem dX12_tell_42 : decode cX12_tell 42 = .ok (.aload_n 0, 1) := by decide +kernel
theorem dX12_tell_43 : decode cX12_tell 43 = .ok (.getfield 185, 3) := by decide +kernel
theorem dX12_tell_46 : decode cX12_tell 46 = .ok (.ireturn, 1) := by decide +kernel
theorem dX12_clear_0 : decode cX12_clear 0 = .ok (.aload_n 0, 1) := by decide +kernel
theorem dX12_clear_1 : decode cX12_clear 1 = .ok (.getfield 185, 3) := by decide +kernel
theorem dX12_clear_4 : decode cX12_clear 4 = .ok (.istore_n 1, 1) := by decide +kernel
theorem dX12_clear_5 : decode cX12_clear 5 = .ok (.aload_n 0, 1) := by decide +kernel
theorem dX12_clear_6 : decode cX12_clear 6 = .ok (.iconst 0, 1) := by decide +kernel
theorem dX12_clear_7 : decode cX12_clear 7 = .ok (.putfield 185, 3) := by decide +kernel
theorem dX12_clear_10 : decode cX12_clear 10 = .ok (.iload_n 1, 1) := by decide +kernel
theorem dX12_clear_11 : decode cX12_clear 11 = .ok (.ireturn, 1) := by decide +kernel
theorem dX12_wantedBy_0 : decode cX12_wantedBy 0 = .ok (.bipush (-9), 2) := by decide +kernel
theorem dX12_wantedBy_2 : decode cX12_wantedBy 2 = .ok (.istore_n 2, 1) := by decide +kernel
theorem dX12_wantedBy_3 : decode cX12_wantedBy 3 = .ok (.aload_n 0, 1) := by decide +kernel
theorem dX12_wantedBy_4 : decode cX12_wantedBy 4 = .ok (.getfield 16, 3) := by decide +kernel
theorem dX12_wantedBy_7 : decode cX12_wantedBy 7 = .ok (.iload_n 1, 1) := by decide +kernel
theorem dX12_wantedBy_8 : decode cX12_wantedBy 8 = .ok (.iaload, 1) := by decide +kernel
theorem dX12_wantedBy_9 : decode cX12_wantedBy 9 = .ok (.iconst 1, 1) := by decide +kernel
theorem dX12_wantedBy_10 : decode cX12_wantedBy 10 = .ok (.isub, 1) := by decide +kernel
theorem dX12_wantedBy_11 : decode cX12_wantedBy 11 = .ok (.istore_n 3, 1) := by decide +kernel
theorem dX12_wantedBy_12 : decode cX12_wantedBy 12 = .ok (.iload_n 3, 1) := by decide +kernel
theorem dX12_wantedBy_13 : decode cX12_wantedBy 13 = .ok (.ifCond .lt 51, 3) := by decide +kernel
theorem dX12_wantedBy_16 : decode cX12_wantedBy 16 = .ok (.aload_n 0, 1) := by decide +kernel
theorem dX12_wantedBy_17 : decode cX12_wantedBy 17 = .ok (.getfield 13, 3) := by decide +kernel
theorem dX12_wantedBy_20 : decode cX12_wantedBy 20 = .ok (.bipush 6, 2) := by decide +kernel
theorem dX12_wantedBy_22 : decode cX12_wantedBy 22 = .ok (.iload_n 1, 1) := by decide +kernel
theorem dX12_wantedBy_23 : decode cX12_wantedBy 23 = .ok (.imul, 1) := by decide +kernel
theorem dX12_wantedBy_24 : decode cX12_wantedBy 24 = .ok (.iload_n 3, 1) := by decide +kernel
theorem dX12_wantedBy_25 : decode cX12_wantedBy 25 = .ok (.iadd, 1) := by decide +kernel
theorem dX12_wantedBy_26 : decode cX12_wantedBy 26 = .ok (.iaload, 1) := by decide +kernel
theorem dX12_wantedBy_27 : decode cX12_wantedBy 27 = .ok (.istore 4, 2) := by decide +kernel
theorem dX12_wantedBy_29 : decode cX12_wantedBy 29 = .ok (.aload_n 0, 1) := by decide +kernel
theorem dX12_wantedBy_30 : decode cX12_wantedBy 30 = .ok (.getfield 22, 3) := by decide +kernel
theorem dX12_wantedBy_33 : decode cX12_wantedBy 33 = .ok (.bipush 8, 2) := by decide +kernel
theorem dX12_wantedBy_35 : decode cX12_wantedBy 35 = .ok (.iload_n 1, 1) := by decide +kernel
theorem dX12_wantedBy_36 : decode cX12_wantedBy 36 = .ok (.imul, 1) := by decide +kernel
theorem dX12_wantedBy_37 : decode cX12_wantedBy 37 = .ok (.iload 4, 2) := by decide +kernel
theorem dX12_wantedBy_39 : decode cX12_wantedBy 39 = .ok (.iadd, 1) := by decide +kernel
theorem dX12_wantedBy_40 : decode cX12_wantedBy 40 = .ok (.iaload, 1) := by decide +kernel
theorem dX12_wantedBy_41 : decode cX12_wantedBy 41 = .ok (.aload_n 0, 1) := by decide +kernel
theorem dX12_wantedBy_42 : decode cX12_wantedBy 42 = .ok (.getfield 93, 3) := by decide +kernel
theorem dX12_wantedBy_45 : decode cX12_wantedBy 45 = .ok (.iload 4, 2) := by decide +kernel
theorem dX12_wantedBy_47 : decode cX12_wantedBy 47 = .ok (.iaload, 1) := by decide +kernel
theorem dX12_wantedBy_48 : decode cX12_wantedBy 48 = .ok (.if_icmp .le 8, 3) := by decide +kernel
theorem dX12_wantedBy_51 : decode cX12_wantedBy 51 = .ok (.iload 4, 2) := by decide +kernel
theorem dX12_wantedBy_53 : decode cX12_wantedBy 53 = .ok (.goto 4, 3) := by decide +kernel
theorem dX12_wantedBy_56 : decode cX12_wantedBy 56 = .ok (.iload_n 2, 1) := by decide +kernel
theorem dX12_wantedBy_57 : decode cX12_wantedBy 57 = .ok (.istore_n 2, 1) := by decide +kernel
theorem dX12_wantedBy_58 : decode cX12_wantedBy 58 = .ok (.iinc 3 (-1), 3) := by decide +kernel
theorem dX12_wantedBy_61 : decode cX12_wantedBy 61 = .ok (.goto (-49), 3) := by decide +kernel
theorem dX12_wantedBy_64 : decode cX12_wantedBy 64 = .ok (.iload_n 2, 1) := by decide +kernel
