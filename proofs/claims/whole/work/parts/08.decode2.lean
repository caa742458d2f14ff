theorem dX6_step_115 : decode cX6_step 115 = .ok (.iconst 2, 1) := by decide +kernel
theorem dX6_step_116 : decode cX6_step 116 = .ok (.if_icmp .ne 36, 3) := by decide +kernel
theorem dX6_step_119 : decode cX6_step 119 = .ok (.aload_n 0, 1) := by decide +kernel
theorem dX6_step_120 : decode cX6_step 120 = .ok (.getfield 41, 3) := by decide +kernel
theorem dX6_step_123 : decode cX6_step 123 = .ok (.ldc 173, 2) := by decide +kernel
theorem dX6_step_125 : decode cX6_step 125 = .ok (.if_icmp .ge 27, 3) := by decide +kernel
theorem dX6_step_128 : decode cX6_step 128 = .ok (.aload_n 0, 1) := by decide +kernel
theorem dX6_step_129 : decode cX6_step 129 = .ok (.aload_n 0, 1) := by decide +kernel
theorem dX6_step_130 : decode cX6_step 130 = .ok (.getfield 41, 3) := by decide +kernel
theorem dX6_step_133 : decode cX6_step 133 = .ok (.bipush 10, 2) := by decide +kernel
theorem dX6_step_135 : decode cX6_step 135 = .ok (.imul, 1) := by decide +kernel
theorem dX6_step_136 : decode cX6_step 136 = .ok (.aload_n 0, 1) := by decide +kernel
theorem dX6_step_137 : decode cX6_step 137 = .ok (.getfield 28, 3) := by decide +kernel
theorem dX6_step_140 : decode cX6_step 140 = .ok (.aload_n 0, 1) := by decide +kernel
theorem dX6_step_141 : decode cX6_step 141 = .ok (.getfield 38, 3) := by decide +kernel
theorem dX6_step_144 : decode cX6_step 144 = .ok (.iaload, 1) := by decide +kernel
theorem dX6_step_145 : decode cX6_step 145 = .ok (.iadd, 1) := by decide +kernel
theorem dX6_step_146 : decode cX6_step 146 = .ok (.bipush 48, 2) := by decide +kernel
theorem dX6_step_148 : decode cX6_step 148 = .ok (.isub, 1) := by decide +kernel
theorem dX6_step_149 : decode cX6_step 149 = .ok (.putfield 41, 3) := by decide +kernel
theorem dX6_step_152 : decode cX6_step 152 = .ok (.aload_n 0, 1) := by decide +kernel
theorem dX6_step_153 : decode cX6_step 153 = .ok (.dup, 1) := by decide +kernel
theorem dX6_step_154 : decode cX6_step 154 = .ok (.getfield 38, 3) := by decide +kernel
theorem dX6_step_157 : decode cX6_step 157 = .ok (.iconst 1, 1) := by decide +kernel
theorem dX6_step_158 : decode cX6_step 158 = .ok (.iadd, 1) := by decide +kernel
theorem dX6_step_159 : decode cX6_step 159 = .ok (.putfield 38, 3) := by decide +kernel
theorem dX6_step_162 : decode cX6_step 162 = .ok (.aload_n 0, 1) := by decide +kernel
theorem dX6_step_163 : decode cX6_step 163 = .ok (.getfield 32, 3) := by decide +kernel
theorem dX6_step_166 : decode cX6_step 166 = .ok (.iconst 1, 1) := by decide +kernel
theorem dX6_step_167 : decode cX6_step 167 = .ok (.if_icmp .eq 11, 3) := by decide +kernel
theorem dX6_step_170 : decode cX6_step 170 = .ok (.aload_n 0, 1) := by decide +kernel
theorem dX6_step_171 : decode cX6_step 171 = .ok (.getfield 32, 3) := by decide +kernel
theorem dX6_step_174 : decode cX6_step 174 = .ok (.iconst 2, 1) := by decide +kernel
theorem dX6_step_175 : decode cX6_step 175 = .ok (.if_icmp .ne 37, 3) := by decide +kernel
theorem dX6_step_178 : decode cX6_step 178 = .ok (.aload_n 0, 1) := by decide +kernel
theorem dX6_step_179 : decode cX6_step 179 = .ok (.getfield 38, 3) := by decide +kernel
theorem dX6_step_182 : decode cX6_step 182 = .ok (.aload_n 0, 1) := by decide +kernel
theorem dX6_step_183 : decode cX6_step 183 = .ok (.getfield 9, 3) := by decide +kernel
theorem dX6_step_186 : decode cX6_step 186 = .ok (.if_icmp .ge 26, 3) := by decide +kernel
theorem dX6_step_189 : decode cX6_step 189 = .ok (.aload_n 0, 1) := by decide +kernel
theorem dX6_step_190 : decode cX6_step 190 = .ok (.getfield 28, 3) := by decide +kernel
theorem dX6_step_193 : decode cX6_step 193 = .ok (.aload_n 0, 1) := by decide +kernel
theorem dX6_step_194 : decode cX6_step 194 = .ok (.getfield 38, 3) := by decide +kernel
theorem dX6_step_197 : decode cX6_step 197 = .ok (.iaload, 1) := by decide +kernel
theorem dX6_step_198 : decode cX6_step 198 = .ok (.invokestatic 169, 3) := by decide +kernel
theorem dX6_step_201 : decode cX6_step 201 = .ok (.aload_n 0, 1) := by decide +kernel
theorem dX6_step_202 : decode cX6_step 202 = .ok (.getfield 32, 3) := by decide +kernel
theorem dX6_step_205 : decode cX6_step 205 = .ok (.if_icmp .ne 7, 3) := by decide +kernel
theorem dX6_step_208 : decode cX6_step 208 = .ok (.iconst 1, 1) := by decide +kernel
theorem dX6_step_209 : decode cX6_step 209 = .ok (.goto 4, 3) := by decide +kernel
theorem dX6_step_212 : decode cX6_step 212 = .ok (.iconst 0, 1) := by decide +kernel
theorem dX6_step_213 : decode cX6_step 213 = .ok (.istore_n 1, 1) := by decide +kernel
theorem dX6_step_214 : decode cX6_step 214 = .ok (.goto (-118), 3) := by decide +kernel
theorem dX6_step_217 : decode cX6_step 217 = .ok (.return_, 1) := by decide +kernel
theorem dX6_kindOf_0 : decode cX6_kindOf 0 = .ok (.iload_n 0, 1) := by decide +kernel
theorem dX6_kindOf_1 : decode cX6_kindOf 1 = .ok (.bipush 97, 2) := by decide +kernel
theorem dX6_kindOf_3 : decode cX6_kindOf 3 = .ok (.if_icmp .lt 11, 3) := by decide +kernel
theorem dX6_kindOf_6 : decode cX6_kindOf 6 = .ok (.iload_n 0, 1) := by decide +kernel
theorem dX6_kindOf_7 : decode cX6_kindOf 7 = .ok (.bipush 122, 2) := by decide +kernel
theorem dX6_kindOf_9 : decode cX6_kindOf 9 = .ok (.if_icmp .gt 5, 3) := by decide +kernel
theorem dX6_kindOf_12 : decode cX6_kindOf 12 = .ok (.iconst 1, 1) := by decide +kernel
theorem dX6_kindOf_13 : decode cX6_kindOf 13 = .ok (.ireturn, 1) := by decide +kernel
theorem dX6_kindOf_14 : decode cX6_kindOf 14 = .ok (.iload_n 0, 1) := by decide +kernel
theorem dX6_kindOf_15 : decode cX6_kindOf 15 = .ok (.bipush 48, 2) := by decide +kernel
theorem dX6_kindOf_17 : decode cX6_kindOf 17 = .ok (.if_icmp .lt 11, 3) := by decide +kernel
theorem dX6_kindOf_20 : decode cX6_kindOf 20 = .ok (.iload_n 0, 1) := by decide +kernel
theorem dX6_kindOf_21 : decode cX6_kindOf 21 = .ok (.bipush 57, 2) := by decide +kernel
theorem dX6_kindOf_23 : decode cX6_kindOf 23 = .ok (.if_icmp .gt 5, 3) := by decide +kernel
theorem dX6_kindOf_26 : decode cX6_kindOf 26 = .ok (.iconst 2, 1) := by decide +kernel
theorem dX6_kindOf_27 : decode cX6_kindOf 27 = .ok (.ireturn, 1) := by decide +kernel
theorem dX6_kindOf_28 : decode cX6_kindOf 28 = .ok (.iload_n 0, 1) := by decide +kernel
theorem dX6_kindOf_29 : decode cX6_kindOf 29 = .ok (.bipush 32, 2) := by decide +kernel
theorem dX6_kindOf_31 : decode cX6_kindOf 31 = .ok (.if_icmp .eq 9, 3) := by decide +kernel
theorem dX6_kindOf_34 : decode cX6_kindOf 34 = .ok (.iload_n 0, 1) := by decide +kernel
theorem dX6_kindOf_35 : decode cX6_kindOf 35 = .ok (.bipush 10, 2) := by decide +kernel
theorem dX6_kindOf_37 : decode cX6_kindOf 37 = .ok (.if_icmp .ne 5, 3) := by decide +kernel
theorem dX6_kindOf_40 : decode cX6_kindOf 40 = .ok (.iconst 4, 1) := by decide +kernel
theorem dX6_kindOf_41 : decode cX6_kindOf 41 = .ok (.ireturn, 1) := by decide +kernel
theorem dX6_kindOf_42 : decode cX6_kindOf 42 = .ok (.iload_n 0, 1) := by decide +kernel
theorem dX6_kindOf_43 : decode cX6_kindOf 43 = .ok (.bipush 59, 2) := by decide +kernel
theorem dX6_kindOf_45 : decode cX6_kindOf 45 = .ok (.if_icmp .ne 7, 3) := by decide +kernel
theorem dX6_kindOf_48 : decode cX6_kindOf 48 = .ok (.iconst 3, 1) := by decide +kernel
theorem dX6_kindOf_49 : decode cX6_kindOf 49 = .ok (.goto 4, 3) := by decide +kernel
theorem dX6_kindOf_52 : decode cX6_kindOf 52 = .ok (.iconst 5, 1) := by decide +kernel
theorem dX6_kindOf_53 : decode cX6_kindOf 53 = .ok (.ireturn, 1) := by decide +kernel
theorem dX6_isWord_0 : decode cX6_isWord 0 = .ok (.aload_n 0, 1) := by decide +kernel
theorem dX6_isWord_1 : decode cX6_isWord 1 = .ok (.getfield 32, 3) := by decide +kernel
theorem dX6_isWord_4 : decode cX6_isWord 4 = .ok (.iconst 1, 1) := by decide +kernel
theorem dX6_isWord_5 : decode cX6_isWord 5 = .ok (.if_icmp .ne 19, 3) := by decide +kernel
theorem dX6_isWord_8 : decode cX6_isWord 8 = .ok (.aload_n 0, 1) := by decide +kernel
theorem dX6_isWord_9 : decode cX6_isWord 9 = .ok (.getfield 38, 3) := by decide +kernel
theorem dX6_isWord_12 : decode cX6_isWord 12 = .ok (.aload_n 0, 1) := by decide +kernel
theorem dX6_isWord_13 : decode cX6_isWord 13 = .ok (.getfield 35, 3) := by decide +kernel
theorem dX6_isWord_16 : decode cX6_isWord 16 = .ok (.isub, 1) := by decide +kernel
theorem dX6_isWord_17 : decode cX6_isWord 17 = .ok (.aload_n 1, 1) := by decide +kernel
theorem dX6_isWord_18 : decode cX6_isWord 18 = .ok (.invokevirtual 174, 3) := by decide +kernel
theorem dX6_isWord_21 : decode cX6_isWord 21 = .ok (.if_icmp .eq 5, 3) := by decide +kernel
theorem dX6_isWord_24 : decode cX6_isWord 24 = .ok (.iconst 0, 1) := by decide +kernel
theorem dX6_isWord_25 : decode cX6_isWord 25 = .ok (.ireturn, 1) := by decide +kernel
theorem dX6_isWord_26 : decode cX6_isWord 26 = .ok (.iconst 0, 1) := by decide +kernel
theorem dX6_isWord_27 : decode cX6_isWord 27 = .ok (.istore_n 2, 1) := by decide +kernel
theorem dX6_isWord_28 : decode cX6_isWord 28 = .ok (.iload_n 2, 1) := by decide +kernel
theorem dX6_isWord_29 : decode cX6_isWord 29 = .ok (.aload_n 1, 1) := by decide +kernel
theorem dX6_isWord_30 : decode cX6_isWord 30 = .ok (.invokevirtual 174, 3) := by decide +kernel
theorem dX6_isWord_33 : decode cX6_isWord 33 = .ok (.if_icmp .ge 30, 3) := by decide +kernel
theorem dX6_isWord_36 : decode cX6_isWord 36 = .ok (.aload_n 0, 1) := by decide +kernel
theorem dX6_isWord_37 : decode cX6_isWord 37 = .ok (.getfield 28, 3) := by decide +kernel
theorem dX6_isWord_40 : decode cX6_isWord 40 = .ok (.aload_n 0, 1) := by decide +kernel
theorem dX6_isWord_41 : decode cX6_isWord 41 = .ok (.getfield 35, 3) := by decide +kernel
theorem dX6_isWord_44 : decode cX6_isWord 44 = .ok (.iload_n 2, 1) := by decide +kernel
theorem dX6_isWord_45 : decode cX6_isWord 45 = .ok (.iadd, 1) := by decide +kernel
theorem dX6_isWord_46 : decode cX6_isWord 46 = .ok (.iaload, 1) := by decide +kernel
theorem dX6_isWord_47 : decode cX6_isWord 47 = .ok (.aload_n 1, 1) := by decide +kernel
theorem dX6_isWord_48 : decode cX6_isWord 48 = .ok (.iload_n 2, 1) := by decide +kernel
theorem dX6_isWord_49 : decode cX6_isWord 49 = .ok (.invokevirtual 180, 3) := by decide +kernel
theorem dX6_isWord_52 : decode cX6_isWord 52 = .ok (.if_icmp .eq 5, 3) := by decide +kernel
theorem dX6_isWord_55 : decode cX6_isWord 55 = .ok (.iconst 0, 1) := by decide +kernel
theorem dX6_isWord_56 : decode cX6_isWord 56 = .ok (.ireturn, 1) := by decide +kernel
theorem dX6_isWord_57 : decode cX6_isWord 57 = .ok (.iinc 2 1, 3) := by decide +kernel
theorem dX6_isWord_60 : decode cX6_isWord 60 = .ok (.goto (-32), 3) := by decide +kernel
theorem dX6_isWord_63 : decode cX6_isWord 63 = .ok (.iconst 1, 1) := by decide +kernel
theorem dX6_isWord_64 : decode cX6_isWord 64 = .ok (.ireturn, 1) := by decide +kernel
theorem dX7_init_0 : decode cX7_init 0 = .ok (.aload_n 0, 1) := by decide +kernel
theorem dX7_init_1 : decode cX7_init 1 = .ok (.invokespecial 1, 3) := by decide +kernel
theorem dX7_init_4 : decode cX7_init 4 = .ok (.aload_n 0, 1) := by decide +kernel
theorem dX7_init_5 : decode cX7_init 5 = .ok (.iconst 0, 1) := by decide +kernel
theorem dX7_init_6 : decode cX7_init 6 = .ok (.putfield 7, 3) := by decide +kernel
theorem dX7_init_9 : decode cX7_init 9 = .ok (.aload_n 0, 1) := by decide +kernel
theorem dX7_init_10 : decode cX7_init 10 = .ok (.lconst 0, 1) := by decide +kernel
theorem dX7_init_11 : decode cX7_init 11 = .ok (.putfield 13, 3) := by decide +kernel
theorem dX7_init_14 : decode cX7_init 14 = .ok (.aload_n 0, 1) := by decide +kernel
theorem dX7_init_15 : decode cX7_init 15 = .ok (.lconst 1, 1) := by decide +kernel
theorem dX7_init_16 : decode cX7_init 16 = .ok (.putfield 17, 3) := by decide +kernel
theorem dX7_init_19 : decode cX7_init 19 = .ok (.return_, 1) := by decide +kernel
theorem dX7_copyFrom_0 : decode cX7_copyFrom 0 = .ok (.aload_n 0, 1) := by decide +kernel
theorem dX7_copyFrom_1 : decode cX7_copyFrom 1 = .ok (.aload_n 1, 1) := by decide +kernel
theorem dX7_copyFrom_2 : decode cX7_copyFrom 2 = .ok (.getfield 7, 3) := by decide +kernel
theorem dX7_copyFrom_5 : decode cX7_copyFrom 5 = .ok (.putfield 7, 3) := by decide +kernel
theorem dX7_copyFrom_8 : decode cX7_copyFrom 8 = .ok (.aload_n 0, 1) := by decide +kernel
theorem dX7_copyFrom_9 : decode cX7_copyFrom 9 = .ok (.aload_n 1, 1) := by decide +kernel
theorem dX7_copyFrom_10 : decode cX7_copyFrom 10 = .ok (.getfield 13, 3) := by decide +kernel
theorem dX7_copyFrom_13 : decode cX7_copyFrom 13 = .ok (.putfield 13, 3) := by decide +kernel
theorem dX7_copyFrom_16 : decode cX7_copyFrom 16 = .ok (.aload_n 0, 1) := by decide +kernel
theorem dX7_copyFrom_17 : decode cX7_copyFrom 17 = .ok (.aload_n 1, 1) := by decide +kernel
theorem dX7_copyFrom_18 : decode cX7_copyFrom 18 = .ok (.getfield 17, 3) := by decide +kernel
theorem dX7_copyFrom_21 : decode cX7_copyFrom 21 = .ok (.putfield 17, 3) := by decide +kernel
theorem dX7_copyFrom_24 : decode cX7_copyFrom 24 = .ok (.return_, 1) := by decide +kernel
theorem dX7_isBetterThan_0 : decode cX7_isBetterThan 0 = .ok (.aload_n 0, 1) := by decide +kernel
theorem dX7_isBetterThan_1 : decode cX7_isBetterThan 1 = .ok (.getfield 7, 3) := by decide +kernel
theorem dX7_isBetterThan_4 : decode cX7_isBetterThan 4 = .ok (.aload_n 1, 1) := by decide +kernel
theorem dX7_isBetterThan_5 : decode cX7_isBetterThan 5 = .ok (.getfield 7, 3) := by decide +kernel
theorem dX7_isBetterThan_8 : decode cX7_isBetterThan 8 = .ok (.if_icmp .eq 20, 3) := by decide +kernel
theorem dX7_isBetterThan_11 : decode cX7_isBetterThan 11 = .ok (.aload_n 0, 1) := by decide +kernel
theorem dX7_isBetterThan_12 : decode cX7_isBetterThan 12 = .ok (.getfield 7, 3) := by decide +kernel
theorem dX7_isBetterThan_15 : decode cX7_isBetterThan 15 = .ok (.aload_n 1, 1) := by decide +kernel
theorem dX7_isBetterThan_16 : decode cX7_isBetterThan 16 = .ok (.getfield 7, 3) := by decide +kernel
theorem dX7_isBetterThan_19 : decode cX7_isBetterThan 19 = .ok (.if_icmp .ge 7, 3) := by decide +kernel
theorem dX7_isBetterThan_22 : decode cX7_isBetterThan 22 = .ok (.iconst 1, 1) := by decide +kernel
theorem dX7_isBetterThan_23 : decode cX7_isBetterThan 23 = .ok (.goto 4, 3) := by decide +kernel
theorem dX7_isBetterThan_26 : decode cX7_isBetterThan 26 = .ok (.iconst 0, 1) := by decide +kernel
theorem dX7_isBetterThan_27 : decode cX7_isBetterThan 27 = .ok (.ireturn, 1) := by decide +kernel
theorem dX7_isBetterThan_28 : decode cX7_isBetterThan 28 = .ok (.aload_n 1, 1) := by decide +kernel
theorem dX7_isBetterThan_29 : decode cX7_isBetterThan 29 = .ok (.aload_n 0, 1) := by decide +kernel
theorem dX7_isBetterThan_30 : decode cX7_isBetterThan 30 = .ok (.invokevirtual 20, 3) := by decide +kernel
theorem dX7_isBetterThan_33 : decode cX7_isBetterThan 33 = .ok (.ireturn, 1) := by decide +kernel
theorem dX7_isDeeperThan_0 : decode cX7_isDeeperThan 0 = .ok (.aload_n 0, 1) := by decide +kernel
theorem dX7_isDeeperThan_1 : decode cX7_isDeeperThan 1 = .ok (.getfield 13, 3) := by decide +kernel
theorem dX7_isDeeperThan_4 : decode cX7_isDeeperThan 4 = .ok (.aload_n 1, 1) := by decide +kernel
theorem dX7_isDeeperThan_5 : decode cX7_isDeeperThan 5 = .ok (.getfield 17, 3) := by decide +kernel
theorem dX7_isDeeperThan_8 : decode cX7_isDeeperThan 8 = .ok (.lmul, 1) := by decide +kernel
theorem dX7_isDeeperThan_9 : decode cX7_isDeeperThan 9 = .ok (.aload_n 1, 1) := by decide +kernel
theorem dX7_isDeeperThan_10 : decode cX7_isDeeperThan 10 = .ok (.getfield 13, 3) := by decide +kernel
theorem dX7_isDeeperThan_13 : decode cX7_isDeeperThan 13 = .ok (.aload_n 0, 1) := by decide +kernel
theorem dX7_isDeeperThan_14 : decode cX7_isDeeperThan 14 = .ok (.getfield 17, 3) := by decide +kernel
theorem dX7_isDeeperThan_17 : decode cX7_isDeeperThan 17 = .ok (.lmul, 1) := by decide +kernel
theorem dX7_isDeeperThan_18 : decode cX7_isDeeperThan 18 = .ok (.lcmp, 1) := by decide +kernel
theorem dX7_isDeeperThan_19 : decode cX7_isDeeperThan 19 = .ok (.ifCond .le 7, 3) := by decide +kernel
theorem dX7_isDeeperThan_22 : decode cX7_isDeeperThan 22 = .ok (.iconst 1, 1) := by decide +kernel
theorem dX7_isDeeperThan_23 : decode cX7_isDeeperThan 23 = .ok (.goto 4, 3) := by decide +kernel
theorem dX7_isDeeperThan_26 : decode cX7_isDeeperThan 26 = .ok (.iconst 0, 1) := by decide +kernel
theorem dX7_isDeeperThan_27 : decode cX7_isDeeperThan 27 = .ok (.ireturn, 1) := by decide +kernel
theorem dX7_isWithin_0 : decode cX7_isWithin 0 = .ok (.aload_n 0, 1) := by decide +kernel
theorem dX7_isWithin_1 : decode cX7_isWithin 1 = .ok (.getfield 7, 3) := by decide +kernel
theorem dX7_isWithin_4 : decode cX7_isWithin 4 = .ok (.ifCond .ne 22, 3) := by decide +kernel
theorem dX7_isWithin_7 : decode cX7_isWithin 7 = .ok (.aload_n 0, 1) := by decide +kernel
theorem dX7_isWithin_8 : decode cX7_isWithin 8 = .ok (.getfield 13, 3) := by decide +kernel
theorem dX7_isWithin_11 : decode cX7_isWithin 11 = .ok (.iload_n 1, 1) := by decide +kernel
theorem dX7_isWithin_12 : decode cX7_isWithin 12 = .ok (.i2l, 1) := by decide +kernel
theorem dX7_isWithin_13 : decode cX7_isWithin 13 = .ok (.aload_n 0, 1) := by decide +kernel
theorem dX7_isWithin_14 : decode cX7_isWithin 14 = .ok (.getfield 17, 3) := by decide +kernel
theorem dX7_isWithin_17 : decode cX7_isWithin 17 = .ok (.lmul, 1) := by decide +kernel
theorem dX7_isWithin_18 : decode cX7_isWithin 18 = .ok (.lcmp, 1) := by decide +kernel
theorem dX7_isWithin_19 : decode cX7_isWithin 19 = .ok (.ifCond .gt 7, 3) := by decide +kernel
theorem dX7_isWithin_22 : decode cX7_isWithin 22 = .ok (.iconst 1, 1) := by decide +kernel
theorem dX7_isWithin_23 : decode cX7_isWithin 23 = .ok (.goto 4, 3) := by decide +kernel
theorem dX7_isWithin_26 : decode cX7_isWithin 26 = .ok (.iconst 0, 1) := by decide +kernel
theorem dX7_isWithin_27 : decode cX7_isWithin 27 = .ok (.ireturn, 1) := by decide +kernel
theorem dX8_init_0 : decode cX8_init 0 = .ok (.aload_n 0, 1) := by decide +kernel
theorem dX8_init_1 : decode cX8_init 1 = .ok (.invokespecial 3, 3) := by decide +kernel
theorem dX8_init_4 : decode cX8_init 4 = .ok (.aload_n 0, 1) := by decide +kernel
theorem dX8_init_5 : decode cX8_init 5 = .ok (.iconst 0, 1) := by decide +kernel
theorem dX8_init_6 : decode cX8_init 6 = .ok (.putfield 9, 3) := by decide +kernel
theorem dX8_init_9 : decode cX8_init 9 = .ok (.aload_n 0, 1) := by decide +kernel
theorem dX8_init_10 : decode cX8_init 10 = .ok (.iconst 0, 1) := by decide +kernel
theorem dX8_init_11 : decode cX8_init 11 = .ok (.putfield 15, 3) := by decide +kernel
theorem dX8_init_14 : decode cX8_init 14 = .ok (.aload_n 0, 1) := by decide +kernel
theorem dX8_init_15 : decode cX8_init 15 = .ok (.bipush 20, 2) := by decide +kernel
theorem dX8_init_17 : decode cX8_init 17 = .ok (.newarray .int, 2) := by decide +kernel
theorem dX8_init_19 : decode cX8_init 19 = .ok (.putfield 19, 3) := by decide +kernel
theorem dX8_init_22 : decode cX8_init 22 = .ok (.aload_n 0, 1) := by decide +kernel
theorem dX8_init_23 : decode cX8_init 23 = .ok (.iconst (-1), 1) := by decide +kernel
theorem dX8_init_24 : decode cX8_init 24 = .ok (.putfield 23, 3) := by decide +kernel
theorem dX8_init_27 : decode cX8_init 27 = .ok (.aload_n 0, 1) := by decide +kernel
theorem dX8_init_28 : decode cX8_init 28 = .ok (.iconst 3, 1) := by decide +kernel
theorem dX8_init_29 : decode cX8_init 29 = .ok (.newarray .int, 2) := by decide +kernel
theorem dX8_init_31 : decode cX8_init 31 = .ok (.putfield 26, 3) := by decide +kernel
theorem dX8_init_34 : decode cX8_init 34 = .ok (.aload_n 0, 1) := by decide +kernel
theorem dX8_init_35 : decode cX8_init 35 = .ok (.iconst (-1), 1) := by decide +kernel
theorem dX8_init_36 : decode cX8_init 36 = .ok (.putfield 29, 3) := by decide +kernel
theorem dX8_init_39 : decode cX8_init 39 = .ok (.aload_n 0, 1) := by decide +kernel
theorem dX8_init_40 : decode cX8_init 40 = .ok (.bipush 12, 2) := by decide +kernel
theorem dX8_init_42 : decode cX8_init 42 = .ok (.newarray .int, 2) := by decide +kernel
theorem dX8_init_44 : decode cX8_init 44 = .ok (.putfield 32, 3) := by decide +kernel
theorem dX8_init_47 : decode cX8_init 47 = .ok (.aload_n 0, 1) := by decide +kernel
theorem dX8_init_48 : decode cX8_init 48 = .ok (.iconst 0, 1) := by decide +kernel
theorem dX8_init_49 : decode cX8_init 49 = .ok (.putfield 35, 3) := by decide +kernel
theorem dX8_init_52 : decode cX8_init 52 = .ok (.aload_n 0, 1) := by decide +kernel
theorem dX8_init_53 : decode cX8_init 53 = .ok (.iconst 0, 1) := by decide +kernel
theorem dX8_init_54 : decode cX8_init 54 = .ok (.putfield 38, 3) := by decide +kernel
theorem dX8_init_57 : decode cX8_init 57 = .ok (.aload_n 0, 1) := by decide +kernel
theorem dX8_init_58 : decode cX8_init 58 = .ok (.iconst 0, 1) := by decide +kernel
theorem dX8_init_59 : decode cX8_init 59 = .ok (.putfield 41, 3) := by decide +kernel
theorem dX8_init_62 : decode cX8_init 62 = .ok (.aload_n 0, 1) := by decide +kernel
theorem dX8_init_63 : decode cX8_init 63 = .ok (.bipush 12, 2) := by decide +kernel
theorem dX8_init_65 : decode cX8_init 65 = .ok (.newarray .int, 2) := by decide +kernel
theorem dX8_init_67 : decode cX8_init 67 = .ok (.putfield 44, 3) := by decide +kernel
theorem dX8_init_70 : decode cX8_init 70 = .ok (.aload_n 0, 1) := by decide +kernel
theorem dX8_init_71 : decode cX8_init 71 = .ok (.new 47, 3) := by decide +kernel
theorem dX8_init_74 : decode cX8_init 74 = .ok (.dup, 1) := by decide +kernel
theorem dX8_init_75 : decode cX8_init 75 = .ok (.invokespecial 49, 3) := by decide +kernel
theorem dX8_init_78 : decode cX8_init 78 = .ok (.putfield 50, 3) := by decide +kernel
theorem dX8_init_81 : decode cX8_init 81 = .ok (.aload_n 0, 1) := by decide +kernel
theorem dX8_init_82 : decode cX8_init 82 = .ok (.new 47, 3) := by decide +kernel
theorem dX8_init_85 : decode cX8_init 85 = .ok (.dup, 1) := by decide +kernel
theorem dX8_init_86 : decode cX8_init 86 = .ok (.invokespecial 49, 3) := by decide +kernel
theorem dX8_init_89 : decode cX8_init 89 = .ok (.putfield 54, 3) := by decide +kernel
theorem dX8_init_92 : decode cX8_init 92 = .ok (.aload_n 0, 1) := by decide +kernel
theorem dX8_init_93 : decode cX8_init 93 = .ok (.new 57, 3) := by decide +kernel
theorem dX8_init_96 : decode cX8_init 96 = .ok (.dup, 1) := by decide +kernel
theorem dX8_init_97 : decode cX8_init 97 = .ok (.invokespecial 59, 3) := by decide +kernel
theorem dX8_init_100 : decode cX8_init 100 = .ok (.putfield 60, 3) := by decide +kernel
theorem dX8_init_103 : decode cX8_init 103 = .ok (.return_, 1) := by decide +kernel
theorem dX8_forgetAll_0 : decode cX8_forgetAll 0 = .ok (.aload_n 0, 1) := by decide +kernel
theorem dX8_forgetAll_1 : decode cX8_forgetAll 1 = .ok (.iconst 0, 1) := by decide +kernel
theorem dX8_forgetAll_2 : decode cX8_forgetAll 2 = .ok (.putfield 35, 3) := by decide +kernel
theorem dX8_forgetAll_5 : decode cX8_forgetAll 5 = .ok (.aload_n 0, 1) := by decide +kernel
theorem dX8_forgetAll_6 : decode cX8_forgetAll 6 = .ok (.iconst 0, 1) := by decide +kernel
theorem dX8_forgetAll_7 : decode cX8_forgetAll 7 = .ok (.putfield 38, 3) := by decide +kernel
theorem dX8_forgetAll_10 : decode cX8_forgetAll 10 = .ok (.aload_n 0, 1) := by decide +kernel
theorem dX8_forgetAll_11 : decode cX8_forgetAll 11 = .ok (.iconst 0, 1) := by decide +kernel
theorem dX8_forgetAll_12 : decode cX8_forgetAll 12 = .ok (.putfield 41, 3) := by decide +kernel
theorem dX8_forgetAll_15 : decode cX8_forgetAll 15 = .ok (.return_, 1) := by decide +kernel
theorem dX8_lookGreedy_0 : decode cX8_lookGreedy 0 = .ok (.aload_n 0, 1) := by decide +kernel
theorem dX8_lookGreedy_1 : decode cX8_lookGreedy 1 = .ok (.getfield 35, 3) := by decide +kernel
theorem dX8_lookGreedy_4 : decode cX8_lookGreedy 4 = .ok (.ifCond .eq 4, 3) := by decide +kernel
theorem dX8_lookGreedy_7 : decode cX8_lookGreedy 7 = .ok (.return_, 1) := by decide +kernel
theorem dX8_lookGreedy_8 : decode cX8_lookGreedy 8 = .ok (.aload_n 0, 1) := by decide +kernel
theorem dX8_lookGreedy_9 : decode cX8_lookGreedy 9 = .ok (.iconst 1, 1) := by decide +kernel
theorem dX8_lookGreedy_10 : decode cX8_lookGreedy 10 = .ok (.putfield 35, 3) := by decide +kernel
theorem dX8_lookGreedy_13 : decode cX8_lookGreedy 13 = .ok (.aload_n 0, 1) := by decide +kernel
theorem dX8_lookGreedy_14 : decode cX8_lookGreedy 14 = .ok (.iconst 0, 1) := by decide +kernel
theorem dX8_lookGreedy_15 : decode cX8_lookGreedy 15 = .ok (.putfield 9, 3) := by decide +kernel
theorem dX8_lookGreedy_18 : decode cX8_lookGreedy 18 = .ok (.aload_n 0, 1) := by decide +kernel
theorem dX8_lookGreedy_19 : decode cX8_lookGreedy 19 = .ok (.aload_n 1, 1) := by decide +kernel
theorem dX8_lookGreedy_20 : decode cX8_lookGreedy 20 = .ok (.invokevirtual 64, 3) := by decide +kernel
theorem dX8_lookGreedy_23 : decode cX8_lookGreedy 23 = .ok (.aload_n 0, 1) := by decide +kernel
theorem dX8_lookGreedy_24 : decode cX8_lookGreedy 24 = .ok (.getfield 54, 3) := by decide +kernel
theorem dX8_lookGreedy_27 : decode cX8_lookGreedy 27 = .ok (.aload_n 0, 1) := by decide +kernel
theorem dX8_lookGreedy_28 : decode cX8_lookGreedy 28 = .ok (.getfield 60, 3) := by decide +kernel
theorem dX8_lookGreedy_31 : decode cX8_lookGreedy 31 = .ok (.getfield 68, 3) := by decide +kernel
theorem dX8_lookGreedy_34 : decode cX8_lookGreedy 34 = .ok (.invokevirtual 71, 3) := by decide +kernel
theorem dX8_lookGreedy_37 : decode cX8_lookGreedy 37 = .ok (.iconst 0, 1) := by decide +kernel
theorem dX8_lookGreedy_38 : decode cX8_lookGreedy 38 = .ok (.istore_n 2, 1) := by decide +kernel
theorem dX8_lookGreedy_39 : decode cX8_lookGreedy 39 = .ok (.iload_n 2, 1) := by decide +kernel
theorem dX8_lookGreedy_40 : decode cX8_lookGreedy 40 = .ok (.bipush 20, 2) := by decide +kernel
theorem dX8_lookGreedy_42 : decode cX8_lookGreedy 42 = .ok (.if_icmp .ge 93, 3) := by decide +kernel
theorem dX8_lookGreedy_45 : decode cX8_lookGreedy 45 = .ok (.aload_n 0, 1) := by decide +kernel
theorem dX8_lookGreedy_46 : decode cX8_lookGreedy 46 = .ok (.getfield 54, 3) := by decide +kernel
theorem dX8_lookGreedy_49 : decode cX8_lookGreedy 49 = .ok (.aload_n 1, 1) := by decide +kernel
theorem dX8_lookGreedy_50 : decode cX8_lookGreedy 50 = .ok (.getfield 75, 3) := by decide +kernel
theorem dX8_lookGreedy_53 : decode cX8_lookGreedy 53 = .ok (.invokevirtual 80, 3) := by decide +kernel
theorem dX8_lookGreedy_56 : decode cX8_lookGreedy 56 = .ok (.ifCond .ne 79, 3) := by decide +kernel
theorem dX8_lookGreedy_59 : decode cX8_lookGreedy 59 = .ok (.aload_n 0, 1) := by decide +kernel
theorem dX8_lookGreedy_60 : decode cX8_lookGreedy 60 = .ok (.aload_n 1, 1) := by decide +kernel
theorem dX8_lookGreedy_61 : decode cX8_lookGreedy 61 = .ok (.iconst 1, 1) := by decide +kernel
theorem dX8_lookGreedy_62 : decode cX8_lookGreedy 62 = .ok (.invokevirtual 84, 3) := by decide +kernel
theorem dX8_lookGreedy_65 : decode cX8_lookGreedy 65 = .ok (.istore_n 3, 1) := by decide +kernel
theorem dX8_lookGreedy_66 : decode cX8_lookGreedy 66 = .ok (.iload_n 3, 1) := by decide +kernel
theorem dX8_lookGreedy_67 : decode cX8_lookGreedy 67 = .ok (.iconst (-1), 1) := by decide +kernel
theorem dX8_lookGreedy_68 : decode cX8_lookGreedy 68 = .ok (.if_icmp .eq 67, 3) := by decide +kernel
theorem dX8_lookGreedy_71 : decode cX8_lookGreedy 71 = .ok (.aload_n 0, 1) := by decide +kernel
theorem dX8_lookGreedy_72 : decode cX8_lookGreedy 72 = .ok (.getfield 50, 3) := by decide +kernel
theorem dX8_lookGreedy_75 : decode cX8_lookGreedy 75 = .ok (.aload_n 0, 1) := by decide +kernel
theorem dX8_lookGreedy_76 : decode cX8_lookGreedy 76 = .ok (.getfield 54, 3) := by decide +kernel
theorem dX8_lookGreedy_79 : decode cX8_lookGreedy 79 = .ok (.invokevirtual 88, 3) := by decide +kernel
theorem dX8_lookGreedy_82 : decode cX8_lookGreedy 82 = .ok (.ifCond .ne 6, 3) := by decide +kernel
theorem dX8_lookGreedy_85 : decode cX8_lookGreedy 85 = .ok (.goto 50, 3) := by decide +kernel
theorem dX8_lookGreedy_88 : decode cX8_lookGreedy 88 = .ok (.aload_n 0, 1) := by decide +kernel
theorem dX8_lookGreedy_89 : decode cX8_lookGreedy 89 = .ok (.getfield 44, 3) := by decide +kernel
theorem dX8_lookGreedy_92 : decode cX8_lookGreedy 92 = .ok (.iload_n 3, 1) := by decide +kernel
theorem dX8_lookGreedy_93 : decode cX8_lookGreedy 93 = .ok (.dup2, 1) := by decide +kernel
theorem dX8_lookGreedy_94 : decode cX8_lookGreedy 94 = .ok (.iaload, 1) := by decide +kernel
theorem dX8_lookGreedy_95 : decode cX8_lookGreedy 95 = .ok (.iconst 1, 1) := by decide +kernel
theorem dX8_lookGreedy_96 : decode cX8_lookGreedy 96 = .ok (.iadd, 1) := by decide +kernel
theorem dX8_lookGreedy_97 : decode cX8_lookGreedy 97 = .ok (.iastore, 1) := by decide +kernel
theorem dX8_lookGreedy_98 : decode cX8_lookGreedy 98 = .ok (.aload_n 0, 1) := by decide +kernel
theorem dX8_lookGreedy_99 : decode cX8_lookGreedy 99 = .ok (.getfield 54, 3) := by decide +kernel
theorem dX8_lookGreedy_102 : decode cX8_lookGreedy 102 = .ok (.aload_n 0, 1) := by decide +kernel
theorem dX8_lookGreedy_103 : decode cX8_lookGreedy 103 = .ok (.getfield 50, 3) := by decide +kernel
theorem dX8_lookGreedy_106 : decode cX8_lookGreedy 106 = .ok (.invokevirtual 71, 3) := by decide +kernel
theorem dX8_lookGreedy_109 : decode cX8_lookGreedy 109 = .ok (.aload_n 0, 1) := by decide +kernel
theorem dX8_lookGreedy_110 : decode cX8_lookGreedy 110 = .ok (.getfield 19, 3) := by decide +kernel
theorem dX8_lookGreedy_113 : decode cX8_lookGreedy 113 = .ok (.aload_n 0, 1) := by decide +kernel
theorem dX8_lookGreedy_114 : decode cX8_lookGreedy 114 = .ok (.getfield 9, 3) := by decide +kernel
theorem dX8_lookGreedy_117 : decode cX8_lookGreedy 117 = .ok (.iload_n 3, 1) := by decide +kernel
theorem dX8_lookGreedy_118 : decode cX8_lookGreedy 118 = .ok (.iastore, 1) := by decide +kernel
theorem dX8_lookGreedy_119 : decode cX8_lookGreedy 119 = .ok (.aload_n 0, 1) := by decide +kernel
theorem dX8_lookGreedy_120 : decode cX8_lookGreedy 120 = .ok (.dup, 1) := by decide +kernel
theorem dX8_lookGreedy_121 : decode cX8_lookGreedy 121 = .ok (.getfield 9, 3) := by decide +kernel
theorem dX8_lookGreedy_124 : decode cX8_lookGreedy 124 = .ok (.iconst 1, 1) := by decide +kernel
theorem dX8_lookGreedy_125 : decode cX8_lookGreedy 125 = .ok (.iadd, 1) := by decide +kernel
theorem dX8_lookGreedy_126 : decode cX8_lookGreedy 126 = .ok (.putfield 9, 3) := by decide +kernel
theorem dX8_lookGreedy_129 : decode cX8_lookGreedy 129 = .ok (.iinc 2 1, 3) := by decide +kernel
theorem dX8_lookGreedy_132 : decode cX8_lookGreedy 132 = .ok (.goto (-93), 3) := by decide +kernel
theorem dX8_lookGreedy_135 : decode cX8_lookGreedy 135 = .ok (.aload_n 0, 1) := by decide +kernel
theorem dX8_lookGreedy_136 : decode cX8_lookGreedy 136 = .ok (.aload_n 0, 1) := by decide +kernel
theorem dX8_lookGreedy_137 : decode cX8_lookGreedy 137 = .ok (.getfield 54, 3) := by decide +kernel
theorem dX8_lookGreedy_140 : decode cX8_lookGreedy 140 = .ok (.aload_n 1, 1) := by decide +kernel
theorem dX8_lookGreedy_141 : decode cX8_lookGreedy 141 = .ok (.getfield 75, 3) := by decide +kernel
theorem dX8_lookGreedy_144 : decode cX8_lookGreedy 144 = .ok (.invokevirtual 80, 3) := by decide +kernel
theorem dX8_lookGreedy_147 : decode cX8_lookGreedy 147 = .ok (.putfield 15, 3) := by decide +kernel
theorem dX8_lookGreedy_150 : decode cX8_lookGreedy 150 = .ok (.return_, 1) := by decide +kernel
theorem dX8_lookSlim_0 : decode cX8_lookSlim 0 = .ok (.aload_n 0, 1) := by decide +kernel
theorem dX8_lookSlim_1 : decode cX8_lookSlim 1 = .ok (.getfield 41, 3) := by decide +kernel
theorem dX8_lookSlim_4 : decode cX8_lookSlim 4 = .ok (.ifCond .eq 4, 3) := by decide +kernel
theorem dX8_lookSlim_7 : decode cX8_lookSlim 7 = .ok (.return_, 1) := by decide +kernel
theorem dX8_lookSlim_8 : decode cX8_lookSlim 8 = .ok (.aload_n 0, 1) := by decide +kernel
theorem dX8_lookSlim_9 : decode cX8_lookSlim 9 = .ok (.iconst 1, 1) := by decide +kernel
theorem dX8_lookSlim_10 : decode cX8_lookSlim 10 = .ok (.putfield 41, 3) := by decide +kernel
theorem dX8_lookSlim_13 : decode cX8_lookSlim 13 = .ok (.aload_n 0, 1) := by decide +kernel
theorem dX8_lookSlim_14 : decode cX8_lookSlim 14 = .ok (.aload_n 1, 1) := by decide +kernel
theorem dX8_lookSlim_15 : decode cX8_lookSlim 15 = .ok (.invokevirtual 64, 3) := by decide +kernel
theorem dX8_lookSlim_18 : decode cX8_lookSlim 18 = .ok (.aload_n 0, 1) := by decide +kernel
theorem dX8_lookSlim_19 : decode cX8_lookSlim 19 = .ok (.iconst (-1), 1) := by decide +kernel
theorem dX8_lookSlim_20 : decode cX8_lookSlim 20 = .ok (.putfield 29, 3) := by decide +kernel
theorem dX8_lookSlim_23 : decode cX8_lookSlim 23 = .ok (.aload_n 0, 1) := by decide +kernel
theorem dX8_lookSlim_24 : decode cX8_lookSlim 24 = .ok (.getfield 60, 3) := by decide +kernel
theorem dX8_lookSlim_27 : decode cX8_lookSlim 27 = .ok (.getfield 68, 3) := by decide +kernel
theorem dX8_lookSlim_30 : decode cX8_lookSlim 30 = .ok (.aload_n 1, 1) := by decide +kernel
theorem dX8_lookSlim_31 : decode cX8_lookSlim 31 = .ok (.getfield 75, 3) := by decide +kernel
theorem dX8_lookSlim_34 : decode cX8_lookSlim 34 = .ok (.invokevirtual 80, 3) := by decide +kernel
theorem dX8_lookSlim_37 : decode cX8_lookSlim 37 = .ok (.ifCond .ne 4, 3) := by decide +kernel
theorem dX8_lookSlim_40 : decode cX8_lookSlim 40 = .ok (.return_, 1) := by decide +kernel
theorem dX8_lookSlim_41 : decode cX8_lookSlim 41 = .ok (.aload_n 0, 1) := by decide +kernel
theorem dX8_lookSlim_42 : decode cX8_lookSlim 42 = .ok (.iconst 0, 1) := by decide +kernel
theorem dX8_lookSlim_43 : decode cX8_lookSlim 43 = .ok (.putfield 29, 3) := by decide +kernel
theorem dX8_lookSlim_46 : decode cX8_lookSlim 46 = .ok (.iconst 0, 1) := by decide +kernel
theorem dX8_lookSlim_47 : decode cX8_lookSlim 47 = .ok (.istore_n 2, 1) := by decide +kernel
theorem dX8_lookSlim_48 : decode cX8_lookSlim 48 = .ok (.iload_n 2, 1) := by decide +kernel
theorem dX8_lookSlim_49 : decode cX8_lookSlim 49 = .ok (.bipush 48, 2) := by decide +kernel
theorem dX8_lookSlim_51 : decode cX8_lookSlim 51 = .ok (.if_icmp .ge 58, 3) := by decide +kernel
theorem dX8_lookSlim_54 : decode cX8_lookSlim 54 = .ok (.aload_n 0, 1) := by decide +kernel
theorem dX8_lookSlim_55 : decode cX8_lookSlim 55 = .ok (.aload_n 1, 1) := by decide +kernel
theorem dX8_lookSlim_56 : decode cX8_lookSlim 56 = .ok (.iconst (-1), 1) := by decide +kernel
theorem dX8_lookSlim_57 : decode cX8_lookSlim 57 = .ok (.invokevirtual 84, 3) := by decide +kernel
theorem dX8_lookSlim_60 : decode cX8_lookSlim 60 = .ok (.istore_n 3, 1) := by decide +kernel
theorem dX8_lookSlim_61 : decode cX8_lookSlim 61 = .ok (.iload_n 3, 1) := by decide +kernel
theorem dX8_lookSlim_62 : decode cX8_lookSlim 62 = .ok (.iconst (-1), 1) := by decide +kernel
theorem dX8_lookSlim_63 : decode cX8_lookSlim 63 = .ok (.if_icmp .eq 46, 3) := by decide +kernel
theorem dX8_lookSlim_66 : decode cX8_lookSlim 66 = .ok (.aload_n 0, 1) := by decide +kernel
theorem dX8_lookSlim_67 : decode cX8_lookSlim 67 = .ok (.getfield 50, 3) := by decide +kernel
theorem dX8_lookSlim_70 : decode cX8_lookSlim 70 = .ok (.aload_n 1, 1) := by decide +kernel
theorem dX8_lookSlim_71 : decode cX8_lookSlim 71 = .ok (.getfield 75, 3) := by decide +kernel
theorem dX8_lookSlim_74 : decode cX8_lookSlim 74 = .ok (.invokevirtual 80, 3) := by decide +kernel
theorem dX8_lookSlim_77 : decode cX8_lookSlim 77 = .ok (.ifCond .ne 6, 3) := by decide +kernel
theorem dX8_lookSlim_80 : decode cX8_lookSlim 80 = .ok (.goto 29, 3) := by decide +kernel
theorem dX8_lookSlim_83 : decode cX8_lookSlim 83 = .ok (.aload_n 0, 1) := by decide +kernel
theorem dX8_lookSlim_84 : decode cX8_lookSlim 84 = .ok (.getfield 44, 3) := by decide +kernel
theorem dX8_lookSlim_87 : decode cX8_lookSlim 87 = .ok (.iload_n 3, 1) := by decide +kernel
theorem dX8_lookSlim_88 : decode cX8_lookSlim 88 = .ok (.dup2, 1) := by decide +kernel
theorem dX8_lookSlim_89 : decode cX8_lookSlim 89 = .ok (.iaload, 1) := by decide +kernel
theorem dX8_lookSlim_90 : decode cX8_lookSlim 90 = .ok (.iconst 1, 1) := by decide +kernel
theorem dX8_lookSlim_91 : decode cX8_lookSlim 91 = .ok (.isub, 1) := by decide +kernel
theorem dX8_lookSlim_92 : decode cX8_lookSlim 92 = .ok (.iastore, 1) := by decide +kernel
theorem dX8_lookSlim_93 : decode cX8_lookSlim 93 = .ok (.aload_n 0, 1) := by decide +kernel
theorem dX8_lookSlim_94 : decode cX8_lookSlim 94 = .ok (.dup, 1) := by decide +kernel
theorem dX8_lookSlim_95 : decode cX8_lookSlim 95 = .ok (.getfield 29, 3) := by decide +kernel
theorem dX8_lookSlim_98 : decode cX8_lookSlim 98 = .ok (.iconst 1, 1) := by decide +kernel
theorem dX8_lookSlim_99 : decode cX8_lookSlim 99 = .ok (.iadd, 1) := by decide +kernel
theorem dX8_lookSlim_100 : decode cX8_lookSlim 100 = .ok (.putfield 29, 3) := by decide +kernel
theorem dX8_lookSlim_103 : decode cX8_lookSlim 103 = .ok (.iinc 2 1, 3) := by decide +kernel
theorem dX8_lookSlim_106 : decode cX8_lookSlim 106 = .ok (.goto (-58), 3) := by decide +kernel
theorem dX8_lookSlim_109 : decode cX8_lookSlim 109 = .ok (.aload_n 0, 1) := by decide +kernel
theorem dX8_lookSlim_110 : decode cX8_lookSlim 110 = .ok (.getfield 44, 3) := by decide +kernel
theorem dX8_lookSlim_113 : decode cX8_lookSlim 113 = .ok (.iconst 0, 1) := by decide +kernel
theorem dX8_lookSlim_114 : decode cX8_lookSlim 114 = .ok (.aload_n 0, 1) := by decide +kernel
theorem dX8_lookSlim_115 : decode cX8_lookSlim 115 = .ok (.getfield 32, 3) := by decide +kernel
theorem dX8_lookSlim_118 : decode cX8_lookSlim 118 = .ok (.iconst 0, 1) := by decide +kernel
theorem dX8_lookSlim_119 : decode cX8_lookSlim 119 = .ok (.bipush 12, 2) := by decide +kernel
theorem dX8_lookSlim_121 : decode cX8_lookSlim 121 = .ok (.invokestatic 92, 3) := by decide +kernel
theorem dX8_lookSlim_124 : decode cX8_lookSlim 124 = .ok (.return_, 1) := by decide +kernel
theorem dX8_start_0 : decode cX8_start 0 = .ok (.aload_n 1, 1) := by decide +kernel
theorem dX8_start_1 : decode cX8_start 1 = .ok (.getfield 98, 3) := by decide +kernel
theorem dX8_start_4 : decode cX8_start 4 = .ok (.iconst 0, 1) := by decide +kernel
theorem dX8_start_5 : decode cX8_start 5 = .ok (.aload_n 0, 1) := by decide +kernel
theorem dX8_start_6 : decode cX8_start 6 = .ok (.getfield 44, 3) := by decide +kernel
theorem dX8_start_9 : decode cX8_start 9 = .ok (.iconst 0, 1) := by decide +kernel
theorem dX8_start_10 : decode cX8_start 10 = .ok (.bipush 12, 2) := by decide +kernel
theorem dX8_start_12 : decode cX8_start 12 = .ok (.invokestatic 92, 3) := by decide +kernel
theorem dX8_start_15 : decode cX8_start 15 = .ok (.aload_n 0, 1) := by decide +kernel
theorem dX8_start_16 : decode cX8_start 16 = .ok (.getfield 60, 3) := by decide +kernel
theorem dX8_start_19 : decode cX8_start 19 = .ok (.aload_n 1, 1) := by decide +kernel
theorem dX8_start_20 : decode cX8_start 20 = .ok (.aload_n 0, 1) := by decide +kernel
theorem dX8_start_21 : decode cX8_start 21 = .ok (.getfield 44, 3) := by decide +kernel
theorem dX8_start_24 : decode cX8_start 24 = .ok (.aload_n 1, 1) := by decide +kernel
theorem dX8_start_25 : decode cX8_start 25 = .ok (.getfield 99, 3) := by decide +kernel
theorem dX8_start_28 : decode cX8_start 28 = .ok (.aload_n 1, 1) := by decide +kernel
theorem dX8_start_29 : decode cX8_start 29 = .ok (.getfield 102, 3) := by decide +kernel
theorem dX8_start_32 : decode cX8_start 32 = .ok (.invokevirtual 105, 3) := by decide +kernel
theorem dX8_start_35 : decode cX8_start 35 = .ok (.return_, 1) := by decide +kernel
theorem dX8_bestChange_0 : decode cX8_bestChange 0 = .ok (.iconst (-1), 1) := by decide +kernel
theorem dX8_bestChange_1 : decode cX8_bestChange 1 = .ok (.istore_n 3, 1) := by decide +kernel
theorem dX8_bestChange_2 : decode cX8_bestChange 2 = .ok (.iconst 0, 1) := by decide +kernel
theorem dX8_bestChange_3 : decode cX8_bestChange 3 = .ok (.istore 4, 2) := by decide +kernel
theorem dX8_bestChange_5 : decode cX8_bestChange 5 = .ok (.iload 4, 2) := by decide +kernel
theorem dX8_bestChange_7 : decode cX8_bestChange 7 = .ok (.aload_n 1, 1) := by decide +kernel
theorem dX8_bestChange_8 : decode cX8_bestChange 8 = .ok (.getfield 109, 3) := by decide +kernel
theorem dX8_bestChange_11 : decode cX8_bestChange 11 = .ok (.if_icmp .ge 110, 3) := by decide +kernel
theorem dX8_bestChange_14 : decode cX8_bestChange 14 = .ok (.aload_n 0, 1) := by decide +kernel
theorem dX8_bestChange_15 : decode cX8_bestChange 15 = .ok (.getfield 44, 3) := by decide +kernel
theorem dX8_bestChange_18 : decode cX8_bestChange 18 = .ok (.iload 4, 2) := by decide +kernel
theorem dX8_bestChange_20 : decode cX8_bestChange 20 = .ok (.iaload, 1) := by decide +kernel
theorem dX8_bestChange_21 : decode cX8_bestChange 21 = .ok (.iload_n 2, 1) := by decide +kernel
theorem dX8_bestChange_22 : decode cX8_bestChange 22 = .ok (.iadd, 1) := by decide +kernel
theorem dX8_bestChange_23 : decode cX8_bestChange 23 = .ok (.istore 5, 2) := by decide +kernel
theorem dX8_bestChange_25 : decode cX8_bestChange 25 = .ok (.iload 5, 2) := by decide +kernel
theorem dX8_bestChange_27 : decode cX8_bestChange 27 = .ok (.ifCond .lt 88, 3) := by decide +kernel
theorem dX8_bestChange_30 : decode cX8_bestChange 30 = .ok (.iload 5, 2) := by decide +kernel
theorem dX8_bestChange_32 : decode cX8_bestChange 32 = .ok (.iconst 4, 1) := by decide +kernel
theorem dX8_bestChange_33 : decode cX8_bestChange 33 = .ok (.if_icmp .gt 82, 3) := by decide +kernel
theorem dX8_bestChange_36 : decode cX8_bestChange 36 = .ok (.aload_n 0, 1) := by decide +kernel
theorem dX8_bestChange_37 : decode cX8_bestChange 37 = .ok (.getfield 44, 3) := by decide +kernel
theorem dX8_bestChange_40 : decode cX8_bestChange 40 = .ok (.iload 4, 2) := by decide +kernel
theorem dX8_bestChange_42 : decode cX8_bestChange 42 = .ok (.iload 5, 2) := by decide +kernel
theorem dX8_bestChange_44 : decode cX8_bestChange 44 = .ok (.iastore, 1) := by decide +kernel
theorem dX8_bestChange_45 : decode cX8_bestChange 45 = .ok (.aload_n 0, 1) := by decide +kernel
theorem dX8_bestChange_46 : decode cX8_bestChange 46 = .ok (.getfield 60, 3) := by decide +kernel
theorem dX8_bestChange_49 : decode cX8_bestChange 49 = .ok (.aload_n 1, 1) := by decide +kernel
theorem dX8_bestChange_50 : decode cX8_bestChange 50 = .ok (.aload_n 0, 1) := by decide +kernel
theorem dX8_bestChange_51 : decode cX8_bestChange 51 = .ok (.getfield 44, 3) := by decide +kernel
theorem dX8_bestChange_54 : decode cX8_bestChange 54 = .ok (.aload_n 1, 1) := by decide +kernel
theorem dX8_bestChange_55 : decode cX8_bestChange 55 = .ok (.getfield 99, 3) := by decide +kernel
theorem dX8_bestChange_58 : decode cX8_bestChange 58 = .ok (.aload_n 1, 1) := by decide +kernel
theorem dX8_bestChange_59 : decode cX8_bestChange 59 = .ok (.getfield 102, 3) := by decide +kernel
theorem dX8_bestChange_62 : decode cX8_bestChange 62 = .ok (.invokevirtual 105, 3) := by decide +kernel
theorem dX8_bestChange_65 : decode cX8_bestChange 65 = .ok (.aload_n 0, 1) := by decide +kernel
theorem dX8_bestChange_66 : decode cX8_bestChange 66 = .ok (.getfield 44, 3) := by decide +kernel
theorem dX8_bestChange_69 : decode cX8_bestChange 69 = .ok (.iload 4, 2) := by decide +kernel
theorem dX8_bestChange_71 : decode cX8_bestChange 71 = .ok (.iload 5, 2) := by decide +kernel
theorem dX8_bestChange_73 : decode cX8_bestChange 73 = .ok (.iload_n 2, 1) := by decide +kernel
theorem dX8_bestChange_74 : decode cX8_bestChange 74 = .ok (.isub, 1) := by decide +kernel
theorem dX8_bestChange_75 : decode cX8_bestChange 75 = .ok (.iastore, 1) := by decide +kernel
theorem dX8_bestChange_76 : decode cX8_bestChange 76 = .ok (.iload_n 3, 1) := by decide +kernel
theorem dX8_bestChange_77 : decode cX8_bestChange 77 = .ok (.iconst (-1), 1) := by decide +kernel
theorem dX8_bestChange_78 : decode cX8_bestChange 78 = .ok (.if_icmp .eq 20, 3) := by decide +kernel
theorem dX8_bestChange_81 : decode cX8_bestChange 81 = .ok (.aload_n 0, 1) := by decide +kernel
theorem dX8_bestChange_82 : decode cX8_bestChange 82 = .ok (.getfield 60, 3) := by decide +kernel
theorem dX8_bestChange_85 : decode cX8_bestChange 85 = .ok (.getfield 68, 3) := by decide +kernel
theorem dX8_bestChange_88 : decode cX8_bestChange 88 = .ok (.aload_n 0, 1) := by decide +kernel
theorem dX8_bestChange_89 : decode cX8_bestChange 89 = .ok (.getfield 50, 3) := by decide +kernel
theorem dX8_bestChange_92 : decode cX8_bestChange 92 = .ok (.invokevirtual 88, 3) := by decide +kernel
theorem dX8_bestChange_95 : decode cX8_bestChange 95 = .ok (.ifCond .eq 20, 3) := by decide +kernel
theorem dX8_bestChange_98 : decode cX8_bestChange 98 = .ok (.iload 4, 2) := by decide +kernel
theorem dX8_bestChange_100 : decode cX8_bestChange 100 = .ok (.istore_n 3, 1) := by decide +kernel
theorem dX8_bestChange_101 : decode cX8_bestChange 101 = .ok (.aload_n 0, 1) := by decide +kernel
theorem dX8_bestChange_102 : decode cX8_bestChange 102 = .ok (.getfield 50, 3) := by decide +kernel
theorem dX8_bestChange_105 : decode cX8_bestChange 105 = .ok (.aload_n 0, 1) := by decide +kernel
theorem dX8_bestChange_106 : decode cX8_bestChange 106 = .ok (.getfield 60, 3) := by decide +kernel
theorem dX8_bestChange_109 : decode cX8_bestChange 109 = .ok (.getfield 68, 3) := by decide +kernel
theorem dX8_bestChange_112 : decode cX8_bestChange 112 = .ok (.invokevirtual 71, 3) := by decide +kernel
theorem dX8_bestChange_115 : decode cX8_bestChange 115 = .ok (.iinc 4 1, 3) := by decide +kernel
theorem dX8_bestChange_118 : decode cX8_bestChange 118 = .ok (.goto (-113), 3) := by decide +kernel
theorem dX8_bestChange_121 : decode cX8_bestChange 121 = .ok (.iload_n 3, 1) := by decide +kernel
theorem dX8_bestChange_122 : decode cX8_bestChange 122 = .ok (.ireturn, 1) := by decide +kernel
theorem dX8_lookLeast_0 : decode cX8_lookLeast 0 = .ok (.aload_n 0, 1) := by decide +kernel
theorem dX8_lookLeast_1 : decode cX8_lookLeast 1 = .ok (.getfield 38, 3) := by decide +kernel
theorem dX8_lookLeast_4 : decode cX8_lookLeast 4 = .ok (.ifCond .eq 4, 3) := by decide +kernel
theorem dX8_lookLeast_7 : decode cX8_lookLeast 7 = .ok (.return_, 1) := by decide +kernel
theorem dX8_lookLeast_8 : decode cX8_lookLeast 8 = .ok (.aload_n 0, 1) := by decide +kernel
theorem dX8_lookLeast_9 : decode cX8_lookLeast 9 = .ok (.iconst 1, 1) := by decide +kernel
theorem dX8_lookLeast_10 : decode cX8_lookLeast 10 = .ok (.putfield 38, 3) := by decide +kernel
theorem dX8_lookLeast_13 : decode cX8_lookLeast 13 = .ok (.aload_n 0, 1) := by decide +kernel
theorem dX8_lookLeast_14 : decode cX8_lookLeast 14 = .ok (.iconst (-1), 1) := by decide +kernel
theorem dX8_lookLeast_15 : decode cX8_lookLeast 15 = .ok (.putfield 23, 3) := by decide +kernel
theorem dX8_lookLeast_18 : decode cX8_lookLeast 18 = .ok (.iconst 0, 1) := by decide +kernel
theorem dX8_lookLeast_19 : decode cX8_lookLeast 19 = .ok (.istore_n 2, 1) := by decide +kernel
theorem dX8_lookLeast_20 : decode cX8_lookLeast 20 = .ok (.iload_n 2, 1) := by decide +kernel
theorem dX8_lookLeast_21 : decode cX8_lookLeast 21 = .ok (.iconst 3, 1) := by decide +kernel
theorem dX8_lookLeast_22 : decode cX8_lookLeast 22 = .ok (.if_icmp .gt 31, 3) := by decide +kernel
theorem dX8_lookLeast_25 : decode cX8_lookLeast 25 = .ok (.aload_n 0, 1) := by decide +kernel
theorem dX8_lookLeast_26 : decode cX8_lookLeast 26 = .ok (.getfield 23, 3) := by decide +kernel
theorem dX8_lookLeast_29 : decode cX8_lookLeast 29 = .ok (.iconst (-1), 1) := by decide +kernel
theorem dX8_lookLeast_30 : decode cX8_lookLeast 30 = .ok (.if_icmp .ne 23, 3) := by decide +kernel
theorem dX8_lookLeast_33 : decode cX8_lookLeast 33 = .ok (.aload_n 0, 1) := by decide +kernel
theorem dX8_lookLeast_34 : decode cX8_lookLeast 34 = .ok (.aload_n 1, 1) := by decide +kernel
theorem dX8_lookLeast_35 : decode cX8_lookLeast 35 = .ok (.iload_n 2, 1) := by decide +kernel
theorem dX8_lookLeast_36 : decode cX8_lookLeast 36 = .ok (.invokevirtual 112, 3) := by decide +kernel
theorem dX8_lookLeast_39 : decode cX8_lookLeast 39 = .ok (.ifCond .eq 8, 3) := by decide +kernel
theorem dX8_lookLeast_42 : decode cX8_lookLeast 42 = .ok (.aload_n 0, 1) := by decide +kernel
theorem dX8_lookLeast_43 : decode cX8_lookLeast 43 = .ok (.iload_n 2, 1) := by decide +kernel
theorem dX8_lookLeast_44 : decode cX8_lookLeast 44 = .ok (.putfield 23, 3) := by decide +kernel
theorem dX8_lookLeast_47 : decode cX8_lookLeast 47 = .ok (.iinc 2 1, 3) := by decide +kernel
theorem dX8_lookLeast_50 : decode cX8_lookLeast 50 = .ok (.goto (-30), 3) := by decide +kernel
theorem dX8_lookLeast_53 : decode cX8_lookLeast 53 = .ok (.return_, 1) := by decide +kernel
theorem dX8_findLeast_0 : decode cX8_findLeast 0 = .ok (.iload_n 2, 1) := by decide +kernel
theorem dX8_findLeast_1 : decode cX8_findLeast 1 = .ok (.ifCond .le 12, 3) := by decide +kernel
theorem dX8_findLeast_4 : decode cX8_findLeast 4 = .ok (.aload_n 1, 1) := by decide +kernel
theorem dX8_findLeast_5 : decode cX8_findLeast 5 = .ok (.getfield 109, 3) := by decide +kernel
theorem dX8_findLeast_8 : decode cX8_findLeast 8 = .ok (.ifCond .ne 5, 3) := by decide +kernel
theorem dX8_findLeast_11 : decode cX8_findLeast 11 = .ok (.iconst 0, 1) := by decide +kernel
theorem dX8_findLeast_12 : decode cX8_findLeast 12 = .ok (.ireturn, 1) := by decide +kernel
theorem dX8_findLeast_13 : decode cX8_findLeast 13 = .ok (.aload_n 0, 1) := by decide +kernel
theorem dX8_findLeast_14 : decode cX8_findLeast 14 = .ok (.getfield 26, 3) := by decide +kernel
theorem dX8_findLeast_17 : decode cX8_findLeast 17 = .ok (.iconst 0, 1) := by decide +kernel
theorem dX8_findLeast_18 : decode cX8_findLeast 18 = .ok (.invokestatic 116, 3) := by decide +kernel
theorem dX8_findLeast_21 : decode cX8_findLeast 21 = .ok (.iconst 0, 1) := by decide +kernel
theorem dX8_findLeast_22 : decode cX8_findLeast 22 = .ok (.istore_n 3, 1) := by decide +kernel
theorem dX8_findLeast_23 : decode cX8_findLeast 23 = .ok (.iload_n 3, 1) := by decide +kernel
theorem dX8_findLeast_24 : decode cX8_findLeast 24 = .ok (.sipush 400, 3) := by decide +kernel
theorem dX8_findLeast_27 : decode cX8_findLeast 27 = .ok (.if_icmp .ge 31, 3) := by decide +kernel
theorem dX8_findLeast_30 : decode cX8_findLeast 30 = .ok (.aload_n 0, 1) := by decide +kernel
theorem dX8_findLeast_31 : decode cX8_findLeast 31 = .ok (.aload_n 1, 1) := by decide +kernel
theorem dX8_findLeast_32 : decode cX8_findLeast 32 = .ok (.iload_n 2, 1) := by decide +kernel
theorem dX8_findLeast_33 : decode cX8_findLeast 33 = .ok (.invokevirtual 122, 3) := by decide +kernel
theorem dX8_findLeast_36 : decode cX8_findLeast 36 = .ok (.ifCond .eq 5, 3) := by decide +kernel
theorem dX8_findLeast_39 : decode cX8_findLeast 39 = .ok (.iconst 1, 1) := by decide +kernel
theorem dX8_findLeast_40 : decode cX8_findLeast 40 = .ok (.ireturn, 1) := by decide +kernel
theorem dX8_findLeast_41 : decode cX8_findLeast 41 = .ok (.aload_n 0, 1) := by decide +kernel
theorem dX8_findLeast_42 : decode cX8_findLeast 42 = .ok (.aload_n 1, 1) := by decide +kernel
theorem dX8_findLeast_43 : decode cX8_findLeast 43 = .ok (.iload_n 2, 1) := by decide +kernel
theorem dX8_findLeast_44 : decode cX8_findLeast 44 = .ok (.invokevirtual 125, 3) := by decide +kernel
theorem dX8_findLeast_47 : decode cX8_findLeast 47 = .ok (.ifCond .ne 5, 3) := by decide +kernel
theorem dX8_findLeast_50 : decode cX8_findLeast 50 = .ok (.iconst 0, 1) := by decide +kernel
theorem dX8_findLeast_51 : decode cX8_findLeast 51 = .ok (.ireturn, 1) := by decide +kernel
theorem dX8_findLeast_52 : decode cX8_findLeast 52 = .ok (.iinc 3 1, 3) := by decide +kernel
theorem dX8_findLeast_55 : decode cX8_findLeast 55 = .ok (.goto (-32), 3) := by decide +kernel
theorem dX8_findLeast_58 : decode cX8_findLeast 58 = .ok (.iconst 0, 1) := by decide +kernel
theorem dX8_findLeast_59 : decode cX8_findLeast 59 = .ok (.ireturn, 1) := by decide +kernel
theorem dX8_holdsWider_0 : decode cX8_holdsWider 0 = .ok (.aload_n 1, 1) := by decide +kernel
theorem dX8_holdsWider_1 : decode cX8_holdsWider 1 = .ok (.getfield 98, 3) := by decide +kernel
theorem dX8_holdsWider_4 : decode cX8_holdsWider 4 = .ok (.iconst 0, 1) := by decide +kernel
theorem dX8_holdsWider_5 : decode cX8_holdsWider 5 = .ok (.aload_n 0, 1) := by decide +kernel
theorem dX8_holdsWider_6 : decode cX8_holdsWider 6 = .ok (.getfield 44, 3) := by decide +kernel
theorem dX8_holdsWider_9 : decode cX8_holdsWider 9 = .ok (.iconst 0, 1) := by decide +kernel
theorem dX8_holdsWider_10 : decode cX8_holdsWider 10 = .ok (.bipush 12, 2) := by decide +kernel
theorem dX8_holdsWider_12 : decode cX8_holdsWider 12 = .ok (.invokestatic 92, 3) := by decide +kernel
theorem dX8_holdsWider_15 : decode cX8_holdsWider 15 = .ok (.iconst 0, 1) := by decide +kernel
theorem dX8_holdsWider_16 : decode cX8_holdsWider 16 = .ok (.istore_n 3, 1) := by decide +kernel
theorem dX8_holdsWider_17 : decode cX8_holdsWider 17 = .ok (.iload_n 3, 1) := by decide +kernel
theorem dX8_holdsWider_18 : decode cX8_holdsWider 18 = .ok (.iload_n 2, 1) := by decide +kernel
theorem dX8_holdsWider_19 : decode cX8_holdsWider 19 = .ok (.if_icmp .ge 41, 3) := by decide +kernel
theorem dX8_holdsWider_22 : decode cX8_holdsWider 22 = .ok (.aload_n 0, 1) := by decide +kernel
theorem dX8_holdsWider_23 : decode cX8_holdsWider 23 = .ok (.getfield 26, 3) := by decide +kernel
theorem dX8_holdsWider_26 : decode cX8_holdsWider 26 = .ok (.iload_n 3, 1) := by decide +kernel
theorem dX8_holdsWider_27 : decode cX8_holdsWider 27 = .ok (.iaload, 1) := by decide +kernel
theorem dX8_holdsWider_28 : decode cX8_holdsWider 28 = .ok (.istore 4, 2) := by decide +kernel
theorem dX8_holdsWider_30 : decode cX8_holdsWider 30 = .ok (.aload_n 0, 1) := by decide +kernel
theorem dX8_holdsWider_31 : decode cX8_holdsWider 31 = .ok (.getfield 44, 3) := by decide +kernel
theorem dX8_holdsWider_34 : decode cX8_holdsWider 34 = .ok (.iload 4, 2) := by decide +kernel
theorem dX8_holdsWider_36 : decode cX8_holdsWider 36 = .ok (.dup2, 1) := by decide +kernel
theorem dX8_holdsWider_37 : decode cX8_holdsWider 37 = .ok (.iaload, 1) := by decide +kernel
theorem dX8_holdsWider_38 : decode cX8_holdsWider 38 = .ok (.iconst 1, 1) := by decide +kernel
theorem dX8_holdsWider_39 : decode cX8_holdsWider 39 = .ok (.iadd, 1) := by decide +kernel
theorem dX8_holdsWider_40 : decode cX8_holdsWider 40 = .ok (.iastore, 1) := by decide +kernel
theorem dX8_holdsWider_41 : decode cX8_holdsWider 41 = .ok (.aload_n 0, 1) := by decide +kernel
theorem dX8_holdsWider_42 : decode cX8_holdsWider 42 = .ok (.getfield 44, 3) := by decide +kernel
theorem dX8_holdsWider_45 : decode cX8_holdsWider 45 = .ok (.iload 4, 2) := by decide +kernel
theorem dX8_holdsWider_47 : decode cX8_holdsWider 47 = .ok (.iaload, 1) := by decide +kernel
theorem dX8_holdsWider_48 : decode cX8_holdsWider 48 = .ok (.iconst 4, 1) := by decide +kernel
theorem dX8_holdsWider_49 : decode cX8_holdsWider 49 = .ok (.if_icmp .le 5, 3) := by decide +kernel
theorem dX8_holdsWider_52 : decode cX8_holdsWider 52 = .ok (.iconst 0, 1) := by decide +kernel
theorem dX8_holdsWider_53 : decode cX8_holdsWider 53 = .ok (.ireturn, 1) := by decide +kernel
theorem dX8_holdsWider_54 : decode cX8_holdsWider 54 = .ok (.iinc 3 1, 3) := by decide +kernel
theorem dX8_holdsWider_57 : decode cX8_holdsWider 57 = .ok (.goto (-40), 3) := by decide +kernel
theorem dX8_holdsWider_60 : decode cX8_holdsWider 60 = .ok (.aload_n 0, 1) := by decide +kernel
theorem dX8_holdsWider_61 : decode cX8_holdsWider 61 = .ok (.getfield 60, 3) := by decide +kernel
theorem dX8_holdsWider_64 : decode cX8_holdsWider 64 = .ok (.aload_n 1, 1) := by decide +kernel
theorem dX8_holdsWider_65 : decode cX8_holdsWider 65 = .ok (.aload_n 0, 1) := by decide +kernel
theorem dX8_holdsWider_66 : decode cX8_holdsWider 66 = .ok (.getfield 44, 3) := by decide +kernel
theorem dX8_holdsWider_69 : decode cX8_holdsWider 69 = .ok (.aload_n 1, 1) := by decide +kernel
theorem dX8_holdsWider_70 : decode cX8_holdsWider 70 = .ok (.getfield 99, 3) := by decide +kernel
theorem dX8_holdsWider_73 : decode cX8_holdsWider 73 = .ok (.aload_n 1, 1) := by decide +kernel
theorem dX8_holdsWider_74 : decode cX8_holdsWider 74 = .ok (.getfield 102, 3) := by decide +kernel
theorem dX8_holdsWider_77 : decode cX8_holdsWider 77 = .ok (.invokevirtual 105, 3) := by decide +kernel
theorem dX8_holdsWider_80 : decode cX8_holdsWider 80 = .ok (.aload_n 0, 1) := by decide +kernel
theorem dX8_holdsWider_81 : decode cX8_holdsWider 81 = .ok (.getfield 60, 3) := by decide +kernel
theorem dX8_holdsWider_84 : decode cX8_holdsWider 84 = .ok (.getfield 68, 3) := by decide +kernel
theorem dX8_holdsWider_87 : decode cX8_holdsWider 87 = .ok (.aload_n 1, 1) := by decide +kernel
theorem dX8_holdsWider_88 : decode cX8_holdsWider 88 = .ok (.getfield 75, 3) := by decide +kernel
theorem dX8_holdsWider_91 : decode cX8_holdsWider 91 = .ok (.invokevirtual 80, 3) := by decide +kernel
theorem dX8_holdsWider_94 : decode cX8_holdsWider 94 = .ok (.ireturn, 1) := by decide +kernel
theorem dX8_nextRising_0 : decode cX8_nextRising 0 = .ok (.iload_n 2, 1) := by decide +kernel
theorem dX8_nextRising_1 : decode cX8_nextRising 1 = .ok (.iconst 1, 1) := by decide +kernel
theorem dX8_nextRising_2 : decode cX8_nextRising 2 = .ok (.isub, 1) := by decide +kernel
theorem dX8_nextRising_3 : decode cX8_nextRising 3 = .ok (.istore_n 3, 1) := by decide +kernel
theorem dX8_nextRising_4 : decode cX8_nextRising 4 = .ok (.iload_n 3, 1) := by decide +kernel
theorem dX8_nextRising_5 : decode cX8_nextRising 5 = .ok (.ifCond .lt 60, 3) := by decide +kernel
theorem dX8_nextRising_8 : decode cX8_nextRising 8 = .ok (.aload_n 0, 1) := by decide +kernel
theorem dX8_nextRising_9 : decode cX8_nextRising 9 = .ok (.getfield 26, 3) := by decide +kernel
theorem dX8_nextRising_12 : decode cX8_nextRising 12 = .ok (.iload_n 3, 1) := by decide +kernel
theorem dX8_nextRising_13 : decode cX8_nextRising 13 = .ok (.iaload, 1) := by decide +kernel
theorem dX8_nextRising_14 : decode cX8_nextRising 14 = .ok (.iconst 1, 1) := by decide +kernel
theorem dX8_nextRising_15 : decode cX8_nextRising 15 = .ok (.iadd, 1) := by decide +kernel
theorem dX8_nextRising_16 : decode cX8_nextRising 16 = .ok (.aload_n 1, 1) := by decide +kernel
theorem dX8_nextRising_17 : decode cX8_nextRising 17 = .ok (.getfield 109, 3) := by decide +kernel
theorem dX8_nextRising_20 : decode cX8_nextRising 20 = .ok (.if_icmp .ge 39, 3) := by decide +kernel
theorem dX8_nextRising_23 : decode cX8_nextRising 23 = .ok (.aload_n 0, 1) := by decide +kernel
theorem dX8_nextRising_24 : decode cX8_nextRising 24 = .ok (.getfield 26, 3) := by decide +kernel
theorem dX8_nextRising_27 : decode cX8_nextRising 27 = .ok (.iload_n 3, 1) := by decide +kernel
theorem dX8_nextRising_28 : decode cX8_nextRising 28 = .ok (.iaload, 1) := by decide +kernel
theorem dX8_nextRising_29 : decode cX8_nextRising 29 = .ok (.iconst 1, 1) := by decide +kernel
theorem dX8_nextRising_30 : decode cX8_nextRising 30 = .ok (.iadd, 1) := by decide +kernel
theorem dX8_nextRising_31 : decode cX8_nextRising 31 = .ok (.istore 4, 2) := by decide +kernel
theorem dX8_nextRising_33 : decode cX8_nextRising 33 = .ok (.iload_n 3, 1) := by decide +kernel
theorem dX8_nextRising_34 : decode cX8_nextRising 34 = .ok (.istore 5, 2) := by decide +kernel
theorem dX8_nextRising_36 : decode cX8_nextRising 36 = .ok (.iload 5, 2) := by decide +kernel
theorem dX8_nextRising_38 : decode cX8_nextRising 38 = .ok (.iload_n 2, 1) := by decide +kernel
theorem dX8_nextRising_39 : decode cX8_nextRising 39 = .ok (.if_icmp .ge 18, 3) := by decide +kernel
theorem dX8_nextRising_42 : decode cX8_nextRising 42 = .ok (.aload_n 0, 1) := by decide +kernel
theorem dX8_nextRising_43 : decode cX8_nextRising 43 = .ok (.getfield 26, 3) := by decide +kernel
theorem dX8_nextRising_46 : decode cX8_nextRising 46 = .ok (.iload 5, 2) := by decide +kernel
theorem dX8_nextRising_48 : decode cX8_nextRising 48 = .ok (.iload 4, 2) := by decide +kernel
theorem dX8_nextRising_50 : decode cX8_nextRising 50 = .ok (.iastore, 1) := by decide +kernel
theorem dX8_nextRising_51 : decode cX8_nextRising 51 = .ok (.iinc 5 1, 3) := by decide +kernel
theorem dX8_nextRising_54 : decode cX8_nextRising 54 = .ok (.goto (-18), 3) := by decide +kernel
theorem dX8_nextRising_57 : decode cX8_nextRising 57 = .ok (.iconst 1, 1) := by decide +kernel
theorem dX8_nextRising_58 : decode cX8_nextRising 58 = .ok (.ireturn, 1) := by decide +kernel
theorem dX8_nextRising_59 : decode cX8_nextRising 59 = .ok (.iinc 3 (-1), 3) := by decide +kernel
theorem dX8_nextRising_62 : decode cX8_nextRising 62 = .ok (.goto (-58), 3) := by decide +kernel
theorem dX8_nextRising_65 : decode cX8_nextRising 65 = .ok (.iconst 0, 1) := by decide +kernel
theorem dX8_nextRising_66 : decode cX8_nextRising 66 = .ok (.ireturn, 1) := by decide +kernel
theorem dX9_init_0 : decode cX9_init 0 = .ok (.aload_n 0, 1) := by decide +kernel
theorem dX9_init_1 : decode cX9_init 1 = .ok (.invokespecial 3, 3) := by decide +kernel
theorem dX9_init_4 : decode cX9_init 4 = .ok (.aload_n 0, 1) := by decide +kernel
theorem dX9_init_5 : decode cX9_init 5 = .ok (.iconst 0, 1) := by decide +kernel
theorem dX9_init_6 : decode cX9_init 6 = .ok (.putfield 9, 3) := by decide +kernel
theorem dX9_init_9 : decode cX9_init 9 = .ok (.aload_n 0, 1) := by decide +kernel
theorem dX9_init_10 : decode cX9_init 10 = .ok (.iconst 0, 1) := by decide +kernel
theorem dX9_init_11 : decode cX9_init 11 = .ok (.putfield 15, 3) := by decide +kernel
theorem dX9_init_14 : decode cX9_init 14 = .ok (.aload_n 0, 1) := by decide +kernel
theorem dX9_init_15 : decode cX9_init 15 = .ok (.iconst (-1), 1) := by decide +kernel
theorem dX9_init_16 : decode cX9_init 16 = .ok (.putfield 19, 3) := by decide +kernel
theorem dX9_init_19 : decode cX9_init 19 = .ok (.aload_n 0, 1) := by decide +kernel
theorem dX9_init_20 : decode cX9_init 20 = .ok (.bipush 49, 2) := by decide +kernel
theorem dX9_init_22 : decode cX9_init 22 = .ok (.bipush 12, 2) := by decide +kernel
theorem dX9_init_24 : decode cX9_init 24 = .ok (.multianewarray 22 2, 4) := by decide +kernel
theorem dX9_init_28 : decode cX9_init 28 = .ok (.putfield 24, 3) := by decide +kernel
theorem dX9_init_31 : decode cX9_init 31 = .ok (.aload_n 0, 1) := by decide +kernel
theorem dX9_init_32 : decode cX9_init 32 = .ok (.new 27, 3) := by decide +kernel
theorem dX9_init_35 : decode cX9_init 35 = .ok (.dup, 1) := by decide +kernel
theorem dX9_init_36 : decode cX9_init 36 = .ok (.invokespecial 29, 3) := by decide +kernel
theorem dX9_init_39 : decode cX9_init 39 = .ok (.putfield 30, 3) := by decide +kernel
theorem dX9_init_42 : decode cX9_init 42 = .ok (.return_, 1) := by decide +kernel
theorem dX9_look_0 : decode cX9_look 0 = .ok (.aload_n 0, 1) := by decide +kernel
theorem dX9_look_1 : decode cX9_look 1 = .ok (.getfield 9, 3) := by decide +kernel
theorem dX9_look_4 : decode cX9_look 4 = .ok (.ifCond .eq 4, 3) := by decide +kernel
theorem dX9_look_7 : decode cX9_look 7 = .ok (.return_, 1) := by decide +kernel
theorem dX9_look_8 : decode cX9_look 8 = .ok (.aload_n 0, 1) := by decide +kernel
theorem dX9_look_9 : decode cX9_look 9 = .ok (.iconst 1, 1) := by decide +kernel
theorem dX9_look_10 : decode cX9_look 10 = .ok (.putfield 9, 3) := by decide +kernel
theorem dX9_look_13 : decode cX9_look 13 = .ok (.aload_n 0, 1) := by decide +kernel
theorem dX9_look_14 : decode cX9_look 14 = .ok (.iconst (-1), 1) := by decide +kernel
theorem dX9_look_15 : decode cX9_look 15 = .ok (.putfield 19, 3) := by decide +kernel
theorem dX9_look_18 : decode cX9_look 18 = .ok (.aload_n 1, 1) := by decide +kernel
theorem dX9_look_19 : decode cX9_look 19 = .ok (.getfield 34, 3) := by decide +kernel
theorem dX9_look_22 : decode cX9_look 22 = .ok (.iconst 0, 1) := by decide +kernel
theorem dX9_look_23 : decode cX9_look 23 = .ok (.aload_n 0, 1) := by decide +kernel
theorem dX9_look_24 : decode cX9_look 24 = .ok (.getfield 24, 3) := by decide +kernel
theorem dX9_look_27 : decode cX9_look 27 = .ok (.iconst 0, 1) := by decide +kernel
theorem dX9_look_28 : decode cX9_look 28 = .ok (.aaload, 1) := by decide +kernel
theorem dX9_look_29 : decode cX9_look 29 = .ok (.iconst 0, 1) := by decide +kernel
theorem dX9_look_30 : decode cX9_look 30 = .ok (.bipush 12, 2) := by decide +kernel
theorem dX9_look_32 : decode cX9_look 32 = .ok (.invokestatic 39, 3) := by decide +kernel
theorem dX9_look_35 : decode cX9_look 35 = .ok (.iconst 0, 1) := by decide +kernel
theorem dX9_look_36 : decode cX9_look 36 = .ok (.istore_n 2, 1) := by decide +kernel
theorem dX9_look_37 : decode cX9_look 37 = .ok (.iload_n 2, 1) := by decide +kernel
theorem dX9_look_38 : decode cX9_look 38 = .ok (.bipush 48, 2) := by decide +kernel
theorem dX9_look_40 : decode cX9_look 40 = .ok (.if_icmp .gt 127, 3) := by decide +kernel
theorem dX9_look_43 : decode cX9_look 43 = .ok (.aload_n 0, 1) := by decide +kernel
theorem dX9_look_44 : decode cX9_look 44 = .ok (.iload_n 2, 1) := by decide +kernel
theorem dX9_look_45 : decode cX9_look 45 = .ok (.putfield 15, 3) := by decide +kernel
theorem dX9_look_48 : decode cX9_look 48 = .ok (.aload_n 0, 1) := by decide +kernel
theorem dX9_look_49 : decode cX9_look 49 = .ok (.getfield 30, 3) := by decide +kernel
theorem dX9_look_52 : decode cX9_look 52 = .ok (.aload_n 1, 1) := by decide +kernel
theorem dX9_look_53 : decode cX9_look 53 = .ok (.aload_n 0, 1) := by decide +kernel
theorem dX9_look_54 : decode cX9_look 54 = .ok (.getfield 24, 3) := by decide +kernel
theorem dX9_look_57 : decode cX9_look 57 = .ok (.iload_n 2, 1) := by decide +kernel
theorem dX9_look_58 : decode cX9_look 58 = .ok (.aaload, 1) := by decide +kernel
theorem dX9_look_59 : decode cX9_look 59 = .ok (.aload_n 1, 1) := by decide +kernel
theorem dX9_look_60 : decode cX9_look 60 = .ok (.getfield 45, 3) := by decide +kernel
theorem dX9_look_63 : decode cX9_look 63 = .ok (.aload_n 1, 1) := by decide +kernel
theorem dX9_look_64 : decode cX9_look 64 = .ok (.getfield 48, 3) := by decide +kernel
theorem dX9_look_67 : decode cX9_look 67 = .ok (.invokevirtual 51, 3) := by decide +kernel
theorem dX9_look_70 : decode cX9_look 70 = .ok (.aload_n 0, 1) := by decide +kernel
theorem dX9_look_71 : decode cX9_look 71 = .ok (.getfield 19, 3) := by decide +kernel
theorem dX9_look_74 : decode cX9_look 74 = .ok (.iconst (-1), 1) := by decide +kernel
theorem dX9_look_75 : decode cX9_look 75 = .ok (.if_icmp .ne 25, 3) := by decide +kernel
theorem dX9_look_78 : decode cX9_look 78 = .ok (.aload_n 0, 1) := by decide +kernel
theorem dX9_look_79 : decode cX9_look 79 = .ok (.getfield 30, 3) := by decide +kernel
theorem dX9_look_82 : decode cX9_look 82 = .ok (.getfield 55, 3) := by decide +kernel
theorem dX9_look_85 : decode cX9_look 85 = .ok (.aload_n 1, 1) := by decide +kernel
theorem dX9_look_86 : decode cX9_look 86 = .ok (.getfield 59, 3) := by decide +kernel
theorem dX9_look_89 : decode cX9_look 89 = .ok (.invokevirtual 62, 3) := by decide +kernel
theorem dX9_look_92 : decode cX9_look 92 = .ok (.ifCond .ne 8, 3) := by decide +kernel
theorem dX9_look_95 : decode cX9_look 95 = .ok (.aload_n 0, 1) := by decide +kernel
theorem dX9_look_96 : decode cX9_look 96 = .ok (.iload_n 2, 1) := by decide +kernel
theorem dX9_look_97 : decode cX9_look 97 = .ok (.putfield 19, 3) := by decide +kernel
theorem dX9_look_100 : decode cX9_look 100 = .ok (.aload_n 0, 1) := by decide +kernel
theorem dX9_look_101 : decode cX9_look 101 = .ok (.getfield 30, 3) := by decide +kernel
theorem dX9_look_104 : decode cX9_look 104 = .ok (.aload_n 1, 1) := by decide +kernel
theorem dX9_look_105 : decode cX9_look 105 = .ok (.aload_n 0, 1) := by decide +kernel
theorem dX9_look_106 : decode cX9_look 106 = .ok (.getfield 24, 3) := by decide +kernel
theorem dX9_look_109 : decode cX9_look 109 = .ok (.iload_n 2, 1) := by decide +kernel
theorem dX9_look_110 : decode cX9_look 110 = .ok (.aaload, 1) := by decide +kernel
theorem dX9_look_111 : decode cX9_look 111 = .ok (.invokevirtual 68, 3) := by decide +kernel
theorem dX9_look_114 : decode cX9_look 114 = .ok (.istore_n 3, 1) := by decide +kernel
theorem dX9_look_115 : decode cX9_look 115 = .ok (.iload_n 3, 1) := by decide +kernel
theorem dX9_look_116 : decode cX9_look 116 = .ok (.ifCond .eq 9, 3) := by decide +kernel
theorem dX9_look_119 : decode cX9_look 119 = .ok (.iload_n 2, 1) := by decide +kernel
theorem dX9_look_120 : decode cX9_look 120 = .ok (.bipush 48, 2) := by decide +kernel
theorem dX9_look_122 : decode cX9_look 122 = .ok (.if_icmp .ne 4, 3) := by decide +kernel
theorem dX9_look_125 : decode cX9_look 125 = .ok (.return_, 1) := by decide +kernel
theorem dX9_look_126 : decode cX9_look 126 = .ok (.aload_n 0, 1) := by decide +kernel
theorem dX9_look_127 : decode cX9_look 127 = .ok (.getfield 24, 3) := by decide +kernel
theorem dX9_look_130 : decode cX9_look 130 = .ok (.iload_n 2, 1) := by decide +kernel
theorem dX9_look_131 : decode cX9_look 131 = .ok (.aaload, 1) := by decide +kernel
theorem dX9_look_132 : decode cX9_look 132 = .ok (.iconst 0, 1) := by decide +kernel
theorem dX9_look_133 : decode cX9_look 133 = .ok (.aload_n 0, 1) := by decide +kernel
theorem dX9_look_134 : decode cX9_look 134 = .ok (.getfield 24, 3) := by decide +kernel
theorem dX9_look_137 : decode cX9_look 137 = .ok (.iload_n 2, 1) := by decide +kernel
theorem dX9_look_138 : decode cX9_look 138 = .ok (.iconst 1, 1) := by decide +kernel
theorem dX9_look_139 : decode cX9_look 139 = .ok (.iadd, 1) := by decide +kernel
theorem dX9_look_140 : decode cX9_look 140 = .ok (.aaload, 1) := by decide +kernel
theorem dX9_look_141 : decode cX9_look 141 = .ok (.iconst 0, 1) := by decide +kernel
theorem dX9_look_142 : decode cX9_look 142 = .ok (.bipush 12, 2) := by decide +kernel
theorem dX9_look_144 : decode cX9_look 144 = .ok (.invokestatic 39, 3) := by decide +kernel
theorem dX9_look_147 : decode cX9_look 147 = .ok (.aload_n 1, 1) := by decide +kernel
theorem dX9_look_148 : decode cX9_look 148 = .ok (.aload_n 0, 1) := by decide +kernel
theorem dX9_look_149 : decode cX9_look 149 = .ok (.getfield 24, 3) := by decide +kernel
theorem dX9_look_152 : decode cX9_look 152 = .ok (.iload_n 2, 1) := by decide +kernel
theorem dX9_look_153 : decode cX9_look 153 = .ok (.iconst 1, 1) := by decide +kernel
theorem dX9_look_154 : decode cX9_look 154 = .ok (.iadd, 1) := by decide +kernel
theorem dX9_look_155 : decode cX9_look 155 = .ok (.aaload, 1) := by decide +kernel
theorem dX9_look_156 : decode cX9_look 156 = .ok (.iload_n 3, 1) := by decide +kernel
theorem dX9_look_157 : decode cX9_look 157 = .ok (.iconst (-1), 1) := by decide +kernel
theorem dX9_look_158 : decode cX9_look 158 = .ok (.invokevirtual 72, 3) := by decide +kernel
theorem dX9_look_161 : decode cX9_look 161 = .ok (.iinc 2 1, 3) := by decide +kernel
theorem dX9_look_164 : decode cX9_look 164 = .ok (.goto (-127), 3) := by decide +kernel
theorem dX9_look_167 : decode cX9_look 167 = .ok (.return_, 1) := by decide +kernel
theorem dX10_init_0 : decode cX10_init 0 = .ok (.aload_n 0, 1) := by decide +kernel
theorem dX10_init_1 : decode cX10_init 1 = .ok (.invokespecial 3, 3) := by decide +kernel
theorem dX10_init_4 : decode cX10_init 4 = .ok (.aload_n 0, 1) := by decide +kernel
theorem dX10_init_5 : decode cX10_init 5 = .ok (.new 9, 3) := by decide +kernel
theorem dX10_init_8 : decode cX10_init 8 = .ok (.dup, 1) := by decide +kernel
theorem dX10_init_9 : decode cX10_init 9 = .ok (.invokespecial 11, 3) := by decide +kernel
theorem dX10_init_12 : decode cX10_init 12 = .ok (.putfield 12, 3) := by decide +kernel
theorem dX10_init_15 : decode cX10_init 15 = .ok (.aload_n 0, 1) := by decide +kernel
theorem dX10_init_16 : decode cX10_init 16 = .ok (.new 16, 3) := by decide +kernel
theorem dX10_init_19 : decode cX10_init 19 = .ok (.dup, 1) := by decide +kernel
theorem dX10_init_20 : decode cX10_init 20 = .ok (.invokespecial 18, 3) := by decide +kernel
theorem dX10_init_23 : decode cX10_init 23 = .ok (.putfield 19, 3) := by decide +kernel
theorem dX10_init_26 : decode cX10_init 26 = .ok (.aload_n 0, 1) := by decide +kernel
theorem dX10_init_27 : decode cX10_init 27 = .ok (.iconst 3, 1) := by decide +kernel
theorem dX10_init_28 : decode cX10_init 28 = .ok (.anewarray 16, 3) := by decide +kernel
theorem dX10_init_31 : decode cX10_init 31 = .ok (.putfield 23, 3) := by decide +kernel
theorem dX10_init_34 : decode cX10_init 34 = .ok (.aload_n 0, 1) := by decide +kernel
theorem dX10_init_35 : decode cX10_init 35 = .ok (.iconst 3, 1) := by decide +kernel
theorem dX10_init_36 : decode cX10_init 36 = .ok (.newarray .boolean, 2) := by decide +kernel
theorem dX10_init_38 : decode cX10_init 38 = .ok (.putfield 27, 3) := by decide +kernel
theorem dX10_init_41 : decode cX10_init 41 = .ok (.aload_n 0, 1) := by decide +kernel
theorem dX10_init_42 : decode cX10_init 42 = .ok (.new 31, 3) := by decide +kernel
theorem dX10_init_45 : decode cX10_init 45 = .ok (.dup, 1) := by decide +kernel
theorem dX10_init_46 : decode cX10_init 46 = .ok (.invokespecial 33, 3) := by decide +kernel
theorem dX10_init_49 : decode cX10_init 49 = .ok (.putfield 34, 3) := by decide +kernel
theorem dX10_init_52 : decode cX10_init 52 = .ok (.aload_n 0, 1) := by decide +kernel
theorem dX10_init_53 : decode cX10_init 53 = .ok (.iconst 0, 1) := by decide +kernel
theorem dX10_init_54 : decode cX10_init 54 = .ok (.putfield 38, 3) := by decide +kernel
theorem dX10_init_57 : decode cX10_init 57 = .ok (.aload_n 0, 1) := by decide +kernel
theorem dX10_init_58 : decode cX10_init 58 = .ok (.new 31, 3) := by decide +kernel
theorem dX10_init_61 : decode cX10_init 61 = .ok (.dup, 1) := by decide +kernel
theorem dX10_init_62 : decode cX10_init 62 = .ok (.invokespecial 33, 3) := by decide +kernel
theorem dX10_init_65 : decode cX10_init 65 = .ok (.putfield 42, 3) := by decide +kernel
theorem dX10_init_68 : decode cX10_init 68 = .ok (.aload_n 0, 1) := by decide +kernel
theorem dX10_init_69 : decode cX10_init 69 = .ok (.new 45, 3) := by decide +kernel
theorem dX10_init_72 : decode cX10_init 72 = .ok (.dup, 1) := by decide +kernel
theorem dX10_init_73 : decode cX10_init 73 = .ok (.invokespecial 47, 3) := by decide +kernel
theorem dX10_init_76 : decode cX10_init 76 = .ok (.putfield 48, 3) := by decide +kernel
theorem dX10_init_79 : decode cX10_init 79 = .ok (.aload_n 0, 1) := by decide +kernel
theorem dX10_init_80 : decode cX10_init 80 = .ok (.new 52, 3) := by decide +kernel
theorem dX10_init_83 : decode cX10_init 83 = .ok (.dup, 1) := by decide +kernel
theorem dX10_init_84 : decode cX10_init 84 = .ok (.invokespecial 54, 3) := by decide +kernel
theorem dX10_init_87 : decode cX10_init 87 = .ok (.putfield 55, 3) := by decide +kernel
theorem dX10_init_90 : decode cX10_init 90 = .ok (.aload_n 0, 1) := by decide +kernel
theorem dX10_init_91 : decode cX10_init 91 = .ok (.new 59, 3) := by decide +kernel
theorem dX10_init_94 : decode cX10_init 94 = .ok (.dup, 1) := by decide +kernel
theorem dX10_init_95 : decode cX10_init 95 = .ok (.invokespecial 61, 3) := by decide +kernel
theorem dX10_init_98 : decode cX10_init 98 = .ok (.putfield 62, 3) := by decide +kernel
theorem dX10_init_101 : decode cX10_init 101 = .ok (.aload_n 0, 1) := by decide +kernel
theorem dX10_init_102 : decode cX10_init 102 = .ok (.new 66, 3) := by decide +kernel
theorem dX10_init_105 : decode cX10_init 105 = .ok (.dup, 1) := by decide +kernel
theorem dX10_init_106 : decode cX10_init 106 = .ok (.invokespecial 68, 3) := by decide +kernel
theorem dX10_init_109 : decode cX10_init 109 = .ok (.putfield 69, 3) := by decide +kernel
theorem dX10_init_112 : decode cX10_init 112 = .ok (.aload_n 0, 1) := by decide +kernel
theorem dX10_init_113 : decode cX10_init 113 = .ok (.new 73, 3) := by decide +kernel
theorem dX10_init_116 : decode cX10_init 116 = .ok (.dup, 1) := by decide +kernel
theorem dX10_init_117 : decode cX10_init 117 = .ok (.invokespecial 75, 3) := by decide +kernel
theorem dX10_init_120 : decode cX10_init 120 = .ok (.putfield 76, 3) := by decide +kernel
theorem dX10_init_123 : decode cX10_init 123 = .ok (.aload_n 0, 1) := by decide +kernel
theorem dX10_init_124 : decode cX10_init 124 = .ok (.new 80, 3) := by decide +kernel
theorem dX10_init_127 : decode cX10_init 127 = .ok (.dup, 1) := by decide +kernel
theorem dX10_init_128 : decode cX10_init 128 = .ok (.invokespecial 82, 3) := by decide +kernel
theorem dX10_init_131 : decode cX10_init 131 = .ok (.putfield 83, 3) := by decide +kernel
theorem dX10_init_134 : decode cX10_init 134 = .ok (.iconst 0, 1) := by decide +kernel
theorem dX10_init_135 : decode cX10_init 135 = .ok (.istore_n 1, 1) := by decide +kernel
theorem dX10_init_136 : decode cX10_init 136 = .ok (.iload_n 1, 1) := by decide +kernel
theorem dX10_init_137 : decode cX10_init 137 = .ok (.iconst 3, 1) := by decide +kernel
theorem dX10_init_138 : decode cX10_init 138 = .ok (.if_icmp .ge 22, 3) := by decide +kernel
theorem dX10_init_141 : decode cX10_init 141 = .ok (.aload_n 0, 1) := by decide +kernel
theorem dX10_init_142 : decode cX10_init 142 = .ok (.getfield 23, 3) := by decide +kernel
theorem dX10_init_145 : decode cX10_init 145 = .ok (.iload_n 1, 1) := by decide +kernel
theorem dX10_init_146 : decode cX10_init 146 = .ok (.new 16, 3) := by decide +kernel
theorem dX10_init_149 : decode cX10_init 149 = .ok (.dup, 1) := by decide +kernel
theorem dX10_init_150 : decode cX10_init 150 = .ok (.invokespecial 18, 3) := by decide +kernel
theorem dX10_init_153 : decode cX10_init 153 = .ok (.aastore, 1) := by decide +kernel
theorem dX10_init_154 : decode cX10_init 154 = .ok (.iinc 1 1, 3) := by decide +kernel
theorem dX10_init_157 : decode cX10_init 157 = .ok (.goto (-21), 3) := by decide +kernel
theorem dX10_init_160 : decode cX10_init 160 = .ok (.return_, 1) := by decide +kernel
theorem dX10_feed_0 : decode cX10_feed 0 = .ok (.aload_n 0, 1) := by decide +kernel
theorem dX10_feed_1 : decode cX10_feed 1 = .ok (.getfield 12, 3) := by decide +kernel
theorem dX10_feed_4 : decode cX10_feed 4 = .ok (.getfield 87, 3) := by decide +kernel
theorem dX10_feed_7 : decode cX10_feed 7 = .ok (.bipush 20, 2) := by decide +kernel
theorem dX10_feed_9 : decode cX10_feed 9 = .ok (.iadd, 1) := by decide +kernel
theorem dX10_feed_10 : decode cX10_feed 10 = .ok (.sipush 700, 3) := by decide +kernel
theorem dX10_feed_13 : decode cX10_feed 13 = .ok (.if_icmp .le 5, 3) := by decide +kernel
theorem dX10_feed_16 : decode cX10_feed 16 = .ok (.iconst (-1), 1) := by decide +kernel
theorem dX10_feed_17 : decode cX10_feed 17 = .ok (.ireturn, 1) := by decide +kernel
theorem dX10_feed_18 : decode cX10_feed 18 = .ok (.aload_n 0, 1) := by decide +kernel
theorem dX10_feed_19 : decode cX10_feed 19 = .ok (.getfield 12, 3) := by decide +kernel
theorem dX10_feed_22 : decode cX10_feed 22 = .ok (.iload_n 1, 1) := by decide +kernel
theorem dX10_feed_23 : decode cX10_feed 23 = .ok (.invokevirtual 91, 3) := by decide +kernel
theorem dX10_feed_26 : decode cX10_feed 26 = .ok (.aload_n 0, 1) := by decide +kernel
theorem dX10_feed_27 : decode cX10_feed 27 = .ok (.getfield 12, 3) := by decide +kernel
theorem dX10_feed_30 : decode cX10_feed 30 = .ok (.iload_n 2, 1) := by decide +kernel
theorem dX10_feed_31 : decode cX10_feed 31 = .ok (.invokevirtual 91, 3) := by decide +kernel
theorem dX10_feed_34 : decode cX10_feed 34 = .ok (.aload_n 0, 1) := by decide +kernel
theorem dX10_feed_35 : decode cX10_feed 35 = .ok (.getfield 12, 3) := by decide +kernel
theorem dX10_feed_38 : decode cX10_feed 38 = .ok (.iload_n 3, 1) := by decide +kernel
theorem dX10_feed_39 : decode cX10_feed 39 = .ok (.invokevirtual 91, 3) := by decide +kernel
theorem dX10_feed_42 : decode cX10_feed 42 = .ok (.aload_n 0, 1) := by decide +kernel
theorem dX10_feed_43 : decode cX10_feed 43 = .ok (.getfield 12, 3) := by decide +kernel
theorem dX10_feed_46 : decode cX10_feed 46 = .ok (.iload 4, 2) := by decide +kernel
theorem dX10_feed_48 : decode cX10_feed 48 = .ok (.invokevirtual 91, 3) := by decide +kernel
theorem dX10_feed_51 : decode cX10_feed 51 = .ok (.aload_n 0, 1) := by decide +kernel
theorem dX10_feed_52 : decode cX10_feed 52 = .ok (.getfield 12, 3) := by decide +kernel
theorem dX10_feed_55 : decode cX10_feed 55 = .ok (.iload 5, 2) := by decide +kernel
theorem dX10_feed_57 : decode cX10_feed 57 = .ok (.invokevirtual 91, 3) := by decide +kernel
theorem dX10_feed_60 : decode cX10_feed 60 = .ok (.aload_n 0, 1) := by decide +kernel
theorem dX10_feed_61 : decode cX10_feed 61 = .ok (.getfield 12, 3) := by decide +kernel
theorem dX10_feed_64 : decode cX10_feed 64 = .ok (.getfield 87, 3) := by decide +kernel
theorem dX10_feed_67 : decode cX10_feed 67 = .ok (.ireturn, 1) := by decide +kernel
theorem dX10_end_0 : decode cX10_end 0 = .ok (.iload_n 1, 1) := by decide +kernel
theorem dX10_end_1 : decode cX10_end 1 = .ok (.ifCond .lt 14, 3) := by decide +kernel
theorem dX10_end_4 : decode cX10_end 4 = .ok (.iload_n 1, 1) := by decide +kernel
theorem dX10_end_5 : decode cX10_end 5 = .ok (.aload_n 0, 1) := by decide +kernel
theorem dX10_end_6 : decode cX10_end 6 = .ok (.getfield 12, 3) := by decide +kernel
theorem dX10_end_9 : decode cX10_end 9 = .ok (.getfield 87, 3) := by decide +kernel
theorem dX10_end_12 : decode cX10_end 12 = .ok (.if_icmp .le 5, 3) := by decide +kernel
theorem dX10_end_15 : decode cX10_end 15 = .ok (.iconst (-1), 1) := by decide +kernel
theorem dX10_end_16 : decode cX10_end 16 = .ok (.ireturn, 1) := by decide +kernel
theorem dX10_end_17 : decode cX10_end 17 = .ok (.aload_n 0, 1) := by decide +kernel
theorem dX10_end_18 : decode cX10_end 18 = .ok (.getfield 12, 3) := by decide +kernel
theorem dX10_end_21 : decode cX10_end 21 = .ok (.iload_n 1, 1) := by decide +kernel
theorem dX10_end_22 : decode cX10_end 22 = .ok (.putfield 87, 3) := by decide +kernel
theorem dX10_end_25 : decode cX10_end 25 = .ok (.iload_n 1, 1) := by decide +kernel
theorem dX10_end_26 : decode cX10_end 26 = .ok (.ireturn, 1) := by decide +kernel
theorem dX10_grid_0 : decode cX10_grid 0 = .ok (.aload_n 0, 1) := by decide +kernel
theorem dX10_grid_1 : decode cX10_grid 1 = .ok (.getfield 12, 3) := by decide +kernel
theorem dX10_grid_4 : decode cX10_grid 4 = .ok (.invokevirtual 95, 3) := by decide +kernel
theorem dX10_grid_7 : decode cX10_grid 7 = .ok (.istore_n 1, 1) := by decide +kernel
theorem dX10_grid_8 : decode cX10_grid 8 = .ok (.aload_n 0, 1) := by decide +kernel
theorem dX10_grid_9 : decode cX10_grid 9 = .ok (.getfield 12, 3) := by decide +kernel
theorem dX10_grid_12 : decode cX10_grid 12 = .ok (.iconst 0, 1) := by decide +kernel
theorem dX10_grid_13 : decode cX10_grid 13 = .ok (.putfield 87, 3) := by decide +kernel
theorem dX10_grid_16 : decode cX10_grid 16 = .ok (.iload_n 1, 1) := by decide +kernel
theorem dX10_grid_17 : decode cX10_grid 17 = .ok (.ifCond .ne 6, 3) := by decide +kernel
theorem dX10_grid_20 : decode cX10_grid 20 = .ok (.bipush (-4), 2) := by decide +kernel
theorem dX10_grid_22 : decode cX10_grid 22 = .ok (.ireturn, 1) := by decide +kernel
theorem dX10_grid_23 : decode cX10_grid 23 = .ok (.aload_n 0, 1) := by decide +kernel
theorem dX10_grid_24 : decode cX10_grid 24 = .ok (.getfield 19, 3) := by decide +kernel
theorem dX10_grid_27 : decode cX10_grid 27 = .ok (.aload_n 0, 1) := by decide +kernel
theorem dX10_grid_28 : decode cX10_grid 28 = .ok (.getfield 12, 3) := by decide +kernel
theorem dX10_grid_31 : decode cX10_grid 31 = .ok (.getfield 99, 3) := by decide +kernel
theorem dX10_grid_34 : decode cX10_grid 34 = .ok (.invokevirtual 102, 3) := by decide +kernel
theorem dX10_grid_37 : decode cX10_grid 37 = .ok (.aload_n 0, 1) := by decide +kernel
theorem dX10_grid_38 : decode cX10_grid 38 = .ok (.invokevirtual 106, 3) := by decide +kernel
theorem dX10_grid_41 : decode cX10_grid 41 = .ok (.aload_n 0, 1) := by decide +kernel
theorem dX10_grid_42 : decode cX10_grid 42 = .ok (.getfield 19, 3) := by decide +kernel
theorem dX10_grid_45 : decode cX10_grid 45 = .ok (.getfield 109, 3) := by decide +kernel
theorem dX10_grid_48 : decode cX10_grid 48 = .ok (.ireturn, 1) := by decide +kernel
theorem dX10_fault_0 : decode cX10_fault 0 = .ok (.iload_n 1, 1) := by decide +kernel
theorem dX10_fault_1 : decode cX10_fault 1 = .ok (.ifCond .ne 11, 3) := by decide +kernel
theorem dX10_fault_4 : decode cX10_fault 4 = .ok (.aload_n 0, 1) := by decide +kernel
theorem dX10_fault_5 : decode cX10_fault 5 = .ok (.getfield 12, 3) := by decide +kernel
theorem dX10_fault_8 : decode cX10_fault 8 = .ok (.getfield 112, 3) := by decide +kernel
theorem dX10_fault_11 : decode cX10_fault 11 = .ok (.ireturn, 1) := by decide +kernel
theorem dX10_fault_12 : decode cX10_fault 12 = .ok (.iload_n 1, 1) := by decide +kernel
theorem dX10_fault_13 : decode cX10_fault 13 = .ok (.iconst 1, 1) := by decide +kernel
theorem dX10_fault_14 : decode cX10_fault 14 = .ok (.if_icmp .ne 13, 3) := by decide +kernel
theorem dX10_fault_17 : decode cX10_fault 17 = .ok (.aload_n 0, 1) := by decide +kernel
theorem dX10_fault_18 : decode cX10_fault 18 = .ok (.getfield 12, 3) := by decide +kernel
theorem dX10_fault_21 : decode cX10_fault 21 = .ok (.getfield 115, 3) := by decide +kernel
theorem dX10_fault_24 : decode cX10_fault 24 = .ok (.goto 4, 3) := by decide +kernel
theorem dX10_fault_27 : decode cX10_fault 27 = .ok (.iconst (-1), 1) := by decide +kernel
theorem dX10_fault_28 : decode cX10_fault 28 = .ok (.ireturn, 1) := by decide +kernel
theorem dX10_count_0 : decode cX10_count 0 = .ok (.iload_n 1, 1) := by decide +kernel
theorem dX10_count_1 : decode cX10_count 1 = .ok (.tableswitch 135 0 9 #[55, 63, 71, 79, 87, 95, 103, 111, 119, 127], 55) := by decide +kernel
theorem dX10_count_56 : decode cX10_count 56 = .ok (.aload_n 0, 1) := by decide +kernel
theorem dX10_count_57 : decode cX10_count 57 = .ok (.getfield 19, 3) := by decide +kernel
theorem dX10_count_60 : decode cX10_count 60 = .ok (.getfield 118, 3) := by decide +kernel
theorem dX10_count_63 : decode cX10_count 63 = .ok (.ireturn, 1) := by decide +kernel
theorem dX10_count_64 : decode cX10_count 64 = .ok (.aload_n 0, 1) := by decide +kernel
theorem dX10_count_65 : decode cX10_count 65 = .ok (.getfield 19, 3) := by decide +kernel
theorem dX10_count_68 : decode cX10_count 68 = .ok (.getfield 121, 3) := by decide +kernel
theorem dX10_count_71 : decode cX10_count 71 = .ok (.ireturn, 1) := by decide +kernel
theorem dX10_count_72 : decode cX10_count 72 = .ok (.aload_n 0, 1) := by decide +kernel
theorem dX10_count_73 : decode cX10_count 73 = .ok (.getfield 19, 3) := by decide +kernel
theorem dX10_count_76 : decode cX10_count 76 = .ok (.getfield 124, 3) := by decide +kernel
theorem dX10_count_79 : decode cX10_count 79 = .ok (.ireturn, 1) := by decide +kernel
theorem dX10_count_80 : decode cX10_count 80 = .ok (.aload_n 0, 1) := by decide +kernel
theorem dX10_count_81 : decode cX10_count 81 = .ok (.getfield 19, 3) := by decide +kernel
theorem dX10_count_84 : decode cX10_count 84 = .ok (.getfield 127, 3) := by decide +kernel
theorem dX10_count_87 : decode cX10_count 87 = .ok (.ireturn, 1) := by decide +kernel
theorem dX10_count_88 : decode cX10_count 88 = .ok (.aload_n 0, 1) := by decide +kernel
theorem dX10_count_89 : decode cX10_count 89 = .ok (.getfield 19, 3) := by decide +kernel
theorem dX10_count_92 : decode cX10_count 92 = .ok (.getfield 130, 3) := by decide +kernel
theorem dX10_count_95 : decode cX10_count 95 = .ok (.ireturn, 1) := by decide +kernel
theorem dX10_count_96 : decode cX10_count 96 = .ok (.aload_n 0, 1) := by decide +kernel
theorem dX10_count_97 : decode cX10_count 97 = .ok (.getfield 19, 3) := by decide +kernel
theorem dX10_count_100 : decode cX10_count 100 = .ok (.getfield 133, 3) := by decide +kernel
theorem dX10_count_103 : decode cX10_count 103 = .ok (.ireturn, 1) := by decide +kernel
theorem dX10_count_104 : decode cX10_count 104 = .ok (.aload_n 0, 1) := by decide +kernel
theorem dX10_count_105 : decode cX10_count 105 = .ok (.getfield 19, 3) := by decide +kernel
theorem dX10_count_108 : decode cX10_count 108 = .ok (.getfield 109, 3) := by decide +kernel
theorem dX10_count_111 : decode cX10_count 111 = .ok (.ireturn, 1) := by decide +kernel
theorem dX10_count_112 : decode cX10_count 112 = .ok (.aload_n 0, 1) := by decide +kernel
theorem dX10_count_113 : decode cX10_count 113 = .ok (.getfield 12, 3) := by decide +kernel
theorem dX10_count_116 : decode cX10_count 116 = .ok (.getfield 87, 3) := by decide +kernel
theorem dX10_count_119 : decode cX10_count 119 = .ok (.ireturn, 1) := by decide +kernel
theorem dX10_count_120 : decode cX10_count 120 = .ok (.aload_n 0, 1) := by decide +kernel
theorem dX10_count_121 : decode cX10_count 121 = .ok (.getfield 19, 3) := by decide +kernel
theorem dX10_count_124 : decode cX10_count 124 = .ok (.getfield 136, 3) := by decide +kernel
theorem dX10_count_127 : decode cX10_count 127 = .ok (.ireturn, 1) := by decide +kernel
theorem dX10_count_128 : decode cX10_count 128 = .ok (.aload_n 0, 1) := by decide +kernel
theorem dX10_count_129 : decode cX10_count 129 = .ok (.invokevirtual 139, 3) := by decide +kernel
theorem dX10_count_132 : decode cX10_count 132 = .ok (.getfield 143, 3) := by decide +kernel
theorem dX10_count_135 : decode cX10_count 135 = .ok (.ireturn, 1) := by decide +kernel
theorem dX10_count_136 : decode cX10_count 136 = .ok (.iconst (-1), 1) := by decide +kernel
theorem dX10_count_137 : decode cX10_count 137 = .ok (.ireturn, 1) := by decide +kernel
theorem dX10_strap_0 : decode cX10_strap 0 = .ok (.aload_n 0, 1) := by decide +kernel
theorem dX10_strap_1 : decode cX10_strap 1 = .ok (.iload_n 1, 1) := by decide +kernel
theorem dX10_strap_2 : decode cX10_strap 2 = .ok (.invokevirtual 146, 3) := by decide +kernel
theorem dX10_strap_5 : decode cX10_strap 5 = .ok (.ifCond .ne 5, 3) := by decide +kernel
theorem dX10_strap_8 : decode cX10_strap 8 = .ok (.iconst (-1), 1) := by decide +kernel
theorem dX10_strap_9 : decode cX10_strap 9 = .ok (.ireturn, 1) := by decide +kernel
theorem dX10_strap_10 : decode cX10_strap 10 = .ok (.iload_n 2, 1) := by decide +kernel
theorem dX10_strap_11 : decode cX10_strap 11 = .ok (.tableswitch 55 0 2 #[25, 35, 45], 25) := by decide +kernel
theorem dX10_strap_36 : decode cX10_strap 36 = .ok (.aload_n 0, 1) := by decide +kernel
theorem dX10_strap_37 : decode cX10_strap 37 = .ok (.getfield 19, 3) := by decide +kernel
theorem dX10_strap_40 : decode cX10_strap 40 = .ok (.getfield 150, 3) := by decide +kernel
theorem dX10_strap_43 : decode cX10_strap 43 = .ok (.iload_n 1, 1) := by decide +kernel
theorem dX10_strap_44 : decode cX10_strap 44 = .ok (.iaload, 1) := by decide +kernel
theorem dX10_strap_45 : decode cX10_strap 45 = .ok (.ireturn, 1) := by decide +kernel
theorem dX10_strap_46 : decode cX10_strap 46 = .ok (.aload_n 0, 1) := by decide +kernel
theorem dX10_strap_47 : decode cX10_strap 47 = .ok (.getfield 19, 3) := by decide +kernel
theorem dX10_strap_50 : decode cX10_strap 50 = .ok (.getfield 154, 3) := by decide +kernel
theorem dX10_strap_53 : decode cX10_strap 53 = .ok (.iload_n 1, 1) := by decide +kernel
theorem dX10_strap_54 : decode cX10_strap 54 = .ok (.iaload, 1) := by decide +kernel
theorem dX10_strap_55 : decode cX10_strap 55 = .ok (.ireturn, 1) := by decide +kernel
theorem dX10_strap_56 : decode cX10_strap 56 = .ok (.aload_n 0, 1) := by decide +kernel
theorem dX10_strap_57 : decode cX10_strap 57 = .ok (.getfield 19, 3) := by decide +kernel
theorem dX10_strap_60 : decode cX10_strap 60 = .ok (.getfield 157, 3) := by decide +kernel
theorem dX10_strap_63 : decode cX10_strap 63 = .ok (.iload_n 1, 1) := by decide +kernel
theorem dX10_strap_64 : decode cX10_strap 64 = .ok (.iaload, 1) := by decide +kernel
theorem dX10_strap_65 : decode cX10_strap 65 = .ok (.ireturn, 1) := by decide +kernel
theorem dX10_strap_66 : decode cX10_strap 66 = .ok (.iconst (-1), 1) := by decide +kernel
theorem dX10_strap_67 : decode cX10_strap 67 = .ok (.ireturn, 1) := by decide +kernel
theorem dX10_between_0 : decode cX10_between 0 = .ok (.aload_n 0, 1) := by decide +kernel
theorem dX10_between_1 : decode cX10_between 1 = .ok (.iload_n 1, 1) := by decide +kernel
theorem dX10_between_2 : decode cX10_between 2 = .ok (.invokevirtual 160, 3) := by decide +kernel
theorem dX10_between_5 : decode cX10_between 5 = .ok (.ifCond .eq 11, 3) := by decide +kernel
theorem dX10_between_8 : decode cX10_between 8 = .ok (.aload_n 0, 1) := by decide +kernel
theorem dX10_between_9 : decode cX10_between 9 = .ok (.iload_n 2, 1) := by decide +kernel
theorem dX10_between_10 : decode cX10_between 10 = .ok (.invokevirtual 160, 3) := by decide +kernel
theorem dX10_between_13 : decode cX10_between 13 = .ok (.ifCond .ne 6, 3) := by decide +kernel
theorem dX10_between_16 : decode cX10_between 16 = .ok (.bipush (-2), 2) := by decide +kernel
theorem dX10_between_18 : decode cX10_between 18 = .ok (.ireturn, 1) := by decide +kernel
theorem dX10_between_19 : decode cX10_between 19 = .ok (.aload_n 0, 1) := by decide +kernel
theorem dX10_between_20 : decode cX10_between 20 = .ok (.getfield 19, 3) := by decide +kernel
theorem dX10_between_23 : decode cX10_between 23 = .ok (.iload_n 1, 1) := by decide +kernel
theorem dX10_between_24 : decode cX10_between 24 = .ok (.iload_n 2, 1) := by decide +kernel
theorem dX10_between_25 : decode cX10_between 25 = .ok (.invokevirtual 163, 3) := by decide +kernel
theorem dX10_between_28 : decode cX10_between 28 = .ok (.ireturn, 1) := by decide +kernel
theorem dX10_node_0 : decode cX10_node 0 = .ok (.aload_n 0, 1) := by decide +kernel
theorem dX10_node_1 : decode cX10_node 1 = .ok (.iload_n 1, 1) := by decide +kernel
theorem dX10_node_2 : decode cX10_node 2 = .ok (.invokevirtual 160, 3) := by decide +kernel
theorem dX10_node_5 : decode cX10_node 5 = .ok (.ifCond .ne 5, 3) := by decide +kernel
theorem dX10_node_8 : decode cX10_node 8 = .ok (.iconst (-1), 1) := by decide +kernel
theorem dX10_node_9 : decode cX10_node 9 = .ok (.ireturn, 1) := by decide +kernel
theorem dX10_node_10 : decode cX10_node 10 = .ok (.iload_n 2, 1) := by decide +kernel
theorem dX10_node_11 : decode cX10_node 11 = .ok (.tableswitch 83 0 3 #[29, 46, 56, 66], 29) := by decide +kernel
theorem dX10_node_40 : decode cX10_node 40 = .ok (.aload_n 0, 1) := by decide +kernel
theorem dX10_node_41 : decode cX10_node 41 = .ok (.getfield 19, 3) := by decide +kernel
theorem dX10_node_44 : decode cX10_node 44 = .ok (.iload_n 1, 1) := by decide +kernel
theorem dX10_node_45 : decode cX10_node 45 = .ok (.invokevirtual 167, 3) := by decide +kernel
theorem dX10_node_48 : decode cX10_node 48 = .ok (.ifCond .eq 7, 3) := by decide +kernel
theorem dX10_node_51 : decode cX10_node 51 = .ok (.iconst 1, 1) := by decide +kernel
theorem dX10_node_52 : decode cX10_node 52 = .ok (.goto 4, 3) := by decide +kernel
theorem dX10_node_55 : decode cX10_node 55 = .ok (.iconst 0, 1) := by decide +kernel
theorem dX10_node_56 : decode cX10_node 56 = .ok (.ireturn, 1) := by decide +kernel
theorem dX10_node_57 : decode cX10_node 57 = .ok (.aload_n 0, 1) := by decide +kernel
theorem dX10_node_58 : decode cX10_node 58 = .ok (.getfield 19, 3) := by decide +kernel
theorem dX10_node_61 : decode cX10_node 61 = .ok (.getfield 170, 3) := by decide +kernel
theorem dX10_node_64 : decode cX10_node 64 = .ok (.iload_n 1, 1) := by decide +kernel
theorem dX10_node_65 : decode cX10_node 65 = .ok (.iaload, 1) := by decide +kernel
theorem dX10_node_66 : decode cX10_node 66 = .ok (.ireturn, 1) := by decide +kernel
theorem dX10_node_67 : decode cX10_node 67 = .ok (.aload_n 0, 1) := by decide +kernel
theorem dX10_node_68 : decode cX10_node 68 = .ok (.getfield 19, 3) := by decide +kernel
theorem dX10_node_71 : decode cX10_node 71 = .ok (.getfield 173, 3) := by decide +kernel
theorem dX10_node_74 : decode cX10_node 74 = .ok (.iload_n 1, 1) := by decide +kernel
theorem dX10_node_75 : decode cX10_node 75 = .ok (.iaload, 1) := by decide +kernel
theorem dX10_node_76 : decode cX10_node 76 = .ok (.ireturn, 1) := by decide +kernel
theorem dX10_node_77 : decode cX10_node 77 = .ok (.aload_n 0, 1) := by decide +kernel
theorem dX10_node_78 : decode cX10_node 78 = .ok (.invokevirtual 139, 3) := by decide +kernel
theorem dX10_node_81 : decode cX10_node 81 = .ok (.iload_n 1, 1) := by decide +kernel
theorem dX10_node_82 : decode cX10_node 82 = .ok (.invokevirtual 176, 3) := by decide +kernel
theorem dX10_node_85 : decode cX10_node 85 = .ok (.ifCond .eq 7, 3) := by decide +kernel
theorem dX10_node_88 : decode cX10_node 88 = .ok (.iconst 1, 1) := by decide +kernel
theorem dX10_node_89 : decode cX10_node 89 = .ok (.goto 4, 3) := by decide +kernel
theorem dX10_node_92 : decode cX10_node 92 = .ok (.iconst 0, 1) := by decide +kernel
theorem dX10_node_93 : decode cX10_node 93 = .ok (.ireturn, 1) := by decide +kernel
theorem dX10_node_94 : decode cX10_node 94 = .ok (.iconst (-1), 1) := by decide +kernel
theorem dX10_node_95 : decode cX10_node 95 = .ok (.ireturn, 1) := by decide +kernel
theorem dX10_budget_0 : decode cX10_budget 0 = .ok (.aload_n 0, 1) := by decide +kernel
theorem dX10_budget_1 : decode cX10_budget 1 = .ok (.invokevirtual 179, 3) := by decide +kernel
theorem dX10_budget_4 : decode cX10_budget 4 = .ok (.ifCond .ne 12, 3) := by decide +kernel
theorem dX10_budget_7 : decode cX10_budget 7 = .ok (.iload_n 1, 1) := by decide +kernel
theorem dX10_budget_8 : decode cX10_budget 8 = .ok (.ifCond .lt 8, 3) := by decide +kernel
theorem dX10_budget_11 : decode cX10_budget 11 = .ok (.iload_n 1, 1) := by decide +kernel
theorem dX10_budget_12 : decode cX10_budget 12 = .ok (.iconst 4, 1) := by decide +kernel
theorem dX10_budget_13 : decode cX10_budget 13 = .ok (.if_icmp .lt 5, 3) := by decide +kernel
theorem dX10_budget_16 : decode cX10_budget 16 = .ok (.iconst (-1), 1) := by decide +kernel
theorem dX10_budget_17 : decode cX10_budget 17 = .ok (.ireturn, 1) := by decide +kernel
theorem dX10_budget_18 : decode cX10_budget 18 = .ok (.aload_n 0, 1) := by decide +kernel
theorem dX10_budget_19 : decode cX10_budget 19 = .ok (.getfield 19, 3) := by decide +kernel
theorem dX10_budget_22 : decode cX10_budget 22 = .ok (.getfield 182, 3) := by decide +kernel
theorem dX10_budget_25 : decode cX10_budget 25 = .ok (.iload_n 1, 1) := by decide +kernel
theorem dX10_budget_26 : decode cX10_budget 26 = .ok (.iaload, 1) := by decide +kernel
theorem dX10_budget_27 : decode cX10_budget 27 = .ok (.ireturn, 1) := by decide +kernel
theorem dX10_drop_0 : decode cX10_drop 0 = .ok (.aload_n 0, 1) := by decide +kernel
theorem dX10_drop_1 : decode cX10_drop 1 = .ok (.iload_n 1, 1) := by decide +kernel
theorem dX10_drop_2 : decode cX10_drop 2 = .ok (.invokevirtual 160, 3) := by decide +kernel
theorem dX10_drop_5 : decode cX10_drop 5 = .ok (.ifCond .eq 10, 3) := by decide +kernel
theorem dX10_drop_8 : decode cX10_drop 8 = .ok (.iload_n 2, 1) := by decide +kernel
theorem dX10_drop_9 : decode cX10_drop 9 = .ok (.invokestatic 185, 3) := by decide +kernel
theorem dX10_drop_12 : decode cX10_drop 12 = .ok (.ifCond .ne 7, 3) := by decide +kernel
theorem dX10_drop_15 : decode cX10_drop 15 = .ok (.ldc2_w 188, 3) := by decide +kernel
theorem dX10_drop_18 : decode cX10_drop 18 = .ok (.lreturn, 1) := by decide +kernel
theorem dX10_drop_19 : decode cX10_drop 19 = .ok (.aload_n 0, 1) := by decide +kernel
theorem dX10_drop_20 : decode cX10_drop 20 = .ok (.invokevirtual 139, 3) := by decide +kernel
theorem dX10_drop_23 : decode cX10_drop 23 = .ok (.astore_n 3, 1) := by decide +kernel
theorem dX10_drop_24 : decode cX10_drop 24 = .ok (.aload_n 3, 1) := by decide +kernel
theorem dX10_drop_25 : decode cX10_drop 25 = .ok (.iload_n 1, 1) := by decide +kernel
theorem dX10_drop_26 : decode cX10_drop 26 = .ok (.invokevirtual 176, 3) := by decide +kernel
theorem dX10_drop_29 : decode cX10_drop 29 = .ok (.ifCond .eq 9, 3) := by decide +kernel
theorem dX10_drop_32 : decode cX10_drop 32 = .ok (.ldc2_w 190, 3) := by decide +kernel
theorem dX10_drop_35 : decode cX10_drop 35 = .ok (.goto 17, 3) := by decide +kernel
theorem dX10_drop_38 : decode cX10_drop 38 = .ok (.aload_n 3, 1) := by decide +kernel
theorem dX10_drop_39 : decode cX10_drop 39 = .ok (.getfield 192, 3) := by decide +kernel
theorem dX10_drop_42 : decode cX10_drop 42 = .ok (.iload_n 1, 1) := by decide +kernel
theorem dX10_drop_43 : decode cX10_drop 43 = .ok (.laload, 1) := by decide +kernel
theorem dX10_drop_44 : decode cX10_drop 44 = .ok (.aload_n 3, 1) := by decide +kernel
theorem dX10_drop_45 : decode cX10_drop 45 = .ok (.getfield 196, 3) := by decide +kernel
theorem dX10_drop_48 : decode cX10_drop 48 = .ok (.iload_n 2, 1) := by decide +kernel
theorem dX10_drop_49 : decode cX10_drop 49 = .ok (.invokestatic 200, 3) := by decide +kernel
theorem dX10_drop_52 : decode cX10_drop 52 = .ok (.lreturn, 1) := by decide +kernel
theorem dX10_through_0 : decode cX10_through 0 = .ok (.aload_n 0, 1) := by decide +kernel
theorem dX10_through_1 : decode cX10_through 1 = .ok (.iload_n 1, 1) := by decide +kernel
theorem dX10_through_2 : decode cX10_through 2 = .ok (.invokevirtual 146, 3) := by decide +kernel
theorem dX10_through_5 : decode cX10_through 5 = .ok (.ifCond .eq 10, 3) := by decide +kernel
theorem dX10_through_8 : decode cX10_through 8 = .ok (.iload_n 2, 1) := by decide +kernel
theorem dX10_through_9 : decode cX10_through 9 = .ok (.invokestatic 185, 3) := by decide +kernel
theorem dX10_through_12 : decode cX10_through 12 = .ok (.ifCond .ne 7, 3) := by decide +kernel
theorem dX10_through_15 : decode cX10_through 15 = .ok (.ldc2_w 204, 3) := by decide +kernel
theorem dX10_through_18 : decode cX10_through 18 = .ok (.lreturn, 1) := by decide +kernel
theorem dX10_through_19 : decode cX10_through 19 = .ok (.aload_n 0, 1) := by decide +kernel
theorem dX10_through_20 : decode cX10_through 20 = .ok (.invokevirtual 139, 3) := by decide +kernel
theorem dX10_through_23 : decode cX10_through 23 = .ok (.astore_n 3, 1) := by decide +kernel
theorem dX10_through_24 : decode cX10_through 24 = .ok (.aload_n 0, 1) := by decide +kernel
theorem dX10_through_25 : decode cX10_through 25 = .ok (.getfield 19, 3) := by decide +kernel
theorem dX10_through_28 : decode cX10_through 28 = .ok (.getfield 157, 3) := by decide +kernel
theorem dX10_through_31 : decode cX10_through 31 = .ok (.iload_n 1, 1) := by decide +kernel
theorem dX10_through_32 : decode cX10_through 32 = .ok (.iaload, 1) := by decide +kernel
theorem dX10_through_33 : decode cX10_through 33 = .ok (.i2l, 1) := by decide +kernel
theorem dX10_through_34 : decode cX10_through 34 = .ok (.aload_n 3, 1) := by decide +kernel
theorem dX10_through_35 : decode cX10_through 35 = .ok (.aload_n 0, 1) := by decide +kernel
theorem dX10_through_36 : decode cX10_through 36 = .ok (.getfield 19, 3) := by decide +kernel
theorem dX10_through_39 : decode cX10_through 39 = .ok (.iload_n 1, 1) := by decide +kernel
theorem dX10_through_40 : decode cX10_through 40 = .ok (.invokevirtual 206, 3) := by decide +kernel
theorem dX10_through_43 : decode cX10_through 43 = .ok (.lmul, 1) := by decide +kernel
theorem dX10_through_44 : decode cX10_through 44 = .ok (.lstore 4, 2) := by decide +kernel
theorem dX10_through_46 : decode cX10_through 46 = .ok (.lload 4, 2) := by decide +kernel
theorem dX10_through_48 : decode cX10_through 48 = .ok (.aload_n 3, 1) := by decide +kernel
theorem dX10_through_49 : decode cX10_through 49 = .ok (.getfield 196, 3) := by decide +kernel
theorem dX10_through_52 : decode cX10_through 52 = .ok (.iload_n 2, 1) := by decide +kernel
theorem dX10_through_53 : decode cX10_through 53 = .ok (.invokestatic 200, 3) := by decide +kernel
theorem dX10_through_56 : decode cX10_through 56 = .ok (.lreturn, 1) := by decide +kernel
theorem dX10_gives_0 : decode cX10_gives 0 = .ok (.aload_n 0, 1) := by decide +kernel
theorem dX10_gives_1 : decode cX10_gives 1 = .ok (.iload_n 1, 1) := by decide +kernel
theorem dX10_gives_2 : decode cX10_gives 2 = .ok (.invokevirtual 160, 3) := by decide +kernel
theorem dX10_gives_5 : decode cX10_gives 5 = .ok (.ifCond .eq 10, 3) := by decide +kernel
theorem dX10_gives_8 : decode cX10_gives 8 = .ok (.iload_n 2, 1) := by decide +kernel
theorem dX10_gives_9 : decode cX10_gives 9 = .ok (.invokestatic 185, 3) := by decide +kernel
theorem dX10_gives_12 : decode cX10_gives 12 = .ok (.ifCond .ne 7, 3) := by decide +kernel
theorem dX10_gives_15 : decode cX10_gives 15 = .ok (.ldc2_w 188, 3) := by decide +kernel
theorem dX10_gives_18 : decode cX10_gives 18 = .ok (.lreturn, 1) := by decide +kernel
theorem dX10_gives_19 : decode cX10_gives 19 = .ok (.aload_n 0, 1) := by decide +kernel
theorem dX10_gives_20 : decode cX10_gives 20 = .ok (.getfield 19, 3) := by decide +kernel
theorem dX10_gives_23 : decode cX10_gives 23 = .ok (.iload_n 1, 1) := by decide +kernel
theorem dX10_gives_24 : decode cX10_gives 24 = .ok (.invokevirtual 167, 3) := by decide +kernel
theorem dX10_gives_27 : decode cX10_gives 27 = .ok (.ifCond .ne 7, 3) := by decide +kernel
theorem dX10_gives_30 : decode cX10_gives 30 = .ok (.ldc2_w 190, 3) := by decide +kernel
theorem dX10_gives_33 : decode cX10_gives 33 = .ok (.lreturn, 1) := by decide +kernel
theorem dX10_gives_34 : decode cX10_gives 34 = .ok (.aload_n 0, 1) := by decide +kernel
theorem dX10_gives_35 : decode cX10_gives 35 = .ok (.invokevirtual 139, 3) := by decide +kernel
theorem dX10_gives_38 : decode cX10_gives 38 = .ok (.astore_n 3, 1) := by decide +kernel
theorem dX10_gives_39 : decode cX10_gives 39 = .ok (.aload_n 3, 1) := by decide +kernel
theorem dX10_gives_40 : decode cX10_gives 40 = .ok (.aload_n 0, 1) := by decide +kernel
theorem dX10_gives_41 : decode cX10_gives 41 = .ok (.getfield 19, 3) := by decide +kernel
theorem dX10_gives_44 : decode cX10_gives 44 = .ok (.iload_n 1, 1) := by decide +kernel
theorem dX10_gives_45 : decode cX10_gives 45 = .ok (.invokevirtual 210, 3) := by decide +kernel
theorem dX10_gives_48 : decode cX10_gives 48 = .ok (.aload_n 3, 1) := by decide +kernel
theorem dX10_gives_49 : decode cX10_gives 49 = .ok (.getfield 196, 3) := by decide +kernel
theorem dX10_gives_52 : decode cX10_gives 52 = .ok (.iload_n 2, 1) := by decide +kernel
theorem dX10_gives_53 : decode cX10_gives 53 = .ok (.invokestatic 200, 3) := by decide +kernel
theorem dX10_gives_56 : decode cX10_gives 56 = .ok (.lreturn, 1) := by decide +kernel
theorem dX10_chief_0 : decode cX10_chief 0 = .ok (.aload_n 0, 1) := by decide +kernel
theorem dX10_chief_1 : decode cX10_chief 1 = .ok (.invokevirtual 179, 3) := by decide +kernel
theorem dX10_chief_4 : decode cX10_chief 4 = .ok (.ifCond .eq 6, 3) := by decide +kernel
theorem dX10_chief_7 : decode cX10_chief 7 = .ok (.bipush (-2), 2) := by decide +kernel
theorem dX10_chief_9 : decode cX10_chief 9 = .ok (.ireturn, 1) := by decide +kernel
theorem dX10_chief_10 : decode cX10_chief 10 = .ok (.aload_n 0, 1) := by decide +kernel
theorem dX10_chief_11 : decode cX10_chief 11 = .ok (.invokevirtual 139, 3) := by decide +kernel
theorem dX10_chief_14 : decode cX10_chief 14 = .ok (.astore_n 1, 1) := by decide +kernel
theorem dX10_chief_15 : decode cX10_chief 15 = .ok (.iconst (-1), 1) := by decide +kernel
theorem dX10_chief_16 : decode cX10_chief 16 = .ok (.istore_n 2, 1) := by decide +kernel
theorem dX10_chief_17 : decode cX10_chief 17 = .ok (.lconst 0, 1) := by decide +kernel
theorem dX10_chief_18 : decode cX10_chief 18 = .ok (.lstore_n 3, 1) := by decide +kernel
theorem dX10_chief_19 : decode cX10_chief 19 = .ok (.iconst 0, 1) := by decide +kernel
theorem dX10_chief_20 : decode cX10_chief 20 = .ok (.istore 5, 2) := by decide +kernel
theorem dX10_chief_22 : decode cX10_chief 22 = .ok (.iload 5, 2) := by decide +kernel
theorem dX10_chief_24 : decode cX10_chief 24 = .ok (.aload_n 0, 1) := by decide +kernel
theorem dX10_chief_25 : decode cX10_chief 25 = .ok (.getfield 19, 3) := by decide +kernel
theorem dX10_chief_28 : decode cX10_chief 28 = .ok (.getfield 213, 3) := by decide +kernel
theorem dX10_chief_31 : decode cX10_chief 31 = .ok (.if_icmp .ge 51, 3) := by decide +kernel
theorem dX10_chief_34 : decode cX10_chief 34 = .ok (.aload_n 0, 1) := by decide +kernel
theorem dX10_chief_35 : decode cX10_chief 35 = .ok (.getfield 19, 3) := by decide +kernel
theorem dX10_chief_38 : decode cX10_chief 38 = .ok (.iload 5, 2) := by decide +kernel
theorem dX10_chief_40 : decode cX10_chief 40 = .ok (.invokevirtual 167, 3) := by decide +kernel
theorem dX10_chief_43 : decode cX10_chief 43 = .ok (.ifCond .eq 33, 3) := by decide +kernel
theorem dX10_chief_46 : decode cX10_chief 46 = .ok (.aload_n 1, 1) := by decide +kernel
theorem dX10_chief_47 : decode cX10_chief 47 = .ok (.aload_n 0, 1) := by decide +kernel
theorem dX10_chief_48 : decode cX10_chief 48 = .ok (.getfield 19, 3) := by decide +kernel
theorem dX10_chief_51 : decode cX10_chief 51 = .ok (.iload 5, 2) := by decide +kernel
theorem dX10_chief_53 : decode cX10_chief 53 = .ok (.invokevirtual 210, 3) := by decide +kernel
theorem dX10_chief_56 : decode cX10_chief 56 = .ok (.lstore 6, 2) := by decide +kernel
theorem dX10_chief_58 : decode cX10_chief 58 = .ok (.iload_n 2, 1) := by decide +kernel
theorem dX10_chief_59 : decode cX10_chief 59 = .ok (.iconst (-1), 1) := by decide +kernel
theorem dX10_chief_60 : decode cX10_chief 60 = .ok (.if_icmp .eq 10, 3) := by decide +kernel
theorem dX10_chief_63 : decode cX10_chief 63 = .ok (.lload 6, 2) := by decide +kernel
theorem dX10_chief_65 : decode cX10_chief 65 = .ok (.lload_n 3, 1) := by decide +kernel
theorem dX10_chief_66 : decode cX10_chief 66 = .ok (.lcmp, 1) := by decide +kernel
theorem dX10_chief_67 : decode cX10_chief 67 = .ok (.ifCond .le 9, 3) := by decide +kernel
theorem dX10_chief_70 : decode cX10_chief 70 = .ok (.iload 5, 2) := by decide +kernel
theorem dX10_chief_72 : decode cX10_chief 72 = .ok (.istore_n 2, 1) := by decide +kernel
theorem dX10_chief_73 : decode cX10_chief 73 = .ok (.lload 6, 2) := by decide +kernel
theorem dX10_chief_75 : decode cX10_chief 75 = .ok (.lstore_n 3, 1) := by decide +kernel
theorem dX10_chief_76 : decode cX10_chief 76 = .ok (.iinc 5 1, 3) := by decide +kernel
theorem dX10_chief_79 : decode cX10_chief 79 = .ok (.goto (-57), 3) := by decide +kernel
theorem dX10_chief_82 : decode cX10_chief 82 = .ok (.iload_n 2, 1) := by decide +kernel
theorem dX10_chief_83 : decode cX10_chief 83 = .ok (.ireturn, 1) := by decide +kernel
theorem dX10_area_0 : decode cX10_area 0 = .ok (.aload_n 0, 1) := by decide +kernel
theorem dX10_area_1 : decode cX10_area 1 = .ok (.invokevirtual 179, 3) := by decide +kernel
theorem dX10_area_4 : decode cX10_area 4 = .ok (.ifCond .eq 6, 3) := by decide +kernel
theorem dX10_area_7 : decode cX10_area 7 = .ok (.bipush (-2), 2) := by decide +kernel
theorem dX10_area_9 : decode cX10_area 9 = .ok (.ireturn, 1) := by decide +kernel
theorem dX10_area_10 : decode cX10_area 10 = .ok (.iconst 0, 1) := by decide +kernel
theorem dX10_area_11 : decode cX10_area 11 = .ok (.istore_n 1, 1) := by decide +kernel
theorem dX10_area_12 : decode cX10_area 12 = .ok (.iconst 0, 1) := by decide +kernel
theorem dX10_area_13 : decode cX10_area 13 = .ok (.istore_n 2, 1) := by decide +kernel
theorem dX10_area_14 : decode cX10_area 14 = .ok (.iload_n 2, 1) := by decide +kernel
theorem dX10_area_15 : decode cX10_area 15 = .ok (.aload_n 0, 1) := by decide +kernel
theorem dX10_area_16 : decode cX10_area 16 = .ok (.getfield 19, 3) := by decide +kernel
theorem dX10_area_19 : decode cX10_area 19 = .ok (.getfield 130, 3) := by decide +kernel
theorem dX10_area_22 : decode cX10_area 22 = .ok (.if_icmp .ge 21, 3) := by decide +kernel
theorem dX10_area_25 : decode cX10_area 25 = .ok (.iload_n 1, 1) := by decide +kernel
theorem dX10_area_26 : decode cX10_area 26 = .ok (.aload_n 0, 1) := by decide +kernel
theorem dX10_area_27 : decode cX10_area 27 = .ok (.getfield 19, 3) := by decide +kernel
theorem dX10_area_30 : decode cX10_area 30 = .ok (.getfield 157, 3) := by decide +kernel
theorem dX10_area_33 : decode cX10_area 33 = .ok (.iload_n 2, 1) := by decide +kernel
theorem dX10_area_34 : decode cX10_area 34 = .ok (.iaload, 1) := by decide +kernel
theorem dX10_area_35 : decode cX10_area 35 = .ok (.iadd, 1) := by decide +kernel
theorem dX10_area_36 : decode cX10_area 36 = .ok (.istore_n 1, 1) := by decide +kernel
theorem dX10_area_37 : decode cX10_area 37 = .ok (.iinc 2 1, 3) := by decide +kernel
theorem dX10_area_40 : decode cX10_area 40 = .ok (.goto (-26), 3) := by decide +kernel
theorem dX10_area_43 : decode cX10_area 43 = .ok (.iload_n 1, 1) := by decide +kernel
theorem dX10_area_44 : decode cX10_area 44 = .ok (.ireturn, 1) := by decide +kernel
theorem dX10_worst_0 : decode cX10_worst 0 = .ok (.aload_n 0, 1) := by decide +kernel
theorem dX10_worst_1 : decode cX10_worst 1 = .ok (.invokevirtual 179, 3) := by decide +kernel
theorem dX10_worst_4 : decode cX10_worst 4 = .ok (.ifCond .eq 6, 3) := by decide +kernel
theorem dX10_worst_7 : decode cX10_worst 7 = .ok (.bipush (-2), 2) := by decide +kernel
theorem dX10_worst_9 : decode cX10_worst 9 = .ok (.ireturn, 1) := by decide +kernel
theorem dX10_worst_10 : decode cX10_worst 10 = .ok (.aload_n 0, 1) := by decide +kernel
theorem dX10_worst_11 : decode cX10_worst 11 = .ok (.invokevirtual 139, 3) := by decide +kernel
theorem dX10_worst_14 : decode cX10_worst 14 = .ok (.astore_n 1, 1) := by decide +kernel
theorem dX10_worst_15 : decode cX10_worst 15 = .ok (.iconst (-1), 1) := by decide +kernel
theorem dX10_worst_16 : decode cX10_worst 16 = .ok (.istore_n 2, 1) := by decide +kernel
theorem dX10_worst_17 : decode cX10_worst 17 = .ok (.lconst 0, 1) := by decide +kernel
theorem dX10_worst_18 : decode cX10_worst 18 = .ok (.lstore_n 3, 1) := by decide +kernel
theorem dX10_worst_19 : decode cX10_worst 19 = .ok (.iconst 0, 1) := by decide +kernel
theorem dX10_worst_20 : decode cX10_worst 20 = .ok (.istore 5, 2) := by decide +kernel
theorem dX10_worst_22 : decode cX10_worst 22 = .ok (.iload 5, 2) := by decide +kernel
theorem dX10_worst_24 : decode cX10_worst 24 = .ok (.aload_n 0, 1) := by decide +kernel
theorem dX10_worst_25 : decode cX10_worst 25 = .ok (.getfield 19, 3) := by decide +kernel
theorem dX10_worst_28 : decode cX10_worst 28 = .ok (.getfield 213, 3) := by decide +kernel
theorem dX10_worst_31 : decode cX10_worst 31 = .ok (.if_icmp .ge 46, 3) := by decide +kernel
theorem dX10_worst_34 : decode cX10_worst 34 = .ok (.aload_n 1, 1) := by decide +kernel
theorem dX10_worst_35 : decode cX10_worst 35 = .ok (.iload 5, 2) := by decide +kernel
theorem dX10_worst_37 : decode cX10_worst 37 = .ok (.invokevirtual 176, 3) := by decide +kernel
theorem dX10_worst_40 : decode cX10_worst 40 = .ok (.ifCond .ne 31, 3) := by decide +kernel
theorem dX10_worst_43 : decode cX10_worst 43 = .ok (.iload_n 2, 1) := by decide +kernel
theorem dX10_worst_44 : decode cX10_worst 44 = .ok (.iconst (-1), 1) := by decide +kernel
theorem dX10_worst_45 : decode cX10_worst 45 = .ok (.if_icmp .eq 15, 3) := by decide +kernel
theorem dX10_worst_48 : decode cX10_worst 48 = .ok (.aload_n 1, 1) := by decide +kernel
theorem dX10_worst_49 : decode cX10_worst 49 = .ok (.getfield 192, 3) := by decide +kernel
theorem dX10_worst_52 : decode cX10_worst 52 = .ok (.iload 5, 2) := by decide +kernel
theorem dX10_worst_54 : decode cX10_worst 54 = .ok (.laload, 1) := by decide +kernel
theorem dX10_worst_55 : decode cX10_worst 55 = .ok (.lload_n 3, 1) := by decide +kernel
theorem dX10_worst_56 : decode cX10_worst 56 = .ok (.lcmp, 1) := by decide +kernel
theorem dX10_worst_57 : decode cX10_worst 57 = .ok (.ifCond .le 14, 3) := by decide +kernel
theorem dX10_worst_60 : decode cX10_worst 60 = .ok (.iload 5, 2) := by decide +kernel
theorem dX10_worst_62 : decode cX10_worst 62 = .ok (.istore_n 2, 1) := by decide +kernel
theorem dX10_worst_63 : decode cX10_worst 63 = .ok (.aload_n 1, 1) := by decide +kernel
theorem dX10_worst_64 : decode cX10_worst 64 = .ok (.getfield 192, 3) := by decide +kernel
theorem dX10_worst_67 : decode cX10_worst 67 = .ok (.iload 5, 2) := by decide +kernel
theorem dX10_worst_69 : decode cX10_worst 69 = .ok (.laload, 1) := by decide +kernel
theorem dX10_worst_70 : decode cX10_worst 70 = .ok (.lstore_n 3, 1) := by decide +kernel
theorem dX10_worst_71 : decode cX10_worst 71 = .ok (.iinc 5 1, 3) := by decide +kernel
theorem dX10_worst_74 : decode cX10_worst 74 = .ok (.goto (-52), 3) := by decide +kernel
theorem dX10_worst_77 : decode cX10_worst 77 = .ok (.iload_n 2, 1) := by decide +kernel
theorem dX10_worst_78 : decode cX10_worst 78 = .ok (.ireturn, 1) := by decide +kernel
theorem dX10_over_0 : decode cX10_over 0 = .ok (.aload_n 0, 1) := by decide +kernel
theorem dX10_over_1 : decode cX10_over 1 = .ok (.invokevirtual 179, 3) := by decide +kernel
theorem dX10_over_4 : decode cX10_over 4 = .ok (.ifCond .eq 6, 3) := by decide +kernel
theorem dX10_over_7 : decode cX10_over 7 = .ok (.bipush (-2), 2) := by decide +kernel
theorem dX10_over_9 : decode cX10_over 9 = .ok (.ireturn, 1) := by decide +kernel
theorem dX10_over_10 : decode cX10_over 10 = .ok (.aload_n 0, 1) := by decide +kernel
theorem dX10_over_11 : decode cX10_over 11 = .ok (.invokevirtual 139, 3) := by decide +kernel
theorem dX10_over_14 : decode cX10_over 14 = .ok (.astore_n 1, 1) := by decide +kernel
theorem dX10_over_15 : decode cX10_over 15 = .ok (.iconst 0, 1) := by decide +kernel
theorem dX10_over_16 : decode cX10_over 16 = .ok (.istore_n 2, 1) := by decide +kernel
theorem dX10_over_17 : decode cX10_over 17 = .ok (.iconst 0, 1) := by decide +kernel
theorem dX10_over_18 : decode cX10_over 18 = .ok (.istore_n 3, 1) := by decide +kernel
theorem dX10_over_19 : decode cX10_over 19 = .ok (.iload_n 3, 1) := by decide +kernel
theorem dX10_over_20 : decode cX10_over 20 = .ok (.aload_n 0, 1) := by decide +kernel
theorem dX10_over_21 : decode cX10_over 21 = .ok (.getfield 19, 3) := by decide +kernel
theorem dX10_over_24 : decode cX10_over 24 = .ok (.getfield 213, 3) := by decide +kernel
theorem dX10_over_27 : decode cX10_over 27 = .ok (.if_icmp .ge 38, 3) := by decide +kernel
theorem dX10_over_30 : decode cX10_over 30 = .ok (.aload_n 1, 1) := by decide +kernel
theorem dX10_over_31 : decode cX10_over 31 = .ok (.getfield 192, 3) := by decide +kernel
theorem dX10_over_34 : decode cX10_over 34 = .ok (.iload_n 3, 1) := by decide +kernel
theorem dX10_over_35 : decode cX10_over 35 = .ok (.laload, 1) := by decide +kernel
theorem dX10_over_36 : decode cX10_over 36 = .ok (.aload_n 0, 1) := by decide +kernel
theorem dX10_over_37 : decode cX10_over 37 = .ok (.getfield 19, 3) := by decide +kernel
theorem dX10_over_40 : decode cX10_over 40 = .ok (.getfield 124, 3) := by decide +kernel
theorem dX10_over_43 : decode cX10_over 43 = .ok (.i2l, 1) := by decide +kernel
theorem dX10_over_44 : decode cX10_over 44 = .ok (.aload_n 1, 1) := by decide +kernel
theorem dX10_over_45 : decode cX10_over 45 = .ok (.getfield 196, 3) := by decide +kernel
theorem dX10_over_48 : decode cX10_over 48 = .ok (.lmul, 1) := by decide +kernel
theorem dX10_over_49 : decode cX10_over 49 = .ok (.lcmp, 1) := by decide +kernel
theorem dX10_over_50 : decode cX10_over 50 = .ok (.ifCond .le 9, 3) := by decide +kernel
theorem dX10_over_53 : decode cX10_over 53 = .ok (.iload_n 2, 1) := by decide +kernel
theorem dX10_over_54 : decode cX10_over 54 = .ok (.iconst 1, 1) := by decide +kernel
theorem dX10_over_55 : decode cX10_over 55 = .ok (.iload_n 3, 1) := by decide +kernel
theorem dX10_over_56 : decode cX10_over 56 = .ok (.ishl, 1) := by decide +kernel
theorem dX10_over_57 : decode cX10_over 57 = .ok (.ior, 1) := by decide +kernel
theorem dX10_over_58 : decode cX10_over 58 = .ok (.istore_n 2, 1) := by decide +kernel
theorem dX10_over_59 : decode cX10_over 59 = .ok (.iinc 3 1, 3) := by decide +kernel
theorem dX10_over_62 : decode cX10_over 62 = .ok (.goto (-43), 3) := by decide +kernel
theorem dX10_over_65 : decode cX10_over 65 = .ok (.iload_n 2, 1) := by decide +kernel
theorem dX10_over_66 : decode cX10_over 66 = .ok (.ireturn, 1) := by decide +kernel
theorem dX10_holds_0 : decode cX10_holds 0 = .ok (.aload_n 0, 1) := by decide +kernel
theorem dX10_holds_1 : decode cX10_holds 1 = .ok (.invokevirtual 179, 3) := by decide +kernel
theorem dX10_holds_4 : decode cX10_holds 4 = .ok (.ifCond .eq 6, 3) := by decide +kernel
theorem dX10_holds_7 : decode cX10_holds 7 = .ok (.bipush (-2), 2) := by decide +kernel
theorem dX10_holds_9 : decode cX10_holds 9 = .ok (.ireturn, 1) := by decide +kernel
theorem dX10_holds_10 : decode cX10_holds 10 = .ok (.aload_n 0, 1) := by decide +kernel
theorem dX10_holds_11 : decode cX10_holds 11 = .ok (.invokevirtual 139, 3) := by decide +kernel
theorem dX10_holds_14 : decode cX10_holds 14 = .ok (.getfield 216, 3) := by decide +kernel
theorem dX10_holds_17 : decode cX10_holds 17 = .ok (.aload_n 0, 1) := by decide +kernel
theorem dX10_holds_18 : decode cX10_holds 18 = .ok (.getfield 19, 3) := by decide +kernel
theorem dX10_holds_21 : decode cX10_holds 21 = .ok (.getfield 124, 3) := by decide +kernel
theorem dX10_holds_24 : decode cX10_holds 24 = .ok (.invokevirtual 220, 3) := by decide +kernel
theorem dX10_holds_27 : decode cX10_holds 27 = .ok (.ifCond .eq 7, 3) := by decide +kernel
theorem dX10_holds_30 : decode cX10_holds 30 = .ok (.iconst 1, 1) := by decide +kernel
theorem dX10_holds_31 : decode cX10_holds 31 = .ok (.goto 4, 3) := by decide +kernel
theorem dX10_holds_34 : decode cX10_holds 34 = .ok (.iconst 0, 1) := by decide +kernel
theorem dX10_holds_35 : decode cX10_holds 35 = .ok (.ireturn, 1) := by decide +kernel
theorem dX10_loss_0 : decode cX10_loss 0 = .ok (.aload_n 0, 1) := by decide +kernel
theorem dX10_loss_1 : decode cX10_loss 1 = .ok (.invokevirtual 179, 3) := by decide +kernel
theorem dX10_loss_4 : decode cX10_loss 4 = .ok (.ifCond .ne 10, 3) := by decide +kernel
theorem dX10_loss_7 : decode cX10_loss 7 = .ok (.iload_n 1, 1) := by decide +kernel
theorem dX10_loss_8 : decode cX10_loss 8 = .ok (.invokestatic 185, 3) := by decide +kernel
theorem dX10_loss_11 : decode cX10_loss 11 = .ok (.ifCond .ne 7, 3) := by decide +kernel
theorem dX10_loss_14 : decode cX10_loss 14 = .ok (.ldc2_w 188, 3) := by decide +kernel
theorem dX10_loss_17 : decode cX10_loss 17 = .ok (.lreturn, 1) := by decide +kernel
theorem dX10_loss_18 : decode cX10_loss 18 = .ok (.aload_n 0, 1) := by decide +kernel
theorem dX10_loss_19 : decode cX10_loss 19 = .ok (.invokevirtual 139, 3) := by decide +kernel
theorem dX10_loss_22 : decode cX10_loss 22 = .ok (.astore_n 2, 1) := by decide +kernel
theorem dX10_loss_23 : decode cX10_loss 23 = .ok (.lconst 0, 1) := by decide +kernel
theorem dX10_loss_24 : decode cX10_loss 24 = .ok (.lstore_n 3, 1) := by decide +kernel
theorem dX10_loss_25 : decode cX10_loss 25 = .ok (.iconst 0, 1) := by decide +kernel
theorem dX10_loss_26 : decode cX10_loss 26 = .ok (.istore 5, 2) := by decide +kernel
theorem dX10_loss_28 : decode cX10_loss 28 = .ok (.iload 5, 2) := by decide +kernel
theorem dX10_loss_30 : decode cX10_loss 30 = .ok (.aload_n 0, 1) := by decide +kernel
theorem dX10_loss_31 : decode cX10_loss 31 = .ok (.getfield 19, 3) := by decide +kernel
theorem dX10_loss_34 : decode cX10_loss 34 = .ok (.getfield 213, 3) := by decide +kernel
theorem dX10_loss_37 : decode cX10_loss 37 = .ok (.if_icmp .ge 31, 3) := by decide +kernel
theorem dX10_loss_40 : decode cX10_loss 40 = .ok (.lload_n 3, 1) := by decide +kernel
theorem dX10_loss_41 : decode cX10_loss 41 = .ok (.aload_n 0, 1) := by decide +kernel
theorem dX10_loss_42 : decode cX10_loss 42 = .ok (.getfield 19, 3) := by decide +kernel
theorem dX10_loss_45 : decode cX10_loss 45 = .ok (.getfield 170, 3) := by decide +kernel
theorem dX10_loss_48 : decode cX10_loss 48 = .ok (.iload 5, 2) := by decide +kernel
theorem dX10_loss_50 : decode cX10_loss 50 = .ok (.iaload, 1) := by decide +kernel
theorem dX10_loss_51 : decode cX10_loss 51 = .ok (.i2l, 1) := by decide +kernel
theorem dX10_loss_52 : decode cX10_loss 52 = .ok (.aload_n 2, 1) := by decide +kernel
theorem dX10_loss_53 : decode cX10_loss 53 = .ok (.getfield 192, 3) := by decide +kernel
theorem dX10_loss_56 : decode cX10_loss 56 = .ok (.iload 5, 2) := by decide +kernel
theorem dX10_loss_58 : decode cX10_loss 58 = .ok (.laload, 1) := by decide +kernel
theorem dX10_loss_59 : decode cX10_loss 59 = .ok (.lmul, 1) := by decide +kernel
theorem dX10_loss_60 : decode cX10_loss 60 = .ok (.ladd, 1) := by decide +kernel
theorem dX10_loss_61 : decode cX10_loss 61 = .ok (.lstore_n 3, 1) := by decide +kernel
theorem dX10_loss_62 : decode cX10_loss 62 = .ok (.iinc 5 1, 3) := by decide +kernel
theorem dX10_loss_65 : decode cX10_loss 65 = .ok (.goto (-37), 3) := by decide +kernel
theorem dX10_loss_68 : decode cX10_loss 68 = .ok (.lload_n 3, 1) := by decide +kernel
theorem dX10_loss_69 : decode cX10_loss 69 = .ok (.aload_n 2, 1) := by decide +kernel
theorem dX10_loss_70 : decode cX10_loss 70 = .ok (.getfield 196, 3) := by decide +kernel
theorem dX10_loss_73 : decode cX10_loss 73 = .ok (.iload_n 1, 1) := by decide +kernel
theorem dX10_loss_74 : decode cX10_loss 74 = .ok (.invokestatic 200, 3) := by decide +kernel
theorem dX10_loss_77 : decode cX10_loss 77 = .ok (.lreturn, 1) := by decide +kernel
theorem dX10_moves_0 : decode cX10_moves 0 = .ok (.aload_n 0, 1) := by decide +kernel
theorem dX10_moves_1 : decode cX10_moves 1 = .ok (.iload_n 1, 1) := by decide +kernel
theorem dX10_moves_2 : decode cX10_moves 2 = .ok (.invokevirtual 160, 3) := by decide +kernel
theorem dX10_moves_5 : decode cX10_moves 5 = .ok (.ifCond .eq 18, 3) := by decide +kernel
theorem dX10_moves_8 : decode cX10_moves 8 = .ok (.aload_n 0, 1) := by decide +kernel
theorem dX10_moves_9 : decode cX10_moves 9 = .ok (.iload_n 2, 1) := by decide +kernel
theorem dX10_moves_10 : decode cX10_moves 10 = .ok (.invokevirtual 160, 3) := by decide +kernel
theorem dX10_moves_13 : decode cX10_moves 13 = .ok (.ifCond .eq 10, 3) := by decide +kernel
theorem dX10_moves_16 : decode cX10_moves 16 = .ok (.iload_n 3, 1) := by decide +kernel
theorem dX10_moves_17 : decode cX10_moves 17 = .ok (.invokestatic 185, 3) := by decide +kernel
theorem dX10_moves_20 : decode cX10_moves 20 = .ok (.ifCond .ne 7, 3) := by decide +kernel
theorem dX10_moves_23 : decode cX10_moves 23 = .ok (.ldc2_w 188, 3) := by decide +kernel
theorem dX10_moves_26 : decode cX10_moves 26 = .ok (.lreturn, 1) := by decide +kernel
theorem dX10_moves_27 : decode cX10_moves 27 = .ok (.aload_n 0, 1) := by decide +kernel
theorem dX10_moves_28 : decode cX10_moves 28 = .ok (.invokevirtual 139, 3) := by decide +kernel
theorem dX10_moves_31 : decode cX10_moves 31 = .ok (.iload_n 1, 1) := by decide +kernel
theorem dX10_moves_32 : decode cX10_moves 32 = .ok (.invokevirtual 176, 3) := by decide +kernel
theorem dX10_moves_35 : decode cX10_moves 35 = .ok (.ifCond .ne 14, 3) := by decide +kernel
theorem dX10_moves_38 : decode cX10_moves 38 = .ok (.aload_n 0, 1) := by decide +kernel
theorem dX10_moves_39 : decode cX10_moves 39 = .ok (.invokevirtual 139, 3) := by decide +kernel
theorem dX10_moves_42 : decode cX10_moves 42 = .ok (.iload_n 2, 1) := by decide +kernel
theorem dX10_moves_43 : decode cX10_moves 43 = .ok (.invokevirtual 176, 3) := by decide +kernel
theorem dX10_moves_46 : decode cX10_moves 46 = .ok (.ifCond .eq 7, 3) := by decide +kernel
theorem dX10_moves_49 : decode cX10_moves 49 = .ok (.ldc2_w 190, 3) := by decide +kernel
theorem dX10_moves_52 : decode cX10_moves 52 = .ok (.lreturn, 1) := by decide +kernel
theorem dX10_moves_53 : decode cX10_moves 53 = .ok (.aload_n 0, 1) := by decide +kernel
theorem dX10_moves_54 : decode cX10_moves 54 = .ok (.getfield 42, 3) := by decide +kernel
theorem dX10_moves_57 : decode cX10_moves 57 = .ok (.aload_n 0, 1) := by decide +kernel
theorem dX10_moves_58 : decode cX10_moves 58 = .ok (.getfield 19, 3) := by decide +kernel
theorem dX10_moves_61 : decode cX10_moves 61 = .ok (.aload_n 0, 1) := by decide +kernel
theorem dX10_moves_62 : decode cX10_moves 62 = .ok (.getfield 19, 3) := by decide +kernel
theorem dX10_moves_65 : decode cX10_moves 65 = .ok (.getfield 136, 3) := by decide +kernel
theorem dX10_moves_68 : decode cX10_moves 68 = .ok (.iload_n 2, 1) := by decide +kernel
theorem dX10_moves_69 : decode cX10_moves 69 = .ok (.invokevirtual 225, 3) := by decide +kernel
theorem dX10_moves_72 : decode cX10_moves 72 = .ok (.aload_n 0, 1) := by decide +kernel
theorem dX10_moves_73 : decode cX10_moves 73 = .ok (.getfield 42, 3) := by decide +kernel
theorem dX10_moves_76 : decode cX10_moves 76 = .ok (.getfield 192, 3) := by decide +kernel
theorem dX10_moves_79 : decode cX10_moves 79 = .ok (.iload_n 1, 1) := by decide +kernel
theorem dX10_moves_80 : decode cX10_moves 80 = .ok (.laload, 1) := by decide +kernel
theorem dX10_moves_81 : decode cX10_moves 81 = .ok (.aload_n 0, 1) := by decide +kernel
theorem dX10_moves_82 : decode cX10_moves 82 = .ok (.getfield 42, 3) := by decide +kernel
theorem dX10_moves_85 : decode cX10_moves 85 = .ok (.getfield 196, 3) := by decide +kernel
theorem dX10_moves_88 : decode cX10_moves 88 = .ok (.iload_n 3, 1) := by decide +kernel
theorem dX10_moves_89 : decode cX10_moves 89 = .ok (.invokestatic 200, 3) := by decide +kernel
theorem dX10_moves_92 : decode cX10_moves 92 = .ok (.lreturn, 1) := by decide +kernel
theorem dX10_resists_0 : decode cX10_resists 0 = .ok (.aload_n 0, 1) := by decide +kernel
theorem dX10_resists_1 : decode cX10_resists 1 = .ok (.iload_n 1, 1) := by decide +kernel
theorem dX10_resists_2 : decode cX10_resists 2 = .ok (.invokevirtual 160, 3) := by decide +kernel
theorem dX10_resists_5 : decode cX10_resists 5 = .ok (.ifCond .eq 18, 3) := by decide +kernel
theorem dX10_resists_8 : decode cX10_resists 8 = .ok (.aload_n 0, 1) := by decide +kernel
theorem dX10_resists_9 : decode cX10_resists 9 = .ok (.iload_n 2, 1) := by decide +kernel
theorem dX10_resists_10 : decode cX10_resists 10 = .ok (.invokevirtual 160, 3) := by decide +kernel
theorem dX10_resists_13 : decode cX10_resists 13 = .ok (.ifCond .eq 10, 3) := by decide +kernel
theorem dX10_resists_16 : decode cX10_resists 16 = .ok (.iload_n 3, 1) := by decide +kernel
theorem dX10_resists_17 : decode cX10_resists 17 = .ok (.invokestatic 185, 3) := by decide +kernel
theorem dX10_resists_20 : decode cX10_resists 20 = .ok (.ifCond .ne 7, 3) := by decide +kernel
theorem dX10_resists_23 : decode cX10_resists 23 = .ok (.ldc2_w 188, 3) := by decide +kernel
theorem dX10_resists_26 : decode cX10_resists 26 = .ok (.lreturn, 1) := by decide +kernel
theorem dX10_resists_27 : decode cX10_resists 27 = .ok (.aload_n 0, 1) := by decide +kernel
theorem dX10_resists_28 : decode cX10_resists 28 = .ok (.getfield 42, 3) := by decide +kernel
theorem dX10_resists_31 : decode cX10_resists 31 = .ok (.aload_n 0, 1) := by decide +kernel
theorem dX10_resists_32 : decode cX10_resists 32 = .ok (.getfield 19, 3) := by decide +kernel
theorem dX10_resists_35 : decode cX10_resists 35 = .ok (.iconst 1, 1) := by decide +kernel
theorem dX10_resists_36 : decode cX10_resists 36 = .ok (.iload_n 1, 1) := by decide +kernel
theorem dX10_resists_37 : decode cX10_resists 37 = .ok (.ishl, 1) := by decide +kernel
theorem dX10_resists_38 : decode cX10_resists 38 = .ok (.iload_n 2, 1) := by decide +kernel
theorem dX10_resists_39 : decode cX10_resists 39 = .ok (.invokevirtual 225, 3) := by decide +kernel
theorem dX10_resists_42 : decode cX10_resists 42 = .ok (.aload_n 0, 1) := by decide +kernel
theorem dX10_resists_43 : decode cX10_resists 43 = .ok (.getfield 42, 3) := by decide +kernel
theorem dX10_resists_46 : decode cX10_resists 46 = .ok (.iload_n 2, 1) := by decide +kernel
theorem dX10_resists_47 : decode cX10_resists 47 = .ok (.invokevirtual 176, 3) := by decide +kernel
theorem dX10_resists_50 : decode cX10_resists 50 = .ok (.ifCond .eq 9, 3) := by decide +kernel
theorem dX10_resists_53 : decode cX10_resists 53 = .ok (.ldc2_w 190, 3) := by decide +kernel
theorem dX10_resists_56 : decode cX10_resists 56 = .ok (.goto 23, 3) := by decide +kernel
theorem dX10_resists_59 : decode cX10_resists 59 = .ok (.aload_n 0, 1) := by decide +kernel
theorem dX10_resists_60 : decode cX10_resists 60 = .ok (.getfield 42, 3) := by decide +kernel
theorem dX10_resists_63 : decode cX10_resists 63 = .ok (.getfield 192, 3) := by decide +kernel
theorem dX10_resists_66 : decode cX10_resists 66 = .ok (.iload_n 2, 1) := by decide +kernel
theorem dX10_resists_67 : decode cX10_resists 67 = .ok (.laload, 1) := by decide +kernel
theorem dX10_resists_68 : decode cX10_resists 68 = .ok (.aload_n 0, 1) := by decide +kernel
theorem dX10_resists_69 : decode cX10_resists 69 = .ok (.getfield 42, 3) := by decide +kernel
theorem dX10_resists_72 : decode cX10_resists 72 = .ok (.getfield 196, 3) := by decide +kernel
theorem dX10_resists_75 : decode cX10_resists 75 = .ok (.iload_n 3, 1) := by decide +kernel
theorem dX10_resists_76 : decode cX10_resists 76 = .ok (.invokestatic 200, 3) := by decide +kernel
theorem dX10_resists_79 : decode cX10_resists 79 = .ok (.lreturn, 1) := by decide +kernel
theorem dX10_most_0 : decode cX10_most 0 = .ok (.aload_n 0, 1) := by decide +kernel
theorem dX10_most_1 : decode cX10_most 1 = .ok (.iload_n 1, 1) := by decide +kernel
theorem dX10_most_2 : decode cX10_most 2 = .ok (.invokevirtual 160, 3) := by decide +kernel
theorem dX10_most_5 : decode cX10_most 5 = .ok (.ifCond .eq 10, 3) := by decide +kernel
theorem dX10_most_8 : decode cX10_most 8 = .ok (.iload_n 2, 1) := by decide +kernel
theorem dX10_most_9 : decode cX10_most 9 = .ok (.invokestatic 185, 3) := by decide +kernel
theorem dX10_most_12 : decode cX10_most 12 = .ok (.ifCond .ne 7, 3) := by decide +kernel
theorem dX10_most_15 : decode cX10_most 15 = .ok (.ldc2_w 188, 3) := by decide +kernel
theorem dX10_most_18 : decode cX10_most 18 = .ok (.lreturn, 1) := by decide +kernel
theorem dX10_most_19 : decode cX10_most 19 = .ok (.aload_n 0, 1) := by decide +kernel
theorem dX10_most_20 : decode cX10_most 20 = .ok (.invokevirtual 139, 3) := by decide +kernel
theorem dX10_most_23 : decode cX10_most 23 = .ok (.iload_n 1, 1) := by decide +kernel
theorem dX10_most_24 : decode cX10_most 24 = .ok (.invokevirtual 176, 3) := by decide +kernel
theorem dX10_most_27 : decode cX10_most 27 = .ok (.ifCond .eq 7, 3) := by decide +kernel
theorem dX10_most_30 : decode cX10_most 30 = .ok (.ldc2_w 190, 3) := by decide +kernel
theorem dX10_most_33 : decode cX10_most 33 = .ok (.lreturn, 1) := by decide +kernel
theorem dX10_most_34 : decode cX10_most 34 = .ok (.aload_n 0, 1) := by decide +kernel
theorem dX10_most_35 : decode cX10_most 35 = .ok (.getfield 48, 3) := by decide +kernel
theorem dX10_most_38 : decode cX10_most 38 = .ok (.aload_n 0, 1) := by decide +kernel
theorem dX10_most_39 : decode cX10_most 39 = .ok (.getfield 19, 3) := by decide +kernel
theorem dX10_most_42 : decode cX10_most 42 = .ok (.iload_n 1, 1) := by decide +kernel
theorem dX10_most_43 : decode cX10_most 43 = .ok (.invokevirtual 229, 3) := by decide +kernel
theorem dX10_most_46 : decode cX10_most 46 = .ok (.aload_n 0, 1) := by decide +kernel
theorem dX10_most_47 : decode cX10_most 47 = .ok (.getfield 48, 3) := by decide +kernel
theorem dX10_most_50 : decode cX10_most 50 = .ok (.getfield 233, 3) := by decide +kernel
theorem dX10_most_53 : decode cX10_most 53 = .ok (.aload_n 0, 1) := by decide +kernel
theorem dX10_most_54 : decode cX10_most 54 = .ok (.getfield 48, 3) := by decide +kernel
theorem dX10_most_57 : decode cX10_most 57 = .ok (.getfield 235, 3) := by decide +kernel
theorem dX10_most_60 : decode cX10_most 60 = .ok (.iload_n 2, 1) := by decide +kernel
theorem dX10_most_61 : decode cX10_most 61 = .ok (.invokestatic 200, 3) := by decide +kernel
theorem dX10_most_64 : decode cX10_most 64 = .ok (.lreturn, 1) := by decide +kernel
theorem dX10_drawn_0 : decode cX10_drawn 0 = .ok (.aload_n 0, 1) := by decide +kernel
theorem dX10_drawn_1 : decode cX10_drawn 1 = .ok (.iload_n 1, 1) := by decide +kernel
theorem dX10_drawn_2 : decode cX10_drawn 2 = .ok (.invokevirtual 160, 3) := by decide +kernel
theorem dX10_drawn_5 : decode cX10_drawn 5 = .ok (.ifCond .eq 11, 3) := by decide +kernel
theorem dX10_drawn_8 : decode cX10_drawn 8 = .ok (.aload_n 0, 1) := by decide +kernel
theorem dX10_drawn_9 : decode cX10_drawn 9 = .ok (.iload_n 2, 1) := by decide +kernel
theorem dX10_drawn_10 : decode cX10_drawn 10 = .ok (.invokevirtual 160, 3) := by decide +kernel
theorem dX10_drawn_13 : decode cX10_drawn 13 = .ok (.ifCond .ne 6, 3) := by decide +kernel
theorem dX10_drawn_16 : decode cX10_drawn 16 = .ok (.bipush (-2), 2) := by decide +kernel
theorem dX10_drawn_18 : decode cX10_drawn 18 = .ok (.ireturn, 1) := by decide +kernel
theorem dX10_drawn_19 : decode cX10_drawn 19 = .ok (.aload_n 0, 1) := by decide +kernel
theorem dX10_drawn_20 : decode cX10_drawn 20 = .ok (.invokevirtual 139, 3) := by decide +kernel
theorem dX10_drawn_23 : decode cX10_drawn 23 = .ok (.iload_n 1, 1) := by decide +kernel
theorem dX10_drawn_24 : decode cX10_drawn 24 = .ok (.invokevirtual 176, 3) := by decide +kernel
theorem dX10_drawn_27 : decode cX10_drawn 27 = .ok (.ifCond .eq 5, 3) := by decide +kernel
theorem dX10_drawn_30 : decode cX10_drawn 30 = .ok (.iconst (-1), 1) := by decide +kernel
theorem dX10_drawn_31 : decode cX10_drawn 31 = .ok (.ireturn, 1) := by decide +kernel
theorem dX10_drawn_32 : decode cX10_drawn 32 = .ok (.aload_n 0, 1) := by decide +kernel
theorem dX10_drawn_33 : decode cX10_drawn 33 = .ok (.getfield 48, 3) := by decide +kernel
theorem dX10_drawn_36 : decode cX10_drawn 36 = .ok (.aload_n 0, 1) := by decide +kernel
theorem dX10_drawn_37 : decode cX10_drawn 37 = .ok (.getfield 19, 3) := by decide +kernel
theorem dX10_drawn_40 : decode cX10_drawn 40 = .ok (.iload_n 1, 1) := by decide +kernel
theorem dX10_drawn_41 : decode cX10_drawn 41 = .ok (.invokevirtual 229, 3) := by decide +kernel
theorem dX10_drawn_44 : decode cX10_drawn 44 = .ok (.aload_n 0, 1) := by decide +kernel
theorem dX10_drawn_45 : decode cX10_drawn 45 = .ok (.getfield 48, 3) := by decide +kernel
theorem dX10_drawn_48 : decode cX10_drawn 48 = .ok (.getfield 236, 3) := by decide +kernel
theorem dX10_drawn_51 : decode cX10_drawn 51 = .ok (.iload_n 2, 1) := by decide +kernel
theorem dX10_drawn_52 : decode cX10_drawn 52 = .ok (.iaload, 1) := by decide +kernel
theorem dX10_drawn_53 : decode cX10_drawn 53 = .ok (.ireturn, 1) := by decide +kernel
theorem dX10_foe_0 : decode cX10_foe 0 = .ok (.aload_n 0, 1) := by decide +kernel
theorem dX10_foe_1 : decode cX10_foe 1 = .ok (.invokevirtual 179, 3) := by decide +kernel
theorem dX10_foe_4 : decode cX10_foe 4 = .ok (.ifCond .eq 6, 3) := by decide +kernel
theorem dX10_foe_7 : decode cX10_foe 7 = .ok (.bipush (-2), 2) := by decide +kernel
theorem dX10_foe_9 : decode cX10_foe 9 = .ok (.ireturn, 1) := by decide +kernel
theorem dX10_foe_10 : decode cX10_foe 10 = .ok (.iconst (-1), 1) := by decide +kernel
theorem dX10_foe_11 : decode cX10_foe 11 = .ok (.istore_n 1, 1) := by decide +kernel
theorem dX10_foe_12 : decode cX10_foe 12 = .ok (.lconst 0, 1) := by decide +kernel
theorem dX10_foe_13 : decode cX10_foe 13 = .ok (.lstore_n 2, 1) := by decide +kernel
theorem dX10_foe_14 : decode cX10_foe 14 = .ok (.lconst 1, 1) := by decide +kernel
theorem dX10_foe_15 : decode cX10_foe 15 = .ok (.lstore 4, 2) := by decide +kernel
theorem dX10_foe_17 : decode cX10_foe 17 = .ok (.iconst 0, 1) := by decide +kernel
theorem dX10_foe_18 : decode cX10_foe 18 = .ok (.istore 6, 2) := by decide +kernel
theorem dX10_foe_20 : decode cX10_foe 20 = .ok (.iload 6, 2) := by decide +kernel
theorem dX10_foe_22 : decode cX10_foe 22 = .ok (.aload_n 0, 1) := by decide +kernel
theorem dX10_foe_23 : decode cX10_foe 23 = .ok (.getfield 19, 3) := by decide +kernel
theorem dX10_foe_26 : decode cX10_foe 26 = .ok (.getfield 213, 3) := by decide +kernel
theorem dX10_foe_29 : decode cX10_foe 29 = .ok (.if_icmp .ge 82, 3) := by decide +kernel
theorem dX10_foe_32 : decode cX10_foe 32 = .ok (.aload_n 0, 1) := by decide +kernel
theorem dX10_foe_33 : decode cX10_foe 33 = .ok (.invokevirtual 139, 3) := by decide +kernel
theorem dX10_foe_36 : decode cX10_foe 36 = .ok (.iload 6, 2) := by decide +kernel
theorem dX10_foe_38 : decode cX10_foe 38 = .ok (.invokevirtual 176, 3) := by decide +kernel
theorem dX10_foe_41 : decode cX10_foe 41 = .ok (.ifCond .ne 64, 3) := by decide +kernel
theorem dX10_foe_44 : decode cX10_foe 44 = .ok (.aload_n 0, 1) := by decide +kernel
theorem dX10_foe_45 : decode cX10_foe 45 = .ok (.getfield 48, 3) := by decide +kernel
theorem dX10_foe_48 : decode cX10_foe 48 = .ok (.aload_n 0, 1) := by decide +kernel
theorem dX10_foe_49 : decode cX10_foe 49 = .ok (.getfield 19, 3) := by decide +kernel
theorem dX10_foe_52 : decode cX10_foe 52 = .ok (.iload 6, 2) := by decide +kernel
theorem dX10_foe_54 : decode cX10_foe 54 = .ok (.invokevirtual 229, 3) := by decide +kernel
theorem dX10_foe_57 : decode cX10_foe 57 = .ok (.iload_n 1, 1) := by decide +kernel
theorem dX10_foe_58 : decode cX10_foe 58 = .ok (.iconst (-1), 1) := by decide +kernel
theorem dX10_foe_59 : decode cX10_foe 59 = .ok (.if_icmp .eq 26, 3) := by decide +kernel
theorem dX10_foe_62 : decode cX10_foe 62 = .ok (.aload_n 0, 1) := by decide +kernel
theorem dX10_foe_63 : decode cX10_foe 63 = .ok (.getfield 48, 3) := by decide +kernel
theorem dX10_foe_66 : decode cX10_foe 66 = .ok (.getfield 233, 3) := by decide +kernel
theorem dX10_foe_69 : decode cX10_foe 69 = .ok (.lload 4, 2) := by decide +kernel
theorem dX10_foe_71 : decode cX10_foe 71 = .ok (.lmul, 1) := by decide +kernel
theorem dX10_foe_72 : decode cX10_foe 72 = .ok (.lload_n 2, 1) := by decide +kernel
theorem dX10_foe_73 : decode cX10_foe 73 = .ok (.aload_n 0, 1) := by decide +kernel
theorem dX10_foe_74 : decode cX10_foe 74 = .ok (.getfield 48, 3) := by decide +kernel
theorem dX10_foe_77 : decode cX10_foe 77 = .ok (.getfield 235, 3) := by decide +kernel
theorem dX10_foe_80 : decode cX10_foe 80 = .ok (.lmul, 1) := by decide +kernel
theorem dX10_foe_81 : decode cX10_foe 81 = .ok (.lcmp, 1) := by decide +kernel
theorem dX10_foe_82 : decode cX10_foe 82 = .ok (.ifCond .le 23, 3) := by decide +kernel
theorem dX10_foe_85 : decode cX10_foe 85 = .ok (.iload 6, 2) := by decide +kernel
theorem dX10_foe_87 : decode cX10_foe 87 = .ok (.istore_n 1, 1) := by decide +kernel
theorem dX10_foe_88 : decode cX10_foe 88 = .ok (.aload_n 0, 1) := by decide +kernel
theorem dX10_foe_89 : decode cX10_foe 89 = .ok (.getfield 48, 3) := by decide +kernel
theorem dX10_foe_92 : decode cX10_foe 92 = .ok (.getfield 233, 3) := by decide +kernel
theorem dX10_foe_95 : decode cX10_foe 95 = .ok (.lstore_n 2, 1) := by decide +kernel
theorem dX10_foe_96 : decode cX10_foe 96 = .ok (.aload_n 0, 1) := by decide +kernel
theorem dX10_foe_97 : decode cX10_foe 97 = .ok (.getfield 48, 3) := by decide +kernel
theorem dX10_foe_100 : decode cX10_foe 100 = .ok (.getfield 235, 3) := by decide +kernel
theorem dX10_foe_103 : decode cX10_foe 103 = .ok (.lstore 4, 2) := by decide +kernel
theorem dX10_foe_105 : decode cX10_foe 105 = .ok (.iinc 6 1, 3) := by decide +kernel
theorem dX10_foe_108 : decode cX10_foe 108 = .ok (.goto (-88), 3) := by decide +kernel
theorem dX10_foe_111 : decode cX10_foe 111 = .ok (.iload_n 1, 1) := by decide +kernel
theorem dX10_foe_112 : decode cX10_foe 112 = .ok (.ireturn, 1) := by decide +kernel
theorem dX10_unsafe_0 : decode cX10_unsafe 0 = .ok (.aload_n 0, 1) := by decide +kernel
theorem dX10_unsafe_1 : decode cX10_unsafe 1 = .ok (.invokevirtual 179, 3) := by decide +kernel
theorem dX10_unsafe_4 : decode cX10_unsafe 4 = .ok (.ifCond .eq 6, 3) := by decide +kernel
theorem dX10_unsafe_7 : decode cX10_unsafe 7 = .ok (.bipush (-2), 2) := by decide +kernel
theorem dX10_unsafe_9 : decode cX10_unsafe 9 = .ok (.ireturn, 1) := by decide +kernel
theorem dX10_unsafe_10 : decode cX10_unsafe 10 = .ok (.iconst 0, 1) := by decide +kernel
theorem dX10_unsafe_11 : decode cX10_unsafe 11 = .ok (.istore_n 1, 1) := by decide +kernel
theorem dX10_unsafe_12 : decode cX10_unsafe 12 = .ok (.iconst 0, 1) := by decide +kernel
theorem dX10_unsafe_13 : decode cX10_unsafe 13 = .ok (.istore_n 2, 1) := by decide +kernel
theorem dX10_unsafe_14 : decode cX10_unsafe 14 = .ok (.iload_n 2, 1) := by decide +kernel
theorem dX10_unsafe_15 : decode cX10_unsafe 15 = .ok (.aload_n 0, 1) := by decide +kernel
theorem dX10_unsafe_16 : decode cX10_unsafe 16 = .ok (.getfield 19, 3) := by decide +kernel
theorem dX10_unsafe_19 : decode cX10_unsafe 19 = .ok (.getfield 213, 3) := by decide +kernel
theorem dX10_unsafe_22 : decode cX10_unsafe 22 = .ok (.if_icmp .ge 65, 3) := by decide +kernel
theorem dX10_unsafe_25 : decode cX10_unsafe 25 = .ok (.aload_n 0, 1) := by decide +kernel
theorem dX10_unsafe_26 : decode cX10_unsafe 26 = .ok (.invokevirtual 139, 3) := by decide +kernel
theorem dX10_unsafe_29 : decode cX10_unsafe 29 = .ok (.iload_n 2, 1) := by decide +kernel
theorem dX10_unsafe_30 : decode cX10_unsafe 30 = .ok (.invokevirtual 176, 3) := by decide +kernel
theorem dX10_unsafe_33 : decode cX10_unsafe 33 = .ok (.ifCond .ne 48, 3) := by decide +kernel
theorem dX10_unsafe_36 : decode cX10_unsafe 36 = .ok (.aload_n 0, 1) := by decide +kernel
theorem dX10_unsafe_37 : decode cX10_unsafe 37 = .ok (.getfield 48, 3) := by decide +kernel
theorem dX10_unsafe_40 : decode cX10_unsafe 40 = .ok (.aload_n 0, 1) := by decide +kernel
theorem dX10_unsafe_41 : decode cX10_unsafe 41 = .ok (.getfield 19, 3) := by decide +kernel
theorem dX10_unsafe_44 : decode cX10_unsafe 44 = .ok (.iload_n 2, 1) := by decide +kernel
theorem dX10_unsafe_45 : decode cX10_unsafe 45 = .ok (.invokevirtual 229, 3) := by decide +kernel
theorem dX10_unsafe_48 : decode cX10_unsafe 48 = .ok (.aload_n 0, 1) := by decide +kernel
theorem dX10_unsafe_49 : decode cX10_unsafe 49 = .ok (.getfield 48, 3) := by decide +kernel
theorem dX10_unsafe_52 : decode cX10_unsafe 52 = .ok (.getfield 233, 3) := by decide +kernel
theorem dX10_unsafe_55 : decode cX10_unsafe 55 = .ok (.aload_n 0, 1) := by decide +kernel
theorem dX10_unsafe_56 : decode cX10_unsafe 56 = .ok (.getfield 19, 3) := by decide +kernel
theorem dX10_unsafe_59 : decode cX10_unsafe 59 = .ok (.getfield 124, 3) := by decide +kernel
theorem dX10_unsafe_62 : decode cX10_unsafe 62 = .ok (.i2l, 1) := by decide +kernel
theorem dX10_unsafe_63 : decode cX10_unsafe 63 = .ok (.aload_n 0, 1) := by decide +kernel
theorem dX10_unsafe_64 : decode cX10_unsafe 64 = .ok (.getfield 48, 3) := by decide +kernel
theorem dX10_unsafe_67 : decode cX10_unsafe 67 = .ok (.getfield 235, 3) := by decide +kernel
theorem dX10_unsafe_70 : decode cX10_unsafe 70 = .ok (.lmul, 1) := by decide +kernel
theorem dX10_unsafe_71 : decode cX10_unsafe 71 = .ok (.lcmp, 1) := by decide +kernel
theorem dX10_unsafe_72 : decode cX10_unsafe 72 = .ok (.ifCond .le 9, 3) := by decide +kernel
theorem dX10_unsafe_75 : decode cX10_unsafe 75 = .ok (.iload_n 1, 1) := by decide +kernel
theorem dX10_unsafe_76 : decode cX10_unsafe 76 = .ok (.iconst 1, 1) := by decide +kernel
theorem dX10_unsafe_77 : decode cX10_unsafe 77 = .ok (.iload_n 2, 1) := by decide +kernel
theorem dX10_unsafe_78 : decode cX10_unsafe 78 = .ok (.ishl, 1) := by decide +kernel
theorem dX10_unsafe_79 : decode cX10_unsafe 79 = .ok (.ior, 1) := by decide +kernel
theorem dX10_unsafe_80 : decode cX10_unsafe 80 = .ok (.istore_n 1, 1) := by decide +kernel
theorem dX10_unsafe_81 : decode cX10_unsafe 81 = .ok (.iinc 2 1, 3) := by decide +kernel
theorem dX10_unsafe_84 : decode cX10_unsafe 84 = .ok (.goto (-70), 3) := by decide +kernel
theorem dX10_unsafe_87 : decode cX10_unsafe 87 = .ok (.iload_n 1, 1) := by decide +kernel
theorem dX10_unsafe_88 : decode cX10_unsafe 88 = .ok (.ireturn, 1) := by decide +kernel
theorem dX10_tight_0 : decode cX10_tight 0 = .ok (.aload_n 0, 1) := by decide +kernel
theorem dX10_tight_1 : decode cX10_tight 1 = .ok (.iload_n 1, 1) := by decide +kernel
theorem dX10_tight_2 : decode cX10_tight 2 = .ok (.invokevirtual 160, 3) := by decide +kernel
theorem dX10_tight_5 : decode cX10_tight 5 = .ok (.ifCond .ne 6, 3) := by decide +kernel
theorem dX10_tight_8 : decode cX10_tight 8 = .ok (.bipush (-2), 2) := by decide +kernel
theorem dX10_tight_10 : decode cX10_tight 10 = .ok (.ireturn, 1) := by decide +kernel
theorem dX10_tight_11 : decode cX10_tight 11 = .ok (.aload_n 0, 1) := by decide +kernel
theorem dX10_tight_12 : decode cX10_tight 12 = .ok (.invokevirtual 139, 3) := by decide +kernel
theorem dX10_tight_15 : decode cX10_tight 15 = .ok (.iload_n 1, 1) := by decide +kernel
theorem dX10_tight_16 : decode cX10_tight 16 = .ok (.invokevirtual 176, 3) := by decide +kernel
theorem dX10_tight_19 : decode cX10_tight 19 = .ok (.ifCond .eq 5, 3) := by decide +kernel
theorem dX10_tight_22 : decode cX10_tight 22 = .ok (.iconst (-1), 1) := by decide +kernel
theorem dX10_tight_23 : decode cX10_tight 23 = .ok (.ireturn, 1) := by decide +kernel
theorem dX10_tight_24 : decode cX10_tight 24 = .ok (.aload_n 0, 1) := by decide +kernel
theorem dX10_tight_25 : decode cX10_tight 25 = .ok (.getfield 48, 3) := by decide +kernel
theorem dX10_tight_28 : decode cX10_tight 28 = .ok (.aload_n 0, 1) := by decide +kernel
theorem dX10_tight_29 : decode cX10_tight 29 = .ok (.getfield 19, 3) := by decide +kernel
theorem dX10_tight_32 : decode cX10_tight 32 = .ok (.iload_n 1, 1) := by decide +kernel
theorem dX10_tight_33 : decode cX10_tight 33 = .ok (.invokevirtual 229, 3) := by decide +kernel
theorem dX10_tight_36 : decode cX10_tight 36 = .ok (.iconst 0, 1) := by decide +kernel
theorem dX10_tight_37 : decode cX10_tight 37 = .ok (.istore_n 2, 1) := by decide +kernel
theorem dX10_tight_38 : decode cX10_tight 38 = .ok (.iconst 0, 1) := by decide +kernel
theorem dX10_tight_39 : decode cX10_tight 39 = .ok (.istore_n 3, 1) := by decide +kernel
theorem dX10_tight_40 : decode cX10_tight 40 = .ok (.iload_n 3, 1) := by decide +kernel
theorem dX10_tight_41 : decode cX10_tight 41 = .ok (.iconst 4, 1) := by decide +kernel
theorem dX10_tight_42 : decode cX10_tight 42 = .ok (.if_icmp .ge 27, 3) := by decide +kernel
theorem dX10_tight_45 : decode cX10_tight 45 = .ok (.aload_n 0, 1) := by decide +kernel
theorem dX10_tight_46 : decode cX10_tight 46 = .ok (.getfield 48, 3) := by decide +kernel
theorem dX10_tight_49 : decode cX10_tight 49 = .ok (.getfield 239, 3) := by decide +kernel
theorem dX10_tight_52 : decode cX10_tight 52 = .ok (.iload_n 3, 1) := by decide +kernel
theorem dX10_tight_53 : decode cX10_tight 53 = .ok (.iaload, 1) := by decide +kernel
theorem dX10_tight_54 : decode cX10_tight 54 = .ok (.ifCond .ne 9, 3) := by decide +kernel
theorem dX10_tight_57 : decode cX10_tight 57 = .ok (.iload_n 2, 1) := by decide +kernel
theorem dX10_tight_58 : decode cX10_tight 58 = .ok (.iconst 1, 1) := by decide +kernel
theorem dX10_tight_59 : decode cX10_tight 59 = .ok (.iload_n 3, 1) := by decide +kernel
theorem dX10_tight_60 : decode cX10_tight 60 = .ok (.ishl, 1) := by decide +kernel
theorem dX10_tight_61 : decode cX10_tight 61 = .ok (.ior, 1) := by decide +kernel
theorem dX10_tight_62 : decode cX10_tight 62 = .ok (.istore_n 2, 1) := by decide +kernel
theorem dX10_tight_63 : decode cX10_tight 63 = .ok (.iinc 3 1, 3) := by decide +kernel
theorem dX10_tight_66 : decode cX10_tight 66 = .ok (.goto (-26), 3) := by decide +kernel
theorem dX10_tight_69 : decode cX10_tight 69 = .ok (.iload_n 2, 1) := by decide +kernel
theorem dX10_tight_70 : decode cX10_tight 70 = .ok (.ireturn, 1) := by decide +kernel
theorem dX10_share_0 : decode cX10_share 0 = .ok (.aload_n 0, 1) := by decide +kernel
theorem dX10_share_1 : decode cX10_share 1 = .ok (.iload_n 1, 1) := by decide +kernel
theorem dX10_share_2 : decode cX10_share 2 = .ok (.invokevirtual 160, 3) := by decide +kernel
theorem dX10_share_5 : decode cX10_share 5 = .ok (.ifCond .eq 18, 3) := by decide +kernel
theorem dX10_share_8 : decode cX10_share 8 = .ok (.aload_n 0, 1) := by decide +kernel
theorem dX10_share_9 : decode cX10_share 9 = .ok (.iload_n 2, 1) := by decide +kernel
theorem dX10_share_10 : decode cX10_share 10 = .ok (.invokevirtual 160, 3) := by decide +kernel
theorem dX10_share_13 : decode cX10_share 13 = .ok (.ifCond .eq 10, 3) := by decide +kernel
theorem dX10_share_16 : decode cX10_share 16 = .ok (.iload_n 3, 1) := by decide +kernel
theorem dX10_share_17 : decode cX10_share 17 = .ok (.invokestatic 185, 3) := by decide +kernel
theorem dX10_share_20 : decode cX10_share 20 = .ok (.ifCond .ne 7, 3) := by decide +kernel
theorem dX10_share_23 : decode cX10_share 23 = .ok (.ldc2_w 188, 3) := by decide +kernel
theorem dX10_share_26 : decode cX10_share 26 = .ok (.lreturn, 1) := by decide +kernel
theorem dX10_share_27 : decode cX10_share 27 = .ok (.aload_n 0, 1) := by decide +kernel
theorem dX10_share_28 : decode cX10_share 28 = .ok (.invokevirtual 139, 3) := by decide +kernel
theorem dX10_share_31 : decode cX10_share 31 = .ok (.iload_n 1, 1) := by decide +kernel
theorem dX10_share_32 : decode cX10_share 32 = .ok (.invokevirtual 176, 3) := by decide +kernel
theorem dX10_share_35 : decode cX10_share 35 = .ok (.ifCond .ne 14, 3) := by decide +kernel
theorem dX10_share_38 : decode cX10_share 38 = .ok (.aload_n 0, 1) := by decide +kernel
theorem dX10_share_39 : decode cX10_share 39 = .ok (.invokevirtual 139, 3) := by decide +kernel
theorem dX10_share_42 : decode cX10_share 42 = .ok (.iload_n 2, 1) := by decide +kernel
theorem dX10_share_43 : decode cX10_share 43 = .ok (.invokevirtual 176, 3) := by decide +kernel
theorem dX10_share_46 : decode cX10_share 46 = .ok (.ifCond .eq 7, 3) := by decide +kernel
theorem dX10_share_49 : decode cX10_share 49 = .ok (.ldc2_w 190, 3) := by decide +kernel
theorem dX10_share_52 : decode cX10_share 52 = .ok (.lreturn, 1) := by decide +kernel
theorem dX10_share_53 : decode cX10_share 53 = .ok (.aload_n 0, 1) := by decide +kernel
theorem dX10_share_54 : decode cX10_share 54 = .ok (.getfield 42, 3) := by decide +kernel
theorem dX10_share_57 : decode cX10_share 57 = .ok (.aload_n 0, 1) := by decide +kernel
theorem dX10_share_58 : decode cX10_share 58 = .ok (.getfield 19, 3) := by decide +kernel
theorem dX10_share_61 : decode cX10_share 61 = .ok (.aload_n 0, 1) := by decide +kernel
theorem dX10_share_62 : decode cX10_share 62 = .ok (.getfield 19, 3) := by decide +kernel
theorem dX10_share_65 : decode cX10_share 65 = .ok (.getfield 136, 3) := by decide +kernel
theorem dX10_share_68 : decode cX10_share 68 = .ok (.iload_n 1, 1) := by decide +kernel
theorem dX10_share_69 : decode cX10_share 69 = .ok (.invokevirtual 225, 3) := by decide +kernel
theorem dX10_share_72 : decode cX10_share 72 = .ok (.lconst 0, 1) := by decide +kernel
theorem dX10_share_73 : decode cX10_share 73 = .ok (.lstore 4, 2) := by decide +kernel
theorem dX10_share_75 : decode cX10_share 75 = .ok (.iconst 0, 1) := by decide +kernel
theorem dX10_share_76 : decode cX10_share 76 = .ok (.istore 6, 2) := by decide +kernel
theorem dX10_share_78 : decode cX10_share 78 = .ok (.iload 6, 2) := by decide +kernel
theorem dX10_share_80 : decode cX10_share 80 = .ok (.aload_n 0, 1) := by decide +kernel
theorem dX10_share_81 : decode cX10_share 81 = .ok (.getfield 19, 3) := by decide +kernel
theorem dX10_share_84 : decode cX10_share 84 = .ok (.getfield 213, 3) := by decide +kernel
theorem dX10_share_87 : decode cX10_share 87 = .ok (.if_icmp .ge 36, 3) := by decide +kernel
theorem dX10_share_90 : decode cX10_share 90 = .ok (.lload 4, 2) := by decide +kernel
theorem dX10_share_92 : decode cX10_share 92 = .ok (.aload_n 0, 1) := by decide +kernel
theorem dX10_share_93 : decode cX10_share 93 = .ok (.getfield 19, 3) := by decide +kernel
theorem dX10_share_96 : decode cX10_share 96 = .ok (.getfield 170, 3) := by decide +kernel
theorem dX10_share_99 : decode cX10_share 99 = .ok (.iload 6, 2) := by decide +kernel
theorem dX10_share_101 : decode cX10_share 101 = .ok (.iaload, 1) := by decide +kernel
theorem dX10_share_102 : decode cX10_share 102 = .ok (.i2l, 1) := by decide +kernel
theorem dX10_share_103 : decode cX10_share 103 = .ok (.aload_n 0, 1) := by decide +kernel
theorem dX10_share_104 : decode cX10_share 104 = .ok (.getfield 42, 3) := by decide +kernel
theorem dX10_share_107 : decode cX10_share 107 = .ok (.getfield 192, 3) := by decide +kernel
theorem dX10_share_110 : decode cX10_share 110 = .ok (.iload 6, 2) := by decide +kernel
theorem dX10_share_112 : decode cX10_share 112 = .ok (.laload, 1) := by decide +kernel
theorem dX10_share_113 : decode cX10_share 113 = .ok (.lmul, 1) := by decide +kernel
theorem dX10_share_114 : decode cX10_share 114 = .ok (.ladd, 1) := by decide +kernel
theorem dX10_share_115 : decode cX10_share 115 = .ok (.lstore 4, 2) := by decide +kernel
theorem dX10_share_117 : decode cX10_share 117 = .ok (.iinc 6 1, 3) := by decide +kernel
theorem dX10_share_120 : decode cX10_share 120 = .ok (.goto (-42), 3) := by decide +kernel
theorem dX10_share_123 : decode cX10_share 123 = .ok (.lload 4, 2) := by decide +kernel
theorem dX10_share_125 : decode cX10_share 125 = .ok (.lconst 0, 1) := by decide +kernel
theorem dX10_share_126 : decode cX10_share 126 = .ok (.lcmp, 1) := by decide +kernel
theorem dX10_share_127 : decode cX10_share 127 = .ok (.ifCond .ne 10, 3) := by decide +kernel
theorem dX10_share_130 : decode cX10_share 130 = .ok (.lconst 0, 1) := by decide +kernel
theorem dX10_share_131 : decode cX10_share 131 = .ok (.lconst 1, 1) := by decide +kernel
theorem dX10_share_132 : decode cX10_share 132 = .ok (.iload_n 3, 1) := by decide +kernel
theorem dX10_share_133 : decode cX10_share 133 = .ok (.invokestatic 200, 3) := by decide +kernel
theorem dX10_share_136 : decode cX10_share 136 = .ok (.lreturn, 1) := by decide +kernel
theorem dX10_share_137 : decode cX10_share 137 = .ok (.aload_n 0, 1) := by decide +kernel
theorem dX10_share_138 : decode cX10_share 138 = .ok (.getfield 19, 3) := by decide +kernel
theorem dX10_share_141 : decode cX10_share 141 = .ok (.getfield 170, 3) := by decide +kernel
theorem dX10_share_144 : decode cX10_share 144 = .ok (.iload_n 2, 1) := by decide +kernel
theorem dX10_share_145 : decode cX10_share 145 = .ok (.iaload, 1) := by decide +kernel
theorem dX10_share_146 : decode cX10_share 146 = .ok (.i2l, 1) := by decide +kernel
theorem dX10_share_147 : decode cX10_share 147 = .ok (.aload_n 0, 1) := by decide +kernel
theorem dX10_share_148 : decode cX10_share 148 = .ok (.getfield 42, 3) := by decide +kernel
theorem dX10_share_151 : decode cX10_share 151 = .ok (.getfield 192, 3) := by decide +kernel
theorem dX10_share_154 : decode cX10_share 154 = .ok (.iload_n 2, 1) := by decide +kernel
theorem dX10_share_155 : decode cX10_share 155 = .ok (.laload, 1) := by decide +kernel
theorem dX10_share_156 : decode cX10_share 156 = .ok (.lmul, 1) := by decide +kernel
theorem dX10_share_157 : decode cX10_share 157 = .ok (.lload 4, 2) := by decide +kernel
theorem dX10_share_159 : decode cX10_share 159 = .ok (.iload_n 3, 1) := by decide +kernel
theorem dX10_share_160 : decode cX10_share 160 = .ok (.invokestatic 200, 3) := by decide +kernel
theorem dX10_share_163 : decode cX10_share 163 = .ok (.lreturn, 1) := by decide +kernel
theorem dX10_feeder_0 : decode cX10_feeder 0 = .ok (.aload_n 0, 1) := by decide +kernel
theorem dX10_feeder_1 : decode cX10_feeder 1 = .ok (.iload_n 1, 1) := by decide +kernel
theorem dX10_feeder_2 : decode cX10_feeder 2 = .ok (.invokevirtual 160, 3) := by decide +kernel
theorem dX10_feeder_5 : decode cX10_feeder 5 = .ok (.ifCond .eq 7, 3) := by decide +kernel
theorem dX10_feeder_8 : decode cX10_feeder 8 = .ok (.iload_n 2, 1) := by decide +kernel
theorem dX10_feeder_9 : decode cX10_feeder 9 = .ok (.ifCond .ge 6, 3) := by decide +kernel
theorem dX10_feeder_12 : decode cX10_feeder 12 = .ok (.bipush (-2), 2) := by decide +kernel
theorem dX10_feeder_14 : decode cX10_feeder 14 = .ok (.ireturn, 1) := by decide +kernel
theorem dX10_feeder_15 : decode cX10_feeder 15 = .ok (.iload_n 2, 1) := by decide +kernel
theorem dX10_feeder_16 : decode cX10_feeder 16 = .ok (.aload_n 0, 1) := by decide +kernel
theorem dX10_feeder_17 : decode cX10_feeder 17 = .ok (.getfield 19, 3) := by decide +kernel
theorem dX10_feeder_20 : decode cX10_feeder 20 = .ok (.getfield 213, 3) := by decide +kernel
theorem dX10_feeder_23 : decode cX10_feeder 23 = .ok (.if_icmp .lt 5, 3) := by decide +kernel
theorem dX10_feeder_26 : decode cX10_feeder 26 = .ok (.iconst (-1), 1) := by decide +kernel
theorem dX10_feeder_27 : decode cX10_feeder 27 = .ok (.ireturn, 1) := by decide +kernel
theorem dX10_feeder_28 : decode cX10_feeder 28 = .ok (.iload_n 1, 1) := by decide +kernel
theorem dX10_feeder_29 : decode cX10_feeder 29 = .ok (.istore_n 3, 1) := by decide +kernel
theorem dX10_feeder_30 : decode cX10_feeder 30 = .ok (.iconst 0, 1) := by decide +kernel
theorem dX10_feeder_31 : decode cX10_feeder 31 = .ok (.istore 4, 2) := by decide +kernel
theorem dX10_feeder_33 : decode cX10_feeder 33 = .ok (.iload 4, 2) := by decide +kernel
theorem dX10_feeder_35 : decode cX10_feeder 35 = .ok (.iload_n 2, 1) := by decide +kernel
theorem dX10_feeder_36 : decode cX10_feeder 36 = .ok (.if_icmp .ge 20, 3) := by decide +kernel
theorem dX10_feeder_39 : decode cX10_feeder 39 = .ok (.iload_n 3, 1) := by decide +kernel
theorem dX10_feeder_40 : decode cX10_feeder 40 = .ok (.iconst (-1), 1) := by decide +kernel
theorem dX10_feeder_41 : decode cX10_feeder 41 = .ok (.if_icmp .eq 15, 3) := by decide +kernel
theorem dX10_feeder_44 : decode cX10_feeder 44 = .ok (.aload_n 0, 1) := by decide +kernel
theorem dX10_feeder_45 : decode cX10_feeder 45 = .ok (.iload_n 3, 1) := by decide +kernel
theorem dX10_feeder_46 : decode cX10_feeder 46 = .ok (.invokevirtual 242, 3) := by decide +kernel
theorem dX10_feeder_49 : decode cX10_feeder 49 = .ok (.istore_n 3, 1) := by decide +kernel
theorem dX10_feeder_50 : decode cX10_feeder 50 = .ok (.iinc 4 1, 3) := by decide +kernel
theorem dX10_feeder_53 : decode cX10_feeder 53 = .ok (.goto (-20), 3) := by decide +kernel
theorem dX10_feeder_56 : decode cX10_feeder 56 = .ok (.iload_n 3, 1) := by decide +kernel
theorem dX10_feeder_57 : decode cX10_feeder 57 = .ok (.ireturn, 1) := by decide +kernel
theorem dX10_fedFrom_0 : decode cX10_fedFrom 0 = .ok (.aload_n 0, 1) := by decide +kernel
theorem dX10_fedFrom_1 : decode cX10_fedFrom 1 = .ok (.getfield 19, 3) := by decide +kernel
theorem dX10_fedFrom_4 : decode cX10_fedFrom 4 = .ok (.iload_n 1, 1) := by decide +kernel
theorem dX10_fedFrom_5 : decode cX10_fedFrom 5 = .ok (.invokevirtual 167, 3) := by decide +kernel
theorem dX10_fedFrom_8 : decode cX10_fedFrom 8 = .ok (.ifCond .eq 5, 3) := by decide +kernel
theorem dX10_fedFrom_11 : decode cX10_fedFrom 11 = .ok (.iconst (-1), 1) := by decide +kernel
theorem dX10_fedFrom_12 : decode cX10_fedFrom 12 = .ok (.ireturn, 1) := by decide +kernel
theorem dX10_fedFrom_13 : decode cX10_fedFrom 13 = .ok (.aload_n 0, 1) := by decide +kernel
theorem dX10_fedFrom_14 : decode cX10_fedFrom 14 = .ok (.invokevirtual 139, 3) := by decide +kernel
theorem dX10_fedFrom_17 : decode cX10_fedFrom 17 = .ok (.astore_n 2, 1) := by decide +kernel
theorem dX10_fedFrom_18 : decode cX10_fedFrom 18 = .ok (.iconst (-1), 1) := by decide +kernel
theorem dX10_fedFrom_19 : decode cX10_fedFrom 19 = .ok (.istore_n 3, 1) := by decide +kernel
theorem dX10_fedFrom_20 : decode cX10_fedFrom 20 = .ok (.lconst 0, 1) := by decide +kernel
theorem dX10_fedFrom_21 : decode cX10_fedFrom 21 = .ok (.lstore 4, 2) := by decide +kernel
theorem dX10_fedFrom_23 : decode cX10_fedFrom 23 = .ok (.iconst 0, 1) := by decide +kernel
theorem dX10_fedFrom_24 : decode cX10_fedFrom 24 = .ok (.istore 6, 2) := by decide +kernel
theorem dX10_fedFrom_26 : decode cX10_fedFrom 26 = .ok (.iload 6, 2) := by decide +kernel
theorem dX10_fedFrom_28 : decode cX10_fedFrom 28 = .ok (.aload_n 0, 1) := by decide +kernel
theorem dX10_fedFrom_29 : decode cX10_fedFrom 29 = .ok (.getfield 19, 3) := by decide +kernel
theorem dX10_fedFrom_32 : decode cX10_fedFrom 32 = .ok (.getfield 130, 3) := by decide +kernel
theorem dX10_fedFrom_35 : decode cX10_fedFrom 35 = .ok (.if_icmp .ge 129, 3) := by decide +kernel
theorem dX10_fedFrom_38 : decode cX10_fedFrom 38 = .ok (.aload_n 0, 1) := by decide +kernel
theorem dX10_fedFrom_39 : decode cX10_fedFrom 39 = .ok (.getfield 19, 3) := by decide +kernel
theorem dX10_fedFrom_42 : decode cX10_fedFrom 42 = .ok (.getfield 154, 3) := by decide +kernel
theorem dX10_fedFrom_45 : decode cX10_fedFrom 45 = .ok (.iload 6, 2) := by decide +kernel
theorem dX10_fedFrom_47 : decode cX10_fedFrom 47 = .ok (.iaload, 1) := by decide +kernel
theorem dX10_fedFrom_48 : decode cX10_fedFrom 48 = .ok (.iload_n 1, 1) := by decide +kernel
theorem dX10_fedFrom_49 : decode cX10_fedFrom 49 = .ok (.if_icmp .ne 7, 3) := by decide +kernel
theorem dX10_fedFrom_52 : decode cX10_fedFrom 52 = .ok (.iconst 1, 1) := by decide +kernel
theorem dX10_fedFrom_53 : decode cX10_fedFrom 53 = .ok (.goto 4, 3) := by decide +kernel
theorem dX10_fedFrom_56 : decode cX10_fedFrom 56 = .ok (.iconst 0, 1) := by decide +kernel
theorem dX10_fedFrom_57 : decode cX10_fedFrom 57 = .ok (.istore 7, 2) := by decide +kernel
theorem dX10_fedFrom_59 : decode cX10_fedFrom 59 = .ok (.iload 7, 2) := by decide +kernel
theorem dX10_fedFrom_61 : decode cX10_fedFrom 61 = .ok (.ifCond .ne 17, 3) := by decide +kernel
theorem dX10_fedFrom_64 : decode cX10_fedFrom 64 = .ok (.aload_n 0, 1) := by decide +kernel
theorem dX10_fedFrom_65 : decode cX10_fedFrom 65 = .ok (.getfield 19, 3) := by decide +kernel
theorem dX10_fedFrom_68 : decode cX10_fedFrom 68 = .ok (.getfield 150, 3) := by decide +kernel
theorem dX10_fedFrom_71 : decode cX10_fedFrom 71 = .ok (.iload 6, 2) := by decide +kernel
theorem dX10_fedFrom_73 : decode cX10_fedFrom 73 = .ok (.iaload, 1) := by decide +kernel
theorem dX10_fedFrom_74 : decode cX10_fedFrom 74 = .ok (.iload_n 1, 1) := by decide +kernel
theorem dX10_fedFrom_75 : decode cX10_fedFrom 75 = .ok (.if_icmp .ne 83, 3) := by decide +kernel
theorem dX10_fedFrom_78 : decode cX10_fedFrom 78 = .ok (.aload_n 0, 1) := by decide +kernel
theorem dX10_fedFrom_79 : decode cX10_fedFrom 79 = .ok (.getfield 19, 3) := by decide +kernel
theorem dX10_fedFrom_82 : decode cX10_fedFrom 82 = .ok (.getfield 157, 3) := by decide +kernel
theorem dX10_fedFrom_85 : decode cX10_fedFrom 85 = .ok (.iload 6, 2) := by decide +kernel
theorem dX10_fedFrom_87 : decode cX10_fedFrom 87 = .ok (.iaload, 1) := by decide +kernel
theorem dX10_fedFrom_88 : decode cX10_fedFrom 88 = .ok (.i2l, 1) := by decide +kernel
theorem dX10_fedFrom_89 : decode cX10_fedFrom 89 = .ok (.aload_n 2, 1) := by decide +kernel
theorem dX10_fedFrom_90 : decode cX10_fedFrom 90 = .ok (.aload_n 0, 1) := by decide +kernel
theorem dX10_fedFrom_91 : decode cX10_fedFrom 91 = .ok (.getfield 19, 3) := by decide +kernel
theorem dX10_fedFrom_94 : decode cX10_fedFrom 94 = .ok (.iload 6, 2) := by decide +kernel
theorem dX10_fedFrom_96 : decode cX10_fedFrom 96 = .ok (.invokevirtual 206, 3) := by decide +kernel
theorem dX10_fedFrom_99 : decode cX10_fedFrom 99 = .ok (.lmul, 1) := by decide +kernel
theorem dX10_fedFrom_100 : decode cX10_fedFrom 100 = .ok (.lstore 8, 2) := by decide +kernel
theorem dX10_fedFrom_102 : decode cX10_fedFrom 102 = .ok (.iload 7, 2) := by decide +kernel
theorem dX10_fedFrom_104 : decode cX10_fedFrom 104 = .ok (.ifCond .eq 8, 3) := by decide +kernel
theorem dX10_fedFrom_107 : decode cX10_fedFrom 107 = .ok (.lload 8, 2) := by decide +kernel
theorem dX10_fedFrom_109 : decode cX10_fedFrom 109 = .ok (.goto 6, 3) := by decide +kernel
theorem dX10_fedFrom_112 : decode cX10_fedFrom 112 = .ok (.lload 8, 2) := by decide +kernel
theorem dX10_fedFrom_114 : decode cX10_fedFrom 114 = .ok (.lneg, 1) := by decide +kernel
theorem dX10_fedFrom_115 : decode cX10_fedFrom 115 = .ok (.lstore 10, 2) := by decide +kernel
theorem dX10_fedFrom_117 : decode cX10_fedFrom 117 = .ok (.lload 10, 2) := by decide +kernel
theorem dX10_fedFrom_119 : decode cX10_fedFrom 119 = .ok (.lload 4, 2) := by decide +kernel
theorem dX10_fedFrom_121 : decode cX10_fedFrom 121 = .ok (.lcmp, 1) := by decide +kernel
theorem dX10_fedFrom_122 : decode cX10_fedFrom 122 = .ok (.ifCond .le 36, 3) := by decide +kernel
theorem dX10_fedFrom_125 : decode cX10_fedFrom 125 = .ok (.lload 10, 2) := by decide +kernel
theorem dX10_fedFrom_127 : decode cX10_fedFrom 127 = .ok (.lstore 4, 2) := by decide +kernel
theorem dX10_fedFrom_129 : decode cX10_fedFrom 129 = .ok (.iload 7, 2) := by decide +kernel
theorem dX10_fedFrom_131 : decode cX10_fedFrom 131 = .ok (.ifCond .eq 16, 3) := by decide +kernel
theorem dX10_fedFrom_134 : decode cX10_fedFrom 134 = .ok (.aload_n 0, 1) := by decide +kernel
theorem dX10_fedFrom_135 : decode cX10_fedFrom 135 = .ok (.getfield 19, 3) := by decide +kernel
theorem dX10_fedFrom_138 : decode cX10_fedFrom 138 = .ok (.getfield 150, 3) := by decide +kernel
theorem dX10_fedFrom_141 : decode cX10_fedFrom 141 = .ok (.iload 6, 2) := by decide +kernel
theorem dX10_fedFrom_143 : decode cX10_fedFrom 143 = .ok (.iaload, 1) := by decide +kernel
theorem dX10_fedFrom_144 : decode cX10_fedFrom 144 = .ok (.goto 13, 3) := by decide +kernel
theorem dX10_fedFrom_147 : decode cX10_fedFrom 147 = .ok (.aload_n 0, 1) := by decide +kernel
theorem dX10_fedFrom_148 : decode cX10_fedFrom 148 = .ok (.getfield 19, 3) := by decide +kernel
theorem dX10_fedFrom_151 : decode cX10_fedFrom 151 = .ok (.getfield 154, 3) := by decide +kernel
theorem dX10_fedFrom_154 : decode cX10_fedFrom 154 = .ok (.iload 6, 2) := by decide +kernel
theorem dX10_fedFrom_156 : decode cX10_fedFrom 156 = .ok (.iaload, 1) := by decide +kernel
theorem dX10_fedFrom_157 : decode cX10_fedFrom 157 = .ok (.istore_n 3, 1) := by decide +kernel
theorem dX10_fedFrom_158 : decode cX10_fedFrom 158 = .ok (.iinc 6 1, 3) := by decide +kernel
theorem dX10_fedFrom_161 : decode cX10_fedFrom 161 = .ok (.goto (-135), 3) := by decide +kernel
theorem dX10_fedFrom_164 : decode cX10_fedFrom 164 = .ok (.iload_n 3, 1) := by decide +kernel
theorem dX10_fedFrom_165 : decode cX10_fedFrom 165 = .ok (.ireturn, 1) := by decide +kernel
theorem dX10_parts_0 : decode cX10_parts 0 = .ok (.aload_n 0, 1) := by decide +kernel
theorem dX10_parts_1 : decode cX10_parts 1 = .ok (.invokevirtual 179, 3) := by decide +kernel
theorem dX10_parts_4 : decode cX10_parts 4 = .ok (.ifCond .eq 6, 3) := by decide +kernel
theorem dX10_parts_7 : decode cX10_parts 7 = .ok (.bipush (-2), 2) := by decide +kernel
theorem dX10_parts_9 : decode cX10_parts 9 = .ok (.ireturn, 1) := by decide +kernel
theorem dX10_parts_10 : decode cX10_parts 10 = .ok (.iconst 0, 1) := by decide +kernel
theorem dX10_parts_11 : decode cX10_parts 11 = .ok (.istore_n 1, 1) := by decide +kernel
theorem dX10_parts_12 : decode cX10_parts 12 = .ok (.iconst 0, 1) := by decide +kernel
theorem dX10_parts_13 : decode cX10_parts 13 = .ok (.istore_n 2, 1) := by decide +kernel
theorem dX10_parts_14 : decode cX10_parts 14 = .ok (.iconst 0, 1) := by decide +kernel
theorem dX10_parts_15 : decode cX10_parts 15 = .ok (.istore_n 3, 1) := by decide +kernel
theorem dX10_parts_16 : decode cX10_parts 16 = .ok (.iload_n 3, 1) := by decide +kernel
theorem dX10_parts_17 : decode cX10_parts 17 = .ok (.aload_n 0, 1) := by decide +kernel
theorem dX10_parts_18 : decode cX10_parts 18 = .ok (.getfield 19, 3) := by decide +kernel
theorem dX10_parts_21 : decode cX10_parts 21 = .ok (.getfield 213, 3) := by decide +kernel
theorem dX10_parts_24 : decode cX10_parts 24 = .ok (.if_icmp .ge 40, 3) := by decide +kernel
theorem dX10_parts_27 : decode cX10_parts 27 = .ok (.iload_n 1, 1) := by decide +kernel
theorem dX10_parts_28 : decode cX10_parts 28 = .ok (.iload_n 3, 1) := by decide +kernel
theorem dX10_parts_29 : decode cX10_parts 29 = .ok (.ishr, 1) := by decide +kernel
theorem dX10_parts_30 : decode cX10_parts 30 = .ok (.iconst 1, 1) := by decide +kernel
theorem dX10_parts_31 : decode cX10_parts 31 = .ok (.iand, 1) := by decide +kernel
theorem dX10_parts_32 : decode cX10_parts 32 = .ok (.ifCond .ne 26, 3) := by decide +kernel
theorem dX10_parts_35 : decode cX10_parts 35 = .ok (.iload_n 1, 1) := by decide +kernel
theorem dX10_parts_36 : decode cX10_parts 36 = .ok (.aload_n 0, 1) := by decide +kernel
theorem dX10_parts_37 : decode cX10_parts 37 = .ok (.getfield 19, 3) := by decide +kernel
theorem dX10_parts_40 : decode cX10_parts 40 = .ok (.aload_n 0, 1) := by decide +kernel
theorem dX10_parts_41 : decode cX10_parts 41 = .ok (.getfield 19, 3) := by decide +kernel
theorem dX10_parts_44 : decode cX10_parts 44 = .ok (.getfield 157, 3) := by decide +kernel
theorem dX10_parts_47 : decode cX10_parts 47 = .ok (.iconst 1, 1) := by decide +kernel
theorem dX10_parts_48 : decode cX10_parts 48 = .ok (.iload_n 3, 1) := by decide +kernel
theorem dX10_parts_49 : decode cX10_parts 49 = .ok (.ishl, 1) := by decide +kernel
theorem dX10_parts_50 : decode cX10_parts 50 = .ok (.invokevirtual 246, 3) := by decide +kernel
theorem dX10_parts_53 : decode cX10_parts 53 = .ok (.ior, 1) := by decide +kernel
theorem dX10_parts_54 : decode cX10_parts 54 = .ok (.istore_n 1, 1) := by decide +kernel
theorem dX10_parts_55 : decode cX10_parts 55 = .ok (.iinc 2 1, 3) := by decide +kernel
theorem dX10_parts_58 : decode cX10_parts 58 = .ok (.iinc 3 1, 3) := by decide +kernel
theorem dX10_parts_61 : decode cX10_parts 61 = .ok (.goto (-45), 3) := by decide +kernel
theorem dX10_parts_64 : decode cX10_parts 64 = .ok (.iload_n 2, 1) := by decide +kernel
theorem dX10_parts_65 : decode cX10_parts 65 = .ok (.ireturn, 1) := by decide +kernel
theorem dX10_reached_0 : decode cX10_reached 0 = .ok (.aload_n 0, 1) := by decide +kernel
theorem dX10_reached_1 : decode cX10_reached 1 = .ok (.iload_n 1, 1) := by decide +kernel
theorem dX10_reached_2 : decode cX10_reached 2 = .ok (.invokevirtual 160, 3) := by decide +kernel
theorem dX10_reached_5 : decode cX10_reached 5 = .ok (.ifCond .ne 6, 3) := by decide +kernel
theorem dX10_reached_8 : decode cX10_reached 8 = .ok (.bipush (-2), 2) := by decide +kernel
theorem dX10_reached_10 : decode cX10_reached 10 = .ok (.ireturn, 1) := by decide +kernel
theorem dX10_reached_11 : decode cX10_reached 11 = .ok (.aload_n 0, 1) := by decide +kernel
theorem dX10_reached_12 : decode cX10_reached 12 = .ok (.getfield 19, 3) := by decide +kernel
theorem dX10_reached_15 : decode cX10_reached 15 = .ok (.aload_n 0, 1) := by decide +kernel
theorem dX10_reached_16 : decode cX10_reached 16 = .ok (.getfield 19, 3) := by decide +kernel
theorem dX10_reached_19 : decode cX10_reached 19 = .ok (.getfield 157, 3) := by decide +kernel
theorem dX10_reached_22 : decode cX10_reached 22 = .ok (.iconst 1, 1) := by decide +kernel
theorem dX10_reached_23 : decode cX10_reached 23 = .ok (.iload_n 1, 1) := by decide +kernel
theorem dX10_reached_24 : decode cX10_reached 24 = .ok (.ishl, 1) := by decide +kernel
theorem dX10_reached_25 : decode cX10_reached 25 = .ok (.invokevirtual 246, 3) := by decide +kernel
theorem dX10_reached_28 : decode cX10_reached 28 = .ok (.ireturn, 1) := by decide +kernel
theorem dX10_heat_0 : decode cX10_heat 0 = .ok (.aload_n 0, 1) := by decide +kernel
theorem dX10_heat_1 : decode cX10_heat 1 = .ok (.iload_n 1, 1) := by decide +kernel
theorem dX10_heat_2 : decode cX10_heat 2 = .ok (.invokevirtual 146, 3) := by decide +kernel
theorem dX10_heat_5 : decode cX10_heat 5 = .ok (.ifCond .eq 10, 3) := by decide +kernel
theorem dX10_heat_8 : decode cX10_heat 8 = .ok (.iload_n 2, 1) := by decide +kernel
theorem dX10_heat_9 : decode cX10_heat 9 = .ok (.invokestatic 185, 3) := by decide +kernel
theorem dX10_heat_12 : decode cX10_heat 12 = .ok (.ifCond .ne 7, 3) := by decide +kernel
theorem dX10_heat_15 : decode cX10_heat 15 = .ok (.ldc2_w 188, 3) := by decide +kernel
theorem dX10_heat_18 : decode cX10_heat 18 = .ok (.lreturn, 1) := by decide +kernel
theorem dX10_heat_19 : decode cX10_heat 19 = .ok (.aload_n 0, 1) := by decide +kernel
theorem dX10_heat_20 : decode cX10_heat 20 = .ok (.invokevirtual 139, 3) := by decide +kernel
theorem dX10_heat_23 : decode cX10_heat 23 = .ok (.astore_n 3, 1) := by decide +kernel
theorem dX10_heat_24 : decode cX10_heat 24 = .ok (.aload_n 3, 1) := by decide +kernel
theorem dX10_heat_25 : decode cX10_heat 25 = .ok (.aload_n 0, 1) := by decide +kernel
theorem dX10_heat_26 : decode cX10_heat 26 = .ok (.getfield 19, 3) := by decide +kernel
theorem dX10_heat_29 : decode cX10_heat 29 = .ok (.aload_n 0, 1) := by decide +kernel
theorem dX10_heat_30 : decode cX10_heat 30 = .ok (.getfield 19, 3) := by decide +kernel
theorem dX10_heat_33 : decode cX10_heat 33 = .ok (.getfield 157, 3) := by decide +kernel
theorem dX10_heat_36 : decode cX10_heat 36 = .ok (.iload_n 1, 1) := by decide +kernel
theorem dX10_heat_37 : decode cX10_heat 37 = .ok (.invokevirtual 250, 3) := by decide +kernel
theorem dX10_heat_40 : decode cX10_heat 40 = .ok (.aload_n 3, 1) := by decide +kernel
theorem dX10_heat_41 : decode cX10_heat 41 = .ok (.getfield 196, 3) := by decide +kernel
theorem dX10_heat_44 : decode cX10_heat 44 = .ok (.iload_n 2, 1) := by decide +kernel
theorem dX10_heat_45 : decode cX10_heat 45 = .ok (.invokestatic 200, 3) := by decide +kernel
theorem dX10_heat_48 : decode cX10_heat 48 = .ok (.lreturn, 1) := by decide +kernel
theorem dX10_hottest_0 : decode cX10_hottest 0 = .ok (.aload_n 0, 1) := by decide +kernel
theorem dX10_hottest_1 : decode cX10_hottest 1 = .ok (.invokevirtual 179, 3) := by decide +kernel
theorem dX10_hottest_4 : decode cX10_hottest 4 = .ok (.ifCond .eq 6, 3) := by decide +kernel
theorem dX10_hottest_7 : decode cX10_hottest 7 = .ok (.bipush (-2), 2) := by decide +kernel
theorem dX10_hottest_9 : decode cX10_hottest 9 = .ok (.ireturn, 1) := by decide +kernel
theorem dX10_hottest_10 : decode cX10_hottest 10 = .ok (.aload_n 0, 1) := by decide +kernel
theorem dX10_hottest_11 : decode cX10_hottest 11 = .ok (.invokevirtual 139, 3) := by decide +kernel
theorem dX10_hottest_14 : decode cX10_hottest 14 = .ok (.astore_n 1, 1) := by decide +kernel
theorem dX10_hottest_15 : decode cX10_hottest 15 = .ok (.iconst (-1), 1) := by decide +kernel
theorem dX10_hottest_16 : decode cX10_hottest 16 = .ok (.istore_n 2, 1) := by decide +kernel
theorem dX10_hottest_17 : decode cX10_hottest 17 = .ok (.lconst 0, 1) := by decide +kernel
theorem dX10_hottest_18 : decode cX10_hottest 18 = .ok (.lstore_n 3, 1) := by decide +kernel
theorem dX10_hottest_19 : decode cX10_hottest 19 = .ok (.iconst 0, 1) := by decide +kernel
theorem dX10_hottest_20 : decode cX10_hottest 20 = .ok (.istore 5, 2) := by decide +kernel
theorem dX10_hottest_22 : decode cX10_hottest 22 = .ok (.iload 5, 2) := by decide +kernel
theorem dX10_hottest_24 : decode cX10_hottest 24 = .ok (.aload_n 0, 1) := by decide +kernel
theorem dX10_hottest_25 : decode cX10_hottest 25 = .ok (.getfield 19, 3) := by decide +kernel
theorem dX10_hottest_28 : decode cX10_hottest 28 = .ok (.getfield 130, 3) := by decide +kernel
theorem dX10_hottest_31 : decode cX10_hottest 31 = .ok (.if_icmp .ge 41, 3) := by decide +kernel
theorem dX10_hottest_34 : decode cX10_hottest 34 = .ok (.aload_n 1, 1) := by decide +kernel
theorem dX10_hottest_35 : decode cX10_hottest 35 = .ok (.aload_n 0, 1) := by decide +kernel
theorem dX10_hottest_36 : decode cX10_hottest 36 = .ok (.getfield 19, 3) := by decide +kernel
theorem dX10_hottest_39 : decode cX10_hottest 39 = .ok (.aload_n 0, 1) := by decide +kernel
theorem dX10_hottest_40 : decode cX10_hottest 40 = .ok (.getfield 19, 3) := by decide +kernel
theorem dX10_hottest_43 : decode cX10_hottest 43 = .ok (.getfield 157, 3) := by decide +kernel
theorem dX10_hottest_46 : decode cX10_hottest 46 = .ok (.iload 5, 2) := by decide +kernel
theorem dX10_hottest_48 : decode cX10_hottest 48 = .ok (.invokevirtual 250, 3) := by decide +kernel
theorem dX10_hottest_51 : decode cX10_hottest 51 = .ok (.lstore 6, 2) := by decide +kernel
theorem dX10_hottest_53 : decode cX10_hottest 53 = .ok (.lload 6, 2) := by decide +kernel
theorem dX10_hottest_55 : decode cX10_hottest 55 = .ok (.lload_n 3, 1) := by decide +kernel
theorem dX10_hottest_56 : decode cX10_hottest 56 = .ok (.lcmp, 1) := by decide +kernel
theorem dX10_hottest_57 : decode cX10_hottest 57 = .ok (.ifCond .le 9, 3) := by decide +kernel
theorem dX10_hottest_60 : decode cX10_hottest 60 = .ok (.iload 5, 2) := by decide +kernel
theorem dX10_hottest_62 : decode cX10_hottest 62 = .ok (.istore_n 2, 1) := by decide +kernel
theorem dX10_hottest_63 : decode cX10_hottest 63 = .ok (.lload 6, 2) := by decide +kernel
theorem dX10_hottest_65 : decode cX10_hottest 65 = .ok (.lstore_n 3, 1) := by decide +kernel
theorem dX10_hottest_66 : decode cX10_hottest 66 = .ok (.iinc 5 1, 3) := by decide +kernel
theorem dX10_hottest_69 : decode cX10_hottest 69 = .ok (.goto (-47), 3) := by decide +kernel
theorem dX10_hottest_72 : decode cX10_hottest 72 = .ok (.iload_n 2, 1) := by decide +kernel
theorem dX10_hottest_73 : decode cX10_hottest 73 = .ok (.ireturn, 1) := by decide +kernel
theorem dX10_wearing_0 : decode cX10_wearing 0 = .ok (.aload_n 0, 1) := by decide +kernel
theorem dX10_wearing_1 : decode cX10_wearing 1 = .ok (.invokevirtual 179, 3) := by decide +kernel
theorem dX10_wearing_4 : decode cX10_wearing 4 = .ok (.ifCond .eq 6, 3) := by decide +kernel
theorem dX10_wearing_7 : decode cX10_wearing 7 = .ok (.bipush (-2), 2) := by decide +kernel
theorem dX10_wearing_9 : decode cX10_wearing 9 = .ok (.ireturn, 1) := by decide +kernel
theorem dX10_wearing_10 : decode cX10_wearing 10 = .ok (.aload_n 0, 1) := by decide +kernel
theorem dX10_wearing_11 : decode cX10_wearing 11 = .ok (.invokevirtual 139, 3) := by decide +kernel
theorem dX10_wearing_14 : decode cX10_wearing 14 = .ok (.aload_n 0, 1) := by decide +kernel
theorem dX10_wearing_15 : decode cX10_wearing 15 = .ok (.getfield 19, 3) := by decide +kernel
theorem dX10_wearing_18 : decode cX10_wearing 18 = .ok (.aload_n 0, 1) := by decide +kernel
theorem dX10_wearing_19 : decode cX10_wearing 19 = .ok (.getfield 19, 3) := by decide +kernel
theorem dX10_wearing_22 : decode cX10_wearing 22 = .ok (.getfield 157, 3) := by decide +kernel
theorem dX10_wearing_25 : decode cX10_wearing 25 = .ok (.invokevirtual 254, 3) := by decide +kernel
theorem dX10_wearing_28 : decode cX10_wearing 28 = .ok (.ireturn, 1) := by decide +kernel
theorem dX10_aged_0 : decode cX10_aged 0 = .ok (.aload_n 0, 1) := by decide +kernel
theorem dX10_aged_1 : decode cX10_aged 1 = .ok (.iload_n 2, 1) := by decide +kernel
theorem dX10_aged_2 : decode cX10_aged 2 = .ok (.invokevirtual 146, 3) := by decide +kernel
theorem dX10_aged_5 : decode cX10_aged 5 = .ok (.ifCond .eq 13, 3) := by decide +kernel
theorem dX10_aged_8 : decode cX10_aged 8 = .ok (.iload_n 1, 1) := by decide +kernel
theorem dX10_aged_9 : decode cX10_aged 9 = .ok (.ifCond .lt 9, 3) := by decide +kernel
theorem dX10_aged_12 : decode cX10_aged 12 = .ok (.iload_n 1, 1) := by decide +kernel
theorem dX10_aged_13 : decode cX10_aged 13 = .ok (.bipush 100, 2) := by decide +kernel
theorem dX10_aged_15 : decode cX10_aged 15 = .ok (.if_icmp .le 6, 3) := by decide +kernel
theorem dX10_aged_18 : decode cX10_aged 18 = .ok (.bipush (-2), 2) := by decide +kernel
theorem dX10_aged_20 : decode cX10_aged 20 = .ok (.ireturn, 1) := by decide +kernel
theorem dX10_aged_21 : decode cX10_aged 21 = .ok (.aload_n 0, 1) := by decide +kernel
theorem dX10_aged_22 : decode cX10_aged 22 = .ok (.getfield 55, 3) := by decide +kernel
theorem dX10_aged_25 : decode cX10_aged 25 = .ok (.aload_n 0, 1) := by decide +kernel
theorem dX10_aged_26 : decode cX10_aged 26 = .ok (.getfield 19, 3) := by decide +kernel
theorem dX10_aged_29 : decode cX10_aged 29 = .ok (.invokevirtual 258, 3) := by decide +kernel
theorem dX10_aged_32 : decode cX10_aged 32 = .ok (.aload_n 0, 1) := by decide +kernel
theorem dX10_aged_33 : decode cX10_aged 33 = .ok (.getfield 55, 3) := by decide +kernel
theorem dX10_aged_36 : decode cX10_aged 36 = .ok (.getfield 261, 3) := by decide +kernel
theorem dX10_aged_39 : decode cX10_aged 39 = .ok (.iload_n 1, 1) := by decide +kernel
theorem dX10_aged_40 : decode cX10_aged 40 = .ok (.aload_n 0, 1) := by decide +kernel
theorem dX10_aged_41 : decode cX10_aged 41 = .ok (.getfield 55, 3) := by decide +kernel
theorem dX10_aged_44 : decode cX10_aged 44 = .ok (.getfield 264, 3) := by decide +kernel
theorem dX10_aged_47 : decode cX10_aged 47 = .ok (.invokestatic 267, 3) := by decide +kernel
theorem dX10_aged_50 : decode cX10_aged 50 = .ok (.aaload, 1) := by decide +kernel
theorem dX10_aged_51 : decode cX10_aged 51 = .ok (.iload_n 2, 1) := by decide +kernel
theorem dX10_aged_52 : decode cX10_aged 52 = .ok (.iaload, 1) := by decide +kernel
theorem dX10_aged_53 : decode cX10_aged 53 = .ok (.ireturn, 1) := by decide +kernel
theorem dX10_lasts_0 : decode cX10_lasts 0 = .ok (.aload_n 0, 1) := by decide +kernel
theorem dX10_lasts_1 : decode cX10_lasts 1 = .ok (.invokevirtual 179, 3) := by decide +kernel
theorem dX10_lasts_4 : decode cX10_lasts 4 = .ok (.ifCond .eq 6, 3) := by decide +kernel
theorem dX10_lasts_7 : decode cX10_lasts 7 = .ok (.bipush (-2), 2) := by decide +kernel
theorem dX10_lasts_9 : decode cX10_lasts 9 = .ok (.ireturn, 1) := by decide +kernel
theorem dX10_lasts_10 : decode cX10_lasts 10 = .ok (.aload_n 0, 1) := by decide +kernel
theorem dX10_lasts_11 : decode cX10_lasts 11 = .ok (.getfield 55, 3) := by decide +kernel
theorem dX10_lasts_14 : decode cX10_lasts 14 = .ok (.aload_n 0, 1) := by decide +kernel
theorem dX10_lasts_15 : decode cX10_lasts 15 = .ok (.getfield 19, 3) := by decide +kernel
theorem dX10_lasts_18 : decode cX10_lasts 18 = .ok (.invokevirtual 258, 3) := by decide +kernel
theorem dX10_lasts_21 : decode cX10_lasts 21 = .ok (.aload_n 0, 1) := by decide +kernel
theorem dX10_lasts_22 : decode cX10_lasts 22 = .ok (.getfield 55, 3) := by decide +kernel
theorem dX10_lasts_25 : decode cX10_lasts 25 = .ok (.getfield 272, 3) := by decide +kernel
theorem dX10_lasts_28 : decode cX10_lasts 28 = .ok (.ireturn, 1) := by decide +kernel
theorem dX10_worn_0 : decode cX10_worn 0 = .ok (.aload_n 0, 1) := by decide +kernel
theorem dX10_worn_1 : decode cX10_worn 1 = .ok (.iload_n 1, 1) := by decide +kernel
theorem dX10_worn_2 : decode cX10_worn 2 = .ok (.invokevirtual 146, 3) := by decide +kernel
theorem dX10_worn_5 : decode cX10_worn 5 = .ok (.ifCond .ne 6, 3) := by decide +kernel
theorem dX10_worn_8 : decode cX10_worn 8 = .ok (.bipush (-2), 2) := by decide +kernel
theorem dX10_worn_10 : decode cX10_worn 10 = .ok (.ireturn, 1) := by decide +kernel
theorem dX10_worn_11 : decode cX10_worn 11 = .ok (.aload_n 0, 1) := by decide +kernel
theorem dX10_worn_12 : decode cX10_worn 12 = .ok (.getfield 55, 3) := by decide +kernel
theorem dX10_worn_15 : decode cX10_worn 15 = .ok (.aload_n 0, 1) := by decide +kernel
theorem dX10_worn_16 : decode cX10_worn 16 = .ok (.getfield 19, 3) := by decide +kernel
theorem dX10_worn_19 : decode cX10_worn 19 = .ok (.invokevirtual 258, 3) := by decide +kernel
theorem dX10_worn_22 : decode cX10_worn 22 = .ok (.iconst 0, 1) := by decide +kernel
theorem dX10_worn_23 : decode cX10_worn 23 = .ok (.istore_n 2, 1) := by decide +kernel
theorem dX10_worn_24 : decode cX10_worn 24 = .ok (.iload_n 2, 1) := by decide +kernel
theorem dX10_worn_25 : decode cX10_worn 25 = .ok (.aload_n 0, 1) := by decide +kernel
theorem dX10_worn_26 : decode cX10_worn 26 = .ok (.getfield 55, 3) := by decide +kernel
theorem dX10_worn_29 : decode cX10_worn 29 = .ok (.getfield 264, 3) := by decide +kernel
theorem dX10_worn_32 : decode cX10_worn 32 = .ok (.if_icmp .gt 25, 3) := by decide +kernel
theorem dX10_worn_35 : decode cX10_worn 35 = .ok (.aload_n 0, 1) := by decide +kernel
theorem dX10_worn_36 : decode cX10_worn 36 = .ok (.getfield 55, 3) := by decide +kernel
theorem dX10_worn_39 : decode cX10_worn 39 = .ok (.getfield 261, 3) := by decide +kernel
theorem dX10_worn_42 : decode cX10_worn 42 = .ok (.iload_n 2, 1) := by decide +kernel
theorem dX10_worn_43 : decode cX10_worn 43 = .ok (.aaload, 1) := by decide +kernel
theorem dX10_worn_44 : decode cX10_worn 44 = .ok (.iload_n 1, 1) := by decide +kernel
theorem dX10_worn_45 : decode cX10_worn 45 = .ok (.iaload, 1) := by decide +kernel
theorem dX10_worn_46 : decode cX10_worn 46 = .ok (.ifCond .ne 5, 3) := by decide +kernel
theorem dX10_worn_49 : decode cX10_worn 49 = .ok (.iload_n 2, 1) := by decide +kernel
theorem dX10_worn_50 : decode cX10_worn 50 = .ok (.ireturn, 1) := by decide +kernel
theorem dX10_worn_51 : decode cX10_worn 51 = .ok (.iinc 2 1, 3) := by decide +kernel
theorem dX10_worn_54 : decode cX10_worn 54 = .ok (.goto (-30), 3) := by decide +kernel
theorem dX10_worn_57 : decode cX10_worn 57 = .ok (.iconst (-1), 1) := by decide +kernel
theorem dX10_worn_58 : decode cX10_worn 58 = .ok (.ireturn, 1) := by decide +kernel
theorem dX10_calms_0 : decode cX10_calms 0 = .ok (.aload_n 0, 1) := by decide +kernel
theorem dX10_calms_1 : decode cX10_calms 1 = .ok (.invokevirtual 179, 3) := by decide +kernel
theorem dX10_calms_4 : decode cX10_calms 4 = .ok (.ifCond .eq 6, 3) := by decide +kernel
theorem dX10_calms_7 : decode cX10_calms 7 = .ok (.bipush (-2), 2) := by decide +kernel
theorem dX10_calms_9 : decode cX10_calms 9 = .ok (.ireturn, 1) := by decide +kernel
theorem dX10_calms_10 : decode cX10_calms 10 = .ok (.aload_n 0, 1) := by decide +kernel
theorem dX10_calms_11 : decode cX10_calms 11 = .ok (.getfield 55, 3) := by decide +kernel
theorem dX10_calms_14 : decode cX10_calms 14 = .ok (.aload_n 0, 1) := by decide +kernel
theorem dX10_calms_15 : decode cX10_calms 15 = .ok (.getfield 19, 3) := by decide +kernel
theorem dX10_calms_18 : decode cX10_calms 18 = .ok (.invokevirtual 258, 3) := by decide +kernel
theorem dX10_calms_21 : decode cX10_calms 21 = .ok (.aload_n 0, 1) := by decide +kernel
theorem dX10_calms_22 : decode cX10_calms 22 = .ok (.getfield 55, 3) := by decide +kernel
theorem dX10_calms_25 : decode cX10_calms 25 = .ok (.getfield 264, 3) := by decide +kernel
theorem dX10_calms_28 : decode cX10_calms 28 = .ok (.ireturn, 1) := by decide +kernel
theorem dX10_pad_0 : decode cX10_pad 0 = .ok (.aload_n 0, 1) := by decide +kernel
theorem dX10_pad_1 : decode cX10_pad 1 = .ok (.invokevirtual 179, 3) := by decide +kernel
theorem dX10_pad_4 : decode cX10_pad 4 = .ok (.ifCond .ne 7, 3) := by decide +kernel
theorem dX10_pad_7 : decode cX10_pad 7 = .ok (.iload_n 1, 1) := by decide +kernel
theorem dX10_pad_8 : decode cX10_pad 8 = .ok (.ifCond .ge 6, 3) := by decide +kernel
theorem dX10_pad_11 : decode cX10_pad 11 = .ok (.bipush (-2), 2) := by decide +kernel
theorem dX10_pad_13 : decode cX10_pad 13 = .ok (.ireturn, 1) := by decide +kernel
theorem dX10_pad_14 : decode cX10_pad 14 = .ok (.aload_n 0, 1) := by decide +kernel
theorem dX10_pad_15 : decode cX10_pad 15 = .ok (.getfield 62, 3) := by decide +kernel
theorem dX10_pad_18 : decode cX10_pad 18 = .ok (.aload_n 0, 1) := by decide +kernel
theorem dX10_pad_19 : decode cX10_pad 19 = .ok (.getfield 19, 3) := by decide +kernel
theorem dX10_pad_22 : decode cX10_pad 22 = .ok (.invokevirtual 275, 3) := by decide +kernel
theorem dX10_pad_25 : decode cX10_pad 25 = .ok (.iload_n 1, 1) := by decide +kernel
theorem dX10_pad_26 : decode cX10_pad 26 = .ok (.aload_n 0, 1) := by decide +kernel
theorem dX10_pad_27 : decode cX10_pad 27 = .ok (.getfield 62, 3) := by decide +kernel
theorem dX10_pad_30 : decode cX10_pad 30 = .ok (.getfield 278, 3) := by decide +kernel
theorem dX10_pad_33 : decode cX10_pad 33 = .ok (.if_icmp .ge 15, 3) := by decide +kernel
theorem dX10_pad_36 : decode cX10_pad 36 = .ok (.aload_n 0, 1) := by decide +kernel
theorem dX10_pad_37 : decode cX10_pad 37 = .ok (.getfield 62, 3) := by decide +kernel
theorem dX10_pad_40 : decode cX10_pad 40 = .ok (.getfield 281, 3) := by decide +kernel
theorem dX10_pad_43 : decode cX10_pad 43 = .ok (.iload_n 1, 1) := by decide +kernel
theorem dX10_pad_44 : decode cX10_pad 44 = .ok (.iaload, 1) := by decide +kernel
theorem dX10_pad_45 : decode cX10_pad 45 = .ok (.goto 4, 3) := by decide +kernel
theorem dX10_pad_48 : decode cX10_pad 48 = .ok (.iconst (-1), 1) := by decide +kernel
theorem dX10_pad_49 : decode cX10_pad 49 = .ok (.ireturn, 1) := by decide +kernel
theorem dX10_pads_0 : decode cX10_pads 0 = .ok (.aload_n 0, 1) := by decide +kernel
theorem dX10_pads_1 : decode cX10_pads 1 = .ok (.invokevirtual 179, 3) := by decide +kernel
theorem dX10_pads_4 : decode cX10_pads 4 = .ok (.ifCond .ne 13, 3) := by decide +kernel
theorem dX10_pads_7 : decode cX10_pads 7 = .ok (.iload_n 1, 1) := by decide +kernel
theorem dX10_pads_8 : decode cX10_pads 8 = .ok (.ifCond .lt 9, 3) := by decide +kernel
theorem dX10_pads_11 : decode cX10_pads 11 = .ok (.iload_n 1, 1) := by decide +kernel
theorem dX10_pads_12 : decode cX10_pads 12 = .ok (.bipush 9, 2) := by decide +kernel
theorem dX10_pads_14 : decode cX10_pads 14 = .ok (.if_icmp .le 6, 3) := by decide +kernel
theorem dX10_pads_17 : decode cX10_pads 17 = .ok (.bipush (-2), 2) := by decide +kernel
theorem dX10_pads_19 : decode cX10_pads 19 = .ok (.ireturn, 1) := by decide +kernel
theorem dX10_pads_20 : decode cX10_pads 20 = .ok (.aload_n 0, 1) := by decide +kernel
theorem dX10_pads_21 : decode cX10_pads 21 = .ok (.getfield 62, 3) := by decide +kernel
theorem dX10_pads_24 : decode cX10_pads 24 = .ok (.aload_n 0, 1) := by decide +kernel
theorem dX10_pads_25 : decode cX10_pads 25 = .ok (.getfield 19, 3) := by decide +kernel
theorem dX10_pads_28 : decode cX10_pads 28 = .ok (.iload_n 1, 1) := by decide +kernel
theorem dX10_pads_29 : decode cX10_pads 29 = .ok (.invokevirtual 284, 3) := by decide +kernel
theorem dX10_pads_32 : decode cX10_pads 32 = .ok (.ireturn, 1) := by decide +kernel
theorem dX10_padded_0 : decode cX10_padded 0 = .ok (.aload_n 0, 1) := by decide +kernel
theorem dX10_padded_1 : decode cX10_padded 1 = .ok (.invokevirtual 179, 3) := by decide +kernel
theorem dX10_padded_4 : decode cX10_padded 4 = .ok (.ifCond .ne 20, 3) := by decide +kernel
theorem dX10_padded_7 : decode cX10_padded 7 = .ok (.iload_n 1, 1) := by decide +kernel
theorem dX10_padded_8 : decode cX10_padded 8 = .ok (.ifCond .lt 16, 3) := by decide +kernel
theorem dX10_padded_11 : decode cX10_padded 11 = .ok (.iload_n 1, 1) := by decide +kernel
theorem dX10_padded_12 : decode cX10_padded 12 = .ok (.bipush 9, 2) := by decide +kernel
theorem dX10_padded_14 : decode cX10_padded 14 = .ok (.if_icmp .gt 10, 3) := by decide +kernel
theorem dX10_padded_17 : decode cX10_padded 17 = .ok (.iload_n 2, 1) := by decide +kernel
theorem dX10_padded_18 : decode cX10_padded 18 = .ok (.invokestatic 185, 3) := by decide +kernel
theorem dX10_padded_21 : decode cX10_padded 21 = .ok (.ifCond .ne 7, 3) := by decide +kernel
theorem dX10_padded_24 : decode cX10_padded 24 = .ok (.ldc2_w 188, 3) := by decide +kernel
theorem dX10_padded_27 : decode cX10_padded 27 = .ok (.lreturn, 1) := by decide +kernel
theorem dX10_padded_28 : decode cX10_padded 28 = .ok (.aload_n 0, 1) := by decide +kernel
theorem dX10_padded_29 : decode cX10_padded 29 = .ok (.getfield 62, 3) := by decide +kernel
theorem dX10_padded_32 : decode cX10_padded 32 = .ok (.aload_n 0, 1) := by decide +kernel
theorem dX10_padded_33 : decode cX10_padded 33 = .ok (.getfield 19, 3) := by decide +kernel
theorem dX10_padded_36 : decode cX10_padded 36 = .ok (.iload_n 1, 1) := by decide +kernel
theorem dX10_padded_37 : decode cX10_padded 37 = .ok (.invokevirtual 284, 3) := by decide +kernel
theorem dX10_padded_40 : decode cX10_padded 40 = .ok (.iconst (-1), 1) := by decide +kernel
theorem dX10_padded_41 : decode cX10_padded 41 = .ok (.if_icmp .ne 7, 3) := by decide +kernel
theorem dX10_padded_44 : decode cX10_padded 44 = .ok (.ldc2_w 190, 3) := by decide +kernel
theorem dX10_padded_47 : decode cX10_padded 47 = .ok (.lreturn, 1) := by decide +kernel
theorem dX10_padded_48 : decode cX10_padded 48 = .ok (.aload_n 0, 1) := by decide +kernel
theorem dX10_padded_49 : decode cX10_padded 49 = .ok (.getfield 62, 3) := by decide +kernel
theorem dX10_padded_52 : decode cX10_padded 52 = .ok (.getfield 288, 3) := by decide +kernel
theorem dX10_padded_55 : decode cX10_padded 55 = .ok (.iload_n 1, 1) := by decide +kernel
theorem dX10_padded_56 : decode cX10_padded 56 = .ok (.aaload, 1) := by decide +kernel
theorem dX10_padded_57 : decode cX10_padded 57 = .ok (.astore_n 3, 1) := by decide +kernel
theorem dX10_padded_58 : decode cX10_padded 58 = .ok (.aload_n 3, 1) := by decide +kernel
theorem dX10_padded_59 : decode cX10_padded 59 = .ok (.getfield 292, 3) := by decide +kernel
theorem dX10_padded_62 : decode cX10_padded 62 = .ok (.aload_n 3, 1) := by decide +kernel
theorem dX10_padded_63 : decode cX10_padded 63 = .ok (.getfield 293, 3) := by decide +kernel
theorem dX10_padded_66 : decode cX10_padded 66 = .ok (.iload_n 2, 1) := by decide +kernel
theorem dX10_padded_67 : decode cX10_padded 67 = .ok (.invokestatic 200, 3) := by decide +kernel
theorem dX10_padded_70 : decode cX10_padded 70 = .ok (.lreturn, 1) := by decide +kernel
theorem dX10_enough_0 : decode cX10_enough 0 = .ok (.aload_n 0, 1) := by decide +kernel
theorem dX10_enough_1 : decode cX10_enough 1 = .ok (.invokevirtual 179, 3) := by decide +kernel
theorem dX10_enough_4 : decode cX10_enough 4 = .ok (.ifCond .eq 6, 3) := by decide +kernel
theorem dX10_enough_7 : decode cX10_enough 7 = .ok (.bipush (-2), 2) := by decide +kernel
theorem dX10_enough_9 : decode cX10_enough 9 = .ok (.ireturn, 1) := by decide +kernel
theorem dX10_enough_10 : decode cX10_enough 10 = .ok (.iconst 0, 1) := by decide +kernel
theorem dX10_enough_11 : decode cX10_enough 11 = .ok (.istore_n 1, 1) := by decide +kernel
theorem dX10_enough_12 : decode cX10_enough 12 = .ok (.iload_n 1, 1) := by decide +kernel
theorem dX10_enough_13 : decode cX10_enough 13 = .ok (.bipush 9, 2) := by decide +kernel
theorem dX10_enough_15 : decode cX10_enough 15 = .ok (.if_icmp .gt 49, 3) := by decide +kernel
theorem dX10_enough_18 : decode cX10_enough 18 = .ok (.aload_n 0, 1) := by decide +kernel
theorem dX10_enough_19 : decode cX10_enough 19 = .ok (.getfield 62, 3) := by decide +kernel
theorem dX10_enough_22 : decode cX10_enough 22 = .ok (.aload_n 0, 1) := by decide +kernel
theorem dX10_enough_23 : decode cX10_enough 23 = .ok (.getfield 19, 3) := by decide +kernel
theorem dX10_enough_26 : decode cX10_enough 26 = .ok (.iload_n 1, 1) := by decide +kernel
theorem dX10_enough_27 : decode cX10_enough 27 = .ok (.invokevirtual 284, 3) := by decide +kernel
theorem dX10_enough_30 : decode cX10_enough 30 = .ok (.iconst (-1), 1) := by decide +kernel
theorem dX10_enough_31 : decode cX10_enough 31 = .ok (.if_icmp .eq 27, 3) := by decide +kernel
theorem dX10_enough_34 : decode cX10_enough 34 = .ok (.aload_n 0, 1) := by decide +kernel
theorem dX10_enough_35 : decode cX10_enough 35 = .ok (.getfield 62, 3) := by decide +kernel
theorem dX10_enough_38 : decode cX10_enough 38 = .ok (.getfield 288, 3) := by decide +kernel
theorem dX10_enough_41 : decode cX10_enough 41 = .ok (.iload_n 1, 1) := by decide +kernel
theorem dX10_enough_42 : decode cX10_enough 42 = .ok (.aaload, 1) := by decide +kernel
theorem dX10_enough_43 : decode cX10_enough 43 = .ok (.aload_n 0, 1) := by decide +kernel
theorem dX10_enough_44 : decode cX10_enough 44 = .ok (.getfield 19, 3) := by decide +kernel
theorem dX10_enough_47 : decode cX10_enough 47 = .ok (.getfield 124, 3) := by decide +kernel
theorem dX10_enough_50 : decode cX10_enough 50 = .ok (.invokevirtual 220, 3) := by decide +kernel
theorem dX10_enough_53 : decode cX10_enough 53 = .ok (.ifCond .eq 5, 3) := by decide +kernel
theorem dX10_enough_56 : decode cX10_enough 56 = .ok (.iload_n 1, 1) := by decide +kernel
theorem dX10_enough_57 : decode cX10_enough 57 = .ok (.ireturn, 1) := by decide +kernel
theorem dX10_enough_58 : decode cX10_enough 58 = .ok (.iinc 1 1, 3) := by decide +kernel
theorem dX10_enough_61 : decode cX10_enough 61 = .ok (.goto (-49), 3) := by decide +kernel
theorem dX10_enough_64 : decode cX10_enough 64 = .ok (.iconst (-1), 1) := by decide +kernel
theorem dX10_enough_65 : decode cX10_enough 65 = .ok (.ireturn, 1) := by decide +kernel
theorem dX10_widens_0 : decode cX10_widens 0 = .ok (.aload_n 0, 1) := by decide +kernel
theorem dX10_widens_1 : decode cX10_widens 1 = .ok (.invokevirtual 179, 3) := by decide +kernel
theorem dX10_widens_4 : decode cX10_widens 4 = .ok (.ifCond .eq 6, 3) := by decide +kernel
theorem dX10_widens_7 : decode cX10_widens 7 = .ok (.bipush (-2), 2) := by decide +kernel
theorem dX10_widens_9 : decode cX10_widens 9 = .ok (.ireturn, 1) := by decide +kernel
theorem dX10_widens_10 : decode cX10_widens 10 = .ok (.aload_n 0, 1) := by decide +kernel
theorem dX10_widens_11 : decode cX10_widens 11 = .ok (.getfield 69, 3) := by decide +kernel
theorem dX10_widens_14 : decode cX10_widens 14 = .ok (.aload_n 0, 1) := by decide +kernel
theorem dX10_widens_15 : decode cX10_widens 15 = .ok (.getfield 19, 3) := by decide +kernel
theorem dX10_widens_18 : decode cX10_widens 18 = .ok (.invokevirtual 294, 3) := by decide +kernel
theorem dX10_widens_21 : decode cX10_widens 21 = .ok (.aload_n 0, 1) := by decide +kernel
theorem dX10_widens_22 : decode cX10_widens 22 = .ok (.getfield 69, 3) := by decide +kernel
theorem dX10_widens_25 : decode cX10_widens 25 = .ok (.getfield 295, 3) := by decide +kernel
theorem dX10_widens_28 : decode cX10_widens 28 = .ok (.ireturn, 1) := by decide +kernel
theorem dX10_widen_0 : decode cX10_widen 0 = .ok (.aload_n 0, 1) := by decide +kernel
theorem dX10_widen_1 : decode cX10_widen 1 = .ok (.invokevirtual 179, 3) := by decide +kernel
theorem dX10_widen_4 : decode cX10_widen 4 = .ok (.ifCond .ne 7, 3) := by decide +kernel
theorem dX10_widen_7 : decode cX10_widen 7 = .ok (.iload_n 1, 1) := by decide +kernel
theorem dX10_widen_8 : decode cX10_widen 8 = .ok (.ifCond .ge 6, 3) := by decide +kernel
theorem dX10_widen_11 : decode cX10_widen 11 = .ok (.bipush (-2), 2) := by decide +kernel
theorem dX10_widen_13 : decode cX10_widen 13 = .ok (.ireturn, 1) := by decide +kernel
theorem dX10_widen_14 : decode cX10_widen 14 = .ok (.aload_n 0, 1) := by decide +kernel
theorem dX10_widen_15 : decode cX10_widen 15 = .ok (.getfield 69, 3) := by decide +kernel
theorem dX10_widen_18 : decode cX10_widen 18 = .ok (.aload_n 0, 1) := by decide +kernel
theorem dX10_widen_19 : decode cX10_widen 19 = .ok (.getfield 19, 3) := by decide +kernel
theorem dX10_widen_22 : decode cX10_widen 22 = .ok (.invokevirtual 294, 3) := by decide +kernel
theorem dX10_widen_25 : decode cX10_widen 25 = .ok (.iload_n 1, 1) := by decide +kernel
theorem dX10_widen_26 : decode cX10_widen 26 = .ok (.aload_n 0, 1) := by decide +kernel
theorem dX10_widen_27 : decode cX10_widen 27 = .ok (.getfield 69, 3) := by decide +kernel
theorem dX10_widen_30 : decode cX10_widen 30 = .ok (.getfield 295, 3) := by decide +kernel
theorem dX10_widen_33 : decode cX10_widen 33 = .ok (.if_icmp .ge 15, 3) := by decide +kernel
theorem dX10_widen_36 : decode cX10_widen 36 = .ok (.aload_n 0, 1) := by decide +kernel
theorem dX10_widen_37 : decode cX10_widen 37 = .ok (.getfield 69, 3) := by decide +kernel
theorem dX10_widen_40 : decode cX10_widen 40 = .ok (.getfield 296, 3) := by decide +kernel
theorem dX10_widen_43 : decode cX10_widen 43 = .ok (.iload_n 1, 1) := by decide +kernel
theorem dX10_widen_44 : decode cX10_widen 44 = .ok (.iaload, 1) := by decide +kernel
theorem dX10_widen_45 : decode cX10_widen 45 = .ok (.goto 4, 3) := by decide +kernel
theorem dX10_widen_48 : decode cX10_widen 48 = .ok (.iconst (-1), 1) := by decide +kernel
theorem dX10_widen_49 : decode cX10_widen 49 = .ok (.ireturn, 1) := by decide +kernel
theorem dX10_wide_0 : decode cX10_wide 0 = .ok (.aload_n 0, 1) := by decide +kernel
theorem dX10_wide_1 : decode cX10_wide 1 = .ok (.invokevirtual 179, 3) := by decide +kernel
theorem dX10_wide_4 : decode cX10_wide 4 = .ok (.ifCond .eq 6, 3) := by decide +kernel
theorem dX10_wide_7 : decode cX10_wide 7 = .ok (.bipush (-2), 2) := by decide +kernel
theorem dX10_wide_9 : decode cX10_wide 9 = .ok (.ireturn, 1) := by decide +kernel
theorem dX10_wide_10 : decode cX10_wide 10 = .ok (.aload_n 0, 1) := by decide +kernel
theorem dX10_wide_11 : decode cX10_wide 11 = .ok (.getfield 69, 3) := by decide +kernel
theorem dX10_wide_14 : decode cX10_wide 14 = .ok (.aload_n 0, 1) := by decide +kernel
theorem dX10_wide_15 : decode cX10_wide 15 = .ok (.getfield 19, 3) := by decide +kernel
theorem dX10_wide_18 : decode cX10_wide 18 = .ok (.invokevirtual 294, 3) := by decide +kernel
theorem dX10_wide_21 : decode cX10_wide 21 = .ok (.aload_n 0, 1) := by decide +kernel
theorem dX10_wide_22 : decode cX10_wide 22 = .ok (.getfield 69, 3) := by decide +kernel
theorem dX10_wide_25 : decode cX10_wide 25 = .ok (.getfield 297, 3) := by decide +kernel
theorem dX10_wide_28 : decode cX10_wide 28 = .ok (.ifCond .eq 7, 3) := by decide +kernel
theorem dX10_wide_31 : decode cX10_wide 31 = .ok (.iconst 1, 1) := by decide +kernel
theorem dX10_wide_32 : decode cX10_wide 32 = .ok (.goto 4, 3) := by decide +kernel
theorem dX10_wide_35 : decode cX10_wide 35 = .ok (.iconst 0, 1) := by decide +kernel
theorem dX10_wide_36 : decode cX10_wide 36 = .ok (.ireturn, 1) := by decide +kernel
theorem dX10_fewest_0 : decode cX10_fewest 0 = .ok (.aload_n 0, 1) := by decide +kernel
theorem dX10_fewest_1 : decode cX10_fewest 1 = .ok (.invokevirtual 179, 3) := by decide +kernel
theorem dX10_fewest_4 : decode cX10_fewest 4 = .ok (.ifCond .eq 6, 3) := by decide +kernel
theorem dX10_fewest_7 : decode cX10_fewest 7 = .ok (.bipush (-2), 2) := by decide +kernel
theorem dX10_fewest_9 : decode cX10_fewest 9 = .ok (.ireturn, 1) := by decide +kernel
theorem dX10_fewest_10 : decode cX10_fewest 10 = .ok (.aload_n 0, 1) := by decide +kernel
theorem dX10_fewest_11 : decode cX10_fewest 11 = .ok (.getfield 69, 3) := by decide +kernel
theorem dX10_fewest_14 : decode cX10_fewest 14 = .ok (.aload_n 0, 1) := by decide +kernel
theorem dX10_fewest_15 : decode cX10_fewest 15 = .ok (.getfield 19, 3) := by decide +kernel
theorem dX10_fewest_18 : decode cX10_fewest 18 = .ok (.invokevirtual 300, 3) := by decide +kernel
theorem dX10_fewest_21 : decode cX10_fewest 21 = .ok (.aload_n 0, 1) := by decide +kernel
theorem dX10_fewest_22 : decode cX10_fewest 22 = .ok (.getfield 69, 3) := by decide +kernel
theorem dX10_fewest_25 : decode cX10_fewest 25 = .ok (.getfield 303, 3) := by decide +kernel
theorem dX10_fewest_28 : decode cX10_fewest 28 = .ok (.ireturn, 1) := by decide +kernel
theorem dX10_few_0 : decode cX10_few 0 = .ok (.aload_n 0, 1) := by decide +kernel
theorem dX10_few_1 : decode cX10_few 1 = .ok (.invokevirtual 179, 3) := by decide +kernel
theorem dX10_few_4 : decode cX10_few 4 = .ok (.ifCond .ne 7, 3) := by decide +kernel
theorem dX10_few_7 : decode cX10_few 7 = .ok (.iload_n 1, 1) := by decide +kernel
theorem dX10_few_8 : decode cX10_few 8 = .ok (.ifCond .ge 6, 3) := by decide +kernel
theorem dX10_few_11 : decode cX10_few 11 = .ok (.bipush (-2), 2) := by decide +kernel
theorem dX10_few_13 : decode cX10_few 13 = .ok (.ireturn, 1) := by decide +kernel
theorem dX10_few_14 : decode cX10_few 14 = .ok (.aload_n 0, 1) := by decide +kernel
theorem dX10_few_15 : decode cX10_few 15 = .ok (.getfield 69, 3) := by decide +kernel
theorem dX10_few_18 : decode cX10_few 18 = .ok (.aload_n 0, 1) := by decide +kernel
theorem dX10_few_19 : decode cX10_few 19 = .ok (.getfield 19, 3) := by decide +kernel
theorem dX10_few_22 : decode cX10_few 22 = .ok (.invokevirtual 300, 3) := by decide +kernel
theorem dX10_few_25 : decode cX10_few 25 = .ok (.iload_n 1, 1) := by decide +kernel
theorem dX10_few_26 : decode cX10_few 26 = .ok (.aload_n 0, 1) := by decide +kernel
theorem dX10_few_27 : decode cX10_few 27 = .ok (.getfield 69, 3) := by decide +kernel
theorem dX10_few_30 : decode cX10_few 30 = .ok (.getfield 303, 3) := by decide +kernel
theorem dX10_few_33 : decode cX10_few 33 = .ok (.if_icmp .ge 15, 3) := by decide +kernel
theorem dX10_few_36 : decode cX10_few 36 = .ok (.aload_n 0, 1) := by decide +kernel
theorem dX10_few_37 : decode cX10_few 37 = .ok (.getfield 69, 3) := by decide +kernel
theorem dX10_few_40 : decode cX10_few 40 = .ok (.getfield 306, 3) := by decide +kernel
theorem dX10_few_43 : decode cX10_few 43 = .ok (.iload_n 1, 1) := by decide +kernel
theorem dX10_few_44 : decode cX10_few 44 = .ok (.iaload, 1) := by decide +kernel
theorem dX10_few_45 : decode cX10_few 45 = .ok (.goto 4, 3) := by decide +kernel
theorem dX10_few_48 : decode cX10_few 48 = .ok (.iconst (-1), 1) := by decide +kernel
theorem dX10_few_49 : decode cX10_few 49 = .ok (.ireturn, 1) := by decide +kernel
theorem dX10_slims_0 : decode cX10_slims 0 = .ok (.aload_n 0, 1) := by decide +kernel
theorem dX10_slims_1 : decode cX10_slims 1 = .ok (.invokevirtual 179, 3) := by decide +kernel
theorem dX10_slims_4 : decode cX10_slims 4 = .ok (.ifCond .eq 6, 3) := by decide +kernel
theorem dX10_slims_7 : decode cX10_slims 7 = .ok (.bipush (-2), 2) := by decide +kernel
theorem dX10_slims_9 : decode cX10_slims 9 = .ok (.ireturn, 1) := by decide +kernel
theorem dX10_slims_10 : decode cX10_slims 10 = .ok (.aload_n 0, 1) := by decide +kernel
theorem dX10_slims_11 : decode cX10_slims 11 = .ok (.getfield 69, 3) := by decide +kernel
theorem dX10_slims_14 : decode cX10_slims 14 = .ok (.aload_n 0, 1) := by decide +kernel
theorem dX10_slims_15 : decode cX10_slims 15 = .ok (.getfield 19, 3) := by decide +kernel
theorem dX10_slims_18 : decode cX10_slims 18 = .ok (.invokevirtual 309, 3) := by decide +kernel
theorem dX10_slims_21 : decode cX10_slims 21 = .ok (.aload_n 0, 1) := by decide +kernel
theorem dX10_slims_22 : decode cX10_slims 22 = .ok (.getfield 69, 3) := by decide +kernel
theorem dX10_slims_25 : decode cX10_slims 25 = .ok (.getfield 312, 3) := by decide +kernel
theorem dX10_slims_28 : decode cX10_slims 28 = .ok (.ireturn, 1) := by decide +kernel
theorem dX10_slim_0 : decode cX10_slim 0 = .ok (.aload_n 0, 1) := by decide +kernel
theorem dX10_slim_1 : decode cX10_slim 1 = .ok (.iload_n 1, 1) := by decide +kernel
theorem dX10_slim_2 : decode cX10_slim 2 = .ok (.invokevirtual 146, 3) := by decide +kernel
theorem dX10_slim_5 : decode cX10_slim 5 = .ok (.ifCond .ne 6, 3) := by decide +kernel
theorem dX10_slim_8 : decode cX10_slim 8 = .ok (.bipush (-2), 2) := by decide +kernel
theorem dX10_slim_10 : decode cX10_slim 10 = .ok (.ireturn, 1) := by decide +kernel
theorem dX10_slim_11 : decode cX10_slim 11 = .ok (.aload_n 0, 1) := by decide +kernel
theorem dX10_slim_12 : decode cX10_slim 12 = .ok (.getfield 69, 3) := by decide +kernel
theorem dX10_slim_15 : decode cX10_slim 15 = .ok (.aload_n 0, 1) := by decide +kernel
theorem dX10_slim_16 : decode cX10_slim 16 = .ok (.getfield 19, 3) := by decide +kernel
theorem dX10_slim_19 : decode cX10_slim 19 = .ok (.invokevirtual 309, 3) := by decide +kernel
theorem dX10_slim_22 : decode cX10_slim 22 = .ok (.aload_n 0, 1) := by decide +kernel
theorem dX10_slim_23 : decode cX10_slim 23 = .ok (.getfield 69, 3) := by decide +kernel
theorem dX10_slim_26 : decode cX10_slim 26 = .ok (.getfield 312, 3) := by decide +kernel
theorem dX10_slim_29 : decode cX10_slim 29 = .ok (.iconst (-1), 1) := by decide +kernel
theorem dX10_slim_30 : decode cX10_slim 30 = .ok (.if_icmp .ne 7, 3) := by decide +kernel
theorem dX10_slim_33 : decode cX10_slim 33 = .ok (.iconst (-1), 1) := by decide +kernel
theorem dX10_slim_34 : decode cX10_slim 34 = .ok (.goto 12, 3) := by decide +kernel
theorem dX10_slim_37 : decode cX10_slim 37 = .ok (.aload_n 0, 1) := by decide +kernel
theorem dX10_slim_38 : decode cX10_slim 38 = .ok (.getfield 69, 3) := by decide +kernel
theorem dX10_slim_41 : decode cX10_slim 41 = .ok (.getfield 315, 3) := by decide +kernel
theorem dX10_slim_44 : decode cX10_slim 44 = .ok (.iload_n 1, 1) := by decide +kernel
theorem dX10_slim_45 : decode cX10_slim 45 = .ok (.iaload, 1) := by decide +kernel
theorem dX10_slim_46 : decode cX10_slim 46 = .ok (.ireturn, 1) := by decide +kernel
theorem dX10_without_0 : decode cX10_without 0 = .ok (.aload_n 0, 1) := by decide +kernel
theorem dX10_without_1 : decode cX10_without 1 = .ok (.iload_n 1, 1) := by decide +kernel
theorem dX10_without_2 : decode cX10_without 2 = .ok (.invokevirtual 146, 3) := by decide +kernel
theorem dX10_without_5 : decode cX10_without 5 = .ok (.ifCond .eq 10, 3) := by decide +kernel
theorem dX10_without_8 : decode cX10_without 8 = .ok (.iload_n 2, 1) := by decide +kernel
theorem dX10_without_9 : decode cX10_without 9 = .ok (.invokestatic 185, 3) := by decide +kernel
theorem dX10_without_12 : decode cX10_without 12 = .ok (.ifCond .ne 7, 3) := by decide +kernel
theorem dX10_without_15 : decode cX10_without 15 = .ok (.ldc2_w 188, 3) := by decide +kernel
theorem dX10_without_18 : decode cX10_without 18 = .ok (.lreturn, 1) := by decide +kernel
theorem dX10_without_19 : decode cX10_without 19 = .ok (.aload_n 0, 1) := by decide +kernel
theorem dX10_without_20 : decode cX10_without 20 = .ok (.getfield 76, 3) := by decide +kernel
theorem dX10_without_23 : decode cX10_without 23 = .ok (.aload_n 0, 1) := by decide +kernel
theorem dX10_without_24 : decode cX10_without 24 = .ok (.getfield 19, 3) := by decide +kernel
theorem dX10_without_27 : decode cX10_without 27 = .ok (.iload_n 1, 1) := by decide +kernel
theorem dX10_without_28 : decode cX10_without 28 = .ok (.iload_n 1, 1) := by decide +kernel
theorem dX10_without_29 : decode cX10_without 29 = .ok (.invokevirtual 318, 3) := by decide +kernel
theorem dX10_without_32 : decode cX10_without 32 = .ok (.aload_n 0, 1) := by decide +kernel
theorem dX10_without_33 : decode cX10_without 33 = .ok (.getfield 76, 3) := by decide +kernel
theorem dX10_without_36 : decode cX10_without 36 = .ok (.getfield 321, 3) := by decide +kernel
theorem dX10_without_39 : decode cX10_without 39 = .ok (.getfield 216, 3) := by decide +kernel
theorem dX10_without_42 : decode cX10_without 42 = .ok (.astore_n 3, 1) := by decide +kernel
theorem dX10_without_43 : decode cX10_without 43 = .ok (.aload_n 3, 1) := by decide +kernel
theorem dX10_without_44 : decode cX10_without 44 = .ok (.getfield 292, 3) := by decide +kernel
theorem dX10_without_47 : decode cX10_without 47 = .ok (.aload_n 3, 1) := by decide +kernel
theorem dX10_without_48 : decode cX10_without 48 = .ok (.getfield 293, 3) := by decide +kernel
theorem dX10_without_51 : decode cX10_without 51 = .ok (.iload_n 2, 1) := by decide +kernel
theorem dX10_without_52 : decode cX10_without 52 = .ok (.invokestatic 200, 3) := by decide +kernel
theorem dX10_without_55 : decode cX10_without 55 = .ok (.lreturn, 1) := by decide +kernel
theorem dX10_lost_0 : decode cX10_lost 0 = .ok (.aload_n 0, 1) := by decide +kernel
theorem dX10_lost_1 : decode cX10_lost 1 = .ok (.iload_n 1, 1) := by decide +kernel
theorem dX10_lost_2 : decode cX10_lost 2 = .ok (.invokevirtual 146, 3) := by decide +kernel
theorem dX10_lost_5 : decode cX10_lost 5 = .ok (.ifCond .ne 6, 3) := by decide +kernel
theorem dX10_lost_8 : decode cX10_lost 8 = .ok (.bipush (-2), 2) := by decide +kernel
theorem dX10_lost_10 : decode cX10_lost 10 = .ok (.ireturn, 1) := by decide +kernel
theorem dX10_lost_11 : decode cX10_lost 11 = .ok (.aload_n 0, 1) := by decide +kernel
theorem dX10_lost_12 : decode cX10_lost 12 = .ok (.getfield 76, 3) := by decide +kernel
theorem dX10_lost_15 : decode cX10_lost 15 = .ok (.aload_n 0, 1) := by decide +kernel
theorem dX10_lost_16 : decode cX10_lost 16 = .ok (.getfield 19, 3) := by decide +kernel
theorem dX10_lost_19 : decode cX10_lost 19 = .ok (.iload_n 1, 1) := by decide +kernel
theorem dX10_lost_20 : decode cX10_lost 20 = .ok (.iload_n 1, 1) := by decide +kernel
theorem dX10_lost_21 : decode cX10_lost 21 = .ok (.invokevirtual 318, 3) := by decide +kernel
theorem dX10_lost_24 : decode cX10_lost 24 = .ok (.aload_n 0, 1) := by decide +kernel
theorem dX10_lost_25 : decode cX10_lost 25 = .ok (.getfield 76, 3) := by decide +kernel
theorem dX10_lost_28 : decode cX10_lost 28 = .ok (.getfield 321, 3) := by decide +kernel
theorem dX10_lost_31 : decode cX10_lost 31 = .ok (.getfield 143, 3) := by decide +kernel
theorem dX10_lost_34 : decode cX10_lost 34 = .ok (.ireturn, 1) := by decide +kernel
theorem dX10_vital_0 : decode cX10_vital 0 = .ok (.aload_n 0, 1) := by decide +kernel
theorem dX10_vital_1 : decode cX10_vital 1 = .ok (.invokevirtual 179, 3) := by decide +kernel
theorem dX10_vital_4 : decode cX10_vital 4 = .ok (.ifCond .eq 6, 3) := by decide +kernel
theorem dX10_vital_7 : decode cX10_vital 7 = .ok (.bipush (-2), 2) := by decide +kernel
theorem dX10_vital_9 : decode cX10_vital 9 = .ok (.ireturn, 1) := by decide +kernel
theorem dX10_vital_10 : decode cX10_vital 10 = .ok (.aload_n 0, 1) := by decide +kernel
theorem dX10_vital_11 : decode cX10_vital 11 = .ok (.getfield 76, 3) := by decide +kernel
theorem dX10_vital_14 : decode cX10_vital 14 = .ok (.aload_n 0, 1) := by decide +kernel
theorem dX10_vital_15 : decode cX10_vital 15 = .ok (.getfield 19, 3) := by decide +kernel
theorem dX10_vital_18 : decode cX10_vital 18 = .ok (.invokevirtual 324, 3) := by decide +kernel
theorem dX10_vital_21 : decode cX10_vital 21 = .ok (.aload_n 0, 1) := by decide +kernel
theorem dX10_vital_22 : decode cX10_vital 22 = .ok (.getfield 76, 3) := by decide +kernel
theorem dX10_vital_25 : decode cX10_vital 25 = .ok (.getfield 327, 3) := by decide +kernel
theorem dX10_vital_28 : decode cX10_vital 28 = .ok (.ireturn, 1) := by decide +kernel
theorem dX10_spare_0 : decode cX10_spare 0 = .ok (.aload_n 0, 1) := by decide +kernel
theorem dX10_spare_1 : decode cX10_spare 1 = .ok (.invokevirtual 179, 3) := by decide +kernel
theorem dX10_spare_4 : decode cX10_spare 4 = .ok (.ifCond .eq 6, 3) := by decide +kernel
theorem dX10_spare_7 : decode cX10_spare 7 = .ok (.bipush (-2), 2) := by decide +kernel
theorem dX10_spare_9 : decode cX10_spare 9 = .ok (.ireturn, 1) := by decide +kernel
theorem dX10_spare_10 : decode cX10_spare 10 = .ok (.aload_n 0, 1) := by decide +kernel
theorem dX10_spare_11 : decode cX10_spare 11 = .ok (.getfield 76, 3) := by decide +kernel
theorem dX10_spare_14 : decode cX10_spare 14 = .ok (.aload_n 0, 1) := by decide +kernel
theorem dX10_spare_15 : decode cX10_spare 15 = .ok (.getfield 19, 3) := by decide +kernel
theorem dX10_spare_18 : decode cX10_spare 18 = .ok (.invokevirtual 324, 3) := by decide +kernel
theorem dX10_spare_21 : decode cX10_spare 21 = .ok (.aload_n 0, 1) := by decide +kernel
theorem dX10_spare_22 : decode cX10_spare 22 = .ok (.getfield 76, 3) := by decide +kernel
theorem dX10_spare_25 : decode cX10_spare 25 = .ok (.getfield 330, 3) := by decide +kernel
theorem dX10_spare_28 : decode cX10_spare 28 = .ok (.ireturn, 1) := by decide +kernel
theorem dX10_pairs_0 : decode cX10_pairs 0 = .ok (.aload_n 0, 1) := by decide +kernel
theorem dX10_pairs_1 : decode cX10_pairs 1 = .ok (.invokevirtual 179, 3) := by decide +kernel
theorem dX10_pairs_4 : decode cX10_pairs 4 = .ok (.ifCond .eq 6, 3) := by decide +kernel
theorem dX10_pairs_7 : decode cX10_pairs 7 = .ok (.bipush (-2), 2) := by decide +kernel
theorem dX10_pairs_9 : decode cX10_pairs 9 = .ok (.ireturn, 1) := by decide +kernel
theorem dX10_pairs_10 : decode cX10_pairs 10 = .ok (.aload_n 0, 1) := by decide +kernel
theorem dX10_pairs_11 : decode cX10_pairs 11 = .ok (.getfield 76, 3) := by decide +kernel
theorem dX10_pairs_14 : decode cX10_pairs 14 = .ok (.aload_n 0, 1) := by decide +kernel
theorem dX10_pairs_15 : decode cX10_pairs 15 = .ok (.getfield 19, 3) := by decide +kernel
theorem dX10_pairs_18 : decode cX10_pairs 18 = .ok (.invokevirtual 333, 3) := by decide +kernel
theorem dX10_pairs_21 : decode cX10_pairs 21 = .ok (.aload_n 0, 1) := by decide +kernel
theorem dX10_pairs_22 : decode cX10_pairs 22 = .ok (.getfield 76, 3) := by decide +kernel
theorem dX10_pairs_25 : decode cX10_pairs 25 = .ok (.getfield 336, 3) := by decide +kernel
theorem dX10_pairs_28 : decode cX10_pairs 28 = .ok (.ireturn, 1) := by decide +kernel
theorem dX10_pair_0 : decode cX10_pair 0 = .ok (.aload_n 0, 1) := by decide +kernel
theorem dX10_pair_1 : decode cX10_pair 1 = .ok (.invokevirtual 179, 3) := by decide +kernel
theorem dX10_pair_4 : decode cX10_pair 4 = .ok (.ifCond .ne 7, 3) := by decide +kernel
theorem dX10_pair_7 : decode cX10_pair 7 = .ok (.iload_n 1, 1) := by decide +kernel
theorem dX10_pair_8 : decode cX10_pair 8 = .ok (.ifCond .ge 6, 3) := by decide +kernel
theorem dX10_pair_11 : decode cX10_pair 11 = .ok (.bipush (-2), 2) := by decide +kernel
theorem dX10_pair_13 : decode cX10_pair 13 = .ok (.ireturn, 1) := by decide +kernel
theorem dX10_pair_14 : decode cX10_pair 14 = .ok (.aload_n 0, 1) := by decide +kernel
theorem dX10_pair_15 : decode cX10_pair 15 = .ok (.getfield 76, 3) := by decide +kernel
theorem dX10_pair_18 : decode cX10_pair 18 = .ok (.aload_n 0, 1) := by decide +kernel
theorem dX10_pair_19 : decode cX10_pair 19 = .ok (.getfield 19, 3) := by decide +kernel
theorem dX10_pair_22 : decode cX10_pair 22 = .ok (.invokevirtual 333, 3) := by decide +kernel
theorem dX10_pair_25 : decode cX10_pair 25 = .ok (.iload_n 1, 1) := by decide +kernel
theorem dX10_pair_26 : decode cX10_pair 26 = .ok (.aload_n 0, 1) := by decide +kernel
theorem dX10_pair_27 : decode cX10_pair 27 = .ok (.getfield 76, 3) := by decide +kernel
theorem dX10_pair_30 : decode cX10_pair 30 = .ok (.getfield 336, 3) := by decide +kernel
theorem dX10_pair_33 : decode cX10_pair 33 = .ok (.if_icmp .ge 15, 3) := by decide +kernel
theorem dX10_pair_36 : decode cX10_pair 36 = .ok (.aload_n 0, 1) := by decide +kernel
theorem dX10_pair_37 : decode cX10_pair 37 = .ok (.getfield 76, 3) := by decide +kernel
theorem dX10_pair_40 : decode cX10_pair 40 = .ok (.getfield 339, 3) := by decide +kernel
theorem dX10_pair_43 : decode cX10_pair 43 = .ok (.iload_n 1, 1) := by decide +kernel
theorem dX10_pair_44 : decode cX10_pair 44 = .ok (.iaload, 1) := by decide +kernel
theorem dX10_pair_45 : decode cX10_pair 45 = .ok (.goto 4, 3) := by decide +kernel
theorem dX10_pair_48 : decode cX10_pair 48 = .ok (.iconst (-1), 1) := by decide +kernel
theorem dX10_pair_49 : decode cX10_pair 49 = .ok (.ireturn, 1) := by decide +kernel
theorem dX10_chance_0 : decode cX10_chance 0 = .ok (.aload_n 0, 1) := by decide +kernel
theorem dX10_chance_1 : decode cX10_chance 1 = .ok (.invokevirtual 179, 3) := by decide +kernel
theorem dX10_chance_4 : decode cX10_chance 4 = .ok (.ifCond .ne 18, 3) := by decide +kernel
theorem dX10_chance_7 : decode cX10_chance 7 = .ok (.iload_n 1, 1) := by decide +kernel
theorem dX10_chance_8 : decode cX10_chance 8 = .ok (.ifCond .lt 14, 3) := by decide +kernel
theorem dX10_chance_11 : decode cX10_chance 11 = .ok (.iload_n 2, 1) := by decide +kernel
theorem dX10_chance_12 : decode cX10_chance 12 = .ok (.iconst 1, 1) := by decide +kernel
theorem dX10_chance_13 : decode cX10_chance 13 = .ok (.if_icmp .lt 9, 3) := by decide +kernel
theorem dX10_chance_16 : decode cX10_chance 16 = .ok (.iload_n 2, 1) := by decide +kernel
theorem dX10_chance_17 : decode cX10_chance 17 = .ok (.bipush 100, 2) := by decide +kernel
theorem dX10_chance_19 : decode cX10_chance 19 = .ok (.if_icmp .le 6, 3) := by decide +kernel
theorem dX10_chance_22 : decode cX10_chance 22 = .ok (.bipush (-2), 2) := by decide +kernel
theorem dX10_chance_24 : decode cX10_chance 24 = .ok (.ireturn, 1) := by decide +kernel
theorem dX10_chance_25 : decode cX10_chance 25 = .ok (.aload_n 0, 1) := by decide +kernel
theorem dX10_chance_26 : decode cX10_chance 26 = .ok (.getfield 83, 3) := by decide +kernel
theorem dX10_chance_29 : decode cX10_chance 29 = .ok (.aload_n 0, 1) := by decide +kernel
theorem dX10_chance_30 : decode cX10_chance 30 = .ok (.getfield 19, 3) := by decide +kernel
theorem dX10_chance_33 : decode cX10_chance 33 = .ok (.iload_n 1, 1) := by decide +kernel
theorem dX10_chance_34 : decode cX10_chance 34 = .ok (.iload_n 2, 1) := by decide +kernel
theorem dX10_chance_35 : decode cX10_chance 35 = .ok (.invokevirtual 342, 3) := by decide +kernel
theorem dX10_chance_38 : decode cX10_chance 38 = .ok (.aload_n 0, 1) := by decide +kernel
theorem dX10_chance_39 : decode cX10_chance 39 = .ok (.getfield 83, 3) := by decide +kernel
theorem dX10_chance_42 : decode cX10_chance 42 = .ok (.getfield 345, 3) := by decide +kernel
theorem dX10_chance_45 : decode cX10_chance 45 = .ok (.ireturn, 1) := by decide +kernel
theorem dX10_luck_0 : decode cX10_luck 0 = .ok (.aload_n 0, 1) := by decide +kernel
theorem dX10_luck_1 : decode cX10_luck 1 = .ok (.invokevirtual 179, 3) := by decide +kernel
theorem dX10_luck_4 : decode cX10_luck 4 = .ok (.ifCond .ne 25, 3) := by decide +kernel
theorem dX10_luck_7 : decode cX10_luck 7 = .ok (.iload_n 1, 1) := by decide +kernel
theorem dX10_luck_8 : decode cX10_luck 8 = .ok (.ifCond .lt 21, 3) := by decide +kernel
theorem dX10_luck_11 : decode cX10_luck 11 = .ok (.iload_n 2, 1) := by decide +kernel
theorem dX10_luck_12 : decode cX10_luck 12 = .ok (.iconst 1, 1) := by decide +kernel
theorem dX10_luck_13 : decode cX10_luck 13 = .ok (.if_icmp .lt 16, 3) := by decide +kernel
theorem dX10_luck_16 : decode cX10_luck 16 = .ok (.iload_n 2, 1) := by decide +kernel
theorem dX10_luck_17 : decode cX10_luck 17 = .ok (.bipush 100, 2) := by decide +kernel
theorem dX10_luck_19 : decode cX10_luck 19 = .ok (.if_icmp .gt 10, 3) := by decide +kernel
theorem dX10_luck_22 : decode cX10_luck 22 = .ok (.iload_n 3, 1) := by decide +kernel
theorem dX10_luck_23 : decode cX10_luck 23 = .ok (.invokestatic 185, 3) := by decide +kernel
theorem dX10_luck_26 : decode cX10_luck 26 = .ok (.ifCond .ne 7, 3) := by decide +kernel
theorem dX10_luck_29 : decode cX10_luck 29 = .ok (.ldc2_w 188, 3) := by decide +kernel
theorem dX10_luck_32 : decode cX10_luck 32 = .ok (.lreturn, 1) := by decide +kernel
theorem dX10_luck_33 : decode cX10_luck 33 = .ok (.aload_n 0, 1) := by decide +kernel
theorem dX10_luck_34 : decode cX10_luck 34 = .ok (.getfield 83, 3) := by decide +kernel
theorem dX10_luck_37 : decode cX10_luck 37 = .ok (.aload_n 0, 1) := by decide +kernel
theorem dX10_luck_38 : decode cX10_luck 38 = .ok (.getfield 19, 3) := by decide +kernel
theorem dX10_luck_41 : decode cX10_luck 41 = .ok (.iload_n 1, 1) := by decide +kernel
theorem dX10_luck_42 : decode cX10_luck 42 = .ok (.iload_n 2, 1) := by decide +kernel
theorem dX10_luck_43 : decode cX10_luck 43 = .ok (.invokevirtual 342, 3) := by decide +kernel
theorem dX10_luck_46 : decode cX10_luck 46 = .ok (.aload_n 0, 1) := by decide +kernel
theorem dX10_luck_47 : decode cX10_luck 47 = .ok (.getfield 83, 3) := by decide +kernel
theorem dX10_luck_50 : decode cX10_luck 50 = .ok (.getfield 348, 3) := by decide +kernel
theorem dX10_luck_53 : decode cX10_luck 53 = .ok (.getfield 292, 3) := by decide +kernel
theorem dX10_luck_56 : decode cX10_luck 56 = .ok (.aload_n 0, 1) := by decide +kernel
theorem dX10_luck_57 : decode cX10_luck 57 = .ok (.getfield 83, 3) := by decide +kernel
theorem dX10_luck_60 : decode cX10_luck 60 = .ok (.getfield 348, 3) := by decide +kernel
theorem dX10_luck_63 : decode cX10_luck 63 = .ok (.getfield 293, 3) := by decide +kernel
theorem dX10_luck_66 : decode cX10_luck 66 = .ok (.iload_n 3, 1) := by decide +kernel
theorem dX10_luck_67 : decode cX10_luck 67 = .ok (.invokestatic 200, 3) := by decide +kernel
theorem dX10_luck_70 : decode cX10_luck 70 = .ok (.lreturn, 1) := by decide +kernel
theorem dX10_room_0 : decode cX10_room 0 = .ok (.aload_n 0, 1) := by decide +kernel
theorem dX10_room_1 : decode cX10_room 1 = .ok (.iload_n 1, 1) := by decide +kernel
theorem dX10_room_2 : decode cX10_room 2 = .ok (.invokevirtual 160, 3) := by decide +kernel
theorem dX10_room_5 : decode cX10_room 5 = .ok (.ifCond .ne 6, 3) := by decide +kernel
theorem dX10_room_8 : decode cX10_room 8 = .ok (.bipush (-2), 2) := by decide +kernel
theorem dX10_room_10 : decode cX10_room 10 = .ok (.ireturn, 1) := by decide +kernel
theorem dX10_room_11 : decode cX10_room 11 = .ok (.aload_n 0, 1) := by decide +kernel
theorem dX10_room_12 : decode cX10_room 12 = .ok (.getfield 83, 3) := by decide +kernel
theorem dX10_room_15 : decode cX10_room 15 = .ok (.aload_n 0, 1) := by decide +kernel
theorem dX10_room_16 : decode cX10_room 16 = .ok (.getfield 19, 3) := by decide +kernel
theorem dX10_room_19 : decode cX10_room 19 = .ok (.iload_n 1, 1) := by decide +kernel
theorem dX10_room_20 : decode cX10_room 20 = .ok (.invokevirtual 351, 3) := by decide +kernel
theorem dX10_room_23 : decode cX10_room 23 = .ok (.ireturn, 1) := by decide +kernel
theorem dX10_lay_0 : decode cX10_lay 0 = .ok (.aload_n 0, 1) := by decide +kernel
theorem dX10_lay_1 : decode cX10_lay 1 = .ok (.iload_n 1, 1) := by decide +kernel
theorem dX10_lay_2 : decode cX10_lay 2 = .ok (.invokevirtual 146, 3) := by decide +kernel
theorem dX10_lay_5 : decode cX10_lay 5 = .ok (.ifCond .eq 12, 3) := by decide +kernel
theorem dX10_lay_8 : decode cX10_lay 8 = .ok (.iload_n 2, 1) := by decide +kernel
theorem dX10_lay_9 : decode cX10_lay 9 = .ok (.ifCond .lt 8, 3) := by decide +kernel
theorem dX10_lay_12 : decode cX10_lay 12 = .ok (.iload_n 2, 1) := by decide +kernel
theorem dX10_lay_13 : decode cX10_lay 13 = .ok (.iconst 4, 1) := by decide +kernel
theorem dX10_lay_14 : decode cX10_lay 14 = .ok (.if_icmp .le 6, 3) := by decide +kernel
theorem dX10_lay_17 : decode cX10_lay 17 = .ok (.bipush (-2), 2) := by decide +kernel
theorem dX10_lay_19 : decode cX10_lay 19 = .ok (.ireturn, 1) := by decide +kernel
theorem dX10_lay_20 : decode cX10_lay 20 = .ok (.aload_n 0, 1) := by decide +kernel
theorem dX10_lay_21 : decode cX10_lay 21 = .ok (.getfield 19, 3) := by decide +kernel
theorem dX10_lay_24 : decode cX10_lay 24 = .ok (.getfield 157, 3) := by decide +kernel
theorem dX10_lay_27 : decode cX10_lay 27 = .ok (.iload_n 1, 1) := by decide +kernel
theorem dX10_lay_28 : decode cX10_lay 28 = .ok (.iaload, 1) := by decide +kernel
theorem dX10_lay_29 : decode cX10_lay 29 = .ok (.istore_n 3, 1) := by decide +kernel
theorem dX10_lay_30 : decode cX10_lay 30 = .ok (.iload_n 3, 1) := by decide +kernel
theorem dX10_lay_31 : decode cX10_lay 31 = .ok (.iload_n 2, 1) := by decide +kernel
theorem dX10_lay_32 : decode cX10_lay 32 = .ok (.if_icmp .eq 15, 3) := by decide +kernel
theorem dX10_lay_35 : decode cX10_lay 35 = .ok (.aload_n 0, 1) := by decide +kernel
theorem dX10_lay_36 : decode cX10_lay 36 = .ok (.getfield 19, 3) := by decide +kernel
theorem dX10_lay_39 : decode cX10_lay 39 = .ok (.getfield 133, 3) := by decide +kernel
theorem dX10_lay_42 : decode cX10_lay 42 = .ok (.bipush 20, 2) := by decide +kernel
theorem dX10_lay_44 : decode cX10_lay 44 = .ok (.if_icmp .lt 6, 3) := by decide +kernel
theorem dX10_lay_47 : decode cX10_lay 47 = .ok (.bipush (-5), 2) := by decide +kernel
theorem dX10_lay_49 : decode cX10_lay 49 = .ok (.ireturn, 1) := by decide +kernel
theorem dX10_lay_50 : decode cX10_lay 50 = .ok (.aload_n 0, 1) := by decide +kernel
theorem dX10_lay_51 : decode cX10_lay 51 = .ok (.getfield 19, 3) := by decide +kernel
theorem dX10_lay_54 : decode cX10_lay 54 = .ok (.getfield 157, 3) := by decide +kernel
theorem dX10_lay_57 : decode cX10_lay 57 = .ok (.iload_n 1, 1) := by decide +kernel
theorem dX10_lay_58 : decode cX10_lay 58 = .ok (.iload_n 2, 1) := by decide +kernel
theorem dX10_lay_59 : decode cX10_lay 59 = .ok (.iastore, 1) := by decide +kernel
theorem dX10_lay_60 : decode cX10_lay 60 = .ok (.aload_n 0, 1) := by decide +kernel
theorem dX10_lay_61 : decode cX10_lay 61 = .ok (.getfield 19, 3) := by decide +kernel
theorem dX10_lay_64 : decode cX10_lay 64 = .ok (.iconst 0, 1) := by decide +kernel
theorem dX10_lay_65 : decode cX10_lay 65 = .ok (.iload_n 1, 1) := by decide +kernel
theorem dX10_lay_66 : decode cX10_lay 66 = .ok (.iload_n 3, 1) := by decide +kernel
theorem dX10_lay_67 : decode cX10_lay 67 = .ok (.invokevirtual 354, 3) := by decide +kernel
theorem dX10_lay_70 : decode cX10_lay 70 = .ok (.aload_n 0, 1) := by decide +kernel
theorem dX10_lay_71 : decode cX10_lay 71 = .ok (.invokevirtual 106, 3) := by decide +kernel
theorem dX10_lay_74 : decode cX10_lay 74 = .ok (.iload_n 3, 1) := by decide +kernel
theorem dX10_lay_75 : decode cX10_lay 75 = .ok (.ireturn, 1) := by decide +kernel
theorem dX10_feeds_0 : decode cX10_feeds 0 = .ok (.aload_n 0, 1) := by decide +kernel
theorem dX10_feeds_1 : decode cX10_feeds 1 = .ok (.iload_n 1, 1) := by decide +kernel
theorem dX10_feeds_2 : decode cX10_feeds 2 = .ok (.invokevirtual 160, 3) := by decide +kernel
theorem dX10_feeds_5 : decode cX10_feeds 5 = .ok (.ifCond .ne 6, 3) := by decide +kernel
theorem dX10_feeds_8 : decode cX10_feeds 8 = .ok (.bipush (-2), 2) := by decide +kernel
theorem dX10_feeds_10 : decode cX10_feeds 10 = .ok (.ireturn, 1) := by decide +kernel
theorem dX10_feeds_11 : decode cX10_feeds 11 = .ok (.aload_n 0, 1) := by decide +kernel
theorem dX10_feeds_12 : decode cX10_feeds 12 = .ok (.getfield 19, 3) := by decide +kernel
theorem dX10_feeds_15 : decode cX10_feeds 15 = .ok (.getfield 133, 3) := by decide +kernel
theorem dX10_feeds_18 : decode cX10_feeds 18 = .ok (.bipush 20, 2) := by decide +kernel
theorem dX10_feeds_20 : decode cX10_feeds 20 = .ok (.if_icmp .lt 6, 3) := by decide +kernel
theorem dX10_feeds_23 : decode cX10_feeds 23 = .ok (.bipush (-5), 2) := by decide +kernel
theorem dX10_feeds_25 : decode cX10_feeds 25 = .ok (.ireturn, 1) := by decide +kernel
theorem dX10_feeds_26 : decode cX10_feeds 26 = .ok (.aload_n 0, 1) := by decide +kernel
theorem dX10_feeds_27 : decode cX10_feeds 27 = .ok (.getfield 19, 3) := by decide +kernel
theorem dX10_feeds_30 : decode cX10_feeds 30 = .ok (.dup, 1) := by decide +kernel
theorem dX10_feeds_31 : decode cX10_feeds 31 = .ok (.getfield 136, 3) := by decide +kernel
theorem dX10_feeds_34 : decode cX10_feeds 34 = .ok (.iconst 1, 1) := by decide +kernel
theorem dX10_feeds_35 : decode cX10_feeds 35 = .ok (.iload_n 1, 1) := by decide +kernel
theorem dX10_feeds_36 : decode cX10_feeds 36 = .ok (.ishl, 1) := by decide +kernel
theorem dX10_feeds_37 : decode cX10_feeds 37 = .ok (.ixor, 1) := by decide +kernel
theorem dX10_feeds_38 : decode cX10_feeds 38 = .ok (.putfield 136, 3) := by decide +kernel
theorem dX10_feeds_41 : decode cX10_feeds 41 = .ok (.aload_n 0, 1) := by decide +kernel
theorem dX10_feeds_42 : decode cX10_feeds 42 = .ok (.getfield 19, 3) := by decide +kernel
theorem dX10_feeds_45 : decode cX10_feeds 45 = .ok (.iconst 1, 1) := by decide +kernel
theorem dX10_feeds_46 : decode cX10_feeds 46 = .ok (.iload_n 1, 1) := by decide +kernel
theorem dX10_feeds_47 : decode cX10_feeds 47 = .ok (.iconst 0, 1) := by decide +kernel
theorem dX10_feeds_48 : decode cX10_feeds 48 = .ok (.invokevirtual 354, 3) := by decide +kernel
theorem dX10_feeds_51 : decode cX10_feeds 51 = .ok (.aload_n 0, 1) := by decide +kernel
theorem dX10_feeds_52 : decode cX10_feeds 52 = .ok (.invokevirtual 106, 3) := by decide +kernel
