theorem dX7_init_0 : decode cX7_init 0 = .ok (.aload_n 0, 1) := by decide +kernel
theorem dX7_init_1 : decode cX7_init 1 = .ok (.invokespecial 3, 3) := by decide +kernel
theorem dX7_init_4 : decode cX7_init 4 = .ok (.aload_n 0, 1) := by decide +kernel
theorem dX7_init_5 : decode cX7_init 5 = .ok (.bipush 16, 2) := by decide +kernel
theorem dX7_init_7 : decode cX7_init 7 = .ok (.newarray .int, 2) := by decide +kernel
theorem dX7_init_9 : decode cX7_init 9 = .ok (.putfield 11, 3) := by decide +kernel
theorem dX7_init_12 : decode cX7_init 12 = .ok (.aload_n 0, 1) := by decide +kernel
theorem dX7_init_13 : decode cX7_init 13 = .ok (.sipush 384, 3) := by decide +kernel
theorem dX7_init_16 : decode cX7_init 16 = .ok (.newarray .int, 2) := by decide +kernel
theorem dX7_init_18 : decode cX7_init 18 = .ok (.putfield 15, 3) := by decide +kernel
theorem dX7_init_21 : decode cX7_init 21 = .ok (.return_, 1) := by decide +kernel
theorem dX7_clear_0 : decode cX7_clear 0 = .ok (.aload_n 0, 1) := by decide +kernel
theorem dX7_clear_1 : decode cX7_clear 1 = .ok (.getfield 11, 3) := by decide +kernel
theorem dX7_clear_4 : decode cX7_clear 4 = .ok (.iconst 0, 1) := by decide +kernel
theorem dX7_clear_5 : decode cX7_clear 5 = .ok (.invokestatic 18, 3) := by decide +kernel
theorem dX7_clear_8 : decode cX7_clear 8 = .ok (.return_, 1) := by decide +kernel
theorem dX7_copyFrom_0 : decode cX7_copyFrom 0 = .ok (.aload_n 1, 1) := by decide +kernel
theorem dX7_copyFrom_1 : decode cX7_copyFrom 1 = .ok (.getfield 11, 3) := by decide +kernel
theorem dX7_copyFrom_4 : decode cX7_copyFrom 4 = .ok (.iconst 0, 1) := by decide +kernel
theorem dX7_copyFrom_5 : decode cX7_copyFrom 5 = .ok (.aload_n 0, 1) := by decide +kernel
theorem dX7_copyFrom_6 : decode cX7_copyFrom 6 = .ok (.getfield 11, 3) := by decide +kernel
theorem dX7_copyFrom_9 : decode cX7_copyFrom 9 = .ok (.iconst 0, 1) := by decide +kernel
theorem dX7_copyFrom_10 : decode cX7_copyFrom 10 = .ok (.bipush 16, 2) := by decide +kernel
theorem dX7_copyFrom_12 : decode cX7_copyFrom 12 = .ok (.invokestatic 24, 3) := by decide +kernel
theorem dX7_copyFrom_15 : decode cX7_copyFrom 15 = .ok (.aload_n 1, 1) := by decide +kernel
theorem dX7_copyFrom_16 : decode cX7_copyFrom 16 = .ok (.getfield 15, 3) := by decide +kernel
theorem dX7_copyFrom_19 : decode cX7_copyFrom 19 = .ok (.iconst 0, 1) := by decide +kernel
theorem dX7_copyFrom_20 : decode cX7_copyFrom 20 = .ok (.aload_n 0, 1) := by decide +kernel
theorem dX7_copyFrom_21 : decode cX7_copyFrom 21 = .ok (.getfield 15, 3) := by decide +kernel
theorem dX7_copyFrom_24 : decode cX7_copyFrom 24 = .ok (.iconst 0, 1) := by decide +kernel
theorem dX7_copyFrom_25 : decode cX7_copyFrom 25 = .ok (.sipush 384, 3) := by decide +kernel
theorem dX7_copyFrom_28 : decode cX7_copyFrom 28 = .ok (.invokestatic 24, 3) := by decide +kernel
theorem dX7_copyFrom_31 : decode cX7_copyFrom 31 = .ok (.return_, 1) := by decide +kernel
theorem dX7_takeShape_0 : decode cX7_takeShape 0 = .ok (.aload_n 0, 1) := by decide +kernel
theorem dX7_takeShape_1 : decode cX7_takeShape 1 = .ok (.invokevirtual 30, 3) := by decide +kernel
theorem dX7_takeShape_4 : decode cX7_takeShape 4 = .ok (.aload_n 1, 1) := by decide +kernel
theorem dX7_takeShape_5 : decode cX7_takeShape 5 = .ok (.getfield 33, 3) := by decide +kernel
theorem dX7_takeShape_8 : decode cX7_takeShape 8 = .ok (.iconst 0, 1) := by decide +kernel
theorem dX7_takeShape_9 : decode cX7_takeShape 9 = .ok (.aload_n 0, 1) := by decide +kernel
theorem dX7_takeShape_10 : decode cX7_takeShape 10 = .ok (.getfield 11, 3) := by decide +kernel
theorem dX7_takeShape_13 : decode cX7_takeShape 13 = .ok (.iconst 0, 1) := by decide +kernel
theorem dX7_takeShape_14 : decode cX7_takeShape 14 = .ok (.bipush 8, 2) := by decide +kernel
theorem dX7_takeShape_16 : decode cX7_takeShape 16 = .ok (.invokestatic 24, 3) := by decide +kernel
theorem dX7_takeShape_19 : decode cX7_takeShape 19 = .ok (.return_, 1) := by decide +kernel
theorem dX7_has_0 : decode cX7_has 0 = .ok (.iload_n 1, 1) := by decide +kernel
theorem dX7_has_1 : decode cX7_has 1 = .ok (.ifCond .lt 27, 3) := by decide +kernel
theorem dX7_has_4 : decode cX7_has 4 = .ok (.iload_n 1, 1) := by decide +kernel
theorem dX7_has_5 : decode cX7_has 5 = .ok (.bipush 16, 2) := by decide +kernel
theorem dX7_has_7 : decode cX7_has 7 = .ok (.if_icmp .ge 21, 3) := by decide +kernel
theorem dX7_has_10 : decode cX7_has 10 = .ok (.iload_n 2, 1) := by decide +kernel
theorem dX7_has_11 : decode cX7_has 11 = .ok (.ifCond .lt 17, 3) := by decide +kernel
theorem dX7_has_14 : decode cX7_has 14 = .ok (.iload_n 2, 1) := by decide +kernel
theorem dX7_has_15 : decode cX7_has 15 = .ok (.aload_n 0, 1) := by decide +kernel
theorem dX7_has_16 : decode cX7_has 16 = .ok (.getfield 11, 3) := by decide +kernel
theorem dX7_has_19 : decode cX7_has 19 = .ok (.iload_n 1, 1) := by decide +kernel
theorem dX7_has_20 : decode cX7_has 20 = .ok (.iaload, 1) := by decide +kernel
theorem dX7_has_21 : decode cX7_has 21 = .ok (.if_icmp .ge 7, 3) := by decide +kernel
theorem dX7_has_24 : decode cX7_has 24 = .ok (.iconst 1, 1) := by decide +kernel
theorem dX7_has_25 : decode cX7_has 25 = .ok (.goto 4, 3) := by decide +kernel
theorem dX7_has_28 : decode cX7_has 28 = .ok (.iconst 0, 1) := by decide +kernel
theorem dX7_has_29 : decode cX7_has 29 = .ok (.ireturn, 1) := by decide +kernel
theorem dX7_letterAt_0 : decode cX7_letterAt 0 = .ok (.aload_n 0, 1) := by decide +kernel
theorem dX7_letterAt_1 : decode cX7_letterAt 1 = .ok (.iload_n 1, 1) := by decide +kernel
theorem dX7_letterAt_2 : decode cX7_letterAt 2 = .ok (.iload_n 2, 1) := by decide +kernel
theorem dX7_letterAt_3 : decode cX7_letterAt 3 = .ok (.invokevirtual 36, 3) := by decide +kernel
theorem dX7_letterAt_6 : decode cX7_letterAt 6 = .ok (.ifCond .eq 17, 3) := by decide +kernel
theorem dX7_letterAt_9 : decode cX7_letterAt 9 = .ok (.aload_n 0, 1) := by decide +kernel
theorem dX7_letterAt_10 : decode cX7_letterAt 10 = .ok (.getfield 15, 3) := by decide +kernel
theorem dX7_letterAt_13 : decode cX7_letterAt 13 = .ok (.iload_n 1, 1) := by decide +kernel
theorem dX7_letterAt_14 : decode cX7_letterAt 14 = .ok (.bipush 24, 2) := by decide +kernel
theorem dX7_letterAt_16 : decode cX7_letterAt 16 = .ok (.imul, 1) := by decide +kernel
theorem dX7_letterAt_17 : decode cX7_letterAt 17 = .ok (.iload_n 2, 1) := by decide +kernel
theorem dX7_letterAt_18 : decode cX7_letterAt 18 = .ok (.iadd, 1) := by decide +kernel
theorem dX7_letterAt_19 : decode cX7_letterAt 19 = .ok (.iaload, 1) := by decide +kernel
theorem dX7_letterAt_20 : decode cX7_letterAt 20 = .ok (.goto 4, 3) := by decide +kernel
theorem dX7_letterAt_23 : decode cX7_letterAt 23 = .ok (.iconst 0, 1) := by decide +kernel
theorem dX7_letterAt_24 : decode cX7_letterAt 24 = .ok (.ireturn, 1) := by decide +kernel
theorem dX7_put_0 : decode cX7_put 0 = .ok (.aload_n 0, 1) := by decide +kernel
theorem dX7_put_1 : decode cX7_put 1 = .ok (.getfield 15, 3) := by decide +kernel
theorem dX7_put_4 : decode cX7_put 4 = .ok (.iload_n 1, 1) := by decide +kernel
theorem dX7_put_5 : decode cX7_put 5 = .ok (.bipush 24, 2) := by decide +kernel
theorem dX7_put_7 : decode cX7_put 7 = .ok (.imul, 1) := by decide +kernel
theorem dX7_put_8 : decode cX7_put 8 = .ok (.iload_n 2, 1) := by decide +kernel
theorem dX7_put_9 : decode cX7_put 9 = .ok (.iadd, 1) := by decide +kernel
theorem dX7_put_10 : decode cX7_put 10 = .ok (.iload_n 3, 1) := by decide +kernel
theorem dX7_put_11 : decode cX7_put 11 = .ok (.iastore, 1) := by decide +kernel
theorem dX7_put_12 : decode cX7_put 12 = .ok (.return_, 1) := by decide +kernel
theorem dX7_append_0 : decode cX7_append 0 = .ok (.aload_n 0, 1) := by decide +kernel
theorem dX7_append_1 : decode cX7_append 1 = .ok (.iload_n 1, 1) := by decide +kernel
theorem dX7_append_2 : decode cX7_append 2 = .ok (.aload_n 0, 1) := by decide +kernel
theorem dX7_append_3 : decode cX7_append 3 = .ok (.getfield 11, 3) := by decide +kernel
theorem dX7_append_6 : decode cX7_append 6 = .ok (.iload_n 1, 1) := by decide +kernel
theorem dX7_append_7 : decode cX7_append 7 = .ok (.iaload, 1) := by decide +kernel
theorem dX7_append_8 : decode cX7_append 8 = .ok (.iload_n 2, 1) := by decide +kernel
theorem dX7_append_9 : decode cX7_append 9 = .ok (.invokevirtual 40, 3) := by decide +kernel
theorem dX7_append_12 : decode cX7_append 12 = .ok (.aload_n 0, 1) := by decide +kernel
theorem dX7_append_13 : decode cX7_append 13 = .ok (.getfield 11, 3) := by decide +kernel
theorem dX7_append_16 : decode cX7_append 16 = .ok (.iload_n 1, 1) := by decide +kernel
theorem dX7_append_17 : decode cX7_append 17 = .ok (.dup2, 1) := by decide +kernel
theorem dX7_append_18 : decode cX7_append 18 = .ok (.iaload, 1) := by decide +kernel
theorem dX7_append_19 : decode cX7_append 19 = .ok (.iconst 1, 1) := by decide +kernel
theorem dX7_append_20 : decode cX7_append 20 = .ok (.iadd, 1) := by decide +kernel
theorem dX7_append_21 : decode cX7_append 21 = .ok (.iastore, 1) := by decide +kernel
theorem dX7_append_22 : decode cX7_append 22 = .ok (.return_, 1) := by decide +kernel
theorem dX7_replace_0 : decode cX7_replace 0 = .ok (.aload_n 0, 1) := by decide +kernel
theorem dX7_replace_1 : decode cX7_replace 1 = .ok (.iload_n 1, 1) := by decide +kernel
theorem dX7_replace_2 : decode cX7_replace 2 = .ok (.iload_n 2, 1) := by decide +kernel
theorem dX7_replace_3 : decode cX7_replace 3 = .ok (.invokevirtual 44, 3) := by decide +kernel
theorem dX7_replace_6 : decode cX7_replace 6 = .ok (.istore 4, 2) := by decide +kernel
theorem dX7_replace_8 : decode cX7_replace 8 = .ok (.aload_n 0, 1) := by decide +kernel
theorem dX7_replace_9 : decode cX7_replace 9 = .ok (.iload_n 1, 1) := by decide +kernel
theorem dX7_replace_10 : decode cX7_replace 10 = .ok (.iload_n 2, 1) := by decide +kernel
theorem dX7_replace_11 : decode cX7_replace 11 = .ok (.iload_n 3, 1) := by decide +kernel
theorem dX7_replace_12 : decode cX7_replace 12 = .ok (.invokevirtual 40, 3) := by decide +kernel
theorem dX7_replace_15 : decode cX7_replace 15 = .ok (.iload 4, 2) := by decide +kernel
theorem dX7_replace_17 : decode cX7_replace 17 = .ok (.ireturn, 1) := by decide +kernel
theorem dX7_countRows_0 : decode cX7_countRows 0 = .ok (.iconst 0, 1) := by decide +kernel
theorem dX7_countRows_1 : decode cX7_countRows 1 = .ok (.istore_n 1, 1) := by decide +kernel
theorem dX7_countRows_2 : decode cX7_countRows 2 = .ok (.iconst 0, 1) := by decide +kernel
theorem dX7_countRows_3 : decode cX7_countRows 3 = .ok (.istore_n 2, 1) := by decide +kernel
theorem dX7_countRows_4 : decode cX7_countRows 4 = .ok (.iload_n 2, 1) := by decide +kernel
theorem dX7_countRows_5 : decode cX7_countRows 5 = .ok (.bipush 16, 2) := by decide +kernel
theorem dX7_countRows_7 : decode cX7_countRows 7 = .ok (.if_icmp .ge 21, 3) := by decide +kernel
theorem dX7_countRows_10 : decode cX7_countRows 10 = .ok (.aload_n 0, 1) := by decide +kernel
theorem dX7_countRows_11 : decode cX7_countRows 11 = .ok (.getfield 11, 3) := by decide +kernel
theorem dX7_countRows_14 : decode cX7_countRows 14 = .ok (.iload_n 2, 1) := by decide +kernel
theorem dX7_countRows_15 : decode cX7_countRows 15 = .ok (.iaload, 1) := by decide +kernel
theorem dX7_countRows_16 : decode cX7_countRows 16 = .ok (.ifCond .le 6, 3) := by decide +kernel
theorem dX7_countRows_19 : decode cX7_countRows 19 = .ok (.iinc 1 1, 3) := by decide +kernel
theorem dX7_countRows_22 : decode cX7_countRows 22 = .ok (.iinc 2 1, 3) := by decide +kernel
theorem dX7_countRows_25 : decode cX7_countRows 25 = .ok (.goto (-21), 3) := by decide +kernel
theorem dX7_countRows_28 : decode cX7_countRows 28 = .ok (.iload_n 1, 1) := by decide +kernel
theorem dX7_countRows_29 : decode cX7_countRows 29 = .ok (.ireturn, 1) := by decide +kernel
theorem dX7_countBoxes_0 : decode cX7_countBoxes 0 = .ok (.iconst 0, 1) := by decide +kernel
theorem dX7_countBoxes_1 : decode cX7_countBoxes 1 = .ok (.istore_n 1, 1) := by decide +kernel
theorem dX7_countBoxes_2 : decode cX7_countBoxes 2 = .ok (.iconst 0, 1) := by decide +kernel
theorem dX7_countBoxes_3 : decode cX7_countBoxes 3 = .ok (.istore_n 2, 1) := by decide +kernel
theorem dX7_countBoxes_4 : decode cX7_countBoxes 4 = .ok (.iload_n 2, 1) := by decide +kernel
theorem dX7_countBoxes_5 : decode cX7_countBoxes 5 = .ok (.bipush 16, 2) := by decide +kernel
theorem dX7_countBoxes_7 : decode cX7_countBoxes 7 = .ok (.if_icmp .ge 18, 3) := by decide +kernel
theorem dX7_countBoxes_10 : decode cX7_countBoxes 10 = .ok (.iload_n 1, 1) := by decide +kernel
theorem dX7_countBoxes_11 : decode cX7_countBoxes 11 = .ok (.aload_n 0, 1) := by decide +kernel
theorem dX7_countBoxes_12 : decode cX7_countBoxes 12 = .ok (.getfield 11, 3) := by decide +kernel
theorem dX7_countBoxes_15 : decode cX7_countBoxes 15 = .ok (.iload_n 2, 1) := by decide +kernel
theorem dX7_countBoxes_16 : decode cX7_countBoxes 16 = .ok (.iaload, 1) := by decide +kernel
theorem dX7_countBoxes_17 : decode cX7_countBoxes 17 = .ok (.iadd, 1) := by decide +kernel
theorem dX7_countBoxes_18 : decode cX7_countBoxes 18 = .ok (.istore_n 1, 1) := by decide +kernel
theorem dX7_countBoxes_19 : decode cX7_countBoxes 19 = .ok (.iinc 2 1, 3) := by decide +kernel
theorem dX7_countBoxes_22 : decode cX7_countBoxes 22 = .ok (.goto (-18), 3) := by decide +kernel
theorem dX7_countBoxes_25 : decode cX7_countBoxes 25 = .ok (.iload_n 1, 1) := by decide +kernel
theorem dX7_countBoxes_26 : decode cX7_countBoxes 26 = .ok (.ireturn, 1) := by decide +kernel
theorem dX7_greatestLetter_0 : decode cX7_greatestLetter 0 = .ok (.iconst 0, 1) := by decide +kernel
theorem dX7_greatestLetter_1 : decode cX7_greatestLetter 1 = .ok (.istore_n 1, 1) := by decide +kernel
theorem dX7_greatestLetter_2 : decode cX7_greatestLetter 2 = .ok (.iconst 0, 1) := by decide +kernel
theorem dX7_greatestLetter_3 : decode cX7_greatestLetter 3 = .ok (.istore_n 2, 1) := by decide +kernel
theorem dX7_greatestLetter_4 : decode cX7_greatestLetter 4 = .ok (.iload_n 2, 1) := by decide +kernel
theorem dX7_greatestLetter_5 : decode cX7_greatestLetter 5 = .ok (.bipush 16, 2) := by decide +kernel
theorem dX7_greatestLetter_7 : decode cX7_greatestLetter 7 = .ok (.if_icmp .ge 27, 3) := by decide +kernel
theorem dX7_greatestLetter_10 : decode cX7_greatestLetter 10 = .ok (.iload_n 1, 1) := by decide +kernel
theorem dX7_greatestLetter_11 : decode cX7_greatestLetter 11 = .ok (.aload_n 0, 1) := by decide +kernel
theorem dX7_greatestLetter_12 : decode cX7_greatestLetter 12 = .ok (.iload_n 2, 1) := by decide +kernel
theorem dX7_greatestLetter_13 : decode cX7_greatestLetter 13 = .ok (.aload_n 0, 1) := by decide +kernel
theorem dX7_greatestLetter_14 : decode cX7_greatestLetter 14 = .ok (.getfield 11, 3) := by decide +kernel
theorem dX7_greatestLetter_17 : decode cX7_greatestLetter 17 = .ok (.iload_n 2, 1) := by decide +kernel
theorem dX7_greatestLetter_18 : decode cX7_greatestLetter 18 = .ok (.iaload, 1) := by decide +kernel
theorem dX7_greatestLetter_19 : decode cX7_greatestLetter 19 = .ok (.iconst 1, 1) := by decide +kernel
theorem dX7_greatestLetter_20 : decode cX7_greatestLetter 20 = .ok (.isub, 1) := by decide +kernel
theorem dX7_greatestLetter_21 : decode cX7_greatestLetter 21 = .ok (.invokevirtual 44, 3) := by decide +kernel
theorem dX7_greatestLetter_24 : decode cX7_greatestLetter 24 = .ok (.invokestatic 48, 3) := by decide +kernel
theorem dX7_greatestLetter_27 : decode cX7_greatestLetter 27 = .ok (.istore_n 1, 1) := by decide +kernel
theorem dX7_greatestLetter_28 : decode cX7_greatestLetter 28 = .ok (.iinc 2 1, 3) := by decide +kernel
theorem dX7_greatestLetter_31 : decode cX7_greatestLetter 31 = .ok (.goto (-27), 3) := by decide +kernel
theorem dX7_greatestLetter_34 : decode cX7_greatestLetter 34 = .ok (.iload_n 1, 1) := by decide +kernel
theorem dX7_greatestLetter_35 : decode cX7_greatestLetter 35 = .ok (.ireturn, 1) := by decide +kernel
theorem dX7_isStandard_0 : decode cX7_isStandard 0 = .ok (.aload_n 0, 1) := by decide +kernel
theorem dX7_isStandard_1 : decode cX7_isStandard 1 = .ok (.invokevirtual 53, 3) := by decide +kernel
theorem dX7_isStandard_4 : decode cX7_isStandard 4 = .ok (.istore_n 1, 1) := by decide +kernel
theorem dX7_isStandard_5 : decode cX7_isStandard 5 = .ok (.iconst 0, 1) := by decide +kernel
theorem dX7_isStandard_6 : decode cX7_isStandard 6 = .ok (.istore_n 2, 1) := by decide +kernel
theorem dX7_isStandard_7 : decode cX7_isStandard 7 = .ok (.iconst 0, 1) := by decide +kernel
theorem dX7_isStandard_8 : decode cX7_isStandard 8 = .ok (.istore_n 3, 1) := by decide +kernel
theorem dX7_isStandard_9 : decode cX7_isStandard 9 = .ok (.iload_n 3, 1) := by decide +kernel
theorem dX7_isStandard_10 : decode cX7_isStandard 10 = .ok (.bipush 16, 2) := by decide +kernel
theorem dX7_isStandard_12 : decode cX7_isStandard 12 = .ok (.if_icmp .ge 41, 3) := by decide +kernel
theorem dX7_isStandard_15 : decode cX7_isStandard 15 = .ok (.iconst 0, 1) := by decide +kernel
theorem dX7_isStandard_16 : decode cX7_isStandard 16 = .ok (.istore 4, 2) := by decide +kernel
theorem dX7_isStandard_18 : decode cX7_isStandard 18 = .ok (.iload 4, 2) := by decide +kernel
theorem dX7_isStandard_20 : decode cX7_isStandard 20 = .ok (.aload_n 0, 1) := by decide +kernel
theorem dX7_isStandard_21 : decode cX7_isStandard 21 = .ok (.getfield 11, 3) := by decide +kernel
theorem dX7_isStandard_24 : decode cX7_isStandard 24 = .ok (.iload_n 3, 1) := by decide +kernel
theorem dX7_isStandard_25 : decode cX7_isStandard 25 = .ok (.iaload, 1) := by decide +kernel
theorem dX7_isStandard_26 : decode cX7_isStandard 26 = .ok (.if_icmp .ge 21, 3) := by decide +kernel
theorem dX7_isStandard_29 : decode cX7_isStandard 29 = .ok (.iload_n 2, 1) := by decide +kernel
theorem dX7_isStandard_30 : decode cX7_isStandard 30 = .ok (.iconst 1, 1) := by decide +kernel
theorem dX7_isStandard_31 : decode cX7_isStandard 31 = .ok (.aload_n 0, 1) := by decide +kernel
theorem dX7_isStandard_32 : decode cX7_isStandard 32 = .ok (.iload_n 3, 1) := by decide +kernel
theorem dX7_isStandard_33 : decode cX7_isStandard 33 = .ok (.iload 4, 2) := by decide +kernel
theorem dX7_isStandard_35 : decode cX7_isStandard 35 = .ok (.invokevirtual 44, 3) := by decide +kernel
theorem dX7_isStandard_38 : decode cX7_isStandard 38 = .ok (.ishl, 1) := by decide +kernel
theorem dX7_isStandard_39 : decode cX7_isStandard 39 = .ok (.ior, 1) := by decide +kernel
theorem dX7_isStandard_40 : decode cX7_isStandard 40 = .ok (.istore_n 2, 1) := by decide +kernel
theorem dX7_isStandard_41 : decode cX7_isStandard 41 = .ok (.iinc 4 1, 3) := by decide +kernel
theorem dX7_isStandard_44 : decode cX7_isStandard 44 = .ok (.goto (-26), 3) := by decide +kernel
theorem dX7_isStandard_47 : decode cX7_isStandard 47 = .ok (.iinc 3 1, 3) := by decide +kernel
theorem dX7_isStandard_50 : decode cX7_isStandard 50 = .ok (.goto (-41), 3) := by decide +kernel
theorem dX7_isStandard_53 : decode cX7_isStandard 53 = .ok (.iload_n 2, 1) := by decide +kernel
theorem dX7_isStandard_54 : decode cX7_isStandard 54 = .ok (.iconst 1, 1) := by decide +kernel
theorem dX7_isStandard_55 : decode cX7_isStandard 55 = .ok (.iload_n 1, 1) := by decide +kernel
theorem dX7_isStandard_56 : decode cX7_isStandard 56 = .ok (.iconst 1, 1) := by decide +kernel
theorem dX7_isStandard_57 : decode cX7_isStandard 57 = .ok (.iadd, 1) := by decide +kernel
theorem dX7_isStandard_58 : decode cX7_isStandard 58 = .ok (.ishl, 1) := by decide +kernel
theorem dX7_isStandard_59 : decode cX7_isStandard 59 = .ok (.iconst 2, 1) := by decide +kernel
theorem dX7_isStandard_60 : decode cX7_isStandard 60 = .ok (.isub, 1) := by decide +kernel
theorem dX7_isStandard_61 : decode cX7_isStandard 61 = .ok (.if_icmp .ne 7, 3) := by decide +kernel
theorem dX7_isStandard_64 : decode cX7_isStandard 64 = .ok (.iconst 1, 1) := by decide +kernel
theorem dX7_isStandard_65 : decode cX7_isStandard 65 = .ok (.goto 4, 3) := by decide +kernel
theorem dX7_isStandard_68 : decode cX7_isStandard 68 = .ok (.iconst 0, 1) := by decide +kernel
theorem dX7_isStandard_69 : decode cX7_isStandard 69 = .ok (.ireturn, 1) := by decide +kernel
theorem dX7_isSameAs_0 : decode cX7_isSameAs 0 = .ok (.iconst 0, 1) := by decide +kernel
theorem dX7_isSameAs_1 : decode cX7_isSameAs 1 = .ok (.istore_n 2, 1) := by decide +kernel
theorem dX7_isSameAs_2 : decode cX7_isSameAs 2 = .ok (.iload_n 2, 1) := by decide +kernel
theorem dX7_isSameAs_3 : decode cX7_isSameAs 3 = .ok (.bipush 16, 2) := by decide +kernel
theorem dX7_isSameAs_5 : decode cX7_isSameAs 5 = .ok (.if_icmp .ge 61, 3) := by decide +kernel
theorem dX7_isSameAs_8 : decode cX7_isSameAs 8 = .ok (.aload_n 0, 1) := by decide +kernel
theorem dX7_isSameAs_9 : decode cX7_isSameAs 9 = .ok (.getfield 11, 3) := by decide +kernel
theorem dX7_isSameAs_12 : decode cX7_isSameAs 12 = .ok (.iload_n 2, 1) := by decide +kernel
theorem dX7_isSameAs_13 : decode cX7_isSameAs 13 = .ok (.iaload, 1) := by decide +kernel
theorem dX7_isSameAs_14 : decode cX7_isSameAs 14 = .ok (.aload_n 1, 1) := by decide +kernel
theorem dX7_isSameAs_15 : decode cX7_isSameAs 15 = .ok (.getfield 11, 3) := by decide +kernel
theorem dX7_isSameAs_18 : decode cX7_isSameAs 18 = .ok (.iload_n 2, 1) := by decide +kernel
theorem dX7_isSameAs_19 : decode cX7_isSameAs 19 = .ok (.iaload, 1) := by decide +kernel
theorem dX7_isSameAs_20 : decode cX7_isSameAs 20 = .ok (.if_icmp .eq 5, 3) := by decide +kernel
theorem dX7_isSameAs_23 : decode cX7_isSameAs 23 = .ok (.iconst 0, 1) := by decide +kernel
theorem dX7_isSameAs_24 : decode cX7_isSameAs 24 = .ok (.ireturn, 1) := by decide +kernel
theorem dX7_isSameAs_25 : decode cX7_isSameAs 25 = .ok (.iconst 0, 1) := by decide +kernel
theorem dX7_isSameAs_26 : decode cX7_isSameAs 26 = .ok (.istore_n 3, 1) := by decide +kernel
theorem dX7_isSameAs_27 : decode cX7_isSameAs 27 = .ok (.iload_n 3, 1) := by decide +kernel
theorem dX7_isSameAs_28 : decode cX7_isSameAs 28 = .ok (.aload_n 0, 1) := by decide +kernel
theorem dX7_isSameAs_29 : decode cX7_isSameAs 29 = .ok (.getfield 11, 3) := by decide +kernel
theorem dX7_isSameAs_32 : decode cX7_isSameAs 32 = .ok (.iload_n 2, 1) := by decide +kernel
theorem dX7_isSameAs_33 : decode cX7_isSameAs 33 = .ok (.iaload, 1) := by decide +kernel
theorem dX7_isSameAs_34 : decode cX7_isSameAs 34 = .ok (.if_icmp .ge 26, 3) := by decide +kernel
theorem dX7_isSameAs_37 : decode cX7_isSameAs 37 = .ok (.aload_n 0, 1) := by decide +kernel
theorem dX7_isSameAs_38 : decode cX7_isSameAs 38 = .ok (.iload_n 2, 1) := by decide +kernel
theorem dX7_isSameAs_39 : decode cX7_isSameAs 39 = .ok (.iload_n 3, 1) := by decide +kernel
theorem dX7_isSameAs_40 : decode cX7_isSameAs 40 = .ok (.invokevirtual 44, 3) := by decide +kernel
theorem dX7_isSameAs_43 : decode cX7_isSameAs 43 = .ok (.aload_n 1, 1) := by decide +kernel
theorem dX7_isSameAs_44 : decode cX7_isSameAs 44 = .ok (.iload_n 2, 1) := by decide +kernel
theorem dX7_isSameAs_45 : decode cX7_isSameAs 45 = .ok (.iload_n 3, 1) := by decide +kernel
theorem dX7_isSameAs_46 : decode cX7_isSameAs 46 = .ok (.invokevirtual 44, 3) := by decide +kernel
theorem dX7_isSameAs_49 : decode cX7_isSameAs 49 = .ok (.if_icmp .eq 5, 3) := by decide +kernel
theorem dX7_isSameAs_52 : decode cX7_isSameAs 52 = .ok (.iconst 0, 1) := by decide +kernel
theorem dX7_isSameAs_53 : decode cX7_isSameAs 53 = .ok (.ireturn, 1) := by decide +kernel
theorem dX7_isSameAs_54 : decode cX7_isSameAs 54 = .ok (.iinc 3 1, 3) := by decide +kernel
theorem dX7_isSameAs_57 : decode cX7_isSameAs 57 = .ok (.goto (-30), 3) := by decide +kernel
theorem dX7_isSameAs_60 : decode cX7_isSameAs 60 = .ok (.iinc 2 1, 3) := by decide +kernel
theorem dX7_isSameAs_63 : decode cX7_isSameAs 63 = .ok (.goto (-61), 3) := by decide +kernel
theorem dX7_isSameAs_66 : decode cX7_isSameAs 66 = .ok (.iconst 1, 1) := by decide +kernel
theorem dX7_isSameAs_67 : decode cX7_isSameAs 67 = .ok (.ireturn, 1) := by decide +kernel
theorem dX7_insertAll_0 : decode cX7_insertAll 0 = .ok (.aload_n 0, 1) := by decide +kernel
theorem dX7_insertAll_1 : decode cX7_insertAll 1 = .ok (.invokevirtual 30, 3) := by decide +kernel
theorem dX7_insertAll_4 : decode cX7_insertAll 4 = .ok (.iconst 0, 1) := by decide +kernel
theorem dX7_insertAll_5 : decode cX7_insertAll 5 = .ok (.istore_n 2, 1) := by decide +kernel
theorem dX7_insertAll_6 : decode cX7_insertAll 6 = .ok (.iload_n 2, 1) := by decide +kernel
theorem dX7_insertAll_7 : decode cX7_insertAll 7 = .ok (.aload_n 1, 1) := by decide +kernel
theorem dX7_insertAll_8 : decode cX7_insertAll 8 = .ok (.getfield 57, 3) := by decide +kernel
theorem dX7_insertAll_11 : decode cX7_insertAll 11 = .ok (.if_icmp .ge 19, 3) := by decide +kernel
theorem dX7_insertAll_14 : decode cX7_insertAll 14 = .ok (.aload_n 0, 1) := by decide +kernel
theorem dX7_insertAll_15 : decode cX7_insertAll 15 = .ok (.aload_n 1, 1) := by decide +kernel
theorem dX7_insertAll_16 : decode cX7_insertAll 16 = .ok (.iload_n 2, 1) := by decide +kernel
theorem dX7_insertAll_17 : decode cX7_insertAll 17 = .ok (.invokevirtual 63, 3) := by decide +kernel
theorem dX7_insertAll_20 : decode cX7_insertAll 20 = .ok (.invokevirtual 66, 3) := by decide +kernel
theorem dX7_insertAll_23 : decode cX7_insertAll 23 = .ok (.pop, 1) := by decide +kernel
theorem dX7_insertAll_24 : decode cX7_insertAll 24 = .ok (.iinc 2 1, 3) := by decide +kernel
theorem dX7_insertAll_27 : decode cX7_insertAll 27 = .ok (.goto (-21), 3) := by decide +kernel
theorem dX7_insertAll_30 : decode cX7_insertAll 30 = .ok (.return_, 1) := by decide +kernel
theorem dX7_addByRows_0 : decode cX7_addByRows 0 = .ok (.iload_n 1, 1) := by decide +kernel
theorem dX7_addByRows_1 : decode cX7_addByRows 1 = .ok (.istore_n 2, 1) := by decide +kernel
theorem dX7_addByRows_2 : decode cX7_addByRows 2 = .ok (.iconst 0, 1) := by decide +kernel
theorem dX7_addByRows_3 : decode cX7_addByRows 3 = .ok (.istore_n 3, 1) := by decide +kernel
theorem dX7_addByRows_4 : decode cX7_addByRows 4 = .ok (.aload_n 0, 1) := by decide +kernel
theorem dX7_addByRows_5 : decode cX7_addByRows 5 = .ok (.iload_n 3, 1) := by decide +kernel
theorem dX7_addByRows_6 : decode cX7_addByRows 6 = .ok (.iload_n 2, 1) := by decide +kernel
theorem dX7_addByRows_7 : decode cX7_addByRows 7 = .ok (.invokevirtual 69, 3) := by decide +kernel
theorem dX7_addByRows_10 : decode cX7_addByRows 10 = .ok (.istore 4, 2) := by decide +kernel
theorem dX7_addByRows_12 : decode cX7_addByRows 12 = .ok (.iload_n 3, 1) := by decide +kernel
theorem dX7_addByRows_13 : decode cX7_addByRows 13 = .ok (.bipush 15, 2) := by decide +kernel
theorem dX7_addByRows_15 : decode cX7_addByRows 15 = .ok (.if_icmp .ge 37, 3) := by decide +kernel
theorem dX7_addByRows_18 : decode cX7_addByRows 18 = .ok (.iload 4, 2) := by decide +kernel
theorem dX7_addByRows_20 : decode cX7_addByRows 20 = .ok (.aload_n 0, 1) := by decide +kernel
theorem dX7_addByRows_21 : decode cX7_addByRows 21 = .ok (.getfield 11, 3) := by decide +kernel
theorem dX7_addByRows_24 : decode cX7_addByRows 24 = .ok (.iload_n 3, 1) := by decide +kernel
theorem dX7_addByRows_25 : decode cX7_addByRows 25 = .ok (.iaload, 1) := by decide +kernel
theorem dX7_addByRows_26 : decode cX7_addByRows 26 = .ok (.if_icmp .ge 26, 3) := by decide +kernel
theorem dX7_addByRows_29 : decode cX7_addByRows 29 = .ok (.aload_n 0, 1) := by decide +kernel
theorem dX7_addByRows_30 : decode cX7_addByRows 30 = .ok (.iload_n 3, 1) := by decide +kernel
theorem dX7_addByRows_31 : decode cX7_addByRows 31 = .ok (.iload 4, 2) := by decide +kernel
theorem dX7_addByRows_33 : decode cX7_addByRows 33 = .ok (.iload_n 2, 1) := by decide +kernel
theorem dX7_addByRows_34 : decode cX7_addByRows 34 = .ok (.invokevirtual 72, 3) := by decide +kernel
theorem dX7_addByRows_37 : decode cX7_addByRows 37 = .ok (.istore_n 2, 1) := by decide +kernel
theorem dX7_addByRows_38 : decode cX7_addByRows 38 = .ok (.iinc 3 1, 3) := by decide +kernel
theorem dX7_addByRows_41 : decode cX7_addByRows 41 = .ok (.aload_n 0, 1) := by decide +kernel
theorem dX7_addByRows_42 : decode cX7_addByRows 42 = .ok (.iload_n 3, 1) := by decide +kernel
theorem dX7_addByRows_43 : decode cX7_addByRows 43 = .ok (.iload_n 2, 1) := by decide +kernel
theorem dX7_addByRows_44 : decode cX7_addByRows 44 = .ok (.invokevirtual 69, 3) := by decide +kernel
theorem dX7_addByRows_47 : decode cX7_addByRows 47 = .ok (.istore 4, 2) := by decide +kernel
theorem dX7_addByRows_49 : decode cX7_addByRows 49 = .ok (.goto (-37), 3) := by decide +kernel
theorem dX7_addByRows_52 : decode cX7_addByRows 52 = .ok (.aload_n 0, 1) := by decide +kernel
theorem dX7_addByRows_53 : decode cX7_addByRows 53 = .ok (.iload_n 3, 1) := by decide +kernel
theorem dX7_addByRows_54 : decode cX7_addByRows 54 = .ok (.iload_n 2, 1) := by decide +kernel
theorem dX7_addByRows_55 : decode cX7_addByRows 55 = .ok (.invokevirtual 76, 3) := by decide +kernel
theorem dX7_addByRows_58 : decode cX7_addByRows 58 = .ok (.iload_n 3, 1) := by decide +kernel
theorem dX7_addByRows_59 : decode cX7_addByRows 59 = .ok (.ireturn, 1) := by decide +kernel
theorem dX7_addByColumns_0 : decode cX7_addByColumns 0 = .ok (.iload_n 1, 1) := by decide +kernel
theorem dX7_addByColumns_1 : decode cX7_addByColumns 1 = .ok (.istore_n 2, 1) := by decide +kernel
theorem dX7_addByColumns_2 : decode cX7_addByColumns 2 = .ok (.iconst 0, 1) := by decide +kernel
theorem dX7_addByColumns_3 : decode cX7_addByColumns 3 = .ok (.istore_n 3, 1) := by decide +kernel
theorem dX7_addByColumns_4 : decode cX7_addByColumns 4 = .ok (.aload_n 0, 1) := by decide +kernel
theorem dX7_addByColumns_5 : decode cX7_addByColumns 5 = .ok (.iload_n 3, 1) := by decide +kernel
theorem dX7_addByColumns_6 : decode cX7_addByColumns 6 = .ok (.iload_n 2, 1) := by decide +kernel
theorem dX7_addByColumns_7 : decode cX7_addByColumns 7 = .ok (.invokevirtual 80, 3) := by decide +kernel
theorem dX7_addByColumns_10 : decode cX7_addByColumns 10 = .ok (.istore 4, 2) := by decide +kernel
theorem dX7_addByColumns_12 : decode cX7_addByColumns 12 = .ok (.iload_n 3, 1) := by decide +kernel
theorem dX7_addByColumns_13 : decode cX7_addByColumns 13 = .ok (.bipush 23, 2) := by decide +kernel
theorem dX7_addByColumns_15 : decode cX7_addByColumns 15 = .ok (.if_icmp .ge 36, 3) := by decide +kernel
theorem dX7_addByColumns_18 : decode cX7_addByColumns 18 = .ok (.aload_n 0, 1) := by decide +kernel
theorem dX7_addByColumns_19 : decode cX7_addByColumns 19 = .ok (.iload 4, 2) := by decide +kernel
theorem dX7_addByColumns_21 : decode cX7_addByColumns 21 = .ok (.iload_n 3, 1) := by decide +kernel
theorem dX7_addByColumns_22 : decode cX7_addByColumns 22 = .ok (.invokevirtual 36, 3) := by decide +kernel
theorem dX7_addByColumns_25 : decode cX7_addByColumns 25 = .ok (.ifCond .eq 26, 3) := by decide +kernel
theorem dX7_addByColumns_28 : decode cX7_addByColumns 28 = .ok (.aload_n 0, 1) := by decide +kernel
theorem dX7_addByColumns_29 : decode cX7_addByColumns 29 = .ok (.iload 4, 2) := by decide +kernel
theorem dX7_addByColumns_31 : decode cX7_addByColumns 31 = .ok (.iload_n 3, 1) := by decide +kernel
theorem dX7_addByColumns_32 : decode cX7_addByColumns 32 = .ok (.iload_n 2, 1) := by decide +kernel
theorem dX7_addByColumns_33 : decode cX7_addByColumns 33 = .ok (.invokevirtual 72, 3) := by decide +kernel
theorem dX7_addByColumns_36 : decode cX7_addByColumns 36 = .ok (.istore_n 2, 1) := by decide +kernel
theorem dX7_addByColumns_37 : decode cX7_addByColumns 37 = .ok (.iinc 3 1, 3) := by decide +kernel
theorem dX7_addByColumns_40 : decode cX7_addByColumns 40 = .ok (.aload_n 0, 1) := by decide +kernel
theorem dX7_addByColumns_41 : decode cX7_addByColumns 41 = .ok (.iload_n 3, 1) := by decide +kernel
theorem dX7_addByColumns_42 : decode cX7_addByColumns 42 = .ok (.iload_n 2, 1) := by decide +kernel
theorem dX7_addByColumns_43 : decode cX7_addByColumns 43 = .ok (.invokevirtual 80, 3) := by decide +kernel
theorem dX7_addByColumns_46 : decode cX7_addByColumns 46 = .ok (.istore 4, 2) := by decide +kernel
theorem dX7_addByColumns_48 : decode cX7_addByColumns 48 = .ok (.goto (-36), 3) := by decide +kernel
theorem dX7_addByColumns_51 : decode cX7_addByColumns 51 = .ok (.aload_n 0, 1) := by decide +kernel
theorem dX7_addByColumns_52 : decode cX7_addByColumns 52 = .ok (.iload 4, 2) := by decide +kernel
theorem dX7_addByColumns_54 : decode cX7_addByColumns 54 = .ok (.iload_n 2, 1) := by decide +kernel
theorem dX7_addByColumns_55 : decode cX7_addByColumns 55 = .ok (.invokevirtual 76, 3) := by decide +kernel
theorem dX7_addByColumns_58 : decode cX7_addByColumns 58 = .ok (.iload 4, 2) := by decide +kernel
theorem dX7_addByColumns_60 : decode cX7_addByColumns 60 = .ok (.ireturn, 1) := by decide +kernel
theorem dX7_takeByRows_0 : decode cX7_takeByRows 0 = .ok (.aload_n 0, 1) := by decide +kernel
theorem dX7_takeByRows_1 : decode cX7_takeByRows 1 = .ok (.getfield 11, 3) := by decide +kernel
theorem dX7_takeByRows_4 : decode cX7_takeByRows 4 = .ok (.iload_n 1, 1) := by decide +kernel
theorem dX7_takeByRows_5 : decode cX7_takeByRows 5 = .ok (.iaload, 1) := by decide +kernel
theorem dX7_takeByRows_6 : decode cX7_takeByRows 6 = .ok (.ifCond .ne 5, 3) := by decide +kernel
theorem dX7_takeByRows_9 : decode cX7_takeByRows 9 = .ok (.iconst 0, 1) := by decide +kernel
theorem dX7_takeByRows_10 : decode cX7_takeByRows 10 = .ok (.ireturn, 1) := by decide +kernel
theorem dX7_takeByRows_11 : decode cX7_takeByRows 11 = .ok (.aload_n 0, 1) := by decide +kernel
theorem dX7_takeByRows_12 : decode cX7_takeByRows 12 = .ok (.getfield 11, 3) := by decide +kernel
theorem dX7_takeByRows_15 : decode cX7_takeByRows 15 = .ok (.iload_n 1, 1) := by decide +kernel
theorem dX7_takeByRows_16 : decode cX7_takeByRows 16 = .ok (.dup2, 1) := by decide +kernel
theorem dX7_takeByRows_17 : decode cX7_takeByRows 17 = .ok (.iaload, 1) := by decide +kernel
theorem dX7_takeByRows_18 : decode cX7_takeByRows 18 = .ok (.iconst 1, 1) := by decide +kernel
theorem dX7_takeByRows_19 : decode cX7_takeByRows 19 = .ok (.isub, 1) := by decide +kernel
theorem dX7_takeByRows_20 : decode cX7_takeByRows 20 = .ok (.iastore, 1) := by decide +kernel
theorem dX7_takeByRows_21 : decode cX7_takeByRows 21 = .ok (.aload_n 0, 1) := by decide +kernel
theorem dX7_takeByRows_22 : decode cX7_takeByRows 22 = .ok (.getfield 15, 3) := by decide +kernel
theorem dX7_takeByRows_25 : decode cX7_takeByRows 25 = .ok (.iload_n 1, 1) := by decide +kernel
theorem dX7_takeByRows_26 : decode cX7_takeByRows 26 = .ok (.bipush 24, 2) := by decide +kernel
theorem dX7_takeByRows_28 : decode cX7_takeByRows 28 = .ok (.imul, 1) := by decide +kernel
theorem dX7_takeByRows_29 : decode cX7_takeByRows 29 = .ok (.aload_n 0, 1) := by decide +kernel
theorem dX7_takeByRows_30 : decode cX7_takeByRows 30 = .ok (.getfield 11, 3) := by decide +kernel
theorem dX7_takeByRows_33 : decode cX7_takeByRows 33 = .ok (.iload_n 1, 1) := by decide +kernel
theorem dX7_takeByRows_34 : decode cX7_takeByRows 34 = .ok (.iaload, 1) := by decide +kernel
theorem dX7_takeByRows_35 : decode cX7_takeByRows 35 = .ok (.iadd, 1) := by decide +kernel
theorem dX7_takeByRows_36 : decode cX7_takeByRows 36 = .ok (.iaload, 1) := by decide +kernel
theorem dX7_takeByRows_37 : decode cX7_takeByRows 37 = .ok (.istore_n 2, 1) := by decide +kernel
theorem dX7_takeByRows_38 : decode cX7_takeByRows 38 = .ok (.iload_n 1, 1) := by decide +kernel
theorem dX7_takeByRows_39 : decode cX7_takeByRows 39 = .ok (.iconst 1, 1) := by decide +kernel
theorem dX7_takeByRows_40 : decode cX7_takeByRows 40 = .ok (.isub, 1) := by decide +kernel
theorem dX7_takeByRows_41 : decode cX7_takeByRows 41 = .ok (.istore_n 3, 1) := by decide +kernel
theorem dX7_takeByRows_42 : decode cX7_takeByRows 42 = .ok (.iload_n 3, 1) := by decide +kernel
theorem dX7_takeByRows_43 : decode cX7_takeByRows 43 = .ok (.ifCond .lt 22, 3) := by decide +kernel
theorem dX7_takeByRows_46 : decode cX7_takeByRows 46 = .ok (.aload_n 0, 1) := by decide +kernel
theorem dX7_takeByRows_47 : decode cX7_takeByRows 47 = .ok (.iload_n 3, 1) := by decide +kernel
theorem dX7_takeByRows_48 : decode cX7_takeByRows 48 = .ok (.aload_n 0, 1) := by decide +kernel
theorem dX7_takeByRows_49 : decode cX7_takeByRows 49 = .ok (.iload_n 3, 1) := by decide +kernel
theorem dX7_takeByRows_50 : decode cX7_takeByRows 50 = .ok (.iload_n 2, 1) := by decide +kernel
theorem dX7_takeByRows_51 : decode cX7_takeByRows 51 = .ok (.invokevirtual 83, 3) := by decide +kernel
theorem dX7_takeByRows_54 : decode cX7_takeByRows 54 = .ok (.iload_n 2, 1) := by decide +kernel
theorem dX7_takeByRows_55 : decode cX7_takeByRows 55 = .ok (.invokevirtual 72, 3) := by decide +kernel
theorem dX7_takeByRows_58 : decode cX7_takeByRows 58 = .ok (.istore_n 2, 1) := by decide +kernel
theorem dX7_takeByRows_59 : decode cX7_takeByRows 59 = .ok (.iinc 3 (-1), 3) := by decide +kernel
theorem dX7_takeByRows_62 : decode cX7_takeByRows 62 = .ok (.goto (-20), 3) := by decide +kernel
theorem dX7_takeByRows_65 : decode cX7_takeByRows 65 = .ok (.iload_n 2, 1) := by decide +kernel
theorem dX7_takeByRows_66 : decode cX7_takeByRows 66 = .ok (.ireturn, 1) := by decide +kernel
theorem dX7_firstGreater_0 : decode cX7_firstGreater 0 = .ok (.iconst 0, 1) := by decide +kernel
theorem dX7_firstGreater_1 : decode cX7_firstGreater 1 = .ok (.istore_n 3, 1) := by decide +kernel
theorem dX7_firstGreater_2 : decode cX7_firstGreater 2 = .ok (.iload_n 3, 1) := by decide +kernel
theorem dX7_firstGreater_3 : decode cX7_firstGreater 3 = .ok (.aload_n 0, 1) := by decide +kernel
theorem dX7_firstGreater_4 : decode cX7_firstGreater 4 = .ok (.getfield 11, 3) := by decide +kernel
theorem dX7_firstGreater_7 : decode cX7_firstGreater 7 = .ok (.iload_n 1, 1) := by decide +kernel
theorem dX7_firstGreater_8 : decode cX7_firstGreater 8 = .ok (.iaload, 1) := by decide +kernel
theorem dX7_firstGreater_9 : decode cX7_firstGreater 9 = .ok (.if_icmp .ge 19, 3) := by decide +kernel
theorem dX7_firstGreater_12 : decode cX7_firstGreater 12 = .ok (.aload_n 0, 1) := by decide +kernel
theorem dX7_firstGreater_13 : decode cX7_firstGreater 13 = .ok (.iload_n 1, 1) := by decide +kernel
theorem dX7_firstGreater_14 : decode cX7_firstGreater 14 = .ok (.iload_n 3, 1) := by decide +kernel
theorem dX7_firstGreater_15 : decode cX7_firstGreater 15 = .ok (.invokevirtual 44, 3) := by decide +kernel
theorem dX7_firstGreater_18 : decode cX7_firstGreater 18 = .ok (.iload_n 2, 1) := by decide +kernel
theorem dX7_firstGreater_19 : decode cX7_firstGreater 19 = .ok (.if_icmp .gt 9, 3) := by decide +kernel
theorem dX7_firstGreater_22 : decode cX7_firstGreater 22 = .ok (.iinc 3 1, 3) := by decide +kernel
theorem dX7_firstGreater_25 : decode cX7_firstGreater 25 = .ok (.goto (-23), 3) := by decide +kernel
theorem dX7_firstGreater_28 : decode cX7_firstGreater 28 = .ok (.iload_n 3, 1) := by decide +kernel
theorem dX7_firstGreater_29 : decode cX7_firstGreater 29 = .ok (.ireturn, 1) := by decide +kernel
theorem dX7_firstNotLess_0 : decode cX7_firstNotLess 0 = .ok (.iconst 0, 1) := by decide +kernel
theorem dX7_firstNotLess_1 : decode cX7_firstNotLess 1 = .ok (.istore_n 3, 1) := by decide +kernel
theorem dX7_firstNotLess_2 : decode cX7_firstNotLess 2 = .ok (.iload_n 3, 1) := by decide +kernel
theorem dX7_firstNotLess_3 : decode cX7_firstNotLess 3 = .ok (.bipush 15, 2) := by decide +kernel
theorem dX7_firstNotLess_5 : decode cX7_firstNotLess 5 = .ok (.if_icmp .ge 28, 3) := by decide +kernel
theorem dX7_firstNotLess_8 : decode cX7_firstNotLess 8 = .ok (.aload_n 0, 1) := by decide +kernel
theorem dX7_firstNotLess_9 : decode cX7_firstNotLess 9 = .ok (.iload_n 3, 1) := by decide +kernel
theorem dX7_firstNotLess_10 : decode cX7_firstNotLess 10 = .ok (.iload_n 1, 1) := by decide +kernel
theorem dX7_firstNotLess_11 : decode cX7_firstNotLess 11 = .ok (.invokevirtual 36, 3) := by decide +kernel
theorem dX7_firstNotLess_14 : decode cX7_firstNotLess 14 = .ok (.ifCond .eq 19, 3) := by decide +kernel
theorem dX7_firstNotLess_17 : decode cX7_firstNotLess 17 = .ok (.aload_n 0, 1) := by decide +kernel
theorem dX7_firstNotLess_18 : decode cX7_firstNotLess 18 = .ok (.iload_n 3, 1) := by decide +kernel
theorem dX7_firstNotLess_19 : decode cX7_firstNotLess 19 = .ok (.iload_n 1, 1) := by decide +kernel
theorem dX7_firstNotLess_20 : decode cX7_firstNotLess 20 = .ok (.invokevirtual 44, 3) := by decide +kernel
theorem dX7_firstNotLess_23 : decode cX7_firstNotLess 23 = .ok (.iload_n 2, 1) := by decide +kernel
theorem dX7_firstNotLess_24 : decode cX7_firstNotLess 24 = .ok (.if_icmp .ge 9, 3) := by decide +kernel
theorem dX7_firstNotLess_27 : decode cX7_firstNotLess 27 = .ok (.iinc 3 1, 3) := by decide +kernel
theorem dX7_firstNotLess_30 : decode cX7_firstNotLess 30 = .ok (.goto (-28), 3) := by decide +kernel
theorem dX7_firstNotLess_33 : decode cX7_firstNotLess 33 = .ok (.iload_n 3, 1) := by decide +kernel
theorem dX7_firstNotLess_34 : decode cX7_firstNotLess 34 = .ok (.ireturn, 1) := by decide +kernel
theorem dX7_lastLess_0 : decode cX7_lastLess 0 = .ok (.aload_n 0, 1) := by decide +kernel
theorem dX7_lastLess_1 : decode cX7_lastLess 1 = .ok (.getfield 11, 3) := by decide +kernel
theorem dX7_lastLess_4 : decode cX7_lastLess 4 = .ok (.iload_n 1, 1) := by decide +kernel
theorem dX7_lastLess_5 : decode cX7_lastLess 5 = .ok (.iaload, 1) := by decide +kernel
theorem dX7_lastLess_6 : decode cX7_lastLess 6 = .ok (.iconst 1, 1) := by decide +kernel
theorem dX7_lastLess_7 : decode cX7_lastLess 7 = .ok (.isub, 1) := by decide +kernel
theorem dX7_lastLess_8 : decode cX7_lastLess 8 = .ok (.iconst 0, 1) := by decide +kernel
theorem dX7_lastLess_9 : decode cX7_lastLess 9 = .ok (.invokestatic 48, 3) := by decide +kernel
theorem dX7_lastLess_12 : decode cX7_lastLess 12 = .ok (.istore_n 3, 1) := by decide +kernel
theorem dX7_lastLess_13 : decode cX7_lastLess 13 = .ok (.iload_n 3, 1) := by decide +kernel
theorem dX7_lastLess_14 : decode cX7_lastLess 14 = .ok (.ifCond .le 19, 3) := by decide +kernel
theorem dX7_lastLess_17 : decode cX7_lastLess 17 = .ok (.aload_n 0, 1) := by decide +kernel
theorem dX7_lastLess_18 : decode cX7_lastLess 18 = .ok (.iload_n 1, 1) := by decide +kernel
theorem dX7_lastLess_19 : decode cX7_lastLess 19 = .ok (.iload_n 3, 1) := by decide +kernel
theorem dX7_lastLess_20 : decode cX7_lastLess 20 = .ok (.invokevirtual 44, 3) := by decide +kernel
theorem dX7_lastLess_23 : decode cX7_lastLess 23 = .ok (.iload_n 2, 1) := by decide +kernel
theorem dX7_lastLess_24 : decode cX7_lastLess 24 = .ok (.if_icmp .lt 9, 3) := by decide +kernel
theorem dX7_lastLess_27 : decode cX7_lastLess 27 = .ok (.iinc 3 (-1), 3) := by decide +kernel
theorem dX7_lastLess_30 : decode cX7_lastLess 30 = .ok (.goto (-17), 3) := by decide +kernel
theorem dX7_lastLess_33 : decode cX7_lastLess 33 = .ok (.iload_n 3, 1) := by decide +kernel
theorem dX7_lastLess_34 : decode cX7_lastLess 34 = .ok (.ireturn, 1) := by decide +kernel
theorem dX7_fillSkew_0 : decode cX7_fillSkew 0 = .ok (.aload_n 0, 1) := by decide +kernel
theorem dX7_fillSkew_1 : decode cX7_fillSkew 1 = .ok (.aload_n 2, 1) := by decide +kernel
theorem dX7_fillSkew_2 : decode cX7_fillSkew 2 = .ok (.invokevirtual 86, 3) := by decide +kernel
theorem dX7_fillSkew_5 : decode cX7_fillSkew 5 = .ok (.iconst 0, 1) := by decide +kernel
theorem dX7_fillSkew_6 : decode cX7_fillSkew 6 = .ok (.istore 4, 2) := by decide +kernel
theorem dX7_fillSkew_8 : decode cX7_fillSkew 8 = .ok (.bipush 7, 2) := by decide +kernel
theorem dX7_fillSkew_10 : decode cX7_fillSkew 10 = .ok (.istore 5, 2) := by decide +kernel
theorem dX7_fillSkew_12 : decode cX7_fillSkew 12 = .ok (.iload 5, 2) := by decide +kernel
theorem dX7_fillSkew_14 : decode cX7_fillSkew 14 = .ok (.ifCond .lt 53, 3) := by decide +kernel
theorem dX7_fillSkew_17 : decode cX7_fillSkew 17 = .ok (.aload_n 1, 1) := by decide +kernel
theorem dX7_fillSkew_18 : decode cX7_fillSkew 18 = .ok (.getfield 33, 3) := by decide +kernel
theorem dX7_fillSkew_21 : decode cX7_fillSkew 21 = .ok (.iload 5, 2) := by decide +kernel
theorem dX7_fillSkew_23 : decode cX7_fillSkew 23 = .ok (.iaload, 1) := by decide +kernel
theorem dX7_fillSkew_24 : decode cX7_fillSkew 24 = .ok (.istore 6, 2) := by decide +kernel
theorem dX7_fillSkew_26 : decode cX7_fillSkew 26 = .ok (.iload 6, 2) := by decide +kernel
theorem dX7_fillSkew_28 : decode cX7_fillSkew 28 = .ok (.aload_n 2, 1) := by decide +kernel
theorem dX7_fillSkew_29 : decode cX7_fillSkew 29 = .ok (.getfield 33, 3) := by decide +kernel
theorem dX7_fillSkew_32 : decode cX7_fillSkew 32 = .ok (.iload 5, 2) := by decide +kernel
theorem dX7_fillSkew_34 : decode cX7_fillSkew 34 = .ok (.iaload, 1) := by decide +kernel
theorem dX7_fillSkew_35 : decode cX7_fillSkew 35 = .ok (.if_icmp .ge 26, 3) := by decide +kernel
theorem dX7_fillSkew_38 : decode cX7_fillSkew 38 = .ok (.aload_n 0, 1) := by decide +kernel
theorem dX7_fillSkew_39 : decode cX7_fillSkew 39 = .ok (.iload 5, 2) := by decide +kernel
theorem dX7_fillSkew_41 : decode cX7_fillSkew 41 = .ok (.iload 6, 2) := by decide +kernel
theorem dX7_fillSkew_43 : decode cX7_fillSkew 43 = .ok (.aload_n 3, 1) := by decide +kernel
theorem dX7_fillSkew_44 : decode cX7_fillSkew 44 = .ok (.iload 4, 2) := by decide +kernel
theorem dX7_fillSkew_46 : decode cX7_fillSkew 46 = .ok (.invokevirtual 63, 3) := by decide +kernel
theorem dX7_fillSkew_49 : decode cX7_fillSkew 49 = .ok (.invokevirtual 40, 3) := by decide +kernel
theorem dX7_fillSkew_52 : decode cX7_fillSkew 52 = .ok (.iinc 4 1, 3) := by decide +kernel
theorem dX7_fillSkew_55 : decode cX7_fillSkew 55 = .ok (.iinc 6 1, 3) := by decide +kernel
theorem dX7_fillSkew_58 : decode cX7_fillSkew 58 = .ok (.goto (-32), 3) := by decide +kernel
theorem dX7_fillSkew_61 : decode cX7_fillSkew 61 = .ok (.iinc 5 (-1), 3) := by decide +kernel
theorem dX7_fillSkew_64 : decode cX7_fillSkew 64 = .ok (.goto (-52), 3) := by decide +kernel
theorem dX7_fillSkew_67 : decode cX7_fillSkew 67 = .ok (.return_, 1) := by decide +kernel
theorem dX7_isColumnStrictOutside_0 : decode cX7_isColumnStrictOutside 0 = .ok (.iconst 0, 1) := by decide +kernel
theorem dX7_isColumnStrictOutside_1 : decode cX7_isColumnStrictOutside 1 = .ok (.istore_n 2, 1) := by decide +kernel
theorem dX7_isColumnStrictOutside_2 : decode cX7_isColumnStrictOutside 2 = .ok (.iload_n 2, 1) := by decide +kernel
theorem dX7_isColumnStrictOutside_3 : decode cX7_isColumnStrictOutside 3 = .ok (.bipush 8, 2) := by decide +kernel
theorem dX7_isColumnStrictOutside_5 : decode cX7_isColumnStrictOutside 5 = .ok (.if_icmp .ge 96, 3) := by decide +kernel
theorem dX7_isColumnStrictOutside_8 : decode cX7_isColumnStrictOutside 8 = .ok (.aload_n 1, 1) := by decide +kernel
theorem dX7_isColumnStrictOutside_9 : decode cX7_isColumnStrictOutside 9 = .ok (.getfield 33, 3) := by decide +kernel
theorem dX7_isColumnStrictOutside_12 : decode cX7_isColumnStrictOutside 12 = .ok (.iload_n 2, 1) := by decide +kernel
theorem dX7_isColumnStrictOutside_13 : decode cX7_isColumnStrictOutside 13 = .ok (.iaload, 1) := by decide +kernel
theorem dX7_isColumnStrictOutside_14 : decode cX7_isColumnStrictOutside 14 = .ok (.istore_n 3, 1) := by decide +kernel
theorem dX7_isColumnStrictOutside_15 : decode cX7_isColumnStrictOutside 15 = .ok (.iload_n 3, 1) := by decide +kernel
theorem dX7_isColumnStrictOutside_16 : decode cX7_isColumnStrictOutside 16 = .ok (.aload_n 0, 1) := by decide +kernel
theorem dX7_isColumnStrictOutside_17 : decode cX7_isColumnStrictOutside 17 = .ok (.getfield 11, 3) := by decide +kernel
theorem dX7_isColumnStrictOutside_20 : decode cX7_isColumnStrictOutside 20 = .ok (.iload_n 2, 1) := by decide +kernel
theorem dX7_isColumnStrictOutside_21 : decode cX7_isColumnStrictOutside 21 = .ok (.iaload, 1) := by decide +kernel
theorem dX7_isColumnStrictOutside_22 : decode cX7_isColumnStrictOutside 22 = .ok (.if_icmp .ge 73, 3) := by decide +kernel
theorem dX7_isColumnStrictOutside_25 : decode cX7_isColumnStrictOutside 25 = .ok (.aload_n 0, 1) := by decide +kernel
theorem dX7_isColumnStrictOutside_26 : decode cX7_isColumnStrictOutside 26 = .ok (.iload_n 2, 1) := by decide +kernel
theorem dX7_isColumnStrictOutside_27 : decode cX7_isColumnStrictOutside 27 = .ok (.iload_n 3, 1) := by decide +kernel
theorem dX7_isColumnStrictOutside_28 : decode cX7_isColumnStrictOutside 28 = .ok (.invokevirtual 44, 3) := by decide +kernel
theorem dX7_isColumnStrictOutside_31 : decode cX7_isColumnStrictOutside 31 = .ok (.istore 4, 2) := by decide +kernel
theorem dX7_isColumnStrictOutside_33 : decode cX7_isColumnStrictOutside 33 = .ok (.iload_n 3, 1) := by decide +kernel
theorem dX7_isColumnStrictOutside_34 : decode cX7_isColumnStrictOutside 34 = .ok (.aload_n 1, 1) := by decide +kernel
theorem dX7_isColumnStrictOutside_35 : decode cX7_isColumnStrictOutside 35 = .ok (.getfield 33, 3) := by decide +kernel
theorem dX7_isColumnStrictOutside_38 : decode cX7_isColumnStrictOutside 38 = .ok (.iload_n 2, 1) := by decide +kernel
theorem dX7_isColumnStrictOutside_39 : decode cX7_isColumnStrictOutside 39 = .ok (.iaload, 1) := by decide +kernel
theorem dX7_isColumnStrictOutside_40 : decode cX7_isColumnStrictOutside 40 = .ok (.if_icmp .le 18, 3) := by decide +kernel
theorem dX7_isColumnStrictOutside_43 : decode cX7_isColumnStrictOutside 43 = .ok (.aload_n 0, 1) := by decide +kernel
theorem dX7_isColumnStrictOutside_44 : decode cX7_isColumnStrictOutside 44 = .ok (.iload_n 2, 1) := by decide +kernel
theorem dX7_isColumnStrictOutside_45 : decode cX7_isColumnStrictOutside 45 = .ok (.iload_n 3, 1) := by decide +kernel
theorem dX7_isColumnStrictOutside_46 : decode cX7_isColumnStrictOutside 46 = .ok (.iconst 1, 1) := by decide +kernel
theorem dX7_isColumnStrictOutside_47 : decode cX7_isColumnStrictOutside 47 = .ok (.isub, 1) := by decide +kernel
theorem dX7_isColumnStrictOutside_48 : decode cX7_isColumnStrictOutside 48 = .ok (.invokevirtual 44, 3) := by decide +kernel
theorem dX7_isColumnStrictOutside_51 : decode cX7_isColumnStrictOutside 51 = .ok (.iload 4, 2) := by decide +kernel
theorem dX7_isColumnStrictOutside_53 : decode cX7_isColumnStrictOutside 53 = .ok (.if_icmp .le 5, 3) := by decide +kernel
theorem dX7_isColumnStrictOutside_56 : decode cX7_isColumnStrictOutside 56 = .ok (.iconst 0, 1) := by decide +kernel
theorem dX7_isColumnStrictOutside_57 : decode cX7_isColumnStrictOutside 57 = .ok (.ireturn, 1) := by decide +kernel
theorem dX7_isColumnStrictOutside_58 : decode cX7_isColumnStrictOutside 58 = .ok (.iload_n 2, 1) := by decide +kernel
theorem dX7_isColumnStrictOutside_59 : decode cX7_isColumnStrictOutside 59 = .ok (.ifCond .le 30, 3) := by decide +kernel
theorem dX7_isColumnStrictOutside_62 : decode cX7_isColumnStrictOutside 62 = .ok (.iload_n 3, 1) := by decide +kernel
theorem dX7_isColumnStrictOutside_63 : decode cX7_isColumnStrictOutside 63 = .ok (.aload_n 1, 1) := by decide +kernel
theorem dX7_isColumnStrictOutside_64 : decode cX7_isColumnStrictOutside 64 = .ok (.getfield 33, 3) := by decide +kernel
theorem dX7_isColumnStrictOutside_67 : decode cX7_isColumnStrictOutside 67 = .ok (.iload_n 2, 1) := by decide +kernel
theorem dX7_isColumnStrictOutside_68 : decode cX7_isColumnStrictOutside 68 = .ok (.iconst 1, 1) := by decide +kernel
theorem dX7_isColumnStrictOutside_69 : decode cX7_isColumnStrictOutside 69 = .ok (.isub, 1) := by decide +kernel
theorem dX7_isColumnStrictOutside_70 : decode cX7_isColumnStrictOutside 70 = .ok (.iaload, 1) := by decide +kernel
theorem dX7_isColumnStrictOutside_71 : decode cX7_isColumnStrictOutside 71 = .ok (.if_icmp .lt 18, 3) := by decide +kernel
theorem dX7_isColumnStrictOutside_74 : decode cX7_isColumnStrictOutside 74 = .ok (.aload_n 0, 1) := by decide +kernel
theorem dX7_isColumnStrictOutside_75 : decode cX7_isColumnStrictOutside 75 = .ok (.iload_n 2, 1) := by decide +kernel
theorem dX7_isColumnStrictOutside_76 : decode cX7_isColumnStrictOutside 76 = .ok (.iconst 1, 1) := by decide +kernel
theorem dX7_isColumnStrictOutside_77 : decode cX7_isColumnStrictOutside 77 = .ok (.isub, 1) := by decide +kernel
theorem dX7_isColumnStrictOutside_78 : decode cX7_isColumnStrictOutside 78 = .ok (.iload_n 3, 1) := by decide +kernel
theorem dX7_isColumnStrictOutside_79 : decode cX7_isColumnStrictOutside 79 = .ok (.invokevirtual 44, 3) := by decide +kernel
theorem dX7_isColumnStrictOutside_82 : decode cX7_isColumnStrictOutside 82 = .ok (.iload 4, 2) := by decide +kernel
theorem dX7_isColumnStrictOutside_84 : decode cX7_isColumnStrictOutside 84 = .ok (.if_icmp .lt 5, 3) := by decide +kernel
theorem dX7_isColumnStrictOutside_87 : decode cX7_isColumnStrictOutside 87 = .ok (.iconst 0, 1) := by decide +kernel
theorem dX7_isColumnStrictOutside_88 : decode cX7_isColumnStrictOutside 88 = .ok (.ireturn, 1) := by decide +kernel
theorem dX7_isColumnStrictOutside_89 : decode cX7_isColumnStrictOutside 89 = .ok (.iinc 3 1, 3) := by decide +kernel
theorem dX7_isColumnStrictOutside_92 : decode cX7_isColumnStrictOutside 92 = .ok (.goto (-77), 3) := by decide +kernel
theorem dX7_isColumnStrictOutside_95 : decode cX7_isColumnStrictOutside 95 = .ok (.iinc 2 1, 3) := by decide +kernel
theorem dX7_isColumnStrictOutside_98 : decode cX7_isColumnStrictOutside 98 = .ok (.goto (-96), 3) := by decide +kernel
theorem dX7_isColumnStrictOutside_101 : decode cX7_isColumnStrictOutside 101 = .ok (.iconst 1, 1) := by decide +kernel
theorem dX7_isColumnStrictOutside_102 : decode cX7_isColumnStrictOutside 102 = .ok (.ireturn, 1) := by decide +kernel
theorem dX7_slideInto_0 : decode cX7_slideInto 0 = .ok (.iload_n 1, 1) := by decide +kernel
theorem dX7_slideInto_1 : decode cX7_slideInto 1 = .ok (.istore_n 3, 1) := by decide +kernel
theorem dX7_slideInto_2 : decode cX7_slideInto 2 = .ok (.iload_n 2, 1) := by decide +kernel
theorem dX7_slideInto_3 : decode cX7_slideInto 3 = .ok (.istore 4, 2) := by decide +kernel
theorem dX7_slideInto_5 : decode cX7_slideInto 5 = .ok (.iconst 0, 1) := by decide +kernel
theorem dX7_slideInto_6 : decode cX7_slideInto 6 = .ok (.istore 5, 2) := by decide +kernel
theorem dX7_slideInto_8 : decode cX7_slideInto 8 = .ok (.iload 5, 2) := by decide +kernel
theorem dX7_slideInto_10 : decode cX7_slideInto 10 = .ok (.bipush 40, 2) := by decide +kernel
theorem dX7_slideInto_12 : decode cX7_slideInto 12 = .ok (.if_icmp .ge 88, 3) := by decide +kernel
theorem dX7_slideInto_15 : decode cX7_slideInto 15 = .ok (.aload_n 0, 1) := by decide +kernel
theorem dX7_slideInto_16 : decode cX7_slideInto 16 = .ok (.iload_n 3, 1) := by decide +kernel
theorem dX7_slideInto_17 : decode cX7_slideInto 17 = .ok (.iload 4, 2) := by decide +kernel
theorem dX7_slideInto_19 : decode cX7_slideInto 19 = .ok (.iconst 1, 1) := by decide +kernel
theorem dX7_slideInto_20 : decode cX7_slideInto 20 = .ok (.iadd, 1) := by decide +kernel
theorem dX7_slideInto_21 : decode cX7_slideInto 21 = .ok (.invokevirtual 44, 3) := by decide +kernel
theorem dX7_slideInto_24 : decode cX7_slideInto 24 = .ok (.istore 6, 2) := by decide +kernel
theorem dX7_slideInto_26 : decode cX7_slideInto 26 = .ok (.aload_n 0, 1) := by decide +kernel
theorem dX7_slideInto_27 : decode cX7_slideInto 27 = .ok (.iload_n 3, 1) := by decide +kernel
theorem dX7_slideInto_28 : decode cX7_slideInto 28 = .ok (.iconst 1, 1) := by decide +kernel
theorem dX7_slideInto_29 : decode cX7_slideInto 29 = .ok (.iadd, 1) := by decide +kernel
theorem dX7_slideInto_30 : decode cX7_slideInto 30 = .ok (.iload 4, 2) := by decide +kernel
theorem dX7_slideInto_32 : decode cX7_slideInto 32 = .ok (.invokevirtual 44, 3) := by decide +kernel
theorem dX7_slideInto_35 : decode cX7_slideInto 35 = .ok (.istore 7, 2) := by decide +kernel
theorem dX7_slideInto_37 : decode cX7_slideInto 37 = .ok (.iload 6, 2) := by decide +kernel
theorem dX7_slideInto_39 : decode cX7_slideInto 39 = .ok (.ifCond .ne 11, 3) := by decide +kernel
theorem dX7_slideInto_42 : decode cX7_slideInto 42 = .ok (.iload 7, 2) := by decide +kernel
theorem dX7_slideInto_44 : decode cX7_slideInto 44 = .ok (.ifCond .ne 6, 3) := by decide +kernel
theorem dX7_slideInto_47 : decode cX7_slideInto 47 = .ok (.goto 53, 3) := by decide +kernel
theorem dX7_slideInto_50 : decode cX7_slideInto 50 = .ok (.iload 7, 2) := by decide +kernel
theorem dX7_slideInto_52 : decode cX7_slideInto 52 = .ok (.ifCond .eq 30, 3) := by decide +kernel
theorem dX7_slideInto_55 : decode cX7_slideInto 55 = .ok (.iload 6, 2) := by decide +kernel
theorem dX7_slideInto_57 : decode cX7_slideInto 57 = .ok (.ifCond .eq 10, 3) := by decide +kernel
theorem dX7_slideInto_60 : decode cX7_slideInto 60 = .ok (.iload 7, 2) := by decide +kernel
theorem dX7_slideInto_62 : decode cX7_slideInto 62 = .ok (.iload 6, 2) := by decide +kernel
theorem dX7_slideInto_64 : decode cX7_slideInto 64 = .ok (.if_icmp .gt 18, 3) := by decide +kernel
theorem dX7_slideInto_67 : decode cX7_slideInto 67 = .ok (.aload_n 0, 1) := by decide +kernel
theorem dX7_slideInto_68 : decode cX7_slideInto 68 = .ok (.iload_n 3, 1) := by decide +kernel
theorem dX7_slideInto_69 : decode cX7_slideInto 69 = .ok (.iload 4, 2) := by decide +kernel
theorem dX7_slideInto_71 : decode cX7_slideInto 71 = .ok (.iload 7, 2) := by decide +kernel
theorem dX7_slideInto_73 : decode cX7_slideInto 73 = .ok (.invokevirtual 40, 3) := by decide +kernel
theorem dX7_slideInto_76 : decode cX7_slideInto 76 = .ok (.iinc 3 1, 3) := by decide +kernel
theorem dX7_slideInto_79 : decode cX7_slideInto 79 = .ok (.goto 15, 3) := by decide +kernel
theorem dX7_slideInto_82 : decode cX7_slideInto 82 = .ok (.aload_n 0, 1) := by decide +kernel
theorem dX7_slideInto_83 : decode cX7_slideInto 83 = .ok (.iload_n 3, 1) := by decide +kernel
theorem dX7_slideInto_84 : decode cX7_slideInto 84 = .ok (.iload 4, 2) := by decide +kernel
theorem dX7_slideInto_86 : decode cX7_slideInto 86 = .ok (.iload 6, 2) := by decide +kernel
theorem dX7_slideInto_88 : decode cX7_slideInto 88 = .ok (.invokevirtual 40, 3) := by decide +kernel
theorem dX7_slideInto_91 : decode cX7_slideInto 91 = .ok (.iinc 4 1, 3) := by decide +kernel
theorem dX7_slideInto_94 : decode cX7_slideInto 94 = .ok (.iinc 5 1, 3) := by decide +kernel
theorem dX7_slideInto_97 : decode cX7_slideInto 97 = .ok (.goto (-89), 3) := by decide +kernel
theorem dX7_slideInto_100 : decode cX7_slideInto 100 = .ok (.aload_n 0, 1) := by decide +kernel
theorem dX7_slideInto_101 : decode cX7_slideInto 101 = .ok (.getfield 11, 3) := by decide +kernel
theorem dX7_slideInto_104 : decode cX7_slideInto 104 = .ok (.iload_n 3, 1) := by decide +kernel
theorem dX7_slideInto_105 : decode cX7_slideInto 105 = .ok (.dup2, 1) := by decide +kernel
theorem dX7_slideInto_106 : decode cX7_slideInto 106 = .ok (.iaload, 1) := by decide +kernel
theorem dX7_slideInto_107 : decode cX7_slideInto 107 = .ok (.iconst 1, 1) := by decide +kernel
theorem dX7_slideInto_108 : decode cX7_slideInto 108 = .ok (.isub, 1) := by decide +kernel
theorem dX7_slideInto_109 : decode cX7_slideInto 109 = .ok (.iastore, 1) := by decide +kernel
theorem dX7_slideInto_110 : decode cX7_slideInto 110 = .ok (.iload_n 3, 1) := by decide +kernel
theorem dX7_slideInto_111 : decode cX7_slideInto 111 = .ok (.ireturn, 1) := by decide +kernel
theorem dX8_init_0 : decode cX8_init 0 = .ok (.aload_n 0, 1) := by decide +kernel
theorem dX8_init_1 : decode cX8_init 1 = .ok (.invokespecial 3, 3) := by decide +kernel
theorem dX8_init_4 : decode cX8_init 4 = .ok (.aload_n 0, 1) := by decide +kernel
theorem dX8_init_5 : decode cX8_init 5 = .ok (.bipush 16, 2) := by decide +kernel
theorem dX8_init_7 : decode cX8_init 7 = .ok (.newarray .int, 2) := by decide +kernel
theorem dX8_init_9 : decode cX8_init 9 = .ok (.putfield 9, 3) := by decide +kernel
theorem dX8_init_12 : decode cX8_init 12 = .ok (.aload_n 0, 1) := by decide +kernel
theorem dX8_init_13 : decode cX8_init 13 = .ok (.iconst 0, 1) := by decide +kernel
theorem dX8_init_14 : decode cX8_init 14 = .ok (.putfield 15, 3) := by decide +kernel
theorem dX8_init_17 : decode cX8_init 17 = .ok (.return_, 1) := by decide +kernel
theorem dX8_letterAt_0 : decode cX8_letterAt 0 = .ok (.iload_n 1, 1) := by decide +kernel
theorem dX8_letterAt_1 : decode cX8_letterAt 1 = .ok (.ifCond .lt 11, 3) := by decide +kernel
theorem dX8_letterAt_4 : decode cX8_letterAt 4 = .ok (.iload_n 1, 1) := by decide +kernel
theorem dX8_letterAt_5 : decode cX8_letterAt 5 = .ok (.aload_n 0, 1) := by decide +kernel
theorem dX8_letterAt_6 : decode cX8_letterAt 6 = .ok (.getfield 15, 3) := by decide +kernel
theorem dX8_letterAt_9 : decode cX8_letterAt 9 = .ok (.if_icmp .lt 7, 3) := by decide +kernel
theorem dX8_letterAt_12 : decode cX8_letterAt 12 = .ok (.iconst 0, 1) := by decide +kernel
theorem dX8_letterAt_13 : decode cX8_letterAt 13 = .ok (.goto 9, 3) := by decide +kernel
theorem dX8_letterAt_16 : decode cX8_letterAt 16 = .ok (.aload_n 0, 1) := by decide +kernel
theorem dX8_letterAt_17 : decode cX8_letterAt 17 = .ok (.getfield 9, 3) := by decide +kernel
theorem dX8_letterAt_20 : decode cX8_letterAt 20 = .ok (.iload_n 1, 1) := by decide +kernel
theorem dX8_letterAt_21 : decode cX8_letterAt 21 = .ok (.iaload, 1) := by decide +kernel
theorem dX8_letterAt_22 : decode cX8_letterAt 22 = .ok (.ireturn, 1) := by decide +kernel
theorem dX8_add_0 : decode cX8_add 0 = .ok (.aload_n 0, 1) := by decide +kernel
theorem dX8_add_1 : decode cX8_add 1 = .ok (.getfield 15, 3) := by decide +kernel
theorem dX8_add_4 : decode cX8_add 4 = .ok (.bipush 16, 2) := by decide +kernel
theorem dX8_add_6 : decode cX8_add 6 = .ok (.if_icmp .ge 23, 3) := by decide +kernel
theorem dX8_add_9 : decode cX8_add 9 = .ok (.aload_n 0, 1) := by decide +kernel
theorem dX8_add_10 : decode cX8_add 10 = .ok (.getfield 9, 3) := by decide +kernel
theorem dX8_add_13 : decode cX8_add 13 = .ok (.aload_n 0, 1) := by decide +kernel
theorem dX8_add_14 : decode cX8_add 14 = .ok (.getfield 15, 3) := by decide +kernel
theorem dX8_add_17 : decode cX8_add 17 = .ok (.iload_n 1, 1) := by decide +kernel
theorem dX8_add_18 : decode cX8_add 18 = .ok (.iastore, 1) := by decide +kernel
theorem dX8_add_19 : decode cX8_add 19 = .ok (.aload_n 0, 1) := by decide +kernel
theorem dX8_add_20 : decode cX8_add 20 = .ok (.dup, 1) := by decide +kernel
theorem dX8_add_21 : decode cX8_add 21 = .ok (.getfield 15, 3) := by decide +kernel
theorem dX8_add_24 : decode cX8_add 24 = .ok (.iconst 1, 1) := by decide +kernel
theorem dX8_add_25 : decode cX8_add 25 = .ok (.iadd, 1) := by decide +kernel
theorem dX8_add_26 : decode cX8_add 26 = .ok (.putfield 15, 3) := by decide +kernel
theorem dX8_add_29 : decode cX8_add 29 = .ok (.return_, 1) := by decide +kernel
theorem dX9_init_0 : decode cX9_init 0 = .ok (.aload_n 0, 1) := by decide +kernel
theorem dX9_init_1 : decode cX9_init 1 = .ok (.invokespecial 1, 3) := by decide +kernel
theorem dX9_init_4 : decode cX9_init 4 = .ok (.aload_n 0, 1) := by decide +kernel
theorem dX9_init_5 : decode cX9_init 5 = .ok (.iconst 4, 1) := by decide +kernel
theorem dX9_init_6 : decode cX9_init 6 = .ok (.anewarray 9, 3) := by decide +kernel
theorem dX9_init_9 : decode cX9_init 9 = .ok (.putfield 11, 3) := by decide +kernel
theorem dX9_init_12 : decode cX9_init 12 = .ok (.aload_n 0, 1) := by decide +kernel
theorem dX9_init_13 : decode cX9_init 13 = .ok (.iconst 2, 1) := by decide +kernel
theorem dX9_init_14 : decode cX9_init 14 = .ok (.anewarray 15, 3) := by decide +kernel
theorem dX9_init_17 : decode cX9_init 17 = .ok (.putfield 17, 3) := by decide +kernel
theorem dX9_init_20 : decode cX9_init 20 = .ok (.aload_n 0, 1) := by decide +kernel
theorem dX9_init_21 : decode cX9_init 21 = .ok (.new 21, 3) := by decide +kernel
theorem dX9_init_24 : decode cX9_init 24 = .ok (.dup, 1) := by decide +kernel
theorem dX9_init_25 : decode cX9_init 25 = .ok (.invokespecial 23, 3) := by decide +kernel
theorem dX9_init_28 : decode cX9_init 28 = .ok (.putfield 24, 3) := by decide +kernel
theorem dX9_init_31 : decode cX9_init 31 = .ok (.aload_n 0, 1) := by decide +kernel
theorem dX9_init_32 : decode cX9_init 32 = .ok (.new 21, 3) := by decide +kernel
theorem dX9_init_35 : decode cX9_init 35 = .ok (.dup, 1) := by decide +kernel
theorem dX9_init_36 : decode cX9_init 36 = .ok (.invokespecial 23, 3) := by decide +kernel
theorem dX9_init_39 : decode cX9_init 39 = .ok (.putfield 28, 3) := by decide +kernel
theorem dX9_init_42 : decode cX9_init 42 = .ok (.aload_n 0, 1) := by decide +kernel
theorem dX9_init_43 : decode cX9_init 43 = .ok (.iconst 1, 1) := by decide +kernel
theorem dX9_init_44 : decode cX9_init 44 = .ok (.putfield 31, 3) := by decide +kernel
theorem dX9_init_47 : decode cX9_init 47 = .ok (.aload_n 0, 1) := by decide +kernel
theorem dX9_init_48 : decode cX9_init 48 = .ok (.new 21, 3) := by decide +kernel
theorem dX9_init_51 : decode cX9_init 51 = .ok (.dup, 1) := by decide +kernel
theorem dX9_init_52 : decode cX9_init 52 = .ok (.invokespecial 23, 3) := by decide +kernel
theorem dX9_init_55 : decode cX9_init 55 = .ok (.putfield 35, 3) := by decide +kernel
theorem dX9_init_58 : decode cX9_init 58 = .ok (.aload_n 0, 1) := by decide +kernel
theorem dX9_init_59 : decode cX9_init 59 = .ok (.new 21, 3) := by decide +kernel
theorem dX9_init_62 : decode cX9_init 62 = .ok (.dup, 1) := by decide +kernel
theorem dX9_init_63 : decode cX9_init 63 = .ok (.invokespecial 23, 3) := by decide +kernel
theorem dX9_init_66 : decode cX9_init 66 = .ok (.putfield 38, 3) := by decide +kernel
theorem dX9_init_69 : decode cX9_init 69 = .ok (.aload_n 0, 1) := by decide +kernel
theorem dX9_init_70 : decode cX9_init 70 = .ok (.new 9, 3) := by decide +kernel
theorem dX9_init_73 : decode cX9_init 73 = .ok (.dup, 1) := by decide +kernel
theorem dX9_init_74 : decode cX9_init 74 = .ok (.invokespecial 41, 3) := by decide +kernel
theorem dX9_init_77 : decode cX9_init 77 = .ok (.putfield 42, 3) := by decide +kernel
theorem dX9_init_80 : decode cX9_init 80 = .ok (.aload_n 0, 1) := by decide +kernel
theorem dX9_init_81 : decode cX9_init 81 = .ok (.new 46, 3) := by decide +kernel
theorem dX9_init_84 : decode cX9_init 84 = .ok (.dup, 1) := by decide +kernel
theorem dX9_init_85 : decode cX9_init 85 = .ok (.invokespecial 48, 3) := by decide +kernel
theorem dX9_init_88 : decode cX9_init 88 = .ok (.putfield 49, 3) := by decide +kernel
theorem dX9_init_91 : decode cX9_init 91 = .ok (.aload_n 0, 1) := by decide +kernel
theorem dX9_init_92 : decode cX9_init 92 = .ok (.new 53, 3) := by decide +kernel
theorem dX9_init_95 : decode cX9_init 95 = .ok (.dup, 1) := by decide +kernel
theorem dX9_init_96 : decode cX9_init 96 = .ok (.invokespecial 55, 3) := by decide +kernel
theorem dX9_init_99 : decode cX9_init 99 = .ok (.putfield 56, 3) := by decide +kernel
theorem dX9_init_102 : decode cX9_init 102 = .ok (.aload_n 0, 1) := by decide +kernel
theorem dX9_init_103 : decode cX9_init 103 = .ok (.new 60, 3) := by decide +kernel
theorem dX9_init_106 : decode cX9_init 106 = .ok (.dup, 1) := by decide +kernel
theorem dX9_init_107 : decode cX9_init 107 = .ok (.invokespecial 62, 3) := by decide +kernel
theorem dX9_init_110 : decode cX9_init 110 = .ok (.putfield 63, 3) := by decide +kernel
theorem dX9_init_113 : decode cX9_init 113 = .ok (.aload_n 0, 1) := by decide +kernel
theorem dX9_init_114 : decode cX9_init 114 = .ok (.new 67, 3) := by decide +kernel
theorem dX9_init_117 : decode cX9_init 117 = .ok (.dup, 1) := by decide +kernel
theorem dX9_init_118 : decode cX9_init 118 = .ok (.invokespecial 69, 3) := by decide +kernel
theorem dX9_init_121 : decode cX9_init 121 = .ok (.putfield 70, 3) := by decide +kernel
theorem dX9_init_124 : decode cX9_init 124 = .ok (.aload_n 0, 1) := by decide +kernel
theorem dX9_init_125 : decode cX9_init 125 = .ok (.new 74, 3) := by decide +kernel
theorem dX9_init_128 : decode cX9_init 128 = .ok (.dup, 1) := by decide +kernel
theorem dX9_init_129 : decode cX9_init 129 = .ok (.invokespecial 76, 3) := by decide +kernel
theorem dX9_init_132 : decode cX9_init 132 = .ok (.putfield 77, 3) := by decide +kernel
theorem dX9_init_135 : decode cX9_init 135 = .ok (.iconst 0, 1) := by decide +kernel
theorem dX9_init_136 : decode cX9_init 136 = .ok (.istore_n 1, 1) := by decide +kernel
theorem dX9_init_137 : decode cX9_init 137 = .ok (.iload_n 1, 1) := by decide +kernel
theorem dX9_init_138 : decode cX9_init 138 = .ok (.iconst 4, 1) := by decide +kernel
theorem dX9_init_139 : decode cX9_init 139 = .ok (.if_icmp .ge 22, 3) := by decide +kernel
theorem dX9_init_142 : decode cX9_init 142 = .ok (.aload_n 0, 1) := by decide +kernel
theorem dX9_init_143 : decode cX9_init 143 = .ok (.getfield 11, 3) := by decide +kernel
theorem dX9_init_146 : decode cX9_init 146 = .ok (.iload_n 1, 1) := by decide +kernel
theorem dX9_init_147 : decode cX9_init 147 = .ok (.new 9, 3) := by decide +kernel
theorem dX9_init_150 : decode cX9_init 150 = .ok (.dup, 1) := by decide +kernel
theorem dX9_init_151 : decode cX9_init 151 = .ok (.invokespecial 41, 3) := by decide +kernel
theorem dX9_init_154 : decode cX9_init 154 = .ok (.aastore, 1) := by decide +kernel
theorem dX9_init_155 : decode cX9_init 155 = .ok (.iinc 1 1, 3) := by decide +kernel
theorem dX9_init_158 : decode cX9_init 158 = .ok (.goto (-21), 3) := by decide +kernel
theorem dX9_init_161 : decode cX9_init 161 = .ok (.iconst 0, 1) := by decide +kernel
theorem dX9_init_162 : decode cX9_init 162 = .ok (.istore_n 1, 1) := by decide +kernel
theorem dX9_init_163 : decode cX9_init 163 = .ok (.iload_n 1, 1) := by decide +kernel
theorem dX9_init_164 : decode cX9_init 164 = .ok (.iconst 2, 1) := by decide +kernel
theorem dX9_init_165 : decode cX9_init 165 = .ok (.if_icmp .ge 22, 3) := by decide +kernel
theorem dX9_init_168 : decode cX9_init 168 = .ok (.aload_n 0, 1) := by decide +kernel
theorem dX9_init_169 : decode cX9_init 169 = .ok (.getfield 17, 3) := by decide +kernel
theorem dX9_init_172 : decode cX9_init 172 = .ok (.iload_n 1, 1) := by decide +kernel
theorem dX9_init_173 : decode cX9_init 173 = .ok (.new 15, 3) := by decide +kernel
theorem dX9_init_176 : decode cX9_init 176 = .ok (.dup, 1) := by decide +kernel
theorem dX9_init_177 : decode cX9_init 177 = .ok (.invokespecial 81, 3) := by decide +kernel
theorem dX9_init_180 : decode cX9_init 180 = .ok (.aastore, 1) := by decide +kernel
theorem dX9_init_181 : decode cX9_init 181 = .ok (.iinc 1 1, 3) := by decide +kernel
theorem dX9_init_184 : decode cX9_init 184 = .ok (.goto (-21), 3) := by decide +kernel
theorem dX9_init_187 : decode cX9_init 187 = .ok (.return_, 1) := by decide +kernel
theorem dX9_shape_0 : decode cX9_shape 0 = .ok (.aload_n 0, 1) := by decide +kernel
theorem dX9_shape_1 : decode cX9_shape 1 = .ok (.iload_n 1, 1) := by decide +kernel
theorem dX9_shape_2 : decode cX9_shape 2 = .ok (.invokevirtual 82, 3) := by decide +kernel
theorem dX9_shape_5 : decode cX9_shape 5 = .ok (.astore 4, 2) := by decide +kernel
theorem dX9_shape_7 : decode cX9_shape 7 = .ok (.aload_n 0, 1) := by decide +kernel
theorem dX9_shape_8 : decode cX9_shape 8 = .ok (.getfield 42, 3) := by decide +kernel
theorem dX9_shape_11 : decode cX9_shape 11 = .ok (.lload_n 2, 1) := by decide +kernel
theorem dX9_shape_12 : decode cX9_shape 12 = .ok (.invokevirtual 86, 3) := by decide +kernel
theorem dX9_shape_15 : decode cX9_shape 15 = .ok (.aload_n 0, 1) := by decide +kernel
theorem dX9_shape_16 : decode cX9_shape 16 = .ok (.getfield 42, 3) := by decide +kernel
theorem dX9_shape_19 : decode cX9_shape 19 = .ok (.invokevirtual 90, 3) := by decide +kernel
theorem dX9_shape_22 : decode cX9_shape 22 = .ok (.ifCond .ne 5, 3) := by decide +kernel
theorem dX9_shape_25 : decode cX9_shape 25 = .ok (.iconst 0, 1) := by decide +kernel
theorem dX9_shape_26 : decode cX9_shape 26 = .ok (.ireturn, 1) := by decide +kernel
theorem dX9_shape_27 : decode cX9_shape 27 = .ok (.aload 4, 2) := by decide +kernel
theorem dX9_shape_29 : decode cX9_shape 29 = .ok (.aload_n 0, 1) := by decide +kernel
theorem dX9_shape_30 : decode cX9_shape 30 = .ok (.getfield 42, 3) := by decide +kernel
theorem dX9_shape_33 : decode cX9_shape 33 = .ok (.invokevirtual 94, 3) := by decide +kernel
theorem dX9_shape_36 : decode cX9_shape 36 = .ok (.iconst 1, 1) := by decide +kernel
theorem dX9_shape_37 : decode cX9_shape 37 = .ok (.ireturn, 1) := by decide +kernel
theorem dX9_row_0 : decode cX9_row 0 = .ok (.aload_n 0, 1) := by decide +kernel
theorem dX9_row_1 : decode cX9_row 1 = .ok (.iload_n 1, 1) := by decide +kernel
theorem dX9_row_2 : decode cX9_row 2 = .ok (.invokevirtual 82, 3) := by decide +kernel
theorem dX9_row_5 : decode cX9_row 5 = .ok (.iload_n 2, 1) := by decide +kernel
theorem dX9_row_6 : decode cX9_row 6 = .ok (.invokevirtual 98, 3) := by decide +kernel
theorem dX9_row_9 : decode cX9_row 9 = .ok (.ireturn, 1) := by decide +kernel
theorem dX9_conjugate_0 : decode cX9_conjugate 0 = .ok (.aload_n 0, 1) := by decide +kernel
theorem dX9_conjugate_1 : decode cX9_conjugate 1 = .ok (.iload_n 1, 1) := by decide +kernel
theorem dX9_conjugate_2 : decode cX9_conjugate 2 = .ok (.invokevirtual 82, 3) := by decide +kernel
theorem dX9_conjugate_5 : decode cX9_conjugate 5 = .ok (.astore_n 2, 1) := by decide +kernel
theorem dX9_conjugate_6 : decode cX9_conjugate 6 = .ok (.aload_n 2, 1) := by decide +kernel
theorem dX9_conjugate_7 : decode cX9_conjugate 7 = .ok (.iconst 0, 1) := by decide +kernel
theorem dX9_conjugate_8 : decode cX9_conjugate 8 = .ok (.invokevirtual 98, 3) := by decide +kernel
theorem dX9_conjugate_11 : decode cX9_conjugate 11 = .ok (.bipush 8, 2) := by decide +kernel
theorem dX9_conjugate_13 : decode cX9_conjugate 13 = .ok (.if_icmp .le 5, 3) := by decide +kernel
theorem dX9_conjugate_16 : decode cX9_conjugate 16 = .ok (.iconst 0, 1) := by decide +kernel
theorem dX9_conjugate_17 : decode cX9_conjugate 17 = .ok (.ireturn, 1) := by decide +kernel
theorem dX9_conjugate_18 : decode cX9_conjugate 18 = .ok (.aload_n 0, 1) := by decide +kernel
theorem dX9_conjugate_19 : decode cX9_conjugate 19 = .ok (.getfield 42, 3) := by decide +kernel
theorem dX9_conjugate_22 : decode cX9_conjugate 22 = .ok (.aload_n 2, 1) := by decide +kernel
theorem dX9_conjugate_23 : decode cX9_conjugate 23 = .ok (.invokevirtual 94, 3) := by decide +kernel
theorem dX9_conjugate_26 : decode cX9_conjugate 26 = .ok (.iconst 0, 1) := by decide +kernel
theorem dX9_conjugate_27 : decode cX9_conjugate 27 = .ok (.istore_n 3, 1) := by decide +kernel
theorem dX9_conjugate_28 : decode cX9_conjugate 28 = .ok (.iload_n 3, 1) := by decide +kernel
theorem dX9_conjugate_29 : decode cX9_conjugate 29 = .ok (.bipush 8, 2) := by decide +kernel
theorem dX9_conjugate_31 : decode cX9_conjugate 31 = .ok (.if_icmp .ge 23, 3) := by decide +kernel
theorem dX9_conjugate_34 : decode cX9_conjugate 34 = .ok (.aload_n 2, 1) := by decide +kernel
theorem dX9_conjugate_35 : decode cX9_conjugate 35 = .ok (.getfield 102, 3) := by decide +kernel
theorem dX9_conjugate_38 : decode cX9_conjugate 38 = .ok (.iload_n 3, 1) := by decide +kernel
theorem dX9_conjugate_39 : decode cX9_conjugate 39 = .ok (.aload_n 0, 1) := by decide +kernel
theorem dX9_conjugate_40 : decode cX9_conjugate 40 = .ok (.getfield 42, 3) := by decide +kernel
theorem dX9_conjugate_43 : decode cX9_conjugate 43 = .ok (.iload_n 3, 1) := by decide +kernel
theorem dX9_conjugate_44 : decode cX9_conjugate 44 = .ok (.invokevirtual 106, 3) := by decide +kernel
theorem dX9_conjugate_47 : decode cX9_conjugate 47 = .ok (.iastore, 1) := by decide +kernel
theorem dX9_conjugate_48 : decode cX9_conjugate 48 = .ok (.iinc 3 1, 3) := by decide +kernel
theorem dX9_conjugate_51 : decode cX9_conjugate 51 = .ok (.goto (-23), 3) := by decide +kernel
theorem dX9_conjugate_54 : decode cX9_conjugate 54 = .ok (.iconst 1, 1) := by decide +kernel
theorem dX9_conjugate_55 : decode cX9_conjugate 55 = .ok (.ireturn, 1) := by decide +kernel
theorem dX9_rank_0 : decode cX9_rank 0 = .ok (.aload_n 0, 1) := by decide +kernel
theorem dX9_rank_1 : decode cX9_rank 1 = .ok (.getfield 56, 3) := by decide +kernel
theorem dX9_rank_4 : decode cX9_rank 4 = .ok (.aload_n 0, 1) := by decide +kernel
theorem dX9_rank_5 : decode cX9_rank 5 = .ok (.iload_n 1, 1) := by decide +kernel
theorem dX9_rank_6 : decode cX9_rank 6 = .ok (.invokevirtual 82, 3) := by decide +kernel
theorem dX9_rank_9 : decode cX9_rank 9 = .ok (.invokevirtual 109, 3) := by decide +kernel
theorem dX9_rank_12 : decode cX9_rank 12 = .ok (.ireturn, 1) := by decide +kernel
theorem dX9_unrank_0 : decode cX9_unrank 0 = .ok (.aload_n 0, 1) := by decide +kernel
theorem dX9_unrank_1 : decode cX9_unrank 1 = .ok (.iload_n 1, 1) := by decide +kernel
theorem dX9_unrank_2 : decode cX9_unrank 2 = .ok (.invokevirtual 82, 3) := by decide +kernel
theorem dX9_unrank_5 : decode cX9_unrank 5 = .ok (.astore 4, 2) := by decide +kernel
theorem dX9_unrank_7 : decode cX9_unrank 7 = .ok (.iload_n 2, 1) := by decide +kernel
theorem dX9_unrank_8 : decode cX9_unrank 8 = .ok (.ifCond .lt 9, 3) := by decide +kernel
theorem dX9_unrank_11 : decode cX9_unrank 11 = .ok (.iload_n 2, 1) := by decide +kernel
theorem dX9_unrank_12 : decode cX9_unrank 12 = .ok (.bipush 24, 2) := by decide +kernel
theorem dX9_unrank_14 : decode cX9_unrank 14 = .ok (.if_icmp .le 13, 3) := by decide +kernel
theorem dX9_unrank_17 : decode cX9_unrank 17 = .ok (.new 113, 3) := by decide +kernel
theorem dX9_unrank_20 : decode cX9_unrank 20 = .ok (.dup, 1) := by decide +kernel
theorem dX9_unrank_21 : decode cX9_unrank 21 = .ok (.ldc 115, 2) := by decide +kernel
theorem dX9_unrank_23 : decode cX9_unrank 23 = .ok (.invokespecial 117, 3) := by decide +kernel
theorem dX9_unrank_26 : decode cX9_unrank 26 = .ok (.athrow, 1) := by decide +kernel
theorem dX9_unrank_27 : decode cX9_unrank 27 = .ok (.iload_n 3, 1) := by decide +kernel
theorem dX9_unrank_28 : decode cX9_unrank 28 = .ok (.ifCond .lt 16, 3) := by decide +kernel
theorem dX9_unrank_31 : decode cX9_unrank 31 = .ok (.iload_n 3, 1) := by decide +kernel
theorem dX9_unrank_32 : decode cX9_unrank 32 = .ok (.aload_n 0, 1) := by decide +kernel
theorem dX9_unrank_33 : decode cX9_unrank 33 = .ok (.getfield 56, 3) := by decide +kernel
theorem dX9_unrank_36 : decode cX9_unrank 36 = .ok (.iload_n 2, 1) := by decide +kernel
theorem dX9_unrank_37 : decode cX9_unrank 37 = .ok (.iload_n 2, 1) := by decide +kernel
theorem dX9_unrank_38 : decode cX9_unrank 38 = .ok (.invokevirtual 120, 3) := by decide +kernel
theorem dX9_unrank_41 : decode cX9_unrank 41 = .ok (.if_icmp .lt 13, 3) := by decide +kernel
theorem dX9_unrank_44 : decode cX9_unrank 44 = .ok (.new 124, 3) := by decide +kernel
theorem dX9_unrank_47 : decode cX9_unrank 47 = .ok (.dup, 1) := by decide +kernel
theorem dX9_unrank_48 : decode cX9_unrank 48 = .ok (.ldc 126, 2) := by decide +kernel
theorem dX9_unrank_50 : decode cX9_unrank 50 = .ok (.invokespecial 128, 3) := by decide +kernel
theorem dX9_unrank_53 : decode cX9_unrank 53 = .ok (.athrow, 1) := by decide +kernel
theorem dX9_unrank_54 : decode cX9_unrank 54 = .ok (.aload_n 0, 1) := by decide +kernel
theorem dX9_unrank_55 : decode cX9_unrank 55 = .ok (.getfield 56, 3) := by decide +kernel
theorem dX9_unrank_58 : decode cX9_unrank 58 = .ok (.iload_n 2, 1) := by decide +kernel
theorem dX9_unrank_59 : decode cX9_unrank 59 = .ok (.iload_n 3, 1) := by decide +kernel
theorem dX9_unrank_60 : decode cX9_unrank 60 = .ok (.aload_n 0, 1) := by decide +kernel
theorem dX9_unrank_61 : decode cX9_unrank 61 = .ok (.getfield 42, 3) := by decide +kernel
theorem dX9_unrank_64 : decode cX9_unrank 64 = .ok (.invokevirtual 129, 3) := by decide +kernel
theorem dX9_unrank_67 : decode cX9_unrank 67 = .ok (.ifCond .ne 13, 3) := by decide +kernel
theorem dX9_unrank_70 : decode cX9_unrank 70 = .ok (.new 133, 3) := by decide +kernel
theorem dX9_unrank_73 : decode cX9_unrank 73 = .ok (.dup, 1) := by decide +kernel
theorem dX9_unrank_74 : decode cX9_unrank 74 = .ok (.ldc 135, 2) := by decide +kernel
theorem dX9_unrank_76 : decode cX9_unrank 76 = .ok (.invokespecial 137, 3) := by decide +kernel
theorem dX9_unrank_79 : decode cX9_unrank 79 = .ok (.athrow, 1) := by decide +kernel
theorem dX9_unrank_80 : decode cX9_unrank 80 = .ok (.aload 4, 2) := by decide +kernel
theorem dX9_unrank_82 : decode cX9_unrank 82 = .ok (.aload_n 0, 1) := by decide +kernel
theorem dX9_unrank_83 : decode cX9_unrank 83 = .ok (.getfield 42, 3) := by decide +kernel
theorem dX9_unrank_86 : decode cX9_unrank 86 = .ok (.invokevirtual 94, 3) := by decide +kernel
theorem dX9_unrank_89 : decode cX9_unrank 89 = .ok (.return_, 1) := by decide +kernel
theorem dX9_letter_0 : decode cX9_letter 0 = .ok (.aload_n 0, 1) := by decide +kernel
theorem dX9_letter_1 : decode cX9_letter 1 = .ok (.iload_n 1, 1) := by decide +kernel
theorem dX9_letter_2 : decode cX9_letter 2 = .ok (.invokevirtual 138, 3) := by decide +kernel
theorem dX9_letter_5 : decode cX9_letter 5 = .ok (.astore_n 3, 1) := by decide +kernel
theorem dX9_letter_6 : decode cX9_letter 6 = .ok (.iload_n 2, 1) := by decide +kernel
theorem dX9_letter_7 : decode cX9_letter 7 = .ok (.iconst 1, 1) := by decide +kernel
theorem dX9_letter_8 : decode cX9_letter 8 = .ok (.if_icmp .lt 18, 3) := by decide +kernel
theorem dX9_letter_11 : decode cX9_letter 11 = .ok (.iload_n 2, 1) := by decide +kernel
theorem dX9_letter_12 : decode cX9_letter 12 = .ok (.bipush 16, 2) := by decide +kernel
theorem dX9_letter_14 : decode cX9_letter 14 = .ok (.if_icmp .gt 12, 3) := by decide +kernel
theorem dX9_letter_17 : decode cX9_letter 17 = .ok (.aload_n 3, 1) := by decide +kernel
theorem dX9_letter_18 : decode cX9_letter 18 = .ok (.getfield 142, 3) := by decide +kernel
theorem dX9_letter_21 : decode cX9_letter 21 = .ok (.bipush 16, 2) := by decide +kernel
theorem dX9_letter_23 : decode cX9_letter 23 = .ok (.if_icmp .lt 5, 3) := by decide +kernel
theorem dX9_letter_26 : decode cX9_letter 26 = .ok (.iconst 0, 1) := by decide +kernel
theorem dX9_letter_27 : decode cX9_letter 27 = .ok (.ireturn, 1) := by decide +kernel
theorem dX9_letter_28 : decode cX9_letter 28 = .ok (.aload_n 3, 1) := by decide +kernel
theorem dX9_letter_29 : decode cX9_letter 29 = .ok (.iload_n 2, 1) := by decide +kernel
theorem dX9_letter_30 : decode cX9_letter 30 = .ok (.invokevirtual 146, 3) := by decide +kernel
theorem dX9_letter_33 : decode cX9_letter 33 = .ok (.iconst 1, 1) := by decide +kernel
theorem dX9_letter_34 : decode cX9_letter 34 = .ok (.ireturn, 1) := by decide +kernel
theorem dX9_cut_0 : decode cX9_cut 0 = .ok (.aload_n 0, 1) := by decide +kernel
theorem dX9_cut_1 : decode cX9_cut 1 = .ok (.iload_n 1, 1) := by decide +kernel
theorem dX9_cut_2 : decode cX9_cut 2 = .ok (.invokevirtual 138, 3) := by decide +kernel
theorem dX9_cut_5 : decode cX9_cut 5 = .ok (.astore_n 3, 1) := by decide +kernel
theorem dX9_cut_6 : decode cX9_cut 6 = .ok (.iload_n 2, 1) := by decide +kernel
theorem dX9_cut_7 : decode cX9_cut 7 = .ok (.ifCond .lt 11, 3) := by decide +kernel
theorem dX9_cut_10 : decode cX9_cut 10 = .ok (.iload_n 2, 1) := by decide +kernel
theorem dX9_cut_11 : decode cX9_cut 11 = .ok (.aload_n 3, 1) := by decide +kernel
theorem dX9_cut_12 : decode cX9_cut 12 = .ok (.getfield 142, 3) := by decide +kernel
theorem dX9_cut_15 : decode cX9_cut 15 = .ok (.if_icmp .le 5, 3) := by decide +kernel
theorem dX9_cut_18 : decode cX9_cut 18 = .ok (.iconst 0, 1) := by decide +kernel
theorem dX9_cut_19 : decode cX9_cut 19 = .ok (.ireturn, 1) := by decide +kernel
theorem dX9_cut_20 : decode cX9_cut 20 = .ok (.aload_n 3, 1) := by decide +kernel
theorem dX9_cut_21 : decode cX9_cut 21 = .ok (.iload_n 2, 1) := by decide +kernel
theorem dX9_cut_22 : decode cX9_cut 22 = .ok (.putfield 142, 3) := by decide +kernel
theorem dX9_cut_25 : decode cX9_cut 25 = .ok (.iconst 1, 1) := by decide +kernel
theorem dX9_cut_26 : decode cX9_cut 26 = .ok (.ireturn, 1) := by decide +kernel
theorem dX9_length_0 : decode cX9_length 0 = .ok (.aload_n 0, 1) := by decide +kernel
theorem dX9_length_1 : decode cX9_length 1 = .ok (.iload_n 1, 1) := by decide +kernel
theorem dX9_length_2 : decode cX9_length 2 = .ok (.invokevirtual 138, 3) := by decide +kernel
theorem dX9_length_5 : decode cX9_length 5 = .ok (.getfield 142, 3) := by decide +kernel
theorem dX9_length_8 : decode cX9_length 8 = .ok (.ireturn, 1) := by decide +kernel
theorem dX9_at_0 : decode cX9_at 0 = .ok (.aload_n 0, 1) := by decide +kernel
theorem dX9_at_1 : decode cX9_at 1 = .ok (.iload_n 1, 1) := by decide +kernel
theorem dX9_at_2 : decode cX9_at 2 = .ok (.invokevirtual 138, 3) := by decide +kernel
theorem dX9_at_5 : decode cX9_at 5 = .ok (.iload_n 2, 1) := by decide +kernel
theorem dX9_at_6 : decode cX9_at 6 = .ok (.invokevirtual 150, 3) := by decide +kernel
theorem dX9_at_9 : decode cX9_at 9 = .ok (.ireturn, 1) := by decide +kernel
theorem dX9_insert_0 : decode cX9_insert 0 = .ok (.aload_n 0, 1) := by decide +kernel
theorem dX9_insert_1 : decode cX9_insert 1 = .ok (.iload_n 1, 1) := by decide +kernel
theorem dX9_insert_2 : decode cX9_insert 2 = .ok (.invokevirtual 138, 3) := by decide +kernel
theorem dX9_insert_5 : decode cX9_insert 5 = .ok (.astore_n 3, 1) := by decide +kernel
theorem dX9_insert_6 : decode cX9_insert 6 = .ok (.aload_n 0, 1) := by decide +kernel
theorem dX9_insert_7 : decode cX9_insert 7 = .ok (.getfield 24, 3) := by decide +kernel
theorem dX9_insert_10 : decode cX9_insert 10 = .ok (.invokevirtual 153, 3) := by decide +kernel
theorem dX9_insert_13 : decode cX9_insert 13 = .ok (.aload_n 0, 1) := by decide +kernel
theorem dX9_insert_14 : decode cX9_insert 14 = .ok (.getfield 28, 3) := by decide +kernel
theorem dX9_insert_17 : decode cX9_insert 17 = .ok (.invokevirtual 153, 3) := by decide +kernel
theorem dX9_insert_20 : decode cX9_insert 20 = .ok (.iconst 0, 1) := by decide +kernel
theorem dX9_insert_21 : decode cX9_insert 21 = .ok (.istore 4, 2) := by decide +kernel
theorem dX9_insert_23 : decode cX9_insert 23 = .ok (.iload 4, 2) := by decide +kernel
theorem dX9_insert_25 : decode cX9_insert 25 = .ok (.aload_n 3, 1) := by decide +kernel
theorem dX9_insert_26 : decode cX9_insert 26 = .ok (.getfield 142, 3) := by decide +kernel
theorem dX9_insert_29 : decode cX9_insert 29 = .ok (.if_icmp .ge 57, 3) := by decide +kernel
theorem dX9_insert_32 : decode cX9_insert 32 = .ok (.aload_n 3, 1) := by decide +kernel
theorem dX9_insert_33 : decode cX9_insert 33 = .ok (.iload 4, 2) := by decide +kernel
theorem dX9_insert_35 : decode cX9_insert 35 = .ok (.invokevirtual 150, 3) := by decide +kernel
theorem dX9_insert_38 : decode cX9_insert 38 = .ok (.istore 5, 2) := by decide +kernel
theorem dX9_insert_40 : decode cX9_insert 40 = .ok (.iload_n 2, 1) := by decide +kernel
theorem dX9_insert_41 : decode cX9_insert 41 = .ok (.ifCond .eq 15, 3) := by decide +kernel
theorem dX9_insert_44 : decode cX9_insert 44 = .ok (.aload_n 0, 1) := by decide +kernel
theorem dX9_insert_45 : decode cX9_insert 45 = .ok (.getfield 24, 3) := by decide +kernel
theorem dX9_insert_48 : decode cX9_insert 48 = .ok (.iload 5, 2) := by decide +kernel
theorem dX9_insert_50 : decode cX9_insert 50 = .ok (.invokevirtual 156, 3) := by decide +kernel
theorem dX9_insert_53 : decode cX9_insert 53 = .ok (.goto 12, 3) := by decide +kernel
theorem dX9_insert_56 : decode cX9_insert 56 = .ok (.aload_n 0, 1) := by decide +kernel
theorem dX9_insert_57 : decode cX9_insert 57 = .ok (.getfield 24, 3) := by decide +kernel
theorem dX9_insert_60 : decode cX9_insert 60 = .ok (.iload 5, 2) := by decide +kernel
theorem dX9_insert_62 : decode cX9_insert 62 = .ok (.invokevirtual 159, 3) := by decide +kernel
theorem dX9_insert_65 : decode cX9_insert 65 = .ok (.istore 6, 2) := by decide +kernel
theorem dX9_insert_67 : decode cX9_insert 67 = .ok (.aload_n 0, 1) := by decide +kernel
theorem dX9_insert_68 : decode cX9_insert 68 = .ok (.getfield 28, 3) := by decide +kernel
theorem dX9_insert_71 : decode cX9_insert 71 = .ok (.iload 6, 2) := by decide +kernel
theorem dX9_insert_73 : decode cX9_insert 73 = .ok (.iload 4, 2) := by decide +kernel
theorem dX9_insert_75 : decode cX9_insert 75 = .ok (.iconst 1, 1) := by decide +kernel
theorem dX9_insert_76 : decode cX9_insert 76 = .ok (.iadd, 1) := by decide +kernel
theorem dX9_insert_77 : decode cX9_insert 77 = .ok (.invokevirtual 162, 3) := by decide +kernel
theorem dX9_insert_80 : decode cX9_insert 80 = .ok (.iinc 4 1, 3) := by decide +kernel
theorem dX9_insert_83 : decode cX9_insert 83 = .ok (.goto (-60), 3) := by decide +kernel
theorem dX9_insert_86 : decode cX9_insert 86 = .ok (.aload_n 0, 1) := by decide +kernel
theorem dX9_insert_87 : decode cX9_insert 87 = .ok (.iconst 0, 1) := by decide +kernel
theorem dX9_insert_88 : decode cX9_insert 88 = .ok (.putfield 31, 3) := by decide +kernel
theorem dX9_insert_91 : decode cX9_insert 91 = .ok (.aload_n 0, 1) := by decide +kernel
theorem dX9_insert_92 : decode cX9_insert 92 = .ok (.getfield 24, 3) := by decide +kernel
theorem dX9_insert_95 : decode cX9_insert 95 = .ok (.invokevirtual 166, 3) := by decide +kernel
theorem dX9_insert_98 : decode cX9_insert 98 = .ok (.ireturn, 1) := by decide +kernel
theorem dX9_entry_0 : decode cX9_entry 0 = .ok (.iload_n 1, 1) := by decide +kernel
theorem dX9_entry_1 : decode cX9_entry 1 = .ok (.ifCond .ne 13, 3) := by decide +kernel
theorem dX9_entry_4 : decode cX9_entry 4 = .ok (.aload_n 0, 1) := by decide +kernel
theorem dX9_entry_5 : decode cX9_entry 5 = .ok (.getfield 24, 3) := by decide +kernel
theorem dX9_entry_8 : decode cX9_entry 8 = .ok (.iload_n 2, 1) := by decide +kernel
theorem dX9_entry_9 : decode cX9_entry 9 = .ok (.iload_n 3, 1) := by decide +kernel
theorem dX9_entry_10 : decode cX9_entry 10 = .ok (.invokevirtual 170, 3) := by decide +kernel
theorem dX9_entry_13 : decode cX9_entry 13 = .ok (.ireturn, 1) := by decide +kernel
theorem dX9_entry_14 : decode cX9_entry 14 = .ok (.aload_n 0, 1) := by decide +kernel
theorem dX9_entry_15 : decode cX9_entry 15 = .ok (.getfield 31, 3) := by decide +kernel
theorem dX9_entry_18 : decode cX9_entry 18 = .ok (.ifCond .eq 7, 3) := by decide +kernel
theorem dX9_entry_21 : decode cX9_entry 21 = .ok (.iconst 0, 1) := by decide +kernel
theorem dX9_entry_22 : decode cX9_entry 22 = .ok (.goto 12, 3) := by decide +kernel
theorem dX9_entry_25 : decode cX9_entry 25 = .ok (.aload_n 0, 1) := by decide +kernel
theorem dX9_entry_26 : decode cX9_entry 26 = .ok (.getfield 28, 3) := by decide +kernel
theorem dX9_entry_29 : decode cX9_entry 29 = .ok (.iload_n 2, 1) := by decide +kernel
theorem dX9_entry_30 : decode cX9_entry 30 = .ok (.iload_n 3, 1) := by decide +kernel
theorem dX9_entry_31 : decode cX9_entry 31 = .ok (.invokevirtual 170, 3) := by decide +kernel
theorem dX9_entry_34 : decode cX9_entry 34 = .ok (.ireturn, 1) := by decide +kernel
theorem dX9_recover_0 : decode cX9_recover 0 = .ok (.aload_n 0, 1) := by decide +kernel
theorem dX9_recover_1 : decode cX9_recover 1 = .ok (.iload_n 1, 1) := by decide +kernel
theorem dX9_recover_2 : decode cX9_recover 2 = .ok (.invokevirtual 138, 3) := by decide +kernel
theorem dX9_recover_5 : decode cX9_recover 5 = .ok (.astore_n 2, 1) := by decide +kernel
theorem dX9_recover_6 : decode cX9_recover 6 = .ok (.aload_n 0, 1) := by decide +kernel
theorem dX9_recover_7 : decode cX9_recover 7 = .ok (.getfield 31, 3) := by decide +kernel
theorem dX9_recover_10 : decode cX9_recover 10 = .ok (.ifCond .eq 13, 3) := by decide +kernel
theorem dX9_recover_13 : decode cX9_recover 13 = .ok (.new 172, 3) := by decide +kernel
theorem dX9_recover_16 : decode cX9_recover 16 = .ok (.dup, 1) := by decide +kernel
theorem dX9_recover_17 : decode cX9_recover 17 = .ok (.ldc 174, 2) := by decide +kernel
theorem dX9_recover_19 : decode cX9_recover 19 = .ok (.invokespecial 176, 3) := by decide +kernel
theorem dX9_recover_22 : decode cX9_recover 22 = .ok (.athrow, 1) := by decide +kernel
theorem dX9_recover_23 : decode cX9_recover 23 = .ok (.aload_n 0, 1) := by decide +kernel
theorem dX9_recover_24 : decode cX9_recover 24 = .ok (.getfield 35, 3) := by decide +kernel
theorem dX9_recover_27 : decode cX9_recover 27 = .ok (.aload_n 0, 1) := by decide +kernel
theorem dX9_recover_28 : decode cX9_recover 28 = .ok (.getfield 24, 3) := by decide +kernel
theorem dX9_recover_31 : decode cX9_recover 31 = .ok (.invokevirtual 177, 3) := by decide +kernel
theorem dX9_recover_34 : decode cX9_recover 34 = .ok (.aload_n 2, 1) := by decide +kernel
theorem dX9_recover_35 : decode cX9_recover 35 = .ok (.aload_n 0, 1) := by decide +kernel
theorem dX9_recover_36 : decode cX9_recover 36 = .ok (.getfield 24, 3) := by decide +kernel
theorem dX9_recover_39 : decode cX9_recover 39 = .ok (.invokevirtual 180, 3) := by decide +kernel
theorem dX9_recover_42 : decode cX9_recover 42 = .ok (.bipush 16, 2) := by decide +kernel
theorem dX9_recover_44 : decode cX9_recover 44 = .ok (.invokestatic 183, 3) := by decide +kernel
theorem dX9_recover_47 : decode cX9_recover 47 = .ok (.putfield 142, 3) := by decide +kernel
theorem dX9_recover_50 : decode cX9_recover 50 = .ok (.aload_n 2, 1) := by decide +kernel
theorem dX9_recover_51 : decode cX9_recover 51 = .ok (.getfield 142, 3) := by decide +kernel
theorem dX9_recover_54 : decode cX9_recover 54 = .ok (.istore_n 3, 1) := by decide +kernel
theorem dX9_recover_55 : decode cX9_recover 55 = .ok (.iload_n 3, 1) := by decide +kernel
theorem dX9_recover_56 : decode cX9_recover 56 = .ok (.iconst 1, 1) := by decide +kernel
theorem dX9_recover_57 : decode cX9_recover 57 = .ok (.if_icmp .lt 29, 3) := by decide +kernel
theorem dX9_recover_60 : decode cX9_recover 60 = .ok (.aload_n 2, 1) := by decide +kernel
theorem dX9_recover_61 : decode cX9_recover 61 = .ok (.getfield 188, 3) := by decide +kernel
theorem dX9_recover_64 : decode cX9_recover 64 = .ok (.iload_n 3, 1) := by decide +kernel
theorem dX9_recover_65 : decode cX9_recover 65 = .ok (.iconst 1, 1) := by decide +kernel
theorem dX9_recover_66 : decode cX9_recover 66 = .ok (.isub, 1) := by decide +kernel
theorem dX9_recover_67 : decode cX9_recover 67 = .ok (.aload_n 0, 1) := by decide +kernel
theorem dX9_recover_68 : decode cX9_recover 68 = .ok (.getfield 35, 3) := by decide +kernel
theorem dX9_recover_71 : decode cX9_recover 71 = .ok (.aload_n 0, 1) := by decide +kernel
theorem dX9_recover_72 : decode cX9_recover 72 = .ok (.iload_n 3, 1) := by decide +kernel
theorem dX9_recover_73 : decode cX9_recover 73 = .ok (.invokevirtual 191, 3) := by decide +kernel
theorem dX9_recover_76 : decode cX9_recover 76 = .ok (.invokevirtual 194, 3) := by decide +kernel
theorem dX9_recover_79 : decode cX9_recover 79 = .ok (.iastore, 1) := by decide +kernel
theorem dX9_recover_80 : decode cX9_recover 80 = .ok (.iinc 3 (-1), 3) := by decide +kernel
theorem dX9_recover_83 : decode cX9_recover 83 = .ok (.goto (-28), 3) := by decide +kernel
theorem dX9_recover_86 : decode cX9_recover 86 = .ok (.return_, 1) := by decide +kernel
theorem dX9_read_0 : decode cX9_read 0 = .ok (.aload_n 0, 1) := by decide +kernel
theorem dX9_read_1 : decode cX9_read 1 = .ok (.iload_n 1, 1) := by decide +kernel
theorem dX9_read_2 : decode cX9_read 2 = .ok (.invokevirtual 138, 3) := by decide +kernel
theorem dX9_read_5 : decode cX9_read 5 = .ok (.astore_n 2, 1) := by decide +kernel
theorem dX9_read_6 : decode cX9_read 6 = .ok (.aload_n 0, 1) := by decide +kernel
theorem dX9_read_7 : decode cX9_read 7 = .ok (.getfield 24, 3) := by decide +kernel
theorem dX9_read_10 : decode cX9_read 10 = .ok (.invokevirtual 180, 3) := by decide +kernel
theorem dX9_read_13 : decode cX9_read 13 = .ok (.bipush 16, 2) := by decide +kernel
theorem dX9_read_15 : decode cX9_read 15 = .ok (.if_icmp .gt 15, 3) := by decide +kernel
theorem dX9_read_18 : decode cX9_read 18 = .ok (.aload_n 0, 1) := by decide +kernel
theorem dX9_read_19 : decode cX9_read 19 = .ok (.getfield 24, 3) := by decide +kernel
theorem dX9_read_22 : decode cX9_read 22 = .ok (.invokevirtual 197, 3) := by decide +kernel
theorem dX9_read_25 : decode cX9_read 25 = .ok (.bipush 16, 2) := by decide +kernel
theorem dX9_read_27 : decode cX9_read 27 = .ok (.if_icmp .le 13, 3) := by decide +kernel
theorem dX9_read_30 : decode cX9_read 30 = .ok (.new 172, 3) := by decide +kernel
theorem dX9_read_33 : decode cX9_read 33 = .ok (.dup, 1) := by decide +kernel
theorem dX9_read_34 : decode cX9_read 34 = .ok (.ldc 200, 2) := by decide +kernel
theorem dX9_read_36 : decode cX9_read 36 = .ok (.invokespecial 176, 3) := by decide +kernel
theorem dX9_read_39 : decode cX9_read 39 = .ok (.athrow, 1) := by decide +kernel
theorem dX9_read_40 : decode cX9_read 40 = .ok (.aload_n 2, 1) := by decide +kernel
theorem dX9_read_41 : decode cX9_read 41 = .ok (.iconst 0, 1) := by decide +kernel
theorem dX9_read_42 : decode cX9_read 42 = .ok (.putfield 142, 3) := by decide +kernel
theorem dX9_read_45 : decode cX9_read 45 = .ok (.bipush 15, 2) := by decide +kernel
theorem dX9_read_47 : decode cX9_read 47 = .ok (.istore_n 3, 1) := by decide +kernel
theorem dX9_read_48 : decode cX9_read 48 = .ok (.iload_n 3, 1) := by decide +kernel
theorem dX9_read_49 : decode cX9_read 49 = .ok (.ifCond .lt 46, 3) := by decide +kernel
theorem dX9_read_52 : decode cX9_read 52 = .ok (.iconst 0, 1) := by decide +kernel
theorem dX9_read_53 : decode cX9_read 53 = .ok (.istore 4, 2) := by decide +kernel
theorem dX9_read_55 : decode cX9_read 55 = .ok (.iload 4, 2) := by decide +kernel
theorem dX9_read_57 : decode cX9_read 57 = .ok (.aload_n 0, 1) := by decide +kernel
theorem dX9_read_58 : decode cX9_read 58 = .ok (.getfield 24, 3) := by decide +kernel
theorem dX9_read_61 : decode cX9_read 61 = .ok (.getfield 202, 3) := by decide +kernel
theorem dX9_read_64 : decode cX9_read 64 = .ok (.iload_n 3, 1) := by decide +kernel
theorem dX9_read_65 : decode cX9_read 65 = .ok (.iaload, 1) := by decide +kernel
theorem dX9_read_66 : decode cX9_read 66 = .ok (.if_icmp .ge 23, 3) := by decide +kernel
theorem dX9_read_69 : decode cX9_read 69 = .ok (.aload_n 2, 1) := by decide +kernel
theorem dX9_read_70 : decode cX9_read 70 = .ok (.aload_n 0, 1) := by decide +kernel
theorem dX9_read_71 : decode cX9_read 71 = .ok (.getfield 24, 3) := by decide +kernel
theorem dX9_read_74 : decode cX9_read 74 = .ok (.iload_n 3, 1) := by decide +kernel
theorem dX9_read_75 : decode cX9_read 75 = .ok (.iload 4, 2) := by decide +kernel
theorem dX9_read_77 : decode cX9_read 77 = .ok (.invokevirtual 170, 3) := by decide +kernel
theorem dX9_read_80 : decode cX9_read 80 = .ok (.invokevirtual 146, 3) := by decide +kernel
theorem dX9_read_83 : decode cX9_read 83 = .ok (.iinc 4 1, 3) := by decide +kernel
theorem dX9_read_86 : decode cX9_read 86 = .ok (.goto (-31), 3) := by decide +kernel
theorem dX9_read_89 : decode cX9_read 89 = .ok (.iinc 3 (-1), 3) := by decide +kernel
theorem dX9_read_92 : decode cX9_read 92 = .ok (.goto (-44), 3) := by decide +kernel
theorem dX9_read_95 : decode cX9_read 95 = .ok (.return_, 1) := by decide +kernel
theorem dX9_equivalent_0 : decode cX9_equivalent 0 = .ok (.aload_n 0, 1) := by decide +kernel
theorem dX9_equivalent_1 : decode cX9_equivalent 1 = .ok (.getfield 35, 3) := by decide +kernel
theorem dX9_equivalent_4 : decode cX9_equivalent 4 = .ok (.aload_n 0, 1) := by decide +kernel
theorem dX9_equivalent_5 : decode cX9_equivalent 5 = .ok (.getfield 17, 3) := by decide +kernel
theorem dX9_equivalent_8 : decode cX9_equivalent 8 = .ok (.iconst 0, 1) := by decide +kernel
theorem dX9_equivalent_9 : decode cX9_equivalent 9 = .ok (.aaload, 1) := by decide +kernel
theorem dX9_equivalent_10 : decode cX9_equivalent 10 = .ok (.invokevirtual 203, 3) := by decide +kernel
theorem dX9_equivalent_13 : decode cX9_equivalent 13 = .ok (.aload_n 0, 1) := by decide +kernel
theorem dX9_equivalent_14 : decode cX9_equivalent 14 = .ok (.getfield 38, 3) := by decide +kernel
theorem dX9_equivalent_17 : decode cX9_equivalent 17 = .ok (.aload_n 0, 1) := by decide +kernel
theorem dX9_equivalent_18 : decode cX9_equivalent 18 = .ok (.getfield 17, 3) := by decide +kernel
theorem dX9_equivalent_21 : decode cX9_equivalent 21 = .ok (.iconst 1, 1) := by decide +kernel
theorem dX9_equivalent_22 : decode cX9_equivalent 22 = .ok (.aaload, 1) := by decide +kernel
theorem dX9_equivalent_23 : decode cX9_equivalent 23 = .ok (.invokevirtual 203, 3) := by decide +kernel
theorem dX9_equivalent_26 : decode cX9_equivalent 26 = .ok (.aload_n 0, 1) := by decide +kernel
theorem dX9_equivalent_27 : decode cX9_equivalent 27 = .ok (.getfield 35, 3) := by decide +kernel
theorem dX9_equivalent_30 : decode cX9_equivalent 30 = .ok (.aload_n 0, 1) := by decide +kernel
theorem dX9_equivalent_31 : decode cX9_equivalent 31 = .ok (.getfield 38, 3) := by decide +kernel
theorem dX9_equivalent_34 : decode cX9_equivalent 34 = .ok (.invokevirtual 207, 3) := by decide +kernel
theorem dX9_equivalent_37 : decode cX9_equivalent 37 = .ok (.ireturn, 1) := by decide +kernel
theorem dX9_rectify_0 : decode cX9_rectify 0 = .ok (.aload_n 0, 1) := by decide +kernel
theorem dX9_rectify_1 : decode cX9_rectify 1 = .ok (.iload_n 1, 1) := by decide +kernel
theorem dX9_rectify_2 : decode cX9_rectify 2 = .ok (.invokevirtual 82, 3) := by decide +kernel
theorem dX9_rectify_5 : decode cX9_rectify 5 = .ok (.astore 5, 2) := by decide +kernel
theorem dX9_rectify_7 : decode cX9_rectify 7 = .ok (.aload_n 0, 1) := by decide +kernel
theorem dX9_rectify_8 : decode cX9_rectify 8 = .ok (.iload_n 2, 1) := by decide +kernel
theorem dX9_rectify_9 : decode cX9_rectify 9 = .ok (.invokevirtual 82, 3) := by decide +kernel
theorem dX9_rectify_12 : decode cX9_rectify 12 = .ok (.astore 6, 2) := by decide +kernel
theorem dX9_rectify_14 : decode cX9_rectify 14 = .ok (.aload_n 0, 1) := by decide +kernel
theorem dX9_rectify_15 : decode cX9_rectify 15 = .ok (.iload_n 3, 1) := by decide +kernel
theorem dX9_rectify_16 : decode cX9_rectify 16 = .ok (.invokevirtual 138, 3) := by decide +kernel
theorem dX9_rectify_19 : decode cX9_rectify 19 = .ok (.astore 7, 2) := by decide +kernel
theorem dX9_rectify_21 : decode cX9_rectify 21 = .ok (.iload 4, 2) := by decide +kernel
theorem dX9_rectify_23 : decode cX9_rectify 23 = .ok (.ifCond .lt 19, 3) := by decide +kernel
theorem dX9_rectify_26 : decode cX9_rectify 26 = .ok (.iload 4, 2) := by decide +kernel
theorem dX9_rectify_28 : decode cX9_rectify 28 = .ok (.iconst 3, 1) := by decide +kernel
theorem dX9_rectify_29 : decode cX9_rectify 29 = .ok (.if_icmp .ge 13, 3) := by decide +kernel
theorem dX9_rectify_32 : decode cX9_rectify 32 = .ok (.aload 6, 2) := by decide +kernel
theorem dX9_rectify_34 : decode cX9_rectify 34 = .ok (.aload 5, 2) := by decide +kernel
theorem dX9_rectify_36 : decode cX9_rectify 36 = .ok (.invokevirtual 211, 3) := by decide +kernel
theorem dX9_rectify_39 : decode cX9_rectify 39 = .ok (.ifCond .ne 13, 3) := by decide +kernel
theorem dX9_rectify_42 : decode cX9_rectify 42 = .ok (.new 113, 3) := by decide +kernel
theorem dX9_rectify_45 : decode cX9_rectify 45 = .ok (.dup, 1) := by decide +kernel
theorem dX9_rectify_46 : decode cX9_rectify 46 = .ok (.ldc 215, 2) := by decide +kernel
theorem dX9_rectify_48 : decode cX9_rectify 48 = .ok (.invokespecial 117, 3) := by decide +kernel
theorem dX9_rectify_51 : decode cX9_rectify 51 = .ok (.athrow, 1) := by decide +kernel
theorem dX9_rectify_52 : decode cX9_rectify 52 = .ok (.aload 7, 2) := by decide +kernel
theorem dX9_rectify_54 : decode cX9_rectify 54 = .ok (.getfield 142, 3) := by decide +kernel
theorem dX9_rectify_57 : decode cX9_rectify 57 = .ok (.aload 6, 2) := by decide +kernel
theorem dX9_rectify_59 : decode cX9_rectify 59 = .ok (.invokevirtual 217, 3) := by decide +kernel
theorem dX9_rectify_62 : decode cX9_rectify 62 = .ok (.aload 5, 2) := by decide +kernel
theorem dX9_rectify_64 : decode cX9_rectify 64 = .ok (.invokevirtual 217, 3) := by decide +kernel
theorem dX9_rectify_67 : decode cX9_rectify 67 = .ok (.isub, 1) := by decide +kernel
theorem dX9_rectify_68 : decode cX9_rectify 68 = .ok (.if_icmp .eq 13, 3) := by decide +kernel
theorem dX9_rectify_71 : decode cX9_rectify 71 = .ok (.new 172, 3) := by decide +kernel
theorem dX9_rectify_74 : decode cX9_rectify 74 = .ok (.dup, 1) := by decide +kernel
theorem dX9_rectify_75 : decode cX9_rectify 75 = .ok (.ldc 218, 2) := by decide +kernel
theorem dX9_rectify_77 : decode cX9_rectify 77 = .ok (.invokespecial 176, 3) := by decide +kernel
theorem dX9_rectify_80 : decode cX9_rectify 80 = .ok (.athrow, 1) := by decide +kernel
theorem dX9_rectify_81 : decode cX9_rectify 81 = .ok (.aload_n 0, 1) := by decide +kernel
theorem dX9_rectify_82 : decode cX9_rectify 82 = .ok (.getfield 35, 3) := by decide +kernel
theorem dX9_rectify_85 : decode cX9_rectify 85 = .ok (.aload 5, 2) := by decide +kernel
theorem dX9_rectify_87 : decode cX9_rectify 87 = .ok (.aload 6, 2) := by decide +kernel
theorem dX9_rectify_89 : decode cX9_rectify 89 = .ok (.aload 7, 2) := by decide +kernel
theorem dX9_rectify_91 : decode cX9_rectify 91 = .ok (.invokevirtual 220, 3) := by decide +kernel
theorem dX9_rectify_94 : decode cX9_rectify 94 = .ok (.aload_n 0, 1) := by decide +kernel
theorem dX9_rectify_95 : decode cX9_rectify 95 = .ok (.getfield 35, 3) := by decide +kernel
theorem dX9_rectify_98 : decode cX9_rectify 98 = .ok (.aload 5, 2) := by decide +kernel
theorem dX9_rectify_100 : decode cX9_rectify 100 = .ok (.invokevirtual 224, 3) := by decide +kernel
theorem dX9_rectify_103 : decode cX9_rectify 103 = .ok (.ifCond .ne 13, 3) := by decide +kernel
theorem dX9_rectify_106 : decode cX9_rectify 106 = .ok (.new 133, 3) := by decide +kernel
theorem dX9_rectify_109 : decode cX9_rectify 109 = .ok (.dup, 1) := by decide +kernel
theorem dX9_rectify_110 : decode cX9_rectify 110 = .ok (.ldc 227, 2) := by decide +kernel
theorem dX9_rectify_112 : decode cX9_rectify 112 = .ok (.invokespecial 137, 3) := by decide +kernel
theorem dX9_rectify_115 : decode cX9_rectify 115 = .ok (.athrow, 1) := by decide +kernel
theorem dX9_rectify_116 : decode cX9_rectify 116 = .ok (.aload_n 0, 1) := by decide +kernel
theorem dX9_rectify_117 : decode cX9_rectify 117 = .ok (.getfield 42, 3) := by decide +kernel
theorem dX9_rectify_120 : decode cX9_rectify 120 = .ok (.aload 5, 2) := by decide +kernel
theorem dX9_rectify_122 : decode cX9_rectify 122 = .ok (.invokevirtual 94, 3) := by decide +kernel
theorem dX9_rectify_125 : decode cX9_rectify 125 = .ok (.aload_n 0, 1) := by decide +kernel
theorem dX9_rectify_126 : decode cX9_rectify 126 = .ok (.iload 4, 2) := by decide +kernel
theorem dX9_rectify_128 : decode cX9_rectify 128 = .ok (.invokevirtual 229, 3) := by decide +kernel
theorem dX9_rectify_131 : decode cX9_rectify 131 = .ok (.istore 8, 2) := by decide +kernel
theorem dX9_rectify_133 : decode cX9_rectify 133 = .ok (.aload_n 0, 1) := by decide +kernel
theorem dX9_rectify_134 : decode cX9_rectify 134 = .ok (.getfield 24, 3) := by decide +kernel
theorem dX9_rectify_137 : decode cX9_rectify 137 = .ok (.aload_n 0, 1) := by decide +kernel
theorem dX9_rectify_138 : decode cX9_rectify 138 = .ok (.getfield 35, 3) := by decide +kernel
theorem dX9_rectify_141 : decode cX9_rectify 141 = .ok (.invokevirtual 177, 3) := by decide +kernel
theorem dX9_rectify_144 : decode cX9_rectify 144 = .ok (.aload_n 0, 1) := by decide +kernel
theorem dX9_rectify_145 : decode cX9_rectify 145 = .ok (.iconst 1, 1) := by decide +kernel
theorem dX9_rectify_146 : decode cX9_rectify 146 = .ok (.putfield 31, 3) := by decide +kernel
theorem dX9_rectify_149 : decode cX9_rectify 149 = .ok (.iload 8, 2) := by decide +kernel
theorem dX9_rectify_151 : decode cX9_rectify 151 = .ok (.ireturn, 1) := by decide +kernel
theorem dX9_turn_0 : decode cX9_turn 0 = .ok (.aload_n 0, 1) := by decide +kernel
theorem dX9_turn_1 : decode cX9_turn 1 = .ok (.getfield 24, 3) := by decide +kernel
theorem dX9_turn_4 : decode cX9_turn 4 = .ok (.invokevirtual 232, 3) := by decide +kernel
theorem dX9_turn_7 : decode cX9_turn 7 = .ok (.ifCond .ne 13, 3) := by decide +kernel
theorem dX9_turn_10 : decode cX9_turn 10 = .ok (.new 172, 3) := by decide +kernel
theorem dX9_turn_13 : decode cX9_turn 13 = .ok (.dup, 1) := by decide +kernel
theorem dX9_turn_14 : decode cX9_turn 14 = .ok (.ldc 235, 2) := by decide +kernel
theorem dX9_turn_16 : decode cX9_turn 16 = .ok (.invokespecial 176, 3) := by decide +kernel
theorem dX9_turn_19 : decode cX9_turn 19 = .ok (.athrow, 1) := by decide +kernel
theorem dX9_turn_20 : decode cX9_turn 20 = .ok (.aload_n 0, 1) := by decide +kernel
theorem dX9_turn_21 : decode cX9_turn 21 = .ok (.getfield 35, 3) := by decide +kernel
theorem dX9_turn_24 : decode cX9_turn 24 = .ok (.aload_n 0, 1) := by decide +kernel
theorem dX9_turn_25 : decode cX9_turn 25 = .ok (.getfield 24, 3) := by decide +kernel
theorem dX9_turn_28 : decode cX9_turn 28 = .ok (.invokevirtual 177, 3) := by decide +kernel
theorem dX9_turn_31 : decode cX9_turn 31 = .ok (.aload_n 0, 1) := by decide +kernel
theorem dX9_turn_32 : decode cX9_turn 32 = .ok (.getfield 24, 3) := by decide +kernel
theorem dX9_turn_35 : decode cX9_turn 35 = .ok (.invokevirtual 180, 3) := by decide +kernel
theorem dX9_turn_38 : decode cX9_turn 38 = .ok (.istore_n 1, 1) := by decide +kernel
theorem dX9_turn_39 : decode cX9_turn 39 = .ok (.iload_n 1, 1) := by decide +kernel
theorem dX9_turn_40 : decode cX9_turn 40 = .ok (.iconst 1, 1) := by decide +kernel
theorem dX9_turn_41 : decode cX9_turn 41 = .ok (.if_icmp .lt 37, 3) := by decide +kernel
theorem dX9_turn_44 : decode cX9_turn 44 = .ok (.aload_n 0, 1) := by decide +kernel
theorem dX9_turn_45 : decode cX9_turn 45 = .ok (.getfield 35, 3) := by decide +kernel
theorem dX9_turn_48 : decode cX9_turn 48 = .ok (.iconst 0, 1) := by decide +kernel
theorem dX9_turn_49 : decode cX9_turn 49 = .ok (.iconst 0, 1) := by decide +kernel
theorem dX9_turn_50 : decode cX9_turn 50 = .ok (.invokevirtual 237, 3) := by decide +kernel
theorem dX9_turn_53 : decode cX9_turn 53 = .ok (.istore_n 2, 1) := by decide +kernel
theorem dX9_turn_54 : decode cX9_turn 54 = .ok (.aload_n 0, 1) := by decide +kernel
theorem dX9_turn_55 : decode cX9_turn 55 = .ok (.getfield 24, 3) := by decide +kernel
theorem dX9_turn_58 : decode cX9_turn 58 = .ok (.iload_n 2, 1) := by decide +kernel
theorem dX9_turn_59 : decode cX9_turn 59 = .ok (.aload_n 0, 1) := by decide +kernel
theorem dX9_turn_60 : decode cX9_turn 60 = .ok (.getfield 35, 3) := by decide +kernel
theorem dX9_turn_63 : decode cX9_turn 63 = .ok (.getfield 202, 3) := by decide +kernel
theorem dX9_turn_66 : decode cX9_turn 66 = .ok (.iload_n 2, 1) := by decide +kernel
theorem dX9_turn_67 : decode cX9_turn 67 = .ok (.iaload, 1) := by decide +kernel
theorem dX9_turn_68 : decode cX9_turn 68 = .ok (.iload_n 1, 1) := by decide +kernel
theorem dX9_turn_69 : decode cX9_turn 69 = .ok (.invokevirtual 240, 3) := by decide +kernel
theorem dX9_turn_72 : decode cX9_turn 72 = .ok (.iinc 1 (-1), 3) := by decide +kernel
theorem dX9_turn_75 : decode cX9_turn 75 = .ok (.goto (-36), 3) := by decide +kernel
theorem dX9_turn_78 : decode cX9_turn 78 = .ok (.aload_n 0, 1) := by decide +kernel
theorem dX9_turn_79 : decode cX9_turn 79 = .ok (.iconst 1, 1) := by decide +kernel
theorem dX9_turn_80 : decode cX9_turn 80 = .ok (.putfield 31, 3) := by decide +kernel
theorem dX9_turn_83 : decode cX9_turn 83 = .ok (.return_, 1) := by decide +kernel
theorem dX9_draw_0 : decode cX9_draw 0 = .ok (.aload_n 0, 1) := by decide +kernel
theorem dX9_draw_1 : decode cX9_draw 1 = .ok (.iload_n 1, 1) := by decide +kernel
theorem dX9_draw_2 : decode cX9_draw 2 = .ok (.invokevirtual 82, 3) := by decide +kernel
theorem dX9_draw_5 : decode cX9_draw 5 = .ok (.astore 4, 2) := by decide +kernel
theorem dX9_draw_7 : decode cX9_draw 7 = .ok (.aload_n 0, 1) := by decide +kernel
theorem dX9_draw_8 : decode cX9_draw 8 = .ok (.getfield 24, 3) := by decide +kernel
theorem dX9_draw_11 : decode cX9_draw 11 = .ok (.aload 4, 2) := by decide +kernel
theorem dX9_draw_13 : decode cX9_draw 13 = .ok (.invokevirtual 244, 3) := by decide +kernel
theorem dX9_draw_16 : decode cX9_draw 16 = .ok (.aload_n 0, 1) := by decide +kernel
theorem dX9_draw_17 : decode cX9_draw 17 = .ok (.getfield 49, 3) := by decide +kernel
theorem dX9_draw_20 : decode cX9_draw 20 = .ok (.aload 4, 2) := by decide +kernel
theorem dX9_draw_22 : decode cX9_draw 22 = .ok (.lload_n 2, 1) := by decide +kernel
theorem dX9_draw_23 : decode cX9_draw 23 = .ok (.invokevirtual 247, 3) := by decide +kernel
theorem dX9_draw_26 : decode cX9_draw 26 = .ok (.aload 4, 2) := by decide +kernel
theorem dX9_draw_28 : decode cX9_draw 28 = .ok (.invokevirtual 217, 3) := by decide +kernel
theorem dX9_draw_31 : decode cX9_draw 31 = .ok (.istore 5, 2) := by decide +kernel
theorem dX9_draw_33 : decode cX9_draw 33 = .ok (.iload 5, 2) := by decide +kernel
theorem dX9_draw_35 : decode cX9_draw 35 = .ok (.iconst 1, 1) := by decide +kernel
theorem dX9_draw_36 : decode cX9_draw 36 = .ok (.if_icmp .lt 48, 3) := by decide +kernel
theorem dX9_draw_39 : decode cX9_draw 39 = .ok (.aload_n 0, 1) := by decide +kernel
theorem dX9_draw_40 : decode cX9_draw 40 = .ok (.getfield 49, 3) := by decide +kernel
theorem dX9_draw_43 : decode cX9_draw 43 = .ok (.iload 5, 2) := by decide +kernel
theorem dX9_draw_45 : decode cX9_draw 45 = .ok (.invokevirtual 251, 3) := by decide +kernel
theorem dX9_draw_48 : decode cX9_draw 48 = .ok (.aload_n 0, 1) := by decide +kernel
theorem dX9_draw_49 : decode cX9_draw 49 = .ok (.getfield 24, 3) := by decide +kernel
theorem dX9_draw_52 : decode cX9_draw 52 = .ok (.aload_n 0, 1) := by decide +kernel
theorem dX9_draw_53 : decode cX9_draw 53 = .ok (.getfield 49, 3) := by decide +kernel
theorem dX9_draw_56 : decode cX9_draw 56 = .ok (.getfield 254, 3) := by decide +kernel
theorem dX9_draw_59 : decode cX9_draw 59 = .ok (.aload_n 0, 1) := by decide +kernel
theorem dX9_draw_60 : decode cX9_draw 60 = .ok (.getfield 49, 3) := by decide +kernel
theorem dX9_draw_63 : decode cX9_draw 63 = .ok (.getfield 257, 3) := by decide +kernel
theorem dX9_draw_66 : decode cX9_draw 66 = .ok (.iload 5, 2) := by decide +kernel
theorem dX9_draw_68 : decode cX9_draw 68 = .ok (.invokevirtual 240, 3) := by decide +kernel
theorem dX9_draw_71 : decode cX9_draw 71 = .ok (.aload_n 0, 1) := by decide +kernel
theorem dX9_draw_72 : decode cX9_draw 72 = .ok (.getfield 49, 3) := by decide +kernel
theorem dX9_draw_75 : decode cX9_draw 75 = .ok (.invokevirtual 260, 3) := by decide +kernel
theorem dX9_draw_78 : decode cX9_draw 78 = .ok (.iinc 5 (-1), 3) := by decide +kernel
theorem dX9_draw_81 : decode cX9_draw 81 = .ok (.goto (-48), 3) := by decide +kernel
theorem dX9_draw_84 : decode cX9_draw 84 = .ok (.aload_n 0, 1) := by decide +kernel
theorem dX9_draw_85 : decode cX9_draw 85 = .ok (.iconst 1, 1) := by decide +kernel
theorem dX9_draw_86 : decode cX9_draw 86 = .ok (.putfield 31, 3) := by decide +kernel
theorem dX9_draw_89 : decode cX9_draw 89 = .ok (.aload_n 0, 1) := by decide +kernel
theorem dX9_draw_90 : decode cX9_draw 90 = .ok (.getfield 49, 3) := by decide +kernel
theorem dX9_draw_93 : decode cX9_draw 93 = .ok (.getfield 263, 3) := by decide +kernel
theorem dX9_draw_96 : decode cX9_draw 96 = .ok (.lreturn, 1) := by decide +kernel
theorem dX9_standard_0 : decode cX9_standard 0 = .ok (.aload_n 0, 1) := by decide +kernel
theorem dX9_standard_1 : decode cX9_standard 1 = .ok (.getfield 63, 3) := by decide +kernel
theorem dX9_standard_4 : decode cX9_standard 4 = .ok (.aload_n 0, 1) := by decide +kernel
theorem dX9_standard_5 : decode cX9_standard 5 = .ok (.iload_n 1, 1) := by decide +kernel
theorem dX9_standard_6 : decode cX9_standard 6 = .ok (.invokevirtual 82, 3) := by decide +kernel
theorem dX9_standard_9 : decode cX9_standard 9 = .ok (.invokevirtual 267, 3) := by decide +kernel
theorem dX9_standard_12 : decode cX9_standard 12 = .ok (.lreturn, 1) := by decide +kernel
theorem dX9_fillings_0 : decode cX9_fillings 0 = .ok (.aload_n 0, 1) := by decide +kernel
theorem dX9_fillings_1 : decode cX9_fillings 1 = .ok (.iload_n 1, 1) := by decide +kernel
theorem dX9_fillings_2 : decode cX9_fillings 2 = .ok (.invokevirtual 82, 3) := by decide +kernel
theorem dX9_fillings_5 : decode cX9_fillings 5 = .ok (.astore_n 3, 1) := by decide +kernel
theorem dX9_fillings_6 : decode cX9_fillings 6 = .ok (.aload_n 0, 1) := by decide +kernel
theorem dX9_fillings_7 : decode cX9_fillings 7 = .ok (.iload_n 2, 1) := by decide +kernel
theorem dX9_fillings_8 : decode cX9_fillings 8 = .ok (.invokevirtual 138, 3) := by decide +kernel
theorem dX9_fillings_11 : decode cX9_fillings 11 = .ok (.astore 4, 2) := by decide +kernel
theorem dX9_fillings_13 : decode cX9_fillings 13 = .ok (.aload 4, 2) := by decide +kernel
theorem dX9_fillings_15 : decode cX9_fillings 15 = .ok (.getfield 142, 3) := by decide +kernel
theorem dX9_fillings_18 : decode cX9_fillings 18 = .ok (.aload_n 3, 1) := by decide +kernel
theorem dX9_fillings_19 : decode cX9_fillings 19 = .ok (.invokevirtual 217, 3) := by decide +kernel
theorem dX9_fillings_22 : decode cX9_fillings 22 = .ok (.if_icmp .eq 5, 3) := by decide +kernel
theorem dX9_fillings_25 : decode cX9_fillings 25 = .ok (.lconst 0, 1) := by decide +kernel
theorem dX9_fillings_26 : decode cX9_fillings 26 = .ok (.lreturn, 1) := by decide +kernel
theorem dX9_fillings_27 : decode cX9_fillings 27 = .ok (.aload_n 0, 1) := by decide +kernel
theorem dX9_fillings_28 : decode cX9_fillings 28 = .ok (.getfield 70, 3) := by decide +kernel
theorem dX9_fillings_31 : decode cX9_fillings 31 = .ok (.aload_n 3, 1) := by decide +kernel
theorem dX9_fillings_32 : decode cX9_fillings 32 = .ok (.aload 4, 2) := by decide +kernel
theorem dX9_fillings_34 : decode cX9_fillings 34 = .ok (.invokevirtual 271, 3) := by decide +kernel
theorem dX9_fillings_37 : decode cX9_fillings 37 = .ok (.lreturn, 1) := by decide +kernel
theorem dX9_coefficient_0 : decode cX9_coefficient 0 = .ok (.aload_n 0, 1) := by decide +kernel
theorem dX9_coefficient_1 : decode cX9_coefficient 1 = .ok (.iload_n 1, 1) := by decide +kernel
theorem dX9_coefficient_2 : decode cX9_coefficient 2 = .ok (.invokevirtual 82, 3) := by decide +kernel
theorem dX9_coefficient_5 : decode cX9_coefficient 5 = .ok (.astore 4, 2) := by decide +kernel
theorem dX9_coefficient_7 : decode cX9_coefficient 7 = .ok (.aload_n 0, 1) := by decide +kernel
theorem dX9_coefficient_8 : decode cX9_coefficient 8 = .ok (.iload_n 2, 1) := by decide +kernel
theorem dX9_coefficient_9 : decode cX9_coefficient 9 = .ok (.invokevirtual 82, 3) := by decide +kernel
theorem dX9_coefficient_12 : decode cX9_coefficient 12 = .ok (.astore 5, 2) := by decide +kernel
theorem dX9_coefficient_14 : decode cX9_coefficient 14 = .ok (.aload_n 0, 1) := by decide +kernel
theorem dX9_coefficient_15 : decode cX9_coefficient 15 = .ok (.iload_n 3, 1) := by decide +kernel
theorem dX9_coefficient_16 : decode cX9_coefficient 16 = .ok (.invokevirtual 82, 3) := by decide +kernel
theorem dX9_coefficient_19 : decode cX9_coefficient 19 = .ok (.astore 6, 2) := by decide +kernel
theorem dX9_coefficient_21 : decode cX9_coefficient 21 = .ok (.aload 6, 2) := by decide +kernel
theorem dX9_coefficient_23 : decode cX9_coefficient 23 = .ok (.aload 4, 2) := by decide +kernel
theorem dX9_coefficient_25 : decode cX9_coefficient 25 = .ok (.invokevirtual 211, 3) := by decide +kernel
theorem dX9_coefficient_28 : decode cX9_coefficient 28 = .ok (.ifCond .eq 22, 3) := by decide +kernel
theorem dX9_coefficient_31 : decode cX9_coefficient 31 = .ok (.aload 6, 2) := by decide +kernel
theorem dX9_coefficient_33 : decode cX9_coefficient 33 = .ok (.invokevirtual 217, 3) := by decide +kernel
theorem dX9_coefficient_36 : decode cX9_coefficient 36 = .ok (.aload 4, 2) := by decide +kernel
theorem dX9_coefficient_38 : decode cX9_coefficient 38 = .ok (.invokevirtual 217, 3) := by decide +kernel
theorem dX9_coefficient_41 : decode cX9_coefficient 41 = .ok (.aload 5, 2) := by decide +kernel
theorem dX9_coefficient_43 : decode cX9_coefficient 43 = .ok (.invokevirtual 217, 3) := by decide +kernel
theorem dX9_coefficient_46 : decode cX9_coefficient 46 = .ok (.iadd, 1) := by decide +kernel
theorem dX9_coefficient_47 : decode cX9_coefficient 47 = .ok (.if_icmp .eq 5, 3) := by decide +kernel
theorem dX9_coefficient_50 : decode cX9_coefficient 50 = .ok (.lconst 0, 1) := by decide +kernel
theorem dX9_coefficient_51 : decode cX9_coefficient 51 = .ok (.lreturn, 1) := by decide +kernel
theorem dX9_coefficient_52 : decode cX9_coefficient 52 = .ok (.aload_n 0, 1) := by decide +kernel
theorem dX9_coefficient_53 : decode cX9_coefficient 53 = .ok (.getfield 77, 3) := by decide +kernel
theorem dX9_coefficient_56 : decode cX9_coefficient 56 = .ok (.aload 4, 2) := by decide +kernel
theorem dX9_coefficient_58 : decode cX9_coefficient 58 = .ok (.aload 5, 2) := by decide +kernel
theorem dX9_coefficient_60 : decode cX9_coefficient 60 = .ok (.aload 6, 2) := by decide +kernel
theorem dX9_coefficient_62 : decode cX9_coefficient 62 = .ok (.invokevirtual 274, 3) := by decide +kernel
theorem dX9_coefficient_65 : decode cX9_coefficient 65 = .ok (.lreturn, 1) := by decide +kernel
theorem dX9_character_0 : decode cX9_character 0 = .ok (.aload_n 0, 1) := by decide +kernel
theorem dX9_character_1 : decode cX9_character 1 = .ok (.iload_n 1, 1) := by decide +kernel
theorem dX9_character_2 : decode cX9_character 2 = .ok (.invokevirtual 82, 3) := by decide +kernel
theorem dX9_character_5 : decode cX9_character 5 = .ok (.astore_n 3, 1) := by decide +kernel
theorem dX9_character_6 : decode cX9_character 6 = .ok (.aload_n 0, 1) := by decide +kernel
theorem dX9_character_7 : decode cX9_character 7 = .ok (.iload_n 2, 1) := by decide +kernel
theorem dX9_character_8 : decode cX9_character 8 = .ok (.invokevirtual 82, 3) := by decide +kernel
theorem dX9_character_11 : decode cX9_character 11 = .ok (.astore 4, 2) := by decide +kernel
theorem dX9_character_13 : decode cX9_character 13 = .ok (.aload_n 3, 1) := by decide +kernel
theorem dX9_character_14 : decode cX9_character 14 = .ok (.invokevirtual 217, 3) := by decide +kernel
theorem dX9_character_17 : decode cX9_character 17 = .ok (.aload 4, 2) := by decide +kernel
theorem dX9_character_19 : decode cX9_character 19 = .ok (.invokevirtual 217, 3) := by decide +kernel
theorem dX9_character_22 : decode cX9_character 22 = .ok (.if_icmp .eq 14, 3) := by decide +kernel
theorem dX9_character_25 : decode cX9_character 25 = .ok (.new 172, 3) := by decide +kernel
theorem dX9_character_28 : decode cX9_character 28 = .ok (.dup, 1) := by decide +kernel
theorem dX9_character_29 : decode cX9_character 29 = .ok (.ldc_w 277, 3) := by decide +kernel
theorem dX9_character_32 : decode cX9_character 32 = .ok (.invokespecial 176, 3) := by decide +kernel
theorem dX9_character_35 : decode cX9_character 35 = .ok (.athrow, 1) := by decide +kernel
theorem dX9_character_36 : decode cX9_character 36 = .ok (.aload_n 3, 1) := by decide +kernel
theorem dX9_character_37 : decode cX9_character 37 = .ok (.invokevirtual 217, 3) := by decide +kernel
theorem dX9_character_40 : decode cX9_character 40 = .ok (.bipush 14, 2) := by decide +kernel
theorem dX9_character_42 : decode cX9_character 42 = .ok (.if_icmp .le 14, 3) := by decide +kernel
theorem dX9_character_45 : decode cX9_character 45 = .ok (.new 133, 3) := by decide +kernel
theorem dX9_character_48 : decode cX9_character 48 = .ok (.dup, 1) := by decide +kernel
theorem dX9_character_49 : decode cX9_character 49 = .ok (.ldc_w 279, 3) := by decide +kernel
theorem dX9_character_52 : decode cX9_character 52 = .ok (.invokespecial 137, 3) := by decide +kernel
theorem dX9_character_55 : decode cX9_character 55 = .ok (.athrow, 1) := by decide +kernel
theorem dX9_character_56 : decode cX9_character 56 = .ok (.aload_n 3, 1) := by decide +kernel
theorem dX9_character_57 : decode cX9_character 57 = .ok (.aload 4, 2) := by decide +kernel
theorem dX9_character_59 : decode cX9_character 59 = .ok (.invokestatic 281, 3) := by decide +kernel
theorem dX9_character_62 : decode cX9_character 62 = .ok (.lreturn, 1) := by decide +kernel
theorem dX9_slotNumbered_0 : decode cX9_slotNumbered 0 = .ok (.iload_n 1, 1) := by decide +kernel
theorem dX9_slotNumbered_1 : decode cX9_slotNumbered 1 = .ok (.ifCond .lt 8, 3) := by decide +kernel
theorem dX9_slotNumbered_4 : decode cX9_slotNumbered 4 = .ok (.iload_n 1, 1) := by decide +kernel
theorem dX9_slotNumbered_5 : decode cX9_slotNumbered 5 = .ok (.iconst 4, 1) := by decide +kernel
theorem dX9_slotNumbered_6 : decode cX9_slotNumbered 6 = .ok (.if_icmp .lt 14, 3) := by decide +kernel
theorem dX9_slotNumbered_9 : decode cX9_slotNumbered 9 = .ok (.new 287, 3) := by decide +kernel
theorem dX9_slotNumbered_12 : decode cX9_slotNumbered 12 = .ok (.dup, 1) := by decide +kernel
theorem dX9_slotNumbered_13 : decode cX9_slotNumbered 13 = .ok (.ldc_w 289, 3) := by decide +kernel
theorem dX9_slotNumbered_16 : decode cX9_slotNumbered 16 = .ok (.invokespecial 291, 3) := by decide +kernel
theorem dX9_slotNumbered_19 : decode cX9_slotNumbered 19 = .ok (.athrow, 1) := by decide +kernel
theorem dX9_slotNumbered_20 : decode cX9_slotNumbered 20 = .ok (.aload_n 0, 1) := by decide +kernel
theorem dX9_slotNumbered_21 : decode cX9_slotNumbered 21 = .ok (.getfield 11, 3) := by decide +kernel
theorem dX9_slotNumbered_24 : decode cX9_slotNumbered 24 = .ok (.iload_n 1, 1) := by decide +kernel
theorem dX9_slotNumbered_25 : decode cX9_slotNumbered 25 = .ok (.aaload, 1) := by decide +kernel
theorem dX9_slotNumbered_26 : decode cX9_slotNumbered 26 = .ok (.areturn, 1) := by decide +kernel
theorem dX9_wordNumbered_0 : decode cX9_wordNumbered 0 = .ok (.iload_n 1, 1) := by decide +kernel
theorem dX9_wordNumbered_1 : decode cX9_wordNumbered 1 = .ok (.ifCond .lt 8, 3) := by decide +kernel
theorem dX9_wordNumbered_4 : decode cX9_wordNumbered 4 = .ok (.iload_n 1, 1) := by decide +kernel
theorem dX9_wordNumbered_5 : decode cX9_wordNumbered 5 = .ok (.iconst 2, 1) := by decide +kernel
theorem dX9_wordNumbered_6 : decode cX9_wordNumbered 6 = .ok (.if_icmp .lt 14, 3) := by decide +kernel
theorem dX9_wordNumbered_9 : decode cX9_wordNumbered 9 = .ok (.new 287, 3) := by decide +kernel
theorem dX9_wordNumbered_12 : decode cX9_wordNumbered 12 = .ok (.dup, 1) := by decide +kernel
theorem dX9_wordNumbered_13 : decode cX9_wordNumbered 13 = .ok (.ldc_w 292, 3) := by decide +kernel
theorem dX9_wordNumbered_16 : decode cX9_wordNumbered 16 = .ok (.invokespecial 291, 3) := by decide +kernel
theorem dX9_wordNumbered_19 : decode cX9_wordNumbered 19 = .ok (.athrow, 1) := by decide +kernel
theorem dX9_wordNumbered_20 : decode cX9_wordNumbered 20 = .ok (.aload_n 0, 1) := by decide +kernel
theorem dX9_wordNumbered_21 : decode cX9_wordNumbered 21 = .ok (.getfield 17, 3) := by decide +kernel
theorem dX9_wordNumbered_24 : decode cX9_wordNumbered 24 = .ok (.iload_n 1, 1) := by decide +kernel
theorem dX9_wordNumbered_25 : decode cX9_wordNumbered 25 = .ok (.aaload, 1) := by decide +kernel
theorem dX9_wordNumbered_26 : decode cX9_wordNumbered 26 = .ok (.areturn, 1) := by decide +kernel
theorem dX9_rowThatEndsWith_0 : decode cX9_rowThatEndsWith 0 = .ok (.iconst 0, 1) := by decide +kernel
theorem dX9_rowThatEndsWith_1 : decode cX9_rowThatEndsWith 1 = .ok (.istore_n 2, 1) := by decide +kernel
theorem dX9_rowThatEndsWith_2 : decode cX9_rowThatEndsWith 2 = .ok (.iload_n 2, 1) := by decide +kernel
theorem dX9_rowThatEndsWith_3 : decode cX9_rowThatEndsWith 3 = .ok (.bipush 15, 2) := by decide +kernel
theorem dX9_rowThatEndsWith_5 : decode cX9_rowThatEndsWith 5 = .ok (.if_icmp .ge 34, 3) := by decide +kernel
theorem dX9_rowThatEndsWith_8 : decode cX9_rowThatEndsWith 8 = .ok (.aload_n 0, 1) := by decide +kernel
theorem dX9_rowThatEndsWith_9 : decode cX9_rowThatEndsWith 9 = .ok (.getfield 28, 3) := by decide +kernel
theorem dX9_rowThatEndsWith_12 : decode cX9_rowThatEndsWith 12 = .ok (.iload_n 2, 1) := by decide +kernel
theorem dX9_rowThatEndsWith_13 : decode cX9_rowThatEndsWith 13 = .ok (.aload_n 0, 1) := by decide +kernel
theorem dX9_rowThatEndsWith_14 : decode cX9_rowThatEndsWith 14 = .ok (.getfield 35, 3) := by decide +kernel
theorem dX9_rowThatEndsWith_17 : decode cX9_rowThatEndsWith 17 = .ok (.getfield 202, 3) := by decide +kernel
theorem dX9_rowThatEndsWith_20 : decode cX9_rowThatEndsWith 20 = .ok (.iload_n 2, 1) := by decide +kernel
theorem dX9_rowThatEndsWith_21 : decode cX9_rowThatEndsWith 21 = .ok (.iaload, 1) := by decide +kernel
theorem dX9_rowThatEndsWith_22 : decode cX9_rowThatEndsWith 22 = .ok (.iconst 1, 1) := by decide +kernel
theorem dX9_rowThatEndsWith_23 : decode cX9_rowThatEndsWith 23 = .ok (.isub, 1) := by decide +kernel
theorem dX9_rowThatEndsWith_24 : decode cX9_rowThatEndsWith 24 = .ok (.invokevirtual 170, 3) := by decide +kernel
theorem dX9_rowThatEndsWith_27 : decode cX9_rowThatEndsWith 27 = .ok (.iload_n 1, 1) := by decide +kernel
theorem dX9_rowThatEndsWith_28 : decode cX9_rowThatEndsWith 28 = .ok (.if_icmp .ne 5, 3) := by decide +kernel
theorem dX9_rowThatEndsWith_31 : decode cX9_rowThatEndsWith 31 = .ok (.iload_n 2, 1) := by decide +kernel
theorem dX9_rowThatEndsWith_32 : decode cX9_rowThatEndsWith 32 = .ok (.ireturn, 1) := by decide +kernel
theorem dX9_rowThatEndsWith_33 : decode cX9_rowThatEndsWith 33 = .ok (.iinc 2 1, 3) := by decide +kernel
theorem dX9_rowThatEndsWith_36 : decode cX9_rowThatEndsWith 36 = .ok (.goto (-34), 3) := by decide +kernel
theorem dX9_rowThatEndsWith_39 : decode cX9_rowThatEndsWith 39 = .ok (.bipush 15, 2) := by decide +kernel
theorem dX9_rowThatEndsWith_41 : decode cX9_rowThatEndsWith 41 = .ok (.ireturn, 1) := by decide +kernel
theorem dX9_slideUntilStraight_0 : decode cX9_slideUntilStraight 0 = .ok (.aload_n 0, 1) := by decide +kernel
theorem dX9_slideUntilStraight_1 : decode cX9_slideUntilStraight 1 = .ok (.getfield 42, 3) := by decide +kernel
theorem dX9_slideUntilStraight_4 : decode cX9_slideUntilStraight 4 = .ok (.invokevirtual 217, 3) := by decide +kernel
theorem dX9_slideUntilStraight_7 : decode cX9_slideUntilStraight 7 = .ok (.istore_n 2, 1) := by decide +kernel
theorem dX9_slideUntilStraight_8 : decode cX9_slideUntilStraight 8 = .ok (.iconst 0, 1) := by decide +kernel
theorem dX9_slideUntilStraight_9 : decode cX9_slideUntilStraight 9 = .ok (.istore_n 3, 1) := by decide +kernel
theorem dX9_slideUntilStraight_10 : decode cX9_slideUntilStraight 10 = .ok (.iload_n 3, 1) := by decide +kernel
theorem dX9_slideUntilStraight_11 : decode cX9_slideUntilStraight 11 = .ok (.iload_n 2, 1) := by decide +kernel
theorem dX9_slideUntilStraight_12 : decode cX9_slideUntilStraight 12 = .ok (.if_icmp .ge 97, 3) := by decide +kernel
theorem dX9_slideUntilStraight_15 : decode cX9_slideUntilStraight 15 = .ok (.iload_n 1, 1) := by decide +kernel
theorem dX9_slideUntilStraight_16 : decode cX9_slideUntilStraight 16 = .ok (.iconst 2, 1) := by decide +kernel
theorem dX9_slideUntilStraight_17 : decode cX9_slideUntilStraight 17 = .ok (.if_icmp .ne 17, 3) := by decide +kernel
theorem dX9_slideUntilStraight_20 : decode cX9_slideUntilStraight 20 = .ok (.iload_n 3, 1) := by decide +kernel
theorem dX9_slideUntilStraight_21 : decode cX9_slideUntilStraight 21 = .ok (.iconst 2, 1) := by decide +kernel
theorem dX9_slideUntilStraight_22 : decode cX9_slideUntilStraight 22 = .ok (.irem, 1) := by decide +kernel
theorem dX9_slideUntilStraight_23 : decode cX9_slideUntilStraight 23 = .ok (.ifCond .ne 7, 3) := by decide +kernel
theorem dX9_slideUntilStraight_26 : decode cX9_slideUntilStraight 26 = .ok (.iconst 1, 1) := by decide +kernel
theorem dX9_slideUntilStraight_27 : decode cX9_slideUntilStraight 27 = .ok (.goto 16, 3) := by decide +kernel
theorem dX9_slideUntilStraight_30 : decode cX9_slideUntilStraight 30 = .ok (.iconst 0, 1) := by decide +kernel
theorem dX9_slideUntilStraight_31 : decode cX9_slideUntilStraight 31 = .ok (.goto 12, 3) := by decide +kernel
theorem dX9_slideUntilStraight_34 : decode cX9_slideUntilStraight 34 = .ok (.iload_n 1, 1) := by decide +kernel
theorem dX9_slideUntilStraight_35 : decode cX9_slideUntilStraight 35 = .ok (.ifCond .ne 7, 3) := by decide +kernel
theorem dX9_slideUntilStraight_38 : decode cX9_slideUntilStraight 38 = .ok (.iconst 1, 1) := by decide +kernel
theorem dX9_slideUntilStraight_39 : decode cX9_slideUntilStraight 39 = .ok (.goto 4, 3) := by decide +kernel
theorem dX9_slideUntilStraight_42 : decode cX9_slideUntilStraight 42 = .ok (.iconst 0, 1) := by decide +kernel
theorem dX9_slideUntilStraight_43 : decode cX9_slideUntilStraight 43 = .ok (.istore 4, 2) := by decide +kernel
theorem dX9_slideUntilStraight_45 : decode cX9_slideUntilStraight 45 = .ok (.iload 4, 2) := by decide +kernel
theorem dX9_slideUntilStraight_47 : decode cX9_slideUntilStraight 47 = .ok (.ifCond .eq 13, 3) := by decide +kernel
theorem dX9_slideUntilStraight_50 : decode cX9_slideUntilStraight 50 = .ok (.aload_n 0, 1) := by decide +kernel
theorem dX9_slideUntilStraight_51 : decode cX9_slideUntilStraight 51 = .ok (.getfield 42, 3) := by decide +kernel
theorem dX9_slideUntilStraight_54 : decode cX9_slideUntilStraight 54 = .ok (.invokevirtual 294, 3) := by decide +kernel
theorem dX9_slideUntilStraight_57 : decode cX9_slideUntilStraight 57 = .ok (.goto 10, 3) := by decide +kernel
theorem dX9_slideUntilStraight_60 : decode cX9_slideUntilStraight 60 = .ok (.aload_n 0, 1) := by decide +kernel
theorem dX9_slideUntilStraight_61 : decode cX9_slideUntilStraight 61 = .ok (.getfield 42, 3) := by decide +kernel
theorem dX9_slideUntilStraight_64 : decode cX9_slideUntilStraight 64 = .ok (.invokevirtual 297, 3) := by decide +kernel
theorem dX9_slideUntilStraight_67 : decode cX9_slideUntilStraight 67 = .ok (.istore 5, 2) := by decide +kernel
theorem dX9_slideUntilStraight_69 : decode cX9_slideUntilStraight 69 = .ok (.aload_n 0, 1) := by decide +kernel
theorem dX9_slideUntilStraight_70 : decode cX9_slideUntilStraight 70 = .ok (.getfield 42, 3) := by decide +kernel
theorem dX9_slideUntilStraight_73 : decode cX9_slideUntilStraight 73 = .ok (.getfield 102, 3) := by decide +kernel
theorem dX9_slideUntilStraight_76 : decode cX9_slideUntilStraight 76 = .ok (.iload 5, 2) := by decide +kernel
theorem dX9_slideUntilStraight_78 : decode cX9_slideUntilStraight 78 = .ok (.dup2, 1) := by decide +kernel
theorem dX9_slideUntilStraight_79 : decode cX9_slideUntilStraight 79 = .ok (.iaload, 1) := by decide +kernel
theorem dX9_slideUntilStraight_80 : decode cX9_slideUntilStraight 80 = .ok (.iconst 1, 1) := by decide +kernel
theorem dX9_slideUntilStraight_81 : decode cX9_slideUntilStraight 81 = .ok (.isub, 1) := by decide +kernel
theorem dX9_slideUntilStraight_82 : decode cX9_slideUntilStraight 82 = .ok (.iastore, 1) := by decide +kernel
theorem dX9_slideUntilStraight_83 : decode cX9_slideUntilStraight 83 = .ok (.aload_n 0, 1) := by decide +kernel
theorem dX9_slideUntilStraight_84 : decode cX9_slideUntilStraight 84 = .ok (.getfield 35, 3) := by decide +kernel
theorem dX9_slideUntilStraight_87 : decode cX9_slideUntilStraight 87 = .ok (.iload 5, 2) := by decide +kernel
theorem dX9_slideUntilStraight_89 : decode cX9_slideUntilStraight 89 = .ok (.aload_n 0, 1) := by decide +kernel
theorem dX9_slideUntilStraight_90 : decode cX9_slideUntilStraight 90 = .ok (.getfield 42, 3) := by decide +kernel
theorem dX9_slideUntilStraight_93 : decode cX9_slideUntilStraight 93 = .ok (.getfield 102, 3) := by decide +kernel
theorem dX9_slideUntilStraight_96 : decode cX9_slideUntilStraight 96 = .ok (.iload 5, 2) := by decide +kernel
theorem dX9_slideUntilStraight_98 : decode cX9_slideUntilStraight 98 = .ok (.iaload, 1) := by decide +kernel
theorem dX9_slideUntilStraight_99 : decode cX9_slideUntilStraight 99 = .ok (.invokevirtual 237, 3) := by decide +kernel
theorem dX9_slideUntilStraight_102 : decode cX9_slideUntilStraight 102 = .ok (.pop, 1) := by decide +kernel
theorem dX9_slideUntilStraight_103 : decode cX9_slideUntilStraight 103 = .ok (.iinc 3 1, 3) := by decide +kernel
theorem dX9_slideUntilStraight_106 : decode cX9_slideUntilStraight 106 = .ok (.goto (-96), 3) := by decide +kernel
theorem dX9_slideUntilStraight_109 : decode cX9_slideUntilStraight 109 = .ok (.iload_n 2, 1) := by decide +kernel
theorem dX9_slideUntilStraight_110 : decode cX9_slideUntilStraight 110 = .ok (.ireturn, 1) := by decide +kernel
theorem dJ6_bitCount_0f7a4_0 : decode cJ6_bitCount_0f7a4 0 = .ok (.iload_n 0, 1) := by decide +kernel
theorem dJ6_bitCount_0f7a4_1 : decode cJ6_bitCount_0f7a4 1 = .ok (.iload_n 0, 1) := by decide +kernel
theorem dJ6_bitCount_0f7a4_2 : decode cJ6_bitCount_0f7a4 2 = .ok (.iconst 1, 1) := by decide +kernel
theorem dJ6_bitCount_0f7a4_3 : decode cJ6_bitCount_0f7a4 3 = .ok (.iushr, 1) := by decide +kernel
theorem dJ6_bitCount_0f7a4_4 : decode cJ6_bitCount_0f7a4 4 = .ok (.ldc_w 265, 3) := by decide +kernel
theorem dJ6_bitCount_0f7a4_7 : decode cJ6_bitCount_0f7a4 7 = .ok (.iand, 1) := by decide +kernel
theorem dJ6_bitCount_0f7a4_8 : decode cJ6_bitCount_0f7a4 8 = .ok (.isub, 1) := by decide +kernel
theorem dJ6_bitCount_0f7a4_9 : decode cJ6_bitCount_0f7a4 9 = .ok (.istore_n 0, 1) := by decide +kernel
theorem dJ6_bitCount_0f7a4_10 : decode cJ6_bitCount_0f7a4 10 = .ok (.iload_n 0, 1) := by decide +kernel
theorem dJ6_bitCount_0f7a4_11 : decode cJ6_bitCount_0f7a4 11 = .ok (.ldc_w 266, 3) := by decide +kernel
theorem dJ6_bitCount_0f7a4_14 : decode cJ6_bitCount_0f7a4 14 = .ok (.iand, 1) := by decide +kernel
theorem dJ6_bitCount_0f7a4_15 : decode cJ6_bitCount_0f7a4 15 = .ok (.iload_n 0, 1) := by decide +kernel
theorem dJ6_bitCount_0f7a4_16 : decode cJ6_bitCount_0f7a4 16 = .ok (.iconst 2, 1) := by decide +kernel
theorem dJ6_bitCount_0f7a4_17 : decode cJ6_bitCount_0f7a4 17 = .ok (.iushr, 1) := by decide +kernel
theorem dJ6_bitCount_0f7a4_18 : decode cJ6_bitCount_0f7a4 18 = .ok (.ldc_w 266, 3) := by decide +kernel
theorem dJ6_bitCount_0f7a4_21 : decode cJ6_bitCount_0f7a4 21 = .ok (.iand, 1) := by decide +kernel
theorem dJ6_bitCount_0f7a4_22 : decode cJ6_bitCount_0f7a4 22 = .ok (.iadd, 1) := by decide +kernel
theorem dJ6_bitCount_0f7a4_23 : decode cJ6_bitCount_0f7a4 23 = .ok (.istore_n 0, 1) := by decide +kernel
theorem dJ6_bitCount_0f7a4_24 : decode cJ6_bitCount_0f7a4 24 = .ok (.iload_n 0, 1) := by decide +kernel
theorem dJ6_bitCount_0f7a4_25 : decode cJ6_bitCount_0f7a4 25 = .ok (.iload_n 0, 1) := by decide +kernel
theorem dJ6_bitCount_0f7a4_26 : decode cJ6_bitCount_0f7a4 26 = .ok (.iconst 4, 1) := by decide +kernel
theorem dJ6_bitCount_0f7a4_27 : decode cJ6_bitCount_0f7a4 27 = .ok (.iushr, 1) := by decide +kernel
theorem dJ6_bitCount_0f7a4_28 : decode cJ6_bitCount_0f7a4 28 = .ok (.iadd, 1) := by decide +kernel
theorem dJ6_bitCount_0f7a4_29 : decode cJ6_bitCount_0f7a4 29 = .ok (.ldc_w 267, 3) := by decide +kernel
theorem dJ6_bitCount_0f7a4_32 : decode cJ6_bitCount_0f7a4 32 = .ok (.iand, 1) := by decide +kernel
theorem dJ6_bitCount_0f7a4_33 : decode cJ6_bitCount_0f7a4 33 = .ok (.istore_n 0, 1) := by decide +kernel
theorem dJ6_bitCount_0f7a4_34 : decode cJ6_bitCount_0f7a4 34 = .ok (.iload_n 0, 1) := by decide +kernel
theorem dJ6_bitCount_0f7a4_35 : decode cJ6_bitCount_0f7a4 35 = .ok (.iload_n 0, 1) := by decide +kernel
theorem dJ6_bitCount_0f7a4_36 : decode cJ6_bitCount_0f7a4 36 = .ok (.bipush 8, 2) := by decide +kernel
theorem dJ6_bitCount_0f7a4_38 : decode cJ6_bitCount_0f7a4 38 = .ok (.iushr, 1) := by decide +kernel
theorem dJ6_bitCount_0f7a4_39 : decode cJ6_bitCount_0f7a4 39 = .ok (.iadd, 1) := by decide +kernel
theorem dJ6_bitCount_0f7a4_40 : decode cJ6_bitCount_0f7a4 40 = .ok (.istore_n 0, 1) := by decide +kernel
theorem dJ6_bitCount_0f7a4_41 : decode cJ6_bitCount_0f7a4 41 = .ok (.iload_n 0, 1) := by decide +kernel
theorem dJ6_bitCount_0f7a4_42 : decode cJ6_bitCount_0f7a4 42 = .ok (.iload_n 0, 1) := by decide +kernel
theorem dJ6_bitCount_0f7a4_43 : decode cJ6_bitCount_0f7a4 43 = .ok (.bipush 16, 2) := by decide +kernel
theorem dJ6_bitCount_0f7a4_45 : decode cJ6_bitCount_0f7a4 45 = .ok (.iushr, 1) := by decide +kernel
theorem dJ6_bitCount_0f7a4_46 : decode cJ6_bitCount_0f7a4 46 = .ok (.iadd, 1) := by decide +kernel
theorem dJ6_bitCount_0f7a4_47 : decode cJ6_bitCount_0f7a4 47 = .ok (.istore_n 0, 1) := by decide +kernel
theorem dJ6_bitCount_0f7a4_48 : decode cJ6_bitCount_0f7a4 48 = .ok (.iload_n 0, 1) := by decide +kernel
theorem dJ6_bitCount_0f7a4_49 : decode cJ6_bitCount_0f7a4 49 = .ok (.bipush 63, 2) := by decide +kernel
theorem dJ6_bitCount_0f7a4_51 : decode cJ6_bitCount_0f7a4 51 = .ok (.iand, 1) := by decide +kernel
theorem dJ6_bitCount_0f7a4_52 : decode cJ6_bitCount_0f7a4 52 = .ok (.ireturn, 1) := by decide +kernel
theorem dJ9_max_7cf53_0 : decode cJ9_max_7cf53 0 = .ok (.iload_n 0, 1) := by decide +kernel
theorem dJ9_max_7cf53_1 : decode cJ9_max_7cf53 1 = .ok (.iload_n 1, 1) := by decide +kernel
theorem dJ9_max_7cf53_2 : decode cJ9_max_7cf53 2 = .ok (.if_icmp .lt 7, 3) := by decide +kernel
theorem dJ9_max_7cf53_5 : decode cJ9_max_7cf53 5 = .ok (.iload_n 0, 1) := by decide +kernel
theorem dJ9_max_7cf53_6 : decode cJ9_max_7cf53 6 = .ok (.goto 4, 3) := by decide +kernel
theorem dJ9_max_7cf53_9 : decode cJ9_max_7cf53 9 = .ok (.iload_n 1, 1) := by decide +kernel
theorem dJ9_max_7cf53_10 : decode cJ9_max_7cf53 10 = .ok (.ireturn, 1) := by decide +kernel
theorem dJ9_min_7cf53_0 : decode cJ9_min_7cf53 0 = .ok (.iload_n 0, 1) := by decide +kernel
theorem dJ9_min_7cf53_1 : decode cJ9_min_7cf53 1 = .ok (.iload_n 1, 1) := by decide +kernel
theorem dJ9_min_7cf53_2 : decode cJ9_min_7cf53 2 = .ok (.if_icmp .gt 7, 3) := by decide +kernel
theorem dJ9_min_7cf53_5 : decode cJ9_min_7cf53 5 = .ok (.iload_n 0, 1) := by decide +kernel
theorem dJ9_min_7cf53_6 : decode cJ9_min_7cf53 6 = .ok (.goto 4, 3) := by decide +kernel
theorem dJ9_min_7cf53_9 : decode cJ9_min_7cf53 9 = .ok (.iload_n 1, 1) := by decide +kernel
theorem dJ9_min_7cf53_10 : decode cJ9_min_7cf53 10 = .ok (.ireturn, 1) := by decide +kernel
theorem dJ7_fill_53178_0 : decode cJ7_fill_53178 0 = .ok (.iconst 0, 1) := by decide +kernel
theorem dJ7_fill_53178_1 : decode cJ7_fill_53178 1 = .ok (.istore_n 2, 1) := by decide +kernel
theorem dJ7_fill_53178_2 : decode cJ7_fill_53178 2 = .ok (.aload_n 0, 1) := by decide +kernel
theorem dJ7_fill_53178_3 : decode cJ7_fill_53178 3 = .ok (.arraylength, 1) := by decide +kernel
theorem dJ7_fill_53178_4 : decode cJ7_fill_53178 4 = .ok (.istore_n 3, 1) := by decide +kernel
theorem dJ7_fill_53178_5 : decode cJ7_fill_53178 5 = .ok (.iload_n 2, 1) := by decide +kernel
theorem dJ7_fill_53178_6 : decode cJ7_fill_53178 6 = .ok (.iload_n 3, 1) := by decide +kernel
theorem dJ7_fill_53178_7 : decode cJ7_fill_53178 7 = .ok (.if_icmp .ge 13, 3) := by decide +kernel
theorem dJ7_fill_53178_10 : decode cJ7_fill_53178 10 = .ok (.aload_n 0, 1) := by decide +kernel
theorem dJ7_fill_53178_11 : decode cJ7_fill_53178 11 = .ok (.iload_n 2, 1) := by decide +kernel
theorem dJ7_fill_53178_12 : decode cJ7_fill_53178 12 = .ok (.iload_n 1, 1) := by decide +kernel
theorem dJ7_fill_53178_13 : decode cJ7_fill_53178 13 = .ok (.iastore, 1) := by decide +kernel
theorem dJ7_fill_53178_14 : decode cJ7_fill_53178 14 = .ok (.iinc 2 1, 3) := by decide +kernel
theorem dJ7_fill_53178_17 : decode cJ7_fill_53178 17 = .ok (.goto (-12), 3) := by decide +kernel
theorem dJ7_fill_53178_20 : decode cJ7_fill_53178 20 = .ok (.return_, 1) := by decide +kernel
