theorem dL_shape_0 : decode cL_shape 0 = .ok (.aload 4, 2) := by decide +kernel
theorem dL_shape_2 : decode cL_shape 2 = .ok (.iconst 0, 1) := by decide +kernel
theorem dL_shape_3 : decode cL_shape 3 = .ok (.aload_n 0, 1) := by decide +kernel
theorem dL_shape_4 : decode cL_shape 4 = .ok (.iload_n 1, 1) := by decide +kernel
theorem dL_shape_5 : decode cL_shape 5 = .ok (.lload_n 2, 1) := by decide +kernel
theorem dL_shape_6 : decode cL_shape 6 = .ok (.invokevirtual 7, 3) := by decide +kernel
theorem dL_shape_9 : decode cL_shape 9 = .ok (.ifCond .eq 7, 3) := by decide +kernel
theorem dL_shape_12 : decode cL_shape 12 = .ok (.lconst 1, 1) := by decide +kernel
theorem dL_shape_13 : decode cL_shape 13 = .ok (.goto 4, 3) := by decide +kernel
theorem dL_shape_16 : decode cL_shape 16 = .ok (.lconst 0, 1) := by decide +kernel
theorem dL_shape_17 : decode cL_shape 17 = .ok (.lastore, 1) := by decide +kernel
theorem dL_shape_18 : decode cL_shape 18 = .ok (.goto 7, 3) := by decide +kernel
theorem dL_shape_21 : decode cL_shape 21 = .ok (.astore 5, 2) := by decide +kernel
theorem dL_shape_23 : decode cL_shape 23 = .ok (.iconst 1, 1) := by decide +kernel
theorem dL_shape_24 : decode cL_shape 24 = .ok (.ireturn, 1) := by decide +kernel
theorem dL_shape_25 : decode cL_shape 25 = .ok (.iconst 0, 1) := by decide +kernel
theorem dL_shape_26 : decode cL_shape 26 = .ok (.ireturn, 1) := by decide +kernel
theorem dL_row_0 : decode cL_row 0 = .ok (.aload_n 3, 1) := by decide +kernel
theorem dL_row_1 : decode cL_row 1 = .ok (.iconst 0, 1) := by decide +kernel
theorem dL_row_2 : decode cL_row 2 = .ok (.aload_n 0, 1) := by decide +kernel
theorem dL_row_3 : decode cL_row 3 = .ok (.iload_n 1, 1) := by decide +kernel
theorem dL_row_4 : decode cL_row 4 = .ok (.iload_n 2, 1) := by decide +kernel
theorem dL_row_5 : decode cL_row 5 = .ok (.invokevirtual 15, 3) := by decide +kernel
theorem dL_row_8 : decode cL_row 8 = .ok (.i2l, 1) := by decide +kernel
theorem dL_row_9 : decode cL_row 9 = .ok (.lastore, 1) := by decide +kernel
theorem dL_row_10 : decode cL_row 10 = .ok (.goto 7, 3) := by decide +kernel
theorem dL_row_13 : decode cL_row 13 = .ok (.astore 4, 2) := by decide +kernel
theorem dL_row_15 : decode cL_row 15 = .ok (.iconst 1, 1) := by decide +kernel
theorem dL_row_16 : decode cL_row 16 = .ok (.ireturn, 1) := by decide +kernel
theorem dL_row_17 : decode cL_row 17 = .ok (.iconst 0, 1) := by decide +kernel
theorem dL_row_18 : decode cL_row 18 = .ok (.ireturn, 1) := by decide +kernel
theorem dL_conjugate_0 : decode cL_conjugate 0 = .ok (.aload_n 2, 1) := by decide +kernel
theorem dL_conjugate_1 : decode cL_conjugate 1 = .ok (.iconst 0, 1) := by decide +kernel
theorem dL_conjugate_2 : decode cL_conjugate 2 = .ok (.aload_n 0, 1) := by decide +kernel
theorem dL_conjugate_3 : decode cL_conjugate 3 = .ok (.iload_n 1, 1) := by decide +kernel
theorem dL_conjugate_4 : decode cL_conjugate 4 = .ok (.invokevirtual 19, 3) := by decide +kernel
theorem dL_conjugate_7 : decode cL_conjugate 7 = .ok (.ifCond .eq 7, 3) := by decide +kernel
theorem dL_conjugate_10 : decode cL_conjugate 10 = .ok (.lconst 1, 1) := by decide +kernel
theorem dL_conjugate_11 : decode cL_conjugate 11 = .ok (.goto 4, 3) := by decide +kernel
theorem dL_conjugate_14 : decode cL_conjugate 14 = .ok (.lconst 0, 1) := by decide +kernel
theorem dL_conjugate_15 : decode cL_conjugate 15 = .ok (.lastore, 1) := by decide +kernel
theorem dL_conjugate_16 : decode cL_conjugate 16 = .ok (.goto 6, 3) := by decide +kernel
theorem dL_conjugate_19 : decode cL_conjugate 19 = .ok (.astore_n 3, 1) := by decide +kernel
theorem dL_conjugate_20 : decode cL_conjugate 20 = .ok (.iconst 1, 1) := by decide +kernel
theorem dL_conjugate_21 : decode cL_conjugate 21 = .ok (.ireturn, 1) := by decide +kernel
theorem dL_conjugate_22 : decode cL_conjugate 22 = .ok (.iconst 0, 1) := by decide +kernel
theorem dL_conjugate_23 : decode cL_conjugate 23 = .ok (.ireturn, 1) := by decide +kernel
theorem dL_rank_0 : decode cL_rank 0 = .ok (.aload_n 2, 1) := by decide +kernel
theorem dL_rank_1 : decode cL_rank 1 = .ok (.iconst 0, 1) := by decide +kernel
theorem dL_rank_2 : decode cL_rank 2 = .ok (.aload_n 0, 1) := by decide +kernel
theorem dL_rank_3 : decode cL_rank 3 = .ok (.iload_n 1, 1) := by decide +kernel
theorem dL_rank_4 : decode cL_rank 4 = .ok (.invokevirtual 23, 3) := by decide +kernel
theorem dL_rank_7 : decode cL_rank 7 = .ok (.i2l, 1) := by decide +kernel
theorem dL_rank_8 : decode cL_rank 8 = .ok (.lastore, 1) := by decide +kernel
theorem dL_rank_9 : decode cL_rank 9 = .ok (.goto 6, 3) := by decide +kernel
theorem dL_rank_12 : decode cL_rank 12 = .ok (.astore_n 3, 1) := by decide +kernel
theorem dL_rank_13 : decode cL_rank 13 = .ok (.iconst 1, 1) := by decide +kernel
theorem dL_rank_14 : decode cL_rank 14 = .ok (.ireturn, 1) := by decide +kernel
theorem dL_rank_15 : decode cL_rank 15 = .ok (.iconst 0, 1) := by decide +kernel
theorem dL_rank_16 : decode cL_rank 16 = .ok (.ireturn, 1) := by decide +kernel
theorem dL_unrank_0 : decode cL_unrank 0 = .ok (.aload_n 0, 1) := by decide +kernel
theorem dL_unrank_1 : decode cL_unrank 1 = .ok (.iload_n 1, 1) := by decide +kernel
theorem dL_unrank_2 : decode cL_unrank 2 = .ok (.iload_n 2, 1) := by decide +kernel
theorem dL_unrank_3 : decode cL_unrank 3 = .ok (.iload_n 3, 1) := by decide +kernel
theorem dL_unrank_4 : decode cL_unrank 4 = .ok (.invokevirtual 27, 3) := by decide +kernel
theorem dL_unrank_7 : decode cL_unrank 7 = .ok (.goto 19, 3) := by decide +kernel
theorem dL_unrank_10 : decode cL_unrank 10 = .ok (.astore 4, 2) := by decide +kernel
theorem dL_unrank_12 : decode cL_unrank 12 = .ok (.iconst 1, 1) := by decide +kernel
theorem dL_unrank_13 : decode cL_unrank 13 = .ok (.ireturn, 1) := by decide +kernel
theorem dL_unrank_14 : decode cL_unrank 14 = .ok (.astore 4, 2) := by decide +kernel
theorem dL_unrank_16 : decode cL_unrank 16 = .ok (.iconst 2, 1) := by decide +kernel
theorem dL_unrank_17 : decode cL_unrank 17 = .ok (.ireturn, 1) := by decide +kernel
theorem dL_unrank_18 : decode cL_unrank 18 = .ok (.astore 4, 2) := by decide +kernel
theorem dL_unrank_20 : decode cL_unrank 20 = .ok (.iconst 3, 1) := by decide +kernel
theorem dL_unrank_21 : decode cL_unrank 21 = .ok (.ireturn, 1) := by decide +kernel
theorem dL_unrank_22 : decode cL_unrank 22 = .ok (.astore 4, 2) := by decide +kernel
theorem dL_unrank_24 : decode cL_unrank 24 = .ok (.iconst 4, 1) := by decide +kernel
theorem dL_unrank_25 : decode cL_unrank 25 = .ok (.ireturn, 1) := by decide +kernel
theorem dL_unrank_26 : decode cL_unrank 26 = .ok (.iconst 0, 1) := by decide +kernel
theorem dL_unrank_27 : decode cL_unrank 27 = .ok (.ireturn, 1) := by decide +kernel
theorem dL_letter_0 : decode cL_letter 0 = .ok (.aload_n 3, 1) := by decide +kernel
theorem dL_letter_1 : decode cL_letter 1 = .ok (.iconst 0, 1) := by decide +kernel
theorem dL_letter_2 : decode cL_letter 2 = .ok (.aload_n 0, 1) := by decide +kernel
theorem dL_letter_3 : decode cL_letter 3 = .ok (.iload_n 1, 1) := by decide +kernel
theorem dL_letter_4 : decode cL_letter 4 = .ok (.iload_n 2, 1) := by decide +kernel
theorem dL_letter_5 : decode cL_letter 5 = .ok (.invokevirtual 37, 3) := by decide +kernel
theorem dL_letter_8 : decode cL_letter 8 = .ok (.ifCond .eq 7, 3) := by decide +kernel
theorem dL_letter_11 : decode cL_letter 11 = .ok (.lconst 1, 1) := by decide +kernel
theorem dL_letter_12 : decode cL_letter 12 = .ok (.goto 4, 3) := by decide +kernel
theorem dL_letter_15 : decode cL_letter 15 = .ok (.lconst 0, 1) := by decide +kernel
theorem dL_letter_16 : decode cL_letter 16 = .ok (.lastore, 1) := by decide +kernel
theorem dL_letter_17 : decode cL_letter 17 = .ok (.goto 7, 3) := by decide +kernel
theorem dL_letter_20 : decode cL_letter 20 = .ok (.astore 4, 2) := by decide +kernel
theorem dL_letter_22 : decode cL_letter 22 = .ok (.iconst 1, 1) := by decide +kernel
theorem dL_letter_23 : decode cL_letter 23 = .ok (.ireturn, 1) := by decide +kernel
theorem dL_letter_24 : decode cL_letter 24 = .ok (.iconst 0, 1) := by decide +kernel
theorem dL_letter_25 : decode cL_letter 25 = .ok (.ireturn, 1) := by decide +kernel
theorem dL_cut_0 : decode cL_cut 0 = .ok (.aload_n 3, 1) := by decide +kernel
theorem dL_cut_1 : decode cL_cut 1 = .ok (.iconst 0, 1) := by decide +kernel
theorem dL_cut_2 : decode cL_cut 2 = .ok (.aload_n 0, 1) := by decide +kernel
theorem dL_cut_3 : decode cL_cut 3 = .ok (.iload_n 1, 1) := by decide +kernel
theorem dL_cut_4 : decode cL_cut 4 = .ok (.iload_n 2, 1) := by decide +kernel
theorem dL_cut_5 : decode cL_cut 5 = .ok (.invokevirtual 41, 3) := by decide +kernel
theorem dL_cut_8 : decode cL_cut 8 = .ok (.ifCond .eq 7, 3) := by decide +kernel
theorem dL_cut_11 : decode cL_cut 11 = .ok (.lconst 1, 1) := by decide +kernel
theorem dL_cut_12 : decode cL_cut 12 = .ok (.goto 4, 3) := by decide +kernel
theorem dL_cut_15 : decode cL_cut 15 = .ok (.lconst 0, 1) := by decide +kernel
theorem dL_cut_16 : decode cL_cut 16 = .ok (.lastore, 1) := by decide +kernel
theorem dL_cut_17 : decode cL_cut 17 = .ok (.goto 7, 3) := by decide +kernel
theorem dL_cut_20 : decode cL_cut 20 = .ok (.astore 4, 2) := by decide +kernel
theorem dL_cut_22 : decode cL_cut 22 = .ok (.iconst 1, 1) := by decide +kernel
theorem dL_cut_23 : decode cL_cut 23 = .ok (.ireturn, 1) := by decide +kernel
theorem dL_cut_24 : decode cL_cut 24 = .ok (.iconst 0, 1) := by decide +kernel
theorem dL_cut_25 : decode cL_cut 25 = .ok (.ireturn, 1) := by decide +kernel
theorem dL_length_0 : decode cL_length 0 = .ok (.aload_n 2, 1) := by decide +kernel
theorem dL_length_1 : decode cL_length 1 = .ok (.iconst 0, 1) := by decide +kernel
theorem dL_length_2 : decode cL_length 2 = .ok (.aload_n 0, 1) := by decide +kernel
theorem dL_length_3 : decode cL_length 3 = .ok (.iload_n 1, 1) := by decide +kernel
theorem dL_length_4 : decode cL_length 4 = .ok (.invokevirtual 44, 3) := by decide +kernel
theorem dL_length_7 : decode cL_length 7 = .ok (.i2l, 1) := by decide +kernel
theorem dL_length_8 : decode cL_length 8 = .ok (.lastore, 1) := by decide +kernel
theorem dL_length_9 : decode cL_length 9 = .ok (.goto 6, 3) := by decide +kernel
theorem dL_length_12 : decode cL_length 12 = .ok (.astore_n 3, 1) := by decide +kernel
theorem dL_length_13 : decode cL_length 13 = .ok (.iconst 1, 1) := by decide +kernel
theorem dL_length_14 : decode cL_length 14 = .ok (.ireturn, 1) := by decide +kernel
theorem dL_length_15 : decode cL_length 15 = .ok (.iconst 0, 1) := by decide +kernel
theorem dL_length_16 : decode cL_length 16 = .ok (.ireturn, 1) := by decide +kernel
theorem dL_at_0 : decode cL_at 0 = .ok (.aload_n 3, 1) := by decide +kernel
theorem dL_at_1 : decode cL_at 1 = .ok (.iconst 0, 1) := by decide +kernel
theorem dL_at_2 : decode cL_at 2 = .ok (.aload_n 0, 1) := by decide +kernel
theorem dL_at_3 : decode cL_at 3 = .ok (.iload_n 1, 1) := by decide +kernel
theorem dL_at_4 : decode cL_at 4 = .ok (.iload_n 2, 1) := by decide +kernel
theorem dL_at_5 : decode cL_at 5 = .ok (.invokevirtual 47, 3) := by decide +kernel
theorem dL_at_8 : decode cL_at 8 = .ok (.i2l, 1) := by decide +kernel
theorem dL_at_9 : decode cL_at 9 = .ok (.lastore, 1) := by decide +kernel
theorem dL_at_10 : decode cL_at 10 = .ok (.goto 7, 3) := by decide +kernel
theorem dL_at_13 : decode cL_at 13 = .ok (.astore 4, 2) := by decide +kernel
theorem dL_at_15 : decode cL_at 15 = .ok (.iconst 1, 1) := by decide +kernel
theorem dL_at_16 : decode cL_at 16 = .ok (.ireturn, 1) := by decide +kernel
theorem dL_at_17 : decode cL_at 17 = .ok (.iconst 0, 1) := by decide +kernel
theorem dL_at_18 : decode cL_at 18 = .ok (.ireturn, 1) := by decide +kernel
theorem dL_insert_0 : decode cL_insert 0 = .ok (.aload_n 3, 1) := by decide +kernel
theorem dL_insert_1 : decode cL_insert 1 = .ok (.iconst 0, 1) := by decide +kernel
theorem dL_insert_2 : decode cL_insert 2 = .ok (.aload_n 0, 1) := by decide +kernel
theorem dL_insert_3 : decode cL_insert 3 = .ok (.iload_n 1, 1) := by decide +kernel
theorem dL_insert_4 : decode cL_insert 4 = .ok (.iload_n 2, 1) := by decide +kernel
theorem dL_insert_5 : decode cL_insert 5 = .ok (.invokevirtual 50, 3) := by decide +kernel
theorem dL_insert_8 : decode cL_insert 8 = .ok (.i2l, 1) := by decide +kernel
theorem dL_insert_9 : decode cL_insert 9 = .ok (.lastore, 1) := by decide +kernel
theorem dL_insert_10 : decode cL_insert 10 = .ok (.goto 7, 3) := by decide +kernel
theorem dL_insert_13 : decode cL_insert 13 = .ok (.astore 4, 2) := by decide +kernel
theorem dL_insert_15 : decode cL_insert 15 = .ok (.iconst 1, 1) := by decide +kernel
theorem dL_insert_16 : decode cL_insert 16 = .ok (.ireturn, 1) := by decide +kernel
theorem dL_insert_17 : decode cL_insert 17 = .ok (.iconst 0, 1) := by decide +kernel
theorem dL_insert_18 : decode cL_insert 18 = .ok (.ireturn, 1) := by decide +kernel
theorem dL_recover_0 : decode cL_recover 0 = .ok (.aload_n 0, 1) := by decide +kernel
theorem dL_recover_1 : decode cL_recover 1 = .ok (.iload_n 1, 1) := by decide +kernel
theorem dL_recover_2 : decode cL_recover 2 = .ok (.invokevirtual 54, 3) := by decide +kernel
theorem dL_recover_5 : decode cL_recover 5 = .ok (.goto 9, 3) := by decide +kernel
theorem dL_recover_8 : decode cL_recover 8 = .ok (.astore_n 2, 1) := by decide +kernel
theorem dL_recover_9 : decode cL_recover 9 = .ok (.iconst 1, 1) := by decide +kernel
theorem dL_recover_10 : decode cL_recover 10 = .ok (.ireturn, 1) := by decide +kernel
theorem dL_recover_11 : decode cL_recover 11 = .ok (.astore_n 2, 1) := by decide +kernel
theorem dL_recover_12 : decode cL_recover 12 = .ok (.iconst 2, 1) := by decide +kernel
theorem dL_recover_13 : decode cL_recover 13 = .ok (.ireturn, 1) := by decide +kernel
theorem dL_recover_14 : decode cL_recover 14 = .ok (.iconst 0, 1) := by decide +kernel
theorem dL_recover_15 : decode cL_recover 15 = .ok (.ireturn, 1) := by decide +kernel
theorem dL_read_0 : decode cL_read 0 = .ok (.aload_n 0, 1) := by decide +kernel
theorem dL_read_1 : decode cL_read 1 = .ok (.iload_n 1, 1) := by decide +kernel
theorem dL_read_2 : decode cL_read 2 = .ok (.invokevirtual 60, 3) := by decide +kernel
theorem dL_read_5 : decode cL_read 5 = .ok (.goto 9, 3) := by decide +kernel
theorem dL_read_8 : decode cL_read 8 = .ok (.astore_n 2, 1) := by decide +kernel
theorem dL_read_9 : decode cL_read 9 = .ok (.iconst 1, 1) := by decide +kernel
theorem dL_read_10 : decode cL_read 10 = .ok (.ireturn, 1) := by decide +kernel
theorem dL_read_11 : decode cL_read 11 = .ok (.astore_n 2, 1) := by decide +kernel
theorem dL_read_12 : decode cL_read 12 = .ok (.iconst 2, 1) := by decide +kernel
theorem dL_read_13 : decode cL_read 13 = .ok (.ireturn, 1) := by decide +kernel
theorem dL_read_14 : decode cL_read 14 = .ok (.iconst 0, 1) := by decide +kernel
theorem dL_read_15 : decode cL_read 15 = .ok (.ireturn, 1) := by decide +kernel
theorem dL_rectify_0 : decode cL_rectify 0 = .ok (.aload 5, 2) := by decide +kernel
theorem dL_rectify_2 : decode cL_rectify 2 = .ok (.iconst 0, 1) := by decide +kernel
theorem dL_rectify_3 : decode cL_rectify 3 = .ok (.aload_n 0, 1) := by decide +kernel
theorem dL_rectify_4 : decode cL_rectify 4 = .ok (.iload_n 1, 1) := by decide +kernel
theorem dL_rectify_5 : decode cL_rectify 5 = .ok (.iload_n 2, 1) := by decide +kernel
theorem dL_rectify_6 : decode cL_rectify 6 = .ok (.iload_n 3, 1) := by decide +kernel
theorem dL_rectify_7 : decode cL_rectify 7 = .ok (.iload 4, 2) := by decide +kernel
theorem dL_rectify_9 : decode cL_rectify 9 = .ok (.invokevirtual 63, 3) := by decide +kernel
theorem dL_rectify_12 : decode cL_rectify 12 = .ok (.i2l, 1) := by decide +kernel
theorem dL_rectify_13 : decode cL_rectify 13 = .ok (.lastore, 1) := by decide +kernel
theorem dL_rectify_14 : decode cL_rectify 14 = .ok (.goto 19, 3) := by decide +kernel
theorem dL_rectify_17 : decode cL_rectify 17 = .ok (.astore 6, 2) := by decide +kernel
theorem dL_rectify_19 : decode cL_rectify 19 = .ok (.iconst 1, 1) := by decide +kernel
theorem dL_rectify_20 : decode cL_rectify 20 = .ok (.ireturn, 1) := by decide +kernel
theorem dL_rectify_21 : decode cL_rectify 21 = .ok (.astore 6, 2) := by decide +kernel
theorem dL_rectify_23 : decode cL_rectify 23 = .ok (.iconst 2, 1) := by decide +kernel
theorem dL_rectify_24 : decode cL_rectify 24 = .ok (.ireturn, 1) := by decide +kernel
theorem dL_rectify_25 : decode cL_rectify 25 = .ok (.astore 6, 2) := by decide +kernel
theorem dL_rectify_27 : decode cL_rectify 27 = .ok (.iconst 3, 1) := by decide +kernel
theorem dL_rectify_28 : decode cL_rectify 28 = .ok (.ireturn, 1) := by decide +kernel
theorem dL_rectify_29 : decode cL_rectify 29 = .ok (.astore 6, 2) := by decide +kernel
theorem dL_rectify_31 : decode cL_rectify 31 = .ok (.iconst 4, 1) := by decide +kernel
theorem dL_rectify_32 : decode cL_rectify 32 = .ok (.ireturn, 1) := by decide +kernel
theorem dL_rectify_33 : decode cL_rectify 33 = .ok (.iconst 0, 1) := by decide +kernel
theorem dL_rectify_34 : decode cL_rectify 34 = .ok (.ireturn, 1) := by decide +kernel
theorem dL_turn_0 : decode cL_turn 0 = .ok (.aload_n 0, 1) := by decide +kernel
theorem dL_turn_1 : decode cL_turn 1 = .ok (.invokevirtual 67, 3) := by decide +kernel
theorem dL_turn_4 : decode cL_turn 4 = .ok (.goto 6, 3) := by decide +kernel
theorem dL_turn_7 : decode cL_turn 7 = .ok (.astore_n 1, 1) := by decide +kernel
theorem dL_turn_8 : decode cL_turn 8 = .ok (.iconst 1, 1) := by decide +kernel
theorem dL_turn_9 : decode cL_turn 9 = .ok (.ireturn, 1) := by decide +kernel
theorem dL_turn_10 : decode cL_turn 10 = .ok (.iconst 0, 1) := by decide +kernel
theorem dL_turn_11 : decode cL_turn 11 = .ok (.ireturn, 1) := by decide +kernel
theorem dL_draw_0 : decode cL_draw 0 = .ok (.aload 4, 2) := by decide +kernel
theorem dL_draw_2 : decode cL_draw 2 = .ok (.iconst 0, 1) := by decide +kernel
theorem dL_draw_3 : decode cL_draw 3 = .ok (.aload_n 0, 1) := by decide +kernel
theorem dL_draw_4 : decode cL_draw 4 = .ok (.iload_n 1, 1) := by decide +kernel
theorem dL_draw_5 : decode cL_draw 5 = .ok (.lload_n 2, 1) := by decide +kernel
theorem dL_draw_6 : decode cL_draw 6 = .ok (.invokevirtual 70, 3) := by decide +kernel
theorem dL_draw_9 : decode cL_draw 9 = .ok (.lastore, 1) := by decide +kernel
theorem dL_draw_10 : decode cL_draw 10 = .ok (.goto 7, 3) := by decide +kernel
theorem dL_draw_13 : decode cL_draw 13 = .ok (.astore 5, 2) := by decide +kernel
theorem dL_draw_15 : decode cL_draw 15 = .ok (.iconst 1, 1) := by decide +kernel
theorem dL_draw_16 : decode cL_draw 16 = .ok (.ireturn, 1) := by decide +kernel
theorem dL_draw_17 : decode cL_draw 17 = .ok (.iconst 0, 1) := by decide +kernel
theorem dL_draw_18 : decode cL_draw 18 = .ok (.ireturn, 1) := by decide +kernel
theorem dL_standard_0 : decode cL_standard 0 = .ok (.aload_n 2, 1) := by decide +kernel
theorem dL_standard_1 : decode cL_standard 1 = .ok (.iconst 0, 1) := by decide +kernel
theorem dL_standard_2 : decode cL_standard 2 = .ok (.aload_n 0, 1) := by decide +kernel
theorem dL_standard_3 : decode cL_standard 3 = .ok (.iload_n 1, 1) := by decide +kernel
theorem dL_standard_4 : decode cL_standard 4 = .ok (.invokevirtual 74, 3) := by decide +kernel
theorem dL_standard_7 : decode cL_standard 7 = .ok (.lastore, 1) := by decide +kernel
theorem dL_standard_8 : decode cL_standard 8 = .ok (.goto 6, 3) := by decide +kernel
theorem dL_standard_11 : decode cL_standard 11 = .ok (.astore_n 3, 1) := by decide +kernel
theorem dL_standard_12 : decode cL_standard 12 = .ok (.iconst 1, 1) := by decide +kernel
theorem dL_standard_13 : decode cL_standard 13 = .ok (.ireturn, 1) := by decide +kernel
theorem dL_standard_14 : decode cL_standard 14 = .ok (.iconst 0, 1) := by decide +kernel
theorem dL_standard_15 : decode cL_standard 15 = .ok (.ireturn, 1) := by decide +kernel
theorem dL_fillings_0 : decode cL_fillings 0 = .ok (.aload_n 3, 1) := by decide +kernel
theorem dL_fillings_1 : decode cL_fillings 1 = .ok (.iconst 0, 1) := by decide +kernel
theorem dL_fillings_2 : decode cL_fillings 2 = .ok (.aload_n 0, 1) := by decide +kernel
theorem dL_fillings_3 : decode cL_fillings 3 = .ok (.iload_n 1, 1) := by decide +kernel
theorem dL_fillings_4 : decode cL_fillings 4 = .ok (.iload_n 2, 1) := by decide +kernel
theorem dL_fillings_5 : decode cL_fillings 5 = .ok (.invokevirtual 78, 3) := by decide +kernel
theorem dL_fillings_8 : decode cL_fillings 8 = .ok (.lastore, 1) := by decide +kernel
theorem dL_fillings_9 : decode cL_fillings 9 = .ok (.goto 7, 3) := by decide +kernel
theorem dL_fillings_12 : decode cL_fillings 12 = .ok (.astore 4, 2) := by decide +kernel
theorem dL_fillings_14 : decode cL_fillings 14 = .ok (.iconst 1, 1) := by decide +kernel
theorem dL_fillings_15 : decode cL_fillings 15 = .ok (.ireturn, 1) := by decide +kernel
theorem dL_fillings_16 : decode cL_fillings 16 = .ok (.iconst 0, 1) := by decide +kernel
theorem dL_fillings_17 : decode cL_fillings 17 = .ok (.ireturn, 1) := by decide +kernel
theorem dL_coefficient_0 : decode cL_coefficient 0 = .ok (.aload 4, 2) := by decide +kernel
theorem dL_coefficient_2 : decode cL_coefficient 2 = .ok (.iconst 0, 1) := by decide +kernel
theorem dL_coefficient_3 : decode cL_coefficient 3 = .ok (.aload_n 0, 1) := by decide +kernel
theorem dL_coefficient_4 : decode cL_coefficient 4 = .ok (.iload_n 1, 1) := by decide +kernel
theorem dL_coefficient_5 : decode cL_coefficient 5 = .ok (.iload_n 2, 1) := by decide +kernel
theorem dL_coefficient_6 : decode cL_coefficient 6 = .ok (.iload_n 3, 1) := by decide +kernel
theorem dL_coefficient_7 : decode cL_coefficient 7 = .ok (.invokevirtual 82, 3) := by decide +kernel
theorem dL_coefficient_10 : decode cL_coefficient 10 = .ok (.lastore, 1) := by decide +kernel
theorem dL_coefficient_11 : decode cL_coefficient 11 = .ok (.goto 7, 3) := by decide +kernel
theorem dL_coefficient_14 : decode cL_coefficient 14 = .ok (.astore 5, 2) := by decide +kernel
theorem dL_coefficient_16 : decode cL_coefficient 16 = .ok (.iconst 1, 1) := by decide +kernel
theorem dL_coefficient_17 : decode cL_coefficient 17 = .ok (.ireturn, 1) := by decide +kernel
theorem dL_coefficient_18 : decode cL_coefficient 18 = .ok (.iconst 0, 1) := by decide +kernel
theorem dL_coefficient_19 : decode cL_coefficient 19 = .ok (.ireturn, 1) := by decide +kernel
theorem dL_character_0 : decode cL_character 0 = .ok (.aload_n 3, 1) := by decide +kernel
theorem dL_character_1 : decode cL_character 1 = .ok (.iconst 0, 1) := by decide +kernel
theorem dL_character_2 : decode cL_character 2 = .ok (.aload_n 0, 1) := by decide +kernel
theorem dL_character_3 : decode cL_character 3 = .ok (.iload_n 1, 1) := by decide +kernel
theorem dL_character_4 : decode cL_character 4 = .ok (.iload_n 2, 1) := by decide +kernel
theorem dL_character_5 : decode cL_character 5 = .ok (.invokevirtual 86, 3) := by decide +kernel
theorem dL_character_8 : decode cL_character 8 = .ok (.lastore, 1) := by decide +kernel
theorem dL_character_9 : decode cL_character 9 = .ok (.goto 15, 3) := by decide +kernel
theorem dL_character_12 : decode cL_character 12 = .ok (.astore 4, 2) := by decide +kernel
theorem dL_character_14 : decode cL_character 14 = .ok (.iconst 1, 1) := by decide +kernel
theorem dL_character_15 : decode cL_character 15 = .ok (.ireturn, 1) := by decide +kernel
theorem dL_character_16 : decode cL_character 16 = .ok (.astore 4, 2) := by decide +kernel
theorem dL_character_18 : decode cL_character 18 = .ok (.iconst 2, 1) := by decide +kernel
theorem dL_character_19 : decode cL_character 19 = .ok (.ireturn, 1) := by decide +kernel
theorem dL_character_20 : decode cL_character 20 = .ok (.astore 4, 2) := by decide +kernel
theorem dL_character_22 : decode cL_character 22 = .ok (.iconst 3, 1) := by decide +kernel
theorem dL_character_23 : decode cL_character 23 = .ok (.ireturn, 1) := by decide +kernel
theorem dL_character_24 : decode cL_character 24 = .ok (.iconst 0, 1) := by decide +kernel
theorem dL_character_25 : decode cL_character 25 = .ok (.ireturn, 1) := by decide +kernel
theorem dL_law_0 : decode cL_law 0 = .ok (.new 8, 3) := by decide +kernel
theorem dL_law_3 : decode cL_law 3 = .ok (.dup, 1) := by decide +kernel
theorem dL_law_4 : decode cL_law 4 = .ok (.invokespecial 89, 3) := by decide +kernel
theorem dL_law_7 : decode cL_law 7 = .ok (.astore_n 1, 1) := by decide +kernel
theorem dL_law_8 : decode cL_law 8 = .ok (.new 90, 3) := by decide +kernel
theorem dL_law_11 : decode cL_law 11 = .ok (.dup, 1) := by decide +kernel
theorem dL_law_12 : decode cL_law 12 = .ok (.invokespecial 92, 3) := by decide +kernel
theorem dL_law_15 : decode cL_law 15 = .ok (.astore_n 2, 1) := by decide +kernel
theorem dL_law_16 : decode cL_law 16 = .ok (.iconst 1, 1) := by decide +kernel
theorem dL_law_17 : decode cL_law 17 = .ok (.newarray .long, 2) := by decide +kernel
theorem dL_law_19 : decode cL_law 19 = .ok (.astore_n 3, 1) := by decide +kernel
theorem dL_law_20 : decode cL_law 20 = .ok (.iconst 0, 1) := by decide +kernel
theorem dL_law_21 : decode cL_law 21 = .ok (.istore 4, 2) := by decide +kernel
theorem dL_law_23 : decode cL_law 23 = .ok (.iload 4, 2) := by decide +kernel
theorem dL_law_25 : decode cL_law 25 = .ok (.aload_n 0, 1) := by decide +kernel
theorem dL_law_26 : decode cL_law 26 = .ok (.arraylength, 1) := by decide +kernel
theorem dL_law_27 : decode cL_law 27 = .ok (.iconst 5, 1) := by decide +kernel
theorem dL_law_28 : decode cL_law 28 = .ok (.isub, 1) := by decide +kernel
theorem dL_law_29 : decode cL_law 29 = .ok (.if_icmp .gt 1458, 3) := by decide +kernel
theorem dL_law_32 : decode cL_law 32 = .ok (.aload_n 0, 1) := by decide +kernel
theorem dL_law_33 : decode cL_law 33 = .ok (.iload 4, 2) := by decide +kernel
theorem dL_law_35 : decode cL_law 35 = .ok (.iaload, 1) := by decide +kernel
theorem dL_law_36 : decode cL_law 36 = .ok (.bipush 31, 2) := by decide +kernel
theorem dL_law_38 : decode cL_law 38 = .ok (.iand, 1) := by decide +kernel
theorem dL_law_39 : decode cL_law 39 = .ok (.tableswitch 1442 0 20 #[97, 204, 272, 335, 391, 451, 526, 601, 657, 725, 809, 874, 910, 946, 959, 1051, 1075, 1174, 1229, 1296, 1375], 97) := by decide +kernel
theorem dL_law_136 : decode cL_law 136 = .ok (.aload_n 1, 1) := by decide +kernel
theorem dL_law_137 : decode cL_law 137 = .ok (.aload_n 0, 1) := by decide +kernel
theorem dL_law_138 : decode cL_law 138 = .ok (.iload 4, 2) := by decide +kernel
theorem dL_law_140 : decode cL_law 140 = .ok (.iconst 1, 1) := by decide +kernel
theorem dL_law_141 : decode cL_law 141 = .ok (.iadd, 1) := by decide +kernel
theorem dL_law_142 : decode cL_law 142 = .ok (.iaload, 1) := by decide +kernel
theorem dL_law_143 : decode cL_law 143 = .ok (.aload_n 0, 1) := by decide +kernel
theorem dL_law_144 : decode cL_law 144 = .ok (.iload 4, 2) := by decide +kernel
theorem dL_law_146 : decode cL_law 146 = .ok (.iconst 2, 1) := by decide +kernel
theorem dL_law_147 : decode cL_law 147 = .ok (.iadd, 1) := by decide +kernel
theorem dL_law_148 : decode cL_law 148 = .ok (.iaload, 1) := by decide +kernel
theorem dL_law_149 : decode cL_law 149 = .ok (.i2l, 1) := by decide +kernel
theorem dL_law_150 : decode cL_law 150 = .ok (.bipush 32, 2) := by decide +kernel
theorem dL_law_152 : decode cL_law 152 = .ok (.lshl, 1) := by decide +kernel
theorem dL_law_153 : decode cL_law 153 = .ok (.aload_n 0, 1) := by decide +kernel
theorem dL_law_154 : decode cL_law 154 = .ok (.iload 4, 2) := by decide +kernel
theorem dL_law_156 : decode cL_law 156 = .ok (.iconst 3, 1) := by decide +kernel
theorem dL_law_157 : decode cL_law 157 = .ok (.iadd, 1) := by decide +kernel
theorem dL_law_158 : decode cL_law 158 = .ok (.iaload, 1) := by decide +kernel
theorem dL_law_159 : decode cL_law 159 = .ok (.i2l, 1) := by decide +kernel
theorem dL_law_160 : decode cL_law 160 = .ok (.ldc2_w 93, 3) := by decide +kernel
theorem dL_law_163 : decode cL_law 163 = .ok (.land, 1) := by decide +kernel
theorem dL_law_164 : decode cL_law 164 = .ok (.lor, 1) := by decide +kernel
theorem dL_law_165 : decode cL_law 165 = .ok (.aload_n 3, 1) := by decide +kernel
theorem dL_law_166 : decode cL_law 166 = .ok (.invokestatic 95, 3) := by decide +kernel
theorem dL_law_169 : decode cL_law 169 = .ok (.istore 5, 2) := by decide +kernel
theorem dL_law_171 : decode cL_law 171 = .ok (.aload_n 2, 1) := by decide +kernel
theorem dL_law_172 : decode cL_law 172 = .ok (.aload_n 0, 1) := by decide +kernel
theorem dL_law_173 : decode cL_law 173 = .ok (.iload 4, 2) := by decide +kernel
theorem dL_law_175 : decode cL_law 175 = .ok (.iconst 1, 1) := by decide +kernel
theorem dL_law_176 : decode cL_law 176 = .ok (.iadd, 1) := by decide +kernel
theorem dL_law_177 : decode cL_law 177 = .ok (.iaload, 1) := by decide +kernel
theorem dL_law_178 : decode cL_law 178 = .ok (.aload_n 0, 1) := by decide +kernel
theorem dL_law_179 : decode cL_law 179 = .ok (.iload 4, 2) := by decide +kernel
theorem dL_law_181 : decode cL_law 181 = .ok (.iconst 2, 1) := by decide +kernel
theorem dL_law_182 : decode cL_law 182 = .ok (.iadd, 1) := by decide +kernel
theorem dL_law_183 : decode cL_law 183 = .ok (.iaload, 1) := by decide +kernel
theorem dL_law_184 : decode cL_law 184 = .ok (.i2l, 1) := by decide +kernel
theorem dL_law_185 : decode cL_law 185 = .ok (.bipush 32, 2) := by decide +kernel
theorem dL_law_187 : decode cL_law 187 = .ok (.lshl, 1) := by decide +kernel
theorem dL_law_188 : decode cL_law 188 = .ok (.aload_n 0, 1) := by decide +kernel
theorem dL_law_189 : decode cL_law 189 = .ok (.iload 4, 2) := by decide +kernel
theorem dL_law_191 : decode cL_law 191 = .ok (.iconst 3, 1) := by decide +kernel
theorem dL_law_192 : decode cL_law 192 = .ok (.iadd, 1) := by decide +kernel
theorem dL_law_193 : decode cL_law 193 = .ok (.iaload, 1) := by decide +kernel
theorem dL_law_194 : decode cL_law 194 = .ok (.i2l, 1) := by decide +kernel
theorem dL_law_195 : decode cL_law 195 = .ok (.ldc2_w 93, 3) := by decide +kernel
theorem dL_law_198 : decode cL_law 198 = .ok (.land, 1) := by decide +kernel
theorem dL_law_199 : decode cL_law 199 = .ok (.lor, 1) := by decide +kernel
theorem dL_law_200 : decode cL_law 200 = .ok (.invokevirtual 100, 3) := by decide +kernel
theorem dL_law_203 : decode cL_law 203 = .ok (.istore 6, 2) := by decide +kernel
theorem dL_law_205 : decode cL_law 205 = .ok (.aload_n 2, 1) := by decide +kernel
theorem dL_law_206 : decode cL_law 206 = .ok (.invokevirtual 101, 3) := by decide +kernel
theorem dL_law_209 : decode cL_law 209 = .ok (.iload 5, 2) := by decide +kernel
theorem dL_law_211 : decode cL_law 211 = .ok (.if_icmp .eq 5, 3) := by decide +kernel
theorem dL_law_214 : decode cL_law 214 = .ok (.iconst 0, 1) := by decide +kernel
theorem dL_law_215 : decode cL_law 215 = .ok (.ireturn, 1) := by decide +kernel
theorem dL_law_216 : decode cL_law 216 = .ok (.iload 5, 2) := by decide +kernel
theorem dL_law_218 : decode cL_law 218 = .ok (.ifCond .ne 22, 3) := by decide +kernel
theorem dL_law_221 : decode cL_law 221 = .ok (.aload_n 3, 1) := by decide +kernel
theorem dL_law_222 : decode cL_law 222 = .ok (.iconst 0, 1) := by decide +kernel
theorem dL_law_223 : decode cL_law 223 = .ok (.laload, 1) := by decide +kernel
theorem dL_law_224 : decode cL_law 224 = .ok (.iload 6, 2) := by decide +kernel
theorem dL_law_226 : decode cL_law 226 = .ok (.ifCond .eq 7, 3) := by decide +kernel
theorem dL_law_229 : decode cL_law 229 = .ok (.lconst 1, 1) := by decide +kernel
theorem dL_law_230 : decode cL_law 230 = .ok (.goto 4, 3) := by decide +kernel
theorem dL_law_233 : decode cL_law 233 = .ok (.lconst 0, 1) := by decide +kernel
theorem dL_law_234 : decode cL_law 234 = .ok (.lcmp, 1) := by decide +kernel
theorem dL_law_235 : decode cL_law 235 = .ok (.ifCond .eq 5, 3) := by decide +kernel
theorem dL_law_238 : decode cL_law 238 = .ok (.iconst 0, 1) := by decide +kernel
theorem dL_law_239 : decode cL_law 239 = .ok (.ireturn, 1) := by decide +kernel
theorem dL_law_240 : decode cL_law 240 = .ok (.goto 1241, 3) := by decide +kernel
theorem dL_law_243 : decode cL_law 243 = .ok (.aload_n 1, 1) := by decide +kernel
theorem dL_law_244 : decode cL_law 244 = .ok (.aload_n 0, 1) := by decide +kernel
theorem dL_law_245 : decode cL_law 245 = .ok (.iload 4, 2) := by decide +kernel
theorem dL_law_247 : decode cL_law 247 = .ok (.iconst 1, 1) := by decide +kernel
theorem dL_law_248 : decode cL_law 248 = .ok (.iadd, 1) := by decide +kernel
theorem dL_law_249 : decode cL_law 249 = .ok (.iaload, 1) := by decide +kernel
theorem dL_law_250 : decode cL_law 250 = .ok (.aload_n 0, 1) := by decide +kernel
theorem dL_law_251 : decode cL_law 251 = .ok (.iload 4, 2) := by decide +kernel
theorem dL_law_253 : decode cL_law 253 = .ok (.iconst 2, 1) := by decide +kernel
theorem dL_law_254 : decode cL_law 254 = .ok (.iadd, 1) := by decide +kernel
theorem dL_law_255 : decode cL_law 255 = .ok (.iaload, 1) := by decide +kernel
theorem dL_law_256 : decode cL_law 256 = .ok (.aload_n 3, 1) := by decide +kernel
theorem dL_law_257 : decode cL_law 257 = .ok (.invokestatic 105, 3) := by decide +kernel
theorem dL_law_260 : decode cL_law 260 = .ok (.istore 5, 2) := by decide +kernel
theorem dL_law_262 : decode cL_law 262 = .ok (.aload_n 2, 1) := by decide +kernel
theorem dL_law_263 : decode cL_law 263 = .ok (.aload_n 0, 1) := by decide +kernel
theorem dL_law_264 : decode cL_law 264 = .ok (.iload 4, 2) := by decide +kernel
theorem dL_law_266 : decode cL_law 266 = .ok (.iconst 1, 1) := by decide +kernel
theorem dL_law_267 : decode cL_law 267 = .ok (.iadd, 1) := by decide +kernel
theorem dL_law_268 : decode cL_law 268 = .ok (.iaload, 1) := by decide +kernel
theorem dL_law_269 : decode cL_law 269 = .ok (.aload_n 0, 1) := by decide +kernel
theorem dL_law_270 : decode cL_law 270 = .ok (.iload 4, 2) := by decide +kernel
theorem dL_law_272 : decode cL_law 272 = .ok (.iconst 2, 1) := by decide +kernel
theorem dL_law_273 : decode cL_law 273 = .ok (.iadd, 1) := by decide +kernel
theorem dL_law_274 : decode cL_law 274 = .ok (.iaload, 1) := by decide +kernel
theorem dL_law_275 : decode cL_law 275 = .ok (.invokevirtual 108, 3) := by decide +kernel
theorem dL_law_278 : decode cL_law 278 = .ok (.istore 6, 2) := by decide +kernel
theorem dL_law_280 : decode cL_law 280 = .ok (.aload_n 2, 1) := by decide +kernel
theorem dL_law_281 : decode cL_law 281 = .ok (.invokevirtual 101, 3) := by decide +kernel
theorem dL_law_284 : decode cL_law 284 = .ok (.iload 5, 2) := by decide +kernel
theorem dL_law_286 : decode cL_law 286 = .ok (.if_icmp .eq 5, 3) := by decide +kernel
theorem dL_law_289 : decode cL_law 289 = .ok (.iconst 0, 1) := by decide +kernel
theorem dL_law_290 : decode cL_law 290 = .ok (.ireturn, 1) := by decide +kernel
theorem dL_law_291 : decode cL_law 291 = .ok (.iload 5, 2) := by decide +kernel
theorem dL_law_293 : decode cL_law 293 = .ok (.ifCond .ne 15, 3) := by decide +kernel
theorem dL_law_296 : decode cL_law 296 = .ok (.aload_n 3, 1) := by decide +kernel
theorem dL_law_297 : decode cL_law 297 = .ok (.iconst 0, 1) := by decide +kernel
theorem dL_law_298 : decode cL_law 298 = .ok (.laload, 1) := by decide +kernel
theorem dL_law_299 : decode cL_law 299 = .ok (.iload 6, 2) := by decide +kernel
theorem dL_law_301 : decode cL_law 301 = .ok (.i2l, 1) := by decide +kernel
theorem dL_law_302 : decode cL_law 302 = .ok (.lcmp, 1) := by decide +kernel
theorem dL_law_303 : decode cL_law 303 = .ok (.ifCond .eq 5, 3) := by decide +kernel
theorem dL_law_306 : decode cL_law 306 = .ok (.iconst 0, 1) := by decide +kernel
theorem dL_law_307 : decode cL_law 307 = .ok (.ireturn, 1) := by decide +kernel
theorem dL_law_308 : decode cL_law 308 = .ok (.goto 1173, 3) := by decide +kernel
theorem dL_law_311 : decode cL_law 311 = .ok (.aload_n 1, 1) := by decide +kernel
theorem dL_law_312 : decode cL_law 312 = .ok (.aload_n 0, 1) := by decide +kernel
theorem dL_law_313 : decode cL_law 313 = .ok (.iload 4, 2) := by decide +kernel
theorem dL_law_315 : decode cL_law 315 = .ok (.iconst 1, 1) := by decide +kernel
theorem dL_law_316 : decode cL_law 316 = .ok (.iadd, 1) := by decide +kernel
theorem dL_law_317 : decode cL_law 317 = .ok (.iaload, 1) := by decide +kernel
theorem dL_law_318 : decode cL_law 318 = .ok (.aload_n 3, 1) := by decide +kernel
theorem dL_law_319 : decode cL_law 319 = .ok (.invokestatic 109, 3) := by decide +kernel
theorem dL_law_322 : decode cL_law 322 = .ok (.istore 5, 2) := by decide +kernel
theorem dL_law_324 : decode cL_law 324 = .ok (.aload_n 2, 1) := by decide +kernel
theorem dL_law_325 : decode cL_law 325 = .ok (.aload_n 0, 1) := by decide +kernel
theorem dL_law_326 : decode cL_law 326 = .ok (.iload 4, 2) := by decide +kernel
theorem dL_law_328 : decode cL_law 328 = .ok (.iconst 1, 1) := by decide +kernel
theorem dL_law_329 : decode cL_law 329 = .ok (.iadd, 1) := by decide +kernel
theorem dL_law_330 : decode cL_law 330 = .ok (.iaload, 1) := by decide +kernel
theorem dL_law_331 : decode cL_law 331 = .ok (.invokevirtual 112, 3) := by decide +kernel
theorem dL_law_334 : decode cL_law 334 = .ok (.istore 6, 2) := by decide +kernel
theorem dL_law_336 : decode cL_law 336 = .ok (.aload_n 2, 1) := by decide +kernel
theorem dL_law_337 : decode cL_law 337 = .ok (.invokevirtual 101, 3) := by decide +kernel
theorem dL_law_340 : decode cL_law 340 = .ok (.iload 5, 2) := by decide +kernel
theorem dL_law_342 : decode cL_law 342 = .ok (.if_icmp .eq 5, 3) := by decide +kernel
theorem dL_law_345 : decode cL_law 345 = .ok (.iconst 0, 1) := by decide +kernel
theorem dL_law_346 : decode cL_law 346 = .ok (.ireturn, 1) := by decide +kernel
theorem dL_law_347 : decode cL_law 347 = .ok (.iload 5, 2) := by decide +kernel
theorem dL_law_349 : decode cL_law 349 = .ok (.ifCond .ne 22, 3) := by decide +kernel
theorem dL_law_352 : decode cL_law 352 = .ok (.aload_n 3, 1) := by decide +kernel
theorem dL_law_353 : decode cL_law 353 = .ok (.iconst 0, 1) := by decide +kernel
theorem dL_law_354 : decode cL_law 354 = .ok (.laload, 1) := by decide +kernel
theorem dL_law_355 : decode cL_law 355 = .ok (.iload 6, 2) := by decide +kernel
theorem dL_law_357 : decode cL_law 357 = .ok (.ifCond .eq 7, 3) := by decide +kernel
theorem dL_law_360 : decode cL_law 360 = .ok (.lconst 1, 1) := by decide +kernel
theorem dL_law_361 : decode cL_law 361 = .ok (.goto 4, 3) := by decide +kernel
theorem dL_law_364 : decode cL_law 364 = .ok (.lconst 0, 1) := by decide +kernel
theorem dL_law_365 : decode cL_law 365 = .ok (.lcmp, 1) := by decide +kernel
theorem dL_law_366 : decode cL_law 366 = .ok (.ifCond .eq 5, 3) := by decide +kernel
theorem dL_law_369 : decode cL_law 369 = .ok (.iconst 0, 1) := by decide +kernel
theorem dL_law_370 : decode cL_law 370 = .ok (.ireturn, 1) := by decide +kernel
theorem dL_law_371 : decode cL_law 371 = .ok (.goto 1110, 3) := by decide +kernel
theorem dL_law_374 : decode cL_law 374 = .ok (.aload_n 1, 1) := by decide +kernel
theorem dL_law_375 : decode cL_law 375 = .ok (.aload_n 0, 1) := by decide +kernel
theorem dL_law_376 : decode cL_law 376 = .ok (.iload 4, 2) := by decide +kernel
theorem dL_law_378 : decode cL_law 378 = .ok (.iconst 1, 1) := by decide +kernel
theorem dL_law_379 : decode cL_law 379 = .ok (.iadd, 1) := by decide +kernel
theorem dL_law_380 : decode cL_law 380 = .ok (.iaload, 1) := by decide +kernel
theorem dL_law_381 : decode cL_law 381 = .ok (.aload_n 3, 1) := by decide +kernel
theorem dL_law_382 : decode cL_law 382 = .ok (.invokestatic 113, 3) := by decide +kernel
theorem dL_law_385 : decode cL_law 385 = .ok (.istore 5, 2) := by decide +kernel
theorem dL_law_387 : decode cL_law 387 = .ok (.aload_n 2, 1) := by decide +kernel
theorem dL_law_388 : decode cL_law 388 = .ok (.aload_n 0, 1) := by decide +kernel
theorem dL_law_389 : decode cL_law 389 = .ok (.iload 4, 2) := by decide +kernel
theorem dL_law_391 : decode cL_law 391 = .ok (.iconst 1, 1) := by decide +kernel
theorem dL_law_392 : decode cL_law 392 = .ok (.iadd, 1) := by decide +kernel
theorem dL_law_393 : decode cL_law 393 = .ok (.iaload, 1) := by decide +kernel
theorem dL_law_394 : decode cL_law 394 = .ok (.invokevirtual 115, 3) := by decide +kernel
theorem dL_law_397 : decode cL_law 397 = .ok (.istore 6, 2) := by decide +kernel
theorem dL_law_399 : decode cL_law 399 = .ok (.aload_n 2, 1) := by decide +kernel
theorem dL_law_400 : decode cL_law 400 = .ok (.invokevirtual 101, 3) := by decide +kernel
theorem dL_law_403 : decode cL_law 403 = .ok (.iload 5, 2) := by decide +kernel
theorem dL_law_405 : decode cL_law 405 = .ok (.if_icmp .eq 5, 3) := by decide +kernel
theorem dL_law_408 : decode cL_law 408 = .ok (.iconst 0, 1) := by decide +kernel
theorem dL_law_409 : decode cL_law 409 = .ok (.ireturn, 1) := by decide +kernel
theorem dL_law_410 : decode cL_law 410 = .ok (.iload 5, 2) := by decide +kernel
theorem dL_law_412 : decode cL_law 412 = .ok (.ifCond .ne 15, 3) := by decide +kernel
theorem dL_law_415 : decode cL_law 415 = .ok (.aload_n 3, 1) := by decide +kernel
theorem dL_law_416 : decode cL_law 416 = .ok (.iconst 0, 1) := by decide +kernel
theorem dL_law_417 : decode cL_law 417 = .ok (.laload, 1) := by decide +kernel
theorem dL_law_418 : decode cL_law 418 = .ok (.iload 6, 2) := by decide +kernel
theorem dL_law_420 : decode cL_law 420 = .ok (.i2l, 1) := by decide +kernel
theorem dL_law_421 : decode cL_law 421 = .ok (.lcmp, 1) := by decide +kernel
theorem dL_law_422 : decode cL_law 422 = .ok (.ifCond .eq 5, 3) := by decide +kernel
theorem dL_law_425 : decode cL_law 425 = .ok (.iconst 0, 1) := by decide +kernel
theorem dL_law_426 : decode cL_law 426 = .ok (.ireturn, 1) := by decide +kernel
theorem dL_law_427 : decode cL_law 427 = .ok (.goto 1054, 3) := by decide +kernel
theorem dL_law_430 : decode cL_law 430 = .ok (.aload_n 1, 1) := by decide +kernel
theorem dL_law_431 : decode cL_law 431 = .ok (.aload_n 0, 1) := by decide +kernel
theorem dL_law_432 : decode cL_law 432 = .ok (.iload 4, 2) := by decide +kernel
theorem dL_law_434 : decode cL_law 434 = .ok (.iconst 1, 1) := by decide +kernel
theorem dL_law_435 : decode cL_law 435 = .ok (.iadd, 1) := by decide +kernel
theorem dL_law_436 : decode cL_law 436 = .ok (.iaload, 1) := by decide +kernel
theorem dL_law_437 : decode cL_law 437 = .ok (.aload_n 0, 1) := by decide +kernel
theorem dL_law_438 : decode cL_law 438 = .ok (.iload 4, 2) := by decide +kernel
theorem dL_law_440 : decode cL_law 440 = .ok (.iconst 2, 1) := by decide +kernel
theorem dL_law_441 : decode cL_law 441 = .ok (.iadd, 1) := by decide +kernel
theorem dL_law_442 : decode cL_law 442 = .ok (.iaload, 1) := by decide +kernel
theorem dL_law_443 : decode cL_law 443 = .ok (.aload_n 0, 1) := by decide +kernel
theorem dL_law_444 : decode cL_law 444 = .ok (.iload 4, 2) := by decide +kernel
theorem dL_law_446 : decode cL_law 446 = .ok (.iconst 3, 1) := by decide +kernel
theorem dL_law_447 : decode cL_law 447 = .ok (.iadd, 1) := by decide +kernel
theorem dL_law_448 : decode cL_law 448 = .ok (.iaload, 1) := by decide +kernel
theorem dL_law_449 : decode cL_law 449 = .ok (.invokestatic 116, 3) := by decide +kernel
theorem dL_law_452 : decode cL_law 452 = .ok (.istore 5, 2) := by decide +kernel
theorem dL_law_454 : decode cL_law 454 = .ok (.aload_n 2, 1) := by decide +kernel
theorem dL_law_455 : decode cL_law 455 = .ok (.aload_n 0, 1) := by decide +kernel
theorem dL_law_456 : decode cL_law 456 = .ok (.iload 4, 2) := by decide +kernel
theorem dL_law_458 : decode cL_law 458 = .ok (.iconst 1, 1) := by decide +kernel
theorem dL_law_459 : decode cL_law 459 = .ok (.iadd, 1) := by decide +kernel
theorem dL_law_460 : decode cL_law 460 = .ok (.iaload, 1) := by decide +kernel
theorem dL_law_461 : decode cL_law 461 = .ok (.aload_n 0, 1) := by decide +kernel
theorem dL_law_462 : decode cL_law 462 = .ok (.iload 4, 2) := by decide +kernel
theorem dL_law_464 : decode cL_law 464 = .ok (.iconst 2, 1) := by decide +kernel
theorem dL_law_465 : decode cL_law 465 = .ok (.iadd, 1) := by decide +kernel
theorem dL_law_466 : decode cL_law 466 = .ok (.iaload, 1) := by decide +kernel
theorem dL_law_467 : decode cL_law 467 = .ok (.aload_n 0, 1) := by decide +kernel
theorem dL_law_468 : decode cL_law 468 = .ok (.iload 4, 2) := by decide +kernel
theorem dL_law_470 : decode cL_law 470 = .ok (.iconst 3, 1) := by decide +kernel
theorem dL_law_471 : decode cL_law 471 = .ok (.iadd, 1) := by decide +kernel
theorem dL_law_472 : decode cL_law 472 = .ok (.iaload, 1) := by decide +kernel
theorem dL_law_473 : decode cL_law 473 = .ok (.invokevirtual 119, 3) := by decide +kernel
theorem dL_law_476 : decode cL_law 476 = .ok (.aload_n 2, 1) := by decide +kernel
theorem dL_law_477 : decode cL_law 477 = .ok (.invokevirtual 101, 3) := by decide +kernel
theorem dL_law_480 : decode cL_law 480 = .ok (.iload 5, 2) := by decide +kernel
theorem dL_law_482 : decode cL_law 482 = .ok (.if_icmp .eq 5, 3) := by decide +kernel
theorem dL_law_485 : decode cL_law 485 = .ok (.iconst 0, 1) := by decide +kernel
theorem dL_law_486 : decode cL_law 486 = .ok (.ireturn, 1) := by decide +kernel
theorem dL_law_487 : decode cL_law 487 = .ok (.goto 994, 3) := by decide +kernel
theorem dL_law_490 : decode cL_law 490 = .ok (.aload_n 1, 1) := by decide +kernel
theorem dL_law_491 : decode cL_law 491 = .ok (.aload_n 0, 1) := by decide +kernel
theorem dL_law_492 : decode cL_law 492 = .ok (.iload 4, 2) := by decide +kernel
theorem dL_law_494 : decode cL_law 494 = .ok (.iconst 1, 1) := by decide +kernel
theorem dL_law_495 : decode cL_law 495 = .ok (.iadd, 1) := by decide +kernel
theorem dL_law_496 : decode cL_law 496 = .ok (.iaload, 1) := by decide +kernel
theorem dL_law_497 : decode cL_law 497 = .ok (.aload_n 0, 1) := by decide +kernel
theorem dL_law_498 : decode cL_law 498 = .ok (.iload 4, 2) := by decide +kernel
theorem dL_law_500 : decode cL_law 500 = .ok (.iconst 2, 1) := by decide +kernel
theorem dL_law_501 : decode cL_law 501 = .ok (.iadd, 1) := by decide +kernel
theorem dL_law_502 : decode cL_law 502 = .ok (.iaload, 1) := by decide +kernel
theorem dL_law_503 : decode cL_law 503 = .ok (.aload_n 3, 1) := by decide +kernel
theorem dL_law_504 : decode cL_law 504 = .ok (.invokestatic 120, 3) := by decide +kernel
theorem dL_law_507 : decode cL_law 507 = .ok (.istore 5, 2) := by decide +kernel
theorem dL_law_509 : decode cL_law 509 = .ok (.aload_n 2, 1) := by decide +kernel
theorem dL_law_510 : decode cL_law 510 = .ok (.aload_n 0, 1) := by decide +kernel
theorem dL_law_511 : decode cL_law 511 = .ok (.iload 4, 2) := by decide +kernel
theorem dL_law_513 : decode cL_law 513 = .ok (.iconst 1, 1) := by decide +kernel
theorem dL_law_514 : decode cL_law 514 = .ok (.iadd, 1) := by decide +kernel
theorem dL_law_515 : decode cL_law 515 = .ok (.iaload, 1) := by decide +kernel
theorem dL_law_516 : decode cL_law 516 = .ok (.aload_n 0, 1) := by decide +kernel
theorem dL_law_517 : decode cL_law 517 = .ok (.iload 4, 2) := by decide +kernel
theorem dL_law_519 : decode cL_law 519 = .ok (.iconst 2, 1) := by decide +kernel
theorem dL_law_520 : decode cL_law 520 = .ok (.iadd, 1) := by decide +kernel
theorem dL_law_521 : decode cL_law 521 = .ok (.iaload, 1) := by decide +kernel
theorem dL_law_522 : decode cL_law 522 = .ok (.invokevirtual 122, 3) := by decide +kernel
theorem dL_law_525 : decode cL_law 525 = .ok (.istore 6, 2) := by decide +kernel
theorem dL_law_527 : decode cL_law 527 = .ok (.aload_n 2, 1) := by decide +kernel
theorem dL_law_528 : decode cL_law 528 = .ok (.invokevirtual 101, 3) := by decide +kernel
theorem dL_law_531 : decode cL_law 531 = .ok (.iload 5, 2) := by decide +kernel
theorem dL_law_533 : decode cL_law 533 = .ok (.if_icmp .eq 5, 3) := by decide +kernel
theorem dL_law_536 : decode cL_law 536 = .ok (.iconst 0, 1) := by decide +kernel
theorem dL_law_537 : decode cL_law 537 = .ok (.ireturn, 1) := by decide +kernel
theorem dL_law_538 : decode cL_law 538 = .ok (.iload 5, 2) := by decide +kernel
theorem dL_law_540 : decode cL_law 540 = .ok (.ifCond .ne 22, 3) := by decide +kernel
theorem dL_law_543 : decode cL_law 543 = .ok (.aload_n 3, 1) := by decide +kernel
theorem dL_law_544 : decode cL_law 544 = .ok (.iconst 0, 1) := by decide +kernel
theorem dL_law_545 : decode cL_law 545 = .ok (.laload, 1) := by decide +kernel
theorem dL_law_546 : decode cL_law 546 = .ok (.iload 6, 2) := by decide +kernel
theorem dL_law_548 : decode cL_law 548 = .ok (.ifCond .eq 7, 3) := by decide +kernel
theorem dL_law_551 : decode cL_law 551 = .ok (.lconst 1, 1) := by decide +kernel
theorem dL_law_552 : decode cL_law 552 = .ok (.goto 4, 3) := by decide +kernel
theorem dL_law_555 : decode cL_law 555 = .ok (.lconst 0, 1) := by decide +kernel
theorem dL_law_556 : decode cL_law 556 = .ok (.lcmp, 1) := by decide +kernel
theorem dL_law_557 : decode cL_law 557 = .ok (.ifCond .eq 5, 3) := by decide +kernel
theorem dL_law_560 : decode cL_law 560 = .ok (.iconst 0, 1) := by decide +kernel
theorem dL_law_561 : decode cL_law 561 = .ok (.ireturn, 1) := by decide +kernel
theorem dL_law_562 : decode cL_law 562 = .ok (.goto 919, 3) := by decide +kernel
theorem dL_law_565 : decode cL_law 565 = .ok (.aload_n 1, 1) := by decide +kernel
theorem dL_law_566 : decode cL_law 566 = .ok (.aload_n 0, 1) := by decide +kernel
theorem dL_law_567 : decode cL_law 567 = .ok (.iload 4, 2) := by decide +kernel
theorem dL_law_569 : decode cL_law 569 = .ok (.iconst 1, 1) := by decide +kernel
theorem dL_law_570 : decode cL_law 570 = .ok (.iadd, 1) := by decide +kernel
theorem dL_law_571 : decode cL_law 571 = .ok (.iaload, 1) := by decide +kernel
theorem dL_law_572 : decode cL_law 572 = .ok (.aload_n 0, 1) := by decide +kernel
theorem dL_law_573 : decode cL_law 573 = .ok (.iload 4, 2) := by decide +kernel
theorem dL_law_575 : decode cL_law 575 = .ok (.iconst 2, 1) := by decide +kernel
theorem dL_law_576 : decode cL_law 576 = .ok (.iadd, 1) := by decide +kernel
theorem dL_law_577 : decode cL_law 577 = .ok (.iaload, 1) := by decide +kernel
theorem dL_law_578 : decode cL_law 578 = .ok (.aload_n 3, 1) := by decide +kernel
theorem dL_law_579 : decode cL_law 579 = .ok (.invokestatic 123, 3) := by decide +kernel
theorem dL_law_582 : decode cL_law 582 = .ok (.istore 5, 2) := by decide +kernel
theorem dL_law_584 : decode cL_law 584 = .ok (.aload_n 2, 1) := by decide +kernel
theorem dL_law_585 : decode cL_law 585 = .ok (.aload_n 0, 1) := by decide +kernel
theorem dL_law_586 : decode cL_law 586 = .ok (.iload 4, 2) := by decide +kernel
theorem dL_law_588 : decode cL_law 588 = .ok (.iconst 1, 1) := by decide +kernel
theorem dL_law_589 : decode cL_law 589 = .ok (.iadd, 1) := by decide +kernel
theorem dL_law_590 : decode cL_law 590 = .ok (.iaload, 1) := by decide +kernel
theorem dL_law_591 : decode cL_law 591 = .ok (.aload_n 0, 1) := by decide +kernel
theorem dL_law_592 : decode cL_law 592 = .ok (.iload 4, 2) := by decide +kernel
theorem dL_law_594 : decode cL_law 594 = .ok (.iconst 2, 1) := by decide +kernel
theorem dL_law_595 : decode cL_law 595 = .ok (.iadd, 1) := by decide +kernel
theorem dL_law_596 : decode cL_law 596 = .ok (.iaload, 1) := by decide +kernel
theorem dL_law_597 : decode cL_law 597 = .ok (.invokevirtual 125, 3) := by decide +kernel
theorem dL_law_600 : decode cL_law 600 = .ok (.istore 6, 2) := by decide +kernel
theorem dL_law_602 : decode cL_law 602 = .ok (.aload_n 2, 1) := by decide +kernel
theorem dL_law_603 : decode cL_law 603 = .ok (.invokevirtual 101, 3) := by decide +kernel
theorem dL_law_606 : decode cL_law 606 = .ok (.iload 5, 2) := by decide +kernel
theorem dL_law_608 : decode cL_law 608 = .ok (.if_icmp .eq 5, 3) := by decide +kernel
theorem dL_law_611 : decode cL_law 611 = .ok (.iconst 0, 1) := by decide +kernel
theorem dL_law_612 : decode cL_law 612 = .ok (.ireturn, 1) := by decide +kernel
theorem dL_law_613 : decode cL_law 613 = .ok (.iload 5, 2) := by decide +kernel
theorem dL_law_615 : decode cL_law 615 = .ok (.ifCond .ne 22, 3) := by decide +kernel
theorem dL_law_618 : decode cL_law 618 = .ok (.aload_n 3, 1) := by decide +kernel
theorem dL_law_619 : decode cL_law 619 = .ok (.iconst 0, 1) := by decide +kernel
theorem dL_law_620 : decode cL_law 620 = .ok (.laload, 1) := by decide +kernel
theorem dL_law_621 : decode cL_law 621 = .ok (.iload 6, 2) := by decide +kernel
theorem dL_law_623 : decode cL_law 623 = .ok (.ifCond .eq 7, 3) := by decide +kernel
theorem dL_law_626 : decode cL_law 626 = .ok (.lconst 1, 1) := by decide +kernel
theorem dL_law_627 : decode cL_law 627 = .ok (.goto 4, 3) := by decide +kernel
theorem dL_law_630 : decode cL_law 630 = .ok (.lconst 0, 1) := by decide +kernel
theorem dL_law_631 : decode cL_law 631 = .ok (.lcmp, 1) := by decide +kernel
theorem dL_law_632 : decode cL_law 632 = .ok (.ifCond .eq 5, 3) := by decide +kernel
theorem dL_law_635 : decode cL_law 635 = .ok (.iconst 0, 1) := by decide +kernel
theorem dL_law_636 : decode cL_law 636 = .ok (.ireturn, 1) := by decide +kernel
theorem dL_law_637 : decode cL_law 637 = .ok (.goto 844, 3) := by decide +kernel
theorem dL_law_640 : decode cL_law 640 = .ok (.aload_n 1, 1) := by decide +kernel
theorem dL_law_641 : decode cL_law 641 = .ok (.aload_n 0, 1) := by decide +kernel
theorem dL_law_642 : decode cL_law 642 = .ok (.iload 4, 2) := by decide +kernel
theorem dL_law_644 : decode cL_law 644 = .ok (.iconst 1, 1) := by decide +kernel
theorem dL_law_645 : decode cL_law 645 = .ok (.iadd, 1) := by decide +kernel
theorem dL_law_646 : decode cL_law 646 = .ok (.iaload, 1) := by decide +kernel
theorem dL_law_647 : decode cL_law 647 = .ok (.aload_n 3, 1) := by decide +kernel
theorem dL_law_648 : decode cL_law 648 = .ok (.invokestatic 126, 3) := by decide +kernel
theorem dL_law_651 : decode cL_law 651 = .ok (.istore 5, 2) := by decide +kernel
theorem dL_law_653 : decode cL_law 653 = .ok (.aload_n 2, 1) := by decide +kernel
theorem dL_law_654 : decode cL_law 654 = .ok (.aload_n 0, 1) := by decide +kernel
theorem dL_law_655 : decode cL_law 655 = .ok (.iload 4, 2) := by decide +kernel
theorem dL_law_657 : decode cL_law 657 = .ok (.iconst 1, 1) := by decide +kernel
theorem dL_law_658 : decode cL_law 658 = .ok (.iadd, 1) := by decide +kernel
theorem dL_law_659 : decode cL_law 659 = .ok (.iaload, 1) := by decide +kernel
theorem dL_law_660 : decode cL_law 660 = .ok (.invokevirtual 128, 3) := by decide +kernel
theorem dL_law_663 : decode cL_law 663 = .ok (.istore 6, 2) := by decide +kernel
theorem dL_law_665 : decode cL_law 665 = .ok (.aload_n 2, 1) := by decide +kernel
theorem dL_law_666 : decode cL_law 666 = .ok (.invokevirtual 101, 3) := by decide +kernel
theorem dL_law_669 : decode cL_law 669 = .ok (.iload 5, 2) := by decide +kernel
theorem dL_law_671 : decode cL_law 671 = .ok (.if_icmp .eq 5, 3) := by decide +kernel
theorem dL_law_674 : decode cL_law 674 = .ok (.iconst 0, 1) := by decide +kernel
theorem dL_law_675 : decode cL_law 675 = .ok (.ireturn, 1) := by decide +kernel
theorem dL_law_676 : decode cL_law 676 = .ok (.iload 5, 2) := by decide +kernel
theorem dL_law_678 : decode cL_law 678 = .ok (.ifCond .ne 15, 3) := by decide +kernel
theorem dL_law_681 : decode cL_law 681 = .ok (.aload_n 3, 1) := by decide +kernel
theorem dL_law_682 : decode cL_law 682 = .ok (.iconst 0, 1) := by decide +kernel
theorem dL_law_683 : decode cL_law 683 = .ok (.laload, 1) := by decide +kernel
theorem dL_law_684 : decode cL_law 684 = .ok (.iload 6, 2) := by decide +kernel
theorem dL_law_686 : decode cL_law 686 = .ok (.i2l, 1) := by decide +kernel
theorem dL_law_687 : decode cL_law 687 = .ok (.lcmp, 1) := by decide +kernel
theorem dL_law_688 : decode cL_law 688 = .ok (.ifCond .eq 5, 3) := by decide +kernel
theorem dL_law_691 : decode cL_law 691 = .ok (.iconst 0, 1) := by decide +kernel
theorem dL_law_692 : decode cL_law 692 = .ok (.ireturn, 1) := by decide +kernel
theorem dL_law_693 : decode cL_law 693 = .ok (.goto 788, 3) := by decide +kernel
theorem dL_law_696 : decode cL_law 696 = .ok (.aload_n 1, 1) := by decide +kernel
theorem dL_law_697 : decode cL_law 697 = .ok (.aload_n 0, 1) := by decide +kernel
theorem dL_law_698 : decode cL_law 698 = .ok (.iload 4, 2) := by decide +kernel
theorem dL_law_700 : decode cL_law 700 = .ok (.iconst 1, 1) := by decide +kernel
theorem dL_law_701 : decode cL_law 701 = .ok (.iadd, 1) := by decide +kernel
theorem dL_law_702 : decode cL_law 702 = .ok (.iaload, 1) := by decide +kernel
theorem dL_law_703 : decode cL_law 703 = .ok (.aload_n 0, 1) := by decide +kernel
theorem dL_law_704 : decode cL_law 704 = .ok (.iload 4, 2) := by decide +kernel
theorem dL_law_706 : decode cL_law 706 = .ok (.iconst 2, 1) := by decide +kernel
theorem dL_law_707 : decode cL_law 707 = .ok (.iadd, 1) := by decide +kernel
theorem dL_law_708 : decode cL_law 708 = .ok (.iaload, 1) := by decide +kernel
theorem dL_law_709 : decode cL_law 709 = .ok (.aload_n 3, 1) := by decide +kernel
theorem dL_law_710 : decode cL_law 710 = .ok (.invokestatic 129, 3) := by decide +kernel
theorem dL_law_713 : decode cL_law 713 = .ok (.istore 5, 2) := by decide +kernel
theorem dL_law_715 : decode cL_law 715 = .ok (.aload_n 2, 1) := by decide +kernel
theorem dL_law_716 : decode cL_law 716 = .ok (.aload_n 0, 1) := by decide +kernel
theorem dL_law_717 : decode cL_law 717 = .ok (.iload 4, 2) := by decide +kernel
theorem dL_law_719 : decode cL_law 719 = .ok (.iconst 1, 1) := by decide +kernel
theorem dL_law_720 : decode cL_law 720 = .ok (.iadd, 1) := by decide +kernel
theorem dL_law_721 : decode cL_law 721 = .ok (.iaload, 1) := by decide +kernel
theorem dL_law_722 : decode cL_law 722 = .ok (.aload_n 0, 1) := by decide +kernel
theorem dL_law_723 : decode cL_law 723 = .ok (.iload 4, 2) := by decide +kernel
theorem dL_law_725 : decode cL_law 725 = .ok (.iconst 2, 1) := by decide +kernel
theorem dL_law_726 : decode cL_law 726 = .ok (.iadd, 1) := by decide +kernel
theorem dL_law_727 : decode cL_law 727 = .ok (.iaload, 1) := by decide +kernel
theorem dL_law_728 : decode cL_law 728 = .ok (.invokevirtual 131, 3) := by decide +kernel
theorem dL_law_731 : decode cL_law 731 = .ok (.istore 6, 2) := by decide +kernel
theorem dL_law_733 : decode cL_law 733 = .ok (.aload_n 2, 1) := by decide +kernel
theorem dL_law_734 : decode cL_law 734 = .ok (.invokevirtual 101, 3) := by decide +kernel
theorem dL_law_737 : decode cL_law 737 = .ok (.iload 5, 2) := by decide +kernel
theorem dL_law_739 : decode cL_law 739 = .ok (.if_icmp .eq 5, 3) := by decide +kernel
theorem dL_law_742 : decode cL_law 742 = .ok (.iconst 0, 1) := by decide +kernel
theorem dL_law_743 : decode cL_law 743 = .ok (.ireturn, 1) := by decide +kernel
theorem dL_law_744 : decode cL_law 744 = .ok (.iload 5, 2) := by decide +kernel
theorem dL_law_746 : decode cL_law 746 = .ok (.ifCond .ne 15, 3) := by decide +kernel
theorem dL_law_749 : decode cL_law 749 = .ok (.aload_n 3, 1) := by decide +kernel
theorem dL_law_750 : decode cL_law 750 = .ok (.iconst 0, 1) := by decide +kernel
theorem dL_law_751 : decode cL_law 751 = .ok (.laload, 1) := by decide +kernel
theorem dL_law_752 : decode cL_law 752 = .ok (.iload 6, 2) := by decide +kernel
theorem dL_law_754 : decode cL_law 754 = .ok (.i2l, 1) := by decide +kernel
theorem dL_law_755 : decode cL_law 755 = .ok (.lcmp, 1) := by decide +kernel
theorem dL_law_756 : decode cL_law 756 = .ok (.ifCond .eq 5, 3) := by decide +kernel
theorem dL_law_759 : decode cL_law 759 = .ok (.iconst 0, 1) := by decide +kernel
theorem dL_law_760 : decode cL_law 760 = .ok (.ireturn, 1) := by decide +kernel
theorem dL_law_761 : decode cL_law 761 = .ok (.goto 720, 3) := by decide +kernel
theorem dL_law_764 : decode cL_law 764 = .ok (.aload_n 1, 1) := by decide +kernel
theorem dL_law_765 : decode cL_law 765 = .ok (.aload_n 0, 1) := by decide +kernel
theorem dL_law_766 : decode cL_law 766 = .ok (.iload 4, 2) := by decide +kernel
theorem dL_law_768 : decode cL_law 768 = .ok (.iconst 1, 1) := by decide +kernel
theorem dL_law_769 : decode cL_law 769 = .ok (.iadd, 1) := by decide +kernel
theorem dL_law_770 : decode cL_law 770 = .ok (.iaload, 1) := by decide +kernel
theorem dL_law_771 : decode cL_law 771 = .ok (.aload_n 0, 1) := by decide +kernel
theorem dL_law_772 : decode cL_law 772 = .ok (.iload 4, 2) := by decide +kernel
theorem dL_law_774 : decode cL_law 774 = .ok (.iconst 2, 1) := by decide +kernel
theorem dL_law_775 : decode cL_law 775 = .ok (.iadd, 1) := by decide +kernel
theorem dL_law_776 : decode cL_law 776 = .ok (.iaload, 1) := by decide +kernel
theorem dL_law_777 : decode cL_law 777 = .ok (.ifCond .eq 7, 3) := by decide +kernel
theorem dL_law_780 : decode cL_law 780 = .ok (.iconst 1, 1) := by decide +kernel
theorem dL_law_781 : decode cL_law 781 = .ok (.goto 4, 3) := by decide +kernel
theorem dL_law_784 : decode cL_law 784 = .ok (.iconst 0, 1) := by decide +kernel
theorem dL_law_785 : decode cL_law 785 = .ok (.aload_n 3, 1) := by decide +kernel
theorem dL_law_786 : decode cL_law 786 = .ok (.invokestatic 132, 3) := by decide +kernel
theorem dL_law_789 : decode cL_law 789 = .ok (.istore 5, 2) := by decide +kernel
theorem dL_law_791 : decode cL_law 791 = .ok (.aload_n 2, 1) := by decide +kernel
theorem dL_law_792 : decode cL_law 792 = .ok (.aload_n 0, 1) := by decide +kernel
theorem dL_law_793 : decode cL_law 793 = .ok (.iload 4, 2) := by decide +kernel
theorem dL_law_795 : decode cL_law 795 = .ok (.iconst 1, 1) := by decide +kernel
theorem dL_law_796 : decode cL_law 796 = .ok (.iadd, 1) := by decide +kernel
theorem dL_law_797 : decode cL_law 797 = .ok (.iaload, 1) := by decide +kernel
theorem dL_law_798 : decode cL_law 798 = .ok (.aload_n 0, 1) := by decide +kernel
theorem dL_law_799 : decode cL_law 799 = .ok (.iload 4, 2) := by decide +kernel
theorem dL_law_801 : decode cL_law 801 = .ok (.iconst 2, 1) := by decide +kernel
theorem dL_law_802 : decode cL_law 802 = .ok (.iadd, 1) := by decide +kernel
theorem dL_law_803 : decode cL_law 803 = .ok (.iaload, 1) := by decide +kernel
theorem dL_law_804 : decode cL_law 804 = .ok (.ifCond .eq 7, 3) := by decide +kernel
theorem dL_law_807 : decode cL_law 807 = .ok (.iconst 1, 1) := by decide +kernel
theorem dL_law_808 : decode cL_law 808 = .ok (.goto 4, 3) := by decide +kernel
theorem dL_law_811 : decode cL_law 811 = .ok (.iconst 0, 1) := by decide +kernel
theorem dL_law_812 : decode cL_law 812 = .ok (.invokevirtual 135, 3) := by decide +kernel
theorem dL_law_815 : decode cL_law 815 = .ok (.istore 6, 2) := by decide +kernel
theorem dL_law_817 : decode cL_law 817 = .ok (.aload_n 2, 1) := by decide +kernel
theorem dL_law_818 : decode cL_law 818 = .ok (.invokevirtual 101, 3) := by decide +kernel
theorem dL_law_821 : decode cL_law 821 = .ok (.iload 5, 2) := by decide +kernel
theorem dL_law_823 : decode cL_law 823 = .ok (.if_icmp .eq 5, 3) := by decide +kernel
theorem dL_law_826 : decode cL_law 826 = .ok (.iconst 0, 1) := by decide +kernel
theorem dL_law_827 : decode cL_law 827 = .ok (.ireturn, 1) := by decide +kernel
theorem dL_law_828 : decode cL_law 828 = .ok (.iload 5, 2) := by decide +kernel
theorem dL_law_830 : decode cL_law 830 = .ok (.ifCond .ne 15, 3) := by decide +kernel
theorem dL_law_833 : decode cL_law 833 = .ok (.aload_n 3, 1) := by decide +kernel
theorem dL_law_834 : decode cL_law 834 = .ok (.iconst 0, 1) := by decide +kernel
theorem dL_law_835 : decode cL_law 835 = .ok (.laload, 1) := by decide +kernel
theorem dL_law_836 : decode cL_law 836 = .ok (.iload 6, 2) := by decide +kernel
theorem dL_law_838 : decode cL_law 838 = .ok (.i2l, 1) := by decide +kernel
theorem dL_law_839 : decode cL_law 839 = .ok (.lcmp, 1) := by decide +kernel
theorem dL_law_840 : decode cL_law 840 = .ok (.ifCond .eq 5, 3) := by decide +kernel
theorem dL_law_843 : decode cL_law 843 = .ok (.iconst 0, 1) := by decide +kernel
theorem dL_law_844 : decode cL_law 844 = .ok (.ireturn, 1) := by decide +kernel
theorem dL_law_845 : decode cL_law 845 = .ok (.goto 636, 3) := by decide +kernel
theorem dL_law_848 : decode cL_law 848 = .ok (.aload_n 1, 1) := by decide +kernel
theorem dL_law_849 : decode cL_law 849 = .ok (.aload_n 0, 1) := by decide +kernel
theorem dL_law_850 : decode cL_law 850 = .ok (.iload 4, 2) := by decide +kernel
theorem dL_law_852 : decode cL_law 852 = .ok (.iconst 1, 1) := by decide +kernel
theorem dL_law_853 : decode cL_law 853 = .ok (.iadd, 1) := by decide +kernel
theorem dL_law_854 : decode cL_law 854 = .ok (.iaload, 1) := by decide +kernel
theorem dL_law_855 : decode cL_law 855 = .ok (.ifCond .eq 7, 3) := by decide +kernel
theorem dL_law_858 : decode cL_law 858 = .ok (.iconst 1, 1) := by decide +kernel
theorem dL_law_859 : decode cL_law 859 = .ok (.goto 4, 3) := by decide +kernel
theorem dL_law_862 : decode cL_law 862 = .ok (.iconst 0, 1) := by decide +kernel
theorem dL_law_863 : decode cL_law 863 = .ok (.aload_n 0, 1) := by decide +kernel
theorem dL_law_864 : decode cL_law 864 = .ok (.iload 4, 2) := by decide +kernel
theorem dL_law_866 : decode cL_law 866 = .ok (.iconst 2, 1) := by decide +kernel
theorem dL_law_867 : decode cL_law 867 = .ok (.iadd, 1) := by decide +kernel
theorem dL_law_868 : decode cL_law 868 = .ok (.iaload, 1) := by decide +kernel
theorem dL_law_869 : decode cL_law 869 = .ok (.aload_n 0, 1) := by decide +kernel
theorem dL_law_870 : decode cL_law 870 = .ok (.iload 4, 2) := by decide +kernel
theorem dL_law_872 : decode cL_law 872 = .ok (.iconst 3, 1) := by decide +kernel
theorem dL_law_873 : decode cL_law 873 = .ok (.iadd, 1) := by decide +kernel
theorem dL_law_874 : decode cL_law 874 = .ok (.iaload, 1) := by decide +kernel
theorem dL_law_875 : decode cL_law 875 = .ok (.invokevirtual 136, 3) := by decide +kernel
theorem dL_law_878 : decode cL_law 878 = .ok (.aload_n 2, 1) := by decide +kernel
theorem dL_law_879 : decode cL_law 879 = .ok (.aload_n 0, 1) := by decide +kernel
theorem dL_law_880 : decode cL_law 880 = .ok (.iload 4, 2) := by decide +kernel
theorem dL_law_882 : decode cL_law 882 = .ok (.iconst 1, 1) := by decide +kernel
theorem dL_law_883 : decode cL_law 883 = .ok (.iadd, 1) := by decide +kernel
theorem dL_law_884 : decode cL_law 884 = .ok (.iaload, 1) := by decide +kernel
theorem dL_law_885 : decode cL_law 885 = .ok (.ifCond .eq 7, 3) := by decide +kernel
theorem dL_law_888 : decode cL_law 888 = .ok (.iconst 1, 1) := by decide +kernel
theorem dL_law_889 : decode cL_law 889 = .ok (.goto 4, 3) := by decide +kernel
theorem dL_law_892 : decode cL_law 892 = .ok (.iconst 0, 1) := by decide +kernel
theorem dL_law_893 : decode cL_law 893 = .ok (.aload_n 0, 1) := by decide +kernel
theorem dL_law_894 : decode cL_law 894 = .ok (.iload 4, 2) := by decide +kernel
theorem dL_law_896 : decode cL_law 896 = .ok (.iconst 2, 1) := by decide +kernel
theorem dL_law_897 : decode cL_law 897 = .ok (.iadd, 1) := by decide +kernel
theorem dL_law_898 : decode cL_law 898 = .ok (.iaload, 1) := by decide +kernel
theorem dL_law_899 : decode cL_law 899 = .ok (.aload_n 0, 1) := by decide +kernel
theorem dL_law_900 : decode cL_law 900 = .ok (.iload 4, 2) := by decide +kernel
theorem dL_law_902 : decode cL_law 902 = .ok (.iconst 3, 1) := by decide +kernel
theorem dL_law_903 : decode cL_law 903 = .ok (.iadd, 1) := by decide +kernel
theorem dL_law_904 : decode cL_law 904 = .ok (.iaload, 1) := by decide +kernel
theorem dL_law_905 : decode cL_law 905 = .ok (.invokevirtual 140, 3) := by decide +kernel
theorem dL_law_908 : decode cL_law 908 = .ok (.if_icmp .eq 573, 3) := by decide +kernel
theorem dL_law_911 : decode cL_law 911 = .ok (.iconst 0, 1) := by decide +kernel
theorem dL_law_912 : decode cL_law 912 = .ok (.ireturn, 1) := by decide +kernel
theorem dL_law_913 : decode cL_law 913 = .ok (.aload_n 1, 1) := by decide +kernel
theorem dL_law_914 : decode cL_law 914 = .ok (.aload_n 0, 1) := by decide +kernel
theorem dL_law_915 : decode cL_law 915 = .ok (.iload 4, 2) := by decide +kernel
theorem dL_law_917 : decode cL_law 917 = .ok (.iconst 1, 1) := by decide +kernel
theorem dL_law_918 : decode cL_law 918 = .ok (.iadd, 1) := by decide +kernel
theorem dL_law_919 : decode cL_law 919 = .ok (.iaload, 1) := by decide +kernel
theorem dL_law_920 : decode cL_law 920 = .ok (.invokestatic 141, 3) := by decide +kernel
theorem dL_law_923 : decode cL_law 923 = .ok (.istore 5, 2) := by decide +kernel
theorem dL_law_925 : decode cL_law 925 = .ok (.aload_n 2, 1) := by decide +kernel
theorem dL_law_926 : decode cL_law 926 = .ok (.aload_n 0, 1) := by decide +kernel
theorem dL_law_927 : decode cL_law 927 = .ok (.iload 4, 2) := by decide +kernel
theorem dL_law_929 : decode cL_law 929 = .ok (.iconst 1, 1) := by decide +kernel
theorem dL_law_930 : decode cL_law 930 = .ok (.iadd, 1) := by decide +kernel
theorem dL_law_931 : decode cL_law 931 = .ok (.iaload, 1) := by decide +kernel
theorem dL_law_932 : decode cL_law 932 = .ok (.invokevirtual 144, 3) := by decide +kernel
theorem dL_law_935 : decode cL_law 935 = .ok (.aload_n 2, 1) := by decide +kernel
theorem dL_law_936 : decode cL_law 936 = .ok (.invokevirtual 101, 3) := by decide +kernel
theorem dL_law_939 : decode cL_law 939 = .ok (.iload 5, 2) := by decide +kernel
theorem dL_law_941 : decode cL_law 941 = .ok (.if_icmp .eq 5, 3) := by decide +kernel
theorem dL_law_944 : decode cL_law 944 = .ok (.iconst 0, 1) := by decide +kernel
theorem dL_law_945 : decode cL_law 945 = .ok (.ireturn, 1) := by decide +kernel
theorem dL_law_946 : decode cL_law 946 = .ok (.goto 535, 3) := by decide +kernel
theorem dL_law_949 : decode cL_law 949 = .ok (.aload_n 1, 1) := by decide +kernel
theorem dL_law_950 : decode cL_law 950 = .ok (.aload_n 0, 1) := by decide +kernel
theorem dL_law_951 : decode cL_law 951 = .ok (.iload 4, 2) := by decide +kernel
theorem dL_law_953 : decode cL_law 953 = .ok (.iconst 1, 1) := by decide +kernel
theorem dL_law_954 : decode cL_law 954 = .ok (.iadd, 1) := by decide +kernel
theorem dL_law_955 : decode cL_law 955 = .ok (.iaload, 1) := by decide +kernel
theorem dL_law_956 : decode cL_law 956 = .ok (.invokestatic 145, 3) := by decide +kernel
theorem dL_law_959 : decode cL_law 959 = .ok (.istore 5, 2) := by decide +kernel
theorem dL_law_961 : decode cL_law 961 = .ok (.aload_n 2, 1) := by decide +kernel
theorem dL_law_962 : decode cL_law 962 = .ok (.aload_n 0, 1) := by decide +kernel
theorem dL_law_963 : decode cL_law 963 = .ok (.iload 4, 2) := by decide +kernel
theorem dL_law_965 : decode cL_law 965 = .ok (.iconst 1, 1) := by decide +kernel
theorem dL_law_966 : decode cL_law 966 = .ok (.iadd, 1) := by decide +kernel
theorem dL_law_967 : decode cL_law 967 = .ok (.iaload, 1) := by decide +kernel
theorem dL_law_968 : decode cL_law 968 = .ok (.invokevirtual 147, 3) := by decide +kernel
theorem dL_law_971 : decode cL_law 971 = .ok (.aload_n 2, 1) := by decide +kernel
theorem dL_law_972 : decode cL_law 972 = .ok (.invokevirtual 101, 3) := by decide +kernel
theorem dL_law_975 : decode cL_law 975 = .ok (.iload 5, 2) := by decide +kernel
theorem dL_law_977 : decode cL_law 977 = .ok (.if_icmp .eq 5, 3) := by decide +kernel
theorem dL_law_980 : decode cL_law 980 = .ok (.iconst 0, 1) := by decide +kernel
theorem dL_law_981 : decode cL_law 981 = .ok (.ireturn, 1) := by decide +kernel
theorem dL_law_982 : decode cL_law 982 = .ok (.goto 499, 3) := by decide +kernel
theorem dL_law_985 : decode cL_law 985 = .ok (.aload_n 1, 1) := by decide +kernel
theorem dL_law_986 : decode cL_law 986 = .ok (.invokevirtual 148, 3) := by decide +kernel
theorem dL_law_989 : decode cL_law 989 = .ok (.aload_n 2, 1) := by decide +kernel
theorem dL_law_990 : decode cL_law 990 = .ok (.invokevirtual 152, 3) := by decide +kernel
theorem dL_law_993 : decode cL_law 993 = .ok (.if_icmp .eq 488, 3) := by decide +kernel
theorem dL_law_996 : decode cL_law 996 = .ok (.iconst 0, 1) := by decide +kernel
theorem dL_law_997 : decode cL_law 997 = .ok (.ireturn, 1) := by decide +kernel
theorem dL_law_998 : decode cL_law 998 = .ok (.aload_n 1, 1) := by decide +kernel
theorem dL_law_999 : decode cL_law 999 = .ok (.aload_n 0, 1) := by decide +kernel
theorem dL_law_1000 : decode cL_law 1000 = .ok (.iload 4, 2) := by decide +kernel
theorem dL_law_1002 : decode cL_law 1002 = .ok (.iconst 1, 1) := by decide +kernel
theorem dL_law_1003 : decode cL_law 1003 = .ok (.iadd, 1) := by decide +kernel
theorem dL_law_1004 : decode cL_law 1004 = .ok (.iaload, 1) := by decide +kernel
theorem dL_law_1005 : decode cL_law 1005 = .ok (.aload_n 0, 1) := by decide +kernel
theorem dL_law_1006 : decode cL_law 1006 = .ok (.iload 4, 2) := by decide +kernel
theorem dL_law_1008 : decode cL_law 1008 = .ok (.iconst 2, 1) := by decide +kernel
theorem dL_law_1009 : decode cL_law 1009 = .ok (.iadd, 1) := by decide +kernel
theorem dL_law_1010 : decode cL_law 1010 = .ok (.iaload, 1) := by decide +kernel
theorem dL_law_1011 : decode cL_law 1011 = .ok (.aload_n 0, 1) := by decide +kernel
theorem dL_law_1012 : decode cL_law 1012 = .ok (.iload 4, 2) := by decide +kernel
theorem dL_law_1014 : decode cL_law 1014 = .ok (.iconst 3, 1) := by decide +kernel
theorem dL_law_1015 : decode cL_law 1015 = .ok (.iadd, 1) := by decide +kernel
theorem dL_law_1016 : decode cL_law 1016 = .ok (.iaload, 1) := by decide +kernel
theorem dL_law_1017 : decode cL_law 1017 = .ok (.aload_n 0, 1) := by decide +kernel
theorem dL_law_1018 : decode cL_law 1018 = .ok (.iload 4, 2) := by decide +kernel
theorem dL_law_1020 : decode cL_law 1020 = .ok (.iconst 4, 1) := by decide +kernel
theorem dL_law_1021 : decode cL_law 1021 = .ok (.iadd, 1) := by decide +kernel
theorem dL_law_1022 : decode cL_law 1022 = .ok (.iaload, 1) := by decide +kernel
theorem dL_law_1023 : decode cL_law 1023 = .ok (.aload_n 3, 1) := by decide +kernel
theorem dL_law_1024 : decode cL_law 1024 = .ok (.invokestatic 153, 3) := by decide +kernel
theorem dL_law_1027 : decode cL_law 1027 = .ok (.istore 5, 2) := by decide +kernel
theorem dL_law_1029 : decode cL_law 1029 = .ok (.aload_n 2, 1) := by decide +kernel
theorem dL_law_1030 : decode cL_law 1030 = .ok (.aload_n 0, 1) := by decide +kernel
theorem dL_law_1031 : decode cL_law 1031 = .ok (.iload 4, 2) := by decide +kernel
theorem dL_law_1033 : decode cL_law 1033 = .ok (.iconst 1, 1) := by decide +kernel
theorem dL_law_1034 : decode cL_law 1034 = .ok (.iadd, 1) := by decide +kernel
theorem dL_law_1035 : decode cL_law 1035 = .ok (.iaload, 1) := by decide +kernel
theorem dL_law_1036 : decode cL_law 1036 = .ok (.aload_n 0, 1) := by decide +kernel
theorem dL_law_1037 : decode cL_law 1037 = .ok (.iload 4, 2) := by decide +kernel
theorem dL_law_1039 : decode cL_law 1039 = .ok (.iconst 2, 1) := by decide +kernel
theorem dL_law_1040 : decode cL_law 1040 = .ok (.iadd, 1) := by decide +kernel
theorem dL_law_1041 : decode cL_law 1041 = .ok (.iaload, 1) := by decide +kernel
theorem dL_law_1042 : decode cL_law 1042 = .ok (.aload_n 0, 1) := by decide +kernel
theorem dL_law_1043 : decode cL_law 1043 = .ok (.iload 4, 2) := by decide +kernel
theorem dL_law_1045 : decode cL_law 1045 = .ok (.iconst 3, 1) := by decide +kernel
theorem dL_law_1046 : decode cL_law 1046 = .ok (.iadd, 1) := by decide +kernel
theorem dL_law_1047 : decode cL_law 1047 = .ok (.iaload, 1) := by decide +kernel
theorem dL_law_1048 : decode cL_law 1048 = .ok (.aload_n 0, 1) := by decide +kernel
theorem dL_law_1049 : decode cL_law 1049 = .ok (.iload 4, 2) := by decide +kernel
theorem dL_law_1051 : decode cL_law 1051 = .ok (.iconst 4, 1) := by decide +kernel
theorem dL_law_1052 : decode cL_law 1052 = .ok (.iadd, 1) := by decide +kernel
theorem dL_law_1053 : decode cL_law 1053 = .ok (.iaload, 1) := by decide +kernel
theorem dL_law_1054 : decode cL_law 1054 = .ok (.invokevirtual 156, 3) := by decide +kernel
theorem dL_law_1057 : decode cL_law 1057 = .ok (.istore 6, 2) := by decide +kernel
theorem dL_law_1059 : decode cL_law 1059 = .ok (.aload_n 2, 1) := by decide +kernel
theorem dL_law_1060 : decode cL_law 1060 = .ok (.invokevirtual 101, 3) := by decide +kernel
theorem dL_law_1063 : decode cL_law 1063 = .ok (.iload 5, 2) := by decide +kernel
theorem dL_law_1065 : decode cL_law 1065 = .ok (.if_icmp .eq 5, 3) := by decide +kernel
theorem dL_law_1068 : decode cL_law 1068 = .ok (.iconst 0, 1) := by decide +kernel
theorem dL_law_1069 : decode cL_law 1069 = .ok (.ireturn, 1) := by decide +kernel
theorem dL_law_1070 : decode cL_law 1070 = .ok (.iload 5, 2) := by decide +kernel
theorem dL_law_1072 : decode cL_law 1072 = .ok (.ifCond .ne 15, 3) := by decide +kernel
theorem dL_law_1075 : decode cL_law 1075 = .ok (.aload_n 3, 1) := by decide +kernel
theorem dL_law_1076 : decode cL_law 1076 = .ok (.iconst 0, 1) := by decide +kernel
theorem dL_law_1077 : decode cL_law 1077 = .ok (.laload, 1) := by decide +kernel
theorem dL_law_1078 : decode cL_law 1078 = .ok (.iload 6, 2) := by decide +kernel
theorem dL_law_1080 : decode cL_law 1080 = .ok (.i2l, 1) := by decide +kernel
theorem dL_law_1081 : decode cL_law 1081 = .ok (.lcmp, 1) := by decide +kernel
theorem dL_law_1082 : decode cL_law 1082 = .ok (.ifCond .eq 5, 3) := by decide +kernel
theorem dL_law_1085 : decode cL_law 1085 = .ok (.iconst 0, 1) := by decide +kernel
theorem dL_law_1086 : decode cL_law 1086 = .ok (.ireturn, 1) := by decide +kernel
theorem dL_law_1087 : decode cL_law 1087 = .ok (.goto 394, 3) := by decide +kernel
theorem dL_law_1090 : decode cL_law 1090 = .ok (.aload_n 1, 1) := by decide +kernel
theorem dL_law_1091 : decode cL_law 1091 = .ok (.invokestatic 157, 3) := by decide +kernel
theorem dL_law_1094 : decode cL_law 1094 = .ok (.istore 5, 2) := by decide +kernel
theorem dL_law_1096 : decode cL_law 1096 = .ok (.aload_n 2, 1) := by decide +kernel
theorem dL_law_1097 : decode cL_law 1097 = .ok (.invokevirtual 160, 3) := by decide +kernel
theorem dL_law_1100 : decode cL_law 1100 = .ok (.aload_n 2, 1) := by decide +kernel
theorem dL_law_1101 : decode cL_law 1101 = .ok (.invokevirtual 101, 3) := by decide +kernel
theorem dL_law_1104 : decode cL_law 1104 = .ok (.iload 5, 2) := by decide +kernel
theorem dL_law_1106 : decode cL_law 1106 = .ok (.if_icmp .eq 5, 3) := by decide +kernel
theorem dL_law_1109 : decode cL_law 1109 = .ok (.iconst 0, 1) := by decide +kernel
theorem dL_law_1110 : decode cL_law 1110 = .ok (.ireturn, 1) := by decide +kernel
theorem dL_law_1111 : decode cL_law 1111 = .ok (.goto 370, 3) := by decide +kernel
theorem dL_law_1114 : decode cL_law 1114 = .ok (.aload_n 1, 1) := by decide +kernel
theorem dL_law_1115 : decode cL_law 1115 = .ok (.aload_n 0, 1) := by decide +kernel
theorem dL_law_1116 : decode cL_law 1116 = .ok (.iload 4, 2) := by decide +kernel
theorem dL_law_1118 : decode cL_law 1118 = .ok (.iconst 1, 1) := by decide +kernel
theorem dL_law_1119 : decode cL_law 1119 = .ok (.iadd, 1) := by decide +kernel
theorem dL_law_1120 : decode cL_law 1120 = .ok (.iaload, 1) := by decide +kernel
theorem dL_law_1121 : decode cL_law 1121 = .ok (.aload_n 0, 1) := by decide +kernel
theorem dL_law_1122 : decode cL_law 1122 = .ok (.iload 4, 2) := by decide +kernel
theorem dL_law_1124 : decode cL_law 1124 = .ok (.iconst 2, 1) := by decide +kernel
theorem dL_law_1125 : decode cL_law 1125 = .ok (.iadd, 1) := by decide +kernel
theorem dL_law_1126 : decode cL_law 1126 = .ok (.iaload, 1) := by decide +kernel
theorem dL_law_1127 : decode cL_law 1127 = .ok (.i2l, 1) := by decide +kernel
theorem dL_law_1128 : decode cL_law 1128 = .ok (.bipush 32, 2) := by decide +kernel
theorem dL_law_1130 : decode cL_law 1130 = .ok (.lshl, 1) := by decide +kernel
theorem dL_law_1131 : decode cL_law 1131 = .ok (.aload_n 0, 1) := by decide +kernel
theorem dL_law_1132 : decode cL_law 1132 = .ok (.iload 4, 2) := by decide +kernel
theorem dL_law_1134 : decode cL_law 1134 = .ok (.iconst 3, 1) := by decide +kernel
theorem dL_law_1135 : decode cL_law 1135 = .ok (.iadd, 1) := by decide +kernel
theorem dL_law_1136 : decode cL_law 1136 = .ok (.iaload, 1) := by decide +kernel
theorem dL_law_1137 : decode cL_law 1137 = .ok (.i2l, 1) := by decide +kernel
theorem dL_law_1138 : decode cL_law 1138 = .ok (.ldc2_w 93, 3) := by decide +kernel
theorem dL_law_1141 : decode cL_law 1141 = .ok (.land, 1) := by decide +kernel
theorem dL_law_1142 : decode cL_law 1142 = .ok (.lor, 1) := by decide +kernel
theorem dL_law_1143 : decode cL_law 1143 = .ok (.aload_n 3, 1) := by decide +kernel
theorem dL_law_1144 : decode cL_law 1144 = .ok (.invokestatic 161, 3) := by decide +kernel
theorem dL_law_1147 : decode cL_law 1147 = .ok (.istore 5, 2) := by decide +kernel
theorem dL_law_1149 : decode cL_law 1149 = .ok (.aload_n 2, 1) := by decide +kernel
theorem dL_law_1150 : decode cL_law 1150 = .ok (.aload_n 0, 1) := by decide +kernel
theorem dL_law_1151 : decode cL_law 1151 = .ok (.iload 4, 2) := by decide +kernel
theorem dL_law_1153 : decode cL_law 1153 = .ok (.iconst 1, 1) := by decide +kernel
theorem dL_law_1154 : decode cL_law 1154 = .ok (.iadd, 1) := by decide +kernel
theorem dL_law_1155 : decode cL_law 1155 = .ok (.iaload, 1) := by decide +kernel
theorem dL_law_1156 : decode cL_law 1156 = .ok (.aload_n 0, 1) := by decide +kernel
theorem dL_law_1157 : decode cL_law 1157 = .ok (.iload 4, 2) := by decide +kernel
theorem dL_law_1159 : decode cL_law 1159 = .ok (.iconst 2, 1) := by decide +kernel
theorem dL_law_1160 : decode cL_law 1160 = .ok (.iadd, 1) := by decide +kernel
theorem dL_law_1161 : decode cL_law 1161 = .ok (.iaload, 1) := by decide +kernel
theorem dL_law_1162 : decode cL_law 1162 = .ok (.i2l, 1) := by decide +kernel
theorem dL_law_1163 : decode cL_law 1163 = .ok (.bipush 32, 2) := by decide +kernel
theorem dL_law_1165 : decode cL_law 1165 = .ok (.lshl, 1) := by decide +kernel
theorem dL_law_1166 : decode cL_law 1166 = .ok (.aload_n 0, 1) := by decide +kernel
theorem dL_law_1167 : decode cL_law 1167 = .ok (.iload 4, 2) := by decide +kernel
theorem dL_law_1169 : decode cL_law 1169 = .ok (.iconst 3, 1) := by decide +kernel
theorem dL_law_1170 : decode cL_law 1170 = .ok (.iadd, 1) := by decide +kernel
theorem dL_law_1171 : decode cL_law 1171 = .ok (.iaload, 1) := by decide +kernel
theorem dL_law_1172 : decode cL_law 1172 = .ok (.i2l, 1) := by decide +kernel
theorem dL_law_1173 : decode cL_law 1173 = .ok (.ldc2_w 93, 3) := by decide +kernel
theorem dL_law_1176 : decode cL_law 1176 = .ok (.land, 1) := by decide +kernel
theorem dL_law_1177 : decode cL_law 1177 = .ok (.lor, 1) := by decide +kernel
theorem dL_law_1178 : decode cL_law 1178 = .ok (.invokevirtual 163, 3) := by decide +kernel
theorem dL_law_1181 : decode cL_law 1181 = .ok (.lstore 6, 2) := by decide +kernel
theorem dL_law_1183 : decode cL_law 1183 = .ok (.aload_n 2, 1) := by decide +kernel
theorem dL_law_1184 : decode cL_law 1184 = .ok (.invokevirtual 101, 3) := by decide +kernel
theorem dL_law_1187 : decode cL_law 1187 = .ok (.iload 5, 2) := by decide +kernel
theorem dL_law_1189 : decode cL_law 1189 = .ok (.if_icmp .eq 5, 3) := by decide +kernel
theorem dL_law_1192 : decode cL_law 1192 = .ok (.iconst 0, 1) := by decide +kernel
theorem dL_law_1193 : decode cL_law 1193 = .ok (.ireturn, 1) := by decide +kernel
theorem dL_law_1194 : decode cL_law 1194 = .ok (.iload 5, 2) := by decide +kernel
theorem dL_law_1196 : decode cL_law 1196 = .ok (.ifCond .ne 14, 3) := by decide +kernel
theorem dL_law_1199 : decode cL_law 1199 = .ok (.aload_n 3, 1) := by decide +kernel
theorem dL_law_1200 : decode cL_law 1200 = .ok (.iconst 0, 1) := by decide +kernel
theorem dL_law_1201 : decode cL_law 1201 = .ok (.laload, 1) := by decide +kernel
theorem dL_law_1202 : decode cL_law 1202 = .ok (.lload 6, 2) := by decide +kernel
theorem dL_law_1204 : decode cL_law 1204 = .ok (.lcmp, 1) := by decide +kernel
theorem dL_law_1205 : decode cL_law 1205 = .ok (.ifCond .eq 5, 3) := by decide +kernel
theorem dL_law_1208 : decode cL_law 1208 = .ok (.iconst 0, 1) := by decide +kernel
theorem dL_law_1209 : decode cL_law 1209 = .ok (.ireturn, 1) := by decide +kernel
theorem dL_law_1210 : decode cL_law 1210 = .ok (.goto 271, 3) := by decide +kernel
theorem dL_law_1213 : decode cL_law 1213 = .ok (.aload_n 1, 1) := by decide +kernel
theorem dL_law_1214 : decode cL_law 1214 = .ok (.aload_n 0, 1) := by decide +kernel
theorem dL_law_1215 : decode cL_law 1215 = .ok (.iload 4, 2) := by decide +kernel
theorem dL_law_1217 : decode cL_law 1217 = .ok (.iconst 1, 1) := by decide +kernel
theorem dL_law_1218 : decode cL_law 1218 = .ok (.iadd, 1) := by decide +kernel
theorem dL_law_1219 : decode cL_law 1219 = .ok (.iaload, 1) := by decide +kernel
theorem dL_law_1220 : decode cL_law 1220 = .ok (.aload_n 3, 1) := by decide +kernel
theorem dL_law_1221 : decode cL_law 1221 = .ok (.invokestatic 164, 3) := by decide +kernel
theorem dL_law_1224 : decode cL_law 1224 = .ok (.istore 5, 2) := by decide +kernel
theorem dL_law_1226 : decode cL_law 1226 = .ok (.aload_n 2, 1) := by decide +kernel
theorem dL_law_1227 : decode cL_law 1227 = .ok (.aload_n 0, 1) := by decide +kernel
theorem dL_law_1228 : decode cL_law 1228 = .ok (.iload 4, 2) := by decide +kernel
theorem dL_law_1230 : decode cL_law 1230 = .ok (.iconst 1, 1) := by decide +kernel
theorem dL_law_1231 : decode cL_law 1231 = .ok (.iadd, 1) := by decide +kernel
theorem dL_law_1232 : decode cL_law 1232 = .ok (.iaload, 1) := by decide +kernel
theorem dL_law_1233 : decode cL_law 1233 = .ok (.invokevirtual 166, 3) := by decide +kernel
theorem dL_law_1236 : decode cL_law 1236 = .ok (.lstore 6, 2) := by decide +kernel
theorem dL_law_1238 : decode cL_law 1238 = .ok (.aload_n 2, 1) := by decide +kernel
theorem dL_law_1239 : decode cL_law 1239 = .ok (.invokevirtual 101, 3) := by decide +kernel
theorem dL_law_1242 : decode cL_law 1242 = .ok (.iload 5, 2) := by decide +kernel
theorem dL_law_1244 : decode cL_law 1244 = .ok (.if_icmp .eq 5, 3) := by decide +kernel
theorem dL_law_1247 : decode cL_law 1247 = .ok (.iconst 0, 1) := by decide +kernel
theorem dL_law_1248 : decode cL_law 1248 = .ok (.ireturn, 1) := by decide +kernel
theorem dL_law_1249 : decode cL_law 1249 = .ok (.iload 5, 2) := by decide +kernel
theorem dL_law_1251 : decode cL_law 1251 = .ok (.ifCond .ne 14, 3) := by decide +kernel
theorem dL_law_1254 : decode cL_law 1254 = .ok (.aload_n 3, 1) := by decide +kernel
theorem dL_law_1255 : decode cL_law 1255 = .ok (.iconst 0, 1) := by decide +kernel
theorem dL_law_1256 : decode cL_law 1256 = .ok (.laload, 1) := by decide +kernel
theorem dL_law_1257 : decode cL_law 1257 = .ok (.lload 6, 2) := by decide +kernel
theorem dL_law_1259 : decode cL_law 1259 = .ok (.lcmp, 1) := by decide +kernel
theorem dL_law_1260 : decode cL_law 1260 = .ok (.ifCond .eq 5, 3) := by decide +kernel
theorem dL_law_1263 : decode cL_law 1263 = .ok (.iconst 0, 1) := by decide +kernel
theorem dL_law_1264 : decode cL_law 1264 = .ok (.ireturn, 1) := by decide +kernel
theorem dL_law_1265 : decode cL_law 1265 = .ok (.goto 216, 3) := by decide +kernel
theorem dL_law_1268 : decode cL_law 1268 = .ok (.aload_n 1, 1) := by decide +kernel
theorem dL_law_1269 : decode cL_law 1269 = .ok (.aload_n 0, 1) := by decide +kernel
theorem dL_law_1270 : decode cL_law 1270 = .ok (.iload 4, 2) := by decide +kernel
theorem dL_law_1272 : decode cL_law 1272 = .ok (.iconst 1, 1) := by decide +kernel
theorem dL_law_1273 : decode cL_law 1273 = .ok (.iadd, 1) := by decide +kernel
theorem dL_law_1274 : decode cL_law 1274 = .ok (.iaload, 1) := by decide +kernel
theorem dL_law_1275 : decode cL_law 1275 = .ok (.aload_n 0, 1) := by decide +kernel
theorem dL_law_1276 : decode cL_law 1276 = .ok (.iload 4, 2) := by decide +kernel
theorem dL_law_1278 : decode cL_law 1278 = .ok (.iconst 2, 1) := by decide +kernel
theorem dL_law_1279 : decode cL_law 1279 = .ok (.iadd, 1) := by decide +kernel
theorem dL_law_1280 : decode cL_law 1280 = .ok (.iaload, 1) := by decide +kernel
theorem dL_law_1281 : decode cL_law 1281 = .ok (.aload_n 3, 1) := by decide +kernel
theorem dL_law_1282 : decode cL_law 1282 = .ok (.invokestatic 167, 3) := by decide +kernel
theorem dL_law_1285 : decode cL_law 1285 = .ok (.istore 5, 2) := by decide +kernel
theorem dL_law_1287 : decode cL_law 1287 = .ok (.aload_n 2, 1) := by decide +kernel
theorem dL_law_1288 : decode cL_law 1288 = .ok (.aload_n 0, 1) := by decide +kernel
theorem dL_law_1289 : decode cL_law 1289 = .ok (.iload 4, 2) := by decide +kernel
theorem dL_law_1291 : decode cL_law 1291 = .ok (.iconst 1, 1) := by decide +kernel
theorem dL_law_1292 : decode cL_law 1292 = .ok (.iadd, 1) := by decide +kernel
theorem dL_law_1293 : decode cL_law 1293 = .ok (.iaload, 1) := by decide +kernel
theorem dL_law_1294 : decode cL_law 1294 = .ok (.aload_n 0, 1) := by decide +kernel
theorem dL_law_1295 : decode cL_law 1295 = .ok (.iload 4, 2) := by decide +kernel
theorem dL_law_1297 : decode cL_law 1297 = .ok (.iconst 2, 1) := by decide +kernel
theorem dL_law_1298 : decode cL_law 1298 = .ok (.iadd, 1) := by decide +kernel
theorem dL_law_1299 : decode cL_law 1299 = .ok (.iaload, 1) := by decide +kernel
theorem dL_law_1300 : decode cL_law 1300 = .ok (.invokevirtual 169, 3) := by decide +kernel
theorem dL_law_1303 : decode cL_law 1303 = .ok (.lstore 6, 2) := by decide +kernel
theorem dL_law_1305 : decode cL_law 1305 = .ok (.aload_n 2, 1) := by decide +kernel
theorem dL_law_1306 : decode cL_law 1306 = .ok (.invokevirtual 101, 3) := by decide +kernel
theorem dL_law_1309 : decode cL_law 1309 = .ok (.iload 5, 2) := by decide +kernel
theorem dL_law_1311 : decode cL_law 1311 = .ok (.if_icmp .eq 5, 3) := by decide +kernel
theorem dL_law_1314 : decode cL_law 1314 = .ok (.iconst 0, 1) := by decide +kernel
theorem dL_law_1315 : decode cL_law 1315 = .ok (.ireturn, 1) := by decide +kernel
theorem dL_law_1316 : decode cL_law 1316 = .ok (.iload 5, 2) := by decide +kernel
theorem dL_law_1318 : decode cL_law 1318 = .ok (.ifCond .ne 14, 3) := by decide +kernel
theorem dL_law_1321 : decode cL_law 1321 = .ok (.aload_n 3, 1) := by decide +kernel
theorem dL_law_1322 : decode cL_law 1322 = .ok (.iconst 0, 1) := by decide +kernel
theorem dL_law_1323 : decode cL_law 1323 = .ok (.laload, 1) := by decide +kernel
theorem dL_law_1324 : decode cL_law 1324 = .ok (.lload 6, 2) := by decide +kernel
theorem dL_law_1326 : decode cL_law 1326 = .ok (.lcmp, 1) := by decide +kernel
theorem dL_law_1327 : decode cL_law 1327 = .ok (.ifCond .eq 5, 3) := by decide +kernel
theorem dL_law_1330 : decode cL_law 1330 = .ok (.iconst 0, 1) := by decide +kernel
theorem dL_law_1331 : decode cL_law 1331 = .ok (.ireturn, 1) := by decide +kernel
theorem dL_law_1332 : decode cL_law 1332 = .ok (.goto 149, 3) := by decide +kernel
theorem dL_law_1335 : decode cL_law 1335 = .ok (.aload_n 1, 1) := by decide +kernel
theorem dL_law_1336 : decode cL_law 1336 = .ok (.aload_n 0, 1) := by decide +kernel
theorem dL_law_1337 : decode cL_law 1337 = .ok (.iload 4, 2) := by decide +kernel
theorem dL_law_1339 : decode cL_law 1339 = .ok (.iconst 1, 1) := by decide +kernel
theorem dL_law_1340 : decode cL_law 1340 = .ok (.iadd, 1) := by decide +kernel
theorem dL_law_1341 : decode cL_law 1341 = .ok (.iaload, 1) := by decide +kernel
theorem dL_law_1342 : decode cL_law 1342 = .ok (.aload_n 0, 1) := by decide +kernel
theorem dL_law_1343 : decode cL_law 1343 = .ok (.iload 4, 2) := by decide +kernel
theorem dL_law_1345 : decode cL_law 1345 = .ok (.iconst 2, 1) := by decide +kernel
theorem dL_law_1346 : decode cL_law 1346 = .ok (.iadd, 1) := by decide +kernel
theorem dL_law_1347 : decode cL_law 1347 = .ok (.iaload, 1) := by decide +kernel
theorem dL_law_1348 : decode cL_law 1348 = .ok (.aload_n 0, 1) := by decide +kernel
theorem dL_law_1349 : decode cL_law 1349 = .ok (.iload 4, 2) := by decide +kernel
theorem dL_law_1351 : decode cL_law 1351 = .ok (.iconst 3, 1) := by decide +kernel
theorem dL_law_1352 : decode cL_law 1352 = .ok (.iadd, 1) := by decide +kernel
theorem dL_law_1353 : decode cL_law 1353 = .ok (.iaload, 1) := by decide +kernel
theorem dL_law_1354 : decode cL_law 1354 = .ok (.aload_n 3, 1) := by decide +kernel
theorem dL_law_1355 : decode cL_law 1355 = .ok (.invokestatic 170, 3) := by decide +kernel
theorem dL_law_1358 : decode cL_law 1358 = .ok (.istore 5, 2) := by decide +kernel
theorem dL_law_1360 : decode cL_law 1360 = .ok (.aload_n 2, 1) := by decide +kernel
theorem dL_law_1361 : decode cL_law 1361 = .ok (.aload_n 0, 1) := by decide +kernel
theorem dL_law_1362 : decode cL_law 1362 = .ok (.iload 4, 2) := by decide +kernel
theorem dL_law_1364 : decode cL_law 1364 = .ok (.iconst 1, 1) := by decide +kernel
theorem dL_law_1365 : decode cL_law 1365 = .ok (.iadd, 1) := by decide +kernel
theorem dL_law_1366 : decode cL_law 1366 = .ok (.iaload, 1) := by decide +kernel
theorem dL_law_1367 : decode cL_law 1367 = .ok (.aload_n 0, 1) := by decide +kernel
theorem dL_law_1368 : decode cL_law 1368 = .ok (.iload 4, 2) := by decide +kernel
theorem dL_law_1370 : decode cL_law 1370 = .ok (.iconst 2, 1) := by decide +kernel
theorem dL_law_1371 : decode cL_law 1371 = .ok (.iadd, 1) := by decide +kernel
theorem dL_law_1372 : decode cL_law 1372 = .ok (.iaload, 1) := by decide +kernel
theorem dL_law_1373 : decode cL_law 1373 = .ok (.aload_n 0, 1) := by decide +kernel
theorem dL_law_1374 : decode cL_law 1374 = .ok (.iload 4, 2) := by decide +kernel
theorem dL_law_1376 : decode cL_law 1376 = .ok (.iconst 3, 1) := by decide +kernel
theorem dL_law_1377 : decode cL_law 1377 = .ok (.iadd, 1) := by decide +kernel
theorem dL_law_1378 : decode cL_law 1378 = .ok (.iaload, 1) := by decide +kernel
theorem dL_law_1379 : decode cL_law 1379 = .ok (.invokevirtual 173, 3) := by decide +kernel
theorem dL_law_1382 : decode cL_law 1382 = .ok (.lstore 6, 2) := by decide +kernel
theorem dL_law_1384 : decode cL_law 1384 = .ok (.aload_n 2, 1) := by decide +kernel
theorem dL_law_1385 : decode cL_law 1385 = .ok (.invokevirtual 101, 3) := by decide +kernel
theorem dL_law_1388 : decode cL_law 1388 = .ok (.iload 5, 2) := by decide +kernel
theorem dL_law_1390 : decode cL_law 1390 = .ok (.if_icmp .eq 5, 3) := by decide +kernel
theorem dL_law_1393 : decode cL_law 1393 = .ok (.iconst 0, 1) := by decide +kernel
theorem dL_law_1394 : decode cL_law 1394 = .ok (.ireturn, 1) := by decide +kernel
theorem dL_law_1395 : decode cL_law 1395 = .ok (.iload 5, 2) := by decide +kernel
theorem dL_law_1397 : decode cL_law 1397 = .ok (.ifCond .ne 14, 3) := by decide +kernel
theorem dL_law_1400 : decode cL_law 1400 = .ok (.aload_n 3, 1) := by decide +kernel
theorem dL_law_1401 : decode cL_law 1401 = .ok (.iconst 0, 1) := by decide +kernel
theorem dL_law_1402 : decode cL_law 1402 = .ok (.laload, 1) := by decide +kernel
theorem dL_law_1403 : decode cL_law 1403 = .ok (.lload 6, 2) := by decide +kernel
theorem dL_law_1405 : decode cL_law 1405 = .ok (.lcmp, 1) := by decide +kernel
theorem dL_law_1406 : decode cL_law 1406 = .ok (.ifCond .eq 5, 3) := by decide +kernel
theorem dL_law_1409 : decode cL_law 1409 = .ok (.iconst 0, 1) := by decide +kernel
theorem dL_law_1410 : decode cL_law 1410 = .ok (.ireturn, 1) := by decide +kernel
theorem dL_law_1411 : decode cL_law 1411 = .ok (.goto 70, 3) := by decide +kernel
theorem dL_law_1414 : decode cL_law 1414 = .ok (.aload_n 1, 1) := by decide +kernel
theorem dL_law_1415 : decode cL_law 1415 = .ok (.aload_n 0, 1) := by decide +kernel
theorem dL_law_1416 : decode cL_law 1416 = .ok (.iload 4, 2) := by decide +kernel
theorem dL_law_1418 : decode cL_law 1418 = .ok (.iconst 1, 1) := by decide +kernel
theorem dL_law_1419 : decode cL_law 1419 = .ok (.iadd, 1) := by decide +kernel
theorem dL_law_1420 : decode cL_law 1420 = .ok (.iaload, 1) := by decide +kernel
theorem dL_law_1421 : decode cL_law 1421 = .ok (.aload_n 0, 1) := by decide +kernel
theorem dL_law_1422 : decode cL_law 1422 = .ok (.iload 4, 2) := by decide +kernel
theorem dL_law_1424 : decode cL_law 1424 = .ok (.iconst 2, 1) := by decide +kernel
theorem dL_law_1425 : decode cL_law 1425 = .ok (.iadd, 1) := by decide +kernel
theorem dL_law_1426 : decode cL_law 1426 = .ok (.iaload, 1) := by decide +kernel
theorem dL_law_1427 : decode cL_law 1427 = .ok (.aload_n 3, 1) := by decide +kernel
theorem dL_law_1428 : decode cL_law 1428 = .ok (.invokestatic 174, 3) := by decide +kernel
theorem dL_law_1431 : decode cL_law 1431 = .ok (.istore 5, 2) := by decide +kernel
theorem dL_law_1433 : decode cL_law 1433 = .ok (.aload_n 2, 1) := by decide +kernel
theorem dL_law_1434 : decode cL_law 1434 = .ok (.aload_n 0, 1) := by decide +kernel
theorem dL_law_1435 : decode cL_law 1435 = .ok (.iload 4, 2) := by decide +kernel
theorem dL_law_1437 : decode cL_law 1437 = .ok (.iconst 1, 1) := by decide +kernel
theorem dL_law_1438 : decode cL_law 1438 = .ok (.iadd, 1) := by decide +kernel
theorem dL_law_1439 : decode cL_law 1439 = .ok (.iaload, 1) := by decide +kernel
theorem dL_law_1440 : decode cL_law 1440 = .ok (.aload_n 0, 1) := by decide +kernel
theorem dL_law_1441 : decode cL_law 1441 = .ok (.iload 4, 2) := by decide +kernel
theorem dL_law_1443 : decode cL_law 1443 = .ok (.iconst 2, 1) := by decide +kernel
theorem dL_law_1444 : decode cL_law 1444 = .ok (.iadd, 1) := by decide +kernel
theorem dL_law_1445 : decode cL_law 1445 = .ok (.iaload, 1) := by decide +kernel
theorem dL_law_1446 : decode cL_law 1446 = .ok (.invokevirtual 176, 3) := by decide +kernel
theorem dL_law_1449 : decode cL_law 1449 = .ok (.lstore 6, 2) := by decide +kernel
theorem dL_law_1451 : decode cL_law 1451 = .ok (.aload_n 2, 1) := by decide +kernel
theorem dL_law_1452 : decode cL_law 1452 = .ok (.invokevirtual 101, 3) := by decide +kernel
theorem dL_law_1455 : decode cL_law 1455 = .ok (.iload 5, 2) := by decide +kernel
theorem dL_law_1457 : decode cL_law 1457 = .ok (.if_icmp .eq 5, 3) := by decide +kernel
theorem dL_law_1460 : decode cL_law 1460 = .ok (.iconst 0, 1) := by decide +kernel
theorem dL_law_1461 : decode cL_law 1461 = .ok (.ireturn, 1) := by decide +kernel
theorem dL_law_1462 : decode cL_law 1462 = .ok (.iload 5, 2) := by decide +kernel
theorem dL_law_1464 : decode cL_law 1464 = .ok (.ifCond .ne 14, 3) := by decide +kernel
theorem dL_law_1467 : decode cL_law 1467 = .ok (.aload_n 3, 1) := by decide +kernel
theorem dL_law_1468 : decode cL_law 1468 = .ok (.iconst 0, 1) := by decide +kernel
theorem dL_law_1469 : decode cL_law 1469 = .ok (.laload, 1) := by decide +kernel
theorem dL_law_1470 : decode cL_law 1470 = .ok (.lload 6, 2) := by decide +kernel
theorem dL_law_1472 : decode cL_law 1472 = .ok (.lcmp, 1) := by decide +kernel
theorem dL_law_1473 : decode cL_law 1473 = .ok (.ifCond .eq 5, 3) := by decide +kernel
theorem dL_law_1476 : decode cL_law 1476 = .ok (.iconst 0, 1) := by decide +kernel
theorem dL_law_1477 : decode cL_law 1477 = .ok (.ireturn, 1) := by decide +kernel
theorem dL_law_1478 : decode cL_law 1478 = .ok (.goto 3, 3) := by decide +kernel
theorem dL_law_1481 : decode cL_law 1481 = .ok (.iinc 4 5, 3) := by decide +kernel
theorem dL_law_1484 : decode cL_law 1484 = .ok (.goto (-1461), 3) := by decide +kernel
theorem dL_law_1487 : decode cL_law 1487 = .ok (.iconst 1, 1) := by decide +kernel
theorem dL_law_1488 : decode cL_law 1488 = .ok (.ireturn, 1) := by decide +kernel
