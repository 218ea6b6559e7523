theorem dX0_init_0 : decode cX0_init 0 = .ok (.aload_n 0, 1) := by decide +kernel
theorem dX0_init_1 : decode cX0_init 1 = .ok (.invokespecial 3, 3) := by decide +kernel
theorem dX0_init_4 : decode cX0_init 4 = .ok (.aload_n 0, 1) := by decide +kernel
theorem dX0_init_5 : decode cX0_init 5 = .ok (.sipush 1448, 3) := by decide +kernel
theorem dX0_init_8 : decode cX0_init 8 = .ok (.newarray .long, 2) := by decide +kernel
theorem dX0_init_10 : decode cX0_init 10 = .ok (.putfield 11, 3) := by decide +kernel
theorem dX0_init_13 : decode cX0_init 13 = .ok (.aload_n 0, 1) := by decide +kernel
theorem dX0_init_14 : decode cX0_init 14 = .ok (.sipush 153, 3) := by decide +kernel
theorem dX0_init_17 : decode cX0_init 17 = .ok (.newarray .int, 2) := by decide +kernel
theorem dX0_init_19 : decode cX0_init 19 = .ok (.putfield 15, 3) := by decide +kernel
theorem dX0_init_22 : decode cX0_init 22 = .ok (.aload_n 0, 1) := by decide +kernel
theorem dX0_init_23 : decode cX0_init 23 = .ok (.bipush 16, 2) := by decide +kernel
theorem dX0_init_25 : decode cX0_init 25 = .ok (.newarray .boolean, 2) := by decide +kernel
theorem dX0_init_27 : decode cX0_init 27 = .ok (.putfield 19, 3) := by decide +kernel
theorem dX0_init_30 : decode cX0_init 30 = .ok (.aload_n 0, 1) := by decide +kernel
theorem dX0_init_31 : decode cX0_init 31 = .ok (.new 23, 3) := by decide +kernel
theorem dX0_init_34 : decode cX0_init 34 = .ok (.dup, 1) := by decide +kernel
theorem dX0_init_35 : decode cX0_init 35 = .ok (.invokespecial 25, 3) := by decide +kernel
theorem dX0_init_38 : decode cX0_init 38 = .ok (.putfield 26, 3) := by decide +kernel
theorem dX0_init_41 : decode cX0_init 41 = .ok (.return_, 1) := by decide +kernel
theorem dX0_count_0 : decode cX0_count 0 = .ok (.aload_n 0, 1) := by decide +kernel
theorem dX0_count_1 : decode cX0_count 1 = .ok (.aload_n 2, 1) := by decide +kernel
theorem dX0_count_2 : decode cX0_count 2 = .ok (.invokevirtual 30, 3) := by decide +kernel
theorem dX0_count_5 : decode cX0_count 5 = .ok (.aload_n 0, 1) := by decide +kernel
theorem dX0_count_6 : decode cX0_count 6 = .ok (.aload_n 1, 1) := by decide +kernel
theorem dX0_count_7 : decode cX0_count 7 = .ok (.invokevirtual 34, 3) := by decide +kernel
theorem dX0_count_10 : decode cX0_count 10 = .ok (.aload_n 0, 1) := by decide +kernel
theorem dX0_count_11 : decode cX0_count 11 = .ok (.getfield 15, 3) := by decide +kernel
theorem dX0_count_14 : decode cX0_count 14 = .ok (.aload_n 1, 1) := by decide +kernel
theorem dX0_count_15 : decode cX0_count 15 = .ok (.getfield 38, 3) := by decide +kernel
theorem dX0_count_18 : decode cX0_count 18 = .ok (.iconst 0, 1) := by decide +kernel
theorem dX0_count_19 : decode cX0_count 19 = .ok (.iaload, 1) := by decide +kernel
theorem dX0_count_20 : decode cX0_count 20 = .ok (.iaload, 1) := by decide +kernel
theorem dX0_count_21 : decode cX0_count 21 = .ok (.istore_n 3, 1) := by decide +kernel
theorem dX0_count_22 : decode cX0_count 22 = .ok (.aload_n 0, 1) := by decide +kernel
theorem dX0_count_23 : decode cX0_count 23 = .ok (.getfield 26, 3) := by decide +kernel
theorem dX0_count_26 : decode cX0_count 26 = .ok (.getfield 38, 3) := by decide +kernel
theorem dX0_count_29 : decode cX0_count 29 = .ok (.iconst 0, 1) := by decide +kernel
theorem dX0_count_30 : decode cX0_count 30 = .ok (.invokestatic 41, 3) := by decide +kernel
theorem dX0_count_33 : decode cX0_count 33 = .ok (.aload_n 0, 1) := by decide +kernel
theorem dX0_count_34 : decode cX0_count 34 = .ok (.getfield 11, 3) := by decide +kernel
theorem dX0_count_37 : decode cX0_count 37 = .ok (.iconst 0, 1) := by decide +kernel
theorem dX0_count_38 : decode cX0_count 38 = .ok (.lconst 1, 1) := by decide +kernel
theorem dX0_count_39 : decode cX0_count 39 = .ok (.lastore, 1) := by decide +kernel
theorem dX0_count_40 : decode cX0_count 40 = .ok (.iconst 1, 1) := by decide +kernel
theorem dX0_count_41 : decode cX0_count 41 = .ok (.istore 4, 2) := by decide +kernel
theorem dX0_count_43 : decode cX0_count 43 = .ok (.iload 4, 2) := by decide +kernel
theorem dX0_count_45 : decode cX0_count 45 = .ok (.iload_n 3, 1) := by decide +kernel
theorem dX0_count_46 : decode cX0_count 46 = .ok (.if_icmp .ge 20, 3) := by decide +kernel
theorem dX0_count_49 : decode cX0_count 49 = .ok (.aload_n 0, 1) := by decide +kernel
theorem dX0_count_50 : decode cX0_count 50 = .ok (.aload_n 1, 1) := by decide +kernel
theorem dX0_count_51 : decode cX0_count 51 = .ok (.invokevirtual 47, 3) := by decide +kernel
theorem dX0_count_54 : decode cX0_count 54 = .ok (.aload_n 0, 1) := by decide +kernel
theorem dX0_count_55 : decode cX0_count 55 = .ok (.iload 4, 2) := by decide +kernel
theorem dX0_count_57 : decode cX0_count 57 = .ok (.invokevirtual 50, 3) := by decide +kernel
theorem dX0_count_60 : decode cX0_count 60 = .ok (.iinc 4 1, 3) := by decide +kernel
theorem dX0_count_63 : decode cX0_count 63 = .ok (.goto (-20), 3) := by decide +kernel
theorem dX0_count_66 : decode cX0_count 66 = .ok (.aload_n 0, 1) := by decide +kernel
theorem dX0_count_67 : decode cX0_count 67 = .ok (.getfield 11, 3) := by decide +kernel
theorem dX0_count_70 : decode cX0_count 70 = .ok (.iload_n 3, 1) := by decide +kernel
theorem dX0_count_71 : decode cX0_count 71 = .ok (.iconst 1, 1) := by decide +kernel
theorem dX0_count_72 : decode cX0_count 72 = .ok (.isub, 1) := by decide +kernel
theorem dX0_count_73 : decode cX0_count 73 = .ok (.bipush 8, 2) := by decide +kernel
theorem dX0_count_75 : decode cX0_count 75 = .ok (.imul, 1) := by decide +kernel
theorem dX0_count_76 : decode cX0_count 76 = .ok (.laload, 1) := by decide +kernel
theorem dX0_count_77 : decode cX0_count 77 = .ok (.lreturn, 1) := by decide +kernel
theorem dX0_sortLetters_0 : decode cX0_sortLetters 0 = .ok (.iconst 0, 1) := by decide +kernel
theorem dX0_sortLetters_1 : decode cX0_sortLetters 1 = .ok (.istore_n 2, 1) := by decide +kernel
theorem dX0_sortLetters_2 : decode cX0_sortLetters 2 = .ok (.iconst 1, 1) := by decide +kernel
theorem dX0_sortLetters_3 : decode cX0_sortLetters 3 = .ok (.istore_n 3, 1) := by decide +kernel
theorem dX0_sortLetters_4 : decode cX0_sortLetters 4 = .ok (.iload_n 3, 1) := by decide +kernel
theorem dX0_sortLetters_5 : decode cX0_sortLetters 5 = .ok (.bipush 16, 2) := by decide +kernel
theorem dX0_sortLetters_7 : decode cX0_sortLetters 7 = .ok (.if_icmp .gt 61, 3) := by decide +kernel
theorem dX0_sortLetters_10 : decode cX0_sortLetters 10 = .ok (.iload_n 2, 1) := by decide +kernel
theorem dX0_sortLetters_11 : decode cX0_sortLetters 11 = .ok (.istore 4, 2) := by decide +kernel
theorem dX0_sortLetters_13 : decode cX0_sortLetters 13 = .ok (.iconst 0, 1) := by decide +kernel
theorem dX0_sortLetters_14 : decode cX0_sortLetters 14 = .ok (.istore 5, 2) := by decide +kernel
theorem dX0_sortLetters_16 : decode cX0_sortLetters 16 = .ok (.iload 5, 2) := by decide +kernel
theorem dX0_sortLetters_18 : decode cX0_sortLetters 18 = .ok (.aload_n 1, 1) := by decide +kernel
theorem dX0_sortLetters_19 : decode cX0_sortLetters 19 = .ok (.getfield 54, 3) := by decide +kernel
theorem dX0_sortLetters_22 : decode cX0_sortLetters 22 = .ok (.if_icmp .ge 40, 3) := by decide +kernel
theorem dX0_sortLetters_25 : decode cX0_sortLetters 25 = .ok (.aload_n 1, 1) := by decide +kernel
theorem dX0_sortLetters_26 : decode cX0_sortLetters 26 = .ok (.getfield 60, 3) := by decide +kernel
theorem dX0_sortLetters_29 : decode cX0_sortLetters 29 = .ok (.iload 5, 2) := by decide +kernel
theorem dX0_sortLetters_31 : decode cX0_sortLetters 31 = .ok (.iaload, 1) := by decide +kernel
theorem dX0_sortLetters_32 : decode cX0_sortLetters 32 = .ok (.iload_n 3, 1) := by decide +kernel
theorem dX0_sortLetters_33 : decode cX0_sortLetters 33 = .ok (.if_icmp .ne 23, 3) := by decide +kernel
theorem dX0_sortLetters_36 : decode cX0_sortLetters 36 = .ok (.aload_n 0, 1) := by decide +kernel
theorem dX0_sortLetters_37 : decode cX0_sortLetters 37 = .ok (.getfield 19, 3) := by decide +kernel
theorem dX0_sortLetters_40 : decode cX0_sortLetters 40 = .ok (.iload_n 2, 1) := by decide +kernel
theorem dX0_sortLetters_41 : decode cX0_sortLetters 41 = .ok (.iload_n 2, 1) := by decide +kernel
theorem dX0_sortLetters_42 : decode cX0_sortLetters 42 = .ok (.iload 4, 2) := by decide +kernel
theorem dX0_sortLetters_44 : decode cX0_sortLetters 44 = .ok (.if_icmp .ne 7, 3) := by decide +kernel
theorem dX0_sortLetters_47 : decode cX0_sortLetters 47 = .ok (.iconst 1, 1) := by decide +kernel
theorem dX0_sortLetters_48 : decode cX0_sortLetters 48 = .ok (.goto 4, 3) := by decide +kernel
theorem dX0_sortLetters_51 : decode cX0_sortLetters 51 = .ok (.iconst 0, 1) := by decide +kernel
theorem dX0_sortLetters_52 : decode cX0_sortLetters 52 = .ok (.bastore, 1) := by decide +kernel
theorem dX0_sortLetters_53 : decode cX0_sortLetters 53 = .ok (.iinc 2 1, 3) := by decide +kernel
theorem dX0_sortLetters_56 : decode cX0_sortLetters 56 = .ok (.iinc 5 1, 3) := by decide +kernel
theorem dX0_sortLetters_59 : decode cX0_sortLetters 59 = .ok (.goto (-43), 3) := by decide +kernel
theorem dX0_sortLetters_62 : decode cX0_sortLetters 62 = .ok (.iinc 3 1, 3) := by decide +kernel
theorem dX0_sortLetters_65 : decode cX0_sortLetters 65 = .ok (.goto (-61), 3) := by decide +kernel
theorem dX0_sortLetters_68 : decode cX0_sortLetters 68 = .ok (.return_, 1) := by decide +kernel
theorem dX0_countEndings_0 : decode cX0_countEndings 0 = .ok (.aload_n 0, 1) := by decide +kernel
theorem dX0_countEndings_1 : decode cX0_countEndings 1 = .ok (.getfield 15, 3) := by decide +kernel
theorem dX0_countEndings_4 : decode cX0_countEndings 4 = .ok (.iconst 1, 1) := by decide +kernel
theorem dX0_countEndings_5 : decode cX0_countEndings 5 = .ok (.invokestatic 41, 3) := by decide +kernel
theorem dX0_countEndings_8 : decode cX0_countEndings 8 = .ok (.bipush 7, 2) := by decide +kernel
theorem dX0_countEndings_10 : decode cX0_countEndings 10 = .ok (.istore_n 2, 1) := by decide +kernel
theorem dX0_countEndings_11 : decode cX0_countEndings 11 = .ok (.iload_n 2, 1) := by decide +kernel
theorem dX0_countEndings_12 : decode cX0_countEndings 12 = .ok (.ifCond .lt 79, 3) := by decide +kernel
theorem dX0_countEndings_15 : decode cX0_countEndings 15 = .ok (.iconst 1, 1) := by decide +kernel
theorem dX0_countEndings_16 : decode cX0_countEndings 16 = .ok (.istore_n 3, 1) := by decide +kernel
theorem dX0_countEndings_17 : decode cX0_countEndings 17 = .ok (.iload_n 3, 1) := by decide +kernel
theorem dX0_countEndings_18 : decode cX0_countEndings 18 = .ok (.bipush 17, 2) := by decide +kernel
theorem dX0_countEndings_20 : decode cX0_countEndings 20 = .ok (.if_icmp .ge 65, 3) := by decide +kernel
theorem dX0_countEndings_23 : decode cX0_countEndings 23 = .ok (.iload_n 3, 1) := by decide +kernel
theorem dX0_countEndings_24 : decode cX0_countEndings 24 = .ok (.aload_n 1, 1) := by decide +kernel
theorem dX0_countEndings_25 : decode cX0_countEndings 25 = .ok (.getfield 38, 3) := by decide +kernel
theorem dX0_countEndings_28 : decode cX0_countEndings 28 = .ok (.iload_n 2, 1) := by decide +kernel
theorem dX0_countEndings_29 : decode cX0_countEndings 29 = .ok (.iaload, 1) := by decide +kernel
theorem dX0_countEndings_30 : decode cX0_countEndings 30 = .ok (.if_icmp .le 7, 3) := by decide +kernel
theorem dX0_countEndings_33 : decode cX0_countEndings 33 = .ok (.iconst 0, 1) := by decide +kernel
theorem dX0_countEndings_34 : decode cX0_countEndings 34 = .ok (.goto 16, 3) := by decide +kernel
theorem dX0_countEndings_37 : decode cX0_countEndings 37 = .ok (.aload_n 0, 1) := by decide +kernel
theorem dX0_countEndings_38 : decode cX0_countEndings 38 = .ok (.getfield 15, 3) := by decide +kernel
theorem dX0_countEndings_41 : decode cX0_countEndings 41 = .ok (.iload_n 2, 1) := by decide +kernel
theorem dX0_countEndings_42 : decode cX0_countEndings 42 = .ok (.iconst 1, 1) := by decide +kernel
theorem dX0_countEndings_43 : decode cX0_countEndings 43 = .ok (.iadd, 1) := by decide +kernel
theorem dX0_countEndings_44 : decode cX0_countEndings 44 = .ok (.bipush 17, 2) := by decide +kernel
theorem dX0_countEndings_46 : decode cX0_countEndings 46 = .ok (.imul, 1) := by decide +kernel
theorem dX0_countEndings_47 : decode cX0_countEndings 47 = .ok (.iload_n 3, 1) := by decide +kernel
theorem dX0_countEndings_48 : decode cX0_countEndings 48 = .ok (.iadd, 1) := by decide +kernel
theorem dX0_countEndings_49 : decode cX0_countEndings 49 = .ok (.iaload, 1) := by decide +kernel
theorem dX0_countEndings_50 : decode cX0_countEndings 50 = .ok (.istore 4, 2) := by decide +kernel
theorem dX0_countEndings_52 : decode cX0_countEndings 52 = .ok (.aload_n 0, 1) := by decide +kernel
theorem dX0_countEndings_53 : decode cX0_countEndings 53 = .ok (.getfield 15, 3) := by decide +kernel
theorem dX0_countEndings_56 : decode cX0_countEndings 56 = .ok (.iload_n 2, 1) := by decide +kernel
theorem dX0_countEndings_57 : decode cX0_countEndings 57 = .ok (.bipush 17, 2) := by decide +kernel
theorem dX0_countEndings_59 : decode cX0_countEndings 59 = .ok (.imul, 1) := by decide +kernel
theorem dX0_countEndings_60 : decode cX0_countEndings 60 = .ok (.iload_n 3, 1) := by decide +kernel
theorem dX0_countEndings_61 : decode cX0_countEndings 61 = .ok (.iadd, 1) := by decide +kernel
theorem dX0_countEndings_62 : decode cX0_countEndings 62 = .ok (.aload_n 0, 1) := by decide +kernel
theorem dX0_countEndings_63 : decode cX0_countEndings 63 = .ok (.getfield 15, 3) := by decide +kernel
theorem dX0_countEndings_66 : decode cX0_countEndings 66 = .ok (.iload_n 2, 1) := by decide +kernel
theorem dX0_countEndings_67 : decode cX0_countEndings 67 = .ok (.bipush 17, 2) := by decide +kernel
theorem dX0_countEndings_69 : decode cX0_countEndings 69 = .ok (.imul, 1) := by decide +kernel
theorem dX0_countEndings_70 : decode cX0_countEndings 70 = .ok (.iload_n 3, 1) := by decide +kernel
theorem dX0_countEndings_71 : decode cX0_countEndings 71 = .ok (.iadd, 1) := by decide +kernel
theorem dX0_countEndings_72 : decode cX0_countEndings 72 = .ok (.iconst 1, 1) := by decide +kernel
theorem dX0_countEndings_73 : decode cX0_countEndings 73 = .ok (.isub, 1) := by decide +kernel
theorem dX0_countEndings_74 : decode cX0_countEndings 74 = .ok (.iaload, 1) := by decide +kernel
theorem dX0_countEndings_75 : decode cX0_countEndings 75 = .ok (.iload 4, 2) := by decide +kernel
theorem dX0_countEndings_77 : decode cX0_countEndings 77 = .ok (.iadd, 1) := by decide +kernel
theorem dX0_countEndings_78 : decode cX0_countEndings 78 = .ok (.iastore, 1) := by decide +kernel
theorem dX0_countEndings_79 : decode cX0_countEndings 79 = .ok (.iinc 3 1, 3) := by decide +kernel
theorem dX0_countEndings_82 : decode cX0_countEndings 82 = .ok (.goto (-65), 3) := by decide +kernel
theorem dX0_countEndings_85 : decode cX0_countEndings 85 = .ok (.iinc 2 (-1), 3) := by decide +kernel
theorem dX0_countEndings_88 : decode cX0_countEndings 88 = .ok (.goto (-77), 3) := by decide +kernel
theorem dX0_countEndings_91 : decode cX0_countEndings 91 = .ok (.return_, 1) := by decide +kernel
theorem dX0_goToNext_0 : decode cX0_goToNext 0 = .ok (.bipush 7, 2) := by decide +kernel
theorem dX0_goToNext_2 : decode cX0_goToNext 2 = .ok (.istore_n 2, 1) := by decide +kernel
theorem dX0_goToNext_3 : decode cX0_goToNext 3 = .ok (.iload_n 2, 1) := by decide +kernel
theorem dX0_goToNext_4 : decode cX0_goToNext 4 = .ok (.ifCond .lt 78, 3) := by decide +kernel
theorem dX0_goToNext_7 : decode cX0_goToNext 7 = .ok (.aload_n 0, 1) := by decide +kernel
theorem dX0_goToNext_8 : decode cX0_goToNext 8 = .ok (.getfield 26, 3) := by decide +kernel
theorem dX0_goToNext_11 : decode cX0_goToNext 11 = .ok (.getfield 38, 3) := by decide +kernel
theorem dX0_goToNext_14 : decode cX0_goToNext 14 = .ok (.iload_n 2, 1) := by decide +kernel
theorem dX0_goToNext_15 : decode cX0_goToNext 15 = .ok (.iaload, 1) := by decide +kernel
theorem dX0_goToNext_16 : decode cX0_goToNext 16 = .ok (.aload_n 1, 1) := by decide +kernel
theorem dX0_goToNext_17 : decode cX0_goToNext 17 = .ok (.getfield 38, 3) := by decide +kernel
theorem dX0_goToNext_20 : decode cX0_goToNext 20 = .ok (.iload_n 2, 1) := by decide +kernel
theorem dX0_goToNext_21 : decode cX0_goToNext 21 = .ok (.iaload, 1) := by decide +kernel
theorem dX0_goToNext_22 : decode cX0_goToNext 22 = .ok (.if_icmp .ge 44, 3) := by decide +kernel
theorem dX0_goToNext_25 : decode cX0_goToNext 25 = .ok (.iload_n 2, 1) := by decide +kernel
theorem dX0_goToNext_26 : decode cX0_goToNext 26 = .ok (.ifCond .eq 26, 3) := by decide +kernel
theorem dX0_goToNext_29 : decode cX0_goToNext 29 = .ok (.aload_n 0, 1) := by decide +kernel
theorem dX0_goToNext_30 : decode cX0_goToNext 30 = .ok (.getfield 26, 3) := by decide +kernel
theorem dX0_goToNext_33 : decode cX0_goToNext 33 = .ok (.getfield 38, 3) := by decide +kernel
theorem dX0_goToNext_36 : decode cX0_goToNext 36 = .ok (.iload_n 2, 1) := by decide +kernel
theorem dX0_goToNext_37 : decode cX0_goToNext 37 = .ok (.iaload, 1) := by decide +kernel
theorem dX0_goToNext_38 : decode cX0_goToNext 38 = .ok (.aload_n 0, 1) := by decide +kernel
theorem dX0_goToNext_39 : decode cX0_goToNext 39 = .ok (.getfield 26, 3) := by decide +kernel
theorem dX0_goToNext_42 : decode cX0_goToNext 42 = .ok (.getfield 38, 3) := by decide +kernel
theorem dX0_goToNext_45 : decode cX0_goToNext 45 = .ok (.iload_n 2, 1) := by decide +kernel
theorem dX0_goToNext_46 : decode cX0_goToNext 46 = .ok (.iconst 1, 1) := by decide +kernel
theorem dX0_goToNext_47 : decode cX0_goToNext 47 = .ok (.isub, 1) := by decide +kernel
theorem dX0_goToNext_48 : decode cX0_goToNext 48 = .ok (.iaload, 1) := by decide +kernel
theorem dX0_goToNext_49 : decode cX0_goToNext 49 = .ok (.if_icmp .ge 17, 3) := by decide +kernel
theorem dX0_goToNext_52 : decode cX0_goToNext 52 = .ok (.aload_n 0, 1) := by decide +kernel
theorem dX0_goToNext_53 : decode cX0_goToNext 53 = .ok (.getfield 26, 3) := by decide +kernel
theorem dX0_goToNext_56 : decode cX0_goToNext 56 = .ok (.getfield 38, 3) := by decide +kernel
theorem dX0_goToNext_59 : decode cX0_goToNext 59 = .ok (.iload_n 2, 1) := by decide +kernel
theorem dX0_goToNext_60 : decode cX0_goToNext 60 = .ok (.dup2, 1) := by decide +kernel
theorem dX0_goToNext_61 : decode cX0_goToNext 61 = .ok (.iaload, 1) := by decide +kernel
theorem dX0_goToNext_62 : decode cX0_goToNext 62 = .ok (.iconst 1, 1) := by decide +kernel
theorem dX0_goToNext_63 : decode cX0_goToNext 63 = .ok (.iadd, 1) := by decide +kernel
theorem dX0_goToNext_64 : decode cX0_goToNext 64 = .ok (.iastore, 1) := by decide +kernel
theorem dX0_goToNext_65 : decode cX0_goToNext 65 = .ok (.return_, 1) := by decide +kernel
theorem dX0_goToNext_66 : decode cX0_goToNext 66 = .ok (.aload_n 0, 1) := by decide +kernel
theorem dX0_goToNext_67 : decode cX0_goToNext 67 = .ok (.getfield 26, 3) := by decide +kernel
theorem dX0_goToNext_70 : decode cX0_goToNext 70 = .ok (.getfield 38, 3) := by decide +kernel
theorem dX0_goToNext_73 : decode cX0_goToNext 73 = .ok (.iload_n 2, 1) := by decide +kernel
theorem dX0_goToNext_74 : decode cX0_goToNext 74 = .ok (.iconst 0, 1) := by decide +kernel
theorem dX0_goToNext_75 : decode cX0_goToNext 75 = .ok (.iastore, 1) := by decide +kernel
theorem dX0_goToNext_76 : decode cX0_goToNext 76 = .ok (.iinc 2 (-1), 3) := by decide +kernel
theorem dX0_goToNext_79 : decode cX0_goToNext 79 = .ok (.goto (-76), 3) := by decide +kernel
theorem dX0_goToNext_82 : decode cX0_goToNext 82 = .ok (.return_, 1) := by decide +kernel
theorem dX0_countWays_0 : decode cX0_countWays 0 = .ok (.aload_n 0, 1) := by decide +kernel
theorem dX0_countWays_1 : decode cX0_countWays 1 = .ok (.getfield 19, 3) := by decide +kernel
theorem dX0_countWays_4 : decode cX0_countWays 4 = .ok (.aload_n 0, 1) := by decide +kernel
theorem dX0_countWays_5 : decode cX0_countWays 5 = .ok (.getfield 26, 3) := by decide +kernel
theorem dX0_countWays_8 : decode cX0_countWays 8 = .ok (.invokevirtual 63, 3) := by decide +kernel
theorem dX0_countWays_11 : decode cX0_countWays 11 = .ok (.iconst 1, 1) := by decide +kernel
theorem dX0_countWays_12 : decode cX0_countWays 12 = .ok (.isub, 1) := by decide +kernel
theorem dX0_countWays_13 : decode cX0_countWays 13 = .ok (.baload, 1) := by decide +kernel
theorem dX0_countWays_14 : decode cX0_countWays 14 = .ok (.istore_n 2, 1) := by decide +kernel
theorem dX0_countWays_15 : decode cX0_countWays 15 = .ok (.lconst 0, 1) := by decide +kernel
theorem dX0_countWays_16 : decode cX0_countWays 16 = .ok (.lstore_n 3, 1) := by decide +kernel
theorem dX0_countWays_17 : decode cX0_countWays 17 = .ok (.bipush 7, 2) := by decide +kernel
theorem dX0_countWays_19 : decode cX0_countWays 19 = .ok (.istore 5, 2) := by decide +kernel
theorem dX0_countWays_21 : decode cX0_countWays 21 = .ok (.iload 5, 2) := by decide +kernel
theorem dX0_countWays_23 : decode cX0_countWays 23 = .ok (.ifCond .lt 87, 3) := by decide +kernel
theorem dX0_countWays_26 : decode cX0_countWays 26 = .ok (.aload_n 0, 1) := by decide +kernel
theorem dX0_countWays_27 : decode cX0_countWays 27 = .ok (.getfield 26, 3) := by decide +kernel
theorem dX0_countWays_30 : decode cX0_countWays 30 = .ok (.iload 5, 2) := by decide +kernel
theorem dX0_countWays_32 : decode cX0_countWays 32 = .ok (.invokevirtual 67, 3) := by decide +kernel
theorem dX0_countWays_35 : decode cX0_countWays 35 = .ok (.ifCond .eq 56, 3) := by decide +kernel
theorem dX0_countWays_38 : decode cX0_countWays 38 = .ok (.iload_n 1, 1) := by decide +kernel
theorem dX0_countWays_39 : decode cX0_countWays 39 = .ok (.aload_n 0, 1) := by decide +kernel
theorem dX0_countWays_40 : decode cX0_countWays 40 = .ok (.getfield 15, 3) := by decide +kernel
theorem dX0_countWays_43 : decode cX0_countWays 43 = .ok (.iload 5, 2) := by decide +kernel
theorem dX0_countWays_45 : decode cX0_countWays 45 = .ok (.iconst 1, 1) := by decide +kernel
theorem dX0_countWays_46 : decode cX0_countWays 46 = .ok (.iadd, 1) := by decide +kernel
theorem dX0_countWays_47 : decode cX0_countWays 47 = .ok (.bipush 17, 2) := by decide +kernel
theorem dX0_countWays_49 : decode cX0_countWays 49 = .ok (.imul, 1) := by decide +kernel
theorem dX0_countWays_50 : decode cX0_countWays 50 = .ok (.aload_n 0, 1) := by decide +kernel
theorem dX0_countWays_51 : decode cX0_countWays 51 = .ok (.getfield 26, 3) := by decide +kernel
theorem dX0_countWays_54 : decode cX0_countWays 54 = .ok (.getfield 38, 3) := by decide +kernel
theorem dX0_countWays_57 : decode cX0_countWays 57 = .ok (.iload 5, 2) := by decide +kernel
theorem dX0_countWays_59 : decode cX0_countWays 59 = .ok (.iaload, 1) := by decide +kernel
theorem dX0_countWays_60 : decode cX0_countWays 60 = .ok (.iadd, 1) := by decide +kernel
theorem dX0_countWays_61 : decode cX0_countWays 61 = .ok (.iconst 1, 1) := by decide +kernel
theorem dX0_countWays_62 : decode cX0_countWays 62 = .ok (.isub, 1) := by decide +kernel
theorem dX0_countWays_63 : decode cX0_countWays 63 = .ok (.iaload, 1) := by decide +kernel
theorem dX0_countWays_64 : decode cX0_countWays 64 = .ok (.isub, 1) := by decide +kernel
theorem dX0_countWays_65 : decode cX0_countWays 65 = .ok (.istore 6, 2) := by decide +kernel
theorem dX0_countWays_67 : decode cX0_countWays 67 = .ok (.lload_n 3, 1) := by decide +kernel
theorem dX0_countWays_68 : decode cX0_countWays 68 = .ok (.aload_n 0, 1) := by decide +kernel
theorem dX0_countWays_69 : decode cX0_countWays 69 = .ok (.getfield 11, 3) := by decide +kernel
theorem dX0_countWays_72 : decode cX0_countWays 72 = .ok (.iload 6, 2) := by decide +kernel
theorem dX0_countWays_74 : decode cX0_countWays 74 = .ok (.bipush 8, 2) := by decide +kernel
theorem dX0_countWays_76 : decode cX0_countWays 76 = .ok (.imul, 1) := by decide +kernel
theorem dX0_countWays_77 : decode cX0_countWays 77 = .ok (.iload_n 2, 1) := by decide +kernel
theorem dX0_countWays_78 : decode cX0_countWays 78 = .ok (.ifCond .eq 7, 3) := by decide +kernel
theorem dX0_countWays_81 : decode cX0_countWays 81 = .ok (.iconst 0, 1) := by decide +kernel
theorem dX0_countWays_82 : decode cX0_countWays 82 = .ok (.goto 5, 3) := by decide +kernel
theorem dX0_countWays_85 : decode cX0_countWays 85 = .ok (.iload 5, 2) := by decide +kernel
theorem dX0_countWays_87 : decode cX0_countWays 87 = .ok (.iadd, 1) := by decide +kernel
theorem dX0_countWays_88 : decode cX0_countWays 88 = .ok (.laload, 1) := by decide +kernel
theorem dX0_countWays_89 : decode cX0_countWays 89 = .ok (.ladd, 1) := by decide +kernel
theorem dX0_countWays_90 : decode cX0_countWays 90 = .ok (.lstore_n 3, 1) := by decide +kernel
theorem dX0_countWays_91 : decode cX0_countWays 91 = .ok (.aload_n 0, 1) := by decide +kernel
theorem dX0_countWays_92 : decode cX0_countWays 92 = .ok (.getfield 11, 3) := by decide +kernel
theorem dX0_countWays_95 : decode cX0_countWays 95 = .ok (.iload_n 1, 1) := by decide +kernel
theorem dX0_countWays_96 : decode cX0_countWays 96 = .ok (.bipush 8, 2) := by decide +kernel
theorem dX0_countWays_98 : decode cX0_countWays 98 = .ok (.imul, 1) := by decide +kernel
theorem dX0_countWays_99 : decode cX0_countWays 99 = .ok (.iload 5, 2) := by decide +kernel
theorem dX0_countWays_101 : decode cX0_countWays 101 = .ok (.iadd, 1) := by decide +kernel
theorem dX0_countWays_102 : decode cX0_countWays 102 = .ok (.lload_n 3, 1) := by decide +kernel
theorem dX0_countWays_103 : decode cX0_countWays 103 = .ok (.lastore, 1) := by decide +kernel
theorem dX0_countWays_104 : decode cX0_countWays 104 = .ok (.iinc 5 (-1), 3) := by decide +kernel
theorem dX0_countWays_107 : decode cX0_countWays 107 = .ok (.goto (-86), 3) := by decide +kernel
theorem dX0_countWays_110 : decode cX0_countWays 110 = .ok (.return_, 1) := by decide +kernel
theorem dX1_init_0 : decode cX1_init 0 = .ok (.aload_n 0, 1) := by decide +kernel
theorem dX1_init_1 : decode cX1_init 1 = .ok (.invokespecial 3, 3) := by decide +kernel
theorem dX1_init_4 : decode cX1_init 4 = .ok (.aload_n 0, 1) := by decide +kernel
theorem dX1_init_5 : decode cX1_init 5 = .ok (.new 9, 3) := by decide +kernel
theorem dX1_init_8 : decode cX1_init 8 = .ok (.dup, 1) := by decide +kernel
theorem dX1_init_9 : decode cX1_init 9 = .ok (.invokespecial 11, 3) := by decide +kernel
theorem dX1_init_12 : decode cX1_init 12 = .ok (.putfield 12, 3) := by decide +kernel
theorem dX1_init_15 : decode cX1_init 15 = .ok (.aload_n 0, 1) := by decide +kernel
theorem dX1_init_16 : decode cX1_init 16 = .ok (.lconst 0, 1) := by decide +kernel
theorem dX1_init_17 : decode cX1_init 17 = .ok (.putfield 18, 3) := by decide +kernel
theorem dX1_init_20 : decode cX1_init 20 = .ok (.aload_n 0, 1) := by decide +kernel
theorem dX1_init_21 : decode cX1_init 21 = .ok (.iconst 0, 1) := by decide +kernel
theorem dX1_init_22 : decode cX1_init 22 = .ok (.putfield 22, 3) := by decide +kernel
theorem dX1_init_25 : decode cX1_init 25 = .ok (.aload_n 0, 1) := by decide +kernel
theorem dX1_init_26 : decode cX1_init 26 = .ok (.iconst 0, 1) := by decide +kernel
theorem dX1_init_27 : decode cX1_init 27 = .ok (.putfield 26, 3) := by decide +kernel
theorem dX1_init_30 : decode cX1_init 30 = .ok (.return_, 1) := by decide +kernel
theorem dX1_start_0 : decode cX1_start 0 = .ok (.aload_n 0, 1) := by decide +kernel
theorem dX1_start_1 : decode cX1_start 1 = .ok (.getfield 12, 3) := by decide +kernel
theorem dX1_start_4 : decode cX1_start 4 = .ok (.aload_n 1, 1) := by decide +kernel
theorem dX1_start_5 : decode cX1_start 5 = .ok (.invokevirtual 29, 3) := by decide +kernel
theorem dX1_start_8 : decode cX1_start 8 = .ok (.aload_n 0, 1) := by decide +kernel
theorem dX1_start_9 : decode cX1_start 9 = .ok (.lload_n 2, 1) := by decide +kernel
theorem dX1_start_10 : decode cX1_start 10 = .ok (.putfield 18, 3) := by decide +kernel
theorem dX1_start_13 : decode cX1_start 13 = .ok (.return_, 1) := by decide +kernel
theorem dX1_goToCorner_0 : decode cX1_goToCorner 0 = .ok (.aload_n 0, 1) := by decide +kernel
theorem dX1_goToCorner_1 : decode cX1_goToCorner 1 = .ok (.aload_n 0, 1) := by decide +kernel
theorem dX1_goToCorner_2 : decode cX1_goToCorner 2 = .ok (.iload_n 1, 1) := by decide +kernel
theorem dX1_goToCorner_3 : decode cX1_goToCorner 3 = .ok (.invokevirtual 33, 3) := by decide +kernel
theorem dX1_goToCorner_6 : decode cX1_goToCorner 6 = .ok (.invokevirtual 37, 3) := by decide +kernel
theorem dX1_goToCorner_9 : decode cX1_goToCorner 9 = .ok (.aload_n 0, 1) := by decide +kernel
theorem dX1_goToCorner_10 : decode cX1_goToCorner 10 = .ok (.invokevirtual 41, 3) := by decide +kernel
theorem dX1_goToCorner_13 : decode cX1_goToCorner 13 = .ok (.istore_n 2, 1) := by decide +kernel
theorem dX1_goToCorner_14 : decode cX1_goToCorner 14 = .ok (.iconst 0, 1) := by decide +kernel
theorem dX1_goToCorner_15 : decode cX1_goToCorner 15 = .ok (.istore_n 3, 1) := by decide +kernel
theorem dX1_goToCorner_16 : decode cX1_goToCorner 16 = .ok (.iload_n 3, 1) := by decide +kernel
theorem dX1_goToCorner_17 : decode cX1_goToCorner 17 = .ok (.bipush 24, 2) := by decide +kernel
theorem dX1_goToCorner_19 : decode cX1_goToCorner 19 = .ok (.if_icmp .ge 27, 3) := by decide +kernel
theorem dX1_goToCorner_22 : decode cX1_goToCorner 22 = .ok (.iload_n 2, 1) := by decide +kernel
theorem dX1_goToCorner_23 : decode cX1_goToCorner 23 = .ok (.ifCond .le 23, 3) := by decide +kernel
theorem dX1_goToCorner_26 : decode cX1_goToCorner 26 = .ok (.aload_n 0, 1) := by decide +kernel
theorem dX1_goToCorner_27 : decode cX1_goToCorner 27 = .ok (.aload_n 0, 1) := by decide +kernel
theorem dX1_goToCorner_28 : decode cX1_goToCorner 28 = .ok (.iload_n 2, 1) := by decide +kernel
theorem dX1_goToCorner_29 : decode cX1_goToCorner 29 = .ok (.invokevirtual 33, 3) := by decide +kernel
theorem dX1_goToCorner_32 : decode cX1_goToCorner 32 = .ok (.invokevirtual 45, 3) := by decide +kernel
theorem dX1_goToCorner_35 : decode cX1_goToCorner 35 = .ok (.aload_n 0, 1) := by decide +kernel
theorem dX1_goToCorner_36 : decode cX1_goToCorner 36 = .ok (.invokevirtual 41, 3) := by decide +kernel
theorem dX1_goToCorner_39 : decode cX1_goToCorner 39 = .ok (.istore_n 2, 1) := by decide +kernel
theorem dX1_goToCorner_40 : decode cX1_goToCorner 40 = .ok (.iinc 3 1, 3) := by decide +kernel
theorem dX1_goToCorner_43 : decode cX1_goToCorner 43 = .ok (.goto (-27), 3) := by decide +kernel
theorem dX1_goToCorner_46 : decode cX1_goToCorner 46 = .ok (.return_, 1) := by decide +kernel
theorem dX1_dropCorner_0 : decode cX1_dropCorner 0 = .ok (.aload_n 0, 1) := by decide +kernel
theorem dX1_dropCorner_1 : decode cX1_dropCorner 1 = .ok (.getfield 12, 3) := by decide +kernel
theorem dX1_dropCorner_4 : decode cX1_dropCorner 4 = .ok (.getfield 48, 3) := by decide +kernel
theorem dX1_dropCorner_7 : decode cX1_dropCorner 7 = .ok (.aload_n 0, 1) := by decide +kernel
theorem dX1_dropCorner_8 : decode cX1_dropCorner 8 = .ok (.getfield 22, 3) := by decide +kernel
theorem dX1_dropCorner_11 : decode cX1_dropCorner 11 = .ok (.dup2, 1) := by decide +kernel
theorem dX1_dropCorner_12 : decode cX1_dropCorner 12 = .ok (.iaload, 1) := by decide +kernel
theorem dX1_dropCorner_13 : decode cX1_dropCorner 13 = .ok (.iconst 1, 1) := by decide +kernel
theorem dX1_dropCorner_14 : decode cX1_dropCorner 14 = .ok (.isub, 1) := by decide +kernel
theorem dX1_dropCorner_15 : decode cX1_dropCorner 15 = .ok (.iastore, 1) := by decide +kernel
theorem dX1_dropCorner_16 : decode cX1_dropCorner 16 = .ok (.return_, 1) := by decide +kernel
theorem dX1_countOthers_0 : decode cX1_countOthers 0 = .ok (.aload_n 0, 1) := by decide +kernel
theorem dX1_countOthers_1 : decode cX1_countOthers 1 = .ok (.getfield 12, 3) := by decide +kernel
theorem dX1_countOthers_4 : decode cX1_countOthers 4 = .ok (.aload_n 0, 1) := by decide +kernel
theorem dX1_countOthers_5 : decode cX1_countOthers 5 = .ok (.getfield 22, 3) := by decide +kernel
theorem dX1_countOthers_8 : decode cX1_countOthers 8 = .ok (.aload_n 0, 1) := by decide +kernel
theorem dX1_countOthers_9 : decode cX1_countOthers 9 = .ok (.getfield 26, 3) := by decide +kernel
theorem dX1_countOthers_12 : decode cX1_countOthers 12 = .ok (.invokevirtual 52, 3) := by decide +kernel
theorem dX1_countOthers_15 : decode cX1_countOthers 15 = .ok (.iconst 1, 1) := by decide +kernel
theorem dX1_countOthers_16 : decode cX1_countOthers 16 = .ok (.isub, 1) := by decide +kernel
theorem dX1_countOthers_17 : decode cX1_countOthers 17 = .ok (.ireturn, 1) := by decide +kernel
theorem dX1_nextBelow_0 : decode cX1_nextBelow 0 = .ok (.aload_n 0, 1) := by decide +kernel
theorem dX1_nextBelow_1 : decode cX1_nextBelow 1 = .ok (.aload_n 0, 1) := by decide +kernel
theorem dX1_nextBelow_2 : decode cX1_nextBelow 2 = .ok (.getfield 18, 3) := by decide +kernel
theorem dX1_nextBelow_5 : decode cX1_nextBelow 5 = .ok (.ldc2_w 56, 3) := by decide +kernel
theorem dX1_nextBelow_8 : decode cX1_nextBelow 8 = .ok (.lmul, 1) := by decide +kernel
theorem dX1_nextBelow_9 : decode cX1_nextBelow 9 = .ok (.ldc2_w 58, 3) := by decide +kernel
theorem dX1_nextBelow_12 : decode cX1_nextBelow 12 = .ok (.ladd, 1) := by decide +kernel
theorem dX1_nextBelow_13 : decode cX1_nextBelow 13 = .ok (.putfield 18, 3) := by decide +kernel
theorem dX1_nextBelow_16 : decode cX1_nextBelow 16 = .ok (.aload_n 0, 1) := by decide +kernel
theorem dX1_nextBelow_17 : decode cX1_nextBelow 17 = .ok (.getfield 18, 3) := by decide +kernel
theorem dX1_nextBelow_20 : decode cX1_nextBelow 20 = .ok (.bipush 33, 2) := by decide +kernel
theorem dX1_nextBelow_22 : decode cX1_nextBelow 22 = .ok (.lushr, 1) := by decide +kernel
theorem dX1_nextBelow_23 : decode cX1_nextBelow 23 = .ok (.iload_n 1, 1) := by decide +kernel
theorem dX1_nextBelow_24 : decode cX1_nextBelow 24 = .ok (.i2l, 1) := by decide +kernel
theorem dX1_nextBelow_25 : decode cX1_nextBelow 25 = .ok (.lrem, 1) := by decide +kernel
theorem dX1_nextBelow_26 : decode cX1_nextBelow 26 = .ok (.l2i, 1) := by decide +kernel
theorem dX1_nextBelow_27 : decode cX1_nextBelow 27 = .ok (.ireturn, 1) := by decide +kernel
theorem dX1_goToBox_0 : decode cX1_goToBox 0 = .ok (.aload_n 0, 1) := by decide +kernel
theorem dX1_goToBox_1 : decode cX1_goToBox 1 = .ok (.iconst 0, 1) := by decide +kernel
theorem dX1_goToBox_2 : decode cX1_goToBox 2 = .ok (.putfield 22, 3) := by decide +kernel
theorem dX1_goToBox_5 : decode cX1_goToBox 5 = .ok (.aload_n 0, 1) := by decide +kernel
theorem dX1_goToBox_6 : decode cX1_goToBox 6 = .ok (.iload_n 1, 1) := by decide +kernel
theorem dX1_goToBox_7 : decode cX1_goToBox 7 = .ok (.putfield 26, 3) := by decide +kernel
theorem dX1_goToBox_10 : decode cX1_goToBox 10 = .ok (.aload_n 0, 1) := by decide +kernel
theorem dX1_goToBox_11 : decode cX1_goToBox 11 = .ok (.getfield 22, 3) := by decide +kernel
theorem dX1_goToBox_14 : decode cX1_goToBox 14 = .ok (.bipush 7, 2) := by decide +kernel
theorem dX1_goToBox_16 : decode cX1_goToBox 16 = .ok (.if_icmp .ge 56, 3) := by decide +kernel
theorem dX1_goToBox_19 : decode cX1_goToBox 19 = .ok (.aload_n 0, 1) := by decide +kernel
theorem dX1_goToBox_20 : decode cX1_goToBox 20 = .ok (.getfield 26, 3) := by decide +kernel
theorem dX1_goToBox_23 : decode cX1_goToBox 23 = .ok (.aload_n 0, 1) := by decide +kernel
theorem dX1_goToBox_24 : decode cX1_goToBox 24 = .ok (.getfield 12, 3) := by decide +kernel
theorem dX1_goToBox_27 : decode cX1_goToBox 27 = .ok (.getfield 48, 3) := by decide +kernel
theorem dX1_goToBox_30 : decode cX1_goToBox 30 = .ok (.aload_n 0, 1) := by decide +kernel
theorem dX1_goToBox_31 : decode cX1_goToBox 31 = .ok (.getfield 22, 3) := by decide +kernel
theorem dX1_goToBox_34 : decode cX1_goToBox 34 = .ok (.iaload, 1) := by decide +kernel
theorem dX1_goToBox_35 : decode cX1_goToBox 35 = .ok (.if_icmp .lt 37, 3) := by decide +kernel
theorem dX1_goToBox_38 : decode cX1_goToBox 38 = .ok (.aload_n 0, 1) := by decide +kernel
theorem dX1_goToBox_39 : decode cX1_goToBox 39 = .ok (.dup, 1) := by decide +kernel
theorem dX1_goToBox_40 : decode cX1_goToBox 40 = .ok (.getfield 26, 3) := by decide +kernel
theorem dX1_goToBox_43 : decode cX1_goToBox 43 = .ok (.aload_n 0, 1) := by decide +kernel
theorem dX1_goToBox_44 : decode cX1_goToBox 44 = .ok (.getfield 12, 3) := by decide +kernel
theorem dX1_goToBox_47 : decode cX1_goToBox 47 = .ok (.getfield 48, 3) := by decide +kernel
theorem dX1_goToBox_50 : decode cX1_goToBox 50 = .ok (.aload_n 0, 1) := by decide +kernel
theorem dX1_goToBox_51 : decode cX1_goToBox 51 = .ok (.getfield 22, 3) := by decide +kernel
theorem dX1_goToBox_54 : decode cX1_goToBox 54 = .ok (.iaload, 1) := by decide +kernel
theorem dX1_goToBox_55 : decode cX1_goToBox 55 = .ok (.isub, 1) := by decide +kernel
theorem dX1_goToBox_56 : decode cX1_goToBox 56 = .ok (.putfield 26, 3) := by decide +kernel
theorem dX1_goToBox_59 : decode cX1_goToBox 59 = .ok (.aload_n 0, 1) := by decide +kernel
theorem dX1_goToBox_60 : decode cX1_goToBox 60 = .ok (.dup, 1) := by decide +kernel
theorem dX1_goToBox_61 : decode cX1_goToBox 61 = .ok (.getfield 22, 3) := by decide +kernel
theorem dX1_goToBox_64 : decode cX1_goToBox 64 = .ok (.iconst 1, 1) := by decide +kernel
theorem dX1_goToBox_65 : decode cX1_goToBox 65 = .ok (.iadd, 1) := by decide +kernel
theorem dX1_goToBox_66 : decode cX1_goToBox 66 = .ok (.putfield 22, 3) := by decide +kernel
theorem dX1_goToBox_69 : decode cX1_goToBox 69 = .ok (.goto (-59), 3) := by decide +kernel
theorem dX1_goToBox_72 : decode cX1_goToBox 72 = .ok (.return_, 1) := by decide +kernel
theorem dX1_goOn_0 : decode cX1_goOn 0 = .ok (.aload_n 0, 1) := by decide +kernel
theorem dX1_goOn_1 : decode cX1_goOn 1 = .ok (.getfield 12, 3) := by decide +kernel
theorem dX1_goOn_4 : decode cX1_goOn 4 = .ok (.aload_n 0, 1) := by decide +kernel
theorem dX1_goOn_5 : decode cX1_goOn 5 = .ok (.getfield 22, 3) := by decide +kernel
theorem dX1_goOn_8 : decode cX1_goOn 8 = .ok (.aload_n 0, 1) := by decide +kernel
theorem dX1_goOn_9 : decode cX1_goOn 9 = .ok (.getfield 26, 3) := by decide +kernel
theorem dX1_goOn_12 : decode cX1_goOn 12 = .ok (.invokevirtual 60, 3) := by decide +kernel
theorem dX1_goOn_15 : decode cX1_goOn 15 = .ok (.istore_n 2, 1) := by decide +kernel
theorem dX1_goOn_16 : decode cX1_goOn 16 = .ok (.iload_n 1, 1) := by decide +kernel
theorem dX1_goOn_17 : decode cX1_goOn 17 = .ok (.iload_n 2, 1) := by decide +kernel
theorem dX1_goOn_18 : decode cX1_goOn 18 = .ok (.if_icmp .ge 18, 3) := by decide +kernel
theorem dX1_goOn_21 : decode cX1_goOn 21 = .ok (.aload_n 0, 1) := by decide +kernel
theorem dX1_goOn_22 : decode cX1_goOn 22 = .ok (.dup, 1) := by decide +kernel
theorem dX1_goOn_23 : decode cX1_goOn 23 = .ok (.getfield 26, 3) := by decide +kernel
theorem dX1_goOn_26 : decode cX1_goOn 26 = .ok (.iload_n 1, 1) := by decide +kernel
theorem dX1_goOn_27 : decode cX1_goOn 27 = .ok (.iconst 1, 1) := by decide +kernel
theorem dX1_goOn_28 : decode cX1_goOn 28 = .ok (.iadd, 1) := by decide +kernel
theorem dX1_goOn_29 : decode cX1_goOn 29 = .ok (.iadd, 1) := by decide +kernel
theorem dX1_goOn_30 : decode cX1_goOn 30 = .ok (.putfield 26, 3) := by decide +kernel
theorem dX1_goOn_33 : decode cX1_goOn 33 = .ok (.goto 17, 3) := by decide +kernel
theorem dX1_goOn_36 : decode cX1_goOn 36 = .ok (.aload_n 0, 1) := by decide +kernel
theorem dX1_goOn_37 : decode cX1_goOn 37 = .ok (.dup, 1) := by decide +kernel
theorem dX1_goOn_38 : decode cX1_goOn 38 = .ok (.getfield 22, 3) := by decide +kernel
theorem dX1_goOn_41 : decode cX1_goOn 41 = .ok (.iload_n 1, 1) := by decide +kernel
theorem dX1_goOn_42 : decode cX1_goOn 42 = .ok (.iload_n 2, 1) := by decide +kernel
theorem dX1_goOn_43 : decode cX1_goOn 43 = .ok (.isub, 1) := by decide +kernel
theorem dX1_goOn_44 : decode cX1_goOn 44 = .ok (.iconst 1, 1) := by decide +kernel
theorem dX1_goOn_45 : decode cX1_goOn 45 = .ok (.iadd, 1) := by decide +kernel
theorem dX1_goOn_46 : decode cX1_goOn 46 = .ok (.iadd, 1) := by decide +kernel
theorem dX1_goOn_47 : decode cX1_goOn 47 = .ok (.putfield 22, 3) := by decide +kernel
theorem dX1_goOn_50 : decode cX1_goOn 50 = .ok (.return_, 1) := by decide +kernel
theorem dX2_init_0 : decode cX2_init 0 = .ok (.aload_n 0, 1) := by decide +kernel
theorem dX2_init_1 : decode cX2_init 1 = .ok (.invokespecial 3, 3) := by decide +kernel
theorem dX2_init_4 : decode cX2_init 4 = .ok (.aload_n 0, 1) := by decide +kernel
theorem dX2_init_5 : decode cX2_init 5 = .ok (.bipush 24, 2) := by decide +kernel
theorem dX2_init_7 : decode cX2_init 7 = .ok (.newarray .int, 2) := by decide +kernel
theorem dX2_init_9 : decode cX2_init 9 = .ok (.putfield 9, 3) := by decide +kernel
theorem dX2_init_12 : decode cX2_init 12 = .ok (.aload_n 0, 1) := by decide +kernel
theorem dX2_init_13 : decode cX2_init 13 = .ok (.bipush 24, 2) := by decide +kernel
theorem dX2_init_15 : decode cX2_init 15 = .ok (.newarray .int, 2) := by decide +kernel
theorem dX2_init_17 : decode cX2_init 17 = .ok (.putfield 15, 3) := by decide +kernel
theorem dX2_init_20 : decode cX2_init 20 = .ok (.aload_n 0, 1) := by decide +kernel
theorem dX2_init_21 : decode cX2_init 21 = .ok (.bipush 24, 2) := by decide +kernel
theorem dX2_init_23 : decode cX2_init 23 = .ok (.newarray .int, 2) := by decide +kernel
theorem dX2_init_25 : decode cX2_init 25 = .ok (.putfield 18, 3) := by decide +kernel
theorem dX2_init_28 : decode cX2_init 28 = .ok (.aload_n 0, 1) := by decide +kernel
theorem dX2_init_29 : decode cX2_init 29 = .ok (.bipush 9, 2) := by decide +kernel
theorem dX2_init_31 : decode cX2_init 31 = .ok (.newarray .int, 2) := by decide +kernel
theorem dX2_init_33 : decode cX2_init 33 = .ok (.putfield 21, 3) := by decide +kernel
theorem dX2_init_36 : decode cX2_init 36 = .ok (.aload_n 0, 1) := by decide +kernel
theorem dX2_init_37 : decode cX2_init 37 = .ok (.new 24, 3) := by decide +kernel
theorem dX2_init_40 : decode cX2_init 40 = .ok (.dup, 1) := by decide +kernel
theorem dX2_init_41 : decode cX2_init 41 = .ok (.invokespecial 26, 3) := by decide +kernel
theorem dX2_init_44 : decode cX2_init 44 = .ok (.putfield 27, 3) := by decide +kernel
theorem dX2_init_47 : decode cX2_init 47 = .ok (.aload_n 0, 1) := by decide +kernel
theorem dX2_init_48 : decode cX2_init 48 = .ok (.iconst 0, 1) := by decide +kernel
theorem dX2_init_49 : decode cX2_init 49 = .ok (.putfield 31, 3) := by decide +kernel
theorem dX2_init_52 : decode cX2_init 52 = .ok (.return_, 1) := by decide +kernel
theorem dX2_count_0 : decode cX2_count 0 = .ok (.aload_n 0, 1) := by decide +kernel
theorem dX2_count_1 : decode cX2_count 1 = .ok (.getfield 27, 3) := by decide +kernel
theorem dX2_count_4 : decode cX2_count 4 = .ok (.aload_n 2, 1) := by decide +kernel
theorem dX2_count_5 : decode cX2_count 5 = .ok (.invokevirtual 35, 3) := by decide +kernel
theorem dX2_count_8 : decode cX2_count 8 = .ok (.aload_n 0, 1) := by decide +kernel
theorem dX2_count_9 : decode cX2_count 9 = .ok (.iconst 0, 1) := by decide +kernel
theorem dX2_count_10 : decode cX2_count 10 = .ok (.putfield 31, 3) := by decide +kernel
theorem dX2_count_13 : decode cX2_count 13 = .ok (.iconst 0, 1) := by decide +kernel
theorem dX2_count_14 : decode cX2_count 14 = .ok (.istore 4, 2) := by decide +kernel
theorem dX2_count_16 : decode cX2_count 16 = .ok (.iconst 0, 1) := by decide +kernel
theorem dX2_count_17 : decode cX2_count 17 = .ok (.istore 5, 2) := by decide +kernel
theorem dX2_count_19 : decode cX2_count 19 = .ok (.iload 5, 2) := by decide +kernel
theorem dX2_count_21 : decode cX2_count 21 = .ok (.bipush 8, 2) := by decide +kernel
theorem dX2_count_23 : decode cX2_count 23 = .ok (.if_icmp .ge 147, 3) := by decide +kernel
theorem dX2_count_26 : decode cX2_count 26 = .ok (.aload_n 0, 1) := by decide +kernel
theorem dX2_count_27 : decode cX2_count 27 = .ok (.getfield 31, 3) := by decide +kernel
theorem dX2_count_30 : decode cX2_count 30 = .ok (.istore 6, 2) := by decide +kernel
theorem dX2_count_32 : decode cX2_count 32 = .ok (.aload_n 3, 1) := by decide +kernel
theorem dX2_count_33 : decode cX2_count 33 = .ok (.getfield 39, 3) := by decide +kernel
theorem dX2_count_36 : decode cX2_count 36 = .ok (.iload 5, 2) := by decide +kernel
theorem dX2_count_38 : decode cX2_count 38 = .ok (.iaload, 1) := by decide +kernel
theorem dX2_count_39 : decode cX2_count 39 = .ok (.iconst 1, 1) := by decide +kernel
theorem dX2_count_40 : decode cX2_count 40 = .ok (.isub, 1) := by decide +kernel
theorem dX2_count_41 : decode cX2_count 41 = .ok (.istore 7, 2) := by decide +kernel
theorem dX2_count_43 : decode cX2_count 43 = .ok (.iload 7, 2) := by decide +kernel
theorem dX2_count_45 : decode cX2_count 45 = .ok (.aload_n 1, 1) := by decide +kernel
theorem dX2_count_46 : decode cX2_count 46 = .ok (.getfield 39, 3) := by decide +kernel
theorem dX2_count_49 : decode cX2_count 49 = .ok (.iload 5, 2) := by decide +kernel
theorem dX2_count_51 : decode cX2_count 51 = .ok (.iaload, 1) := by decide +kernel
theorem dX2_count_52 : decode cX2_count 52 = .ok (.if_icmp .lt 108, 3) := by decide +kernel
theorem dX2_count_55 : decode cX2_count 55 = .ok (.iload 5, 2) := by decide +kernel
theorem dX2_count_57 : decode cX2_count 57 = .ok (.ifCond .le 21, 3) := by decide +kernel
theorem dX2_count_60 : decode cX2_count 60 = .ok (.iload 7, 2) := by decide +kernel
theorem dX2_count_62 : decode cX2_count 62 = .ok (.aload_n 1, 1) := by decide +kernel
theorem dX2_count_63 : decode cX2_count 63 = .ok (.getfield 39, 3) := by decide +kernel
theorem dX2_count_66 : decode cX2_count 66 = .ok (.iload 5, 2) := by decide +kernel
theorem dX2_count_68 : decode cX2_count 68 = .ok (.iconst 1, 1) := by decide +kernel
theorem dX2_count_69 : decode cX2_count 69 = .ok (.isub, 1) := by decide +kernel
theorem dX2_count_70 : decode cX2_count 70 = .ok (.iaload, 1) := by decide +kernel
theorem dX2_count_71 : decode cX2_count 71 = .ok (.if_icmp .lt 7, 3) := by decide +kernel
theorem dX2_count_74 : decode cX2_count 74 = .ok (.iconst 1, 1) := by decide +kernel
theorem dX2_count_75 : decode cX2_count 75 = .ok (.goto 4, 3) := by decide +kernel
theorem dX2_count_78 : decode cX2_count 78 = .ok (.iconst 0, 1) := by decide +kernel
theorem dX2_count_79 : decode cX2_count 79 = .ok (.istore 8, 2) := by decide +kernel
theorem dX2_count_81 : decode cX2_count 81 = .ok (.aload_n 0, 1) := by decide +kernel
theorem dX2_count_82 : decode cX2_count 82 = .ok (.getfield 15, 3) := by decide +kernel
theorem dX2_count_85 : decode cX2_count 85 = .ok (.aload_n 0, 1) := by decide +kernel
theorem dX2_count_86 : decode cX2_count 86 = .ok (.getfield 31, 3) := by decide +kernel
theorem dX2_count_89 : decode cX2_count 89 = .ok (.iload 8, 2) := by decide +kernel
theorem dX2_count_91 : decode cX2_count 91 = .ok (.ifCond .eq 23, 3) := by decide +kernel
theorem dX2_count_94 : decode cX2_count 94 = .ok (.iload 4, 2) := by decide +kernel
theorem dX2_count_96 : decode cX2_count 96 = .ok (.aload_n 3, 1) := by decide +kernel
theorem dX2_count_97 : decode cX2_count 97 = .ok (.getfield 39, 3) := by decide +kernel
theorem dX2_count_100 : decode cX2_count 100 = .ok (.iload 5, 2) := by decide +kernel
theorem dX2_count_102 : decode cX2_count 102 = .ok (.iconst 1, 1) := by decide +kernel
theorem dX2_count_103 : decode cX2_count 103 = .ok (.isub, 1) := by decide +kernel
theorem dX2_count_104 : decode cX2_count 104 = .ok (.iaload, 1) := by decide +kernel
theorem dX2_count_105 : decode cX2_count 105 = .ok (.iadd, 1) := by decide +kernel
theorem dX2_count_106 : decode cX2_count 106 = .ok (.iconst 1, 1) := by decide +kernel
theorem dX2_count_107 : decode cX2_count 107 = .ok (.isub, 1) := by decide +kernel
theorem dX2_count_108 : decode cX2_count 108 = .ok (.iload 7, 2) := by decide +kernel
theorem dX2_count_110 : decode cX2_count 110 = .ok (.isub, 1) := by decide +kernel
theorem dX2_count_111 : decode cX2_count 111 = .ok (.goto 4, 3) := by decide +kernel
theorem dX2_count_114 : decode cX2_count 114 = .ok (.iconst (-1), 1) := by decide +kernel
theorem dX2_count_115 : decode cX2_count 115 = .ok (.iastore, 1) := by decide +kernel
theorem dX2_count_116 : decode cX2_count 116 = .ok (.aload_n 0, 1) := by decide +kernel
theorem dX2_count_117 : decode cX2_count 117 = .ok (.getfield 18, 3) := by decide +kernel
theorem dX2_count_120 : decode cX2_count 120 = .ok (.aload_n 0, 1) := by decide +kernel
theorem dX2_count_121 : decode cX2_count 121 = .ok (.getfield 31, 3) := by decide +kernel
theorem dX2_count_124 : decode cX2_count 124 = .ok (.aload_n 0, 1) := by decide +kernel
theorem dX2_count_125 : decode cX2_count 125 = .ok (.getfield 31, 3) := by decide +kernel
theorem dX2_count_128 : decode cX2_count 128 = .ok (.iload 6, 2) := by decide +kernel
theorem dX2_count_130 : decode cX2_count 130 = .ok (.if_icmp .le 12, 3) := by decide +kernel
theorem dX2_count_133 : decode cX2_count 133 = .ok (.aload_n 0, 1) := by decide +kernel
theorem dX2_count_134 : decode cX2_count 134 = .ok (.getfield 31, 3) := by decide +kernel
theorem dX2_count_137 : decode cX2_count 137 = .ok (.iconst 1, 1) := by decide +kernel
theorem dX2_count_138 : decode cX2_count 138 = .ok (.isub, 1) := by decide +kernel
theorem dX2_count_139 : decode cX2_count 139 = .ok (.goto 4, 3) := by decide +kernel
theorem dX2_count_142 : decode cX2_count 142 = .ok (.iconst (-1), 1) := by decide +kernel
theorem dX2_count_143 : decode cX2_count 143 = .ok (.iastore, 1) := by decide +kernel
theorem dX2_count_144 : decode cX2_count 144 = .ok (.aload_n 0, 1) := by decide +kernel
theorem dX2_count_145 : decode cX2_count 145 = .ok (.dup, 1) := by decide +kernel
theorem dX2_count_146 : decode cX2_count 146 = .ok (.getfield 31, 3) := by decide +kernel
theorem dX2_count_149 : decode cX2_count 149 = .ok (.iconst 1, 1) := by decide +kernel
theorem dX2_count_150 : decode cX2_count 150 = .ok (.iadd, 1) := by decide +kernel
theorem dX2_count_151 : decode cX2_count 151 = .ok (.putfield 31, 3) := by decide +kernel
theorem dX2_count_154 : decode cX2_count 154 = .ok (.iinc 7 (-1), 3) := by decide +kernel
theorem dX2_count_157 : decode cX2_count 157 = .ok (.goto (-114), 3) := by decide +kernel
theorem dX2_count_160 : decode cX2_count 160 = .ok (.iload 6, 2) := by decide +kernel
theorem dX2_count_162 : decode cX2_count 162 = .ok (.istore 4, 2) := by decide +kernel
theorem dX2_count_164 : decode cX2_count 164 = .ok (.iinc 5 1, 3) := by decide +kernel
theorem dX2_count_167 : decode cX2_count 167 = .ok (.goto (-148), 3) := by decide +kernel
theorem dX2_count_170 : decode cX2_count 170 = .ok (.aload_n 0, 1) := by decide +kernel
theorem dX2_count_171 : decode cX2_count 171 = .ok (.getfield 21, 3) := by decide +kernel
theorem dX2_count_174 : decode cX2_count 174 = .ok (.iconst 0, 1) := by decide +kernel
theorem dX2_count_175 : decode cX2_count 175 = .ok (.invokestatic 42, 3) := by decide +kernel
theorem dX2_count_178 : decode cX2_count 178 = .ok (.aload_n 0, 1) := by decide +kernel
theorem dX2_count_179 : decode cX2_count 179 = .ok (.getfield 21, 3) := by decide +kernel
theorem dX2_count_182 : decode cX2_count 182 = .ok (.iconst 0, 1) := by decide +kernel
theorem dX2_count_183 : decode cX2_count 183 = .ok (.bipush 24, 2) := by decide +kernel
theorem dX2_count_185 : decode cX2_count 185 = .ok (.iastore, 1) := by decide +kernel
theorem dX2_count_186 : decode cX2_count 186 = .ok (.aload_n 0, 1) := by decide +kernel
theorem dX2_count_187 : decode cX2_count 187 = .ok (.iconst 0, 1) := by decide +kernel
theorem dX2_count_188 : decode cX2_count 188 = .ok (.invokevirtual 48, 3) := by decide +kernel
theorem dX2_count_191 : decode cX2_count 191 = .ok (.lreturn, 1) := by decide +kernel
theorem dX2_countFrom_0 : decode cX2_countFrom 0 = .ok (.iload_n 1, 1) := by decide +kernel
theorem dX2_countFrom_1 : decode cX2_countFrom 1 = .ok (.aload_n 0, 1) := by decide +kernel
theorem dX2_countFrom_2 : decode cX2_countFrom 2 = .ok (.getfield 31, 3) := by decide +kernel
theorem dX2_countFrom_5 : decode cX2_countFrom 5 = .ok (.if_icmp .lt 5, 3) := by decide +kernel
theorem dX2_countFrom_8 : decode cX2_countFrom 8 = .ok (.lconst 1, 1) := by decide +kernel
theorem dX2_countFrom_9 : decode cX2_countFrom 9 = .ok (.lreturn, 1) := by decide +kernel
theorem dX2_countFrom_10 : decode cX2_countFrom 10 = .ok (.aload_n 0, 1) := by decide +kernel
theorem dX2_countFrom_11 : decode cX2_countFrom 11 = .ok (.getfield 15, 3) := by decide +kernel
theorem dX2_countFrom_14 : decode cX2_countFrom 14 = .ok (.iload_n 1, 1) := by decide +kernel
theorem dX2_countFrom_15 : decode cX2_countFrom 15 = .ok (.iaload, 1) := by decide +kernel
theorem dX2_countFrom_16 : decode cX2_countFrom 16 = .ok (.iconst (-1), 1) := by decide +kernel
theorem dX2_countFrom_17 : decode cX2_countFrom 17 = .ok (.if_icmp .ne 7, 3) := by decide +kernel
theorem dX2_countFrom_20 : decode cX2_countFrom 20 = .ok (.iconst 1, 1) := by decide +kernel
theorem dX2_countFrom_21 : decode cX2_countFrom 21 = .ok (.goto 16, 3) := by decide +kernel
theorem dX2_countFrom_24 : decode cX2_countFrom 24 = .ok (.aload_n 0, 1) := by decide +kernel
theorem dX2_countFrom_25 : decode cX2_countFrom 25 = .ok (.getfield 9, 3) := by decide +kernel
theorem dX2_countFrom_28 : decode cX2_countFrom 28 = .ok (.aload_n 0, 1) := by decide +kernel
theorem dX2_countFrom_29 : decode cX2_countFrom 29 = .ok (.getfield 15, 3) := by decide +kernel
theorem dX2_countFrom_32 : decode cX2_countFrom 32 = .ok (.iload_n 1, 1) := by decide +kernel
theorem dX2_countFrom_33 : decode cX2_countFrom 33 = .ok (.iaload, 1) := by decide +kernel
theorem dX2_countFrom_34 : decode cX2_countFrom 34 = .ok (.iaload, 1) := by decide +kernel
theorem dX2_countFrom_35 : decode cX2_countFrom 35 = .ok (.iconst 1, 1) := by decide +kernel
theorem dX2_countFrom_36 : decode cX2_countFrom 36 = .ok (.iadd, 1) := by decide +kernel
theorem dX2_countFrom_37 : decode cX2_countFrom 37 = .ok (.istore_n 2, 1) := by decide +kernel
theorem dX2_countFrom_38 : decode cX2_countFrom 38 = .ok (.aload_n 0, 1) := by decide +kernel
theorem dX2_countFrom_39 : decode cX2_countFrom 39 = .ok (.getfield 18, 3) := by decide +kernel
theorem dX2_countFrom_42 : decode cX2_countFrom 42 = .ok (.iload_n 1, 1) := by decide +kernel
theorem dX2_countFrom_43 : decode cX2_countFrom 43 = .ok (.iaload, 1) := by decide +kernel
theorem dX2_countFrom_44 : decode cX2_countFrom 44 = .ok (.iconst (-1), 1) := by decide +kernel
theorem dX2_countFrom_45 : decode cX2_countFrom 45 = .ok (.if_icmp .ne 8, 3) := by decide +kernel
theorem dX2_countFrom_48 : decode cX2_countFrom 48 = .ok (.bipush 8, 2) := by decide +kernel
theorem dX2_countFrom_50 : decode cX2_countFrom 50 = .ok (.goto 14, 3) := by decide +kernel
theorem dX2_countFrom_53 : decode cX2_countFrom 53 = .ok (.aload_n 0, 1) := by decide +kernel
theorem dX2_countFrom_54 : decode cX2_countFrom 54 = .ok (.getfield 9, 3) := by decide +kernel
theorem dX2_countFrom_57 : decode cX2_countFrom 57 = .ok (.aload_n 0, 1) := by decide +kernel
theorem dX2_countFrom_58 : decode cX2_countFrom 58 = .ok (.getfield 18, 3) := by decide +kernel
theorem dX2_countFrom_61 : decode cX2_countFrom 61 = .ok (.iload_n 1, 1) := by decide +kernel
theorem dX2_countFrom_62 : decode cX2_countFrom 62 = .ok (.iaload, 1) := by decide +kernel
theorem dX2_countFrom_63 : decode cX2_countFrom 63 = .ok (.iaload, 1) := by decide +kernel
theorem dX2_countFrom_64 : decode cX2_countFrom 64 = .ok (.istore_n 3, 1) := by decide +kernel
theorem dX2_countFrom_65 : decode cX2_countFrom 65 = .ok (.lconst 0, 1) := by decide +kernel
theorem dX2_countFrom_66 : decode cX2_countFrom 66 = .ok (.lstore 4, 2) := by decide +kernel
theorem dX2_countFrom_68 : decode cX2_countFrom 68 = .ok (.iload_n 2, 1) := by decide +kernel
theorem dX2_countFrom_69 : decode cX2_countFrom 69 = .ok (.istore 6, 2) := by decide +kernel
theorem dX2_countFrom_71 : decode cX2_countFrom 71 = .ok (.iload 6, 2) := by decide +kernel
theorem dX2_countFrom_73 : decode cX2_countFrom 73 = .ok (.iload_n 3, 1) := by decide +kernel
theorem dX2_countFrom_74 : decode cX2_countFrom 74 = .ok (.if_icmp .gt 92, 3) := by decide +kernel
theorem dX2_countFrom_77 : decode cX2_countFrom 77 = .ok (.aload_n 0, 1) := by decide +kernel
theorem dX2_countFrom_78 : decode cX2_countFrom 78 = .ok (.getfield 21, 3) := by decide +kernel
theorem dX2_countFrom_81 : decode cX2_countFrom 81 = .ok (.iload 6, 2) := by decide +kernel
theorem dX2_countFrom_83 : decode cX2_countFrom 83 = .ok (.iaload, 1) := by decide +kernel
theorem dX2_countFrom_84 : decode cX2_countFrom 84 = .ok (.aload_n 0, 1) := by decide +kernel
theorem dX2_countFrom_85 : decode cX2_countFrom 85 = .ok (.getfield 27, 3) := by decide +kernel
theorem dX2_countFrom_88 : decode cX2_countFrom 88 = .ok (.getfield 39, 3) := by decide +kernel
theorem dX2_countFrom_91 : decode cX2_countFrom 91 = .ok (.iload 6, 2) := by decide +kernel
theorem dX2_countFrom_93 : decode cX2_countFrom 93 = .ok (.iconst 1, 1) := by decide +kernel
theorem dX2_countFrom_94 : decode cX2_countFrom 94 = .ok (.isub, 1) := by decide +kernel
theorem dX2_countFrom_95 : decode cX2_countFrom 95 = .ok (.iaload, 1) := by decide +kernel
theorem dX2_countFrom_96 : decode cX2_countFrom 96 = .ok (.if_icmp .ge 64, 3) := by decide +kernel
theorem dX2_countFrom_99 : decode cX2_countFrom 99 = .ok (.aload_n 0, 1) := by decide +kernel
theorem dX2_countFrom_100 : decode cX2_countFrom 100 = .ok (.getfield 21, 3) := by decide +kernel
theorem dX2_countFrom_103 : decode cX2_countFrom 103 = .ok (.iload 6, 2) := by decide +kernel
theorem dX2_countFrom_105 : decode cX2_countFrom 105 = .ok (.iaload, 1) := by decide +kernel
theorem dX2_countFrom_106 : decode cX2_countFrom 106 = .ok (.aload_n 0, 1) := by decide +kernel
theorem dX2_countFrom_107 : decode cX2_countFrom 107 = .ok (.getfield 21, 3) := by decide +kernel
theorem dX2_countFrom_110 : decode cX2_countFrom 110 = .ok (.iload 6, 2) := by decide +kernel
theorem dX2_countFrom_112 : decode cX2_countFrom 112 = .ok (.iconst 1, 1) := by decide +kernel
theorem dX2_countFrom_113 : decode cX2_countFrom 113 = .ok (.isub, 1) := by decide +kernel
theorem dX2_countFrom_114 : decode cX2_countFrom 114 = .ok (.iaload, 1) := by decide +kernel
theorem dX2_countFrom_115 : decode cX2_countFrom 115 = .ok (.if_icmp .ge 45, 3) := by decide +kernel
theorem dX2_countFrom_118 : decode cX2_countFrom 118 = .ok (.aload_n 0, 1) := by decide +kernel
theorem dX2_countFrom_119 : decode cX2_countFrom 119 = .ok (.getfield 9, 3) := by decide +kernel
theorem dX2_countFrom_122 : decode cX2_countFrom 122 = .ok (.iload_n 1, 1) := by decide +kernel
theorem dX2_countFrom_123 : decode cX2_countFrom 123 = .ok (.iload 6, 2) := by decide +kernel
theorem dX2_countFrom_125 : decode cX2_countFrom 125 = .ok (.iastore, 1) := by decide +kernel
theorem dX2_countFrom_126 : decode cX2_countFrom 126 = .ok (.aload_n 0, 1) := by decide +kernel
theorem dX2_countFrom_127 : decode cX2_countFrom 127 = .ok (.getfield 21, 3) := by decide +kernel
theorem dX2_countFrom_130 : decode cX2_countFrom 130 = .ok (.iload 6, 2) := by decide +kernel
theorem dX2_countFrom_132 : decode cX2_countFrom 132 = .ok (.dup2, 1) := by decide +kernel
theorem dX2_countFrom_133 : decode cX2_countFrom 133 = .ok (.iaload, 1) := by decide +kernel
theorem dX2_countFrom_134 : decode cX2_countFrom 134 = .ok (.iconst 1, 1) := by decide +kernel
theorem dX2_countFrom_135 : decode cX2_countFrom 135 = .ok (.iadd, 1) := by decide +kernel
theorem dX2_countFrom_136 : decode cX2_countFrom 136 = .ok (.iastore, 1) := by decide +kernel
theorem dX2_countFrom_137 : decode cX2_countFrom 137 = .ok (.lload 4, 2) := by decide +kernel
theorem dX2_countFrom_139 : decode cX2_countFrom 139 = .ok (.aload_n 0, 1) := by decide +kernel
theorem dX2_countFrom_140 : decode cX2_countFrom 140 = .ok (.iload_n 1, 1) := by decide +kernel
theorem dX2_countFrom_141 : decode cX2_countFrom 141 = .ok (.iconst 1, 1) := by decide +kernel
theorem dX2_countFrom_142 : decode cX2_countFrom 142 = .ok (.iadd, 1) := by decide +kernel
theorem dX2_countFrom_143 : decode cX2_countFrom 143 = .ok (.invokevirtual 48, 3) := by decide +kernel
theorem dX2_countFrom_146 : decode cX2_countFrom 146 = .ok (.ladd, 1) := by decide +kernel
theorem dX2_countFrom_147 : decode cX2_countFrom 147 = .ok (.lstore 4, 2) := by decide +kernel
theorem dX2_countFrom_149 : decode cX2_countFrom 149 = .ok (.aload_n 0, 1) := by decide +kernel
theorem dX2_countFrom_150 : decode cX2_countFrom 150 = .ok (.getfield 21, 3) := by decide +kernel
theorem dX2_countFrom_153 : decode cX2_countFrom 153 = .ok (.iload 6, 2) := by decide +kernel
theorem dX2_countFrom_155 : decode cX2_countFrom 155 = .ok (.dup2, 1) := by decide +kernel
theorem dX2_countFrom_156 : decode cX2_countFrom 156 = .ok (.iaload, 1) := by decide +kernel
theorem dX2_countFrom_157 : decode cX2_countFrom 157 = .ok (.iconst 1, 1) := by decide +kernel
theorem dX2_countFrom_158 : decode cX2_countFrom 158 = .ok (.isub, 1) := by decide +kernel
theorem dX2_countFrom_159 : decode cX2_countFrom 159 = .ok (.iastore, 1) := by decide +kernel
theorem dX2_countFrom_160 : decode cX2_countFrom 160 = .ok (.iinc 6 1, 3) := by decide +kernel
theorem dX2_countFrom_163 : decode cX2_countFrom 163 = .ok (.goto (-92), 3) := by decide +kernel
theorem dX2_countFrom_166 : decode cX2_countFrom 166 = .ok (.lload 4, 2) := by decide +kernel
theorem dX2_countFrom_168 : decode cX2_countFrom 168 = .ok (.lreturn, 1) := by decide +kernel
theorem dX3_characterOf_0 : decode cX3_characterOf 0 = .ok (.iconst 0, 1) := by decide +kernel
theorem dX3_characterOf_1 : decode cX3_characterOf 1 = .ok (.aload_n 0, 1) := by decide +kernel
theorem dX3_characterOf_2 : decode cX3_characterOf 2 = .ok (.invokestatic 9, 3) := by decide +kernel
theorem dX3_characterOf_5 : decode cX3_characterOf 5 = .ok (.aload_n 1, 1) := by decide +kernel
theorem dX3_characterOf_6 : decode cX3_characterOf 6 = .ok (.invokestatic 15, 3) := by decide +kernel
theorem dX3_characterOf_9 : decode cX3_characterOf 9 = .ok (.lreturn, 1) := by decide +kernel
theorem dX3_beadsOf_0 : decode cX3_beadsOf 0 = .ok (.iconst 0, 1) := by decide +kernel
theorem dX3_beadsOf_1 : decode cX3_beadsOf 1 = .ok (.istore_n 1, 1) := by decide +kernel
theorem dX3_beadsOf_2 : decode cX3_beadsOf 2 = .ok (.iconst 0, 1) := by decide +kernel
theorem dX3_beadsOf_3 : decode cX3_beadsOf 3 = .ok (.istore_n 2, 1) := by decide +kernel
theorem dX3_beadsOf_4 : decode cX3_beadsOf 4 = .ok (.iload_n 2, 1) := by decide +kernel
theorem dX3_beadsOf_5 : decode cX3_beadsOf 5 = .ok (.bipush 8, 2) := by decide +kernel
theorem dX3_beadsOf_7 : decode cX3_beadsOf 7 = .ok (.if_icmp .ge 27, 3) := by decide +kernel
theorem dX3_beadsOf_10 : decode cX3_beadsOf 10 = .ok (.iload_n 1, 1) := by decide +kernel
theorem dX3_beadsOf_11 : decode cX3_beadsOf 11 = .ok (.iconst 1, 1) := by decide +kernel
theorem dX3_beadsOf_12 : decode cX3_beadsOf 12 = .ok (.aload_n 0, 1) := by decide +kernel
theorem dX3_beadsOf_13 : decode cX3_beadsOf 13 = .ok (.getfield 19, 3) := by decide +kernel
theorem dX3_beadsOf_16 : decode cX3_beadsOf 16 = .ok (.iload_n 2, 1) := by decide +kernel
theorem dX3_beadsOf_17 : decode cX3_beadsOf 17 = .ok (.iaload, 1) := by decide +kernel
theorem dX3_beadsOf_18 : decode cX3_beadsOf 18 = .ok (.bipush 8, 2) := by decide +kernel
theorem dX3_beadsOf_20 : decode cX3_beadsOf 20 = .ok (.iadd, 1) := by decide +kernel
theorem dX3_beadsOf_21 : decode cX3_beadsOf 21 = .ok (.iconst 1, 1) := by decide +kernel
theorem dX3_beadsOf_22 : decode cX3_beadsOf 22 = .ok (.isub, 1) := by decide +kernel
theorem dX3_beadsOf_23 : decode cX3_beadsOf 23 = .ok (.iload_n 2, 1) := by decide +kernel
theorem dX3_beadsOf_24 : decode cX3_beadsOf 24 = .ok (.isub, 1) := by decide +kernel
theorem dX3_beadsOf_25 : decode cX3_beadsOf 25 = .ok (.ishl, 1) := by decide +kernel
theorem dX3_beadsOf_26 : decode cX3_beadsOf 26 = .ok (.ior, 1) := by decide +kernel
theorem dX3_beadsOf_27 : decode cX3_beadsOf 27 = .ok (.istore_n 1, 1) := by decide +kernel
theorem dX3_beadsOf_28 : decode cX3_beadsOf 28 = .ok (.iinc 2 1, 3) := by decide +kernel
theorem dX3_beadsOf_31 : decode cX3_beadsOf 31 = .ok (.goto (-27), 3) := by decide +kernel
theorem dX3_beadsOf_34 : decode cX3_beadsOf 34 = .ok (.iload_n 1, 1) := by decide +kernel
theorem dX3_beadsOf_35 : decode cX3_beadsOf 35 = .ok (.ireturn, 1) := by decide +kernel
theorem dX3_sumFrom_0 : decode cX3_sumFrom 0 = .ok (.aload_n 2, 1) := by decide +kernel
theorem dX3_sumFrom_1 : decode cX3_sumFrom 1 = .ok (.iload_n 0, 1) := by decide +kernel
theorem dX3_sumFrom_2 : decode cX3_sumFrom 2 = .ok (.invokevirtual 25, 3) := by decide +kernel
theorem dX3_sumFrom_5 : decode cX3_sumFrom 5 = .ok (.istore_n 3, 1) := by decide +kernel
theorem dX3_sumFrom_6 : decode cX3_sumFrom 6 = .ok (.iload_n 3, 1) := by decide +kernel
theorem dX3_sumFrom_7 : decode cX3_sumFrom 7 = .ok (.ifCond .ne 5, 3) := by decide +kernel
theorem dX3_sumFrom_10 : decode cX3_sumFrom 10 = .ok (.lconst 1, 1) := by decide +kernel
theorem dX3_sumFrom_11 : decode cX3_sumFrom 11 = .ok (.lreturn, 1) := by decide +kernel
theorem dX3_sumFrom_12 : decode cX3_sumFrom 12 = .ok (.lconst 0, 1) := by decide +kernel
theorem dX3_sumFrom_13 : decode cX3_sumFrom 13 = .ok (.lstore 4, 2) := by decide +kernel
theorem dX3_sumFrom_15 : decode cX3_sumFrom 15 = .ok (.iload_n 3, 1) := by decide +kernel
theorem dX3_sumFrom_16 : decode cX3_sumFrom 16 = .ok (.istore 6, 2) := by decide +kernel
theorem dX3_sumFrom_18 : decode cX3_sumFrom 18 = .ok (.iload 6, 2) := by decide +kernel
theorem dX3_sumFrom_20 : decode cX3_sumFrom 20 = .ok (.bipush 22, 2) := by decide +kernel
theorem dX3_sumFrom_22 : decode cX3_sumFrom 22 = .ok (.if_icmp .ge 85, 3) := by decide +kernel
theorem dX3_sumFrom_25 : decode cX3_sumFrom 25 = .ok (.iconst 1, 1) := by decide +kernel
theorem dX3_sumFrom_26 : decode cX3_sumFrom 26 = .ok (.iload 6, 2) := by decide +kernel
theorem dX3_sumFrom_28 : decode cX3_sumFrom 28 = .ok (.ishl, 1) := by decide +kernel
theorem dX3_sumFrom_29 : decode cX3_sumFrom 29 = .ok (.istore 7, 2) := by decide +kernel
theorem dX3_sumFrom_31 : decode cX3_sumFrom 31 = .ok (.iconst 1, 1) := by decide +kernel
theorem dX3_sumFrom_32 : decode cX3_sumFrom 32 = .ok (.iload 6, 2) := by decide +kernel
theorem dX3_sumFrom_34 : decode cX3_sumFrom 34 = .ok (.iload_n 3, 1) := by decide +kernel
theorem dX3_sumFrom_35 : decode cX3_sumFrom 35 = .ok (.isub, 1) := by decide +kernel
theorem dX3_sumFrom_36 : decode cX3_sumFrom 36 = .ok (.ishl, 1) := by decide +kernel
theorem dX3_sumFrom_37 : decode cX3_sumFrom 37 = .ok (.istore 8, 2) := by decide +kernel
theorem dX3_sumFrom_39 : decode cX3_sumFrom 39 = .ok (.iload_n 1, 1) := by decide +kernel
theorem dX3_sumFrom_40 : decode cX3_sumFrom 40 = .ok (.iload 7, 2) := by decide +kernel
theorem dX3_sumFrom_42 : decode cX3_sumFrom 42 = .ok (.iand, 1) := by decide +kernel
theorem dX3_sumFrom_43 : decode cX3_sumFrom 43 = .ok (.ifCond .eq 58, 3) := by decide +kernel
theorem dX3_sumFrom_46 : decode cX3_sumFrom 46 = .ok (.iload_n 1, 1) := by decide +kernel
theorem dX3_sumFrom_47 : decode cX3_sumFrom 47 = .ok (.iload 8, 2) := by decide +kernel
theorem dX3_sumFrom_49 : decode cX3_sumFrom 49 = .ok (.iand, 1) := by decide +kernel
theorem dX3_sumFrom_50 : decode cX3_sumFrom 50 = .ok (.ifCond .ne 51, 3) := by decide +kernel
theorem dX3_sumFrom_53 : decode cX3_sumFrom 53 = .ok (.iload_n 1, 1) := by decide +kernel
theorem dX3_sumFrom_54 : decode cX3_sumFrom 54 = .ok (.iload 7, 2) := by decide +kernel
theorem dX3_sumFrom_56 : decode cX3_sumFrom 56 = .ok (.iload 8, 2) := by decide +kernel
theorem dX3_sumFrom_58 : decode cX3_sumFrom 58 = .ok (.isub, 1) := by decide +kernel
theorem dX3_sumFrom_59 : decode cX3_sumFrom 59 = .ok (.iand, 1) := by decide +kernel
theorem dX3_sumFrom_60 : decode cX3_sumFrom 60 = .ok (.invokestatic 29, 3) := by decide +kernel
theorem dX3_sumFrom_63 : decode cX3_sumFrom 63 = .ok (.istore 9, 2) := by decide +kernel
theorem dX3_sumFrom_65 : decode cX3_sumFrom 65 = .ok (.iload_n 0, 1) := by decide +kernel
theorem dX3_sumFrom_66 : decode cX3_sumFrom 66 = .ok (.iconst 1, 1) := by decide +kernel
theorem dX3_sumFrom_67 : decode cX3_sumFrom 67 = .ok (.iadd, 1) := by decide +kernel
theorem dX3_sumFrom_68 : decode cX3_sumFrom 68 = .ok (.iload_n 1, 1) := by decide +kernel
theorem dX3_sumFrom_69 : decode cX3_sumFrom 69 = .ok (.iload 7, 2) := by decide +kernel
theorem dX3_sumFrom_71 : decode cX3_sumFrom 71 = .ok (.isub, 1) := by decide +kernel
theorem dX3_sumFrom_72 : decode cX3_sumFrom 72 = .ok (.iload 8, 2) := by decide +kernel
theorem dX3_sumFrom_74 : decode cX3_sumFrom 74 = .ok (.iadd, 1) := by decide +kernel
theorem dX3_sumFrom_75 : decode cX3_sumFrom 75 = .ok (.aload_n 2, 1) := by decide +kernel
theorem dX3_sumFrom_76 : decode cX3_sumFrom 76 = .ok (.invokestatic 15, 3) := by decide +kernel
theorem dX3_sumFrom_79 : decode cX3_sumFrom 79 = .ok (.lstore 10, 2) := by decide +kernel
theorem dX3_sumFrom_81 : decode cX3_sumFrom 81 = .ok (.lload 4, 2) := by decide +kernel
theorem dX3_sumFrom_83 : decode cX3_sumFrom 83 = .ok (.iload 9, 2) := by decide +kernel
theorem dX3_sumFrom_85 : decode cX3_sumFrom 85 = .ok (.iconst 2, 1) := by decide +kernel
theorem dX3_sumFrom_86 : decode cX3_sumFrom 86 = .ok (.irem, 1) := by decide +kernel
theorem dX3_sumFrom_87 : decode cX3_sumFrom 87 = .ok (.ifCond .ne 8, 3) := by decide +kernel
theorem dX3_sumFrom_90 : decode cX3_sumFrom 90 = .ok (.lload 10, 2) := by decide +kernel
theorem dX3_sumFrom_92 : decode cX3_sumFrom 92 = .ok (.goto 6, 3) := by decide +kernel
theorem dX3_sumFrom_95 : decode cX3_sumFrom 95 = .ok (.lload 10, 2) := by decide +kernel
theorem dX3_sumFrom_97 : decode cX3_sumFrom 97 = .ok (.lneg, 1) := by decide +kernel
theorem dX3_sumFrom_98 : decode cX3_sumFrom 98 = .ok (.ladd, 1) := by decide +kernel
theorem dX3_sumFrom_99 : decode cX3_sumFrom 99 = .ok (.lstore 4, 2) := by decide +kernel
theorem dX3_sumFrom_101 : decode cX3_sumFrom 101 = .ok (.iinc 6 1, 3) := by decide +kernel
theorem dX3_sumFrom_104 : decode cX3_sumFrom 104 = .ok (.goto (-86), 3) := by decide +kernel
theorem dX3_sumFrom_107 : decode cX3_sumFrom 107 = .ok (.lload 4, 2) := by decide +kernel
theorem dX3_sumFrom_109 : decode cX3_sumFrom 109 = .ok (.lreturn, 1) := by decide +kernel
theorem dX4_init_0 : decode cX4_init 0 = .ok (.aload_n 0, 1) := by decide +kernel
theorem dX4_init_1 : decode cX4_init 1 = .ok (.invokespecial 3, 3) := by decide +kernel
theorem dX4_init_4 : decode cX4_init 4 = .ok (.aload_n 0, 1) := by decide +kernel
theorem dX4_init_5 : decode cX4_init 5 = .ok (.bipush 8, 2) := by decide +kernel
theorem dX4_init_7 : decode cX4_init 7 = .ok (.newarray .int, 2) := by decide +kernel
theorem dX4_init_9 : decode cX4_init 9 = .ok (.putfield 9, 3) := by decide +kernel
theorem dX4_init_12 : decode cX4_init 12 = .ok (.return_, 1) := by decide +kernel
theorem dX4_copyFrom_0 : decode cX4_copyFrom 0 = .ok (.aload_n 1, 1) := by decide +kernel
theorem dX4_copyFrom_1 : decode cX4_copyFrom 1 = .ok (.getfield 9, 3) := by decide +kernel
theorem dX4_copyFrom_4 : decode cX4_copyFrom 4 = .ok (.iconst 0, 1) := by decide +kernel
theorem dX4_copyFrom_5 : decode cX4_copyFrom 5 = .ok (.aload_n 0, 1) := by decide +kernel
theorem dX4_copyFrom_6 : decode cX4_copyFrom 6 = .ok (.getfield 9, 3) := by decide +kernel
theorem dX4_copyFrom_9 : decode cX4_copyFrom 9 = .ok (.iconst 0, 1) := by decide +kernel
theorem dX4_copyFrom_10 : decode cX4_copyFrom 10 = .ok (.bipush 8, 2) := by decide +kernel
theorem dX4_copyFrom_12 : decode cX4_copyFrom 12 = .ok (.invokestatic 15, 3) := by decide +kernel
theorem dX4_copyFrom_15 : decode cX4_copyFrom 15 = .ok (.return_, 1) := by decide +kernel
theorem dX4_unpack_0 : decode cX4_unpack 0 = .ok (.iconst 0, 1) := by decide +kernel
theorem dX4_unpack_1 : decode cX4_unpack 1 = .ok (.istore_n 3, 1) := by decide +kernel
theorem dX4_unpack_2 : decode cX4_unpack 2 = .ok (.iload_n 3, 1) := by decide +kernel
theorem dX4_unpack_3 : decode cX4_unpack 3 = .ok (.bipush 8, 2) := by decide +kernel
theorem dX4_unpack_5 : decode cX4_unpack 5 = .ok (.if_icmp .ge 26, 3) := by decide +kernel
theorem dX4_unpack_8 : decode cX4_unpack 8 = .ok (.aload_n 0, 1) := by decide +kernel
theorem dX4_unpack_9 : decode cX4_unpack 9 = .ok (.getfield 9, 3) := by decide +kernel
theorem dX4_unpack_12 : decode cX4_unpack 12 = .ok (.iload_n 3, 1) := by decide +kernel
theorem dX4_unpack_13 : decode cX4_unpack 13 = .ok (.lload_n 1, 1) := by decide +kernel
theorem dX4_unpack_14 : decode cX4_unpack 14 = .ok (.bipush 8, 2) := by decide +kernel
theorem dX4_unpack_16 : decode cX4_unpack 16 = .ok (.iload_n 3, 1) := by decide +kernel
theorem dX4_unpack_17 : decode cX4_unpack 17 = .ok (.imul, 1) := by decide +kernel
theorem dX4_unpack_18 : decode cX4_unpack 18 = .ok (.lushr, 1) := by decide +kernel
theorem dX4_unpack_19 : decode cX4_unpack 19 = .ok (.l2i, 1) := by decide +kernel
theorem dX4_unpack_20 : decode cX4_unpack 20 = .ok (.sipush 255, 3) := by decide +kernel
theorem dX4_unpack_23 : decode cX4_unpack 23 = .ok (.iand, 1) := by decide +kernel
theorem dX4_unpack_24 : decode cX4_unpack 24 = .ok (.iastore, 1) := by decide +kernel
theorem dX4_unpack_25 : decode cX4_unpack 25 = .ok (.iinc 3 1, 3) := by decide +kernel
theorem dX4_unpack_28 : decode cX4_unpack 28 = .ok (.goto (-26), 3) := by decide +kernel
theorem dX4_unpack_31 : decode cX4_unpack 31 = .ok (.return_, 1) := by decide +kernel
theorem dX4_isAllowed_0 : decode cX4_isAllowed 0 = .ok (.iconst 1, 1) := by decide +kernel
theorem dX4_isAllowed_1 : decode cX4_isAllowed 1 = .ok (.istore_n 1, 1) := by decide +kernel
theorem dX4_isAllowed_2 : decode cX4_isAllowed 2 = .ok (.iload_n 1, 1) := by decide +kernel
theorem dX4_isAllowed_3 : decode cX4_isAllowed 3 = .ok (.bipush 8, 2) := by decide +kernel
theorem dX4_isAllowed_5 : decode cX4_isAllowed 5 = .ok (.if_icmp .ge 28, 3) := by decide +kernel
theorem dX4_isAllowed_8 : decode cX4_isAllowed 8 = .ok (.aload_n 0, 1) := by decide +kernel
theorem dX4_isAllowed_9 : decode cX4_isAllowed 9 = .ok (.getfield 9, 3) := by decide +kernel
theorem dX4_isAllowed_12 : decode cX4_isAllowed 12 = .ok (.iload_n 1, 1) := by decide +kernel
theorem dX4_isAllowed_13 : decode cX4_isAllowed 13 = .ok (.iaload, 1) := by decide +kernel
theorem dX4_isAllowed_14 : decode cX4_isAllowed 14 = .ok (.aload_n 0, 1) := by decide +kernel
theorem dX4_isAllowed_15 : decode cX4_isAllowed 15 = .ok (.getfield 9, 3) := by decide +kernel
theorem dX4_isAllowed_18 : decode cX4_isAllowed 18 = .ok (.iload_n 1, 1) := by decide +kernel
theorem dX4_isAllowed_19 : decode cX4_isAllowed 19 = .ok (.iconst 1, 1) := by decide +kernel
theorem dX4_isAllowed_20 : decode cX4_isAllowed 20 = .ok (.isub, 1) := by decide +kernel
theorem dX4_isAllowed_21 : decode cX4_isAllowed 21 = .ok (.iaload, 1) := by decide +kernel
theorem dX4_isAllowed_22 : decode cX4_isAllowed 22 = .ok (.if_icmp .le 5, 3) := by decide +kernel
theorem dX4_isAllowed_25 : decode cX4_isAllowed 25 = .ok (.iconst 0, 1) := by decide +kernel
theorem dX4_isAllowed_26 : decode cX4_isAllowed 26 = .ok (.ireturn, 1) := by decide +kernel
theorem dX4_isAllowed_27 : decode cX4_isAllowed 27 = .ok (.iinc 1 1, 3) := by decide +kernel
theorem dX4_isAllowed_30 : decode cX4_isAllowed 30 = .ok (.goto (-28), 3) := by decide +kernel
theorem dX4_isAllowed_33 : decode cX4_isAllowed 33 = .ok (.aload_n 0, 1) := by decide +kernel
theorem dX4_isAllowed_34 : decode cX4_isAllowed 34 = .ok (.invokevirtual 21, 3) := by decide +kernel
theorem dX4_isAllowed_37 : decode cX4_isAllowed 37 = .ok (.bipush 24, 2) := by decide +kernel
theorem dX4_isAllowed_39 : decode cX4_isAllowed 39 = .ok (.if_icmp .gt 7, 3) := by decide +kernel
theorem dX4_isAllowed_42 : decode cX4_isAllowed 42 = .ok (.iconst 1, 1) := by decide +kernel
theorem dX4_isAllowed_43 : decode cX4_isAllowed 43 = .ok (.goto 4, 3) := by decide +kernel
theorem dX4_isAllowed_46 : decode cX4_isAllowed 46 = .ok (.iconst 0, 1) := by decide +kernel
theorem dX4_isAllowed_47 : decode cX4_isAllowed 47 = .ok (.ireturn, 1) := by decide +kernel
theorem dX4_rowLength_0 : decode cX4_rowLength 0 = .ok (.iload_n 1, 1) := by decide +kernel
theorem dX4_rowLength_1 : decode cX4_rowLength 1 = .ok (.ifCond .lt 9, 3) := by decide +kernel
theorem dX4_rowLength_4 : decode cX4_rowLength 4 = .ok (.iload_n 1, 1) := by decide +kernel
theorem dX4_rowLength_5 : decode cX4_rowLength 5 = .ok (.bipush 8, 2) := by decide +kernel
theorem dX4_rowLength_7 : decode cX4_rowLength 7 = .ok (.if_icmp .lt 7, 3) := by decide +kernel
theorem dX4_rowLength_10 : decode cX4_rowLength 10 = .ok (.iconst 0, 1) := by decide +kernel
theorem dX4_rowLength_11 : decode cX4_rowLength 11 = .ok (.goto 9, 3) := by decide +kernel
theorem dX4_rowLength_14 : decode cX4_rowLength 14 = .ok (.aload_n 0, 1) := by decide +kernel
theorem dX4_rowLength_15 : decode cX4_rowLength 15 = .ok (.getfield 9, 3) := by decide +kernel
theorem dX4_rowLength_18 : decode cX4_rowLength 18 = .ok (.iload_n 1, 1) := by decide +kernel
theorem dX4_rowLength_19 : decode cX4_rowLength 19 = .ok (.iaload, 1) := by decide +kernel
theorem dX4_rowLength_20 : decode cX4_rowLength 20 = .ok (.ireturn, 1) := by decide +kernel
theorem dX4_columnLength_0 : decode cX4_columnLength 0 = .ok (.iconst 0, 1) := by decide +kernel
theorem dX4_columnLength_1 : decode cX4_columnLength 1 = .ok (.istore_n 2, 1) := by decide +kernel
theorem dX4_columnLength_2 : decode cX4_columnLength 2 = .ok (.iconst 0, 1) := by decide +kernel
theorem dX4_columnLength_3 : decode cX4_columnLength 3 = .ok (.istore_n 3, 1) := by decide +kernel
theorem dX4_columnLength_4 : decode cX4_columnLength 4 = .ok (.iload_n 3, 1) := by decide +kernel
theorem dX4_columnLength_5 : decode cX4_columnLength 5 = .ok (.bipush 8, 2) := by decide +kernel
theorem dX4_columnLength_7 : decode cX4_columnLength 7 = .ok (.if_icmp .ge 22, 3) := by decide +kernel
theorem dX4_columnLength_10 : decode cX4_columnLength 10 = .ok (.aload_n 0, 1) := by decide +kernel
theorem dX4_columnLength_11 : decode cX4_columnLength 11 = .ok (.getfield 9, 3) := by decide +kernel
theorem dX4_columnLength_14 : decode cX4_columnLength 14 = .ok (.iload_n 3, 1) := by decide +kernel
theorem dX4_columnLength_15 : decode cX4_columnLength 15 = .ok (.iaload, 1) := by decide +kernel
theorem dX4_columnLength_16 : decode cX4_columnLength 16 = .ok (.iload_n 1, 1) := by decide +kernel
theorem dX4_columnLength_17 : decode cX4_columnLength 17 = .ok (.if_icmp .le 6, 3) := by decide +kernel
theorem dX4_columnLength_20 : decode cX4_columnLength 20 = .ok (.iinc 2 1, 3) := by decide +kernel
theorem dX4_columnLength_23 : decode cX4_columnLength 23 = .ok (.iinc 3 1, 3) := by decide +kernel
theorem dX4_columnLength_26 : decode cX4_columnLength 26 = .ok (.goto (-22), 3) := by decide +kernel
theorem dX4_columnLength_29 : decode cX4_columnLength 29 = .ok (.iload_n 2, 1) := by decide +kernel
theorem dX4_columnLength_30 : decode cX4_columnLength 30 = .ok (.ireturn, 1) := by decide +kernel
theorem dX4_countBoxes_0 : decode cX4_countBoxes 0 = .ok (.iconst 0, 1) := by decide +kernel
theorem dX4_countBoxes_1 : decode cX4_countBoxes 1 = .ok (.istore_n 1, 1) := by decide +kernel
theorem dX4_countBoxes_2 : decode cX4_countBoxes 2 = .ok (.iconst 0, 1) := by decide +kernel
theorem dX4_countBoxes_3 : decode cX4_countBoxes 3 = .ok (.istore_n 2, 1) := by decide +kernel
theorem dX4_countBoxes_4 : decode cX4_countBoxes 4 = .ok (.iload_n 2, 1) := by decide +kernel
theorem dX4_countBoxes_5 : decode cX4_countBoxes 5 = .ok (.bipush 8, 2) := by decide +kernel
theorem dX4_countBoxes_7 : decode cX4_countBoxes 7 = .ok (.if_icmp .ge 18, 3) := by decide +kernel
theorem dX4_countBoxes_10 : decode cX4_countBoxes 10 = .ok (.iload_n 1, 1) := by decide +kernel
theorem dX4_countBoxes_11 : decode cX4_countBoxes 11 = .ok (.aload_n 0, 1) := by decide +kernel
theorem dX4_countBoxes_12 : decode cX4_countBoxes 12 = .ok (.getfield 9, 3) := by decide +kernel
theorem dX4_countBoxes_15 : decode cX4_countBoxes 15 = .ok (.iload_n 2, 1) := by decide +kernel
theorem dX4_countBoxes_16 : decode cX4_countBoxes 16 = .ok (.iaload, 1) := by decide +kernel
theorem dX4_countBoxes_17 : decode cX4_countBoxes 17 = .ok (.iadd, 1) := by decide +kernel
theorem dX4_countBoxes_18 : decode cX4_countBoxes 18 = .ok (.istore_n 1, 1) := by decide +kernel
theorem dX4_countBoxes_19 : decode cX4_countBoxes 19 = .ok (.iinc 2 1, 3) := by decide +kernel
theorem dX4_countBoxes_22 : decode cX4_countBoxes 22 = .ok (.goto (-18), 3) := by decide +kernel
theorem dX4_countBoxes_25 : decode cX4_countBoxes 25 = .ok (.iload_n 1, 1) := by decide +kernel
theorem dX4_countBoxes_26 : decode cX4_countBoxes 26 = .ok (.ireturn, 1) := by decide +kernel
theorem dX4_contains_0 : decode cX4_contains 0 = .ok (.iconst 0, 1) := by decide +kernel
theorem dX4_contains_1 : decode cX4_contains 1 = .ok (.istore_n 2, 1) := by decide +kernel
theorem dX4_contains_2 : decode cX4_contains 2 = .ok (.iload_n 2, 1) := by decide +kernel
theorem dX4_contains_3 : decode cX4_contains 3 = .ok (.bipush 8, 2) := by decide +kernel
theorem dX4_contains_5 : decode cX4_contains 5 = .ok (.if_icmp .ge 26, 3) := by decide +kernel
theorem dX4_contains_8 : decode cX4_contains 8 = .ok (.aload_n 1, 1) := by decide +kernel
theorem dX4_contains_9 : decode cX4_contains 9 = .ok (.getfield 9, 3) := by decide +kernel
theorem dX4_contains_12 : decode cX4_contains 12 = .ok (.iload_n 2, 1) := by decide +kernel
theorem dX4_contains_13 : decode cX4_contains 13 = .ok (.iaload, 1) := by decide +kernel
theorem dX4_contains_14 : decode cX4_contains 14 = .ok (.aload_n 0, 1) := by decide +kernel
theorem dX4_contains_15 : decode cX4_contains 15 = .ok (.getfield 9, 3) := by decide +kernel
theorem dX4_contains_18 : decode cX4_contains 18 = .ok (.iload_n 2, 1) := by decide +kernel
theorem dX4_contains_19 : decode cX4_contains 19 = .ok (.iaload, 1) := by decide +kernel
theorem dX4_contains_20 : decode cX4_contains 20 = .ok (.if_icmp .le 5, 3) := by decide +kernel
theorem dX4_contains_23 : decode cX4_contains 23 = .ok (.iconst 0, 1) := by decide +kernel
theorem dX4_contains_24 : decode cX4_contains 24 = .ok (.ireturn, 1) := by decide +kernel
theorem dX4_contains_25 : decode cX4_contains 25 = .ok (.iinc 2 1, 3) := by decide +kernel
theorem dX4_contains_28 : decode cX4_contains 28 = .ok (.goto (-26), 3) := by decide +kernel
theorem dX4_contains_31 : decode cX4_contains 31 = .ok (.iconst 1, 1) := by decide +kernel
theorem dX4_contains_32 : decode cX4_contains 32 = .ok (.ireturn, 1) := by decide +kernel
theorem dX4_armOf_0 : decode cX4_armOf 0 = .ok (.aload_n 0, 1) := by decide +kernel
theorem dX4_armOf_1 : decode cX4_armOf 1 = .ok (.iload_n 1, 1) := by decide +kernel
theorem dX4_armOf_2 : decode cX4_armOf 2 = .ok (.invokevirtual 25, 3) := by decide +kernel
theorem dX4_armOf_5 : decode cX4_armOf 5 = .ok (.iconst 1, 1) := by decide +kernel
theorem dX4_armOf_6 : decode cX4_armOf 6 = .ok (.isub, 1) := by decide +kernel
theorem dX4_armOf_7 : decode cX4_armOf 7 = .ok (.iload_n 2, 1) := by decide +kernel
theorem dX4_armOf_8 : decode cX4_armOf 8 = .ok (.isub, 1) := by decide +kernel
theorem dX4_armOf_9 : decode cX4_armOf 9 = .ok (.ireturn, 1) := by decide +kernel
theorem dX4_hookOf_0 : decode cX4_hookOf 0 = .ok (.aload_n 0, 1) := by decide +kernel
theorem dX4_hookOf_1 : decode cX4_hookOf 1 = .ok (.iload_n 1, 1) := by decide +kernel
theorem dX4_hookOf_2 : decode cX4_hookOf 2 = .ok (.iload_n 2, 1) := by decide +kernel
theorem dX4_hookOf_3 : decode cX4_hookOf 3 = .ok (.invokevirtual 29, 3) := by decide +kernel
theorem dX4_hookOf_6 : decode cX4_hookOf 6 = .ok (.aload_n 0, 1) := by decide +kernel
theorem dX4_hookOf_7 : decode cX4_hookOf 7 = .ok (.iload_n 2, 1) := by decide +kernel
theorem dX4_hookOf_8 : decode cX4_hookOf 8 = .ok (.invokevirtual 33, 3) := by decide +kernel
theorem dX4_hookOf_11 : decode cX4_hookOf 11 = .ok (.iadd, 1) := by decide +kernel
theorem dX4_hookOf_12 : decode cX4_hookOf 12 = .ok (.iload_n 1, 1) := by decide +kernel
theorem dX4_hookOf_13 : decode cX4_hookOf 13 = .ok (.isub, 1) := by decide +kernel
theorem dX4_hookOf_14 : decode cX4_hookOf 14 = .ok (.ireturn, 1) := by decide +kernel
theorem dX4_endsColumn_0 : decode cX4_endsColumn 0 = .ok (.aload_n 0, 1) := by decide +kernel
theorem dX4_endsColumn_1 : decode cX4_endsColumn 1 = .ok (.iload_n 1, 1) := by decide +kernel
theorem dX4_endsColumn_2 : decode cX4_endsColumn 2 = .ok (.invokevirtual 25, 3) := by decide +kernel
theorem dX4_endsColumn_5 : decode cX4_endsColumn 5 = .ok (.aload_n 0, 1) := by decide +kernel
theorem dX4_endsColumn_6 : decode cX4_endsColumn 6 = .ok (.iload_n 1, 1) := by decide +kernel
theorem dX4_endsColumn_7 : decode cX4_endsColumn 7 = .ok (.iconst 1, 1) := by decide +kernel
theorem dX4_endsColumn_8 : decode cX4_endsColumn 8 = .ok (.iadd, 1) := by decide +kernel
theorem dX4_endsColumn_9 : decode cX4_endsColumn 9 = .ok (.invokevirtual 25, 3) := by decide +kernel
theorem dX4_endsColumn_12 : decode cX4_endsColumn 12 = .ok (.if_icmp .le 7, 3) := by decide +kernel
theorem dX4_endsColumn_15 : decode cX4_endsColumn 15 = .ok (.iconst 1, 1) := by decide +kernel
theorem dX4_endsColumn_16 : decode cX4_endsColumn 16 = .ok (.goto 4, 3) := by decide +kernel
theorem dX4_endsColumn_19 : decode cX4_endsColumn 19 = .ok (.iconst 0, 1) := by decide +kernel
theorem dX4_endsColumn_20 : decode cX4_endsColumn 20 = .ok (.ireturn, 1) := by decide +kernel
theorem dX4_lowestCorner_0 : decode cX4_lowestCorner 0 = .ok (.bipush 7, 2) := by decide +kernel
theorem dX4_lowestCorner_2 : decode cX4_lowestCorner 2 = .ok (.istore_n 1, 1) := by decide +kernel
theorem dX4_lowestCorner_3 : decode cX4_lowestCorner 3 = .ok (.iload_n 1, 1) := by decide +kernel
theorem dX4_lowestCorner_4 : decode cX4_lowestCorner 4 = .ok (.ifCond .le 18, 3) := by decide +kernel
theorem dX4_lowestCorner_7 : decode cX4_lowestCorner 7 = .ok (.aload_n 0, 1) := by decide +kernel
theorem dX4_lowestCorner_8 : decode cX4_lowestCorner 8 = .ok (.getfield 9, 3) := by decide +kernel
theorem dX4_lowestCorner_11 : decode cX4_lowestCorner 11 = .ok (.iload_n 1, 1) := by decide +kernel
theorem dX4_lowestCorner_12 : decode cX4_lowestCorner 12 = .ok (.iaload, 1) := by decide +kernel
theorem dX4_lowestCorner_13 : decode cX4_lowestCorner 13 = .ok (.ifCond .ne 9, 3) := by decide +kernel
theorem dX4_lowestCorner_16 : decode cX4_lowestCorner 16 = .ok (.iinc 1 (-1), 3) := by decide +kernel
theorem dX4_lowestCorner_19 : decode cX4_lowestCorner 19 = .ok (.goto (-16), 3) := by decide +kernel
theorem dX4_lowestCorner_22 : decode cX4_lowestCorner 22 = .ok (.iload_n 1, 1) := by decide +kernel
theorem dX4_lowestCorner_23 : decode cX4_lowestCorner 23 = .ok (.ireturn, 1) := by decide +kernel
theorem dX4_highestCorner_0 : decode cX4_highestCorner 0 = .ok (.iconst 0, 1) := by decide +kernel
theorem dX4_highestCorner_1 : decode cX4_highestCorner 1 = .ok (.istore_n 1, 1) := by decide +kernel
theorem dX4_highestCorner_2 : decode cX4_highestCorner 2 = .ok (.iload_n 1, 1) := by decide +kernel
theorem dX4_highestCorner_3 : decode cX4_highestCorner 3 = .ok (.bipush 7, 2) := by decide +kernel
theorem dX4_highestCorner_5 : decode cX4_highestCorner 5 = .ok (.if_icmp .ge 17, 3) := by decide +kernel
theorem dX4_highestCorner_8 : decode cX4_highestCorner 8 = .ok (.aload_n 0, 1) := by decide +kernel
theorem dX4_highestCorner_9 : decode cX4_highestCorner 9 = .ok (.iload_n 1, 1) := by decide +kernel
theorem dX4_highestCorner_10 : decode cX4_highestCorner 10 = .ok (.invokevirtual 36, 3) := by decide +kernel
theorem dX4_highestCorner_13 : decode cX4_highestCorner 13 = .ok (.ifCond .ne 9, 3) := by decide +kernel
theorem dX4_highestCorner_16 : decode cX4_highestCorner 16 = .ok (.iinc 1 1, 3) := by decide +kernel
theorem dX4_highestCorner_19 : decode cX4_highestCorner 19 = .ok (.goto (-17), 3) := by decide +kernel
theorem dX4_highestCorner_22 : decode cX4_highestCorner 22 = .ok (.iload_n 1, 1) := by decide +kernel
theorem dX4_highestCorner_23 : decode cX4_highestCorner 23 = .ok (.ireturn, 1) := by decide +kernel
theorem dX5_init_0 : decode cX5_init 0 = .ok (.aload_n 0, 1) := by decide +kernel
theorem dX5_init_1 : decode cX5_init 1 = .ok (.invokespecial 3, 3) := by decide +kernel
theorem dX5_init_4 : decode cX5_init 4 = .ok (.aload_n 0, 1) := by decide +kernel
theorem dX5_init_5 : decode cX5_init 5 = .ok (.sipush 625, 3) := by decide +kernel
theorem dX5_init_8 : decode cX5_init 8 = .ok (.newarray .int, 2) := by decide +kernel
theorem dX5_init_10 : decode cX5_init 10 = .ok (.putfield 11, 3) := by decide +kernel
theorem dX5_init_13 : decode cX5_init 13 = .ok (.iconst 0, 1) := by decide +kernel
theorem dX5_init_14 : decode cX5_init 14 = .ok (.istore_n 1, 1) := by decide +kernel
theorem dX5_init_15 : decode cX5_init 15 = .ok (.iload_n 1, 1) := by decide +kernel
theorem dX5_init_16 : decode cX5_init 16 = .ok (.bipush 25, 2) := by decide +kernel
theorem dX5_init_18 : decode cX5_init 18 = .ok (.if_icmp .ge 16, 3) := by decide +kernel
theorem dX5_init_21 : decode cX5_init 21 = .ok (.aload_n 0, 1) := by decide +kernel
theorem dX5_init_22 : decode cX5_init 22 = .ok (.getfield 11, 3) := by decide +kernel
theorem dX5_init_25 : decode cX5_init 25 = .ok (.iload_n 1, 1) := by decide +kernel
theorem dX5_init_26 : decode cX5_init 26 = .ok (.iconst 1, 1) := by decide +kernel
theorem dX5_init_27 : decode cX5_init 27 = .ok (.iastore, 1) := by decide +kernel
theorem dX5_init_28 : decode cX5_init 28 = .ok (.iinc 1 1, 3) := by decide +kernel
theorem dX5_init_31 : decode cX5_init 31 = .ok (.goto (-16), 3) := by decide +kernel
theorem dX5_init_34 : decode cX5_init 34 = .ok (.iconst 1, 1) := by decide +kernel
theorem dX5_init_35 : decode cX5_init 35 = .ok (.istore_n 1, 1) := by decide +kernel
theorem dX5_init_36 : decode cX5_init 36 = .ok (.iload_n 1, 1) := by decide +kernel
theorem dX5_init_37 : decode cX5_init 37 = .ok (.bipush 25, 2) := by decide +kernel
theorem dX5_init_39 : decode cX5_init 39 = .ok (.if_icmp .ge 72, 3) := by decide +kernel
theorem dX5_init_42 : decode cX5_init 42 = .ok (.iconst 1, 1) := by decide +kernel
theorem dX5_init_43 : decode cX5_init 43 = .ok (.istore_n 2, 1) := by decide +kernel
theorem dX5_init_44 : decode cX5_init 44 = .ok (.iload_n 2, 1) := by decide +kernel
theorem dX5_init_45 : decode cX5_init 45 = .ok (.bipush 25, 2) := by decide +kernel
theorem dX5_init_47 : decode cX5_init 47 = .ok (.if_icmp .ge 58, 3) := by decide +kernel
theorem dX5_init_50 : decode cX5_init 50 = .ok (.iload_n 1, 1) := by decide +kernel
theorem dX5_init_51 : decode cX5_init 51 = .ok (.iload_n 2, 1) := by decide +kernel
theorem dX5_init_52 : decode cX5_init 52 = .ok (.if_icmp .ge 7, 3) := by decide +kernel
theorem dX5_init_55 : decode cX5_init 55 = .ok (.iconst 0, 1) := by decide +kernel
theorem dX5_init_56 : decode cX5_init 56 = .ok (.goto 16, 3) := by decide +kernel
theorem dX5_init_59 : decode cX5_init 59 = .ok (.aload_n 0, 1) := by decide +kernel
theorem dX5_init_60 : decode cX5_init 60 = .ok (.getfield 11, 3) := by decide +kernel
theorem dX5_init_63 : decode cX5_init 63 = .ok (.iload_n 1, 1) := by decide +kernel
theorem dX5_init_64 : decode cX5_init 64 = .ok (.iload_n 2, 1) := by decide +kernel
theorem dX5_init_65 : decode cX5_init 65 = .ok (.isub, 1) := by decide +kernel
theorem dX5_init_66 : decode cX5_init 66 = .ok (.bipush 25, 2) := by decide +kernel
theorem dX5_init_68 : decode cX5_init 68 = .ok (.imul, 1) := by decide +kernel
theorem dX5_init_69 : decode cX5_init 69 = .ok (.iload_n 2, 1) := by decide +kernel
theorem dX5_init_70 : decode cX5_init 70 = .ok (.iadd, 1) := by decide +kernel
theorem dX5_init_71 : decode cX5_init 71 = .ok (.iaload, 1) := by decide +kernel
theorem dX5_init_72 : decode cX5_init 72 = .ok (.istore_n 3, 1) := by decide +kernel
theorem dX5_init_73 : decode cX5_init 73 = .ok (.aload_n 0, 1) := by decide +kernel
theorem dX5_init_74 : decode cX5_init 74 = .ok (.getfield 11, 3) := by decide +kernel
theorem dX5_init_77 : decode cX5_init 77 = .ok (.iload_n 1, 1) := by decide +kernel
theorem dX5_init_78 : decode cX5_init 78 = .ok (.bipush 25, 2) := by decide +kernel
theorem dX5_init_80 : decode cX5_init 80 = .ok (.imul, 1) := by decide +kernel
theorem dX5_init_81 : decode cX5_init 81 = .ok (.iload_n 2, 1) := by decide +kernel
theorem dX5_init_82 : decode cX5_init 82 = .ok (.iadd, 1) := by decide +kernel
theorem dX5_init_83 : decode cX5_init 83 = .ok (.aload_n 0, 1) := by decide +kernel
theorem dX5_init_84 : decode cX5_init 84 = .ok (.getfield 11, 3) := by decide +kernel
theorem dX5_init_87 : decode cX5_init 87 = .ok (.iload_n 1, 1) := by decide +kernel
theorem dX5_init_88 : decode cX5_init 88 = .ok (.bipush 25, 2) := by decide +kernel
theorem dX5_init_90 : decode cX5_init 90 = .ok (.imul, 1) := by decide +kernel
theorem dX5_init_91 : decode cX5_init 91 = .ok (.iload_n 2, 1) := by decide +kernel
theorem dX5_init_92 : decode cX5_init 92 = .ok (.iadd, 1) := by decide +kernel
theorem dX5_init_93 : decode cX5_init 93 = .ok (.iconst 1, 1) := by decide +kernel
theorem dX5_init_94 : decode cX5_init 94 = .ok (.isub, 1) := by decide +kernel
theorem dX5_init_95 : decode cX5_init 95 = .ok (.iaload, 1) := by decide +kernel
theorem dX5_init_96 : decode cX5_init 96 = .ok (.iload_n 3, 1) := by decide +kernel
theorem dX5_init_97 : decode cX5_init 97 = .ok (.iadd, 1) := by decide +kernel
theorem dX5_init_98 : decode cX5_init 98 = .ok (.iastore, 1) := by decide +kernel
theorem dX5_init_99 : decode cX5_init 99 = .ok (.iinc 2 1, 3) := by decide +kernel
theorem dX5_init_102 : decode cX5_init 102 = .ok (.goto (-58), 3) := by decide +kernel
theorem dX5_init_105 : decode cX5_init 105 = .ok (.iinc 1 1, 3) := by decide +kernel
theorem dX5_init_108 : decode cX5_init 108 = .ok (.goto (-72), 3) := by decide +kernel
theorem dX5_init_111 : decode cX5_init 111 = .ok (.return_, 1) := by decide +kernel
theorem dX5_countOf_0 : decode cX5_countOf 0 = .ok (.aload_n 0, 1) := by decide +kernel
theorem dX5_countOf_1 : decode cX5_countOf 1 = .ok (.getfield 11, 3) := by decide +kernel
theorem dX5_countOf_4 : decode cX5_countOf 4 = .ok (.iload_n 1, 1) := by decide +kernel
theorem dX5_countOf_5 : decode cX5_countOf 5 = .ok (.bipush 25, 2) := by decide +kernel
theorem dX5_countOf_7 : decode cX5_countOf 7 = .ok (.imul, 1) := by decide +kernel
theorem dX5_countOf_8 : decode cX5_countOf 8 = .ok (.iload_n 2, 1) := by decide +kernel
theorem dX5_countOf_9 : decode cX5_countOf 9 = .ok (.iadd, 1) := by decide +kernel
theorem dX5_countOf_10 : decode cX5_countOf 10 = .ok (.iaload, 1) := by decide +kernel
theorem dX5_countOf_11 : decode cX5_countOf 11 = .ok (.ireturn, 1) := by decide +kernel
theorem dX5_countBefore_0 : decode cX5_countBefore 0 = .ok (.iconst 0, 1) := by decide +kernel
theorem dX5_countBefore_1 : decode cX5_countBefore 1 = .ok (.istore_n 2, 1) := by decide +kernel
theorem dX5_countBefore_2 : decode cX5_countBefore 2 = .ok (.aload_n 1, 1) := by decide +kernel
theorem dX5_countBefore_3 : decode cX5_countBefore 3 = .ok (.invokevirtual 15, 3) := by decide +kernel
theorem dX5_countBefore_6 : decode cX5_countBefore 6 = .ok (.istore_n 3, 1) := by decide +kernel
theorem dX5_countBefore_7 : decode cX5_countBefore 7 = .ok (.iload_n 3, 1) := by decide +kernel
theorem dX5_countBefore_8 : decode cX5_countBefore 8 = .ok (.istore 4, 2) := by decide +kernel
theorem dX5_countBefore_10 : decode cX5_countBefore 10 = .ok (.iconst 0, 1) := by decide +kernel
theorem dX5_countBefore_11 : decode cX5_countBefore 11 = .ok (.istore 5, 2) := by decide +kernel
theorem dX5_countBefore_13 : decode cX5_countBefore 13 = .ok (.iload 5, 2) := by decide +kernel
theorem dX5_countBefore_15 : decode cX5_countBefore 15 = .ok (.bipush 8, 2) := by decide +kernel
theorem dX5_countBefore_17 : decode cX5_countBefore 17 = .ok (.if_icmp .ge 45, 3) := by decide +kernel
theorem dX5_countBefore_20 : decode cX5_countBefore 20 = .ok (.aload_n 1, 1) := by decide +kernel
theorem dX5_countBefore_21 : decode cX5_countBefore 21 = .ok (.getfield 21, 3) := by decide +kernel
theorem dX5_countBefore_24 : decode cX5_countBefore 24 = .ok (.iload 5, 2) := by decide +kernel
theorem dX5_countBefore_26 : decode cX5_countBefore 26 = .ok (.iaload, 1) := by decide +kernel
theorem dX5_countBefore_27 : decode cX5_countBefore 27 = .ok (.istore 6, 2) := by decide +kernel
theorem dX5_countBefore_29 : decode cX5_countBefore 29 = .ok (.iload_n 2, 1) := by decide +kernel
theorem dX5_countBefore_30 : decode cX5_countBefore 30 = .ok (.aload_n 0, 1) := by decide +kernel
theorem dX5_countBefore_31 : decode cX5_countBefore 31 = .ok (.iload_n 3, 1) := by decide +kernel
theorem dX5_countBefore_32 : decode cX5_countBefore 32 = .ok (.iload 4, 2) := by decide +kernel
theorem dX5_countBefore_34 : decode cX5_countBefore 34 = .ok (.invokevirtual 24, 3) := by decide +kernel
theorem dX5_countBefore_37 : decode cX5_countBefore 37 = .ok (.aload_n 0, 1) := by decide +kernel
theorem dX5_countBefore_38 : decode cX5_countBefore 38 = .ok (.iload_n 3, 1) := by decide +kernel
theorem dX5_countBefore_39 : decode cX5_countBefore 39 = .ok (.iload 6, 2) := by decide +kernel
theorem dX5_countBefore_41 : decode cX5_countBefore 41 = .ok (.invokevirtual 24, 3) := by decide +kernel
theorem dX5_countBefore_44 : decode cX5_countBefore 44 = .ok (.isub, 1) := by decide +kernel
theorem dX5_countBefore_45 : decode cX5_countBefore 45 = .ok (.iadd, 1) := by decide +kernel
theorem dX5_countBefore_46 : decode cX5_countBefore 46 = .ok (.istore_n 2, 1) := by decide +kernel
theorem dX5_countBefore_47 : decode cX5_countBefore 47 = .ok (.iload_n 3, 1) := by decide +kernel
theorem dX5_countBefore_48 : decode cX5_countBefore 48 = .ok (.iload 6, 2) := by decide +kernel
theorem dX5_countBefore_50 : decode cX5_countBefore 50 = .ok (.isub, 1) := by decide +kernel
theorem dX5_countBefore_51 : decode cX5_countBefore 51 = .ok (.istore_n 3, 1) := by decide +kernel
theorem dX5_countBefore_52 : decode cX5_countBefore 52 = .ok (.iload 6, 2) := by decide +kernel
theorem dX5_countBefore_54 : decode cX5_countBefore 54 = .ok (.istore 4, 2) := by decide +kernel
theorem dX5_countBefore_56 : decode cX5_countBefore 56 = .ok (.iinc 5 1, 3) := by decide +kernel
theorem dX5_countBefore_59 : decode cX5_countBefore 59 = .ok (.goto (-46), 3) := by decide +kernel
theorem dX5_countBefore_62 : decode cX5_countBefore 62 = .ok (.iload_n 2, 1) := by decide +kernel
theorem dX5_countBefore_63 : decode cX5_countBefore 63 = .ok (.ireturn, 1) := by decide +kernel
theorem dX5_find_0 : decode cX5_find 0 = .ok (.iload_n 1, 1) := by decide +kernel
theorem dX5_find_1 : decode cX5_find 1 = .ok (.istore 4, 2) := by decide +kernel
theorem dX5_find_3 : decode cX5_find 3 = .ok (.iload_n 2, 1) := by decide +kernel
theorem dX5_find_4 : decode cX5_find 4 = .ok (.istore 5, 2) := by decide +kernel
theorem dX5_find_6 : decode cX5_find 6 = .ok (.iload_n 1, 1) := by decide +kernel
theorem dX5_find_7 : decode cX5_find 7 = .ok (.istore 6, 2) := by decide +kernel
theorem dX5_find_9 : decode cX5_find 9 = .ok (.iconst 0, 1) := by decide +kernel
theorem dX5_find_10 : decode cX5_find 10 = .ok (.istore 7, 2) := by decide +kernel
theorem dX5_find_12 : decode cX5_find 12 = .ok (.iload 7, 2) := by decide +kernel
theorem dX5_find_14 : decode cX5_find 14 = .ok (.bipush 8, 2) := by decide +kernel
theorem dX5_find_16 : decode cX5_find 16 = .ok (.if_icmp .ge 81, 3) := by decide +kernel
theorem dX5_find_19 : decode cX5_find 19 = .ok (.iload 6, 2) := by decide +kernel
theorem dX5_find_21 : decode cX5_find 21 = .ok (.iload 4, 2) := by decide +kernel
theorem dX5_find_23 : decode cX5_find 23 = .ok (.invokestatic 28, 3) := by decide +kernel
theorem dX5_find_26 : decode cX5_find 26 = .ok (.istore 8, 2) := by decide +kernel
theorem dX5_find_28 : decode cX5_find 28 = .ok (.iload 8, 2) := by decide +kernel
theorem dX5_find_30 : decode cX5_find 30 = .ok (.ifCond .le 41, 3) := by decide +kernel
theorem dX5_find_33 : decode cX5_find 33 = .ok (.iload 5, 2) := by decide +kernel
theorem dX5_find_35 : decode cX5_find 35 = .ok (.aload_n 0, 1) := by decide +kernel
theorem dX5_find_36 : decode cX5_find 36 = .ok (.iload 4, 2) := by decide +kernel
theorem dX5_find_38 : decode cX5_find 38 = .ok (.iload 8, 2) := by decide +kernel
theorem dX5_find_40 : decode cX5_find 40 = .ok (.isub, 1) := by decide +kernel
theorem dX5_find_41 : decode cX5_find 41 = .ok (.iload 8, 2) := by decide +kernel
theorem dX5_find_43 : decode cX5_find 43 = .ok (.invokevirtual 24, 3) := by decide +kernel
theorem dX5_find_46 : decode cX5_find 46 = .ok (.if_icmp .lt 25, 3) := by decide +kernel
theorem dX5_find_49 : decode cX5_find 49 = .ok (.iload 5, 2) := by decide +kernel
theorem dX5_find_51 : decode cX5_find 51 = .ok (.aload_n 0, 1) := by decide +kernel
theorem dX5_find_52 : decode cX5_find 52 = .ok (.iload 4, 2) := by decide +kernel
theorem dX5_find_54 : decode cX5_find 54 = .ok (.iload 8, 2) := by decide +kernel
theorem dX5_find_56 : decode cX5_find 56 = .ok (.isub, 1) := by decide +kernel
theorem dX5_find_57 : decode cX5_find 57 = .ok (.iload 8, 2) := by decide +kernel
theorem dX5_find_59 : decode cX5_find 59 = .ok (.invokevirtual 24, 3) := by decide +kernel
theorem dX5_find_62 : decode cX5_find 62 = .ok (.isub, 1) := by decide +kernel
theorem dX5_find_63 : decode cX5_find 63 = .ok (.istore 5, 2) := by decide +kernel
theorem dX5_find_65 : decode cX5_find 65 = .ok (.iinc 8 (-1), 3) := by decide +kernel
theorem dX5_find_68 : decode cX5_find 68 = .ok (.goto (-40), 3) := by decide +kernel
theorem dX5_find_71 : decode cX5_find 71 = .ok (.aload_n 3, 1) := by decide +kernel
theorem dX5_find_72 : decode cX5_find 72 = .ok (.getfield 21, 3) := by decide +kernel
theorem dX5_find_75 : decode cX5_find 75 = .ok (.iload 7, 2) := by decide +kernel
theorem dX5_find_77 : decode cX5_find 77 = .ok (.iload 8, 2) := by decide +kernel
theorem dX5_find_79 : decode cX5_find 79 = .ok (.iastore, 1) := by decide +kernel
theorem dX5_find_80 : decode cX5_find 80 = .ok (.iload 4, 2) := by decide +kernel
theorem dX5_find_82 : decode cX5_find 82 = .ok (.iload 8, 2) := by decide +kernel
theorem dX5_find_84 : decode cX5_find 84 = .ok (.isub, 1) := by decide +kernel
theorem dX5_find_85 : decode cX5_find 85 = .ok (.istore 4, 2) := by decide +kernel
theorem dX5_find_87 : decode cX5_find 87 = .ok (.iload 8, 2) := by decide +kernel
theorem dX5_find_89 : decode cX5_find 89 = .ok (.istore 6, 2) := by decide +kernel
theorem dX5_find_91 : decode cX5_find 91 = .ok (.iinc 7 1, 3) := by decide +kernel
theorem dX5_find_94 : decode cX5_find 94 = .ok (.goto (-82), 3) := by decide +kernel
theorem dX5_find_97 : decode cX5_find 97 = .ok (.iload 4, 2) := by decide +kernel
theorem dX5_find_99 : decode cX5_find 99 = .ok (.ifCond .ne 7, 3) := by decide +kernel
theorem dX5_find_102 : decode cX5_find 102 = .ok (.iconst 1, 1) := by decide +kernel
theorem dX5_find_103 : decode cX5_find 103 = .ok (.goto 4, 3) := by decide +kernel
theorem dX5_find_106 : decode cX5_find 106 = .ok (.iconst 0, 1) := by decide +kernel
theorem dX5_find_107 : decode cX5_find 107 = .ok (.ireturn, 1) := by decide +kernel
theorem dX6_init_0 : decode cX6_init 0 = .ok (.aload_n 0, 1) := by decide +kernel
theorem dX6_init_1 : decode cX6_init 1 = .ok (.invokespecial 3, 3) := by decide +kernel
theorem dX6_init_4 : decode cX6_init 4 = .ok (.aload_n 0, 1) := by decide +kernel
theorem dX6_init_5 : decode cX6_init 5 = .ok (.bipush 25, 2) := by decide +kernel
theorem dX6_init_7 : decode cX6_init 7 = .ok (.newarray .int, 2) := by decide +kernel
theorem dX6_init_9 : decode cX6_init 9 = .ok (.putfield 9, 3) := by decide +kernel
theorem dX6_init_12 : decode cX6_init 12 = .ok (.return_, 1) := by decide +kernel
theorem dX6_count_0 : decode cX6_count 0 = .ok (.aload_n 0, 1) := by decide +kernel
theorem dX6_count_1 : decode cX6_count 1 = .ok (.getfield 9, 3) := by decide +kernel
theorem dX6_count_4 : decode cX6_count 4 = .ok (.iconst 0, 1) := by decide +kernel
theorem dX6_count_5 : decode cX6_count 5 = .ok (.invokestatic 15, 3) := by decide +kernel
theorem dX6_count_8 : decode cX6_count 8 = .ok (.aload_n 1, 1) := by decide +kernel
theorem dX6_count_9 : decode cX6_count 9 = .ok (.invokevirtual 21, 3) := by decide +kernel
theorem dX6_count_12 : decode cX6_count 12 = .ok (.istore_n 2, 1) := by decide +kernel
theorem dX6_count_13 : decode cX6_count 13 = .ok (.iload_n 2, 1) := by decide +kernel
theorem dX6_count_14 : decode cX6_count 14 = .ok (.ifCond .le 19, 3) := by decide +kernel
theorem dX6_count_17 : decode cX6_count 17 = .ok (.aload_n 0, 1) := by decide +kernel
theorem dX6_count_18 : decode cX6_count 18 = .ok (.getfield 9, 3) := by decide +kernel
theorem dX6_count_21 : decode cX6_count 21 = .ok (.iload_n 2, 1) := by decide +kernel
theorem dX6_count_22 : decode cX6_count 22 = .ok (.dup2, 1) := by decide +kernel
theorem dX6_count_23 : decode cX6_count 23 = .ok (.iaload, 1) := by decide +kernel
theorem dX6_count_24 : decode cX6_count 24 = .ok (.iconst 1, 1) := by decide +kernel
theorem dX6_count_25 : decode cX6_count 25 = .ok (.iadd, 1) := by decide +kernel
theorem dX6_count_26 : decode cX6_count 26 = .ok (.iastore, 1) := by decide +kernel
theorem dX6_count_27 : decode cX6_count 27 = .ok (.iinc 2 (-1), 3) := by decide +kernel
theorem dX6_count_30 : decode cX6_count 30 = .ok (.goto (-17), 3) := by decide +kernel
theorem dX6_count_33 : decode cX6_count 33 = .ok (.iconst 0, 1) := by decide +kernel
theorem dX6_count_34 : decode cX6_count 34 = .ok (.istore_n 2, 1) := by decide +kernel
theorem dX6_count_35 : decode cX6_count 35 = .ok (.iload_n 2, 1) := by decide +kernel
theorem dX6_count_36 : decode cX6_count 36 = .ok (.bipush 8, 2) := by decide +kernel
theorem dX6_count_38 : decode cX6_count 38 = .ok (.if_icmp .ge 42, 3) := by decide +kernel
theorem dX6_count_41 : decode cX6_count 41 = .ok (.iconst 0, 1) := by decide +kernel
theorem dX6_count_42 : decode cX6_count 42 = .ok (.istore_n 3, 1) := by decide +kernel
theorem dX6_count_43 : decode cX6_count 43 = .ok (.iload_n 3, 1) := by decide +kernel
theorem dX6_count_44 : decode cX6_count 44 = .ok (.aload_n 1, 1) := by decide +kernel
theorem dX6_count_45 : decode cX6_count 45 = .ok (.getfield 27, 3) := by decide +kernel
theorem dX6_count_48 : decode cX6_count 48 = .ok (.iload_n 2, 1) := by decide +kernel
theorem dX6_count_49 : decode cX6_count 49 = .ok (.iaload, 1) := by decide +kernel
theorem dX6_count_50 : decode cX6_count 50 = .ok (.if_icmp .ge 24, 3) := by decide +kernel
theorem dX6_count_53 : decode cX6_count 53 = .ok (.aload_n 0, 1) := by decide +kernel
theorem dX6_count_54 : decode cX6_count 54 = .ok (.getfield 9, 3) := by decide +kernel
theorem dX6_count_57 : decode cX6_count 57 = .ok (.aload_n 1, 1) := by decide +kernel
theorem dX6_count_58 : decode cX6_count 58 = .ok (.iload_n 2, 1) := by decide +kernel
theorem dX6_count_59 : decode cX6_count 59 = .ok (.iload_n 3, 1) := by decide +kernel
theorem dX6_count_60 : decode cX6_count 60 = .ok (.invokevirtual 30, 3) := by decide +kernel
theorem dX6_count_63 : decode cX6_count 63 = .ok (.dup2, 1) := by decide +kernel
theorem dX6_count_64 : decode cX6_count 64 = .ok (.iaload, 1) := by decide +kernel
theorem dX6_count_65 : decode cX6_count 65 = .ok (.iconst 1, 1) := by decide +kernel
theorem dX6_count_66 : decode cX6_count 66 = .ok (.isub, 1) := by decide +kernel
theorem dX6_count_67 : decode cX6_count 67 = .ok (.iastore, 1) := by decide +kernel
theorem dX6_count_68 : decode cX6_count 68 = .ok (.iinc 3 1, 3) := by decide +kernel
theorem dX6_count_71 : decode cX6_count 71 = .ok (.goto (-28), 3) := by decide +kernel
theorem dX6_count_74 : decode cX6_count 74 = .ok (.iinc 2 1, 3) := by decide +kernel
theorem dX6_count_77 : decode cX6_count 77 = .ok (.goto (-42), 3) := by decide +kernel
theorem dX6_count_80 : decode cX6_count 80 = .ok (.bipush 24, 2) := by decide +kernel
theorem dX6_count_82 : decode cX6_count 82 = .ok (.istore_n 2, 1) := by decide +kernel
theorem dX6_count_83 : decode cX6_count 83 = .ok (.iload_n 2, 1) := by decide +kernel
theorem dX6_count_84 : decode cX6_count 84 = .ok (.iconst 1, 1) := by decide +kernel
theorem dX6_count_85 : decode cX6_count 85 = .ok (.if_icmp .le 14, 3) := by decide +kernel
theorem dX6_count_88 : decode cX6_count 88 = .ok (.aload_n 0, 1) := by decide +kernel
theorem dX6_count_89 : decode cX6_count 89 = .ok (.iload_n 2, 1) := by decide +kernel
theorem dX6_count_90 : decode cX6_count 90 = .ok (.invokevirtual 34, 3) := by decide +kernel
theorem dX6_count_93 : decode cX6_count 93 = .ok (.iinc 2 (-1), 3) := by decide +kernel
theorem dX6_count_96 : decode cX6_count 96 = .ok (.goto (-13), 3) := by decide +kernel
theorem dX6_count_99 : decode cX6_count 99 = .ok (.aload_n 0, 1) := by decide +kernel
theorem dX6_count_100 : decode cX6_count 100 = .ok (.invokevirtual 38, 3) := by decide +kernel
theorem dX6_count_103 : decode cX6_count 103 = .ok (.lreturn, 1) := by decide +kernel
theorem dX6_splitIntoFactors_0 : decode cX6_splitIntoFactors 0 = .ok (.iconst 2, 1) := by decide +kernel
theorem dX6_splitIntoFactors_1 : decode cX6_splitIntoFactors 1 = .ok (.istore_n 2, 1) := by decide +kernel
theorem dX6_splitIntoFactors_2 : decode cX6_splitIntoFactors 2 = .ok (.iload_n 2, 1) := by decide +kernel
theorem dX6_splitIntoFactors_3 : decode cX6_splitIntoFactors 3 = .ok (.iload_n 2, 1) := by decide +kernel
theorem dX6_splitIntoFactors_4 : decode cX6_splitIntoFactors 4 = .ok (.imul, 1) := by decide +kernel
theorem dX6_splitIntoFactors_5 : decode cX6_splitIntoFactors 5 = .ok (.iload_n 1, 1) := by decide +kernel
theorem dX6_splitIntoFactors_6 : decode cX6_splitIntoFactors 6 = .ok (.if_icmp .gt 55, 3) := by decide +kernel
theorem dX6_splitIntoFactors_9 : decode cX6_splitIntoFactors 9 = .ok (.iload_n 1, 1) := by decide +kernel
theorem dX6_splitIntoFactors_10 : decode cX6_splitIntoFactors 10 = .ok (.iload_n 2, 1) := by decide +kernel
theorem dX6_splitIntoFactors_11 : decode cX6_splitIntoFactors 11 = .ok (.irem, 1) := by decide +kernel
theorem dX6_splitIntoFactors_12 : decode cX6_splitIntoFactors 12 = .ok (.ifCond .ne 43, 3) := by decide +kernel
theorem dX6_splitIntoFactors_15 : decode cX6_splitIntoFactors 15 = .ok (.aload_n 0, 1) := by decide +kernel
theorem dX6_splitIntoFactors_16 : decode cX6_splitIntoFactors 16 = .ok (.getfield 9, 3) := by decide +kernel
theorem dX6_splitIntoFactors_19 : decode cX6_splitIntoFactors 19 = .ok (.iload_n 2, 1) := by decide +kernel
theorem dX6_splitIntoFactors_20 : decode cX6_splitIntoFactors 20 = .ok (.dup2, 1) := by decide +kernel
theorem dX6_splitIntoFactors_21 : decode cX6_splitIntoFactors 21 = .ok (.iaload, 1) := by decide +kernel
theorem dX6_splitIntoFactors_22 : decode cX6_splitIntoFactors 22 = .ok (.aload_n 0, 1) := by decide +kernel
theorem dX6_splitIntoFactors_23 : decode cX6_splitIntoFactors 23 = .ok (.getfield 9, 3) := by decide +kernel
theorem dX6_splitIntoFactors_26 : decode cX6_splitIntoFactors 26 = .ok (.iload_n 1, 1) := by decide +kernel
theorem dX6_splitIntoFactors_27 : decode cX6_splitIntoFactors 27 = .ok (.iaload, 1) := by decide +kernel
theorem dX6_splitIntoFactors_28 : decode cX6_splitIntoFactors 28 = .ok (.iadd, 1) := by decide +kernel
theorem dX6_splitIntoFactors_29 : decode cX6_splitIntoFactors 29 = .ok (.iastore, 1) := by decide +kernel
theorem dX6_splitIntoFactors_30 : decode cX6_splitIntoFactors 30 = .ok (.aload_n 0, 1) := by decide +kernel
theorem dX6_splitIntoFactors_31 : decode cX6_splitIntoFactors 31 = .ok (.getfield 9, 3) := by decide +kernel
theorem dX6_splitIntoFactors_34 : decode cX6_splitIntoFactors 34 = .ok (.iload_n 1, 1) := by decide +kernel
theorem dX6_splitIntoFactors_35 : decode cX6_splitIntoFactors 35 = .ok (.iload_n 2, 1) := by decide +kernel
theorem dX6_splitIntoFactors_36 : decode cX6_splitIntoFactors 36 = .ok (.idiv, 1) := by decide +kernel
theorem dX6_splitIntoFactors_37 : decode cX6_splitIntoFactors 37 = .ok (.dup2, 1) := by decide +kernel
theorem dX6_splitIntoFactors_38 : decode cX6_splitIntoFactors 38 = .ok (.iaload, 1) := by decide +kernel
theorem dX6_splitIntoFactors_39 : decode cX6_splitIntoFactors 39 = .ok (.aload_n 0, 1) := by decide +kernel
theorem dX6_splitIntoFactors_40 : decode cX6_splitIntoFactors 40 = .ok (.getfield 9, 3) := by decide +kernel
theorem dX6_splitIntoFactors_43 : decode cX6_splitIntoFactors 43 = .ok (.iload_n 1, 1) := by decide +kernel
theorem dX6_splitIntoFactors_44 : decode cX6_splitIntoFactors 44 = .ok (.iaload, 1) := by decide +kernel
theorem dX6_splitIntoFactors_45 : decode cX6_splitIntoFactors 45 = .ok (.iadd, 1) := by decide +kernel
theorem dX6_splitIntoFactors_46 : decode cX6_splitIntoFactors 46 = .ok (.iastore, 1) := by decide +kernel
theorem dX6_splitIntoFactors_47 : decode cX6_splitIntoFactors 47 = .ok (.aload_n 0, 1) := by decide +kernel
theorem dX6_splitIntoFactors_48 : decode cX6_splitIntoFactors 48 = .ok (.getfield 9, 3) := by decide +kernel
theorem dX6_splitIntoFactors_51 : decode cX6_splitIntoFactors 51 = .ok (.iload_n 1, 1) := by decide +kernel
theorem dX6_splitIntoFactors_52 : decode cX6_splitIntoFactors 52 = .ok (.iconst 0, 1) := by decide +kernel
theorem dX6_splitIntoFactors_53 : decode cX6_splitIntoFactors 53 = .ok (.iastore, 1) := by decide +kernel
theorem dX6_splitIntoFactors_54 : decode cX6_splitIntoFactors 54 = .ok (.return_, 1) := by decide +kernel
theorem dX6_splitIntoFactors_55 : decode cX6_splitIntoFactors 55 = .ok (.iinc 2 1, 3) := by decide +kernel
theorem dX6_splitIntoFactors_58 : decode cX6_splitIntoFactors 58 = .ok (.goto (-56), 3) := by decide +kernel
theorem dX6_splitIntoFactors_61 : decode cX6_splitIntoFactors 61 = .ok (.return_, 1) := by decide +kernel
theorem dX6_multiply_0 : decode cX6_multiply 0 = .ok (.lconst 1, 1) := by decide +kernel
theorem dX6_multiply_1 : decode cX6_multiply 1 = .ok (.lstore_n 1, 1) := by decide +kernel
theorem dX6_multiply_2 : decode cX6_multiply 2 = .ok (.iconst 2, 1) := by decide +kernel
theorem dX6_multiply_3 : decode cX6_multiply 3 = .ok (.istore_n 3, 1) := by decide +kernel
theorem dX6_multiply_4 : decode cX6_multiply 4 = .ok (.iload_n 3, 1) := by decide +kernel
theorem dX6_multiply_5 : decode cX6_multiply 5 = .ok (.bipush 24, 2) := by decide +kernel
theorem dX6_multiply_7 : decode cX6_multiply 7 = .ok (.if_icmp .gt 34, 3) := by decide +kernel
theorem dX6_multiply_10 : decode cX6_multiply 10 = .ok (.iconst 0, 1) := by decide +kernel
theorem dX6_multiply_11 : decode cX6_multiply 11 = .ok (.istore 4, 2) := by decide +kernel
theorem dX6_multiply_13 : decode cX6_multiply 13 = .ok (.iload 4, 2) := by decide +kernel
theorem dX6_multiply_15 : decode cX6_multiply 15 = .ok (.aload_n 0, 1) := by decide +kernel
theorem dX6_multiply_16 : decode cX6_multiply 16 = .ok (.getfield 9, 3) := by decide +kernel
theorem dX6_multiply_19 : decode cX6_multiply 19 = .ok (.iload_n 3, 1) := by decide +kernel
theorem dX6_multiply_20 : decode cX6_multiply 20 = .ok (.iaload, 1) := by decide +kernel
theorem dX6_multiply_21 : decode cX6_multiply 21 = .ok (.if_icmp .ge 14, 3) := by decide +kernel
theorem dX6_multiply_24 : decode cX6_multiply 24 = .ok (.lload_n 1, 1) := by decide +kernel
theorem dX6_multiply_25 : decode cX6_multiply 25 = .ok (.iload_n 3, 1) := by decide +kernel
theorem dX6_multiply_26 : decode cX6_multiply 26 = .ok (.i2l, 1) := by decide +kernel
theorem dX6_multiply_27 : decode cX6_multiply 27 = .ok (.lmul, 1) := by decide +kernel
theorem dX6_multiply_28 : decode cX6_multiply 28 = .ok (.lstore_n 1, 1) := by decide +kernel
theorem dX6_multiply_29 : decode cX6_multiply 29 = .ok (.iinc 4 1, 3) := by decide +kernel
theorem dX6_multiply_32 : decode cX6_multiply 32 = .ok (.goto (-19), 3) := by decide +kernel
theorem dX6_multiply_35 : decode cX6_multiply 35 = .ok (.iinc 3 1, 3) := by decide +kernel
theorem dX6_multiply_38 : decode cX6_multiply 38 = .ok (.goto (-34), 3) := by decide +kernel
theorem dX6_multiply_41 : decode cX6_multiply 41 = .ok (.lload_n 1, 1) := by decide +kernel
theorem dX6_multiply_42 : decode cX6_multiply 42 = .ok (.lreturn, 1) := by decide +kernel
