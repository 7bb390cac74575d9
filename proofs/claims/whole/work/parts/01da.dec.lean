/-! decode rows, laid by prog/names.py -/
theorem dX6_init_0 : decode cX6_init 0 = .ok (.aload_n 0, 1) := by decide +kernel
theorem dX6_init_1 : decode cX6_init 1 = .ok (.invokespecial 3, 3) := by decide +kernel
theorem dX6_init_4 : decode cX6_init 4 = .ok (.aload_n 0, 1) := by decide +kernel
theorem dX6_init_5 : decode cX6_init 5 = .ok (.new 9, 3) := by decide +kernel
theorem dX6_init_8 : decode cX6_init 8 = .ok (.dup, 1) := by decide +kernel
theorem dX6_init_9 : decode cX6_init 9 = .ok (.bipush 60, 2) := by decide +kernel
theorem dX6_init_11 : decode cX6_init 11 = .ok (.invokespecial 11, 3) := by decide +kernel
theorem dX6_init_14 : decode cX6_init 14 = .ok (.putfield 14, 3) := by decide +kernel
theorem dX6_init_17 : decode cX6_init 17 = .ok (.aload_n 0, 1) := by decide +kernel
theorem dX6_init_18 : decode cX6_init 18 = .ok (.new 9, 3) := by decide +kernel
theorem dX6_init_21 : decode cX6_init 21 = .ok (.dup, 1) := by decide +kernel
theorem dX6_init_22 : decode cX6_init 22 = .ok (.bipush 119, 2) := by decide +kernel
theorem dX6_init_24 : decode cX6_init 24 = .ok (.invokespecial 11, 3) := by decide +kernel
theorem dX6_init_27 : decode cX6_init 27 = .ok (.putfield 18, 3) := by decide +kernel
theorem dX6_init_30 : decode cX6_init 30 = .ok (.aload_n 0, 1) := by decide +kernel
theorem dX6_init_31 : decode cX6_init 31 = .ok (.new 9, 3) := by decide +kernel
theorem dX6_init_34 : decode cX6_init 34 = .ok (.dup, 1) := by decide +kernel
theorem dX6_init_35 : decode cX6_init 35 = .ok (.bipush 7, 2) := by decide +kernel
theorem dX6_init_37 : decode cX6_init 37 = .ok (.invokespecial 11, 3) := by decide +kernel
theorem dX6_init_40 : decode cX6_init 40 = .ok (.putfield 21, 3) := by decide +kernel
theorem dX6_init_43 : decode cX6_init 43 = .ok (.aload_n 0, 1) := by decide +kernel
theorem dX6_init_44 : decode cX6_init 44 = .ok (.new 24, 3) := by decide +kernel
theorem dX6_init_47 : decode cX6_init 47 = .ok (.dup, 1) := by decide +kernel
theorem dX6_init_48 : decode cX6_init 48 = .ok (.invokespecial 26, 3) := by decide +kernel
theorem dX6_init_51 : decode cX6_init 51 = .ok (.putfield 27, 3) := by decide +kernel
theorem dX6_init_54 : decode cX6_init 54 = .ok (.aload_n 0, 1) := by decide +kernel
theorem dX6_init_55 : decode cX6_init 55 = .ok (.new 31, 3) := by decide +kernel
theorem dX6_init_58 : decode cX6_init 58 = .ok (.dup, 1) := by decide +kernel
theorem dX6_init_59 : decode cX6_init 59 = .ok (.invokespecial 33, 3) := by decide +kernel
theorem dX6_init_62 : decode cX6_init 62 = .ok (.putfield 34, 3) := by decide +kernel
theorem dX6_init_65 : decode cX6_init 65 = .ok (.aload_n 0, 1) := by decide +kernel
theorem dX6_init_66 : decode cX6_init 66 = .ok (.new 38, 3) := by decide +kernel
theorem dX6_init_69 : decode cX6_init 69 = .ok (.dup, 1) := by decide +kernel
theorem dX6_init_70 : decode cX6_init 70 = .ok (.invokespecial 40, 3) := by decide +kernel
theorem dX6_init_73 : decode cX6_init 73 = .ok (.putfield 41, 3) := by decide +kernel
theorem dX6_init_76 : decode cX6_init 76 = .ok (.aload_n 0, 1) := by decide +kernel
theorem dX6_init_77 : decode cX6_init 77 = .ok (.new 45, 3) := by decide +kernel
theorem dX6_init_80 : decode cX6_init 80 = .ok (.dup, 1) := by decide +kernel
theorem dX6_init_81 : decode cX6_init 81 = .ok (.invokespecial 47, 3) := by decide +kernel
theorem dX6_init_84 : decode cX6_init 84 = .ok (.putfield 48, 3) := by decide +kernel
theorem dX6_init_87 : decode cX6_init 87 = .ok (.aload_n 0, 1) := by decide +kernel
theorem dX6_init_88 : decode cX6_init 88 = .ok (.new 52, 3) := by decide +kernel
theorem dX6_init_91 : decode cX6_init 91 = .ok (.dup, 1) := by decide +kernel
theorem dX6_init_92 : decode cX6_init 92 = .ok (.invokespecial 54, 3) := by decide +kernel
theorem dX6_init_95 : decode cX6_init 95 = .ok (.putfield 55, 3) := by decide +kernel
theorem dX6_init_98 : decode cX6_init 98 = .ok (.return_, 1) := by decide +kernel
theorem dX6_type_0 : decode cX6_type 0 = .ok (.iload_n 1, 1) := by decide +kernel
theorem dX6_type_1 : decode cX6_type 1 = .ok (.bipush 32, 2) := by decide +kernel
theorem dX6_type_3 : decode cX6_type 3 = .ok (.if_icmp .lt 24, 3) := by decide +kernel
theorem dX6_type_6 : decode cX6_type 6 = .ok (.iload_n 1, 1) := by decide +kernel
theorem dX6_type_7 : decode cX6_type 7 = .ok (.bipush 126, 2) := by decide +kernel
theorem dX6_type_9 : decode cX6_type 9 = .ok (.if_icmp .gt 18, 3) := by decide +kernel
theorem dX6_type_12 : decode cX6_type 12 = .ok (.aload_n 0, 1) := by decide +kernel
theorem dX6_type_13 : decode cX6_type 13 = .ok (.getfield 14, 3) := by decide +kernel
theorem dX6_type_16 : decode cX6_type 16 = .ok (.iload_n 1, 1) := by decide +kernel
theorem dX6_type_17 : decode cX6_type 17 = .ok (.invokevirtual 59, 3) := by decide +kernel
theorem dX6_type_20 : decode cX6_type 20 = .ok (.ifCond .eq 7, 3) := by decide +kernel
theorem dX6_type_23 : decode cX6_type 23 = .ok (.iconst 1, 1) := by decide +kernel
theorem dX6_type_24 : decode cX6_type 24 = .ok (.goto 4, 3) := by decide +kernel
theorem dX6_type_27 : decode cX6_type 27 = .ok (.iconst 0, 1) := by decide +kernel
theorem dX6_type_28 : decode cX6_type 28 = .ok (.ireturn, 1) := by decide +kernel
theorem dX6_wipe_0 : decode cX6_wipe 0 = .ok (.aload_n 0, 1) := by decide +kernel
theorem dX6_wipe_1 : decode cX6_wipe 1 = .ok (.getfield 14, 3) := by decide +kernel
theorem dX6_wipe_4 : decode cX6_wipe 4 = .ok (.invokevirtual 63, 3) := by decide +kernel
theorem dX6_wipe_7 : decode cX6_wipe 7 = .ok (.ireturn, 1) := by decide +kernel
theorem dX6_add_0 : decode cX6_add 0 = .ok (.aload_n 0, 1) := by decide +kernel
theorem dX6_add_1 : decode cX6_add 1 = .ok (.getfield 27, 3) := by decide +kernel
theorem dX6_add_4 : decode cX6_add 4 = .ok (.invokevirtual 67, 3) := by decide +kernel
theorem dX6_add_7 : decode cX6_add 7 = .ok (.bipush 30, 2) := by decide +kernel
theorem dX6_add_9 : decode cX6_add 9 = .ok (.if_icmp .lt 13, 3) := by decide +kernel
theorem dX6_add_12 : decode cX6_add 12 = .ok (.new 70, 3) := by decide +kernel
theorem dX6_add_15 : decode cX6_add 15 = .ok (.dup, 1) := by decide +kernel
theorem dX6_add_16 : decode cX6_add 16 = .ok (.ldc 72, 2) := by decide +kernel
theorem dX6_add_18 : decode cX6_add 18 = .ok (.invokespecial 74, 3) := by decide +kernel
theorem dX6_add_21 : decode cX6_add 21 = .ok (.athrow, 1) := by decide +kernel
theorem dX6_add_22 : decode cX6_add 22 = .ok (.iconst (-1), 1) := by decide +kernel
theorem dX6_add_23 : decode cX6_add 23 = .ok (.istore_n 1, 1) := by decide +kernel
theorem dX6_add_24 : decode cX6_add 24 = .ok (.aload_n 0, 1) := by decide +kernel
theorem dX6_add_25 : decode cX6_add 25 = .ok (.getfield 14, 3) := by decide +kernel
theorem dX6_add_28 : decode cX6_add 28 = .ok (.invokestatic 77, 3) := by decide +kernel
theorem dX6_add_31 : decode cX6_add 31 = .ok (.ifCond .eq 30, 3) := by decide +kernel
theorem dX6_add_34 : decode cX6_add 34 = .ok (.aload_n 0, 1) := by decide +kernel
theorem dX6_add_35 : decode cX6_add 35 = .ok (.getfield 27, 3) := by decide +kernel
theorem dX6_add_38 : decode cX6_add 38 = .ok (.aload_n 0, 1) := by decide +kernel
theorem dX6_add_39 : decode cX6_add 39 = .ok (.getfield 27, 3) := by decide +kernel
theorem dX6_add_42 : decode cX6_add 42 = .ok (.aload_n 0, 1) := by decide +kernel
theorem dX6_add_43 : decode cX6_add 43 = .ok (.getfield 14, 3) := by decide +kernel
theorem dX6_add_46 : decode cX6_add 46 = .ok (.invokevirtual 81, 3) := by decide +kernel
theorem dX6_add_49 : decode cX6_add 49 = .ok (.invokevirtual 85, 3) := by decide +kernel
theorem dX6_add_52 : decode cX6_add 52 = .ok (.ifCond .eq 7, 3) := by decide +kernel
theorem dX6_add_55 : decode cX6_add 55 = .ok (.iconst 0, 1) := by decide +kernel
theorem dX6_add_56 : decode cX6_add 56 = .ok (.goto 4, 3) := by decide +kernel
theorem dX6_add_59 : decode cX6_add 59 = .ok (.iconst 1, 1) := by decide +kernel
theorem dX6_add_60 : decode cX6_add 60 = .ok (.istore_n 1, 1) := by decide +kernel
theorem dX6_add_61 : decode cX6_add 61 = .ok (.iload_n 1, 1) := by decide +kernel
theorem dX6_add_62 : decode cX6_add 62 = .ok (.iconst 1, 1) := by decide +kernel
theorem dX6_add_63 : decode cX6_add 63 = .ok (.if_icmp .ne 7, 3) := by decide +kernel
theorem dX6_add_66 : decode cX6_add 66 = .ok (.aload_n 0, 1) := by decide +kernel
theorem dX6_add_67 : decode cX6_add 67 = .ok (.invokevirtual 89, 3) := by decide +kernel
theorem dX6_add_70 : decode cX6_add 70 = .ok (.aload_n 0, 1) := by decide +kernel
theorem dX6_add_71 : decode cX6_add 71 = .ok (.getfield 14, 3) := by decide +kernel
theorem dX6_add_74 : decode cX6_add 74 = .ok (.invokevirtual 63, 3) := by decide +kernel
theorem dX6_add_77 : decode cX6_add 77 = .ok (.pop, 1) := by decide +kernel
theorem dX6_add_78 : decode cX6_add 78 = .ok (.iload_n 1, 1) := by decide +kernel
theorem dX6_add_79 : decode cX6_add 79 = .ok (.ireturn, 1) := by decide +kernel
theorem dX6_remove_0 : decode cX6_remove 0 = .ok (.aload_n 0, 1) := by decide +kernel
theorem dX6_remove_1 : decode cX6_remove 1 = .ok (.getfield 27, 3) := by decide +kernel
theorem dX6_remove_4 : decode cX6_remove 4 = .ok (.aload_n 0, 1) := by decide +kernel
theorem dX6_remove_5 : decode cX6_remove 5 = .ok (.getfield 27, 3) := by decide +kernel
theorem dX6_remove_8 : decode cX6_remove 8 = .ok (.aload_n 0, 1) := by decide +kernel
theorem dX6_remove_9 : decode cX6_remove 9 = .ok (.getfield 14, 3) := by decide +kernel
theorem dX6_remove_12 : decode cX6_remove 12 = .ok (.invokevirtual 81, 3) := by decide +kernel
theorem dX6_remove_15 : decode cX6_remove 15 = .ok (.invokevirtual 85, 3) := by decide +kernel
theorem dX6_remove_18 : decode cX6_remove 18 = .ok (.istore_n 1, 1) := by decide +kernel
theorem dX6_remove_19 : decode cX6_remove 19 = .ok (.iload_n 1, 1) := by decide +kernel
theorem dX6_remove_20 : decode cX6_remove 20 = .ok (.ifCond .eq 7, 3) := by decide +kernel
theorem dX6_remove_23 : decode cX6_remove 23 = .ok (.aload_n 0, 1) := by decide +kernel
theorem dX6_remove_24 : decode cX6_remove 24 = .ok (.invokevirtual 92, 3) := by decide +kernel
theorem dX6_remove_27 : decode cX6_remove 27 = .ok (.aload_n 0, 1) := by decide +kernel
theorem dX6_remove_28 : decode cX6_remove 28 = .ok (.getfield 14, 3) := by decide +kernel
theorem dX6_remove_31 : decode cX6_remove 31 = .ok (.invokevirtual 63, 3) := by decide +kernel
theorem dX6_remove_34 : decode cX6_remove 34 = .ok (.pop, 1) := by decide +kernel
theorem dX6_remove_35 : decode cX6_remove 35 = .ok (.iload_n 1, 1) := by decide +kernel
theorem dX6_remove_36 : decode cX6_remove 36 = .ok (.ireturn, 1) := by decide +kernel
theorem dX6_words_0 : decode cX6_words 0 = .ok (.aload_n 0, 1) := by decide +kernel
theorem dX6_words_1 : decode cX6_words 1 = .ok (.getfield 27, 3) := by decide +kernel
theorem dX6_words_4 : decode cX6_words 4 = .ok (.invokevirtual 67, 3) := by decide +kernel
theorem dX6_words_7 : decode cX6_words 7 = .ok (.ireturn, 1) := by decide +kernel
theorem dX6_word_0 : decode cX6_word 0 = .ok (.iload_n 1, 1) := by decide +kernel
theorem dX6_word_1 : decode cX6_word 1 = .ok (.ifCond .lt 14, 3) := by decide +kernel
theorem dX6_word_4 : decode cX6_word 4 = .ok (.iload_n 1, 1) := by decide +kernel
theorem dX6_word_5 : decode cX6_word 5 = .ok (.aload_n 0, 1) := by decide +kernel
theorem dX6_word_6 : decode cX6_word 6 = .ok (.getfield 27, 3) := by decide +kernel
theorem dX6_word_9 : decode cX6_word 9 = .ok (.invokevirtual 67, 3) := by decide +kernel
theorem dX6_word_12 : decode cX6_word 12 = .ok (.if_icmp .lt 13, 3) := by decide +kernel
theorem dX6_word_15 : decode cX6_word 15 = .ok (.new 95, 3) := by decide +kernel
theorem dX6_word_18 : decode cX6_word 18 = .ok (.dup, 1) := by decide +kernel
theorem dX6_word_19 : decode cX6_word 19 = .ok (.ldc 97, 2) := by decide +kernel
theorem dX6_word_21 : decode cX6_word 21 = .ok (.invokespecial 99, 3) := by decide +kernel
theorem dX6_word_24 : decode cX6_word 24 = .ok (.athrow, 1) := by decide +kernel
theorem dX6_word_25 : decode cX6_word 25 = .ok (.aload_n 0, 1) := by decide +kernel
theorem dX6_word_26 : decode cX6_word 26 = .ok (.getfield 27, 3) := by decide +kernel
theorem dX6_word_29 : decode cX6_word 29 = .ok (.iload_n 1, 1) := by decide +kernel
theorem dX6_word_30 : decode cX6_word 30 = .ok (.aload_n 0, 1) := by decide +kernel
theorem dX6_word_31 : decode cX6_word 31 = .ok (.getfield 18, 3) := by decide +kernel
theorem dX6_word_34 : decode cX6_word 34 = .ok (.invokevirtual 100, 3) := by decide +kernel
theorem dX6_word_37 : decode cX6_word 37 = .ok (.aload_n 0, 1) := by decide +kernel
theorem dX6_word_38 : decode cX6_word 38 = .ok (.getfield 18, 3) := by decide +kernel
theorem dX6_word_41 : decode cX6_word 41 = .ok (.invokevirtual 104, 3) := by decide +kernel
theorem dX6_word_44 : decode cX6_word 44 = .ok (.ireturn, 1) := by decide +kernel
theorem dX6_rank_0 : decode cX6_rank 0 = .ok (.aload_n 0, 1) := by decide +kernel
theorem dX6_rank_1 : decode cX6_rank 1 = .ok (.getfield 27, 3) := by decide +kernel
theorem dX6_rank_4 : decode cX6_rank 4 = .ok (.aload_n 0, 1) := by decide +kernel
theorem dX6_rank_5 : decode cX6_rank 5 = .ok (.getfield 14, 3) := by decide +kernel
theorem dX6_rank_8 : decode cX6_rank 8 = .ok (.invokevirtual 81, 3) := by decide +kernel
theorem dX6_rank_11 : decode cX6_rank 11 = .ok (.istore_n 1, 1) := by decide +kernel
theorem dX6_rank_12 : decode cX6_rank 12 = .ok (.aload_n 0, 1) := by decide +kernel
theorem dX6_rank_13 : decode cX6_rank 13 = .ok (.getfield 14, 3) := by decide +kernel
theorem dX6_rank_16 : decode cX6_rank 16 = .ok (.invokevirtual 63, 3) := by decide +kernel
theorem dX6_rank_19 : decode cX6_rank 19 = .ok (.pop, 1) := by decide +kernel
theorem dX6_rank_20 : decode cX6_rank 20 = .ok (.aload_n 0, 1) := by decide +kernel
theorem dX6_rank_21 : decode cX6_rank 21 = .ok (.getfield 27, 3) := by decide +kernel
theorem dX6_rank_24 : decode cX6_rank 24 = .ok (.iload_n 1, 1) := by decide +kernel
theorem dX6_rank_25 : decode cX6_rank 25 = .ok (.invokevirtual 85, 3) := by decide +kernel
theorem dX6_rank_28 : decode cX6_rank 28 = .ok (.ifCond .eq 14, 3) := by decide +kernel
theorem dX6_rank_31 : decode cX6_rank 31 = .ok (.aload_n 0, 1) := by decide +kernel
theorem dX6_rank_32 : decode cX6_rank 32 = .ok (.getfield 27, 3) := by decide +kernel
theorem dX6_rank_35 : decode cX6_rank 35 = .ok (.iload_n 1, 1) := by decide +kernel
theorem dX6_rank_36 : decode cX6_rank 36 = .ok (.invokevirtual 107, 3) := by decide +kernel
theorem dX6_rank_39 : decode cX6_rank 39 = .ok (.goto 4, 3) := by decide +kernel
theorem dX6_rank_42 : decode cX6_rank 42 = .ok (.iconst (-1), 1) := by decide +kernel
theorem dX6_rank_43 : decode cX6_rank 43 = .ok (.ireturn, 1) := by decide +kernel
theorem dX6_starting_0 : decode cX6_starting 0 = .ok (.aload_n 0, 1) := by decide +kernel
theorem dX6_starting_1 : decode cX6_starting 1 = .ok (.getfield 27, 3) := by decide +kernel
theorem dX6_starting_4 : decode cX6_starting 4 = .ok (.aload_n 0, 1) := by decide +kernel
theorem dX6_starting_5 : decode cX6_starting 5 = .ok (.getfield 14, 3) := by decide +kernel
theorem dX6_starting_8 : decode cX6_starting 8 = .ok (.invokevirtual 81, 3) := by decide +kernel
theorem dX6_starting_11 : decode cX6_starting 11 = .ok (.istore_n 1, 1) := by decide +kernel
theorem dX6_starting_12 : decode cX6_starting 12 = .ok (.aload_n 0, 1) := by decide +kernel
theorem dX6_starting_13 : decode cX6_starting 13 = .ok (.getfield 14, 3) := by decide +kernel
theorem dX6_starting_16 : decode cX6_starting 16 = .ok (.invokevirtual 63, 3) := by decide +kernel
theorem dX6_starting_19 : decode cX6_starting 19 = .ok (.pop, 1) := by decide +kernel
theorem dX6_starting_20 : decode cX6_starting 20 = .ok (.iload_n 1, 1) := by decide +kernel
theorem dX6_starting_21 : decode cX6_starting 21 = .ok (.iconst (-1), 1) := by decide +kernel
theorem dX6_starting_22 : decode cX6_starting 22 = .ok (.if_icmp .ne 7, 3) := by decide +kernel
theorem dX6_starting_25 : decode cX6_starting 25 = .ok (.iconst 0, 1) := by decide +kernel
theorem dX6_starting_26 : decode cX6_starting 26 = .ok (.goto 11, 3) := by decide +kernel
theorem dX6_starting_29 : decode cX6_starting 29 = .ok (.aload_n 0, 1) := by decide +kernel
theorem dX6_starting_30 : decode cX6_starting 30 = .ok (.getfield 27, 3) := by decide +kernel
theorem dX6_starting_33 : decode cX6_starting 33 = .ok (.iload_n 1, 1) := by decide +kernel
theorem dX6_starting_34 : decode cX6_starting 34 = .ok (.invokevirtual 111, 3) := by decide +kernel
theorem dX6_starting_37 : decode cX6_starting 37 = .ok (.ireturn, 1) := by decide +kernel
theorem dX6_longest_0 : decode cX6_longest 0 = .ok (.iconst (-1), 1) := by decide +kernel
theorem dX6_longest_1 : decode cX6_longest 1 = .ok (.istore_n 1, 1) := by decide +kernel
theorem dX6_longest_2 : decode cX6_longest 2 = .ok (.iconst 0, 1) := by decide +kernel
theorem dX6_longest_3 : decode cX6_longest 3 = .ok (.istore_n 2, 1) := by decide +kernel
theorem dX6_longest_4 : decode cX6_longest 4 = .ok (.iconst 0, 1) := by decide +kernel
theorem dX6_longest_5 : decode cX6_longest 5 = .ok (.istore_n 3, 1) := by decide +kernel
theorem dX6_longest_6 : decode cX6_longest 6 = .ok (.iload_n 3, 1) := by decide +kernel
theorem dX6_longest_7 : decode cX6_longest 7 = .ok (.aload_n 0, 1) := by decide +kernel
theorem dX6_longest_8 : decode cX6_longest 8 = .ok (.getfield 14, 3) := by decide +kernel
theorem dX6_longest_11 : decode cX6_longest 11 = .ok (.invokevirtual 104, 3) := by decide +kernel
theorem dX6_longest_14 : decode cX6_longest 14 = .ok (.if_icmp .ge 51, 3) := by decide +kernel
theorem dX6_longest_17 : decode cX6_longest 17 = .ok (.iload_n 2, 1) := by decide +kernel
theorem dX6_longest_18 : decode cX6_longest 18 = .ok (.iconst (-1), 1) := by decide +kernel
theorem dX6_longest_19 : decode cX6_longest 19 = .ok (.if_icmp .eq 46, 3) := by decide +kernel
theorem dX6_longest_22 : decode cX6_longest 22 = .ok (.aload_n 0, 1) := by decide +kernel
theorem dX6_longest_23 : decode cX6_longest 23 = .ok (.getfield 27, 3) := by decide +kernel
theorem dX6_longest_26 : decode cX6_longest 26 = .ok (.iload_n 2, 1) := by decide +kernel
theorem dX6_longest_27 : decode cX6_longest 27 = .ok (.aload_n 0, 1) := by decide +kernel
theorem dX6_longest_28 : decode cX6_longest 28 = .ok (.getfield 14, 3) := by decide +kernel
theorem dX6_longest_31 : decode cX6_longest 31 = .ok (.iload_n 3, 1) := by decide +kernel
theorem dX6_longest_32 : decode cX6_longest 32 = .ok (.invokevirtual 114, 3) := by decide +kernel
theorem dX6_longest_35 : decode cX6_longest 35 = .ok (.invokevirtual 118, 3) := by decide +kernel
theorem dX6_longest_38 : decode cX6_longest 38 = .ok (.istore_n 2, 1) := by decide +kernel
theorem dX6_longest_39 : decode cX6_longest 39 = .ok (.aload_n 0, 1) := by decide +kernel
theorem dX6_longest_40 : decode cX6_longest 40 = .ok (.getfield 27, 3) := by decide +kernel
theorem dX6_longest_43 : decode cX6_longest 43 = .ok (.iload_n 2, 1) := by decide +kernel
theorem dX6_longest_44 : decode cX6_longest 44 = .ok (.invokevirtual 85, 3) := by decide +kernel
theorem dX6_longest_47 : decode cX6_longest 47 = .ok (.ifCond .eq 12, 3) := by decide +kernel
theorem dX6_longest_50 : decode cX6_longest 50 = .ok (.aload_n 0, 1) := by decide +kernel
theorem dX6_longest_51 : decode cX6_longest 51 = .ok (.getfield 27, 3) := by decide +kernel
theorem dX6_longest_54 : decode cX6_longest 54 = .ok (.iload_n 2, 1) := by decide +kernel
theorem dX6_longest_55 : decode cX6_longest 55 = .ok (.invokevirtual 107, 3) := by decide +kernel
theorem dX6_longest_58 : decode cX6_longest 58 = .ok (.istore_n 1, 1) := by decide +kernel
theorem dX6_longest_59 : decode cX6_longest 59 = .ok (.iinc 3 1, 3) := by decide +kernel
theorem dX6_longest_62 : decode cX6_longest 62 = .ok (.goto (-56), 3) := by decide +kernel
theorem dX6_longest_65 : decode cX6_longest 65 = .ok (.aload_n 0, 1) := by decide +kernel
theorem dX6_longest_66 : decode cX6_longest 66 = .ok (.getfield 14, 3) := by decide +kernel
theorem dX6_longest_69 : decode cX6_longest 69 = .ok (.invokevirtual 63, 3) := by decide +kernel
theorem dX6_longest_72 : decode cX6_longest 72 = .ok (.pop, 1) := by decide +kernel
theorem dX6_longest_73 : decode cX6_longest 73 = .ok (.iload_n 1, 1) := by decide +kernel
theorem dX6_longest_74 : decode cX6_longest 74 = .ok (.ireturn, 1) := by decide +kernel
theorem dX6_states_0 : decode cX6_states 0 = .ok (.aload_n 0, 1) := by decide +kernel
theorem dX6_states_1 : decode cX6_states 1 = .ok (.getfield 34, 3) := by decide +kernel
theorem dX6_states_4 : decode cX6_states 4 = .ok (.invokevirtual 122, 3) := by decide +kernel
theorem dX6_states_7 : decode cX6_states 7 = .ok (.ireturn, 1) := by decide +kernel
theorem dX6_edges_0 : decode cX6_edges 0 = .ok (.aload_n 0, 1) := by decide +kernel
theorem dX6_edges_1 : decode cX6_edges 1 = .ok (.getfield 34, 3) := by decide +kernel
theorem dX6_edges_4 : decode cX6_edges 4 = .ok (.invokevirtual 125, 3) := by decide +kernel
theorem dX6_edges_7 : decode cX6_edges 7 = .ok (.ireturn, 1) := by decide +kernel
theorem dX6_alike_0 : decode cX6_alike 0 = .ok (.aload_n 0, 1) := by decide +kernel
theorem dX6_alike_1 : decode cX6_alike 1 = .ok (.getfield 27, 3) := by decide +kernel
theorem dX6_alike_4 : decode cX6_alike 4 = .ok (.aload_n 0, 1) := by decide +kernel
theorem dX6_alike_5 : decode cX6_alike 5 = .ok (.getfield 14, 3) := by decide +kernel
theorem dX6_alike_8 : decode cX6_alike 8 = .ok (.invokevirtual 81, 3) := by decide +kernel
theorem dX6_alike_11 : decode cX6_alike 11 = .ok (.istore_n 1, 1) := by decide +kernel
theorem dX6_alike_12 : decode cX6_alike 12 = .ok (.aload_n 0, 1) := by decide +kernel
theorem dX6_alike_13 : decode cX6_alike 13 = .ok (.getfield 14, 3) := by decide +kernel
theorem dX6_alike_16 : decode cX6_alike 16 = .ok (.invokevirtual 63, 3) := by decide +kernel
theorem dX6_alike_19 : decode cX6_alike 19 = .ok (.pop, 1) := by decide +kernel
theorem dX6_alike_20 : decode cX6_alike 20 = .ok (.iload_n 1, 1) := by decide +kernel
theorem dX6_alike_21 : decode cX6_alike 21 = .ok (.iconst (-1), 1) := by decide +kernel
theorem dX6_alike_22 : decode cX6_alike 22 = .ok (.if_icmp .ne 7, 3) := by decide +kernel
theorem dX6_alike_25 : decode cX6_alike 25 = .ok (.iconst (-1), 1) := by decide +kernel
theorem dX6_alike_26 : decode cX6_alike 26 = .ok (.goto 11, 3) := by decide +kernel
theorem dX6_alike_29 : decode cX6_alike 29 = .ok (.aload_n 0, 1) := by decide +kernel
theorem dX6_alike_30 : decode cX6_alike 30 = .ok (.getfield 34, 3) := by decide +kernel
theorem dX6_alike_33 : decode cX6_alike 33 = .ok (.iload_n 1, 1) := by decide +kernel
theorem dX6_alike_34 : decode cX6_alike 34 = .ok (.invokevirtual 128, 3) := by decide +kernel
theorem dX6_alike_37 : decode cX6_alike 37 = .ok (.ireturn, 1) := by decide +kernel
theorem dX6_near_0 : decode cX6_near 0 = .ok (.iload_n 1, 1) := by decide +kernel
theorem dX6_near_1 : decode cX6_near 1 = .ok (.ifCond .lt 8, 3) := by decide +kernel
theorem dX6_near_4 : decode cX6_near 4 = .ok (.iload_n 1, 1) := by decide +kernel
theorem dX6_near_5 : decode cX6_near 5 = .ok (.iconst 2, 1) := by decide +kernel
theorem dX6_near_6 : decode cX6_near 6 = .ok (.if_icmp .le 13, 3) := by decide +kernel
theorem dX6_near_9 : decode cX6_near 9 = .ok (.new 131, 3) := by decide +kernel
theorem dX6_near_12 : decode cX6_near 12 = .ok (.dup, 1) := by decide +kernel
theorem dX6_near_13 : decode cX6_near 13 = .ok (.ldc 133, 2) := by decide +kernel
theorem dX6_near_15 : decode cX6_near 15 = .ok (.invokespecial 135, 3) := by decide +kernel
theorem dX6_near_18 : decode cX6_near 18 = .ok (.athrow, 1) := by decide +kernel
theorem dX6_near_19 : decode cX6_near 19 = .ok (.aload_n 0, 1) := by decide +kernel
theorem dX6_near_20 : decode cX6_near 20 = .ok (.getfield 41, 3) := by decide +kernel
theorem dX6_near_23 : decode cX6_near 23 = .ok (.invokevirtual 136, 3) := by decide +kernel
theorem dX6_near_26 : decode cX6_near 26 = .ok (.iconst 0, 1) := by decide +kernel
theorem dX6_near_27 : decode cX6_near 27 = .ok (.istore_n 2, 1) := by decide +kernel
theorem dX6_near_28 : decode cX6_near 28 = .ok (.iload_n 2, 1) := by decide +kernel
theorem dX6_near_29 : decode cX6_near 29 = .ok (.aload_n 0, 1) := by decide +kernel
theorem dX6_near_30 : decode cX6_near 30 = .ok (.getfield 27, 3) := by decide +kernel
theorem dX6_near_33 : decode cX6_near 33 = .ok (.invokevirtual 67, 3) := by decide +kernel
theorem dX6_near_36 : decode cX6_near 36 = .ok (.if_icmp .ge 51, 3) := by decide +kernel
theorem dX6_near_39 : decode cX6_near 39 = .ok (.aload_n 0, 1) := by decide +kernel
theorem dX6_near_40 : decode cX6_near 40 = .ok (.getfield 27, 3) := by decide +kernel
theorem dX6_near_43 : decode cX6_near 43 = .ok (.iload_n 2, 1) := by decide +kernel
theorem dX6_near_44 : decode cX6_near 44 = .ok (.aload_n 0, 1) := by decide +kernel
theorem dX6_near_45 : decode cX6_near 45 = .ok (.getfield 21, 3) := by decide +kernel
theorem dX6_near_48 : decode cX6_near 48 = .ok (.invokevirtual 100, 3) := by decide +kernel
theorem dX6_near_51 : decode cX6_near 51 = .ok (.aload_n 0, 1) := by decide +kernel
theorem dX6_near_52 : decode cX6_near 52 = .ok (.getfield 48, 3) := by decide +kernel
theorem dX6_near_55 : decode cX6_near 55 = .ok (.aload_n 0, 1) := by decide +kernel
theorem dX6_near_56 : decode cX6_near 56 = .ok (.getfield 21, 3) := by decide +kernel
theorem dX6_near_59 : decode cX6_near 59 = .ok (.aload_n 0, 1) := by decide +kernel
theorem dX6_near_60 : decode cX6_near 60 = .ok (.getfield 14, 3) := by decide +kernel
theorem dX6_near_63 : decode cX6_near 63 = .ok (.invokevirtual 138, 3) := by decide +kernel
theorem dX6_near_66 : decode cX6_near 66 = .ok (.istore_n 3, 1) := by decide +kernel
theorem dX6_near_67 : decode cX6_near 67 = .ok (.iload_n 3, 1) := by decide +kernel
theorem dX6_near_68 : decode cX6_near 68 = .ok (.iload_n 1, 1) := by decide +kernel
theorem dX6_near_69 : decode cX6_near 69 = .ok (.if_icmp .gt 12, 3) := by decide +kernel
theorem dX6_near_72 : decode cX6_near 72 = .ok (.aload_n 0, 1) := by decide +kernel
theorem dX6_near_73 : decode cX6_near 73 = .ok (.getfield 41, 3) := by decide +kernel
theorem dX6_near_76 : decode cX6_near 76 = .ok (.iload_n 2, 1) := by decide +kernel
theorem dX6_near_77 : decode cX6_near 77 = .ok (.iload_n 3, 1) := by decide +kernel
theorem dX6_near_78 : decode cX6_near 78 = .ok (.invokevirtual 142, 3) := by decide +kernel
theorem dX6_near_81 : decode cX6_near 81 = .ok (.iinc 2 1, 3) := by decide +kernel
theorem dX6_near_84 : decode cX6_near 84 = .ok (.goto (-56), 3) := by decide +kernel
theorem dX6_near_87 : decode cX6_near 87 = .ok (.aload_n 0, 1) := by decide +kernel
theorem dX6_near_88 : decode cX6_near 88 = .ok (.getfield 14, 3) := by decide +kernel
theorem dX6_near_91 : decode cX6_near 91 = .ok (.invokevirtual 63, 3) := by decide +kernel
theorem dX6_near_94 : decode cX6_near 94 = .ok (.pop, 1) := by decide +kernel
theorem dX6_near_95 : decode cX6_near 95 = .ok (.aload_n 0, 1) := by decide +kernel
theorem dX6_near_96 : decode cX6_near 96 = .ok (.getfield 41, 3) := by decide +kernel
theorem dX6_near_99 : decode cX6_near 99 = .ok (.invokevirtual 145, 3) := by decide +kernel
theorem dX6_near_102 : decode cX6_near 102 = .ok (.ireturn, 1) := by decide +kernel
theorem dX6_scan_0 : decode cX6_scan 0 = .ok (.aload_n 0, 1) := by decide +kernel
theorem dX6_scan_1 : decode cX6_scan 1 = .ok (.getfield 41, 3) := by decide +kernel
theorem dX6_scan_4 : decode cX6_scan 4 = .ok (.invokevirtual 136, 3) := by decide +kernel
theorem dX6_scan_7 : decode cX6_scan 7 = .ok (.iconst 0, 1) := by decide +kernel
theorem dX6_scan_8 : decode cX6_scan 8 = .ok (.istore_n 1, 1) := by decide +kernel
theorem dX6_scan_9 : decode cX6_scan 9 = .ok (.iconst 0, 1) := by decide +kernel
theorem dX6_scan_10 : decode cX6_scan 10 = .ok (.istore_n 2, 1) := by decide +kernel
theorem dX6_scan_11 : decode cX6_scan 11 = .ok (.iload_n 2, 1) := by decide +kernel
theorem dX6_scan_12 : decode cX6_scan 12 = .ok (.aload_n 0, 1) := by decide +kernel
theorem dX6_scan_13 : decode cX6_scan 13 = .ok (.getfield 14, 3) := by decide +kernel
theorem dX6_scan_16 : decode cX6_scan 16 = .ok (.invokevirtual 104, 3) := by decide +kernel
theorem dX6_scan_19 : decode cX6_scan 19 = .ok (.if_icmp .ge 34, 3) := by decide +kernel
theorem dX6_scan_22 : decode cX6_scan 22 = .ok (.aload_n 0, 1) := by decide +kernel
theorem dX6_scan_23 : decode cX6_scan 23 = .ok (.getfield 27, 3) := by decide +kernel
theorem dX6_scan_26 : decode cX6_scan 26 = .ok (.iload_n 1, 1) := by decide +kernel
theorem dX6_scan_27 : decode cX6_scan 27 = .ok (.aload_n 0, 1) := by decide +kernel
theorem dX6_scan_28 : decode cX6_scan 28 = .ok (.getfield 14, 3) := by decide +kernel
theorem dX6_scan_31 : decode cX6_scan 31 = .ok (.iload_n 2, 1) := by decide +kernel
theorem dX6_scan_32 : decode cX6_scan 32 = .ok (.invokevirtual 114, 3) := by decide +kernel
theorem dX6_scan_35 : decode cX6_scan 35 = .ok (.invokevirtual 146, 3) := by decide +kernel
theorem dX6_scan_38 : decode cX6_scan 38 = .ok (.istore_n 1, 1) := by decide +kernel
theorem dX6_scan_39 : decode cX6_scan 39 = .ok (.aload_n 0, 1) := by decide +kernel
theorem dX6_scan_40 : decode cX6_scan 40 = .ok (.iload_n 1, 1) := by decide +kernel
theorem dX6_scan_41 : decode cX6_scan 41 = .ok (.iload_n 2, 1) := by decide +kernel
theorem dX6_scan_42 : decode cX6_scan 42 = .ok (.iconst 1, 1) := by decide +kernel
theorem dX6_scan_43 : decode cX6_scan 43 = .ok (.iadd, 1) := by decide +kernel
theorem dX6_scan_44 : decode cX6_scan 44 = .ok (.invokevirtual 149, 3) := by decide +kernel
theorem dX6_scan_47 : decode cX6_scan 47 = .ok (.iinc 2 1, 3) := by decide +kernel
theorem dX6_scan_50 : decode cX6_scan 50 = .ok (.goto (-39), 3) := by decide +kernel
theorem dX6_scan_53 : decode cX6_scan 53 = .ok (.aload_n 0, 1) := by decide +kernel
theorem dX6_scan_54 : decode cX6_scan 54 = .ok (.getfield 14, 3) := by decide +kernel
theorem dX6_scan_57 : decode cX6_scan 57 = .ok (.invokevirtual 63, 3) := by decide +kernel
theorem dX6_scan_60 : decode cX6_scan 60 = .ok (.pop, 1) := by decide +kernel
theorem dX6_scan_61 : decode cX6_scan 61 = .ok (.aload_n 0, 1) := by decide +kernel
theorem dX6_scan_62 : decode cX6_scan 62 = .ok (.getfield 41, 3) := by decide +kernel
theorem dX6_scan_65 : decode cX6_scan 65 = .ok (.invokevirtual 145, 3) := by decide +kernel
theorem dX6_scan_68 : decode cX6_scan 68 = .ok (.ireturn, 1) := by decide +kernel
theorem dX6_found_0 : decode cX6_found 0 = .ok (.iload_n 1, 1) := by decide +kernel
theorem dX6_found_1 : decode cX6_found 1 = .ok (.ifCond .lt 14, 3) := by decide +kernel
theorem dX6_found_4 : decode cX6_found 4 = .ok (.iload_n 1, 1) := by decide +kernel
theorem dX6_found_5 : decode cX6_found 5 = .ok (.aload_n 0, 1) := by decide +kernel
theorem dX6_found_6 : decode cX6_found 6 = .ok (.getfield 41, 3) := by decide +kernel
theorem dX6_found_9 : decode cX6_found 9 = .ok (.invokevirtual 145, 3) := by decide +kernel
theorem dX6_found_12 : decode cX6_found 12 = .ok (.if_icmp .lt 13, 3) := by decide +kernel
theorem dX6_found_15 : decode cX6_found 15 = .ok (.new 95, 3) := by decide +kernel
theorem dX6_found_18 : decode cX6_found 18 = .ok (.dup, 1) := by decide +kernel
theorem dX6_found_19 : decode cX6_found 19 = .ok (.ldc 152, 2) := by decide +kernel
theorem dX6_found_21 : decode cX6_found 21 = .ok (.invokespecial 99, 3) := by decide +kernel
theorem dX6_found_24 : decode cX6_found 24 = .ok (.athrow, 1) := by decide +kernel
theorem dX6_found_25 : decode cX6_found 25 = .ok (.iload_n 2, 1) := by decide +kernel
theorem dX6_found_26 : decode cX6_found 26 = .ok (.ifCond .eq 18, 3) := by decide +kernel
theorem dX6_found_29 : decode cX6_found 29 = .ok (.iload_n 2, 1) := by decide +kernel
theorem dX6_found_30 : decode cX6_found 30 = .ok (.iconst 1, 1) := by decide +kernel
theorem dX6_found_31 : decode cX6_found 31 = .ok (.if_icmp .eq 13, 3) := by decide +kernel
theorem dX6_found_34 : decode cX6_found 34 = .ok (.new 131, 3) := by decide +kernel
theorem dX6_found_37 : decode cX6_found 37 = .ok (.dup, 1) := by decide +kernel
theorem dX6_found_38 : decode cX6_found 38 = .ok (.ldc 154, 2) := by decide +kernel
theorem dX6_found_40 : decode cX6_found 40 = .ok (.invokespecial 135, 3) := by decide +kernel
theorem dX6_found_43 : decode cX6_found 43 = .ok (.athrow, 1) := by decide +kernel
theorem dX6_found_44 : decode cX6_found 44 = .ok (.iload_n 2, 1) := by decide +kernel
theorem dX6_found_45 : decode cX6_found 45 = .ok (.ifCond .ne 14, 3) := by decide +kernel
theorem dX6_found_48 : decode cX6_found 48 = .ok (.aload_n 0, 1) := by decide +kernel
theorem dX6_found_49 : decode cX6_found 49 = .ok (.getfield 41, 3) := by decide +kernel
theorem dX6_found_52 : decode cX6_found 52 = .ok (.iload_n 1, 1) := by decide +kernel
theorem dX6_found_53 : decode cX6_found 53 = .ok (.invokevirtual 156, 3) := by decide +kernel
theorem dX6_found_56 : decode cX6_found 56 = .ok (.goto 11, 3) := by decide +kernel
theorem dX6_found_59 : decode cX6_found 59 = .ok (.aload_n 0, 1) := by decide +kernel
theorem dX6_found_60 : decode cX6_found 60 = .ok (.getfield 41, 3) := by decide +kernel
theorem dX6_found_63 : decode cX6_found 63 = .ok (.iload_n 1, 1) := by decide +kernel
theorem dX6_found_64 : decode cX6_found 64 = .ok (.invokevirtual 159, 3) := by decide +kernel
theorem dX6_found_67 : decode cX6_found 67 = .ok (.ireturn, 1) := by decide +kernel
theorem dX6_splits_0 : decode cX6_splits 0 = .ok (.aload_n 0, 1) := by decide +kernel
theorem dX6_splits_1 : decode cX6_splits 1 = .ok (.getfield 55, 3) := by decide +kernel
theorem dX6_splits_4 : decode cX6_splits 4 = .ok (.aload_n 0, 1) := by decide +kernel
theorem dX6_splits_5 : decode cX6_splits 5 = .ok (.getfield 14, 3) := by decide +kernel
theorem dX6_splits_8 : decode cX6_splits 8 = .ok (.aload_n 0, 1) := by decide +kernel
theorem dX6_splits_9 : decode cX6_splits 9 = .ok (.getfield 27, 3) := by decide +kernel
theorem dX6_splits_12 : decode cX6_splits 12 = .ok (.invokevirtual 162, 3) := by decide +kernel
theorem dX6_splits_15 : decode cX6_splits 15 = .ok (.lstore_n 1, 1) := by decide +kernel
theorem dX6_splits_16 : decode cX6_splits 16 = .ok (.aload_n 0, 1) := by decide +kernel
theorem dX6_splits_17 : decode cX6_splits 17 = .ok (.getfield 14, 3) := by decide +kernel
theorem dX6_splits_20 : decode cX6_splits 20 = .ok (.invokevirtual 63, 3) := by decide +kernel
theorem dX6_splits_23 : decode cX6_splits 23 = .ok (.pop, 1) := by decide +kernel
theorem dX6_splits_24 : decode cX6_splits 24 = .ok (.lload_n 1, 1) := by decide +kernel
theorem dX6_splits_25 : decode cX6_splits 25 = .ok (.lreturn, 1) := by decide +kernel
theorem dX6_split_0 : decode cX6_split 0 = .ok (.aload_n 0, 1) := by decide +kernel
theorem dX6_split_1 : decode cX6_split 1 = .ok (.getfield 55, 3) := by decide +kernel
theorem dX6_split_4 : decode cX6_split 4 = .ok (.aload_n 0, 1) := by decide +kernel
theorem dX6_split_5 : decode cX6_split 5 = .ok (.getfield 14, 3) := by decide +kernel
theorem dX6_split_8 : decode cX6_split 8 = .ok (.aload_n 0, 1) := by decide +kernel
theorem dX6_split_9 : decode cX6_split 9 = .ok (.getfield 27, 3) := by decide +kernel
theorem dX6_split_12 : decode cX6_split 12 = .ok (.invokevirtual 166, 3) := by decide +kernel
theorem dX6_split_15 : decode cX6_split 15 = .ok (.istore_n 1, 1) := by decide +kernel
theorem dX6_split_16 : decode cX6_split 16 = .ok (.iload_n 1, 1) := by decide +kernel
theorem dX6_split_17 : decode cX6_split 17 = .ok (.iconst (-1), 1) := by decide +kernel
theorem dX6_split_18 : decode cX6_split 18 = .ok (.if_icmp .eq 18, 3) := by decide +kernel
theorem dX6_split_21 : decode cX6_split 21 = .ok (.aload_n 0, 1) := by decide +kernel
theorem dX6_split_22 : decode cX6_split 22 = .ok (.getfield 55, 3) := by decide +kernel
theorem dX6_split_25 : decode cX6_split 25 = .ok (.aload_n 0, 1) := by decide +kernel
theorem dX6_split_26 : decode cX6_split 26 = .ok (.getfield 14, 3) := by decide +kernel
theorem dX6_split_29 : decode cX6_split 29 = .ok (.aload_n 0, 1) := by decide +kernel
theorem dX6_split_30 : decode cX6_split 30 = .ok (.getfield 18, 3) := by decide +kernel
theorem dX6_split_33 : decode cX6_split 33 = .ok (.invokevirtual 170, 3) := by decide +kernel
theorem dX6_split_36 : decode cX6_split 36 = .ok (.aload_n 0, 1) := by decide +kernel
theorem dX6_split_37 : decode cX6_split 37 = .ok (.getfield 14, 3) := by decide +kernel
theorem dX6_split_40 : decode cX6_split 40 = .ok (.invokevirtual 63, 3) := by decide +kernel
theorem dX6_split_43 : decode cX6_split 43 = .ok (.pop, 1) := by decide +kernel
theorem dX6_split_44 : decode cX6_split 44 = .ok (.iload_n 1, 1) := by decide +kernel
theorem dX6_split_45 : decode cX6_split 45 = .ok (.ireturn, 1) := by decide +kernel
theorem dX6_length_0 : decode cX6_length 0 = .ok (.aload_n 0, 1) := by decide +kernel
theorem dX6_length_1 : decode cX6_length 1 = .ok (.getfield 18, 3) := by decide +kernel
theorem dX6_length_4 : decode cX6_length 4 = .ok (.invokevirtual 104, 3) := by decide +kernel
theorem dX6_length_7 : decode cX6_length 7 = .ok (.ireturn, 1) := by decide +kernel
theorem dX6_charAt_0 : decode cX6_charAt 0 = .ok (.aload_n 0, 1) := by decide +kernel
theorem dX6_charAt_1 : decode cX6_charAt 1 = .ok (.getfield 18, 3) := by decide +kernel
theorem dX6_charAt_4 : decode cX6_charAt 4 = .ok (.iload_n 1, 1) := by decide +kernel
theorem dX6_charAt_5 : decode cX6_charAt 5 = .ok (.invokevirtual 114, 3) := by decide +kernel
theorem dX6_charAt_8 : decode cX6_charAt 8 = .ok (.ireturn, 1) := by decide +kernel
theorem dX6_letterOf_0 : decode cX6_letterOf 0 = .ok (.iload_n 0, 1) := by decide +kernel
theorem dX6_letterOf_1 : decode cX6_letterOf 1 = .ok (.bipush 97, 2) := by decide +kernel
theorem dX6_letterOf_3 : decode cX6_letterOf 3 = .ok (.if_icmp .lt 16, 3) := by decide +kernel
theorem dX6_letterOf_6 : decode cX6_letterOf 6 = .ok (.iload_n 0, 1) := by decide +kernel
theorem dX6_letterOf_7 : decode cX6_letterOf 7 = .ok (.bipush 105, 2) := by decide +kernel
theorem dX6_letterOf_9 : decode cX6_letterOf 9 = .ok (.if_icmp .ge 10, 3) := by decide +kernel
theorem dX6_letterOf_12 : decode cX6_letterOf 12 = .ok (.iload_n 0, 1) := by decide +kernel
theorem dX6_letterOf_13 : decode cX6_letterOf 13 = .ok (.bipush 97, 2) := by decide +kernel
theorem dX6_letterOf_15 : decode cX6_letterOf 15 = .ok (.isub, 1) := by decide +kernel
theorem dX6_letterOf_16 : decode cX6_letterOf 16 = .ok (.goto 4, 3) := by decide +kernel
theorem dX6_letterOf_19 : decode cX6_letterOf 19 = .ok (.iconst (-1), 1) := by decide +kernel
theorem dX6_letterOf_20 : decode cX6_letterOf 20 = .ok (.ireturn, 1) := by decide +kernel
theorem dX6_isWord_0 : decode cX6_isWord 0 = .ok (.iconst 0, 1) := by decide +kernel
theorem dX6_isWord_1 : decode cX6_isWord 1 = .ok (.istore_n 1, 1) := by decide +kernel
theorem dX6_isWord_2 : decode cX6_isWord 2 = .ok (.iload_n 1, 1) := by decide +kernel
theorem dX6_isWord_3 : decode cX6_isWord 3 = .ok (.aload_n 0, 1) := by decide +kernel
theorem dX6_isWord_4 : decode cX6_isWord 4 = .ok (.invokevirtual 104, 3) := by decide +kernel
theorem dX6_isWord_7 : decode cX6_isWord 7 = .ok (.if_icmp .ge 23, 3) := by decide +kernel
theorem dX6_isWord_10 : decode cX6_isWord 10 = .ok (.aload_n 0, 1) := by decide +kernel
theorem dX6_isWord_11 : decode cX6_isWord 11 = .ok (.iload_n 1, 1) := by decide +kernel
theorem dX6_isWord_12 : decode cX6_isWord 12 = .ok (.invokevirtual 114, 3) := by decide +kernel
theorem dX6_isWord_15 : decode cX6_isWord 15 = .ok (.invokestatic 174, 3) := by decide +kernel
theorem dX6_isWord_18 : decode cX6_isWord 18 = .ok (.iconst (-1), 1) := by decide +kernel
theorem dX6_isWord_19 : decode cX6_isWord 19 = .ok (.if_icmp .ne 5, 3) := by decide +kernel
theorem dX6_isWord_22 : decode cX6_isWord 22 = .ok (.iconst 0, 1) := by decide +kernel
theorem dX6_isWord_23 : decode cX6_isWord 23 = .ok (.ireturn, 1) := by decide +kernel
theorem dX6_isWord_24 : decode cX6_isWord 24 = .ok (.iinc 1 1, 3) := by decide +kernel
theorem dX6_isWord_27 : decode cX6_isWord 27 = .ok (.goto (-25), 3) := by decide +kernel
theorem dX6_isWord_30 : decode cX6_isWord 30 = .ok (.aload_n 0, 1) := by decide +kernel
theorem dX6_isWord_31 : decode cX6_isWord 31 = .ok (.invokevirtual 104, 3) := by decide +kernel
theorem dX6_isWord_34 : decode cX6_isWord 34 = .ok (.iconst 1, 1) := by decide +kernel
theorem dX6_isWord_35 : decode cX6_isWord 35 = .ok (.if_icmp .lt 16, 3) := by decide +kernel
theorem dX6_isWord_38 : decode cX6_isWord 38 = .ok (.aload_n 0, 1) := by decide +kernel
theorem dX6_isWord_39 : decode cX6_isWord 39 = .ok (.invokevirtual 104, 3) := by decide +kernel
theorem dX6_isWord_42 : decode cX6_isWord 42 = .ok (.bipush 7, 2) := by decide +kernel
theorem dX6_isWord_44 : decode cX6_isWord 44 = .ok (.if_icmp .gt 7, 3) := by decide +kernel
theorem dX6_isWord_47 : decode cX6_isWord 47 = .ok (.iconst 1, 1) := by decide +kernel
theorem dX6_isWord_48 : decode cX6_isWord 48 = .ok (.goto 4, 3) := by decide +kernel
theorem dX6_isWord_51 : decode cX6_isWord 51 = .ok (.iconst 0, 1) := by decide +kernel
theorem dX6_isWord_52 : decode cX6_isWord 52 = .ok (.ireturn, 1) := by decide +kernel
theorem dX6_hold_0 : decode cX6_hold 0 = .ok (.aload_n 0, 1) := by decide +kernel
theorem dX6_hold_1 : decode cX6_hold 1 = .ok (.getfield 34, 3) := by decide +kernel
theorem dX6_hold_4 : decode cX6_hold 4 = .ok (.aload_n 0, 1) := by decide +kernel
theorem dX6_hold_5 : decode cX6_hold 5 = .ok (.getfield 14, 3) := by decide +kernel
theorem dX6_hold_8 : decode cX6_hold 8 = .ok (.aload_n 0, 1) := by decide +kernel
theorem dX6_hold_9 : decode cX6_hold 9 = .ok (.getfield 27, 3) := by decide +kernel
theorem dX6_hold_12 : decode cX6_hold 12 = .ok (.invokevirtual 178, 3) := by decide +kernel
theorem dX6_hold_15 : decode cX6_hold 15 = .ok (.aload_n 0, 1) := by decide +kernel
theorem dX6_hold_16 : decode cX6_hold 16 = .ok (.getfield 27, 3) := by decide +kernel
theorem dX6_hold_19 : decode cX6_hold 19 = .ok (.aload_n 0, 1) := by decide +kernel
theorem dX6_hold_20 : decode cX6_hold 20 = .ok (.getfield 14, 3) := by decide +kernel
theorem dX6_hold_23 : decode cX6_hold 23 = .ok (.invokevirtual 182, 3) := by decide +kernel
theorem dX6_hold_26 : decode cX6_hold 26 = .ok (.aload_n 0, 1) := by decide +kernel
theorem dX6_hold_27 : decode cX6_hold 27 = .ok (.invokevirtual 186, 3) := by decide +kernel
theorem dX6_hold_30 : decode cX6_hold 30 = .ok (.return_, 1) := by decide +kernel
theorem dX6_drop_0 : decode cX6_drop 0 = .ok (.aload_n 0, 1) := by decide +kernel
theorem dX6_drop_1 : decode cX6_drop 1 = .ok (.getfield 34, 3) := by decide +kernel
theorem dX6_drop_4 : decode cX6_drop 4 = .ok (.aload_n 0, 1) := by decide +kernel
theorem dX6_drop_5 : decode cX6_drop 5 = .ok (.getfield 14, 3) := by decide +kernel
theorem dX6_drop_8 : decode cX6_drop 8 = .ok (.aload_n 0, 1) := by decide +kernel
theorem dX6_drop_9 : decode cX6_drop 9 = .ok (.getfield 27, 3) := by decide +kernel
theorem dX6_drop_12 : decode cX6_drop 12 = .ok (.invokevirtual 178, 3) := by decide +kernel
theorem dX6_drop_15 : decode cX6_drop 15 = .ok (.aload_n 0, 1) := by decide +kernel
theorem dX6_drop_16 : decode cX6_drop 16 = .ok (.getfield 27, 3) := by decide +kernel
theorem dX6_drop_19 : decode cX6_drop 19 = .ok (.aload_n 0, 1) := by decide +kernel
theorem dX6_drop_20 : decode cX6_drop 20 = .ok (.getfield 14, 3) := by decide +kernel
theorem dX6_drop_23 : decode cX6_drop 23 = .ok (.invokevirtual 189, 3) := by decide +kernel
theorem dX6_drop_26 : decode cX6_drop 26 = .ok (.aload_n 0, 1) := by decide +kernel
theorem dX6_drop_27 : decode cX6_drop 27 = .ok (.invokevirtual 186, 3) := by decide +kernel
theorem dX6_drop_30 : decode cX6_drop 30 = .ok (.return_, 1) := by decide +kernel
theorem dX6_settle_0 : decode cX6_settle 0 = .ok (.aload_n 0, 1) := by decide +kernel
theorem dX6_settle_1 : decode cX6_settle 1 = .ok (.getfield 34, 3) := by decide +kernel
theorem dX6_settle_4 : decode cX6_settle 4 = .ok (.aload_n 0, 1) := by decide +kernel
theorem dX6_settle_5 : decode cX6_settle 5 = .ok (.getfield 14, 3) := by decide +kernel
theorem dX6_settle_8 : decode cX6_settle 8 = .ok (.aload_n 0, 1) := by decide +kernel
theorem dX6_settle_9 : decode cX6_settle 9 = .ok (.getfield 27, 3) := by decide +kernel
theorem dX6_settle_12 : decode cX6_settle 12 = .ok (.invokevirtual 192, 3) := by decide +kernel
theorem dX6_settle_15 : decode cX6_settle 15 = .ok (.aload_n 0, 1) := by decide +kernel
theorem dX6_settle_16 : decode cX6_settle 16 = .ok (.getfield 27, 3) := by decide +kernel
theorem dX6_settle_19 : decode cX6_settle 19 = .ok (.invokevirtual 195, 3) := by decide +kernel
theorem dX6_settle_22 : decode cX6_settle 22 = .ok (.aload_n 0, 1) := by decide +kernel
theorem dX6_settle_23 : decode cX6_settle 23 = .ok (.getfield 41, 3) := by decide +kernel
theorem dX6_settle_26 : decode cX6_settle 26 = .ok (.invokevirtual 136, 3) := by decide +kernel
theorem dX6_settle_29 : decode cX6_settle 29 = .ok (.return_, 1) := by decide +kernel
theorem dX6_findEnding_0 : decode cX6_findEnding 0 = .ok (.aload_n 0, 1) := by decide +kernel
theorem dX6_findEnding_1 : decode cX6_findEnding 1 = .ok (.getfield 27, 3) := by decide +kernel
theorem dX6_findEnding_4 : decode cX6_findEnding 4 = .ok (.iload_n 1, 1) := by decide +kernel
theorem dX6_findEnding_5 : decode cX6_findEnding 5 = .ok (.invokevirtual 85, 3) := by decide +kernel
theorem dX6_findEnding_8 : decode cX6_findEnding 8 = .ok (.ifCond .eq 7, 3) := by decide +kernel
theorem dX6_findEnding_11 : decode cX6_findEnding 11 = .ok (.iload_n 1, 1) := by decide +kernel
theorem dX6_findEnding_12 : decode cX6_findEnding 12 = .ok (.goto 11, 3) := by decide +kernel
theorem dX6_findEnding_15 : decode cX6_findEnding 15 = .ok (.aload_n 0, 1) := by decide +kernel
theorem dX6_findEnding_16 : decode cX6_findEnding 16 = .ok (.getfield 27, 3) := by decide +kernel
theorem dX6_findEnding_19 : decode cX6_findEnding 19 = .ok (.iload_n 1, 1) := by decide +kernel
theorem dX6_findEnding_20 : decode cX6_findEnding 20 = .ok (.invokevirtual 198, 3) := by decide +kernel
theorem dX6_findEnding_23 : decode cX6_findEnding 23 = .ok (.istore_n 3, 1) := by decide +kernel
theorem dX6_findEnding_24 : decode cX6_findEnding 24 = .ok (.iconst 0, 1) := by decide +kernel
theorem dX6_findEnding_25 : decode cX6_findEnding 25 = .ok (.istore 4, 2) := by decide +kernel
theorem dX6_findEnding_27 : decode cX6_findEnding 27 = .ok (.iload 4, 2) := by decide +kernel
theorem dX6_findEnding_29 : decode cX6_findEnding 29 = .ok (.bipush 7, 2) := by decide +kernel
theorem dX6_findEnding_31 : decode cX6_findEnding 31 = .ok (.if_icmp .ge 39, 3) := by decide +kernel
theorem dX6_findEnding_34 : decode cX6_findEnding 34 = .ok (.iload_n 3, 1) := by decide +kernel
theorem dX6_findEnding_35 : decode cX6_findEnding 35 = .ok (.iconst (-1), 1) := by decide +kernel
theorem dX6_findEnding_36 : decode cX6_findEnding 36 = .ok (.if_icmp .eq 34, 3) := by decide +kernel
theorem dX6_findEnding_39 : decode cX6_findEnding 39 = .ok (.aload_n 0, 1) := by decide +kernel
theorem dX6_findEnding_40 : decode cX6_findEnding 40 = .ok (.getfield 41, 3) := by decide +kernel
theorem dX6_findEnding_43 : decode cX6_findEnding 43 = .ok (.aload_n 0, 1) := by decide +kernel
theorem dX6_findEnding_44 : decode cX6_findEnding 44 = .ok (.getfield 27, 3) := by decide +kernel
theorem dX6_findEnding_47 : decode cX6_findEnding 47 = .ok (.iload_n 3, 1) := by decide +kernel
theorem dX6_findEnding_48 : decode cX6_findEnding 48 = .ok (.invokevirtual 107, 3) := by decide +kernel
theorem dX6_findEnding_51 : decode cX6_findEnding 51 = .ok (.iload_n 2, 1) := by decide +kernel
theorem dX6_findEnding_52 : decode cX6_findEnding 52 = .ok (.invokevirtual 142, 3) := by decide +kernel
theorem dX6_findEnding_55 : decode cX6_findEnding 55 = .ok (.aload_n 0, 1) := by decide +kernel
theorem dX6_findEnding_56 : decode cX6_findEnding 56 = .ok (.getfield 27, 3) := by decide +kernel
theorem dX6_findEnding_59 : decode cX6_findEnding 59 = .ok (.iload_n 3, 1) := by decide +kernel
theorem dX6_findEnding_60 : decode cX6_findEnding 60 = .ok (.invokevirtual 198, 3) := by decide +kernel
theorem dX6_findEnding_63 : decode cX6_findEnding 63 = .ok (.istore_n 3, 1) := by decide +kernel
theorem dX6_findEnding_64 : decode cX6_findEnding 64 = .ok (.iinc 4 1, 3) := by decide +kernel
theorem dX6_findEnding_67 : decode cX6_findEnding 67 = .ok (.goto (-40), 3) := by decide +kernel
theorem dX6_findEnding_70 : decode cX6_findEnding 70 = .ok (.return_, 1) := by decide +kernel
theorem dX0_init_0 : decode cX0_init 0 = .ok (.aload_n 0, 1) := by decide +kernel
theorem dX0_init_1 : decode cX0_init 1 = .ok (.invokespecial 3, 3) := by decide +kernel
theorem dX0_init_4 : decode cX0_init 4 = .ok (.aload_n 0, 1) := by decide +kernel
theorem dX0_init_5 : decode cX0_init 5 = .ok (.sipush 211, 3) := by decide +kernel
theorem dX0_init_8 : decode cX0_init 8 = .ok (.newarray .int, 2) := by decide +kernel
theorem dX0_init_10 : decode cX0_init 10 = .ok (.putfield 9, 3) := by decide +kernel
theorem dX0_init_13 : decode cX0_init 13 = .ok (.aload_n 0, 1) := by decide +kernel
theorem dX0_init_14 : decode cX0_init 14 = .ok (.sipush 211, 3) := by decide +kernel
theorem dX0_init_17 : decode cX0_init 17 = .ok (.newarray .int, 2) := by decide +kernel
theorem dX0_init_19 : decode cX0_init 19 = .ok (.putfield 15, 3) := by decide +kernel
theorem dX0_init_22 : decode cX0_init 22 = .ok (.aload_n 0, 1) := by decide +kernel
theorem dX0_init_23 : decode cX0_init 23 = .ok (.sipush 211, 3) := by decide +kernel
theorem dX0_init_26 : decode cX0_init 26 = .ok (.newarray .boolean, 2) := by decide +kernel
theorem dX0_init_28 : decode cX0_init 28 = .ok (.putfield 18, 3) := by decide +kernel
theorem dX0_init_31 : decode cX0_init 31 = .ok (.aload_n 0, 1) := by decide +kernel
theorem dX0_init_32 : decode cX0_init 32 = .ok (.sipush 1688, 3) := by decide +kernel
theorem dX0_init_35 : decode cX0_init 35 = .ok (.newarray .int, 2) := by decide +kernel
theorem dX0_init_37 : decode cX0_init 37 = .ok (.putfield 22, 3) := by decide +kernel
theorem dX0_init_40 : decode cX0_init 40 = .ok (.aload_n 0, 1) := by decide +kernel
theorem dX0_init_41 : decode cX0_init 41 = .ok (.bipush 8, 2) := by decide +kernel
theorem dX0_init_43 : decode cX0_init 43 = .ok (.newarray .int, 2) := by decide +kernel
theorem dX0_init_45 : decode cX0_init 45 = .ok (.putfield 25, 3) := by decide +kernel
theorem dX0_init_48 : decode cX0_init 48 = .ok (.aload_n 0, 1) := by decide +kernel
theorem dX0_init_49 : decode cX0_init 49 = .ok (.bipush 8, 2) := by decide +kernel
theorem dX0_init_51 : decode cX0_init 51 = .ok (.newarray .int, 2) := by decide +kernel
theorem dX0_init_53 : decode cX0_init 53 = .ok (.putfield 28, 3) := by decide +kernel
theorem dX0_init_56 : decode cX0_init 56 = .ok (.aload_n 0, 1) := by decide +kernel
theorem dX0_init_57 : decode cX0_init 57 = .ok (.getfield 22, 3) := by decide +kernel
theorem dX0_init_60 : decode cX0_init 60 = .ok (.iconst (-1), 1) := by decide +kernel
theorem dX0_init_61 : decode cX0_init 61 = .ok (.invokestatic 31, 3) := by decide +kernel
theorem dX0_init_64 : decode cX0_init 64 = .ok (.aload_n 0, 1) := by decide +kernel
theorem dX0_init_65 : decode cX0_init 65 = .ok (.getfield 15, 3) := by decide +kernel
theorem dX0_init_68 : decode cX0_init 68 = .ok (.aload_n 0, 1) := by decide +kernel
theorem dX0_init_69 : decode cX0_init 69 = .ok (.getfield 9, 3) := by decide +kernel
theorem dX0_init_72 : decode cX0_init 72 = .ok (.iconst 0, 1) := by decide +kernel
theorem dX0_init_73 : decode cX0_init 73 = .ok (.iaload, 1) := by decide +kernel
theorem dX0_init_74 : decode cX0_init 74 = .ok (.iconst 1, 1) := by decide +kernel
theorem dX0_init_75 : decode cX0_init 75 = .ok (.iastore, 1) := by decide +kernel
theorem dX0_init_76 : decode cX0_init 76 = .ok (.return_, 1) := by decide +kernel
theorem dX0_countStates_0 : decode cX0_countStates 0 = .ok (.iconst 0, 1) := by decide +kernel
theorem dX0_countStates_1 : decode cX0_countStates 1 = .ok (.istore_n 1, 1) := by decide +kernel
theorem dX0_countStates_2 : decode cX0_countStates 2 = .ok (.iconst 0, 1) := by decide +kernel
theorem dX0_countStates_3 : decode cX0_countStates 3 = .ok (.istore_n 2, 1) := by decide +kernel
theorem dX0_countStates_4 : decode cX0_countStates 4 = .ok (.iload_n 2, 1) := by decide +kernel
theorem dX0_countStates_5 : decode cX0_countStates 5 = .ok (.sipush 211, 3) := by decide +kernel
theorem dX0_countStates_8 : decode cX0_countStates 8 = .ok (.if_icmp .ge 21, 3) := by decide +kernel
theorem dX0_countStates_11 : decode cX0_countStates 11 = .ok (.aload_n 0, 1) := by decide +kernel
theorem dX0_countStates_12 : decode cX0_countStates 12 = .ok (.getfield 15, 3) := by decide +kernel
theorem dX0_countStates_15 : decode cX0_countStates 15 = .ok (.iload_n 2, 1) := by decide +kernel
theorem dX0_countStates_16 : decode cX0_countStates 16 = .ok (.iaload, 1) := by decide +kernel
theorem dX0_countStates_17 : decode cX0_countStates 17 = .ok (.ifCond .eq 6, 3) := by decide +kernel
theorem dX0_countStates_20 : decode cX0_countStates 20 = .ok (.iinc 1 1, 3) := by decide +kernel
theorem dX0_countStates_23 : decode cX0_countStates 23 = .ok (.iinc 2 1, 3) := by decide +kernel
theorem dX0_countStates_26 : decode cX0_countStates 26 = .ok (.goto (-22), 3) := by decide +kernel
theorem dX0_countStates_29 : decode cX0_countStates 29 = .ok (.iload_n 1, 1) := by decide +kernel
theorem dX0_countStates_30 : decode cX0_countStates 30 = .ok (.ireturn, 1) := by decide +kernel
theorem dX0_countEdges_0 : decode cX0_countEdges 0 = .ok (.iconst 0, 1) := by decide +kernel
theorem dX0_countEdges_1 : decode cX0_countEdges 1 = .ok (.istore_n 1, 1) := by decide +kernel
theorem dX0_countEdges_2 : decode cX0_countEdges 2 = .ok (.iconst 0, 1) := by decide +kernel
theorem dX0_countEdges_3 : decode cX0_countEdges 3 = .ok (.istore_n 2, 1) := by decide +kernel
theorem dX0_countEdges_4 : decode cX0_countEdges 4 = .ok (.iload_n 2, 1) := by decide +kernel
theorem dX0_countEdges_5 : decode cX0_countEdges 5 = .ok (.sipush 211, 3) := by decide +kernel
theorem dX0_countEdges_8 : decode cX0_countEdges 8 = .ok (.if_icmp .ge 26, 3) := by decide +kernel
theorem dX0_countEdges_11 : decode cX0_countEdges 11 = .ok (.aload_n 0, 1) := by decide +kernel
theorem dX0_countEdges_12 : decode cX0_countEdges 12 = .ok (.getfield 15, 3) := by decide +kernel
theorem dX0_countEdges_15 : decode cX0_countEdges 15 = .ok (.iload_n 2, 1) := by decide +kernel
theorem dX0_countEdges_16 : decode cX0_countEdges 16 = .ok (.iaload, 1) := by decide +kernel
theorem dX0_countEdges_17 : decode cX0_countEdges 17 = .ok (.ifCond .eq 11, 3) := by decide +kernel
theorem dX0_countEdges_20 : decode cX0_countEdges 20 = .ok (.iload_n 1, 1) := by decide +kernel
theorem dX0_countEdges_21 : decode cX0_countEdges 21 = .ok (.aload_n 0, 1) := by decide +kernel
theorem dX0_countEdges_22 : decode cX0_countEdges 22 = .ok (.iload_n 2, 1) := by decide +kernel
theorem dX0_countEdges_23 : decode cX0_countEdges 23 = .ok (.invokevirtual 39, 3) := by decide +kernel
theorem dX0_countEdges_26 : decode cX0_countEdges 26 = .ok (.iadd, 1) := by decide +kernel
theorem dX0_countEdges_27 : decode cX0_countEdges 27 = .ok (.istore_n 1, 1) := by decide +kernel
theorem dX0_countEdges_28 : decode cX0_countEdges 28 = .ok (.iinc 2 1, 3) := by decide +kernel
theorem dX0_countEdges_31 : decode cX0_countEdges 31 = .ok (.goto (-27), 3) := by decide +kernel
theorem dX0_countEdges_34 : decode cX0_countEdges 34 = .ok (.iload_n 1, 1) := by decide +kernel
theorem dX0_countEdges_35 : decode cX0_countEdges 35 = .ok (.ireturn, 1) := by decide +kernel
theorem dX0_countEdgesFrom_0 : decode cX0_countEdgesFrom 0 = .ok (.iconst 0, 1) := by decide +kernel
theorem dX0_countEdgesFrom_1 : decode cX0_countEdgesFrom 1 = .ok (.istore_n 2, 1) := by decide +kernel
theorem dX0_countEdgesFrom_2 : decode cX0_countEdgesFrom 2 = .ok (.iconst 0, 1) := by decide +kernel
theorem dX0_countEdgesFrom_3 : decode cX0_countEdgesFrom 3 = .ok (.istore_n 3, 1) := by decide +kernel
theorem dX0_countEdgesFrom_4 : decode cX0_countEdgesFrom 4 = .ok (.iload_n 3, 1) := by decide +kernel
theorem dX0_countEdgesFrom_5 : decode cX0_countEdgesFrom 5 = .ok (.bipush 8, 2) := by decide +kernel
theorem dX0_countEdgesFrom_7 : decode cX0_countEdgesFrom 7 = .ok (.if_icmp .ge 27, 3) := by decide +kernel
theorem dX0_countEdgesFrom_10 : decode cX0_countEdgesFrom 10 = .ok (.aload_n 0, 1) := by decide +kernel
theorem dX0_countEdgesFrom_11 : decode cX0_countEdgesFrom 11 = .ok (.getfield 22, 3) := by decide +kernel
theorem dX0_countEdgesFrom_14 : decode cX0_countEdgesFrom 14 = .ok (.iload_n 1, 1) := by decide +kernel
theorem dX0_countEdgesFrom_15 : decode cX0_countEdgesFrom 15 = .ok (.bipush 8, 2) := by decide +kernel
theorem dX0_countEdgesFrom_17 : decode cX0_countEdgesFrom 17 = .ok (.imul, 1) := by decide +kernel
theorem dX0_countEdgesFrom_18 : decode cX0_countEdgesFrom 18 = .ok (.iload_n 3, 1) := by decide +kernel
theorem dX0_countEdgesFrom_19 : decode cX0_countEdgesFrom 19 = .ok (.iadd, 1) := by decide +kernel
theorem dX0_countEdgesFrom_20 : decode cX0_countEdgesFrom 20 = .ok (.iaload, 1) := by decide +kernel
theorem dX0_countEdgesFrom_21 : decode cX0_countEdgesFrom 21 = .ok (.iconst (-1), 1) := by decide +kernel
theorem dX0_countEdgesFrom_22 : decode cX0_countEdgesFrom 22 = .ok (.if_icmp .eq 6, 3) := by decide +kernel
theorem dX0_countEdgesFrom_25 : decode cX0_countEdgesFrom 25 = .ok (.iinc 2 1, 3) := by decide +kernel
theorem dX0_countEdgesFrom_28 : decode cX0_countEdgesFrom 28 = .ok (.iinc 3 1, 3) := by decide +kernel
theorem dX0_countEdgesFrom_31 : decode cX0_countEdgesFrom 31 = .ok (.goto (-27), 3) := by decide +kernel
theorem dX0_countEdgesFrom_34 : decode cX0_countEdgesFrom 34 = .ok (.iload_n 2, 1) := by decide +kernel
theorem dX0_countEdgesFrom_35 : decode cX0_countEdgesFrom 35 = .ok (.ireturn, 1) := by decide +kernel
theorem dX0_countAlike_0 : decode cX0_countAlike 0 = .ok (.aload_n 0, 1) := by decide +kernel
theorem dX0_countAlike_1 : decode cX0_countAlike 1 = .ok (.getfield 15, 3) := by decide +kernel
theorem dX0_countAlike_4 : decode cX0_countAlike 4 = .ok (.aload_n 0, 1) := by decide +kernel
theorem dX0_countAlike_5 : decode cX0_countAlike 5 = .ok (.getfield 9, 3) := by decide +kernel
theorem dX0_countAlike_8 : decode cX0_countAlike 8 = .ok (.iload_n 1, 1) := by decide +kernel
theorem dX0_countAlike_9 : decode cX0_countAlike 9 = .ok (.iaload, 1) := by decide +kernel
theorem dX0_countAlike_10 : decode cX0_countAlike 10 = .ok (.iaload, 1) := by decide +kernel
theorem dX0_countAlike_11 : decode cX0_countAlike 11 = .ok (.ireturn, 1) := by decide +kernel
theorem dX0_release_0 : decode cX0_release 0 = .ok (.aload_n 2, 1) := by decide +kernel
theorem dX0_release_1 : decode cX0_release 1 = .ok (.aload_n 1, 1) := by decide +kernel
theorem dX0_release_2 : decode cX0_release 2 = .ok (.aload_n 0, 1) := by decide +kernel
theorem dX0_release_3 : decode cX0_release 3 = .ok (.getfield 28, 3) := by decide +kernel
theorem dX0_release_6 : decode cX0_release 6 = .ok (.invokevirtual 43, 3) := by decide +kernel
theorem dX0_release_9 : decode cX0_release 9 = .ok (.istore_n 3, 1) := by decide +kernel
theorem dX0_release_10 : decode cX0_release 10 = .ok (.iconst 0, 1) := by decide +kernel
theorem dX0_release_11 : decode cX0_release 11 = .ok (.istore 4, 2) := by decide +kernel
theorem dX0_release_13 : decode cX0_release 13 = .ok (.iload 4, 2) := by decide +kernel
theorem dX0_release_15 : decode cX0_release 15 = .ok (.iload_n 3, 1) := by decide +kernel
theorem dX0_release_16 : decode cX0_release 16 = .ok (.if_icmp .ge 30, 3) := by decide +kernel
theorem dX0_release_19 : decode cX0_release 19 = .ok (.aload_n 0, 1) := by decide +kernel
theorem dX0_release_20 : decode cX0_release 20 = .ok (.getfield 15, 3) := by decide +kernel
theorem dX0_release_23 : decode cX0_release 23 = .ok (.aload_n 0, 1) := by decide +kernel
theorem dX0_release_24 : decode cX0_release 24 = .ok (.getfield 9, 3) := by decide +kernel
theorem dX0_release_27 : decode cX0_release 27 = .ok (.aload_n 0, 1) := by decide +kernel
theorem dX0_release_28 : decode cX0_release 28 = .ok (.getfield 28, 3) := by decide +kernel
theorem dX0_release_31 : decode cX0_release 31 = .ok (.iload 4, 2) := by decide +kernel
theorem dX0_release_33 : decode cX0_release 33 = .ok (.iaload, 1) := by decide +kernel
theorem dX0_release_34 : decode cX0_release 34 = .ok (.iaload, 1) := by decide +kernel
theorem dX0_release_35 : decode cX0_release 35 = .ok (.dup2, 1) := by decide +kernel
theorem dX0_release_36 : decode cX0_release 36 = .ok (.iaload, 1) := by decide +kernel
theorem dX0_release_37 : decode cX0_release 37 = .ok (.iconst 1, 1) := by decide +kernel
theorem dX0_release_38 : decode cX0_release 38 = .ok (.isub, 1) := by decide +kernel
theorem dX0_release_39 : decode cX0_release 39 = .ok (.iastore, 1) := by decide +kernel
theorem dX0_release_40 : decode cX0_release 40 = .ok (.iinc 4 1, 3) := by decide +kernel
theorem dX0_release_43 : decode cX0_release 43 = .ok (.goto (-30), 3) := by decide +kernel
theorem dX0_release_46 : decode cX0_release 46 = .ok (.return_, 1) := by decide +kernel
theorem dX0_receive_0 : decode cX0_receive 0 = .ok (.aload_n 2, 1) := by decide +kernel
theorem dX0_receive_1 : decode cX0_receive 1 = .ok (.aload_n 1, 1) := by decide +kernel
theorem dX0_receive_2 : decode cX0_receive 2 = .ok (.aload_n 0, 1) := by decide +kernel
theorem dX0_receive_3 : decode cX0_receive 3 = .ok (.getfield 28, 3) := by decide +kernel
theorem dX0_receive_6 : decode cX0_receive 6 = .ok (.invokevirtual 43, 3) := by decide +kernel
theorem dX0_receive_9 : decode cX0_receive 9 = .ok (.istore_n 3, 1) := by decide +kernel
theorem dX0_receive_10 : decode cX0_receive 10 = .ok (.iload_n 3, 1) := by decide +kernel
theorem dX0_receive_11 : decode cX0_receive 11 = .ok (.iconst 1, 1) := by decide +kernel
theorem dX0_receive_12 : decode cX0_receive 12 = .ok (.isub, 1) := by decide +kernel
theorem dX0_receive_13 : decode cX0_receive 13 = .ok (.istore 4, 2) := by decide +kernel
theorem dX0_receive_15 : decode cX0_receive 15 = .ok (.iload 4, 2) := by decide +kernel
theorem dX0_receive_17 : decode cX0_receive 17 = .ok (.ifCond .lt 21, 3) := by decide +kernel
theorem dX0_receive_20 : decode cX0_receive 20 = .ok (.aload_n 0, 1) := by decide +kernel
theorem dX0_receive_21 : decode cX0_receive 21 = .ok (.aload_n 0, 1) := by decide +kernel
theorem dX0_receive_22 : decode cX0_receive 22 = .ok (.getfield 28, 3) := by decide +kernel
theorem dX0_receive_25 : decode cX0_receive 25 = .ok (.iload 4, 2) := by decide +kernel
theorem dX0_receive_27 : decode cX0_receive 27 = .ok (.iaload, 1) := by decide +kernel
theorem dX0_receive_28 : decode cX0_receive 28 = .ok (.aload_n 2, 1) := by decide +kernel
theorem dX0_receive_29 : decode cX0_receive 29 = .ok (.invokevirtual 47, 3) := by decide +kernel
theorem dX0_receive_32 : decode cX0_receive 32 = .ok (.iinc 4 (-1), 3) := by decide +kernel
theorem dX0_receive_35 : decode cX0_receive 35 = .ok (.goto (-20), 3) := by decide +kernel
theorem dX0_receive_38 : decode cX0_receive 38 = .ok (.return_, 1) := by decide +kernel
theorem dX0_join_0 : decode cX0_join 0 = .ok (.iconst 0, 1) := by decide +kernel
theorem dX0_join_1 : decode cX0_join 1 = .ok (.istore_n 3, 1) := by decide +kernel
theorem dX0_join_2 : decode cX0_join 2 = .ok (.iload_n 3, 1) := by decide +kernel
theorem dX0_join_3 : decode cX0_join 3 = .ok (.bipush 8, 2) := by decide +kernel
theorem dX0_join_5 : decode cX0_join 5 = .ok (.if_icmp .ge 40, 3) := by decide +kernel
theorem dX0_join_8 : decode cX0_join 8 = .ok (.aload_n 2, 1) := by decide +kernel
theorem dX0_join_9 : decode cX0_join 9 = .ok (.iload_n 1, 1) := by decide +kernel
theorem dX0_join_10 : decode cX0_join 10 = .ok (.iload_n 3, 1) := by decide +kernel
theorem dX0_join_11 : decode cX0_join 11 = .ok (.invokevirtual 51, 3) := by decide +kernel
theorem dX0_join_14 : decode cX0_join 14 = .ok (.istore 4, 2) := by decide +kernel
theorem dX0_join_16 : decode cX0_join 16 = .ok (.aload_n 0, 1) := by decide +kernel
theorem dX0_join_17 : decode cX0_join 17 = .ok (.getfield 25, 3) := by decide +kernel
theorem dX0_join_20 : decode cX0_join 20 = .ok (.iload_n 3, 1) := by decide +kernel
theorem dX0_join_21 : decode cX0_join 21 = .ok (.iload 4, 2) := by decide +kernel
theorem dX0_join_23 : decode cX0_join 23 = .ok (.iconst (-1), 1) := by decide +kernel
theorem dX0_join_24 : decode cX0_join 24 = .ok (.if_icmp .ne 7, 3) := by decide +kernel
theorem dX0_join_27 : decode cX0_join 27 = .ok (.iconst (-1), 1) := by decide +kernel
theorem dX0_join_28 : decode cX0_join 28 = .ok (.goto 10, 3) := by decide +kernel
theorem dX0_join_31 : decode cX0_join 31 = .ok (.aload_n 0, 1) := by decide +kernel
theorem dX0_join_32 : decode cX0_join 32 = .ok (.getfield 9, 3) := by decide +kernel
theorem dX0_join_35 : decode cX0_join 35 = .ok (.iload 4, 2) := by decide +kernel
theorem dX0_join_37 : decode cX0_join 37 = .ok (.iaload, 1) := by decide +kernel
theorem dX0_join_38 : decode cX0_join 38 = .ok (.iastore, 1) := by decide +kernel
theorem dX0_join_39 : decode cX0_join 39 = .ok (.iinc 3 1, 3) := by decide +kernel
theorem dX0_join_42 : decode cX0_join 42 = .ok (.goto (-40), 3) := by decide +kernel
theorem dX0_join_45 : decode cX0_join 45 = .ok (.aload_n 2, 1) := by decide +kernel
theorem dX0_join_46 : decode cX0_join 46 = .ok (.iload_n 1, 1) := by decide +kernel
theorem dX0_join_47 : decode cX0_join 47 = .ok (.invokevirtual 55, 3) := by decide +kernel
theorem dX0_join_50 : decode cX0_join 50 = .ok (.istore_n 3, 1) := by decide +kernel
theorem dX0_join_51 : decode cX0_join 51 = .ok (.aload_n 0, 1) := by decide +kernel
theorem dX0_join_52 : decode cX0_join 52 = .ok (.iload_n 3, 1) := by decide +kernel
theorem dX0_join_53 : decode cX0_join 53 = .ok (.invokevirtual 59, 3) := by decide +kernel
theorem dX0_join_56 : decode cX0_join 56 = .ok (.istore 4, 2) := by decide +kernel
theorem dX0_join_58 : decode cX0_join 58 = .ok (.iload 4, 2) := by decide +kernel
theorem dX0_join_60 : decode cX0_join 60 = .ok (.iconst (-1), 1) := by decide +kernel
theorem dX0_join_61 : decode cX0_join 61 = .ok (.if_icmp .ne 10, 3) := by decide +kernel
theorem dX0_join_64 : decode cX0_join 64 = .ok (.aload_n 0, 1) := by decide +kernel
theorem dX0_join_65 : decode cX0_join 65 = .ok (.iload_n 3, 1) := by decide +kernel
theorem dX0_join_66 : decode cX0_join 66 = .ok (.invokevirtual 63, 3) := by decide +kernel
theorem dX0_join_69 : decode cX0_join 69 = .ok (.istore 4, 2) := by decide +kernel
theorem dX0_join_71 : decode cX0_join 71 = .ok (.aload_n 0, 1) := by decide +kernel
theorem dX0_join_72 : decode cX0_join 72 = .ok (.getfield 15, 3) := by decide +kernel
theorem dX0_join_75 : decode cX0_join 75 = .ok (.iload 4, 2) := by decide +kernel
theorem dX0_join_77 : decode cX0_join 77 = .ok (.dup2, 1) := by decide +kernel
theorem dX0_join_78 : decode cX0_join 78 = .ok (.iaload, 1) := by decide +kernel
theorem dX0_join_79 : decode cX0_join 79 = .ok (.iconst 1, 1) := by decide +kernel
theorem dX0_join_80 : decode cX0_join 80 = .ok (.iadd, 1) := by decide +kernel
theorem dX0_join_81 : decode cX0_join 81 = .ok (.iastore, 1) := by decide +kernel
theorem dX0_join_82 : decode cX0_join 82 = .ok (.aload_n 0, 1) := by decide +kernel
theorem dX0_join_83 : decode cX0_join 83 = .ok (.getfield 9, 3) := by decide +kernel
theorem dX0_join_86 : decode cX0_join 86 = .ok (.iload_n 1, 1) := by decide +kernel
theorem dX0_join_87 : decode cX0_join 87 = .ok (.iload 4, 2) := by decide +kernel
theorem dX0_join_89 : decode cX0_join 89 = .ok (.iastore, 1) := by decide +kernel
theorem dX0_join_90 : decode cX0_join 90 = .ok (.return_, 1) := by decide +kernel
theorem dX0_wantedState_0 : decode cX0_wantedState 0 = .ok (.iconst 0, 1) := by decide +kernel
theorem dX0_wantedState_1 : decode cX0_wantedState 1 = .ok (.istore_n 2, 1) := by decide +kernel
theorem dX0_wantedState_2 : decode cX0_wantedState 2 = .ok (.iload_n 2, 1) := by decide +kernel
theorem dX0_wantedState_3 : decode cX0_wantedState 3 = .ok (.sipush 211, 3) := by decide +kernel
theorem dX0_wantedState_6 : decode cX0_wantedState 6 = .ok (.if_icmp .ge 38, 3) := by decide +kernel
theorem dX0_wantedState_9 : decode cX0_wantedState 9 = .ok (.aload_n 0, 1) := by decide +kernel
theorem dX0_wantedState_10 : decode cX0_wantedState 10 = .ok (.getfield 15, 3) := by decide +kernel
theorem dX0_wantedState_13 : decode cX0_wantedState 13 = .ok (.iload_n 2, 1) := by decide +kernel
theorem dX0_wantedState_14 : decode cX0_wantedState 14 = .ok (.iaload, 1) := by decide +kernel
theorem dX0_wantedState_15 : decode cX0_wantedState 15 = .ok (.ifCond .eq 23, 3) := by decide +kernel
theorem dX0_wantedState_18 : decode cX0_wantedState 18 = .ok (.aload_n 0, 1) := by decide +kernel
theorem dX0_wantedState_19 : decode cX0_wantedState 19 = .ok (.getfield 18, 3) := by decide +kernel
theorem dX0_wantedState_22 : decode cX0_wantedState 22 = .ok (.iload_n 2, 1) := by decide +kernel
theorem dX0_wantedState_23 : decode cX0_wantedState 23 = .ok (.baload, 1) := by decide +kernel
theorem dX0_wantedState_24 : decode cX0_wantedState 24 = .ok (.iload_n 1, 1) := by decide +kernel
theorem dX0_wantedState_25 : decode cX0_wantedState 25 = .ok (.if_icmp .ne 13, 3) := by decide +kernel
theorem dX0_wantedState_28 : decode cX0_wantedState 28 = .ok (.aload_n 0, 1) := by decide +kernel
theorem dX0_wantedState_29 : decode cX0_wantedState 29 = .ok (.iload_n 2, 1) := by decide +kernel
theorem dX0_wantedState_30 : decode cX0_wantedState 30 = .ok (.invokevirtual 66, 3) := by decide +kernel
theorem dX0_wantedState_33 : decode cX0_wantedState 33 = .ok (.ifCond .eq 5, 3) := by decide +kernel
theorem dX0_wantedState_36 : decode cX0_wantedState 36 = .ok (.iload_n 2, 1) := by decide +kernel
theorem dX0_wantedState_37 : decode cX0_wantedState 37 = .ok (.ireturn, 1) := by decide +kernel
theorem dX0_wantedState_38 : decode cX0_wantedState 38 = .ok (.iinc 2 1, 3) := by decide +kernel
theorem dX0_wantedState_41 : decode cX0_wantedState 41 = .ok (.goto (-39), 3) := by decide +kernel
theorem dX0_wantedState_44 : decode cX0_wantedState 44 = .ok (.iconst (-1), 1) := by decide +kernel
theorem dX0_wantedState_45 : decode cX0_wantedState 45 = .ok (.ireturn, 1) := by decide +kernel
theorem dX0_hasWantedTargets_0 : decode cX0_hasWantedTargets 0 = .ok (.iconst 0, 1) := by decide +kernel
theorem dX0_hasWantedTargets_1 : decode cX0_hasWantedTargets 1 = .ok (.istore_n 2, 1) := by decide +kernel
theorem dX0_hasWantedTargets_2 : decode cX0_hasWantedTargets 2 = .ok (.iload_n 2, 1) := by decide +kernel
theorem dX0_hasWantedTargets_3 : decode cX0_hasWantedTargets 3 = .ok (.bipush 8, 2) := by decide +kernel
theorem dX0_hasWantedTargets_5 : decode cX0_hasWantedTargets 5 = .ok (.if_icmp .ge 31, 3) := by decide +kernel
theorem dX0_hasWantedTargets_8 : decode cX0_hasWantedTargets 8 = .ok (.aload_n 0, 1) := by decide +kernel
theorem dX0_hasWantedTargets_9 : decode cX0_hasWantedTargets 9 = .ok (.getfield 22, 3) := by decide +kernel
theorem dX0_hasWantedTargets_12 : decode cX0_hasWantedTargets 12 = .ok (.iload_n 1, 1) := by decide +kernel
theorem dX0_hasWantedTargets_13 : decode cX0_hasWantedTargets 13 = .ok (.bipush 8, 2) := by decide +kernel
theorem dX0_hasWantedTargets_15 : decode cX0_hasWantedTargets 15 = .ok (.imul, 1) := by decide +kernel
theorem dX0_hasWantedTargets_16 : decode cX0_hasWantedTargets 16 = .ok (.iload_n 2, 1) := by decide +kernel
theorem dX0_hasWantedTargets_17 : decode cX0_hasWantedTargets 17 = .ok (.iadd, 1) := by decide +kernel
theorem dX0_hasWantedTargets_18 : decode cX0_hasWantedTargets 18 = .ok (.iaload, 1) := by decide +kernel
theorem dX0_hasWantedTargets_19 : decode cX0_hasWantedTargets 19 = .ok (.aload_n 0, 1) := by decide +kernel
theorem dX0_hasWantedTargets_20 : decode cX0_hasWantedTargets 20 = .ok (.getfield 25, 3) := by decide +kernel
theorem dX0_hasWantedTargets_23 : decode cX0_hasWantedTargets 23 = .ok (.iload_n 2, 1) := by decide +kernel
theorem dX0_hasWantedTargets_24 : decode cX0_hasWantedTargets 24 = .ok (.iaload, 1) := by decide +kernel
theorem dX0_hasWantedTargets_25 : decode cX0_hasWantedTargets 25 = .ok (.if_icmp .eq 5, 3) := by decide +kernel
theorem dX0_hasWantedTargets_28 : decode cX0_hasWantedTargets 28 = .ok (.iconst 0, 1) := by decide +kernel
theorem dX0_hasWantedTargets_29 : decode cX0_hasWantedTargets 29 = .ok (.ireturn, 1) := by decide +kernel
theorem dX0_hasWantedTargets_30 : decode cX0_hasWantedTargets 30 = .ok (.iinc 2 1, 3) := by decide +kernel
theorem dX0_hasWantedTargets_33 : decode cX0_hasWantedTargets 33 = .ok (.goto (-31), 3) := by decide +kernel
theorem dX0_hasWantedTargets_36 : decode cX0_hasWantedTargets 36 = .ok (.iconst 1, 1) := by decide +kernel
theorem dX0_hasWantedTargets_37 : decode cX0_hasWantedTargets 37 = .ok (.ireturn, 1) := by decide +kernel
theorem dX0_newState_0 : decode cX0_newState 0 = .ok (.iconst 0, 1) := by decide +kernel
theorem dX0_newState_1 : decode cX0_newState 1 = .ok (.istore_n 2, 1) := by decide +kernel
theorem dX0_newState_2 : decode cX0_newState 2 = .ok (.iload_n 2, 1) := by decide +kernel
theorem dX0_newState_3 : decode cX0_newState 3 = .ok (.sipush 210, 3) := by decide +kernel
theorem dX0_newState_6 : decode cX0_newState 6 = .ok (.if_icmp .ge 18, 3) := by decide +kernel
theorem dX0_newState_9 : decode cX0_newState 9 = .ok (.aload_n 0, 1) := by decide +kernel
theorem dX0_newState_10 : decode cX0_newState 10 = .ok (.getfield 15, 3) := by decide +kernel
theorem dX0_newState_13 : decode cX0_newState 13 = .ok (.iload_n 2, 1) := by decide +kernel
theorem dX0_newState_14 : decode cX0_newState 14 = .ok (.iaload, 1) := by decide +kernel
theorem dX0_newState_15 : decode cX0_newState 15 = .ok (.ifCond .eq 9, 3) := by decide +kernel
theorem dX0_newState_18 : decode cX0_newState 18 = .ok (.iinc 2 1, 3) := by decide +kernel
theorem dX0_newState_21 : decode cX0_newState 21 = .ok (.goto (-19), 3) := by decide +kernel
theorem dX0_newState_24 : decode cX0_newState 24 = .ok (.aload_n 0, 1) := by decide +kernel
theorem dX0_newState_25 : decode cX0_newState 25 = .ok (.getfield 18, 3) := by decide +kernel
theorem dX0_newState_28 : decode cX0_newState 28 = .ok (.iload_n 2, 1) := by decide +kernel
theorem dX0_newState_29 : decode cX0_newState 29 = .ok (.iload_n 1, 1) := by decide +kernel
theorem dX0_newState_30 : decode cX0_newState 30 = .ok (.bastore, 1) := by decide +kernel
theorem dX0_newState_31 : decode cX0_newState 31 = .ok (.aload_n 0, 1) := by decide +kernel
theorem dX0_newState_32 : decode cX0_newState 32 = .ok (.getfield 25, 3) := by decide +kernel
theorem dX0_newState_35 : decode cX0_newState 35 = .ok (.iconst 0, 1) := by decide +kernel
theorem dX0_newState_36 : decode cX0_newState 36 = .ok (.aload_n 0, 1) := by decide +kernel
theorem dX0_newState_37 : decode cX0_newState 37 = .ok (.getfield 22, 3) := by decide +kernel
theorem dX0_newState_40 : decode cX0_newState 40 = .ok (.iload_n 2, 1) := by decide +kernel
theorem dX0_newState_41 : decode cX0_newState 41 = .ok (.bipush 8, 2) := by decide +kernel
theorem dX0_newState_43 : decode cX0_newState 43 = .ok (.imul, 1) := by decide +kernel
theorem dX0_newState_44 : decode cX0_newState 44 = .ok (.bipush 8, 2) := by decide +kernel
theorem dX0_newState_46 : decode cX0_newState 46 = .ok (.invokestatic 69, 3) := by decide +kernel
theorem dX0_newState_49 : decode cX0_newState 49 = .ok (.iload_n 2, 1) := by decide +kernel
theorem dX0_newState_50 : decode cX0_newState 50 = .ok (.ireturn, 1) := by decide +kernel
theorem dX1_init_0 : decode cX1_init 0 = .ok (.aload_n 0, 1) := by decide +kernel
theorem dX1_init_1 : decode cX1_init 1 = .ok (.invokespecial 3, 3) := by decide +kernel
theorem dX1_init_4 : decode cX1_init 4 = .ok (.aload_n 0, 1) := by decide +kernel
theorem dX1_init_5 : decode cX1_init 5 = .ok (.sipush 420, 3) := by decide +kernel
theorem dX1_init_8 : decode cX1_init 8 = .ok (.newarray .int, 2) := by decide +kernel
theorem dX1_init_10 : decode cX1_init 10 = .ok (.putfield 9, 3) := by decide +kernel
theorem dX1_init_13 : decode cX1_init 13 = .ok (.aload_n 0, 1) := by decide +kernel
theorem dX1_init_14 : decode cX1_init 14 = .ok (.sipush 420, 3) := by decide +kernel
theorem dX1_init_17 : decode cX1_init 17 = .ok (.newarray .int, 2) := by decide +kernel
theorem dX1_init_19 : decode cX1_init 19 = .ok (.putfield 15, 3) := by decide +kernel
theorem dX1_init_22 : decode cX1_init 22 = .ok (.return_, 1) := by decide +kernel
theorem dX1_empty_0 : decode cX1_empty 0 = .ok (.aload_n 0, 1) := by decide +kernel
theorem dX1_empty_1 : decode cX1_empty 1 = .ok (.iconst 0, 1) := by decide +kernel
theorem dX1_empty_2 : decode cX1_empty 2 = .ok (.putfield 18, 3) := by decide +kernel
theorem dX1_empty_5 : decode cX1_empty 5 = .ok (.return_, 1) := by decide +kernel
theorem dX1_put_0 : decode cX1_put 0 = .ok (.aload_n 0, 1) := by decide +kernel
theorem dX1_put_1 : decode cX1_put 1 = .ok (.getfield 18, 3) := by decide +kernel
theorem dX1_put_4 : decode cX1_put 4 = .ok (.sipush 420, 3) := by decide +kernel
theorem dX1_put_7 : decode cX1_put 7 = .ok (.if_icmp .ge 33, 3) := by decide +kernel
theorem dX1_put_10 : decode cX1_put 10 = .ok (.aload_n 0, 1) := by decide +kernel
theorem dX1_put_11 : decode cX1_put 11 = .ok (.getfield 9, 3) := by decide +kernel
theorem dX1_put_14 : decode cX1_put 14 = .ok (.aload_n 0, 1) := by decide +kernel
theorem dX1_put_15 : decode cX1_put 15 = .ok (.getfield 18, 3) := by decide +kernel
theorem dX1_put_18 : decode cX1_put 18 = .ok (.iload_n 1, 1) := by decide +kernel
theorem dX1_put_19 : decode cX1_put 19 = .ok (.iastore, 1) := by decide +kernel
theorem dX1_put_20 : decode cX1_put 20 = .ok (.aload_n 0, 1) := by decide +kernel
theorem dX1_put_21 : decode cX1_put 21 = .ok (.getfield 15, 3) := by decide +kernel
theorem dX1_put_24 : decode cX1_put 24 = .ok (.aload_n 0, 1) := by decide +kernel
theorem dX1_put_25 : decode cX1_put 25 = .ok (.getfield 18, 3) := by decide +kernel
theorem dX1_put_28 : decode cX1_put 28 = .ok (.iload_n 2, 1) := by decide +kernel
theorem dX1_put_29 : decode cX1_put 29 = .ok (.iastore, 1) := by decide +kernel
theorem dX1_put_30 : decode cX1_put 30 = .ok (.aload_n 0, 1) := by decide +kernel
theorem dX1_put_31 : decode cX1_put 31 = .ok (.dup, 1) := by decide +kernel
theorem dX1_put_32 : decode cX1_put 32 = .ok (.getfield 18, 3) := by decide +kernel
theorem dX1_put_35 : decode cX1_put 35 = .ok (.iconst 1, 1) := by decide +kernel
theorem dX1_put_36 : decode cX1_put 36 = .ok (.iadd, 1) := by decide +kernel
theorem dX1_put_37 : decode cX1_put 37 = .ok (.putfield 18, 3) := by decide +kernel
theorem dX1_put_40 : decode cX1_put 40 = .ok (.return_, 1) := by decide +kernel
theorem dX1_size_0 : decode cX1_size 0 = .ok (.aload_n 0, 1) := by decide +kernel
theorem dX1_size_1 : decode cX1_size 1 = .ok (.getfield 18, 3) := by decide +kernel
theorem dX1_size_4 : decode cX1_size 4 = .ok (.ireturn, 1) := by decide +kernel
theorem dX1_number_0 : decode cX1_number 0 = .ok (.aload_n 0, 1) := by decide +kernel
theorem dX1_number_1 : decode cX1_number 1 = .ok (.getfield 9, 3) := by decide +kernel
theorem dX1_number_4 : decode cX1_number 4 = .ok (.iload_n 1, 1) := by decide +kernel
theorem dX1_number_5 : decode cX1_number 5 = .ok (.iaload, 1) := by decide +kernel
theorem dX1_number_6 : decode cX1_number 6 = .ok (.ireturn, 1) := by decide +kernel
theorem dX1_measure_0 : decode cX1_measure 0 = .ok (.aload_n 0, 1) := by decide +kernel
theorem dX1_measure_1 : decode cX1_measure 1 = .ok (.getfield 15, 3) := by decide +kernel
theorem dX1_measure_4 : decode cX1_measure 4 = .ok (.iload_n 1, 1) := by decide +kernel
theorem dX1_measure_5 : decode cX1_measure 5 = .ok (.iaload, 1) := by decide +kernel
theorem dX1_measure_6 : decode cX1_measure 6 = .ok (.ireturn, 1) := by decide +kernel
theorem dX2_init_0 : decode cX2_init 0 = .ok (.aload_n 0, 1) := by decide +kernel
theorem dX2_init_1 : decode cX2_init 1 = .ok (.invokespecial 1, 3) := by decide +kernel
theorem dX2_init_4 : decode cX2_init 4 = .ok (.aload_n 0, 1) := by decide +kernel
theorem dX2_init_5 : decode cX2_init 5 = .ok (.iload_n 1, 1) := by decide +kernel
theorem dX2_init_6 : decode cX2_init 6 = .ok (.newarray .char, 2) := by decide +kernel
theorem dX2_init_8 : decode cX2_init 8 = .ok (.putfield 7, 3) := by decide +kernel
theorem dX2_init_11 : decode cX2_init 11 = .ok (.return_, 1) := by decide +kernel
theorem dX2_put_0 : decode cX2_put 0 = .ok (.aload_n 0, 1) := by decide +kernel
theorem dX2_put_1 : decode cX2_put 1 = .ok (.getfield 13, 3) := by decide +kernel
theorem dX2_put_4 : decode cX2_put 4 = .ok (.aload_n 0, 1) := by decide +kernel
theorem dX2_put_5 : decode cX2_put 5 = .ok (.getfield 7, 3) := by decide +kernel
theorem dX2_put_8 : decode cX2_put 8 = .ok (.arraylength, 1) := by decide +kernel
theorem dX2_put_9 : decode cX2_put 9 = .ok (.if_icmp .lt 5, 3) := by decide +kernel
theorem dX2_put_12 : decode cX2_put 12 = .ok (.iconst 0, 1) := by decide +kernel
theorem dX2_put_13 : decode cX2_put 13 = .ok (.ireturn, 1) := by decide +kernel
theorem dX2_put_14 : decode cX2_put 14 = .ok (.aload_n 0, 1) := by decide +kernel
theorem dX2_put_15 : decode cX2_put 15 = .ok (.getfield 7, 3) := by decide +kernel
theorem dX2_put_18 : decode cX2_put 18 = .ok (.aload_n 0, 1) := by decide +kernel
theorem dX2_put_19 : decode cX2_put 19 = .ok (.getfield 13, 3) := by decide +kernel
theorem dX2_put_22 : decode cX2_put 22 = .ok (.iload_n 1, 1) := by decide +kernel
theorem dX2_put_23 : decode cX2_put 23 = .ok (.castore, 1) := by decide +kernel
theorem dX2_put_24 : decode cX2_put 24 = .ok (.aload_n 0, 1) := by decide +kernel
theorem dX2_put_25 : decode cX2_put 25 = .ok (.dup, 1) := by decide +kernel
theorem dX2_put_26 : decode cX2_put 26 = .ok (.getfield 13, 3) := by decide +kernel
theorem dX2_put_29 : decode cX2_put 29 = .ok (.iconst 1, 1) := by decide +kernel
theorem dX2_put_30 : decode cX2_put 30 = .ok (.iadd, 1) := by decide +kernel
theorem dX2_put_31 : decode cX2_put 31 = .ok (.putfield 13, 3) := by decide +kernel
theorem dX2_put_34 : decode cX2_put 34 = .ok (.iconst 1, 1) := by decide +kernel
theorem dX2_put_35 : decode cX2_put 35 = .ok (.ireturn, 1) := by decide +kernel
theorem dX2_empty_0 : decode cX2_empty 0 = .ok (.aload_n 0, 1) := by decide +kernel
theorem dX2_empty_1 : decode cX2_empty 1 = .ok (.getfield 13, 3) := by decide +kernel
theorem dX2_empty_4 : decode cX2_empty 4 = .ok (.istore_n 1, 1) := by decide +kernel
theorem dX2_empty_5 : decode cX2_empty 5 = .ok (.aload_n 0, 1) := by decide +kernel
theorem dX2_empty_6 : decode cX2_empty 6 = .ok (.iconst 0, 1) := by decide +kernel
theorem dX2_empty_7 : decode cX2_empty 7 = .ok (.putfield 13, 3) := by decide +kernel
theorem dX2_empty_10 : decode cX2_empty 10 = .ok (.iload_n 1, 1) := by decide +kernel
theorem dX2_empty_11 : decode cX2_empty 11 = .ok (.ireturn, 1) := by decide +kernel
theorem dX2_size_0 : decode cX2_size 0 = .ok (.aload_n 0, 1) := by decide +kernel
theorem dX2_size_1 : decode cX2_size 1 = .ok (.getfield 13, 3) := by decide +kernel
theorem dX2_size_4 : decode cX2_size 4 = .ok (.ireturn, 1) := by decide +kernel
theorem dX2_at_0 : decode cX2_at 0 = .ok (.iload_n 1, 1) := by decide +kernel
theorem dX2_at_1 : decode cX2_at 1 = .ok (.ifCond .lt 20, 3) := by decide +kernel
theorem dX2_at_4 : decode cX2_at 4 = .ok (.iload_n 1, 1) := by decide +kernel
theorem dX2_at_5 : decode cX2_at 5 = .ok (.aload_n 0, 1) := by decide +kernel
theorem dX2_at_6 : decode cX2_at 6 = .ok (.getfield 13, 3) := by decide +kernel
theorem dX2_at_9 : decode cX2_at 9 = .ok (.if_icmp .ge 12, 3) := by decide +kernel
theorem dX2_at_12 : decode cX2_at 12 = .ok (.aload_n 0, 1) := by decide +kernel
theorem dX2_at_13 : decode cX2_at 13 = .ok (.getfield 7, 3) := by decide +kernel
theorem dX2_at_16 : decode cX2_at 16 = .ok (.iload_n 1, 1) := by decide +kernel
theorem dX2_at_17 : decode cX2_at 17 = .ok (.caload, 1) := by decide +kernel
theorem dX2_at_18 : decode cX2_at 18 = .ok (.goto 5, 3) := by decide +kernel
theorem dX2_at_21 : decode cX2_at 21 = .ok (.bipush 32, 2) := by decide +kernel
theorem dX2_at_23 : decode cX2_at 23 = .ok (.ireturn, 1) := by decide +kernel
theorem dX3_init_0 : decode cX3_init 0 = .ok (.aload_n 0, 1) := by decide +kernel
theorem dX3_init_1 : decode cX3_init 1 = .ok (.invokespecial 3, 3) := by decide +kernel
theorem dX3_init_4 : decode cX3_init 4 = .ok (.aload_n 0, 1) := by decide +kernel
theorem dX3_init_5 : decode cX3_init 5 = .ok (.bipush 8, 2) := by decide +kernel
theorem dX3_init_7 : decode cX3_init 7 = .ok (.newarray .int, 2) := by decide +kernel
theorem dX3_init_9 : decode cX3_init 9 = .ok (.putfield 9, 3) := by decide +kernel
theorem dX3_init_12 : decode cX3_init 12 = .ok (.return_, 1) := by decide +kernel
theorem dX3_distance_0 : decode cX3_distance 0 = .ok (.iconst 0, 1) := by decide +kernel
theorem dX3_distance_1 : decode cX3_distance 1 = .ok (.istore_n 3, 1) := by decide +kernel
theorem dX3_distance_2 : decode cX3_distance 2 = .ok (.iload_n 3, 1) := by decide +kernel
theorem dX3_distance_3 : decode cX3_distance 3 = .ok (.aload_n 1, 1) := by decide +kernel
theorem dX3_distance_4 : decode cX3_distance 4 = .ok (.invokevirtual 15, 3) := by decide +kernel
theorem dX3_distance_7 : decode cX3_distance 7 = .ok (.if_icmp .gt 16, 3) := by decide +kernel
theorem dX3_distance_10 : decode cX3_distance 10 = .ok (.aload_n 0, 1) := by decide +kernel
theorem dX3_distance_11 : decode cX3_distance 11 = .ok (.getfield 9, 3) := by decide +kernel
theorem dX3_distance_14 : decode cX3_distance 14 = .ok (.iload_n 3, 1) := by decide +kernel
theorem dX3_distance_15 : decode cX3_distance 15 = .ok (.iload_n 3, 1) := by decide +kernel
theorem dX3_distance_16 : decode cX3_distance 16 = .ok (.iastore, 1) := by decide +kernel
theorem dX3_distance_17 : decode cX3_distance 17 = .ok (.iinc 3 1, 3) := by decide +kernel
theorem dX3_distance_20 : decode cX3_distance 20 = .ok (.goto (-18), 3) := by decide +kernel
theorem dX3_distance_23 : decode cX3_distance 23 = .ok (.iconst 0, 1) := by decide +kernel
theorem dX3_distance_24 : decode cX3_distance 24 = .ok (.istore_n 3, 1) := by decide +kernel
theorem dX3_distance_25 : decode cX3_distance 25 = .ok (.iload_n 3, 1) := by decide +kernel
theorem dX3_distance_26 : decode cX3_distance 26 = .ok (.aload_n 2, 1) := by decide +kernel
theorem dX3_distance_27 : decode cX3_distance 27 = .ok (.invokevirtual 15, 3) := by decide +kernel
theorem dX3_distance_30 : decode cX3_distance 30 = .ok (.if_icmp .ge 19, 3) := by decide +kernel
theorem dX3_distance_33 : decode cX3_distance 33 = .ok (.aload_n 0, 1) := by decide +kernel
theorem dX3_distance_34 : decode cX3_distance 34 = .ok (.aload_n 1, 1) := by decide +kernel
theorem dX3_distance_35 : decode cX3_distance 35 = .ok (.aload_n 2, 1) := by decide +kernel
theorem dX3_distance_36 : decode cX3_distance 36 = .ok (.iload_n 3, 1) := by decide +kernel
theorem dX3_distance_37 : decode cX3_distance 37 = .ok (.invokevirtual 21, 3) := by decide +kernel
theorem dX3_distance_40 : decode cX3_distance 40 = .ok (.invokevirtual 25, 3) := by decide +kernel
theorem dX3_distance_43 : decode cX3_distance 43 = .ok (.iinc 3 1, 3) := by decide +kernel
theorem dX3_distance_46 : decode cX3_distance 46 = .ok (.goto (-21), 3) := by decide +kernel
theorem dX3_distance_49 : decode cX3_distance 49 = .ok (.aload_n 0, 1) := by decide +kernel
theorem dX3_distance_50 : decode cX3_distance 50 = .ok (.getfield 9, 3) := by decide +kernel
theorem dX3_distance_53 : decode cX3_distance 53 = .ok (.aload_n 1, 1) := by decide +kernel
theorem dX3_distance_54 : decode cX3_distance 54 = .ok (.invokevirtual 15, 3) := by decide +kernel
theorem dX3_distance_57 : decode cX3_distance 57 = .ok (.iaload, 1) := by decide +kernel
theorem dX3_distance_58 : decode cX3_distance 58 = .ok (.ireturn, 1) := by decide +kernel
theorem dX3_read_0 : decode cX3_read 0 = .ok (.aload_n 0, 1) := by decide +kernel
theorem dX3_read_1 : decode cX3_read 1 = .ok (.getfield 9, 3) := by decide +kernel
theorem dX3_read_4 : decode cX3_read 4 = .ok (.iconst 0, 1) := by decide +kernel
theorem dX3_read_5 : decode cX3_read 5 = .ok (.iaload, 1) := by decide +kernel
theorem dX3_read_6 : decode cX3_read 6 = .ok (.istore_n 3, 1) := by decide +kernel
theorem dX3_read_7 : decode cX3_read 7 = .ok (.aload_n 0, 1) := by decide +kernel
theorem dX3_read_8 : decode cX3_read 8 = .ok (.getfield 9, 3) := by decide +kernel
theorem dX3_read_11 : decode cX3_read 11 = .ok (.iconst 0, 1) := by decide +kernel
theorem dX3_read_12 : decode cX3_read 12 = .ok (.dup2, 1) := by decide +kernel
theorem dX3_read_13 : decode cX3_read 13 = .ok (.iaload, 1) := by decide +kernel
theorem dX3_read_14 : decode cX3_read 14 = .ok (.iconst 1, 1) := by decide +kernel
theorem dX3_read_15 : decode cX3_read 15 = .ok (.iadd, 1) := by decide +kernel
theorem dX3_read_16 : decode cX3_read 16 = .ok (.iastore, 1) := by decide +kernel
theorem dX3_read_17 : decode cX3_read 17 = .ok (.iconst 1, 1) := by decide +kernel
theorem dX3_read_18 : decode cX3_read 18 = .ok (.istore 4, 2) := by decide +kernel
theorem dX3_read_20 : decode cX3_read 20 = .ok (.iload 4, 2) := by decide +kernel
theorem dX3_read_22 : decode cX3_read 22 = .ok (.aload_n 1, 1) := by decide +kernel
theorem dX3_read_23 : decode cX3_read 23 = .ok (.invokevirtual 15, 3) := by decide +kernel
theorem dX3_read_26 : decode cX3_read 26 = .ok (.if_icmp .gt 65, 3) := by decide +kernel
theorem dX3_read_29 : decode cX3_read 29 = .ok (.aload_n 1, 1) := by decide +kernel
theorem dX3_read_30 : decode cX3_read 30 = .ok (.iload 4, 2) := by decide +kernel
theorem dX3_read_32 : decode cX3_read 32 = .ok (.iconst 1, 1) := by decide +kernel
theorem dX3_read_33 : decode cX3_read 33 = .ok (.isub, 1) := by decide +kernel
theorem dX3_read_34 : decode cX3_read 34 = .ok (.invokevirtual 21, 3) := by decide +kernel
theorem dX3_read_37 : decode cX3_read 37 = .ok (.iload_n 2, 1) := by decide +kernel
theorem dX3_read_38 : decode cX3_read 38 = .ok (.if_icmp .ne 7, 3) := by decide +kernel
theorem dX3_read_41 : decode cX3_read 41 = .ok (.iload_n 3, 1) := by decide +kernel
theorem dX3_read_42 : decode cX3_read 42 = .ok (.goto 6, 3) := by decide +kernel
theorem dX3_read_45 : decode cX3_read 45 = .ok (.iload_n 3, 1) := by decide +kernel
theorem dX3_read_46 : decode cX3_read 46 = .ok (.iconst 1, 1) := by decide +kernel
theorem dX3_read_47 : decode cX3_read 47 = .ok (.iadd, 1) := by decide +kernel
theorem dX3_read_48 : decode cX3_read 48 = .ok (.istore 5, 2) := by decide +kernel
theorem dX3_read_50 : decode cX3_read 50 = .ok (.aload_n 0, 1) := by decide +kernel
theorem dX3_read_51 : decode cX3_read 51 = .ok (.getfield 9, 3) := by decide +kernel
theorem dX3_read_54 : decode cX3_read 54 = .ok (.iload 4, 2) := by decide +kernel
theorem dX3_read_56 : decode cX3_read 56 = .ok (.iaload, 1) := by decide +kernel
theorem dX3_read_57 : decode cX3_read 57 = .ok (.istore_n 3, 1) := by decide +kernel
theorem dX3_read_58 : decode cX3_read 58 = .ok (.aload_n 0, 1) := by decide +kernel
theorem dX3_read_59 : decode cX3_read 59 = .ok (.getfield 9, 3) := by decide +kernel
theorem dX3_read_62 : decode cX3_read 62 = .ok (.iload 4, 2) := by decide +kernel
theorem dX3_read_64 : decode cX3_read 64 = .ok (.iload 5, 2) := by decide +kernel
theorem dX3_read_66 : decode cX3_read 66 = .ok (.iconst 1, 1) := by decide +kernel
theorem dX3_read_67 : decode cX3_read 67 = .ok (.iload_n 3, 1) := by decide +kernel
theorem dX3_read_68 : decode cX3_read 68 = .ok (.aload_n 0, 1) := by decide +kernel
theorem dX3_read_69 : decode cX3_read 69 = .ok (.getfield 9, 3) := by decide +kernel
theorem dX3_read_72 : decode cX3_read 72 = .ok (.iload 4, 2) := by decide +kernel
theorem dX3_read_74 : decode cX3_read 74 = .ok (.iconst 1, 1) := by decide +kernel
theorem dX3_read_75 : decode cX3_read 75 = .ok (.isub, 1) := by decide +kernel
theorem dX3_read_76 : decode cX3_read 76 = .ok (.iaload, 1) := by decide +kernel
theorem dX3_read_77 : decode cX3_read 77 = .ok (.invokestatic 29, 3) := by decide +kernel
theorem dX3_read_80 : decode cX3_read 80 = .ok (.iadd, 1) := by decide +kernel
theorem dX3_read_81 : decode cX3_read 81 = .ok (.invokestatic 29, 3) := by decide +kernel
theorem dX3_read_84 : decode cX3_read 84 = .ok (.iastore, 1) := by decide +kernel
theorem dX3_read_85 : decode cX3_read 85 = .ok (.iinc 4 1, 3) := by decide +kernel
theorem dX3_read_88 : decode cX3_read 88 = .ok (.goto (-68), 3) := by decide +kernel
theorem dX3_read_91 : decode cX3_read 91 = .ok (.return_, 1) := by decide +kernel
theorem dX4_init_0 : decode cX4_init 0 = .ok (.aload_n 0, 1) := by decide +kernel
theorem dX4_init_1 : decode cX4_init 1 = .ok (.invokespecial 3, 3) := by decide +kernel
theorem dX4_init_4 : decode cX4_init 4 = .ok (.aload_n 0, 1) := by decide +kernel
theorem dX4_init_5 : decode cX4_init 5 = .ok (.bipush 61, 2) := by decide +kernel
theorem dX4_init_7 : decode cX4_init 7 = .ok (.newarray .long, 2) := by decide +kernel
theorem dX4_init_9 : decode cX4_init 9 = .ok (.putfield 9, 3) := by decide +kernel
theorem dX4_init_12 : decode cX4_init 12 = .ok (.aload_n 0, 1) := by decide +kernel
theorem dX4_init_13 : decode cX4_init 13 = .ok (.bipush 61, 2) := by decide +kernel
theorem dX4_init_15 : decode cX4_init 15 = .ok (.newarray .int, 2) := by decide +kernel
theorem dX4_init_17 : decode cX4_init 17 = .ok (.putfield 15, 3) := by decide +kernel
theorem dX4_init_20 : decode cX4_init 20 = .ok (.aload_n 0, 1) := by decide +kernel
theorem dX4_init_21 : decode cX4_init 21 = .ok (.bipush 61, 2) := by decide +kernel
theorem dX4_init_23 : decode cX4_init 23 = .ok (.newarray .int, 2) := by decide +kernel
theorem dX4_init_25 : decode cX4_init 25 = .ok (.putfield 19, 3) := by decide +kernel
theorem dX4_init_28 : decode cX4_init 28 = .ok (.return_, 1) := by decide +kernel
theorem dX4_count_0 : decode cX4_count 0 = .ok (.aload_n 0, 1) := by decide +kernel
theorem dX4_count_1 : decode cX4_count 1 = .ok (.getfield 9, 3) := by decide +kernel
theorem dX4_count_4 : decode cX4_count 4 = .ok (.aload_n 1, 1) := by decide +kernel
theorem dX4_count_5 : decode cX4_count 5 = .ok (.invokevirtual 22, 3) := by decide +kernel
theorem dX4_count_8 : decode cX4_count 8 = .ok (.lconst 1, 1) := by decide +kernel
theorem dX4_count_9 : decode cX4_count 9 = .ok (.lastore, 1) := by decide +kernel
theorem dX4_count_10 : decode cX4_count 10 = .ok (.aload_n 1, 1) := by decide +kernel
theorem dX4_count_11 : decode cX4_count 11 = .ok (.invokevirtual 22, 3) := by decide +kernel
theorem dX4_count_14 : decode cX4_count 14 = .ok (.iconst 1, 1) := by decide +kernel
theorem dX4_count_15 : decode cX4_count 15 = .ok (.isub, 1) := by decide +kernel
theorem dX4_count_16 : decode cX4_count 16 = .ok (.istore_n 3, 1) := by decide +kernel
theorem dX4_count_17 : decode cX4_count 17 = .ok (.iload_n 3, 1) := by decide +kernel
theorem dX4_count_18 : decode cX4_count 18 = .ok (.ifCond .lt 16, 3) := by decide +kernel
theorem dX4_count_21 : decode cX4_count 21 = .ok (.aload_n 0, 1) := by decide +kernel
theorem dX4_count_22 : decode cX4_count 22 = .ok (.iload_n 3, 1) := by decide +kernel
theorem dX4_count_23 : decode cX4_count 23 = .ok (.aload_n 1, 1) := by decide +kernel
theorem dX4_count_24 : decode cX4_count 24 = .ok (.aload_n 2, 1) := by decide +kernel
theorem dX4_count_25 : decode cX4_count 25 = .ok (.invokevirtual 28, 3) := by decide +kernel
theorem dX4_count_28 : decode cX4_count 28 = .ok (.iinc 3 (-1), 3) := by decide +kernel
theorem dX4_count_31 : decode cX4_count 31 = .ok (.goto (-14), 3) := by decide +kernel
theorem dX4_count_34 : decode cX4_count 34 = .ok (.aload_n 0, 1) := by decide +kernel
theorem dX4_count_35 : decode cX4_count 35 = .ok (.getfield 9, 3) := by decide +kernel
theorem dX4_count_38 : decode cX4_count 38 = .ok (.iconst 0, 1) := by decide +kernel
theorem dX4_count_39 : decode cX4_count 39 = .ok (.laload, 1) := by decide +kernel
theorem dX4_count_40 : decode cX4_count 40 = .ok (.lreturn, 1) := by decide +kernel
theorem dX4_countFrom_0 : decode cX4_countFrom 0 = .ok (.aload_n 0, 1) := by decide +kernel
theorem dX4_countFrom_1 : decode cX4_countFrom 1 = .ok (.getfield 9, 3) := by decide +kernel
theorem dX4_countFrom_4 : decode cX4_countFrom 4 = .ok (.iload_n 1, 1) := by decide +kernel
theorem dX4_countFrom_5 : decode cX4_countFrom 5 = .ok (.lconst 0, 1) := by decide +kernel
theorem dX4_countFrom_6 : decode cX4_countFrom 6 = .ok (.lastore, 1) := by decide +kernel
theorem dX4_countFrom_7 : decode cX4_countFrom 7 = .ok (.iconst 0, 1) := by decide +kernel
theorem dX4_countFrom_8 : decode cX4_countFrom 8 = .ok (.istore 4, 2) := by decide +kernel
theorem dX4_countFrom_10 : decode cX4_countFrom 10 = .ok (.iload_n 1, 1) := by decide +kernel
theorem dX4_countFrom_11 : decode cX4_countFrom 11 = .ok (.istore 5, 2) := by decide +kernel
theorem dX4_countFrom_13 : decode cX4_countFrom 13 = .ok (.iload 5, 2) := by decide +kernel
theorem dX4_countFrom_15 : decode cX4_countFrom 15 = .ok (.aload_n 2, 1) := by decide +kernel
theorem dX4_countFrom_16 : decode cX4_countFrom 16 = .ok (.invokevirtual 22, 3) := by decide +kernel
theorem dX4_countFrom_19 : decode cX4_countFrom 19 = .ok (.if_icmp .ge 56, 3) := by decide +kernel
theorem dX4_countFrom_22 : decode cX4_countFrom 22 = .ok (.iload 4, 2) := by decide +kernel
theorem dX4_countFrom_24 : decode cX4_countFrom 24 = .ok (.iconst (-1), 1) := by decide +kernel
theorem dX4_countFrom_25 : decode cX4_countFrom 25 = .ok (.if_icmp .eq 50, 3) := by decide +kernel
theorem dX4_countFrom_28 : decode cX4_countFrom 28 = .ok (.aload_n 3, 1) := by decide +kernel
theorem dX4_countFrom_29 : decode cX4_countFrom 29 = .ok (.iload 4, 2) := by decide +kernel
theorem dX4_countFrom_31 : decode cX4_countFrom 31 = .ok (.aload_n 2, 1) := by decide +kernel
theorem dX4_countFrom_32 : decode cX4_countFrom 32 = .ok (.iload 5, 2) := by decide +kernel
theorem dX4_countFrom_34 : decode cX4_countFrom 34 = .ok (.invokevirtual 34, 3) := by decide +kernel
theorem dX4_countFrom_37 : decode cX4_countFrom 37 = .ok (.invokevirtual 38, 3) := by decide +kernel
theorem dX4_countFrom_40 : decode cX4_countFrom 40 = .ok (.istore 4, 2) := by decide +kernel
theorem dX4_countFrom_42 : decode cX4_countFrom 42 = .ok (.aload_n 3, 1) := by decide +kernel
theorem dX4_countFrom_43 : decode cX4_countFrom 43 = .ok (.iload 4, 2) := by decide +kernel
theorem dX4_countFrom_45 : decode cX4_countFrom 45 = .ok (.invokevirtual 42, 3) := by decide +kernel
theorem dX4_countFrom_48 : decode cX4_countFrom 48 = .ok (.ifCond .eq 21, 3) := by decide +kernel
theorem dX4_countFrom_51 : decode cX4_countFrom 51 = .ok (.aload_n 0, 1) := by decide +kernel
theorem dX4_countFrom_52 : decode cX4_countFrom 52 = .ok (.getfield 9, 3) := by decide +kernel
theorem dX4_countFrom_55 : decode cX4_countFrom 55 = .ok (.iload_n 1, 1) := by decide +kernel
theorem dX4_countFrom_56 : decode cX4_countFrom 56 = .ok (.dup2, 1) := by decide +kernel
theorem dX4_countFrom_57 : decode cX4_countFrom 57 = .ok (.laload, 1) := by decide +kernel
theorem dX4_countFrom_58 : decode cX4_countFrom 58 = .ok (.aload_n 0, 1) := by decide +kernel
theorem dX4_countFrom_59 : decode cX4_countFrom 59 = .ok (.getfield 9, 3) := by decide +kernel
theorem dX4_countFrom_62 : decode cX4_countFrom 62 = .ok (.iload 5, 2) := by decide +kernel
theorem dX4_countFrom_64 : decode cX4_countFrom 64 = .ok (.iconst 1, 1) := by decide +kernel
theorem dX4_countFrom_65 : decode cX4_countFrom 65 = .ok (.iadd, 1) := by decide +kernel
theorem dX4_countFrom_66 : decode cX4_countFrom 66 = .ok (.laload, 1) := by decide +kernel
theorem dX4_countFrom_67 : decode cX4_countFrom 67 = .ok (.ladd, 1) := by decide +kernel
theorem dX4_countFrom_68 : decode cX4_countFrom 68 = .ok (.lastore, 1) := by decide +kernel
theorem dX4_countFrom_69 : decode cX4_countFrom 69 = .ok (.iinc 5 1, 3) := by decide +kernel
theorem dX4_countFrom_72 : decode cX4_countFrom 72 = .ok (.goto (-59), 3) := by decide +kernel
theorem dX4_countFrom_75 : decode cX4_countFrom 75 = .ok (.return_, 1) := by decide +kernel
theorem dX4_choose_0 : decode cX4_choose 0 = .ok (.aload_n 0, 1) := by decide +kernel
theorem dX4_choose_1 : decode cX4_choose 1 = .ok (.getfield 15, 3) := by decide +kernel
theorem dX4_choose_4 : decode cX4_choose 4 = .ok (.aload_n 1, 1) := by decide +kernel
theorem dX4_choose_5 : decode cX4_choose 5 = .ok (.invokevirtual 22, 3) := by decide +kernel
theorem dX4_choose_8 : decode cX4_choose 8 = .ok (.iconst 0, 1) := by decide +kernel
theorem dX4_choose_9 : decode cX4_choose 9 = .ok (.iastore, 1) := by decide +kernel
theorem dX4_choose_10 : decode cX4_choose 10 = .ok (.aload_n 1, 1) := by decide +kernel
theorem dX4_choose_11 : decode cX4_choose 11 = .ok (.invokevirtual 22, 3) := by decide +kernel
theorem dX4_choose_14 : decode cX4_choose 14 = .ok (.iconst 1, 1) := by decide +kernel
theorem dX4_choose_15 : decode cX4_choose 15 = .ok (.isub, 1) := by decide +kernel
theorem dX4_choose_16 : decode cX4_choose 16 = .ok (.istore_n 3, 1) := by decide +kernel
theorem dX4_choose_17 : decode cX4_choose 17 = .ok (.iload_n 3, 1) := by decide +kernel
theorem dX4_choose_18 : decode cX4_choose 18 = .ok (.ifCond .lt 16, 3) := by decide +kernel
theorem dX4_choose_21 : decode cX4_choose 21 = .ok (.aload_n 0, 1) := by decide +kernel
theorem dX4_choose_22 : decode cX4_choose 22 = .ok (.iload_n 3, 1) := by decide +kernel
theorem dX4_choose_23 : decode cX4_choose 23 = .ok (.aload_n 1, 1) := by decide +kernel
theorem dX4_choose_24 : decode cX4_choose 24 = .ok (.aload_n 2, 1) := by decide +kernel
theorem dX4_choose_25 : decode cX4_choose 25 = .ok (.invokevirtual 46, 3) := by decide +kernel
theorem dX4_choose_28 : decode cX4_choose 28 = .ok (.iinc 3 (-1), 3) := by decide +kernel
theorem dX4_choose_31 : decode cX4_choose 31 = .ok (.goto (-14), 3) := by decide +kernel
theorem dX4_choose_34 : decode cX4_choose 34 = .ok (.aload_n 0, 1) := by decide +kernel
theorem dX4_choose_35 : decode cX4_choose 35 = .ok (.getfield 15, 3) := by decide +kernel
theorem dX4_choose_38 : decode cX4_choose 38 = .ok (.iconst 0, 1) := by decide +kernel
theorem dX4_choose_39 : decode cX4_choose 39 = .ok (.iaload, 1) := by decide +kernel
theorem dX4_choose_40 : decode cX4_choose 40 = .ok (.ireturn, 1) := by decide +kernel
theorem dX4_chooseFrom_0 : decode cX4_chooseFrom 0 = .ok (.aload_n 0, 1) := by decide +kernel
theorem dX4_chooseFrom_1 : decode cX4_chooseFrom 1 = .ok (.getfield 15, 3) := by decide +kernel
theorem dX4_chooseFrom_4 : decode cX4_chooseFrom 4 = .ok (.iload_n 1, 1) := by decide +kernel
theorem dX4_chooseFrom_5 : decode cX4_chooseFrom 5 = .ok (.iconst (-1), 1) := by decide +kernel
theorem dX4_chooseFrom_6 : decode cX4_chooseFrom 6 = .ok (.iastore, 1) := by decide +kernel
theorem dX4_chooseFrom_7 : decode cX4_chooseFrom 7 = .ok (.iconst 0, 1) := by decide +kernel
theorem dX4_chooseFrom_8 : decode cX4_chooseFrom 8 = .ok (.istore 4, 2) := by decide +kernel
theorem dX4_chooseFrom_10 : decode cX4_chooseFrom 10 = .ok (.iload_n 1, 1) := by decide +kernel
theorem dX4_chooseFrom_11 : decode cX4_chooseFrom 11 = .ok (.istore 5, 2) := by decide +kernel
theorem dX4_chooseFrom_13 : decode cX4_chooseFrom 13 = .ok (.iload 5, 2) := by decide +kernel
theorem dX4_chooseFrom_15 : decode cX4_chooseFrom 15 = .ok (.aload_n 2, 1) := by decide +kernel
theorem dX4_chooseFrom_16 : decode cX4_chooseFrom 16 = .ok (.invokevirtual 22, 3) := by decide +kernel
theorem dX4_chooseFrom_19 : decode cX4_chooseFrom 19 = .ok (.if_icmp .ge 86, 3) := by decide +kernel
theorem dX4_chooseFrom_22 : decode cX4_chooseFrom 22 = .ok (.iload 4, 2) := by decide +kernel
theorem dX4_chooseFrom_24 : decode cX4_chooseFrom 24 = .ok (.iconst (-1), 1) := by decide +kernel
theorem dX4_chooseFrom_25 : decode cX4_chooseFrom 25 = .ok (.if_icmp .eq 80, 3) := by decide +kernel
theorem dX4_chooseFrom_28 : decode cX4_chooseFrom 28 = .ok (.aload_n 3, 1) := by decide +kernel
theorem dX4_chooseFrom_29 : decode cX4_chooseFrom 29 = .ok (.iload 4, 2) := by decide +kernel
theorem dX4_chooseFrom_31 : decode cX4_chooseFrom 31 = .ok (.aload_n 2, 1) := by decide +kernel
theorem dX4_chooseFrom_32 : decode cX4_chooseFrom 32 = .ok (.iload 5, 2) := by decide +kernel
theorem dX4_chooseFrom_34 : decode cX4_chooseFrom 34 = .ok (.invokevirtual 34, 3) := by decide +kernel
theorem dX4_chooseFrom_37 : decode cX4_chooseFrom 37 = .ok (.invokevirtual 38, 3) := by decide +kernel
theorem dX4_chooseFrom_40 : decode cX4_chooseFrom 40 = .ok (.istore 4, 2) := by decide +kernel
theorem dX4_chooseFrom_42 : decode cX4_chooseFrom 42 = .ok (.aload_n 3, 1) := by decide +kernel
theorem dX4_chooseFrom_43 : decode cX4_chooseFrom 43 = .ok (.iload 4, 2) := by decide +kernel
theorem dX4_chooseFrom_45 : decode cX4_chooseFrom 45 = .ok (.invokevirtual 42, 3) := by decide +kernel
theorem dX4_chooseFrom_48 : decode cX4_chooseFrom 48 = .ok (.ifCond .eq 51, 3) := by decide +kernel
theorem dX4_chooseFrom_51 : decode cX4_chooseFrom 51 = .ok (.aload_n 0, 1) := by decide +kernel
theorem dX4_chooseFrom_52 : decode cX4_chooseFrom 52 = .ok (.getfield 15, 3) := by decide +kernel
theorem dX4_chooseFrom_55 : decode cX4_chooseFrom 55 = .ok (.iload 5, 2) := by decide +kernel
theorem dX4_chooseFrom_57 : decode cX4_chooseFrom 57 = .ok (.iconst 1, 1) := by decide +kernel
theorem dX4_chooseFrom_58 : decode cX4_chooseFrom 58 = .ok (.iadd, 1) := by decide +kernel
theorem dX4_chooseFrom_59 : decode cX4_chooseFrom 59 = .ok (.iaload, 1) := by decide +kernel
theorem dX4_chooseFrom_60 : decode cX4_chooseFrom 60 = .ok (.aload_n 0, 1) := by decide +kernel
theorem dX4_chooseFrom_61 : decode cX4_chooseFrom 61 = .ok (.getfield 15, 3) := by decide +kernel
theorem dX4_chooseFrom_64 : decode cX4_chooseFrom 64 = .ok (.iload_n 1, 1) := by decide +kernel
theorem dX4_chooseFrom_65 : decode cX4_chooseFrom 65 = .ok (.iaload, 1) := by decide +kernel
theorem dX4_chooseFrom_66 : decode cX4_chooseFrom 66 = .ok (.invokestatic 49, 3) := by decide +kernel
theorem dX4_chooseFrom_69 : decode cX4_chooseFrom 69 = .ok (.ifCond .eq 30, 3) := by decide +kernel
theorem dX4_chooseFrom_72 : decode cX4_chooseFrom 72 = .ok (.aload_n 0, 1) := by decide +kernel
theorem dX4_chooseFrom_73 : decode cX4_chooseFrom 73 = .ok (.getfield 15, 3) := by decide +kernel
theorem dX4_chooseFrom_76 : decode cX4_chooseFrom 76 = .ok (.iload_n 1, 1) := by decide +kernel
theorem dX4_chooseFrom_77 : decode cX4_chooseFrom 77 = .ok (.aload_n 0, 1) := by decide +kernel
theorem dX4_chooseFrom_78 : decode cX4_chooseFrom 78 = .ok (.getfield 15, 3) := by decide +kernel
theorem dX4_chooseFrom_81 : decode cX4_chooseFrom 81 = .ok (.iload 5, 2) := by decide +kernel
theorem dX4_chooseFrom_83 : decode cX4_chooseFrom 83 = .ok (.iconst 1, 1) := by decide +kernel
theorem dX4_chooseFrom_84 : decode cX4_chooseFrom 84 = .ok (.iadd, 1) := by decide +kernel
theorem dX4_chooseFrom_85 : decode cX4_chooseFrom 85 = .ok (.iaload, 1) := by decide +kernel
theorem dX4_chooseFrom_86 : decode cX4_chooseFrom 86 = .ok (.iconst 1, 1) := by decide +kernel
theorem dX4_chooseFrom_87 : decode cX4_chooseFrom 87 = .ok (.iadd, 1) := by decide +kernel
theorem dX4_chooseFrom_88 : decode cX4_chooseFrom 88 = .ok (.iastore, 1) := by decide +kernel
theorem dX4_chooseFrom_89 : decode cX4_chooseFrom 89 = .ok (.aload_n 0, 1) := by decide +kernel
theorem dX4_chooseFrom_90 : decode cX4_chooseFrom 90 = .ok (.getfield 19, 3) := by decide +kernel
theorem dX4_chooseFrom_93 : decode cX4_chooseFrom 93 = .ok (.iload_n 1, 1) := by decide +kernel
theorem dX4_chooseFrom_94 : decode cX4_chooseFrom 94 = .ok (.iload 5, 2) := by decide +kernel
theorem dX4_chooseFrom_96 : decode cX4_chooseFrom 96 = .ok (.iconst 1, 1) := by decide +kernel
theorem dX4_chooseFrom_97 : decode cX4_chooseFrom 97 = .ok (.iadd, 1) := by decide +kernel
theorem dX4_chooseFrom_98 : decode cX4_chooseFrom 98 = .ok (.iastore, 1) := by decide +kernel
theorem dX4_chooseFrom_99 : decode cX4_chooseFrom 99 = .ok (.iinc 5 1, 3) := by decide +kernel
theorem dX4_chooseFrom_102 : decode cX4_chooseFrom 102 = .ok (.goto (-89), 3) := by decide +kernel
theorem dX4_chooseFrom_105 : decode cX4_chooseFrom 105 = .ok (.return_, 1) := by decide +kernel
theorem dX4_isNoWorse_0 : decode cX4_isNoWorse 0 = .ok (.iload_n 0, 1) := by decide +kernel
theorem dX4_isNoWorse_1 : decode cX4_isNoWorse 1 = .ok (.iconst (-1), 1) := by decide +kernel
theorem dX4_isNoWorse_2 : decode cX4_isNoWorse 2 = .ok (.if_icmp .eq 19, 3) := by decide +kernel
theorem dX4_isNoWorse_5 : decode cX4_isNoWorse 5 = .ok (.iload_n 1, 1) := by decide +kernel
theorem dX4_isNoWorse_6 : decode cX4_isNoWorse 6 = .ok (.iconst (-1), 1) := by decide +kernel
theorem dX4_isNoWorse_7 : decode cX4_isNoWorse 7 = .ok (.if_icmp .eq 10, 3) := by decide +kernel
theorem dX4_isNoWorse_10 : decode cX4_isNoWorse 10 = .ok (.iload_n 0, 1) := by decide +kernel
theorem dX4_isNoWorse_11 : decode cX4_isNoWorse 11 = .ok (.iconst 1, 1) := by decide +kernel
theorem dX4_isNoWorse_12 : decode cX4_isNoWorse 12 = .ok (.iadd, 1) := by decide +kernel
theorem dX4_isNoWorse_13 : decode cX4_isNoWorse 13 = .ok (.iload_n 1, 1) := by decide +kernel
theorem dX4_isNoWorse_14 : decode cX4_isNoWorse 14 = .ok (.if_icmp .gt 7, 3) := by decide +kernel
theorem dX4_isNoWorse_17 : decode cX4_isNoWorse 17 = .ok (.iconst 1, 1) := by decide +kernel
theorem dX4_isNoWorse_18 : decode cX4_isNoWorse 18 = .ok (.goto 4, 3) := by decide +kernel
theorem dX4_isNoWorse_21 : decode cX4_isNoWorse 21 = .ok (.iconst 0, 1) := by decide +kernel
theorem dX4_isNoWorse_22 : decode cX4_isNoWorse 22 = .ok (.ireturn, 1) := by decide +kernel
theorem dX4_write_0 : decode cX4_write 0 = .ok (.aload_n 2, 1) := by decide +kernel
theorem dX4_write_1 : decode cX4_write 1 = .ok (.invokevirtual 53, 3) := by decide +kernel
theorem dX4_write_4 : decode cX4_write 4 = .ok (.pop, 1) := by decide +kernel
theorem dX4_write_5 : decode cX4_write 5 = .ok (.aload_n 0, 1) := by decide +kernel
theorem dX4_write_6 : decode cX4_write 6 = .ok (.getfield 19, 3) := by decide +kernel
theorem dX4_write_9 : decode cX4_write 9 = .ok (.iconst 0, 1) := by decide +kernel
theorem dX4_write_10 : decode cX4_write 10 = .ok (.iaload, 1) := by decide +kernel
theorem dX4_write_11 : decode cX4_write 11 = .ok (.istore_n 3, 1) := by decide +kernel
theorem dX4_write_12 : decode cX4_write 12 = .ok (.iconst 0, 1) := by decide +kernel
theorem dX4_write_13 : decode cX4_write 13 = .ok (.istore 4, 2) := by decide +kernel
theorem dX4_write_15 : decode cX4_write 15 = .ok (.iload 4, 2) := by decide +kernel
theorem dX4_write_17 : decode cX4_write 17 = .ok (.aload_n 1, 1) := by decide +kernel
theorem dX4_write_18 : decode cX4_write 18 = .ok (.invokevirtual 22, 3) := by decide +kernel
theorem dX4_write_21 : decode cX4_write 21 = .ok (.if_icmp .ge 41, 3) := by decide +kernel
theorem dX4_write_24 : decode cX4_write 24 = .ok (.iload 4, 2) := by decide +kernel
theorem dX4_write_26 : decode cX4_write 26 = .ok (.iload_n 3, 1) := by decide +kernel
theorem dX4_write_27 : decode cX4_write 27 = .ok (.if_icmp .ne 18, 3) := by decide +kernel
theorem dX4_write_30 : decode cX4_write 30 = .ok (.aload_n 2, 1) := by decide +kernel
theorem dX4_write_31 : decode cX4_write 31 = .ok (.bipush 46, 2) := by decide +kernel
theorem dX4_write_33 : decode cX4_write 33 = .ok (.invokevirtual 56, 3) := by decide +kernel
theorem dX4_write_36 : decode cX4_write 36 = .ok (.pop, 1) := by decide +kernel
theorem dX4_write_37 : decode cX4_write 37 = .ok (.aload_n 0, 1) := by decide +kernel
theorem dX4_write_38 : decode cX4_write 38 = .ok (.getfield 19, 3) := by decide +kernel
theorem dX4_write_41 : decode cX4_write 41 = .ok (.iload 4, 2) := by decide +kernel
theorem dX4_write_43 : decode cX4_write 43 = .ok (.iaload, 1) := by decide +kernel
theorem dX4_write_44 : decode cX4_write 44 = .ok (.istore_n 3, 1) := by decide +kernel
theorem dX4_write_45 : decode cX4_write 45 = .ok (.aload_n 2, 1) := by decide +kernel
theorem dX4_write_46 : decode cX4_write 46 = .ok (.aload_n 1, 1) := by decide +kernel
theorem dX4_write_47 : decode cX4_write 47 = .ok (.iload 4, 2) := by decide +kernel
theorem dX4_write_49 : decode cX4_write 49 = .ok (.invokevirtual 34, 3) := by decide +kernel
theorem dX4_write_52 : decode cX4_write 52 = .ok (.invokevirtual 56, 3) := by decide +kernel
theorem dX4_write_55 : decode cX4_write 55 = .ok (.pop, 1) := by decide +kernel
theorem dX4_write_56 : decode cX4_write 56 = .ok (.iinc 4 1, 3) := by decide +kernel
theorem dX4_write_59 : decode cX4_write 59 = .ok (.goto (-44), 3) := by decide +kernel
theorem dX4_write_62 : decode cX4_write 62 = .ok (.return_, 1) := by decide +kernel
theorem dX5_init_0 : decode cX5_init 0 = .ok (.aload_n 0, 1) := by decide +kernel
theorem dX5_init_1 : decode cX5_init 1 = .ok (.invokespecial 3, 3) := by decide +kernel
theorem dX5_init_4 : decode cX5_init 4 = .ok (.aload_n 0, 1) := by decide +kernel
theorem dX5_init_5 : decode cX5_init 5 = .ok (.sipush 1688, 3) := by decide +kernel
theorem dX5_init_8 : decode cX5_init 8 = .ok (.newarray .int, 2) := by decide +kernel
theorem dX5_init_10 : decode cX5_init 10 = .ok (.putfield 9, 3) := by decide +kernel
theorem dX5_init_13 : decode cX5_init 13 = .ok (.aload_n 0, 1) := by decide +kernel
theorem dX5_init_14 : decode cX5_init 14 = .ok (.sipush 211, 3) := by decide +kernel
theorem dX5_init_17 : decode cX5_init 17 = .ok (.newarray .boolean, 2) := by decide +kernel
theorem dX5_init_19 : decode cX5_init 19 = .ok (.putfield 15, 3) := by decide +kernel
theorem dX5_init_22 : decode cX5_init 22 = .ok (.aload_n 0, 1) := by decide +kernel
theorem dX5_init_23 : decode cX5_init 23 = .ok (.sipush 211, 3) := by decide +kernel
theorem dX5_init_26 : decode cX5_init 26 = .ok (.newarray .int, 2) := by decide +kernel
theorem dX5_init_28 : decode cX5_init 28 = .ok (.putfield 19, 3) := by decide +kernel
theorem dX5_init_31 : decode cX5_init 31 = .ok (.aload_n 0, 1) := by decide +kernel
theorem dX5_init_32 : decode cX5_init 32 = .ok (.sipush 211, 3) := by decide +kernel
theorem dX5_init_35 : decode cX5_init 35 = .ok (.newarray .int, 2) := by decide +kernel
theorem dX5_init_37 : decode cX5_init 37 = .ok (.putfield 22, 3) := by decide +kernel
theorem dX5_init_40 : decode cX5_init 40 = .ok (.aload_n 0, 1) := by decide +kernel
theorem dX5_init_41 : decode cX5_init 41 = .ok (.sipush 211, 3) := by decide +kernel
theorem dX5_init_44 : decode cX5_init 44 = .ok (.newarray .int, 2) := by decide +kernel
theorem dX5_init_46 : decode cX5_init 46 = .ok (.putfield 25, 3) := by decide +kernel
theorem dX5_init_49 : decode cX5_init 49 = .ok (.aload_n 0, 1) := by decide +kernel
theorem dX5_init_50 : decode cX5_init 50 = .ok (.sipush 211, 3) := by decide +kernel
theorem dX5_init_53 : decode cX5_init 53 = .ok (.newarray .int, 2) := by decide +kernel
theorem dX5_init_55 : decode cX5_init 55 = .ok (.putfield 28, 3) := by decide +kernel
theorem dX5_init_58 : decode cX5_init 58 = .ok (.aload_n 0, 1) := by decide +kernel
theorem dX5_init_59 : decode cX5_init 59 = .ok (.sipush 211, 3) := by decide +kernel
theorem dX5_init_62 : decode cX5_init 62 = .ok (.newarray .int, 2) := by decide +kernel
theorem dX5_init_64 : decode cX5_init 64 = .ok (.putfield 31, 3) := by decide +kernel
theorem dX5_init_67 : decode cX5_init 67 = .ok (.aload_n 0, 1) := by decide +kernel
theorem dX5_init_68 : decode cX5_init 68 = .ok (.getfield 9, 3) := by decide +kernel
theorem dX5_init_71 : decode cX5_init 71 = .ok (.iconst (-1), 1) := by decide +kernel
theorem dX5_init_72 : decode cX5_init 72 = .ok (.invokestatic 34, 3) := by decide +kernel
theorem dX5_init_75 : decode cX5_init 75 = .ok (.aload_n 0, 1) := by decide +kernel
theorem dX5_init_76 : decode cX5_init 76 = .ok (.getfield 28, 3) := by decide +kernel
theorem dX5_init_79 : decode cX5_init 79 = .ok (.iconst (-1), 1) := by decide +kernel
theorem dX5_init_80 : decode cX5_init 80 = .ok (.invokestatic 34, 3) := by decide +kernel
theorem dX5_init_83 : decode cX5_init 83 = .ok (.return_, 1) := by decide +kernel
theorem dX5_held_0 : decode cX5_held 0 = .ok (.aload_n 0, 1) := by decide +kernel
theorem dX5_held_1 : decode cX5_held 1 = .ok (.getfield 19, 3) := by decide +kernel
theorem dX5_held_4 : decode cX5_held 4 = .ok (.iconst 0, 1) := by decide +kernel
theorem dX5_held_5 : decode cX5_held 5 = .ok (.iaload, 1) := by decide +kernel
theorem dX5_held_6 : decode cX5_held 6 = .ok (.ireturn, 1) := by decide +kernel
theorem dX5_heldFrom_0 : decode cX5_heldFrom 0 = .ok (.aload_n 0, 1) := by decide +kernel
theorem dX5_heldFrom_1 : decode cX5_heldFrom 1 = .ok (.getfield 19, 3) := by decide +kernel
theorem dX5_heldFrom_4 : decode cX5_heldFrom 4 = .ok (.iload_n 1, 1) := by decide +kernel
theorem dX5_heldFrom_5 : decode cX5_heldFrom 5 = .ok (.iaload, 1) := by decide +kernel
theorem dX5_heldFrom_6 : decode cX5_heldFrom 6 = .ok (.ireturn, 1) := by decide +kernel
theorem dX5_isHeld_0 : decode cX5_isHeld 0 = .ok (.iload_n 1, 1) := by decide +kernel
theorem dX5_isHeld_1 : decode cX5_isHeld 1 = .ok (.iconst (-1), 1) := by decide +kernel
theorem dX5_isHeld_2 : decode cX5_isHeld 2 = .ok (.if_icmp .eq 16, 3) := by decide +kernel
theorem dX5_isHeld_5 : decode cX5_isHeld 5 = .ok (.aload_n 0, 1) := by decide +kernel
theorem dX5_isHeld_6 : decode cX5_isHeld 6 = .ok (.getfield 15, 3) := by decide +kernel
theorem dX5_isHeld_9 : decode cX5_isHeld 9 = .ok (.iload_n 1, 1) := by decide +kernel
theorem dX5_isHeld_10 : decode cX5_isHeld 10 = .ok (.baload, 1) := by decide +kernel
theorem dX5_isHeld_11 : decode cX5_isHeld 11 = .ok (.ifCond .eq 7, 3) := by decide +kernel
theorem dX5_isHeld_14 : decode cX5_isHeld 14 = .ok (.iconst 1, 1) := by decide +kernel
theorem dX5_isHeld_15 : decode cX5_isHeld 15 = .ok (.goto 4, 3) := by decide +kernel
theorem dX5_isHeld_18 : decode cX5_isHeld 18 = .ok (.iconst 0, 1) := by decide +kernel
theorem dX5_isHeld_19 : decode cX5_isHeld 19 = .ok (.ireturn, 1) := by decide +kernel
theorem dX5_numberOf_0 : decode cX5_numberOf 0 = .ok (.aload_n 0, 1) := by decide +kernel
theorem dX5_numberOf_1 : decode cX5_numberOf 1 = .ok (.getfield 22, 3) := by decide +kernel
theorem dX5_numberOf_4 : decode cX5_numberOf 4 = .ok (.iload_n 1, 1) := by decide +kernel
theorem dX5_numberOf_5 : decode cX5_numberOf 5 = .ok (.iaload, 1) := by decide +kernel
theorem dX5_numberOf_6 : decode cX5_numberOf 6 = .ok (.ireturn, 1) := by decide +kernel
theorem dX5_shorterWord_0 : decode cX5_shorterWord 0 = .ok (.aload_n 0, 1) := by decide +kernel
theorem dX5_shorterWord_1 : decode cX5_shorterWord 1 = .ok (.getfield 28, 3) := by decide +kernel
theorem dX5_shorterWord_4 : decode cX5_shorterWord 4 = .ok (.iload_n 1, 1) := by decide +kernel
theorem dX5_shorterWord_5 : decode cX5_shorterWord 5 = .ok (.iaload, 1) := by decide +kernel
theorem dX5_shorterWord_6 : decode cX5_shorterWord 6 = .ok (.ireturn, 1) := by decide +kernel
theorem dX5_child_0 : decode cX5_child 0 = .ok (.aload_n 0, 1) := by decide +kernel
theorem dX5_child_1 : decode cX5_child 1 = .ok (.getfield 9, 3) := by decide +kernel
theorem dX5_child_4 : decode cX5_child 4 = .ok (.iload_n 1, 1) := by decide +kernel
theorem dX5_child_5 : decode cX5_child 5 = .ok (.bipush 8, 2) := by decide +kernel
theorem dX5_child_7 : decode cX5_child 7 = .ok (.imul, 1) := by decide +kernel
theorem dX5_child_8 : decode cX5_child 8 = .ok (.iload_n 2, 1) := by decide +kernel
theorem dX5_child_9 : decode cX5_child 9 = .ok (.iadd, 1) := by decide +kernel
theorem dX5_child_10 : decode cX5_child 10 = .ok (.iaload, 1) := by decide +kernel
theorem dX5_child_11 : decode cX5_child 11 = .ok (.ireturn, 1) := by decide +kernel
theorem dX5_step_0 : decode cX5_step 0 = .ok (.iload_n 2, 1) := by decide +kernel
theorem dX5_step_1 : decode cX5_step 1 = .ok (.invokestatic 40, 3) := by decide +kernel
theorem dX5_step_4 : decode cX5_step 4 = .ok (.istore_n 3, 1) := by decide +kernel
theorem dX5_step_5 : decode cX5_step 5 = .ok (.iload_n 1, 1) := by decide +kernel
theorem dX5_step_6 : decode cX5_step 6 = .ok (.iconst (-1), 1) := by decide +kernel
theorem dX5_step_7 : decode cX5_step 7 = .ok (.if_icmp .eq 8, 3) := by decide +kernel
theorem dX5_step_10 : decode cX5_step 10 = .ok (.iload_n 3, 1) := by decide +kernel
theorem dX5_step_11 : decode cX5_step 11 = .ok (.iconst (-1), 1) := by decide +kernel
theorem dX5_step_12 : decode cX5_step 12 = .ok (.if_icmp .ne 7, 3) := by decide +kernel
theorem dX5_step_15 : decode cX5_step 15 = .ok (.iconst (-1), 1) := by decide +kernel
theorem dX5_step_16 : decode cX5_step 16 = .ok (.goto 9, 3) := by decide +kernel
theorem dX5_step_19 : decode cX5_step 19 = .ok (.aload_n 0, 1) := by decide +kernel
theorem dX5_step_20 : decode cX5_step 20 = .ok (.iload_n 1, 1) := by decide +kernel
theorem dX5_step_21 : decode cX5_step 21 = .ok (.iload_n 3, 1) := by decide +kernel
theorem dX5_step_22 : decode cX5_step 22 = .ok (.invokevirtual 44, 3) := by decide +kernel
theorem dX5_step_25 : decode cX5_step 25 = .ok (.ireturn, 1) := by decide +kernel
theorem dX5_find_0 : decode cX5_find 0 = .ok (.iconst 0, 1) := by decide +kernel
theorem dX5_find_1 : decode cX5_find 1 = .ok (.istore_n 2, 1) := by decide +kernel
theorem dX5_find_2 : decode cX5_find 2 = .ok (.iconst 0, 1) := by decide +kernel
theorem dX5_find_3 : decode cX5_find 3 = .ok (.istore_n 3, 1) := by decide +kernel
theorem dX5_find_4 : decode cX5_find 4 = .ok (.iload_n 3, 1) := by decide +kernel
theorem dX5_find_5 : decode cX5_find 5 = .ok (.aload_n 1, 1) := by decide +kernel
theorem dX5_find_6 : decode cX5_find 6 = .ok (.invokevirtual 48, 3) := by decide +kernel
theorem dX5_find_9 : decode cX5_find 9 = .ok (.if_icmp .ge 25, 3) := by decide +kernel
theorem dX5_find_12 : decode cX5_find 12 = .ok (.iload_n 2, 1) := by decide +kernel
theorem dX5_find_13 : decode cX5_find 13 = .ok (.iconst (-1), 1) := by decide +kernel
theorem dX5_find_14 : decode cX5_find 14 = .ok (.if_icmp .eq 20, 3) := by decide +kernel
theorem dX5_find_17 : decode cX5_find 17 = .ok (.aload_n 0, 1) := by decide +kernel
theorem dX5_find_18 : decode cX5_find 18 = .ok (.iload_n 2, 1) := by decide +kernel
theorem dX5_find_19 : decode cX5_find 19 = .ok (.aload_n 1, 1) := by decide +kernel
theorem dX5_find_20 : decode cX5_find 20 = .ok (.iload_n 3, 1) := by decide +kernel
theorem dX5_find_21 : decode cX5_find 21 = .ok (.invokevirtual 54, 3) := by decide +kernel
theorem dX5_find_24 : decode cX5_find 24 = .ok (.invokevirtual 58, 3) := by decide +kernel
theorem dX5_find_27 : decode cX5_find 27 = .ok (.istore_n 2, 1) := by decide +kernel
theorem dX5_find_28 : decode cX5_find 28 = .ok (.iinc 3 1, 3) := by decide +kernel
theorem dX5_find_31 : decode cX5_find 31 = .ok (.goto (-27), 3) := by decide +kernel
theorem dX5_find_34 : decode cX5_find 34 = .ok (.iload_n 2, 1) := by decide +kernel
theorem dX5_find_35 : decode cX5_find 35 = .ok (.ireturn, 1) := by decide +kernel
theorem dX5_trace_0 : decode cX5_trace 0 = .ok (.iconst 0, 1) := by decide +kernel
theorem dX5_trace_1 : decode cX5_trace 1 = .ok (.istore_n 3, 1) := by decide +kernel
theorem dX5_trace_2 : decode cX5_trace 2 = .ok (.iconst 0, 1) := by decide +kernel
theorem dX5_trace_3 : decode cX5_trace 3 = .ok (.istore 4, 2) := by decide +kernel
theorem dX5_trace_5 : decode cX5_trace 5 = .ok (.iconst 0, 1) := by decide +kernel
theorem dX5_trace_6 : decode cX5_trace 6 = .ok (.istore 5, 2) := by decide +kernel
theorem dX5_trace_8 : decode cX5_trace 8 = .ok (.iload 5, 2) := by decide +kernel
theorem dX5_trace_10 : decode cX5_trace 10 = .ok (.aload_n 2, 1) := by decide +kernel
theorem dX5_trace_11 : decode cX5_trace 11 = .ok (.arraylength, 1) := by decide +kernel
theorem dX5_trace_12 : decode cX5_trace 12 = .ok (.if_icmp .ge 51, 3) := by decide +kernel
theorem dX5_trace_15 : decode cX5_trace 15 = .ok (.iload 4, 2) := by decide +kernel
theorem dX5_trace_17 : decode cX5_trace 17 = .ok (.iconst (-1), 1) := by decide +kernel
theorem dX5_trace_18 : decode cX5_trace 18 = .ok (.if_icmp .eq 45, 3) := by decide +kernel
theorem dX5_trace_21 : decode cX5_trace 21 = .ok (.aload_n 2, 1) := by decide +kernel
theorem dX5_trace_22 : decode cX5_trace 22 = .ok (.iload 5, 2) := by decide +kernel
theorem dX5_trace_24 : decode cX5_trace 24 = .ok (.iload 4, 2) := by decide +kernel
theorem dX5_trace_26 : decode cX5_trace 26 = .ok (.iastore, 1) := by decide +kernel
theorem dX5_trace_27 : decode cX5_trace 27 = .ok (.iinc 3 1, 3) := by decide +kernel
theorem dX5_trace_30 : decode cX5_trace 30 = .ok (.iload 5, 2) := by decide +kernel
theorem dX5_trace_32 : decode cX5_trace 32 = .ok (.aload_n 1, 1) := by decide +kernel
theorem dX5_trace_33 : decode cX5_trace 33 = .ok (.invokevirtual 48, 3) := by decide +kernel
theorem dX5_trace_36 : decode cX5_trace 36 = .ok (.if_icmp .ge 18, 3) := by decide +kernel
theorem dX5_trace_39 : decode cX5_trace 39 = .ok (.aload_n 0, 1) := by decide +kernel
theorem dX5_trace_40 : decode cX5_trace 40 = .ok (.iload 4, 2) := by decide +kernel
theorem dX5_trace_42 : decode cX5_trace 42 = .ok (.aload_n 1, 1) := by decide +kernel
theorem dX5_trace_43 : decode cX5_trace 43 = .ok (.iload 5, 2) := by decide +kernel
theorem dX5_trace_45 : decode cX5_trace 45 = .ok (.invokevirtual 54, 3) := by decide +kernel
theorem dX5_trace_48 : decode cX5_trace 48 = .ok (.invokevirtual 58, 3) := by decide +kernel
theorem dX5_trace_51 : decode cX5_trace 51 = .ok (.goto 4, 3) := by decide +kernel
theorem dX5_trace_54 : decode cX5_trace 54 = .ok (.iconst (-1), 1) := by decide +kernel
theorem dX5_trace_55 : decode cX5_trace 55 = .ok (.istore 4, 2) := by decide +kernel
theorem dX5_trace_57 : decode cX5_trace 57 = .ok (.iinc 5 1, 3) := by decide +kernel
theorem dX5_trace_60 : decode cX5_trace 60 = .ok (.goto (-52), 3) := by decide +kernel
theorem dX5_trace_63 : decode cX5_trace 63 = .ok (.iload_n 3, 1) := by decide +kernel
theorem dX5_trace_64 : decode cX5_trace 64 = .ok (.ireturn, 1) := by decide +kernel
theorem dX5_grow_0 : decode cX5_grow 0 = .ok (.iconst 0, 1) := by decide +kernel
theorem dX5_grow_1 : decode cX5_grow 1 = .ok (.istore_n 2, 1) := by decide +kernel
theorem dX5_grow_2 : decode cX5_grow 2 = .ok (.aload_n 0, 1) := by decide +kernel
theorem dX5_grow_3 : decode cX5_grow 3 = .ok (.getfield 19, 3) := by decide +kernel
theorem dX5_grow_6 : decode cX5_grow 6 = .ok (.iconst 0, 1) := by decide +kernel
theorem dX5_grow_7 : decode cX5_grow 7 = .ok (.dup2, 1) := by decide +kernel
theorem dX5_grow_8 : decode cX5_grow 8 = .ok (.iaload, 1) := by decide +kernel
theorem dX5_grow_9 : decode cX5_grow 9 = .ok (.iconst 1, 1) := by decide +kernel
theorem dX5_grow_10 : decode cX5_grow 10 = .ok (.iadd, 1) := by decide +kernel
theorem dX5_grow_11 : decode cX5_grow 11 = .ok (.iastore, 1) := by decide +kernel
theorem dX5_grow_12 : decode cX5_grow 12 = .ok (.iconst 0, 1) := by decide +kernel
theorem dX5_grow_13 : decode cX5_grow 13 = .ok (.istore_n 3, 1) := by decide +kernel
theorem dX5_grow_14 : decode cX5_grow 14 = .ok (.iload_n 3, 1) := by decide +kernel
theorem dX5_grow_15 : decode cX5_grow 15 = .ok (.aload_n 1, 1) := by decide +kernel
theorem dX5_grow_16 : decode cX5_grow 16 = .ok (.invokevirtual 48, 3) := by decide +kernel
theorem dX5_grow_19 : decode cX5_grow 19 = .ok (.if_icmp .ge 64, 3) := by decide +kernel
theorem dX5_grow_22 : decode cX5_grow 22 = .ok (.iload_n 2, 1) := by decide +kernel
theorem dX5_grow_23 : decode cX5_grow 23 = .ok (.bipush 8, 2) := by decide +kernel
theorem dX5_grow_25 : decode cX5_grow 25 = .ok (.imul, 1) := by decide +kernel
theorem dX5_grow_26 : decode cX5_grow 26 = .ok (.aload_n 1, 1) := by decide +kernel
theorem dX5_grow_27 : decode cX5_grow 27 = .ok (.iload_n 3, 1) := by decide +kernel
theorem dX5_grow_28 : decode cX5_grow 28 = .ok (.invokevirtual 54, 3) := by decide +kernel
theorem dX5_grow_31 : decode cX5_grow 31 = .ok (.invokestatic 40, 3) := by decide +kernel
theorem dX5_grow_34 : decode cX5_grow 34 = .ok (.iadd, 1) := by decide +kernel
theorem dX5_grow_35 : decode cX5_grow 35 = .ok (.istore 4, 2) := by decide +kernel
theorem dX5_grow_37 : decode cX5_grow 37 = .ok (.aload_n 0, 1) := by decide +kernel
theorem dX5_grow_38 : decode cX5_grow 38 = .ok (.getfield 9, 3) := by decide +kernel
theorem dX5_grow_41 : decode cX5_grow 41 = .ok (.iload 4, 2) := by decide +kernel
theorem dX5_grow_43 : decode cX5_grow 43 = .ok (.iaload, 1) := by decide +kernel
theorem dX5_grow_44 : decode cX5_grow 44 = .ok (.iconst (-1), 1) := by decide +kernel
theorem dX5_grow_45 : decode cX5_grow 45 = .ok (.if_icmp .ne 14, 3) := by decide +kernel
theorem dX5_grow_48 : decode cX5_grow 48 = .ok (.aload_n 0, 1) := by decide +kernel
theorem dX5_grow_49 : decode cX5_grow 49 = .ok (.getfield 9, 3) := by decide +kernel
theorem dX5_grow_52 : decode cX5_grow 52 = .ok (.iload 4, 2) := by decide +kernel
theorem dX5_grow_54 : decode cX5_grow 54 = .ok (.aload_n 0, 1) := by decide +kernel
theorem dX5_grow_55 : decode cX5_grow 55 = .ok (.invokevirtual 62, 3) := by decide +kernel
theorem dX5_grow_58 : decode cX5_grow 58 = .ok (.iastore, 1) := by decide +kernel
theorem dX5_grow_59 : decode cX5_grow 59 = .ok (.aload_n 0, 1) := by decide +kernel
theorem dX5_grow_60 : decode cX5_grow 60 = .ok (.getfield 9, 3) := by decide +kernel
theorem dX5_grow_63 : decode cX5_grow 63 = .ok (.iload 4, 2) := by decide +kernel
theorem dX5_grow_65 : decode cX5_grow 65 = .ok (.iaload, 1) := by decide +kernel
theorem dX5_grow_66 : decode cX5_grow 66 = .ok (.istore_n 2, 1) := by decide +kernel
theorem dX5_grow_67 : decode cX5_grow 67 = .ok (.aload_n 0, 1) := by decide +kernel
theorem dX5_grow_68 : decode cX5_grow 68 = .ok (.getfield 19, 3) := by decide +kernel
theorem dX5_grow_71 : decode cX5_grow 71 = .ok (.iload_n 2, 1) := by decide +kernel
theorem dX5_grow_72 : decode cX5_grow 72 = .ok (.dup2, 1) := by decide +kernel
theorem dX5_grow_73 : decode cX5_grow 73 = .ok (.iaload, 1) := by decide +kernel
theorem dX5_grow_74 : decode cX5_grow 74 = .ok (.iconst 1, 1) := by decide +kernel
theorem dX5_grow_75 : decode cX5_grow 75 = .ok (.iadd, 1) := by decide +kernel
theorem dX5_grow_76 : decode cX5_grow 76 = .ok (.iastore, 1) := by decide +kernel
theorem dX5_grow_77 : decode cX5_grow 77 = .ok (.iinc 3 1, 3) := by decide +kernel
theorem dX5_grow_80 : decode cX5_grow 80 = .ok (.goto (-66), 3) := by decide +kernel
theorem dX5_grow_83 : decode cX5_grow 83 = .ok (.aload_n 0, 1) := by decide +kernel
theorem dX5_grow_84 : decode cX5_grow 84 = .ok (.getfield 15, 3) := by decide +kernel
theorem dX5_grow_87 : decode cX5_grow 87 = .ok (.iload_n 2, 1) := by decide +kernel
theorem dX5_grow_88 : decode cX5_grow 88 = .ok (.iconst 1, 1) := by decide +kernel
theorem dX5_grow_89 : decode cX5_grow 89 = .ok (.bastore, 1) := by decide +kernel
theorem dX5_grow_90 : decode cX5_grow 90 = .ok (.return_, 1) := by decide +kernel
theorem dX5_cut_0 : decode cX5_cut 0 = .ok (.iconst 0, 1) := by decide +kernel
theorem dX5_cut_1 : decode cX5_cut 1 = .ok (.istore_n 2, 1) := by decide +kernel
theorem dX5_cut_2 : decode cX5_cut 2 = .ok (.aload_n 0, 1) := by decide +kernel
theorem dX5_cut_3 : decode cX5_cut 3 = .ok (.getfield 19, 3) := by decide +kernel
theorem dX5_cut_6 : decode cX5_cut 6 = .ok (.iconst 0, 1) := by decide +kernel
theorem dX5_cut_7 : decode cX5_cut 7 = .ok (.dup2, 1) := by decide +kernel
theorem dX5_cut_8 : decode cX5_cut 8 = .ok (.iaload, 1) := by decide +kernel
theorem dX5_cut_9 : decode cX5_cut 9 = .ok (.iconst 1, 1) := by decide +kernel
theorem dX5_cut_10 : decode cX5_cut 10 = .ok (.isub, 1) := by decide +kernel
theorem dX5_cut_11 : decode cX5_cut 11 = .ok (.iastore, 1) := by decide +kernel
theorem dX5_cut_12 : decode cX5_cut 12 = .ok (.iconst 0, 1) := by decide +kernel
theorem dX5_cut_13 : decode cX5_cut 13 = .ok (.istore_n 3, 1) := by decide +kernel
theorem dX5_cut_14 : decode cX5_cut 14 = .ok (.iload_n 3, 1) := by decide +kernel
theorem dX5_cut_15 : decode cX5_cut 15 = .ok (.aload_n 1, 1) := by decide +kernel
theorem dX5_cut_16 : decode cX5_cut 16 = .ok (.invokevirtual 48, 3) := by decide +kernel
theorem dX5_cut_19 : decode cX5_cut 19 = .ok (.if_icmp .ge 59, 3) := by decide +kernel
theorem dX5_cut_22 : decode cX5_cut 22 = .ok (.iload_n 2, 1) := by decide +kernel
theorem dX5_cut_23 : decode cX5_cut 23 = .ok (.bipush 8, 2) := by decide +kernel
theorem dX5_cut_25 : decode cX5_cut 25 = .ok (.imul, 1) := by decide +kernel
theorem dX5_cut_26 : decode cX5_cut 26 = .ok (.aload_n 1, 1) := by decide +kernel
theorem dX5_cut_27 : decode cX5_cut 27 = .ok (.iload_n 3, 1) := by decide +kernel
theorem dX5_cut_28 : decode cX5_cut 28 = .ok (.invokevirtual 54, 3) := by decide +kernel
theorem dX5_cut_31 : decode cX5_cut 31 = .ok (.invokestatic 40, 3) := by decide +kernel
theorem dX5_cut_34 : decode cX5_cut 34 = .ok (.iadd, 1) := by decide +kernel
theorem dX5_cut_35 : decode cX5_cut 35 = .ok (.istore 4, 2) := by decide +kernel
theorem dX5_cut_37 : decode cX5_cut 37 = .ok (.aload_n 0, 1) := by decide +kernel
theorem dX5_cut_38 : decode cX5_cut 38 = .ok (.getfield 9, 3) := by decide +kernel
theorem dX5_cut_41 : decode cX5_cut 41 = .ok (.iload 4, 2) := by decide +kernel
theorem dX5_cut_43 : decode cX5_cut 43 = .ok (.iaload, 1) := by decide +kernel
theorem dX5_cut_44 : decode cX5_cut 44 = .ok (.istore_n 2, 1) := by decide +kernel
theorem dX5_cut_45 : decode cX5_cut 45 = .ok (.aload_n 0, 1) := by decide +kernel
theorem dX5_cut_46 : decode cX5_cut 46 = .ok (.getfield 19, 3) := by decide +kernel
theorem dX5_cut_49 : decode cX5_cut 49 = .ok (.iload_n 2, 1) := by decide +kernel
theorem dX5_cut_50 : decode cX5_cut 50 = .ok (.dup2, 1) := by decide +kernel
theorem dX5_cut_51 : decode cX5_cut 51 = .ok (.iaload, 1) := by decide +kernel
theorem dX5_cut_52 : decode cX5_cut 52 = .ok (.iconst 1, 1) := by decide +kernel
theorem dX5_cut_53 : decode cX5_cut 53 = .ok (.isub, 1) := by decide +kernel
theorem dX5_cut_54 : decode cX5_cut 54 = .ok (.iastore, 1) := by decide +kernel
theorem dX5_cut_55 : decode cX5_cut 55 = .ok (.aload_n 0, 1) := by decide +kernel
theorem dX5_cut_56 : decode cX5_cut 56 = .ok (.getfield 19, 3) := by decide +kernel
theorem dX5_cut_59 : decode cX5_cut 59 = .ok (.iload_n 2, 1) := by decide +kernel
theorem dX5_cut_60 : decode cX5_cut 60 = .ok (.iaload, 1) := by decide +kernel
theorem dX5_cut_61 : decode cX5_cut 61 = .ok (.ifCond .ne 11, 3) := by decide +kernel
theorem dX5_cut_64 : decode cX5_cut 64 = .ok (.aload_n 0, 1) := by decide +kernel
theorem dX5_cut_65 : decode cX5_cut 65 = .ok (.getfield 9, 3) := by decide +kernel
theorem dX5_cut_68 : decode cX5_cut 68 = .ok (.iload 4, 2) := by decide +kernel
theorem dX5_cut_70 : decode cX5_cut 70 = .ok (.iconst (-1), 1) := by decide +kernel
theorem dX5_cut_71 : decode cX5_cut 71 = .ok (.iastore, 1) := by decide +kernel
theorem dX5_cut_72 : decode cX5_cut 72 = .ok (.iinc 3 1, 3) := by decide +kernel
theorem dX5_cut_75 : decode cX5_cut 75 = .ok (.goto (-61), 3) := by decide +kernel
theorem dX5_cut_78 : decode cX5_cut 78 = .ok (.aload_n 0, 1) := by decide +kernel
theorem dX5_cut_79 : decode cX5_cut 79 = .ok (.getfield 15, 3) := by decide +kernel
theorem dX5_cut_82 : decode cX5_cut 82 = .ok (.iload_n 2, 1) := by decide +kernel
theorem dX5_cut_83 : decode cX5_cut 83 = .ok (.iconst 0, 1) := by decide +kernel
theorem dX5_cut_84 : decode cX5_cut 84 = .ok (.bastore, 1) := by decide +kernel
theorem dX5_cut_85 : decode cX5_cut 85 = .ok (.return_, 1) := by decide +kernel
theorem dX5_freeCell_0 : decode cX5_freeCell 0 = .ok (.iconst 1, 1) := by decide +kernel
theorem dX5_freeCell_1 : decode cX5_freeCell 1 = .ok (.istore_n 1, 1) := by decide +kernel
theorem dX5_freeCell_2 : decode cX5_freeCell 2 = .ok (.iload_n 1, 1) := by decide +kernel
theorem dX5_freeCell_3 : decode cX5_freeCell 3 = .ok (.sipush 210, 3) := by decide +kernel
theorem dX5_freeCell_6 : decode cX5_freeCell 6 = .ok (.if_icmp .ge 18, 3) := by decide +kernel
theorem dX5_freeCell_9 : decode cX5_freeCell 9 = .ok (.aload_n 0, 1) := by decide +kernel
theorem dX5_freeCell_10 : decode cX5_freeCell 10 = .ok (.getfield 19, 3) := by decide +kernel
theorem dX5_freeCell_13 : decode cX5_freeCell 13 = .ok (.iload_n 1, 1) := by decide +kernel
theorem dX5_freeCell_14 : decode cX5_freeCell 14 = .ok (.iaload, 1) := by decide +kernel
theorem dX5_freeCell_15 : decode cX5_freeCell 15 = .ok (.ifCond .eq 9, 3) := by decide +kernel
theorem dX5_freeCell_18 : decode cX5_freeCell 18 = .ok (.iinc 1 1, 3) := by decide +kernel
theorem dX5_freeCell_21 : decode cX5_freeCell 21 = .ok (.goto (-19), 3) := by decide +kernel
theorem dX5_freeCell_24 : decode cX5_freeCell 24 = .ok (.iload_n 1, 1) := by decide +kernel
theorem dX5_freeCell_25 : decode cX5_freeCell 25 = .ok (.ireturn, 1) := by decide +kernel
theorem dX5_relink_0 : decode cX5_relink 0 = .ok (.iconst 1, 1) := by decide +kernel
theorem dX5_relink_1 : decode cX5_relink 1 = .ok (.istore_n 1, 1) := by decide +kernel
theorem dX5_relink_2 : decode cX5_relink 2 = .ok (.aload_n 0, 1) := by decide +kernel
theorem dX5_relink_3 : decode cX5_relink 3 = .ok (.getfield 31, 3) := by decide +kernel
theorem dX5_relink_6 : decode cX5_relink 6 = .ok (.iconst 0, 1) := by decide +kernel
theorem dX5_relink_7 : decode cX5_relink 7 = .ok (.iconst 0, 1) := by decide +kernel
theorem dX5_relink_8 : decode cX5_relink 8 = .ok (.iastore, 1) := by decide +kernel
theorem dX5_relink_9 : decode cX5_relink 9 = .ok (.iconst 0, 1) := by decide +kernel
theorem dX5_relink_10 : decode cX5_relink 10 = .ok (.istore_n 2, 1) := by decide +kernel
theorem dX5_relink_11 : decode cX5_relink 11 = .ok (.iload_n 2, 1) := by decide +kernel
theorem dX5_relink_12 : decode cX5_relink 12 = .ok (.iload_n 1, 1) := by decide +kernel
theorem dX5_relink_13 : decode cX5_relink 13 = .ok (.if_icmp .ge 28, 3) := by decide +kernel
theorem dX5_relink_16 : decode cX5_relink 16 = .ok (.iload_n 2, 1) := by decide +kernel
theorem dX5_relink_17 : decode cX5_relink 17 = .ok (.sipush 211, 3) := by decide +kernel
theorem dX5_relink_20 : decode cX5_relink 20 = .ok (.if_icmp .ge 21, 3) := by decide +kernel
theorem dX5_relink_23 : decode cX5_relink 23 = .ok (.aload_n 0, 1) := by decide +kernel
theorem dX5_relink_24 : decode cX5_relink 24 = .ok (.aload_n 0, 1) := by decide +kernel
theorem dX5_relink_25 : decode cX5_relink 25 = .ok (.getfield 31, 3) := by decide +kernel
theorem dX5_relink_28 : decode cX5_relink 28 = .ok (.iload_n 2, 1) := by decide +kernel
theorem dX5_relink_29 : decode cX5_relink 29 = .ok (.iaload, 1) := by decide +kernel
theorem dX5_relink_30 : decode cX5_relink 30 = .ok (.iload_n 1, 1) := by decide +kernel
theorem dX5_relink_31 : decode cX5_relink 31 = .ok (.invokevirtual 65, 3) := by decide +kernel
theorem dX5_relink_34 : decode cX5_relink 34 = .ok (.istore_n 1, 1) := by decide +kernel
theorem dX5_relink_35 : decode cX5_relink 35 = .ok (.iinc 2 1, 3) := by decide +kernel
theorem dX5_relink_38 : decode cX5_relink 38 = .ok (.goto (-27), 3) := by decide +kernel
theorem dX5_relink_41 : decode cX5_relink 41 = .ok (.return_, 1) := by decide +kernel
theorem dX5_linkChildren_0 : decode cX5_linkChildren 0 = .ok (.aload_n 0, 1) := by decide +kernel
theorem dX5_linkChildren_1 : decode cX5_linkChildren 1 = .ok (.getfield 22, 3) := by decide +kernel
theorem dX5_linkChildren_4 : decode cX5_linkChildren 4 = .ok (.iload_n 1, 1) := by decide +kernel
theorem dX5_linkChildren_5 : decode cX5_linkChildren 5 = .ok (.iaload, 1) := by decide +kernel
theorem dX5_linkChildren_6 : decode cX5_linkChildren 6 = .ok (.aload_n 0, 1) := by decide +kernel
theorem dX5_linkChildren_7 : decode cX5_linkChildren 7 = .ok (.getfield 15, 3) := by decide +kernel
theorem dX5_linkChildren_10 : decode cX5_linkChildren 10 = .ok (.iload_n 1, 1) := by decide +kernel
theorem dX5_linkChildren_11 : decode cX5_linkChildren 11 = .ok (.baload, 1) := by decide +kernel
theorem dX5_linkChildren_12 : decode cX5_linkChildren 12 = .ok (.ifCond .eq 7, 3) := by decide +kernel
theorem dX5_linkChildren_15 : decode cX5_linkChildren 15 = .ok (.iconst 1, 1) := by decide +kernel
theorem dX5_linkChildren_16 : decode cX5_linkChildren 16 = .ok (.goto 4, 3) := by decide +kernel
theorem dX5_linkChildren_19 : decode cX5_linkChildren 19 = .ok (.iconst 0, 1) := by decide +kernel
theorem dX5_linkChildren_20 : decode cX5_linkChildren 20 = .ok (.iadd, 1) := by decide +kernel
theorem dX5_linkChildren_21 : decode cX5_linkChildren 21 = .ok (.istore_n 3, 1) := by decide +kernel
theorem dX5_linkChildren_22 : decode cX5_linkChildren 22 = .ok (.iload_n 2, 1) := by decide +kernel
theorem dX5_linkChildren_23 : decode cX5_linkChildren 23 = .ok (.istore 4, 2) := by decide +kernel
theorem dX5_linkChildren_25 : decode cX5_linkChildren 25 = .ok (.iconst 0, 1) := by decide +kernel
theorem dX5_linkChildren_26 : decode cX5_linkChildren 26 = .ok (.istore 5, 2) := by decide +kernel
theorem dX5_linkChildren_28 : decode cX5_linkChildren 28 = .ok (.iload 5, 2) := by decide +kernel
theorem dX5_linkChildren_30 : decode cX5_linkChildren 30 = .ok (.bipush 8, 2) := by decide +kernel
theorem dX5_linkChildren_32 : decode cX5_linkChildren 32 = .ok (.if_icmp .ge 88, 3) := by decide +kernel
theorem dX5_linkChildren_35 : decode cX5_linkChildren 35 = .ok (.iload 4, 2) := by decide +kernel
theorem dX5_linkChildren_37 : decode cX5_linkChildren 37 = .ok (.sipush 211, 3) := by decide +kernel
theorem dX5_linkChildren_40 : decode cX5_linkChildren 40 = .ok (.if_icmp .ge 80, 3) := by decide +kernel
theorem dX5_linkChildren_43 : decode cX5_linkChildren 43 = .ok (.aload_n 0, 1) := by decide +kernel
theorem dX5_linkChildren_44 : decode cX5_linkChildren 44 = .ok (.iload_n 1, 1) := by decide +kernel
theorem dX5_linkChildren_45 : decode cX5_linkChildren 45 = .ok (.iload 5, 2) := by decide +kernel
theorem dX5_linkChildren_47 : decode cX5_linkChildren 47 = .ok (.invokevirtual 44, 3) := by decide +kernel
theorem dX5_linkChildren_50 : decode cX5_linkChildren 50 = .ok (.istore 6, 2) := by decide +kernel
theorem dX5_linkChildren_52 : decode cX5_linkChildren 52 = .ok (.iload 6, 2) := by decide +kernel
theorem dX5_linkChildren_54 : decode cX5_linkChildren 54 = .ok (.iconst (-1), 1) := by decide +kernel
theorem dX5_linkChildren_55 : decode cX5_linkChildren 55 = .ok (.if_icmp .eq 59, 3) := by decide +kernel
theorem dX5_linkChildren_58 : decode cX5_linkChildren 58 = .ok (.aload_n 0, 1) := by decide +kernel
theorem dX5_linkChildren_59 : decode cX5_linkChildren 59 = .ok (.getfield 22, 3) := by decide +kernel
theorem dX5_linkChildren_62 : decode cX5_linkChildren 62 = .ok (.iload 6, 2) := by decide +kernel
theorem dX5_linkChildren_64 : decode cX5_linkChildren 64 = .ok (.iload_n 3, 1) := by decide +kernel
theorem dX5_linkChildren_65 : decode cX5_linkChildren 65 = .ok (.iastore, 1) := by decide +kernel
theorem dX5_linkChildren_66 : decode cX5_linkChildren 66 = .ok (.iload_n 3, 1) := by decide +kernel
theorem dX5_linkChildren_67 : decode cX5_linkChildren 67 = .ok (.aload_n 0, 1) := by decide +kernel
theorem dX5_linkChildren_68 : decode cX5_linkChildren 68 = .ok (.getfield 19, 3) := by decide +kernel
theorem dX5_linkChildren_71 : decode cX5_linkChildren 71 = .ok (.iload 6, 2) := by decide +kernel
theorem dX5_linkChildren_73 : decode cX5_linkChildren 73 = .ok (.iaload, 1) := by decide +kernel
theorem dX5_linkChildren_74 : decode cX5_linkChildren 74 = .ok (.iadd, 1) := by decide +kernel
theorem dX5_linkChildren_75 : decode cX5_linkChildren 75 = .ok (.istore_n 3, 1) := by decide +kernel
theorem dX5_linkChildren_76 : decode cX5_linkChildren 76 = .ok (.aload_n 0, 1) := by decide +kernel
theorem dX5_linkChildren_77 : decode cX5_linkChildren 77 = .ok (.iload 6, 2) := by decide +kernel
theorem dX5_linkChildren_79 : decode cX5_linkChildren 79 = .ok (.iload_n 1, 1) := by decide +kernel
theorem dX5_linkChildren_80 : decode cX5_linkChildren 80 = .ok (.ifCond .ne 7, 3) := by decide +kernel
theorem dX5_linkChildren_83 : decode cX5_linkChildren 83 = .ok (.iconst 0, 1) := by decide +kernel
theorem dX5_linkChildren_84 : decode cX5_linkChildren 84 = .ok (.goto 15, 3) := by decide +kernel
theorem dX5_linkChildren_87 : decode cX5_linkChildren 87 = .ok (.aload_n 0, 1) := by decide +kernel
theorem dX5_linkChildren_88 : decode cX5_linkChildren 88 = .ok (.aload_n 0, 1) := by decide +kernel
theorem dX5_linkChildren_89 : decode cX5_linkChildren 89 = .ok (.getfield 25, 3) := by decide +kernel
theorem dX5_linkChildren_92 : decode cX5_linkChildren 92 = .ok (.iload_n 1, 1) := by decide +kernel
theorem dX5_linkChildren_93 : decode cX5_linkChildren 93 = .ok (.iaload, 1) := by decide +kernel
theorem dX5_linkChildren_94 : decode cX5_linkChildren 94 = .ok (.iload 5, 2) := by decide +kernel
theorem dX5_linkChildren_96 : decode cX5_linkChildren 96 = .ok (.invokevirtual 68, 3) := by decide +kernel
theorem dX5_linkChildren_99 : decode cX5_linkChildren 99 = .ok (.invokevirtual 71, 3) := by decide +kernel
theorem dX5_linkChildren_102 : decode cX5_linkChildren 102 = .ok (.aload_n 0, 1) := by decide +kernel
theorem dX5_linkChildren_103 : decode cX5_linkChildren 103 = .ok (.getfield 31, 3) := by decide +kernel
theorem dX5_linkChildren_106 : decode cX5_linkChildren 106 = .ok (.iload 4, 2) := by decide +kernel
theorem dX5_linkChildren_108 : decode cX5_linkChildren 108 = .ok (.iload 6, 2) := by decide +kernel
theorem dX5_linkChildren_110 : decode cX5_linkChildren 110 = .ok (.iastore, 1) := by decide +kernel
theorem dX5_linkChildren_111 : decode cX5_linkChildren 111 = .ok (.iinc 4 1, 3) := by decide +kernel
theorem dX5_linkChildren_114 : decode cX5_linkChildren 114 = .ok (.iinc 5 1, 3) := by decide +kernel
theorem dX5_linkChildren_117 : decode cX5_linkChildren 117 = .ok (.goto (-89), 3) := by decide +kernel
theorem dX5_linkChildren_120 : decode cX5_linkChildren 120 = .ok (.iload 4, 2) := by decide +kernel
theorem dX5_linkChildren_122 : decode cX5_linkChildren 122 = .ok (.ireturn, 1) := by decide +kernel
theorem dX5_link_0 : decode cX5_link 0 = .ok (.aload_n 0, 1) := by decide +kernel
theorem dX5_link_1 : decode cX5_link 1 = .ok (.getfield 25, 3) := by decide +kernel
theorem dX5_link_4 : decode cX5_link 4 = .ok (.iload_n 1, 1) := by decide +kernel
theorem dX5_link_5 : decode cX5_link 5 = .ok (.iload_n 2, 1) := by decide +kernel
theorem dX5_link_6 : decode cX5_link 6 = .ok (.iastore, 1) := by decide +kernel
theorem dX5_link_7 : decode cX5_link 7 = .ok (.aload_n 0, 1) := by decide +kernel
theorem dX5_link_8 : decode cX5_link 8 = .ok (.getfield 28, 3) := by decide +kernel
theorem dX5_link_11 : decode cX5_link 11 = .ok (.iload_n 1, 1) := by decide +kernel
theorem dX5_link_12 : decode cX5_link 12 = .ok (.aload_n 0, 1) := by decide +kernel
theorem dX5_link_13 : decode cX5_link 13 = .ok (.getfield 15, 3) := by decide +kernel
theorem dX5_link_16 : decode cX5_link 16 = .ok (.iload_n 2, 1) := by decide +kernel
theorem dX5_link_17 : decode cX5_link 17 = .ok (.baload, 1) := by decide +kernel
theorem dX5_link_18 : decode cX5_link 18 = .ok (.ifCond .eq 7, 3) := by decide +kernel
theorem dX5_link_21 : decode cX5_link 21 = .ok (.iload_n 2, 1) := by decide +kernel
theorem dX5_link_22 : decode cX5_link 22 = .ok (.goto 9, 3) := by decide +kernel
theorem dX5_link_25 : decode cX5_link 25 = .ok (.aload_n 0, 1) := by decide +kernel
theorem dX5_link_26 : decode cX5_link 26 = .ok (.getfield 28, 3) := by decide +kernel
theorem dX5_link_29 : decode cX5_link 29 = .ok (.iload_n 2, 1) := by decide +kernel
theorem dX5_link_30 : decode cX5_link 30 = .ok (.iaload, 1) := by decide +kernel
theorem dX5_link_31 : decode cX5_link 31 = .ok (.iastore, 1) := by decide +kernel
theorem dX5_link_32 : decode cX5_link 32 = .ok (.return_, 1) := by decide +kernel
theorem dX5_follow_0 : decode cX5_follow 0 = .ok (.iload_n 1, 1) := by decide +kernel
theorem dX5_follow_1 : decode cX5_follow 1 = .ok (.istore_n 3, 1) := by decide +kernel
theorem dX5_follow_2 : decode cX5_follow 2 = .ok (.iconst 0, 1) := by decide +kernel
theorem dX5_follow_3 : decode cX5_follow 3 = .ok (.istore 4, 2) := by decide +kernel
theorem dX5_follow_5 : decode cX5_follow 5 = .ok (.iload 4, 2) := by decide +kernel
theorem dX5_follow_7 : decode cX5_follow 7 = .ok (.bipush 7, 2) := by decide +kernel
theorem dX5_follow_9 : decode cX5_follow 9 = .ok (.if_icmp .ge 30, 3) := by decide +kernel
theorem dX5_follow_12 : decode cX5_follow 12 = .ok (.iload_n 3, 1) := by decide +kernel
theorem dX5_follow_13 : decode cX5_follow 13 = .ok (.ifCond .eq 26, 3) := by decide +kernel
theorem dX5_follow_16 : decode cX5_follow 16 = .ok (.aload_n 0, 1) := by decide +kernel
theorem dX5_follow_17 : decode cX5_follow 17 = .ok (.iload_n 3, 1) := by decide +kernel
theorem dX5_follow_18 : decode cX5_follow 18 = .ok (.iload_n 2, 1) := by decide +kernel
theorem dX5_follow_19 : decode cX5_follow 19 = .ok (.invokevirtual 44, 3) := by decide +kernel
theorem dX5_follow_22 : decode cX5_follow 22 = .ok (.iconst (-1), 1) := by decide +kernel
theorem dX5_follow_23 : decode cX5_follow 23 = .ok (.if_icmp .ne 16, 3) := by decide +kernel
theorem dX5_follow_26 : decode cX5_follow 26 = .ok (.aload_n 0, 1) := by decide +kernel
theorem dX5_follow_27 : decode cX5_follow 27 = .ok (.getfield 25, 3) := by decide +kernel
theorem dX5_follow_30 : decode cX5_follow 30 = .ok (.iload_n 3, 1) := by decide +kernel
theorem dX5_follow_31 : decode cX5_follow 31 = .ok (.iaload, 1) := by decide +kernel
theorem dX5_follow_32 : decode cX5_follow 32 = .ok (.istore_n 3, 1) := by decide +kernel
theorem dX5_follow_33 : decode cX5_follow 33 = .ok (.iinc 4 1, 3) := by decide +kernel
theorem dX5_follow_36 : decode cX5_follow 36 = .ok (.goto (-31), 3) := by decide +kernel
theorem dX5_follow_39 : decode cX5_follow 39 = .ok (.aload_n 0, 1) := by decide +kernel
theorem dX5_follow_40 : decode cX5_follow 40 = .ok (.iload_n 3, 1) := by decide +kernel
theorem dX5_follow_41 : decode cX5_follow 41 = .ok (.iload_n 2, 1) := by decide +kernel
theorem dX5_follow_42 : decode cX5_follow 42 = .ok (.invokevirtual 44, 3) := by decide +kernel
theorem dX5_follow_45 : decode cX5_follow 45 = .ok (.istore 4, 2) := by decide +kernel
theorem dX5_follow_47 : decode cX5_follow 47 = .ok (.iload 4, 2) := by decide +kernel
theorem dX5_follow_49 : decode cX5_follow 49 = .ok (.iconst (-1), 1) := by decide +kernel
theorem dX5_follow_50 : decode cX5_follow 50 = .ok (.if_icmp .ne 7, 3) := by decide +kernel
theorem dX5_follow_53 : decode cX5_follow 53 = .ok (.iconst 0, 1) := by decide +kernel
theorem dX5_follow_54 : decode cX5_follow 54 = .ok (.goto 5, 3) := by decide +kernel
theorem dX5_follow_57 : decode cX5_follow 57 = .ok (.iload 4, 2) := by decide +kernel
theorem dX5_follow_59 : decode cX5_follow 59 = .ok (.ireturn, 1) := by decide +kernel
theorem dX5_onward_0 : decode cX5_onward 0 = .ok (.iload_n 2, 1) := by decide +kernel
theorem dX5_onward_1 : decode cX5_onward 1 = .ok (.invokestatic 40, 3) := by decide +kernel
theorem dX5_onward_4 : decode cX5_onward 4 = .ok (.istore_n 3, 1) := by decide +kernel
theorem dX5_onward_5 : decode cX5_onward 5 = .ok (.iload_n 3, 1) := by decide +kernel
theorem dX5_onward_6 : decode cX5_onward 6 = .ok (.iconst (-1), 1) := by decide +kernel
theorem dX5_onward_7 : decode cX5_onward 7 = .ok (.if_icmp .ne 7, 3) := by decide +kernel
theorem dX5_onward_10 : decode cX5_onward 10 = .ok (.iconst 0, 1) := by decide +kernel
theorem dX5_onward_11 : decode cX5_onward 11 = .ok (.goto 9, 3) := by decide +kernel
theorem dX5_onward_14 : decode cX5_onward 14 = .ok (.aload_n 0, 1) := by decide +kernel
theorem dX5_onward_15 : decode cX5_onward 15 = .ok (.iload_n 1, 1) := by decide +kernel
theorem dX5_onward_16 : decode cX5_onward 16 = .ok (.iload_n 3, 1) := by decide +kernel
theorem dX5_onward_17 : decode cX5_onward 17 = .ok (.invokevirtual 68, 3) := by decide +kernel
theorem dX5_onward_20 : decode cX5_onward 20 = .ok (.ireturn, 1) := by decide +kernel
theorem dX5_spell_0 : decode cX5_spell 0 = .ok (.aload_n 2, 1) := by decide +kernel
theorem dX5_spell_1 : decode cX5_spell 1 = .ok (.invokevirtual 75, 3) := by decide +kernel
theorem dX5_spell_4 : decode cX5_spell 4 = .ok (.pop, 1) := by decide +kernel
theorem dX5_spell_5 : decode cX5_spell 5 = .ok (.iconst 0, 1) := by decide +kernel
theorem dX5_spell_6 : decode cX5_spell 6 = .ok (.istore_n 3, 1) := by decide +kernel
theorem dX5_spell_7 : decode cX5_spell 7 = .ok (.aload_n 0, 1) := by decide +kernel
theorem dX5_spell_8 : decode cX5_spell 8 = .ok (.iload_n 1, 1) := by decide +kernel
theorem dX5_spell_9 : decode cX5_spell 9 = .ok (.iconst 0, 1) := by decide +kernel
theorem dX5_spell_10 : decode cX5_spell 10 = .ok (.invokevirtual 78, 3) := by decide +kernel
theorem dX5_spell_13 : decode cX5_spell 13 = .ok (.istore 4, 2) := by decide +kernel
theorem dX5_spell_15 : decode cX5_spell 15 = .ok (.iconst 0, 1) := by decide +kernel
theorem dX5_spell_16 : decode cX5_spell 16 = .ok (.istore 5, 2) := by decide +kernel
theorem dX5_spell_18 : decode cX5_spell 18 = .ok (.iload 5, 2) := by decide +kernel
theorem dX5_spell_20 : decode cX5_spell 20 = .ok (.bipush 7, 2) := by decide +kernel
theorem dX5_spell_22 : decode cX5_spell 22 = .ok (.if_icmp .ge 42, 3) := by decide +kernel
theorem dX5_spell_25 : decode cX5_spell 25 = .ok (.iload 4, 2) := by decide +kernel
theorem dX5_spell_27 : decode cX5_spell 27 = .ok (.iconst (-1), 1) := by decide +kernel
theorem dX5_spell_28 : decode cX5_spell 28 = .ok (.if_icmp .eq 36, 3) := by decide +kernel
theorem dX5_spell_31 : decode cX5_spell 31 = .ok (.aload_n 2, 1) := by decide +kernel
theorem dX5_spell_32 : decode cX5_spell 32 = .ok (.bipush 97, 2) := by decide +kernel
theorem dX5_spell_34 : decode cX5_spell 34 = .ok (.iload 4, 2) := by decide +kernel
theorem dX5_spell_36 : decode cX5_spell 36 = .ok (.iadd, 1) := by decide +kernel
theorem dX5_spell_37 : decode cX5_spell 37 = .ok (.i2c, 1) := by decide +kernel
theorem dX5_spell_38 : decode cX5_spell 38 = .ok (.invokevirtual 81, 3) := by decide +kernel
theorem dX5_spell_41 : decode cX5_spell 41 = .ok (.pop, 1) := by decide +kernel
theorem dX5_spell_42 : decode cX5_spell 42 = .ok (.aload_n 0, 1) := by decide +kernel
theorem dX5_spell_43 : decode cX5_spell 43 = .ok (.iload_n 3, 1) := by decide +kernel
theorem dX5_spell_44 : decode cX5_spell 44 = .ok (.iload 4, 2) := by decide +kernel
theorem dX5_spell_46 : decode cX5_spell 46 = .ok (.invokevirtual 44, 3) := by decide +kernel
theorem dX5_spell_49 : decode cX5_spell 49 = .ok (.istore_n 3, 1) := by decide +kernel
theorem dX5_spell_50 : decode cX5_spell 50 = .ok (.aload_n 0, 1) := by decide +kernel
theorem dX5_spell_51 : decode cX5_spell 51 = .ok (.iload_n 1, 1) := by decide +kernel
theorem dX5_spell_52 : decode cX5_spell 52 = .ok (.iload_n 3, 1) := by decide +kernel
theorem dX5_spell_53 : decode cX5_spell 53 = .ok (.invokevirtual 78, 3) := by decide +kernel
theorem dX5_spell_56 : decode cX5_spell 56 = .ok (.istore 4, 2) := by decide +kernel
theorem dX5_spell_58 : decode cX5_spell 58 = .ok (.iinc 5 1, 3) := by decide +kernel
theorem dX5_spell_61 : decode cX5_spell 61 = .ok (.goto (-43), 3) := by decide +kernel
theorem dX5_spell_64 : decode cX5_spell 64 = .ok (.return_, 1) := by decide +kernel
theorem dX5_letterTowards_0 : decode cX5_letterTowards 0 = .ok (.iconst 0, 1) := by decide +kernel
theorem dX5_letterTowards_1 : decode cX5_letterTowards 1 = .ok (.istore_n 3, 1) := by decide +kernel
theorem dX5_letterTowards_2 : decode cX5_letterTowards 2 = .ok (.iload_n 3, 1) := by decide +kernel
theorem dX5_letterTowards_3 : decode cX5_letterTowards 3 = .ok (.bipush 8, 2) := by decide +kernel
theorem dX5_letterTowards_5 : decode cX5_letterTowards 5 = .ok (.if_icmp .ge 55, 3) := by decide +kernel
theorem dX5_letterTowards_8 : decode cX5_letterTowards 8 = .ok (.aload_n 0, 1) := by decide +kernel
theorem dX5_letterTowards_9 : decode cX5_letterTowards 9 = .ok (.iload_n 2, 1) := by decide +kernel
theorem dX5_letterTowards_10 : decode cX5_letterTowards 10 = .ok (.iload_n 3, 1) := by decide +kernel
theorem dX5_letterTowards_11 : decode cX5_letterTowards 11 = .ok (.invokevirtual 44, 3) := by decide +kernel
theorem dX5_letterTowards_14 : decode cX5_letterTowards 14 = .ok (.istore 4, 2) := by decide +kernel
theorem dX5_letterTowards_16 : decode cX5_letterTowards 16 = .ok (.iload 4, 2) := by decide +kernel
theorem dX5_letterTowards_18 : decode cX5_letterTowards 18 = .ok (.iconst (-1), 1) := by decide +kernel
theorem dX5_letterTowards_19 : decode cX5_letterTowards 19 = .ok (.if_icmp .eq 35, 3) := by decide +kernel
theorem dX5_letterTowards_22 : decode cX5_letterTowards 22 = .ok (.iload_n 1, 1) := by decide +kernel
theorem dX5_letterTowards_23 : decode cX5_letterTowards 23 = .ok (.aload_n 0, 1) := by decide +kernel
theorem dX5_letterTowards_24 : decode cX5_letterTowards 24 = .ok (.getfield 22, 3) := by decide +kernel
theorem dX5_letterTowards_27 : decode cX5_letterTowards 27 = .ok (.iload 4, 2) := by decide +kernel
theorem dX5_letterTowards_29 : decode cX5_letterTowards 29 = .ok (.iaload, 1) := by decide +kernel
theorem dX5_letterTowards_30 : decode cX5_letterTowards 30 = .ok (.if_icmp .lt 24, 3) := by decide +kernel
theorem dX5_letterTowards_33 : decode cX5_letterTowards 33 = .ok (.iload_n 1, 1) := by decide +kernel
theorem dX5_letterTowards_34 : decode cX5_letterTowards 34 = .ok (.aload_n 0, 1) := by decide +kernel
theorem dX5_letterTowards_35 : decode cX5_letterTowards 35 = .ok (.getfield 22, 3) := by decide +kernel
theorem dX5_letterTowards_38 : decode cX5_letterTowards 38 = .ok (.iload 4, 2) := by decide +kernel
theorem dX5_letterTowards_40 : decode cX5_letterTowards 40 = .ok (.iaload, 1) := by decide +kernel
theorem dX5_letterTowards_41 : decode cX5_letterTowards 41 = .ok (.aload_n 0, 1) := by decide +kernel
theorem dX5_letterTowards_42 : decode cX5_letterTowards 42 = .ok (.getfield 19, 3) := by decide +kernel
theorem dX5_letterTowards_45 : decode cX5_letterTowards 45 = .ok (.iload 4, 2) := by decide +kernel
theorem dX5_letterTowards_47 : decode cX5_letterTowards 47 = .ok (.iaload, 1) := by decide +kernel
theorem dX5_letterTowards_48 : decode cX5_letterTowards 48 = .ok (.iadd, 1) := by decide +kernel
theorem dX5_letterTowards_49 : decode cX5_letterTowards 49 = .ok (.if_icmp .ge 5, 3) := by decide +kernel
theorem dX5_letterTowards_52 : decode cX5_letterTowards 52 = .ok (.iload_n 3, 1) := by decide +kernel
theorem dX5_letterTowards_53 : decode cX5_letterTowards 53 = .ok (.ireturn, 1) := by decide +kernel
theorem dX5_letterTowards_54 : decode cX5_letterTowards 54 = .ok (.iinc 3 1, 3) := by decide +kernel
theorem dX5_letterTowards_57 : decode cX5_letterTowards 57 = .ok (.goto (-55), 3) := by decide +kernel
theorem dX5_letterTowards_60 : decode cX5_letterTowards 60 = .ok (.iconst (-1), 1) := by decide +kernel
theorem dX5_letterTowards_61 : decode cX5_letterTowards 61 = .ok (.ireturn, 1) := by decide +kernel
