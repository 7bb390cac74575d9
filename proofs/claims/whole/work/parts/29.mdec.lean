/-! decode rows, laid by prog/names.py -/
theorem dX7_init_0 : decode cX7_init 0 = .ok (.aload_n 0, 1) := by decide +kernel
theorem dX7_init_1 : decode cX7_init 1 = .ok (.invokespecial 1, 3) := by decide +kernel
theorem dX7_init_4 : decode cX7_init 4 = .ok (.aload_n 0, 1) := by decide +kernel
theorem dX7_init_5 : decode cX7_init 5 = .ok (.bipush 60, 2) := by decide +kernel
theorem dX7_init_7 : decode cX7_init 7 = .ok (.newarray .int, 2) := by decide +kernel
theorem dX7_init_9 : decode cX7_init 9 = .ok (.putfield 7, 3) := by decide +kernel
theorem dX7_init_12 : decode cX7_init 12 = .ok (.aload_n 0, 1) := by decide +kernel
theorem dX7_init_13 : decode cX7_init 13 = .ok (.bipush 120, 2) := by decide +kernel
theorem dX7_init_15 : decode cX7_init 15 = .ok (.newarray .int, 2) := by decide +kernel
theorem dX7_init_17 : decode cX7_init 17 = .ok (.putfield 13, 3) := by decide +kernel
theorem dX7_init_20 : decode cX7_init 20 = .ok (.aload_n 0, 1) := by decide +kernel
theorem dX7_init_21 : decode cX7_init 21 = .ok (.sipush 217, 3) := by decide +kernel
theorem dX7_init_24 : decode cX7_init 24 = .ok (.newarray .int, 2) := by decide +kernel
theorem dX7_init_26 : decode cX7_init 26 = .ok (.putfield 16, 3) := by decide +kernel
theorem dX7_init_29 : decode cX7_init 29 = .ok (.aload_n 0, 1) := by decide +kernel
theorem dX7_init_30 : decode cX7_init 30 = .ok (.bipush 31, 2) := by decide +kernel
theorem dX7_init_32 : decode cX7_init 32 = .ok (.newarray .int, 2) := by decide +kernel
theorem dX7_init_34 : decode cX7_init 34 = .ok (.putfield 19, 3) := by decide +kernel
theorem dX7_init_37 : decode cX7_init 37 = .ok (.aload_n 0, 1) := by decide +kernel
theorem dX7_init_38 : decode cX7_init 38 = .ok (.sipush 220, 3) := by decide +kernel
theorem dX7_init_41 : decode cX7_init 41 = .ok (.newarray .int, 2) := by decide +kernel
theorem dX7_init_43 : decode cX7_init 43 = .ok (.putfield 22, 3) := by decide +kernel
theorem dX7_init_46 : decode cX7_init 46 = .ok (.aload_n 0, 1) := by decide +kernel
theorem dX7_init_47 : decode cX7_init 47 = .ok (.sipush 220, 3) := by decide +kernel
theorem dX7_init_50 : decode cX7_init 50 = .ok (.newarray .int, 2) := by decide +kernel
theorem dX7_init_52 : decode cX7_init 52 = .ok (.putfield 25, 3) := by decide +kernel
theorem dX7_init_55 : decode cX7_init 55 = .ok (.aload_n 0, 1) := by decide +kernel
theorem dX7_init_56 : decode cX7_init 56 = .ok (.sipush 220, 3) := by decide +kernel
theorem dX7_init_59 : decode cX7_init 59 = .ok (.newarray .int, 2) := by decide +kernel
theorem dX7_init_61 : decode cX7_init 61 = .ok (.putfield 28, 3) := by decide +kernel
theorem dX7_init_64 : decode cX7_init 64 = .ok (.aload_n 0, 1) := by decide +kernel
theorem dX7_init_65 : decode cX7_init 65 = .ok (.sipush 420, 3) := by decide +kernel
theorem dX7_init_68 : decode cX7_init 68 = .ok (.newarray .int, 2) := by decide +kernel
theorem dX7_init_70 : decode cX7_init 70 = .ok (.putfield 31, 3) := by decide +kernel
theorem dX7_init_73 : decode cX7_init 73 = .ok (.aload_n 0, 1) := by decide +kernel
theorem dX7_init_74 : decode cX7_init 74 = .ok (.sipush 420, 3) := by decide +kernel
theorem dX7_init_77 : decode cX7_init 77 = .ok (.newarray .int, 2) := by decide +kernel
theorem dX7_init_79 : decode cX7_init 79 = .ok (.putfield 34, 3) := by decide +kernel
theorem dX7_init_82 : decode cX7_init 82 = .ok (.aload_n 0, 1) := by decide +kernel
theorem dX7_init_83 : decode cX7_init 83 = .ok (.bipush 61, 2) := by decide +kernel
theorem dX7_init_85 : decode cX7_init 85 = .ok (.newarray .int, 2) := by decide +kernel
theorem dX7_init_87 : decode cX7_init 87 = .ok (.putfield 37, 3) := by decide +kernel
theorem dX7_init_90 : decode cX7_init 90 = .ok (.aload_n 0, 1) := by decide +kernel
theorem dX7_init_91 : decode cX7_init 91 = .ok (.bipush 61, 2) := by decide +kernel
theorem dX7_init_93 : decode cX7_init 93 = .ok (.newarray .int, 2) := by decide +kernel
theorem dX7_init_95 : decode cX7_init 95 = .ok (.putfield 40, 3) := by decide +kernel
theorem dX7_init_98 : decode cX7_init 98 = .ok (.aload_n 0, 1) := by decide +kernel
theorem dX7_init_99 : decode cX7_init 99 = .ok (.bipush 61, 2) := by decide +kernel
theorem dX7_init_101 : decode cX7_init 101 = .ok (.newarray .long, 2) := by decide +kernel
theorem dX7_init_103 : decode cX7_init 103 = .ok (.putfield 43, 3) := by decide +kernel
theorem dX7_init_106 : decode cX7_init 106 = .ok (.aload_n 0, 1) := by decide +kernel
theorem dX7_init_107 : decode cX7_init 107 = .ok (.bipush 61, 2) := by decide +kernel
theorem dX7_init_109 : decode cX7_init 109 = .ok (.newarray .int, 2) := by decide +kernel
theorem dX7_init_111 : decode cX7_init 111 = .ok (.putfield 47, 3) := by decide +kernel
theorem dX7_init_114 : decode cX7_init 114 = .ok (.return_, 1) := by decide +kernel
theorem dX7_thrown_0 : decode cX7_thrown 0 = .ok (.aload_n 0, 1) := by decide +kernel
theorem dX7_thrown_1 : decode cX7_thrown 1 = .ok (.getfield 50, 3) := by decide +kernel
theorem dX7_thrown_4 : decode cX7_thrown 4 = .ok (.ireturn, 1) := by decide +kernel
theorem dX7_type_0 : decode cX7_type 0 = .ok (.aload_n 0, 1) := by decide +kernel
theorem dX7_type_1 : decode cX7_type 1 = .ok (.iconst 0, 1) := by decide +kernel
theorem dX7_type_2 : decode cX7_type 2 = .ok (.putfield 50, 3) := by decide +kernel
theorem dX7_type_5 : decode cX7_type 5 = .ok (.iload_n 1, 1) := by decide +kernel
theorem dX7_type_6 : decode cX7_type 6 = .ok (.bipush 32, 2) := by decide +kernel
theorem dX7_type_8 : decode cX7_type 8 = .ok (.if_icmp .lt 18, 3) := by decide +kernel
theorem dX7_type_11 : decode cX7_type 11 = .ok (.iload_n 1, 1) := by decide +kernel
theorem dX7_type_12 : decode cX7_type 12 = .ok (.bipush 126, 2) := by decide +kernel
theorem dX7_type_14 : decode cX7_type 14 = .ok (.if_icmp .gt 12, 3) := by decide +kernel
theorem dX7_type_17 : decode cX7_type 17 = .ok (.aload_n 0, 1) := by decide +kernel
theorem dX7_type_18 : decode cX7_type 18 = .ok (.getfield 54, 3) := by decide +kernel
theorem dX7_type_21 : decode cX7_type 21 = .ok (.bipush 60, 2) := by decide +kernel
theorem dX7_type_23 : decode cX7_type 23 = .ok (.if_icmp .ne 5, 3) := by decide +kernel
theorem dX7_type_26 : decode cX7_type 26 = .ok (.iconst 0, 1) := by decide +kernel
theorem dX7_type_27 : decode cX7_type 27 = .ok (.ireturn, 1) := by decide +kernel
theorem dX7_type_28 : decode cX7_type 28 = .ok (.aload_n 0, 1) := by decide +kernel
theorem dX7_type_29 : decode cX7_type 29 = .ok (.getfield 7, 3) := by decide +kernel
theorem dX7_type_32 : decode cX7_type 32 = .ok (.aload_n 0, 1) := by decide +kernel
theorem dX7_type_33 : decode cX7_type 33 = .ok (.getfield 54, 3) := by decide +kernel
theorem dX7_type_36 : decode cX7_type 36 = .ok (.iload_n 1, 1) := by decide +kernel
theorem dX7_type_37 : decode cX7_type 37 = .ok (.iastore, 1) := by decide +kernel
theorem dX7_type_38 : decode cX7_type 38 = .ok (.aload_n 0, 1) := by decide +kernel
theorem dX7_type_39 : decode cX7_type 39 = .ok (.dup, 1) := by decide +kernel
theorem dX7_type_40 : decode cX7_type 40 = .ok (.getfield 54, 3) := by decide +kernel
theorem dX7_type_43 : decode cX7_type 43 = .ok (.iconst 1, 1) := by decide +kernel
theorem dX7_type_44 : decode cX7_type 44 = .ok (.iadd, 1) := by decide +kernel
theorem dX7_type_45 : decode cX7_type 45 = .ok (.putfield 54, 3) := by decide +kernel
theorem dX7_type_48 : decode cX7_type 48 = .ok (.iconst 1, 1) := by decide +kernel
theorem dX7_type_49 : decode cX7_type 49 = .ok (.ireturn, 1) := by decide +kernel
theorem dX7_take_0 : decode cX7_take 0 = .ok (.aload_n 0, 1) := by decide +kernel
theorem dX7_take_1 : decode cX7_take 1 = .ok (.getfield 54, 3) := by decide +kernel
theorem dX7_take_4 : decode cX7_take 4 = .ok (.istore_n 1, 1) := by decide +kernel
theorem dX7_take_5 : decode cX7_take 5 = .ok (.aload_n 0, 1) := by decide +kernel
theorem dX7_take_6 : decode cX7_take 6 = .ok (.iconst 0, 1) := by decide +kernel
theorem dX7_take_7 : decode cX7_take 7 = .ok (.putfield 54, 3) := by decide +kernel
theorem dX7_take_10 : decode cX7_take 10 = .ok (.iload_n 1, 1) := by decide +kernel
theorem dX7_take_11 : decode cX7_take 11 = .ok (.ireturn, 1) := by decide +kernel
theorem dX7_wipe_0 : decode cX7_wipe 0 = .ok (.aload_n 0, 1) := by decide +kernel
theorem dX7_wipe_1 : decode cX7_wipe 1 = .ok (.iconst 0, 1) := by decide +kernel
theorem dX7_wipe_2 : decode cX7_wipe 2 = .ok (.putfield 50, 3) := by decide +kernel
theorem dX7_wipe_5 : decode cX7_wipe 5 = .ok (.aload_n 0, 1) := by decide +kernel
theorem dX7_wipe_6 : decode cX7_wipe 6 = .ok (.invokevirtual 57, 3) := by decide +kernel
theorem dX7_wipe_9 : decode cX7_wipe 9 = .ok (.ireturn, 1) := by decide +kernel
theorem dX7_letter_0 : decode cX7_letter 0 = .ok (.aload_n 0, 1) := by decide +kernel
theorem dX7_letter_1 : decode cX7_letter 1 = .ok (.getfield 7, 3) := by decide +kernel
theorem dX7_letter_4 : decode cX7_letter 4 = .ok (.iload_n 1, 1) := by decide +kernel
theorem dX7_letter_5 : decode cX7_letter 5 = .ok (.iaload, 1) := by decide +kernel
theorem dX7_letter_6 : decode cX7_letter 6 = .ok (.bipush 97, 2) := by decide +kernel
theorem dX7_letter_8 : decode cX7_letter 8 = .ok (.if_icmp .lt 28, 3) := by decide +kernel
theorem dX7_letter_11 : decode cX7_letter 11 = .ok (.aload_n 0, 1) := by decide +kernel
theorem dX7_letter_12 : decode cX7_letter 12 = .ok (.getfield 7, 3) := by decide +kernel
theorem dX7_letter_15 : decode cX7_letter 15 = .ok (.iload_n 1, 1) := by decide +kernel
theorem dX7_letter_16 : decode cX7_letter 16 = .ok (.iaload, 1) := by decide +kernel
theorem dX7_letter_17 : decode cX7_letter 17 = .ok (.bipush 104, 2) := by decide +kernel
theorem dX7_letter_19 : decode cX7_letter 19 = .ok (.if_icmp .gt 17, 3) := by decide +kernel
theorem dX7_letter_22 : decode cX7_letter 22 = .ok (.aload_n 0, 1) := by decide +kernel
theorem dX7_letter_23 : decode cX7_letter 23 = .ok (.getfield 7, 3) := by decide +kernel
theorem dX7_letter_26 : decode cX7_letter 26 = .ok (.iload_n 1, 1) := by decide +kernel
theorem dX7_letter_27 : decode cX7_letter 27 = .ok (.iaload, 1) := by decide +kernel
theorem dX7_letter_28 : decode cX7_letter 28 = .ok (.bipush 97, 2) := by decide +kernel
theorem dX7_letter_30 : decode cX7_letter 30 = .ok (.isub, 1) := by decide +kernel
theorem dX7_letter_31 : decode cX7_letter 31 = .ok (.iconst 1, 1) := by decide +kernel
theorem dX7_letter_32 : decode cX7_letter 32 = .ok (.iadd, 1) := by decide +kernel
theorem dX7_letter_33 : decode cX7_letter 33 = .ok (.goto 4, 3) := by decide +kernel
theorem dX7_letter_36 : decode cX7_letter 36 = .ok (.iconst 0, 1) := by decide +kernel
theorem dX7_letter_37 : decode cX7_letter 37 = .ok (.ireturn, 1) := by decide +kernel
theorem dX7_isWord_0 : decode cX7_isWord 0 = .ok (.iload_n 2, 1) := by decide +kernel
theorem dX7_isWord_1 : decode cX7_isWord 1 = .ok (.iconst 1, 1) := by decide +kernel
theorem dX7_isWord_2 : decode cX7_isWord 2 = .ok (.if_icmp .lt 13, 3) := by decide +kernel
theorem dX7_isWord_5 : decode cX7_isWord 5 = .ok (.iload_n 2, 1) := by decide +kernel
theorem dX7_isWord_6 : decode cX7_isWord 6 = .ok (.bipush 7, 2) := by decide +kernel
theorem dX7_isWord_8 : decode cX7_isWord 8 = .ok (.if_icmp .gt 7, 3) := by decide +kernel
theorem dX7_isWord_11 : decode cX7_isWord 11 = .ok (.iconst 1, 1) := by decide +kernel
theorem dX7_isWord_12 : decode cX7_isWord 12 = .ok (.goto 4, 3) := by decide +kernel
theorem dX7_isWord_15 : decode cX7_isWord 15 = .ok (.iconst 0, 1) := by decide +kernel
theorem dX7_isWord_16 : decode cX7_isWord 16 = .ok (.istore_n 3, 1) := by decide +kernel
theorem dX7_isWord_17 : decode cX7_isWord 17 = .ok (.iconst 0, 1) := by decide +kernel
theorem dX7_isWord_18 : decode cX7_isWord 18 = .ok (.istore 4, 2) := by decide +kernel
theorem dX7_isWord_20 : decode cX7_isWord 20 = .ok (.iload 4, 2) := by decide +kernel
theorem dX7_isWord_22 : decode cX7_isWord 22 = .ok (.iload_n 2, 1) := by decide +kernel
theorem dX7_isWord_23 : decode cX7_isWord 23 = .ok (.if_icmp .ge 30, 3) := by decide +kernel
theorem dX7_isWord_26 : decode cX7_isWord 26 = .ok (.iload_n 3, 1) := by decide +kernel
theorem dX7_isWord_27 : decode cX7_isWord 27 = .ok (.ifCond .eq 26, 3) := by decide +kernel
theorem dX7_isWord_30 : decode cX7_isWord 30 = .ok (.aload_n 0, 1) := by decide +kernel
theorem dX7_isWord_31 : decode cX7_isWord 31 = .ok (.iload_n 1, 1) := by decide +kernel
theorem dX7_isWord_32 : decode cX7_isWord 32 = .ok (.iload 4, 2) := by decide +kernel
theorem dX7_isWord_34 : decode cX7_isWord 34 = .ok (.iadd, 1) := by decide +kernel
theorem dX7_isWord_35 : decode cX7_isWord 35 = .ok (.invokevirtual 61, 3) := by decide +kernel
theorem dX7_isWord_38 : decode cX7_isWord 38 = .ok (.ifCond .le 7, 3) := by decide +kernel
theorem dX7_isWord_41 : decode cX7_isWord 41 = .ok (.iconst 1, 1) := by decide +kernel
theorem dX7_isWord_42 : decode cX7_isWord 42 = .ok (.goto 4, 3) := by decide +kernel
theorem dX7_isWord_45 : decode cX7_isWord 45 = .ok (.iconst 0, 1) := by decide +kernel
theorem dX7_isWord_46 : decode cX7_isWord 46 = .ok (.istore_n 3, 1) := by decide +kernel
theorem dX7_isWord_47 : decode cX7_isWord 47 = .ok (.iinc 4 1, 3) := by decide +kernel
theorem dX7_isWord_50 : decode cX7_isWord 50 = .ok (.goto (-30), 3) := by decide +kernel
theorem dX7_isWord_53 : decode cX7_isWord 53 = .ok (.iload_n 3, 1) := by decide +kernel
theorem dX7_isWord_54 : decode cX7_isWord 54 = .ok (.ireturn, 1) := by decide +kernel
theorem dX7_compare_0 : decode cX7_compare 0 = .ok (.iconst 0, 1) := by decide +kernel
theorem dX7_compare_1 : decode cX7_compare 1 = .ok (.istore 4, 2) := by decide +kernel
theorem dX7_compare_3 : decode cX7_compare 3 = .ok (.iload 4, 2) := by decide +kernel
theorem dX7_compare_5 : decode cX7_compare 5 = .ok (.iload_n 2, 1) := by decide +kernel
theorem dX7_compare_6 : decode cX7_compare 6 = .ok (.if_icmp .ge 51, 3) := by decide +kernel
theorem dX7_compare_9 : decode cX7_compare 9 = .ok (.iload 4, 2) := by decide +kernel
theorem dX7_compare_11 : decode cX7_compare 11 = .ok (.aload_n 0, 1) := by decide +kernel
theorem dX7_compare_12 : decode cX7_compare 12 = .ok (.getfield 19, 3) := by decide +kernel
theorem dX7_compare_15 : decode cX7_compare 15 = .ok (.iload_n 3, 1) := by decide +kernel
theorem dX7_compare_16 : decode cX7_compare 16 = .ok (.iaload, 1) := by decide +kernel
theorem dX7_compare_17 : decode cX7_compare 17 = .ok (.if_icmp .ge 40, 3) := by decide +kernel
theorem dX7_compare_20 : decode cX7_compare 20 = .ok (.aload_n 0, 1) := by decide +kernel
theorem dX7_compare_21 : decode cX7_compare 21 = .ok (.iload_n 1, 1) := by decide +kernel
theorem dX7_compare_22 : decode cX7_compare 22 = .ok (.iload 4, 2) := by decide +kernel
theorem dX7_compare_24 : decode cX7_compare 24 = .ok (.iadd, 1) := by decide +kernel
theorem dX7_compare_25 : decode cX7_compare 25 = .ok (.invokevirtual 61, 3) := by decide +kernel
theorem dX7_compare_28 : decode cX7_compare 28 = .ok (.aload_n 0, 1) := by decide +kernel
theorem dX7_compare_29 : decode cX7_compare 29 = .ok (.getfield 16, 3) := by decide +kernel
theorem dX7_compare_32 : decode cX7_compare 32 = .ok (.bipush 7, 2) := by decide +kernel
theorem dX7_compare_34 : decode cX7_compare 34 = .ok (.iload_n 3, 1) := by decide +kernel
theorem dX7_compare_35 : decode cX7_compare 35 = .ok (.imul, 1) := by decide +kernel
theorem dX7_compare_36 : decode cX7_compare 36 = .ok (.iload 4, 2) := by decide +kernel
theorem dX7_compare_38 : decode cX7_compare 38 = .ok (.iadd, 1) := by decide +kernel
theorem dX7_compare_39 : decode cX7_compare 39 = .ok (.iaload, 1) := by decide +kernel
theorem dX7_compare_40 : decode cX7_compare 40 = .ok (.isub, 1) := by decide +kernel
theorem dX7_compare_41 : decode cX7_compare 41 = .ok (.istore 5, 2) := by decide +kernel
theorem dX7_compare_43 : decode cX7_compare 43 = .ok (.iload 5, 2) := by decide +kernel
theorem dX7_compare_45 : decode cX7_compare 45 = .ok (.ifCond .eq 6, 3) := by decide +kernel
theorem dX7_compare_48 : decode cX7_compare 48 = .ok (.iload 5, 2) := by decide +kernel
theorem dX7_compare_50 : decode cX7_compare 50 = .ok (.ireturn, 1) := by decide +kernel
theorem dX7_compare_51 : decode cX7_compare 51 = .ok (.iinc 4 1, 3) := by decide +kernel
theorem dX7_compare_54 : decode cX7_compare 54 = .ok (.goto (-51), 3) := by decide +kernel
theorem dX7_compare_57 : decode cX7_compare 57 = .ok (.iload_n 2, 1) := by decide +kernel
theorem dX7_compare_58 : decode cX7_compare 58 = .ok (.aload_n 0, 1) := by decide +kernel
theorem dX7_compare_59 : decode cX7_compare 59 = .ok (.getfield 19, 3) := by decide +kernel
theorem dX7_compare_62 : decode cX7_compare 62 = .ok (.iload_n 3, 1) := by decide +kernel
theorem dX7_compare_63 : decode cX7_compare 63 = .ok (.iaload, 1) := by decide +kernel
theorem dX7_compare_64 : decode cX7_compare 64 = .ok (.isub, 1) := by decide +kernel
theorem dX7_compare_65 : decode cX7_compare 65 = .ok (.ireturn, 1) := by decide +kernel
theorem dX7_numberOf_0 : decode cX7_numberOf 0 = .ok (.iconst (-1), 1) := by decide +kernel
theorem dX7_numberOf_1 : decode cX7_numberOf 1 = .ok (.istore_n 3, 1) := by decide +kernel
theorem dX7_numberOf_2 : decode cX7_numberOf 2 = .ok (.iconst 0, 1) := by decide +kernel
theorem dX7_numberOf_3 : decode cX7_numberOf 3 = .ok (.istore 4, 2) := by decide +kernel
theorem dX7_numberOf_5 : decode cX7_numberOf 5 = .ok (.iload 4, 2) := by decide +kernel
theorem dX7_numberOf_7 : decode cX7_numberOf 7 = .ok (.aload_n 0, 1) := by decide +kernel
theorem dX7_numberOf_8 : decode cX7_numberOf 8 = .ok (.getfield 65, 3) := by decide +kernel
theorem dX7_numberOf_11 : decode cX7_numberOf 11 = .ok (.if_icmp .ge 36, 3) := by decide +kernel
theorem dX7_numberOf_14 : decode cX7_numberOf 14 = .ok (.aload_n 0, 1) := by decide +kernel
theorem dX7_numberOf_15 : decode cX7_numberOf 15 = .ok (.iload_n 1, 1) := by decide +kernel
theorem dX7_numberOf_16 : decode cX7_numberOf 16 = .ok (.iload_n 2, 1) := by decide +kernel
theorem dX7_numberOf_17 : decode cX7_numberOf 17 = .ok (.invokevirtual 68, 3) := by decide +kernel
theorem dX7_numberOf_20 : decode cX7_numberOf 20 = .ok (.ifCond .eq 27, 3) := by decide +kernel
theorem dX7_numberOf_23 : decode cX7_numberOf 23 = .ok (.aload_n 0, 1) := by decide +kernel
theorem dX7_numberOf_24 : decode cX7_numberOf 24 = .ok (.iload_n 1, 1) := by decide +kernel
theorem dX7_numberOf_25 : decode cX7_numberOf 25 = .ok (.iload_n 2, 1) := by decide +kernel
theorem dX7_numberOf_26 : decode cX7_numberOf 26 = .ok (.iload 4, 2) := by decide +kernel
theorem dX7_numberOf_28 : decode cX7_numberOf 28 = .ok (.invokevirtual 72, 3) := by decide +kernel
theorem dX7_numberOf_31 : decode cX7_numberOf 31 = .ok (.ifCond .ne 8, 3) := by decide +kernel
theorem dX7_numberOf_34 : decode cX7_numberOf 34 = .ok (.iload 4, 2) := by decide +kernel
theorem dX7_numberOf_36 : decode cX7_numberOf 36 = .ok (.goto 4, 3) := by decide +kernel
theorem dX7_numberOf_39 : decode cX7_numberOf 39 = .ok (.iload_n 3, 1) := by decide +kernel
theorem dX7_numberOf_40 : decode cX7_numberOf 40 = .ok (.istore_n 3, 1) := by decide +kernel
theorem dX7_numberOf_41 : decode cX7_numberOf 41 = .ok (.iinc 4 1, 3) := by decide +kernel
theorem dX7_numberOf_44 : decode cX7_numberOf 44 = .ok (.goto (-39), 3) := by decide +kernel
theorem dX7_numberOf_47 : decode cX7_numberOf 47 = .ok (.iload_n 3, 1) := by decide +kernel
theorem dX7_numberOf_48 : decode cX7_numberOf 48 = .ok (.ireturn, 1) := by decide +kernel
theorem dX7_beginsWith_0 : decode cX7_beginsWith 0 = .ok (.iload_n 2, 1) := by decide +kernel
theorem dX7_beginsWith_1 : decode cX7_beginsWith 1 = .ok (.aload_n 0, 1) := by decide +kernel
theorem dX7_beginsWith_2 : decode cX7_beginsWith 2 = .ok (.getfield 19, 3) := by decide +kernel
theorem dX7_beginsWith_5 : decode cX7_beginsWith 5 = .ok (.iload_n 1, 1) := by decide +kernel
theorem dX7_beginsWith_6 : decode cX7_beginsWith 6 = .ok (.iaload, 1) := by decide +kernel
theorem dX7_beginsWith_7 : decode cX7_beginsWith 7 = .ok (.if_icmp .gt 7, 3) := by decide +kernel
theorem dX7_beginsWith_10 : decode cX7_beginsWith 10 = .ok (.iconst 1, 1) := by decide +kernel
theorem dX7_beginsWith_11 : decode cX7_beginsWith 11 = .ok (.goto 4, 3) := by decide +kernel
theorem dX7_beginsWith_14 : decode cX7_beginsWith 14 = .ok (.iconst 0, 1) := by decide +kernel
theorem dX7_beginsWith_15 : decode cX7_beginsWith 15 = .ok (.istore_n 3, 1) := by decide +kernel
theorem dX7_beginsWith_16 : decode cX7_beginsWith 16 = .ok (.iconst 0, 1) := by decide +kernel
theorem dX7_beginsWith_17 : decode cX7_beginsWith 17 = .ok (.istore 4, 2) := by decide +kernel
theorem dX7_beginsWith_19 : decode cX7_beginsWith 19 = .ok (.iload 4, 2) := by decide +kernel
theorem dX7_beginsWith_21 : decode cX7_beginsWith 21 = .ok (.iload_n 2, 1) := by decide +kernel
theorem dX7_beginsWith_22 : decode cX7_beginsWith 22 = .ok (.if_icmp .ge 40, 3) := by decide +kernel
theorem dX7_beginsWith_25 : decode cX7_beginsWith 25 = .ok (.iload_n 3, 1) := by decide +kernel
theorem dX7_beginsWith_26 : decode cX7_beginsWith 26 = .ok (.ifCond .eq 36, 3) := by decide +kernel
theorem dX7_beginsWith_29 : decode cX7_beginsWith 29 = .ok (.aload_n 0, 1) := by decide +kernel
theorem dX7_beginsWith_30 : decode cX7_beginsWith 30 = .ok (.getfield 16, 3) := by decide +kernel
theorem dX7_beginsWith_33 : decode cX7_beginsWith 33 = .ok (.bipush 7, 2) := by decide +kernel
theorem dX7_beginsWith_35 : decode cX7_beginsWith 35 = .ok (.iload_n 1, 1) := by decide +kernel
theorem dX7_beginsWith_36 : decode cX7_beginsWith 36 = .ok (.imul, 1) := by decide +kernel
theorem dX7_beginsWith_37 : decode cX7_beginsWith 37 = .ok (.iload 4, 2) := by decide +kernel
theorem dX7_beginsWith_39 : decode cX7_beginsWith 39 = .ok (.iadd, 1) := by decide +kernel
theorem dX7_beginsWith_40 : decode cX7_beginsWith 40 = .ok (.iaload, 1) := by decide +kernel
theorem dX7_beginsWith_41 : decode cX7_beginsWith 41 = .ok (.aload_n 0, 1) := by decide +kernel
theorem dX7_beginsWith_42 : decode cX7_beginsWith 42 = .ok (.iload 4, 2) := by decide +kernel
theorem dX7_beginsWith_44 : decode cX7_beginsWith 44 = .ok (.invokevirtual 61, 3) := by decide +kernel
theorem dX7_beginsWith_47 : decode cX7_beginsWith 47 = .ok (.if_icmp .ne 7, 3) := by decide +kernel
theorem dX7_beginsWith_50 : decode cX7_beginsWith 50 = .ok (.iconst 1, 1) := by decide +kernel
theorem dX7_beginsWith_51 : decode cX7_beginsWith 51 = .ok (.goto 4, 3) := by decide +kernel
theorem dX7_beginsWith_54 : decode cX7_beginsWith 54 = .ok (.iconst 0, 1) := by decide +kernel
theorem dX7_beginsWith_55 : decode cX7_beginsWith 55 = .ok (.istore_n 3, 1) := by decide +kernel
theorem dX7_beginsWith_56 : decode cX7_beginsWith 56 = .ok (.iinc 4 1, 3) := by decide +kernel
theorem dX7_beginsWith_59 : decode cX7_beginsWith 59 = .ok (.goto (-40), 3) := by decide +kernel
theorem dX7_beginsWith_62 : decode cX7_beginsWith 62 = .ok (.iload_n 3, 1) := by decide +kernel
theorem dX7_beginsWith_63 : decode cX7_beginsWith 63 = .ok (.ireturn, 1) := by decide +kernel
theorem dX7_move_0 : decode cX7_move 0 = .ok (.aload_n 0, 1) := by decide +kernel
theorem dX7_move_1 : decode cX7_move 1 = .ok (.getfield 19, 3) := by decide +kernel
theorem dX7_move_4 : decode cX7_move 4 = .ok (.iload_n 1, 1) := by decide +kernel
theorem dX7_move_5 : decode cX7_move 5 = .ok (.aload_n 0, 1) := by decide +kernel
theorem dX7_move_6 : decode cX7_move 6 = .ok (.getfield 19, 3) := by decide +kernel
theorem dX7_move_9 : decode cX7_move 9 = .ok (.iload_n 2, 1) := by decide +kernel
theorem dX7_move_10 : decode cX7_move 10 = .ok (.iaload, 1) := by decide +kernel
theorem dX7_move_11 : decode cX7_move 11 = .ok (.iastore, 1) := by decide +kernel
theorem dX7_move_12 : decode cX7_move 12 = .ok (.iconst 0, 1) := by decide +kernel
theorem dX7_move_13 : decode cX7_move 13 = .ok (.istore_n 3, 1) := by decide +kernel
theorem dX7_move_14 : decode cX7_move 14 = .ok (.iload_n 3, 1) := by decide +kernel
theorem dX7_move_15 : decode cX7_move 15 = .ok (.bipush 7, 2) := by decide +kernel
theorem dX7_move_17 : decode cX7_move 17 = .ok (.if_icmp .ge 31, 3) := by decide +kernel
theorem dX7_move_20 : decode cX7_move 20 = .ok (.aload_n 0, 1) := by decide +kernel
theorem dX7_move_21 : decode cX7_move 21 = .ok (.getfield 16, 3) := by decide +kernel
theorem dX7_move_24 : decode cX7_move 24 = .ok (.bipush 7, 2) := by decide +kernel
theorem dX7_move_26 : decode cX7_move 26 = .ok (.iload_n 1, 1) := by decide +kernel
theorem dX7_move_27 : decode cX7_move 27 = .ok (.imul, 1) := by decide +kernel
theorem dX7_move_28 : decode cX7_move 28 = .ok (.iload_n 3, 1) := by decide +kernel
theorem dX7_move_29 : decode cX7_move 29 = .ok (.iadd, 1) := by decide +kernel
theorem dX7_move_30 : decode cX7_move 30 = .ok (.aload_n 0, 1) := by decide +kernel
theorem dX7_move_31 : decode cX7_move 31 = .ok (.getfield 16, 3) := by decide +kernel
theorem dX7_move_34 : decode cX7_move 34 = .ok (.bipush 7, 2) := by decide +kernel
theorem dX7_move_36 : decode cX7_move 36 = .ok (.iload_n 2, 1) := by decide +kernel
theorem dX7_move_37 : decode cX7_move 37 = .ok (.imul, 1) := by decide +kernel
theorem dX7_move_38 : decode cX7_move 38 = .ok (.iload_n 3, 1) := by decide +kernel
theorem dX7_move_39 : decode cX7_move 39 = .ok (.iadd, 1) := by decide +kernel
theorem dX7_move_40 : decode cX7_move 40 = .ok (.iaload, 1) := by decide +kernel
theorem dX7_move_41 : decode cX7_move 41 = .ok (.iastore, 1) := by decide +kernel
theorem dX7_move_42 : decode cX7_move 42 = .ok (.iinc 3 1, 3) := by decide +kernel
theorem dX7_move_45 : decode cX7_move 45 = .ok (.goto (-31), 3) := by decide +kernel
theorem dX7_move_48 : decode cX7_move 48 = .ok (.return_, 1) := by decide +kernel
theorem dX7_add_0 : decode cX7_add 0 = .ok (.aload_n 0, 1) := by decide +kernel
theorem dX7_add_1 : decode cX7_add 1 = .ok (.aload_n 0, 1) := by decide +kernel
theorem dX7_add_2 : decode cX7_add 2 = .ok (.getfield 65, 3) := by decide +kernel
theorem dX7_add_5 : decode cX7_add 5 = .ok (.bipush 30, 2) := by decide +kernel
theorem dX7_add_7 : decode cX7_add 7 = .ok (.if_icmp .ne 7, 3) := by decide +kernel
theorem dX7_add_10 : decode cX7_add 10 = .ok (.iconst 1, 1) := by decide +kernel
theorem dX7_add_11 : decode cX7_add 11 = .ok (.goto 4, 3) := by decide +kernel
theorem dX7_add_14 : decode cX7_add 14 = .ok (.iconst 0, 1) := by decide +kernel
theorem dX7_add_15 : decode cX7_add 15 = .ok (.putfield 50, 3) := by decide +kernel
theorem dX7_add_18 : decode cX7_add 18 = .ok (.aload_n 0, 1) := by decide +kernel
theorem dX7_add_19 : decode cX7_add 19 = .ok (.getfield 50, 3) := by decide +kernel
theorem dX7_add_22 : decode cX7_add 22 = .ok (.ifCond .le 5, 3) := by decide +kernel
theorem dX7_add_25 : decode cX7_add 25 = .ok (.iconst 0, 1) := by decide +kernel
theorem dX7_add_26 : decode cX7_add 26 = .ok (.ireturn, 1) := by decide +kernel
theorem dX7_add_27 : decode cX7_add 27 = .ok (.aload_n 0, 1) := by decide +kernel
theorem dX7_add_28 : decode cX7_add 28 = .ok (.invokevirtual 57, 3) := by decide +kernel
theorem dX7_add_31 : decode cX7_add 31 = .ok (.istore_n 1, 1) := by decide +kernel
theorem dX7_add_32 : decode cX7_add 32 = .ok (.aload_n 0, 1) := by decide +kernel
theorem dX7_add_33 : decode cX7_add 33 = .ok (.iconst 0, 1) := by decide +kernel
theorem dX7_add_34 : decode cX7_add 34 = .ok (.iload_n 1, 1) := by decide +kernel
theorem dX7_add_35 : decode cX7_add 35 = .ok (.invokevirtual 68, 3) := by decide +kernel
theorem dX7_add_38 : decode cX7_add 38 = .ok (.ifCond .ne 5, 3) := by decide +kernel
theorem dX7_add_41 : decode cX7_add 41 = .ok (.iconst (-1), 1) := by decide +kernel
theorem dX7_add_42 : decode cX7_add 42 = .ok (.ireturn, 1) := by decide +kernel
theorem dX7_add_43 : decode cX7_add 43 = .ok (.aload_n 0, 1) := by decide +kernel
theorem dX7_add_44 : decode cX7_add 44 = .ok (.iconst 0, 1) := by decide +kernel
theorem dX7_add_45 : decode cX7_add 45 = .ok (.iload_n 1, 1) := by decide +kernel
theorem dX7_add_46 : decode cX7_add 46 = .ok (.invokevirtual 76, 3) := by decide +kernel
theorem dX7_add_49 : decode cX7_add 49 = .ok (.ifCond .lt 5, 3) := by decide +kernel
theorem dX7_add_52 : decode cX7_add 52 = .ok (.iconst 0, 1) := by decide +kernel
theorem dX7_add_53 : decode cX7_add 53 = .ok (.ireturn, 1) := by decide +kernel
theorem dX7_add_54 : decode cX7_add 54 = .ok (.aload_n 0, 1) := by decide +kernel
theorem dX7_add_55 : decode cX7_add 55 = .ok (.getfield 65, 3) := by decide +kernel
theorem dX7_add_58 : decode cX7_add 58 = .ok (.istore_n 2, 1) := by decide +kernel
theorem dX7_add_59 : decode cX7_add 59 = .ok (.iload_n 2, 1) := by decide +kernel
theorem dX7_add_60 : decode cX7_add 60 = .ok (.ifCond .le 29, 3) := by decide +kernel
theorem dX7_add_63 : decode cX7_add 63 = .ok (.aload_n 0, 1) := by decide +kernel
theorem dX7_add_64 : decode cX7_add 64 = .ok (.iconst 0, 1) := by decide +kernel
theorem dX7_add_65 : decode cX7_add 65 = .ok (.iload_n 1, 1) := by decide +kernel
theorem dX7_add_66 : decode cX7_add 66 = .ok (.iload_n 2, 1) := by decide +kernel
theorem dX7_add_67 : decode cX7_add 67 = .ok (.iconst 1, 1) := by decide +kernel
theorem dX7_add_68 : decode cX7_add 68 = .ok (.isub, 1) := by decide +kernel
theorem dX7_add_69 : decode cX7_add 69 = .ok (.invokevirtual 72, 3) := by decide +kernel
theorem dX7_add_72 : decode cX7_add 72 = .ok (.ifCond .ge 17, 3) := by decide +kernel
theorem dX7_add_75 : decode cX7_add 75 = .ok (.aload_n 0, 1) := by decide +kernel
theorem dX7_add_76 : decode cX7_add 76 = .ok (.iload_n 2, 1) := by decide +kernel
theorem dX7_add_77 : decode cX7_add 77 = .ok (.iload_n 2, 1) := by decide +kernel
theorem dX7_add_78 : decode cX7_add 78 = .ok (.iconst 1, 1) := by decide +kernel
theorem dX7_add_79 : decode cX7_add 79 = .ok (.isub, 1) := by decide +kernel
theorem dX7_add_80 : decode cX7_add 80 = .ok (.invokevirtual 80, 3) := by decide +kernel
theorem dX7_add_83 : decode cX7_add 83 = .ok (.iinc 2 (-1), 3) := by decide +kernel
theorem dX7_add_86 : decode cX7_add 86 = .ok (.goto (-27), 3) := by decide +kernel
theorem dX7_add_89 : decode cX7_add 89 = .ok (.aload_n 0, 1) := by decide +kernel
theorem dX7_add_90 : decode cX7_add 90 = .ok (.getfield 19, 3) := by decide +kernel
theorem dX7_add_93 : decode cX7_add 93 = .ok (.iload_n 2, 1) := by decide +kernel
theorem dX7_add_94 : decode cX7_add 94 = .ok (.iload_n 1, 1) := by decide +kernel
theorem dX7_add_95 : decode cX7_add 95 = .ok (.iastore, 1) := by decide +kernel
theorem dX7_add_96 : decode cX7_add 96 = .ok (.iconst 0, 1) := by decide +kernel
theorem dX7_add_97 : decode cX7_add 97 = .ok (.istore_n 3, 1) := by decide +kernel
theorem dX7_add_98 : decode cX7_add 98 = .ok (.iload_n 3, 1) := by decide +kernel
theorem dX7_add_99 : decode cX7_add 99 = .ok (.iload_n 1, 1) := by decide +kernel
theorem dX7_add_100 : decode cX7_add 100 = .ok (.if_icmp .ge 25, 3) := by decide +kernel
theorem dX7_add_103 : decode cX7_add 103 = .ok (.aload_n 0, 1) := by decide +kernel
theorem dX7_add_104 : decode cX7_add 104 = .ok (.getfield 16, 3) := by decide +kernel
theorem dX7_add_107 : decode cX7_add 107 = .ok (.bipush 7, 2) := by decide +kernel
theorem dX7_add_109 : decode cX7_add 109 = .ok (.iload_n 2, 1) := by decide +kernel
theorem dX7_add_110 : decode cX7_add 110 = .ok (.imul, 1) := by decide +kernel
theorem dX7_add_111 : decode cX7_add 111 = .ok (.iload_n 3, 1) := by decide +kernel
theorem dX7_add_112 : decode cX7_add 112 = .ok (.iadd, 1) := by decide +kernel
theorem dX7_add_113 : decode cX7_add 113 = .ok (.aload_n 0, 1) := by decide +kernel
theorem dX7_add_114 : decode cX7_add 114 = .ok (.iload_n 3, 1) := by decide +kernel
theorem dX7_add_115 : decode cX7_add 115 = .ok (.invokevirtual 61, 3) := by decide +kernel
theorem dX7_add_118 : decode cX7_add 118 = .ok (.iastore, 1) := by decide +kernel
theorem dX7_add_119 : decode cX7_add 119 = .ok (.iinc 3 1, 3) := by decide +kernel
theorem dX7_add_122 : decode cX7_add 122 = .ok (.goto (-24), 3) := by decide +kernel
theorem dX7_add_125 : decode cX7_add 125 = .ok (.aload_n 0, 1) := by decide +kernel
theorem dX7_add_126 : decode cX7_add 126 = .ok (.dup, 1) := by decide +kernel
theorem dX7_add_127 : decode cX7_add 127 = .ok (.getfield 65, 3) := by decide +kernel
theorem dX7_add_130 : decode cX7_add 130 = .ok (.iconst 1, 1) := by decide +kernel
theorem dX7_add_131 : decode cX7_add 131 = .ok (.iadd, 1) := by decide +kernel
theorem dX7_add_132 : decode cX7_add 132 = .ok (.putfield 65, 3) := by decide +kernel
theorem dX7_add_135 : decode cX7_add 135 = .ok (.aload_n 0, 1) := by decide +kernel
theorem dX7_add_136 : decode cX7_add 136 = .ok (.iconst 0, 1) := by decide +kernel
theorem dX7_add_137 : decode cX7_add 137 = .ok (.putfield 84, 3) := by decide +kernel
theorem dX7_add_140 : decode cX7_add 140 = .ok (.iconst 1, 1) := by decide +kernel
theorem dX7_add_141 : decode cX7_add 141 = .ok (.ireturn, 1) := by decide +kernel
theorem dX7_remove_0 : decode cX7_remove 0 = .ok (.aload_n 0, 1) := by decide +kernel
theorem dX7_remove_1 : decode cX7_remove 1 = .ok (.iconst 0, 1) := by decide +kernel
theorem dX7_remove_2 : decode cX7_remove 2 = .ok (.putfield 50, 3) := by decide +kernel
theorem dX7_remove_5 : decode cX7_remove 5 = .ok (.aload_n 0, 1) := by decide +kernel
theorem dX7_remove_6 : decode cX7_remove 6 = .ok (.iconst 0, 1) := by decide +kernel
theorem dX7_remove_7 : decode cX7_remove 7 = .ok (.aload_n 0, 1) := by decide +kernel
theorem dX7_remove_8 : decode cX7_remove 8 = .ok (.invokevirtual 57, 3) := by decide +kernel
theorem dX7_remove_11 : decode cX7_remove 11 = .ok (.invokevirtual 76, 3) := by decide +kernel
theorem dX7_remove_14 : decode cX7_remove 14 = .ok (.istore_n 1, 1) := by decide +kernel
theorem dX7_remove_15 : decode cX7_remove 15 = .ok (.iload_n 1, 1) := by decide +kernel
theorem dX7_remove_16 : decode cX7_remove 16 = .ok (.ifCond .ge 5, 3) := by decide +kernel
theorem dX7_remove_19 : decode cX7_remove 19 = .ok (.iconst 0, 1) := by decide +kernel
theorem dX7_remove_20 : decode cX7_remove 20 = .ok (.ireturn, 1) := by decide +kernel
theorem dX7_remove_21 : decode cX7_remove 21 = .ok (.iload_n 1, 1) := by decide +kernel
theorem dX7_remove_22 : decode cX7_remove 22 = .ok (.istore_n 2, 1) := by decide +kernel
theorem dX7_remove_23 : decode cX7_remove 23 = .ok (.iload_n 2, 1) := by decide +kernel
theorem dX7_remove_24 : decode cX7_remove 24 = .ok (.iconst 1, 1) := by decide +kernel
theorem dX7_remove_25 : decode cX7_remove 25 = .ok (.iadd, 1) := by decide +kernel
theorem dX7_remove_26 : decode cX7_remove 26 = .ok (.aload_n 0, 1) := by decide +kernel
theorem dX7_remove_27 : decode cX7_remove 27 = .ok (.getfield 65, 3) := by decide +kernel
theorem dX7_remove_30 : decode cX7_remove 30 = .ok (.if_icmp .ge 17, 3) := by decide +kernel
theorem dX7_remove_33 : decode cX7_remove 33 = .ok (.aload_n 0, 1) := by decide +kernel
theorem dX7_remove_34 : decode cX7_remove 34 = .ok (.iload_n 2, 1) := by decide +kernel
theorem dX7_remove_35 : decode cX7_remove 35 = .ok (.iload_n 2, 1) := by decide +kernel
theorem dX7_remove_36 : decode cX7_remove 36 = .ok (.iconst 1, 1) := by decide +kernel
theorem dX7_remove_37 : decode cX7_remove 37 = .ok (.iadd, 1) := by decide +kernel
theorem dX7_remove_38 : decode cX7_remove 38 = .ok (.invokevirtual 80, 3) := by decide +kernel
theorem dX7_remove_41 : decode cX7_remove 41 = .ok (.iinc 2 1, 3) := by decide +kernel
theorem dX7_remove_44 : decode cX7_remove 44 = .ok (.goto (-21), 3) := by decide +kernel
theorem dX7_remove_47 : decode cX7_remove 47 = .ok (.aload_n 0, 1) := by decide +kernel
theorem dX7_remove_48 : decode cX7_remove 48 = .ok (.dup, 1) := by decide +kernel
theorem dX7_remove_49 : decode cX7_remove 49 = .ok (.getfield 65, 3) := by decide +kernel
theorem dX7_remove_52 : decode cX7_remove 52 = .ok (.iconst 1, 1) := by decide +kernel
theorem dX7_remove_53 : decode cX7_remove 53 = .ok (.isub, 1) := by decide +kernel
theorem dX7_remove_54 : decode cX7_remove 54 = .ok (.putfield 65, 3) := by decide +kernel
theorem dX7_remove_57 : decode cX7_remove 57 = .ok (.aload_n 0, 1) := by decide +kernel
theorem dX7_remove_58 : decode cX7_remove 58 = .ok (.iconst 0, 1) := by decide +kernel
theorem dX7_remove_59 : decode cX7_remove 59 = .ok (.putfield 84, 3) := by decide +kernel
theorem dX7_remove_62 : decode cX7_remove 62 = .ok (.iconst 1, 1) := by decide +kernel
theorem dX7_remove_63 : decode cX7_remove 63 = .ok (.ireturn, 1) := by decide +kernel
theorem dX7_words_0 : decode cX7_words 0 = .ok (.aload_n 0, 1) := by decide +kernel
theorem dX7_words_1 : decode cX7_words 1 = .ok (.iconst 0, 1) := by decide +kernel
theorem dX7_words_2 : decode cX7_words 2 = .ok (.putfield 50, 3) := by decide +kernel
theorem dX7_words_5 : decode cX7_words 5 = .ok (.aload_n 0, 1) := by decide +kernel
theorem dX7_words_6 : decode cX7_words 6 = .ok (.getfield 65, 3) := by decide +kernel
theorem dX7_words_9 : decode cX7_words 9 = .ok (.ireturn, 1) := by decide +kernel
theorem dX7_print_0 : decode cX7_print 0 = .ok (.aload_n 0, 1) := by decide +kernel
theorem dX7_print_1 : decode cX7_print 1 = .ok (.getfield 13, 3) := by decide +kernel
theorem dX7_print_4 : decode cX7_print 4 = .ok (.aload_n 0, 1) := by decide +kernel
theorem dX7_print_5 : decode cX7_print 5 = .ok (.getfield 87, 3) := by decide +kernel
theorem dX7_print_8 : decode cX7_print 8 = .ok (.iload_n 1, 1) := by decide +kernel
theorem dX7_print_9 : decode cX7_print 9 = .ok (.iastore, 1) := by decide +kernel
theorem dX7_print_10 : decode cX7_print 10 = .ok (.aload_n 0, 1) := by decide +kernel
theorem dX7_print_11 : decode cX7_print 11 = .ok (.dup, 1) := by decide +kernel
theorem dX7_print_12 : decode cX7_print 12 = .ok (.getfield 87, 3) := by decide +kernel
theorem dX7_print_15 : decode cX7_print 15 = .ok (.iconst 1, 1) := by decide +kernel
theorem dX7_print_16 : decode cX7_print 16 = .ok (.iadd, 1) := by decide +kernel
theorem dX7_print_17 : decode cX7_print 17 = .ok (.putfield 87, 3) := by decide +kernel
theorem dX7_print_20 : decode cX7_print 20 = .ok (.return_, 1) := by decide +kernel
theorem dX7_printWord_0 : decode cX7_printWord 0 = .ok (.iconst 0, 1) := by decide +kernel
theorem dX7_printWord_1 : decode cX7_printWord 1 = .ok (.istore_n 2, 1) := by decide +kernel
theorem dX7_printWord_2 : decode cX7_printWord 2 = .ok (.iload_n 2, 1) := by decide +kernel
theorem dX7_printWord_3 : decode cX7_printWord 3 = .ok (.aload_n 0, 1) := by decide +kernel
theorem dX7_printWord_4 : decode cX7_printWord 4 = .ok (.getfield 19, 3) := by decide +kernel
theorem dX7_printWord_7 : decode cX7_printWord 7 = .ok (.iload_n 1, 1) := by decide +kernel
theorem dX7_printWord_8 : decode cX7_printWord 8 = .ok (.iaload, 1) := by decide +kernel
theorem dX7_printWord_9 : decode cX7_printWord 9 = .ok (.if_icmp .ge 29, 3) := by decide +kernel
theorem dX7_printWord_12 : decode cX7_printWord 12 = .ok (.aload_n 0, 1) := by decide +kernel
theorem dX7_printWord_13 : decode cX7_printWord 13 = .ok (.bipush 97, 2) := by decide +kernel
theorem dX7_printWord_15 : decode cX7_printWord 15 = .ok (.aload_n 0, 1) := by decide +kernel
theorem dX7_printWord_16 : decode cX7_printWord 16 = .ok (.getfield 16, 3) := by decide +kernel
theorem dX7_printWord_19 : decode cX7_printWord 19 = .ok (.bipush 7, 2) := by decide +kernel
theorem dX7_printWord_21 : decode cX7_printWord 21 = .ok (.iload_n 1, 1) := by decide +kernel
theorem dX7_printWord_22 : decode cX7_printWord 22 = .ok (.imul, 1) := by decide +kernel
theorem dX7_printWord_23 : decode cX7_printWord 23 = .ok (.iload_n 2, 1) := by decide +kernel
theorem dX7_printWord_24 : decode cX7_printWord 24 = .ok (.iadd, 1) := by decide +kernel
theorem dX7_printWord_25 : decode cX7_printWord 25 = .ok (.iaload, 1) := by decide +kernel
theorem dX7_printWord_26 : decode cX7_printWord 26 = .ok (.iadd, 1) := by decide +kernel
theorem dX7_printWord_27 : decode cX7_printWord 27 = .ok (.iconst 1, 1) := by decide +kernel
theorem dX7_printWord_28 : decode cX7_printWord 28 = .ok (.isub, 1) := by decide +kernel
theorem dX7_printWord_29 : decode cX7_printWord 29 = .ok (.invokevirtual 90, 3) := by decide +kernel
theorem dX7_printWord_32 : decode cX7_printWord 32 = .ok (.iinc 2 1, 3) := by decide +kernel
theorem dX7_printWord_35 : decode cX7_printWord 35 = .ok (.goto (-33), 3) := by decide +kernel
theorem dX7_printWord_38 : decode cX7_printWord 38 = .ok (.return_, 1) := by decide +kernel
theorem dX7_word_0 : decode cX7_word 0 = .ok (.aload_n 0, 1) := by decide +kernel
theorem dX7_word_1 : decode cX7_word 1 = .ok (.iload_n 1, 1) := by decide +kernel
theorem dX7_word_2 : decode cX7_word 2 = .ok (.ifCond .lt 11, 3) := by decide +kernel
theorem dX7_word_5 : decode cX7_word 5 = .ok (.iload_n 1, 1) := by decide +kernel
theorem dX7_word_6 : decode cX7_word 6 = .ok (.aload_n 0, 1) := by decide +kernel
theorem dX7_word_7 : decode cX7_word 7 = .ok (.getfield 65, 3) := by decide +kernel
theorem dX7_word_10 : decode cX7_word 10 = .ok (.if_icmp .lt 7, 3) := by decide +kernel
theorem dX7_word_13 : decode cX7_word 13 = .ok (.iconst 1, 1) := by decide +kernel
theorem dX7_word_14 : decode cX7_word 14 = .ok (.goto 4, 3) := by decide +kernel
theorem dX7_word_17 : decode cX7_word 17 = .ok (.iconst 0, 1) := by decide +kernel
theorem dX7_word_18 : decode cX7_word 18 = .ok (.putfield 50, 3) := by decide +kernel
theorem dX7_word_21 : decode cX7_word 21 = .ok (.aload_n 0, 1) := by decide +kernel
theorem dX7_word_22 : decode cX7_word 22 = .ok (.getfield 50, 3) := by decide +kernel
theorem dX7_word_25 : decode cX7_word 25 = .ok (.ifCond .le 5, 3) := by decide +kernel
theorem dX7_word_28 : decode cX7_word 28 = .ok (.iconst 0, 1) := by decide +kernel
theorem dX7_word_29 : decode cX7_word 29 = .ok (.ireturn, 1) := by decide +kernel
theorem dX7_word_30 : decode cX7_word 30 = .ok (.aload_n 0, 1) := by decide +kernel
theorem dX7_word_31 : decode cX7_word 31 = .ok (.iconst 0, 1) := by decide +kernel
theorem dX7_word_32 : decode cX7_word 32 = .ok (.putfield 87, 3) := by decide +kernel
theorem dX7_word_35 : decode cX7_word 35 = .ok (.aload_n 0, 1) := by decide +kernel
theorem dX7_word_36 : decode cX7_word 36 = .ok (.iload_n 1, 1) := by decide +kernel
theorem dX7_word_37 : decode cX7_word 37 = .ok (.invokevirtual 94, 3) := by decide +kernel
theorem dX7_word_40 : decode cX7_word 40 = .ok (.aload_n 0, 1) := by decide +kernel
theorem dX7_word_41 : decode cX7_word 41 = .ok (.getfield 87, 3) := by decide +kernel
theorem dX7_word_44 : decode cX7_word 44 = .ok (.ireturn, 1) := by decide +kernel
theorem dX7_rank_0 : decode cX7_rank 0 = .ok (.aload_n 0, 1) := by decide +kernel
theorem dX7_rank_1 : decode cX7_rank 1 = .ok (.iconst 0, 1) := by decide +kernel
theorem dX7_rank_2 : decode cX7_rank 2 = .ok (.putfield 50, 3) := by decide +kernel
theorem dX7_rank_5 : decode cX7_rank 5 = .ok (.aload_n 0, 1) := by decide +kernel
theorem dX7_rank_6 : decode cX7_rank 6 = .ok (.iconst 0, 1) := by decide +kernel
theorem dX7_rank_7 : decode cX7_rank 7 = .ok (.aload_n 0, 1) := by decide +kernel
theorem dX7_rank_8 : decode cX7_rank 8 = .ok (.invokevirtual 57, 3) := by decide +kernel
theorem dX7_rank_11 : decode cX7_rank 11 = .ok (.invokevirtual 76, 3) := by decide +kernel
theorem dX7_rank_14 : decode cX7_rank 14 = .ok (.ireturn, 1) := by decide +kernel
theorem dX7_starting_0 : decode cX7_starting 0 = .ok (.aload_n 0, 1) := by decide +kernel
theorem dX7_starting_1 : decode cX7_starting 1 = .ok (.iconst 0, 1) := by decide +kernel
theorem dX7_starting_2 : decode cX7_starting 2 = .ok (.putfield 50, 3) := by decide +kernel
theorem dX7_starting_5 : decode cX7_starting 5 = .ok (.aload_n 0, 1) := by decide +kernel
theorem dX7_starting_6 : decode cX7_starting 6 = .ok (.invokevirtual 57, 3) := by decide +kernel
theorem dX7_starting_9 : decode cX7_starting 9 = .ok (.istore_n 1, 1) := by decide +kernel
theorem dX7_starting_10 : decode cX7_starting 10 = .ok (.iconst 0, 1) := by decide +kernel
theorem dX7_starting_11 : decode cX7_starting 11 = .ok (.istore_n 2, 1) := by decide +kernel
theorem dX7_starting_12 : decode cX7_starting 12 = .ok (.iconst 0, 1) := by decide +kernel
theorem dX7_starting_13 : decode cX7_starting 13 = .ok (.istore_n 3, 1) := by decide +kernel
theorem dX7_starting_14 : decode cX7_starting 14 = .ok (.iload_n 3, 1) := by decide +kernel
theorem dX7_starting_15 : decode cX7_starting 15 = .ok (.aload_n 0, 1) := by decide +kernel
theorem dX7_starting_16 : decode cX7_starting 16 = .ok (.getfield 65, 3) := by decide +kernel
theorem dX7_starting_19 : decode cX7_starting 19 = .ok (.if_icmp .ge 26, 3) := by decide +kernel
theorem dX7_starting_22 : decode cX7_starting 22 = .ok (.aload_n 0, 1) := by decide +kernel
theorem dX7_starting_23 : decode cX7_starting 23 = .ok (.iload_n 3, 1) := by decide +kernel
theorem dX7_starting_24 : decode cX7_starting 24 = .ok (.iload_n 1, 1) := by decide +kernel
theorem dX7_starting_25 : decode cX7_starting 25 = .ok (.invokevirtual 97, 3) := by decide +kernel
theorem dX7_starting_28 : decode cX7_starting 28 = .ok (.ifCond .eq 9, 3) := by decide +kernel
theorem dX7_starting_31 : decode cX7_starting 31 = .ok (.iload_n 2, 1) := by decide +kernel
theorem dX7_starting_32 : decode cX7_starting 32 = .ok (.iconst 1, 1) := by decide +kernel
theorem dX7_starting_33 : decode cX7_starting 33 = .ok (.iadd, 1) := by decide +kernel
theorem dX7_starting_34 : decode cX7_starting 34 = .ok (.goto 4, 3) := by decide +kernel
theorem dX7_starting_37 : decode cX7_starting 37 = .ok (.iload_n 2, 1) := by decide +kernel
theorem dX7_starting_38 : decode cX7_starting 38 = .ok (.istore_n 2, 1) := by decide +kernel
theorem dX7_starting_39 : decode cX7_starting 39 = .ok (.iinc 3 1, 3) := by decide +kernel
theorem dX7_starting_42 : decode cX7_starting 42 = .ok (.goto (-28), 3) := by decide +kernel
theorem dX7_starting_45 : decode cX7_starting 45 = .ok (.iload_n 2, 1) := by decide +kernel
theorem dX7_starting_46 : decode cX7_starting 46 = .ok (.ireturn, 1) := by decide +kernel
theorem dX7_longest_0 : decode cX7_longest 0 = .ok (.aload_n 0, 1) := by decide +kernel
theorem dX7_longest_1 : decode cX7_longest 1 = .ok (.iconst 0, 1) := by decide +kernel
theorem dX7_longest_2 : decode cX7_longest 2 = .ok (.putfield 50, 3) := by decide +kernel
theorem dX7_longest_5 : decode cX7_longest 5 = .ok (.aload_n 0, 1) := by decide +kernel
theorem dX7_longest_6 : decode cX7_longest 6 = .ok (.invokevirtual 57, 3) := by decide +kernel
theorem dX7_longest_9 : decode cX7_longest 9 = .ok (.istore_n 1, 1) := by decide +kernel
theorem dX7_longest_10 : decode cX7_longest 10 = .ok (.iconst (-1), 1) := by decide +kernel
theorem dX7_longest_11 : decode cX7_longest 11 = .ok (.istore_n 2, 1) := by decide +kernel
theorem dX7_longest_12 : decode cX7_longest 12 = .ok (.iconst 1, 1) := by decide +kernel
theorem dX7_longest_13 : decode cX7_longest 13 = .ok (.istore_n 3, 1) := by decide +kernel
theorem dX7_longest_14 : decode cX7_longest 14 = .ok (.iload_n 3, 1) := by decide +kernel
theorem dX7_longest_15 : decode cX7_longest 15 = .ok (.bipush 7, 2) := by decide +kernel
theorem dX7_longest_17 : decode cX7_longest 17 = .ok (.if_icmp .gt 34, 3) := by decide +kernel
theorem dX7_longest_20 : decode cX7_longest 20 = .ok (.iload_n 3, 1) := by decide +kernel
theorem dX7_longest_21 : decode cX7_longest 21 = .ok (.iload_n 1, 1) := by decide +kernel
theorem dX7_longest_22 : decode cX7_longest 22 = .ok (.if_icmp .gt 29, 3) := by decide +kernel
theorem dX7_longest_25 : decode cX7_longest 25 = .ok (.aload_n 0, 1) := by decide +kernel
theorem dX7_longest_26 : decode cX7_longest 26 = .ok (.iconst 0, 1) := by decide +kernel
theorem dX7_longest_27 : decode cX7_longest 27 = .ok (.iload_n 3, 1) := by decide +kernel
theorem dX7_longest_28 : decode cX7_longest 28 = .ok (.invokevirtual 76, 3) := by decide +kernel
theorem dX7_longest_31 : decode cX7_longest 31 = .ok (.istore 4, 2) := by decide +kernel
theorem dX7_longest_33 : decode cX7_longest 33 = .ok (.iload 4, 2) := by decide +kernel
theorem dX7_longest_35 : decode cX7_longest 35 = .ok (.ifCond .lt 8, 3) := by decide +kernel
theorem dX7_longest_38 : decode cX7_longest 38 = .ok (.iload 4, 2) := by decide +kernel
theorem dX7_longest_40 : decode cX7_longest 40 = .ok (.goto 4, 3) := by decide +kernel
theorem dX7_longest_43 : decode cX7_longest 43 = .ok (.iload_n 2, 1) := by decide +kernel
theorem dX7_longest_44 : decode cX7_longest 44 = .ok (.istore_n 2, 1) := by decide +kernel
theorem dX7_longest_45 : decode cX7_longest 45 = .ok (.iinc 3 1, 3) := by decide +kernel
theorem dX7_longest_48 : decode cX7_longest 48 = .ok (.goto (-34), 3) := by decide +kernel
theorem dX7_longest_51 : decode cX7_longest 51 = .ok (.iload_n 2, 1) := by decide +kernel
theorem dX7_longest_52 : decode cX7_longest 52 = .ok (.ireturn, 1) := by decide +kernel
theorem dX7_shares_0 : decode cX7_shares 0 = .ok (.iload_n 3, 1) := by decide +kernel
theorem dX7_shares_1 : decode cX7_shares 1 = .ok (.aload_n 0, 1) := by decide +kernel
theorem dX7_shares_2 : decode cX7_shares 2 = .ok (.getfield 19, 3) := by decide +kernel
theorem dX7_shares_5 : decode cX7_shares 5 = .ok (.iload_n 1, 1) := by decide +kernel
theorem dX7_shares_6 : decode cX7_shares 6 = .ok (.iaload, 1) := by decide +kernel
theorem dX7_shares_7 : decode cX7_shares 7 = .ok (.if_icmp .gt 17, 3) := by decide +kernel
theorem dX7_shares_10 : decode cX7_shares 10 = .ok (.iload_n 3, 1) := by decide +kernel
theorem dX7_shares_11 : decode cX7_shares 11 = .ok (.aload_n 0, 1) := by decide +kernel
theorem dX7_shares_12 : decode cX7_shares 12 = .ok (.getfield 19, 3) := by decide +kernel
theorem dX7_shares_15 : decode cX7_shares 15 = .ok (.iload_n 2, 1) := by decide +kernel
theorem dX7_shares_16 : decode cX7_shares 16 = .ok (.iaload, 1) := by decide +kernel
theorem dX7_shares_17 : decode cX7_shares 17 = .ok (.if_icmp .gt 7, 3) := by decide +kernel
theorem dX7_shares_20 : decode cX7_shares 20 = .ok (.iconst 1, 1) := by decide +kernel
theorem dX7_shares_21 : decode cX7_shares 21 = .ok (.goto 4, 3) := by decide +kernel
theorem dX7_shares_24 : decode cX7_shares 24 = .ok (.iconst 0, 1) := by decide +kernel
theorem dX7_shares_25 : decode cX7_shares 25 = .ok (.istore 4, 2) := by decide +kernel
theorem dX7_shares_27 : decode cX7_shares 27 = .ok (.iconst 0, 1) := by decide +kernel
theorem dX7_shares_28 : decode cX7_shares 28 = .ok (.istore 5, 2) := by decide +kernel
theorem dX7_shares_30 : decode cX7_shares 30 = .ok (.iload 5, 2) := by decide +kernel
theorem dX7_shares_32 : decode cX7_shares 32 = .ok (.iload_n 3, 1) := by decide +kernel
theorem dX7_shares_33 : decode cX7_shares 33 = .ok (.if_icmp .ge 48, 3) := by decide +kernel
theorem dX7_shares_36 : decode cX7_shares 36 = .ok (.iload 4, 2) := by decide +kernel
theorem dX7_shares_38 : decode cX7_shares 38 = .ok (.ifCond .eq 43, 3) := by decide +kernel
theorem dX7_shares_41 : decode cX7_shares 41 = .ok (.aload_n 0, 1) := by decide +kernel
theorem dX7_shares_42 : decode cX7_shares 42 = .ok (.getfield 16, 3) := by decide +kernel
theorem dX7_shares_45 : decode cX7_shares 45 = .ok (.bipush 7, 2) := by decide +kernel
theorem dX7_shares_47 : decode cX7_shares 47 = .ok (.iload_n 1, 1) := by decide +kernel
theorem dX7_shares_48 : decode cX7_shares 48 = .ok (.imul, 1) := by decide +kernel
theorem dX7_shares_49 : decode cX7_shares 49 = .ok (.iload 5, 2) := by decide +kernel
theorem dX7_shares_51 : decode cX7_shares 51 = .ok (.iadd, 1) := by decide +kernel
theorem dX7_shares_52 : decode cX7_shares 52 = .ok (.iaload, 1) := by decide +kernel
theorem dX7_shares_53 : decode cX7_shares 53 = .ok (.aload_n 0, 1) := by decide +kernel
theorem dX7_shares_54 : decode cX7_shares 54 = .ok (.getfield 16, 3) := by decide +kernel
theorem dX7_shares_57 : decode cX7_shares 57 = .ok (.bipush 7, 2) := by decide +kernel
theorem dX7_shares_59 : decode cX7_shares 59 = .ok (.iload_n 2, 1) := by decide +kernel
theorem dX7_shares_60 : decode cX7_shares 60 = .ok (.imul, 1) := by decide +kernel
theorem dX7_shares_61 : decode cX7_shares 61 = .ok (.iload 5, 2) := by decide +kernel
theorem dX7_shares_63 : decode cX7_shares 63 = .ok (.iadd, 1) := by decide +kernel
theorem dX7_shares_64 : decode cX7_shares 64 = .ok (.iaload, 1) := by decide +kernel
theorem dX7_shares_65 : decode cX7_shares 65 = .ok (.if_icmp .ne 7, 3) := by decide +kernel
theorem dX7_shares_68 : decode cX7_shares 68 = .ok (.iconst 1, 1) := by decide +kernel
theorem dX7_shares_69 : decode cX7_shares 69 = .ok (.goto 4, 3) := by decide +kernel
theorem dX7_shares_72 : decode cX7_shares 72 = .ok (.iconst 0, 1) := by decide +kernel
theorem dX7_shares_73 : decode cX7_shares 73 = .ok (.istore 4, 2) := by decide +kernel
theorem dX7_shares_75 : decode cX7_shares 75 = .ok (.iinc 5 1, 3) := by decide +kernel
theorem dX7_shares_78 : decode cX7_shares 78 = .ok (.goto (-48), 3) := by decide +kernel
theorem dX7_shares_81 : decode cX7_shares 81 = .ok (.iload 4, 2) := by decide +kernel
theorem dX7_shares_83 : decode cX7_shares 83 = .ok (.ireturn, 1) := by decide +kernel
theorem dX7_findPrefixes_0 : decode cX7_findPrefixes 0 = .ok (.aload_n 0, 1) := by decide +kernel
theorem dX7_findPrefixes_1 : decode cX7_findPrefixes 1 = .ok (.getfield 22, 3) := by decide +kernel
theorem dX7_findPrefixes_4 : decode cX7_findPrefixes 4 = .ok (.iconst 0, 1) := by decide +kernel
theorem dX7_findPrefixes_5 : decode cX7_findPrefixes 5 = .ok (.iconst 0, 1) := by decide +kernel
theorem dX7_findPrefixes_6 : decode cX7_findPrefixes 6 = .ok (.iastore, 1) := by decide +kernel
theorem dX7_findPrefixes_7 : decode cX7_findPrefixes 7 = .ok (.aload_n 0, 1) := by decide +kernel
theorem dX7_findPrefixes_8 : decode cX7_findPrefixes 8 = .ok (.getfield 25, 3) := by decide +kernel
theorem dX7_findPrefixes_11 : decode cX7_findPrefixes 11 = .ok (.iconst 0, 1) := by decide +kernel
theorem dX7_findPrefixes_12 : decode cX7_findPrefixes 12 = .ok (.aload_n 0, 1) := by decide +kernel
theorem dX7_findPrefixes_13 : decode cX7_findPrefixes 13 = .ok (.getfield 65, 3) := by decide +kernel
theorem dX7_findPrefixes_16 : decode cX7_findPrefixes 16 = .ok (.iastore, 1) := by decide +kernel
theorem dX7_findPrefixes_17 : decode cX7_findPrefixes 17 = .ok (.aload_n 0, 1) := by decide +kernel
theorem dX7_findPrefixes_18 : decode cX7_findPrefixes 18 = .ok (.getfield 28, 3) := by decide +kernel
theorem dX7_findPrefixes_21 : decode cX7_findPrefixes 21 = .ok (.iconst 0, 1) := by decide +kernel
theorem dX7_findPrefixes_22 : decode cX7_findPrefixes 22 = .ok (.iconst 0, 1) := by decide +kernel
theorem dX7_findPrefixes_23 : decode cX7_findPrefixes 23 = .ok (.iastore, 1) := by decide +kernel
theorem dX7_findPrefixes_24 : decode cX7_findPrefixes 24 = .ok (.aload_n 0, 1) := by decide +kernel
theorem dX7_findPrefixes_25 : decode cX7_findPrefixes 25 = .ok (.iconst 1, 1) := by decide +kernel
theorem dX7_findPrefixes_26 : decode cX7_findPrefixes 26 = .ok (.putfield 100, 3) := by decide +kernel
theorem dX7_findPrefixes_29 : decode cX7_findPrefixes 29 = .ok (.iconst 0, 1) := by decide +kernel
theorem dX7_findPrefixes_30 : decode cX7_findPrefixes 30 = .ok (.istore_n 1, 1) := by decide +kernel
theorem dX7_findPrefixes_31 : decode cX7_findPrefixes 31 = .ok (.iload_n 1, 1) := by decide +kernel
theorem dX7_findPrefixes_32 : decode cX7_findPrefixes 32 = .ok (.aload_n 0, 1) := by decide +kernel
theorem dX7_findPrefixes_33 : decode cX7_findPrefixes 33 = .ok (.getfield 65, 3) := by decide +kernel
theorem dX7_findPrefixes_36 : decode cX7_findPrefixes 36 = .ok (.if_icmp .ge 111, 3) := by decide +kernel
theorem dX7_findPrefixes_39 : decode cX7_findPrefixes 39 = .ok (.iconst 1, 1) := by decide +kernel
theorem dX7_findPrefixes_40 : decode cX7_findPrefixes 40 = .ok (.istore_n 2, 1) := by decide +kernel
theorem dX7_findPrefixes_41 : decode cX7_findPrefixes 41 = .ok (.iload_n 2, 1) := by decide +kernel
theorem dX7_findPrefixes_42 : decode cX7_findPrefixes 42 = .ok (.aload_n 0, 1) := by decide +kernel
theorem dX7_findPrefixes_43 : decode cX7_findPrefixes 43 = .ok (.getfield 19, 3) := by decide +kernel
theorem dX7_findPrefixes_46 : decode cX7_findPrefixes 46 = .ok (.iload_n 1, 1) := by decide +kernel
theorem dX7_findPrefixes_47 : decode cX7_findPrefixes 47 = .ok (.iaload, 1) := by decide +kernel
theorem dX7_findPrefixes_48 : decode cX7_findPrefixes 48 = .ok (.if_icmp .gt 93, 3) := by decide +kernel
theorem dX7_findPrefixes_51 : decode cX7_findPrefixes 51 = .ok (.iload_n 1, 1) := by decide +kernel
theorem dX7_findPrefixes_52 : decode cX7_findPrefixes 52 = .ok (.ifCond .eq 15, 3) := by decide +kernel
theorem dX7_findPrefixes_55 : decode cX7_findPrefixes 55 = .ok (.aload_n 0, 1) := by decide +kernel
theorem dX7_findPrefixes_56 : decode cX7_findPrefixes 56 = .ok (.iload_n 1, 1) := by decide +kernel
theorem dX7_findPrefixes_57 : decode cX7_findPrefixes 57 = .ok (.iconst 1, 1) := by decide +kernel
theorem dX7_findPrefixes_58 : decode cX7_findPrefixes 58 = .ok (.isub, 1) := by decide +kernel
theorem dX7_findPrefixes_59 : decode cX7_findPrefixes 59 = .ok (.iload_n 1, 1) := by decide +kernel
theorem dX7_findPrefixes_60 : decode cX7_findPrefixes 60 = .ok (.iload_n 2, 1) := by decide +kernel
theorem dX7_findPrefixes_61 : decode cX7_findPrefixes 61 = .ok (.invokevirtual 103, 3) := by decide +kernel
theorem dX7_findPrefixes_64 : decode cX7_findPrefixes 64 = .ok (.ifCond .ne 71, 3) := by decide +kernel
theorem dX7_findPrefixes_67 : decode cX7_findPrefixes 67 = .ok (.iload_n 1, 1) := by decide +kernel
theorem dX7_findPrefixes_68 : decode cX7_findPrefixes 68 = .ok (.iconst 1, 1) := by decide +kernel
theorem dX7_findPrefixes_69 : decode cX7_findPrefixes 69 = .ok (.iadd, 1) := by decide +kernel
theorem dX7_findPrefixes_70 : decode cX7_findPrefixes 70 = .ok (.istore_n 3, 1) := by decide +kernel
theorem dX7_findPrefixes_71 : decode cX7_findPrefixes 71 = .ok (.iload_n 3, 1) := by decide +kernel
theorem dX7_findPrefixes_72 : decode cX7_findPrefixes 72 = .ok (.aload_n 0, 1) := by decide +kernel
theorem dX7_findPrefixes_73 : decode cX7_findPrefixes 73 = .ok (.getfield 65, 3) := by decide +kernel
theorem dX7_findPrefixes_76 : decode cX7_findPrefixes 76 = .ok (.if_icmp .ge 19, 3) := by decide +kernel
theorem dX7_findPrefixes_79 : decode cX7_findPrefixes 79 = .ok (.aload_n 0, 1) := by decide +kernel
theorem dX7_findPrefixes_80 : decode cX7_findPrefixes 80 = .ok (.iload_n 1, 1) := by decide +kernel
theorem dX7_findPrefixes_81 : decode cX7_findPrefixes 81 = .ok (.iload_n 3, 1) := by decide +kernel
theorem dX7_findPrefixes_82 : decode cX7_findPrefixes 82 = .ok (.iload_n 2, 1) := by decide +kernel
theorem dX7_findPrefixes_83 : decode cX7_findPrefixes 83 = .ok (.invokevirtual 103, 3) := by decide +kernel
theorem dX7_findPrefixes_86 : decode cX7_findPrefixes 86 = .ok (.ifCond .eq 9, 3) := by decide +kernel
theorem dX7_findPrefixes_89 : decode cX7_findPrefixes 89 = .ok (.iinc 3 1, 3) := by decide +kernel
theorem dX7_findPrefixes_92 : decode cX7_findPrefixes 92 = .ok (.goto (-21), 3) := by decide +kernel
theorem dX7_findPrefixes_95 : decode cX7_findPrefixes 95 = .ok (.aload_n 0, 1) := by decide +kernel
theorem dX7_findPrefixes_96 : decode cX7_findPrefixes 96 = .ok (.getfield 22, 3) := by decide +kernel
theorem dX7_findPrefixes_99 : decode cX7_findPrefixes 99 = .ok (.aload_n 0, 1) := by decide +kernel
theorem dX7_findPrefixes_100 : decode cX7_findPrefixes 100 = .ok (.getfield 100, 3) := by decide +kernel
theorem dX7_findPrefixes_103 : decode cX7_findPrefixes 103 = .ok (.iload_n 1, 1) := by decide +kernel
theorem dX7_findPrefixes_104 : decode cX7_findPrefixes 104 = .ok (.iastore, 1) := by decide +kernel
theorem dX7_findPrefixes_105 : decode cX7_findPrefixes 105 = .ok (.aload_n 0, 1) := by decide +kernel
theorem dX7_findPrefixes_106 : decode cX7_findPrefixes 106 = .ok (.getfield 25, 3) := by decide +kernel
theorem dX7_findPrefixes_109 : decode cX7_findPrefixes 109 = .ok (.aload_n 0, 1) := by decide +kernel
theorem dX7_findPrefixes_110 : decode cX7_findPrefixes 110 = .ok (.getfield 100, 3) := by decide +kernel
theorem dX7_findPrefixes_113 : decode cX7_findPrefixes 113 = .ok (.iload_n 3, 1) := by decide +kernel
theorem dX7_findPrefixes_114 : decode cX7_findPrefixes 114 = .ok (.iastore, 1) := by decide +kernel
theorem dX7_findPrefixes_115 : decode cX7_findPrefixes 115 = .ok (.aload_n 0, 1) := by decide +kernel
theorem dX7_findPrefixes_116 : decode cX7_findPrefixes 116 = .ok (.getfield 28, 3) := by decide +kernel
theorem dX7_findPrefixes_119 : decode cX7_findPrefixes 119 = .ok (.aload_n 0, 1) := by decide +kernel
theorem dX7_findPrefixes_120 : decode cX7_findPrefixes 120 = .ok (.getfield 100, 3) := by decide +kernel
theorem dX7_findPrefixes_123 : decode cX7_findPrefixes 123 = .ok (.iload_n 2, 1) := by decide +kernel
theorem dX7_findPrefixes_124 : decode cX7_findPrefixes 124 = .ok (.iastore, 1) := by decide +kernel
theorem dX7_findPrefixes_125 : decode cX7_findPrefixes 125 = .ok (.aload_n 0, 1) := by decide +kernel
theorem dX7_findPrefixes_126 : decode cX7_findPrefixes 126 = .ok (.dup, 1) := by decide +kernel
theorem dX7_findPrefixes_127 : decode cX7_findPrefixes 127 = .ok (.getfield 100, 3) := by decide +kernel
theorem dX7_findPrefixes_130 : decode cX7_findPrefixes 130 = .ok (.iconst 1, 1) := by decide +kernel
theorem dX7_findPrefixes_131 : decode cX7_findPrefixes 131 = .ok (.iadd, 1) := by decide +kernel
theorem dX7_findPrefixes_132 : decode cX7_findPrefixes 132 = .ok (.putfield 100, 3) := by decide +kernel
theorem dX7_findPrefixes_135 : decode cX7_findPrefixes 135 = .ok (.iinc 2 1, 3) := by decide +kernel
theorem dX7_findPrefixes_138 : decode cX7_findPrefixes 138 = .ok (.goto (-97), 3) := by decide +kernel
theorem dX7_findPrefixes_141 : decode cX7_findPrefixes 141 = .ok (.iinc 1 1, 3) := by decide +kernel
theorem dX7_findPrefixes_144 : decode cX7_findPrefixes 144 = .ok (.goto (-113), 3) := by decide +kernel
theorem dX7_findPrefixes_147 : decode cX7_findPrefixes 147 = .ok (.return_, 1) := by decide +kernel
theorem dX7_areAlike_0 : decode cX7_areAlike 0 = .ok (.aload_n 0, 1) := by decide +kernel
theorem dX7_areAlike_1 : decode cX7_areAlike 1 = .ok (.getfield 25, 3) := by decide +kernel
theorem dX7_areAlike_4 : decode cX7_areAlike 4 = .ok (.iload_n 1, 1) := by decide +kernel
theorem dX7_areAlike_5 : decode cX7_areAlike 5 = .ok (.iaload, 1) := by decide +kernel
theorem dX7_areAlike_6 : decode cX7_areAlike 6 = .ok (.aload_n 0, 1) := by decide +kernel
theorem dX7_areAlike_7 : decode cX7_areAlike 7 = .ok (.getfield 22, 3) := by decide +kernel
theorem dX7_areAlike_10 : decode cX7_areAlike 10 = .ok (.iload_n 1, 1) := by decide +kernel
theorem dX7_areAlike_11 : decode cX7_areAlike 11 = .ok (.iaload, 1) := by decide +kernel
theorem dX7_areAlike_12 : decode cX7_areAlike 12 = .ok (.isub, 1) := by decide +kernel
theorem dX7_areAlike_13 : decode cX7_areAlike 13 = .ok (.aload_n 0, 1) := by decide +kernel
theorem dX7_areAlike_14 : decode cX7_areAlike 14 = .ok (.getfield 25, 3) := by decide +kernel
theorem dX7_areAlike_17 : decode cX7_areAlike 17 = .ok (.iload_n 2, 1) := by decide +kernel
theorem dX7_areAlike_18 : decode cX7_areAlike 18 = .ok (.iaload, 1) := by decide +kernel
theorem dX7_areAlike_19 : decode cX7_areAlike 19 = .ok (.aload_n 0, 1) := by decide +kernel
theorem dX7_areAlike_20 : decode cX7_areAlike 20 = .ok (.getfield 22, 3) := by decide +kernel
theorem dX7_areAlike_23 : decode cX7_areAlike 23 = .ok (.iload_n 2, 1) := by decide +kernel
theorem dX7_areAlike_24 : decode cX7_areAlike 24 = .ok (.iaload, 1) := by decide +kernel
theorem dX7_areAlike_25 : decode cX7_areAlike 25 = .ok (.isub, 1) := by decide +kernel
theorem dX7_areAlike_26 : decode cX7_areAlike 26 = .ok (.if_icmp .ne 7, 3) := by decide +kernel
theorem dX7_areAlike_29 : decode cX7_areAlike 29 = .ok (.iconst 1, 1) := by decide +kernel
theorem dX7_areAlike_30 : decode cX7_areAlike 30 = .ok (.goto 4, 3) := by decide +kernel
theorem dX7_areAlike_33 : decode cX7_areAlike 33 = .ok (.iconst 0, 1) := by decide +kernel
theorem dX7_areAlike_34 : decode cX7_areAlike 34 = .ok (.istore_n 3, 1) := by decide +kernel
theorem dX7_areAlike_35 : decode cX7_areAlike 35 = .ok (.iconst 0, 1) := by decide +kernel
theorem dX7_areAlike_36 : decode cX7_areAlike 36 = .ok (.istore 4, 2) := by decide +kernel
theorem dX7_areAlike_38 : decode cX7_areAlike 38 = .ok (.iload 4, 2) := by decide +kernel
theorem dX7_areAlike_40 : decode cX7_areAlike 40 = .ok (.aload_n 0, 1) := by decide +kernel
theorem dX7_areAlike_41 : decode cX7_areAlike 41 = .ok (.getfield 25, 3) := by decide +kernel
theorem dX7_areAlike_44 : decode cX7_areAlike 44 = .ok (.iload_n 1, 1) := by decide +kernel
theorem dX7_areAlike_45 : decode cX7_areAlike 45 = .ok (.iaload, 1) := by decide +kernel
theorem dX7_areAlike_46 : decode cX7_areAlike 46 = .ok (.aload_n 0, 1) := by decide +kernel
theorem dX7_areAlike_47 : decode cX7_areAlike 47 = .ok (.getfield 22, 3) := by decide +kernel
theorem dX7_areAlike_50 : decode cX7_areAlike 50 = .ok (.iload_n 1, 1) := by decide +kernel
theorem dX7_areAlike_51 : decode cX7_areAlike 51 = .ok (.iaload, 1) := by decide +kernel
theorem dX7_areAlike_52 : decode cX7_areAlike 52 = .ok (.isub, 1) := by decide +kernel
theorem dX7_areAlike_53 : decode cX7_areAlike 53 = .ok (.if_icmp .ge 145, 3) := by decide +kernel
theorem dX7_areAlike_56 : decode cX7_areAlike 56 = .ok (.iload_n 3, 1) := by decide +kernel
theorem dX7_areAlike_57 : decode cX7_areAlike 57 = .ok (.ifCond .eq 141, 3) := by decide +kernel
theorem dX7_areAlike_60 : decode cX7_areAlike 60 = .ok (.aload_n 0, 1) := by decide +kernel
theorem dX7_areAlike_61 : decode cX7_areAlike 61 = .ok (.getfield 22, 3) := by decide +kernel
theorem dX7_areAlike_64 : decode cX7_areAlike 64 = .ok (.iload_n 1, 1) := by decide +kernel
theorem dX7_areAlike_65 : decode cX7_areAlike 65 = .ok (.iaload, 1) := by decide +kernel
theorem dX7_areAlike_66 : decode cX7_areAlike 66 = .ok (.iload 4, 2) := by decide +kernel
theorem dX7_areAlike_68 : decode cX7_areAlike 68 = .ok (.iadd, 1) := by decide +kernel
theorem dX7_areAlike_69 : decode cX7_areAlike 69 = .ok (.istore 5, 2) := by decide +kernel
theorem dX7_areAlike_71 : decode cX7_areAlike 71 = .ok (.aload_n 0, 1) := by decide +kernel
theorem dX7_areAlike_72 : decode cX7_areAlike 72 = .ok (.getfield 22, 3) := by decide +kernel
theorem dX7_areAlike_75 : decode cX7_areAlike 75 = .ok (.iload_n 2, 1) := by decide +kernel
theorem dX7_areAlike_76 : decode cX7_areAlike 76 = .ok (.iaload, 1) := by decide +kernel
theorem dX7_areAlike_77 : decode cX7_areAlike 77 = .ok (.iload 4, 2) := by decide +kernel
theorem dX7_areAlike_79 : decode cX7_areAlike 79 = .ok (.iadd, 1) := by decide +kernel
theorem dX7_areAlike_80 : decode cX7_areAlike 80 = .ok (.istore 6, 2) := by decide +kernel
theorem dX7_areAlike_82 : decode cX7_areAlike 82 = .ok (.aload_n 0, 1) := by decide +kernel
theorem dX7_areAlike_83 : decode cX7_areAlike 83 = .ok (.getfield 19, 3) := by decide +kernel
theorem dX7_areAlike_86 : decode cX7_areAlike 86 = .ok (.iload 5, 2) := by decide +kernel
theorem dX7_areAlike_88 : decode cX7_areAlike 88 = .ok (.iaload, 1) := by decide +kernel
theorem dX7_areAlike_89 : decode cX7_areAlike 89 = .ok (.aload_n 0, 1) := by decide +kernel
theorem dX7_areAlike_90 : decode cX7_areAlike 90 = .ok (.getfield 28, 3) := by decide +kernel
theorem dX7_areAlike_93 : decode cX7_areAlike 93 = .ok (.iload_n 1, 1) := by decide +kernel
theorem dX7_areAlike_94 : decode cX7_areAlike 94 = .ok (.iaload, 1) := by decide +kernel
theorem dX7_areAlike_95 : decode cX7_areAlike 95 = .ok (.isub, 1) := by decide +kernel
theorem dX7_areAlike_96 : decode cX7_areAlike 96 = .ok (.istore 7, 2) := by decide +kernel
theorem dX7_areAlike_98 : decode cX7_areAlike 98 = .ok (.iload 7, 2) := by decide +kernel
theorem dX7_areAlike_100 : decode cX7_areAlike 100 = .ok (.aload_n 0, 1) := by decide +kernel
theorem dX7_areAlike_101 : decode cX7_areAlike 101 = .ok (.getfield 19, 3) := by decide +kernel
theorem dX7_areAlike_104 : decode cX7_areAlike 104 = .ok (.iload 6, 2) := by decide +kernel
theorem dX7_areAlike_106 : decode cX7_areAlike 106 = .ok (.iaload, 1) := by decide +kernel
theorem dX7_areAlike_107 : decode cX7_areAlike 107 = .ok (.aload_n 0, 1) := by decide +kernel
theorem dX7_areAlike_108 : decode cX7_areAlike 108 = .ok (.getfield 28, 3) := by decide +kernel
theorem dX7_areAlike_111 : decode cX7_areAlike 111 = .ok (.iload_n 2, 1) := by decide +kernel
theorem dX7_areAlike_112 : decode cX7_areAlike 112 = .ok (.iaload, 1) := by decide +kernel
theorem dX7_areAlike_113 : decode cX7_areAlike 113 = .ok (.isub, 1) := by decide +kernel
theorem dX7_areAlike_114 : decode cX7_areAlike 114 = .ok (.if_icmp .ne 7, 3) := by decide +kernel
theorem dX7_areAlike_117 : decode cX7_areAlike 117 = .ok (.iconst 1, 1) := by decide +kernel
theorem dX7_areAlike_118 : decode cX7_areAlike 118 = .ok (.goto 4, 3) := by decide +kernel
theorem dX7_areAlike_121 : decode cX7_areAlike 121 = .ok (.iconst 0, 1) := by decide +kernel
theorem dX7_areAlike_122 : decode cX7_areAlike 122 = .ok (.istore_n 3, 1) := by decide +kernel
theorem dX7_areAlike_123 : decode cX7_areAlike 123 = .ok (.iconst 0, 1) := by decide +kernel
theorem dX7_areAlike_124 : decode cX7_areAlike 124 = .ok (.istore 8, 2) := by decide +kernel
theorem dX7_areAlike_126 : decode cX7_areAlike 126 = .ok (.iload 8, 2) := by decide +kernel
theorem dX7_areAlike_128 : decode cX7_areAlike 128 = .ok (.iload 7, 2) := by decide +kernel
theorem dX7_areAlike_130 : decode cX7_areAlike 130 = .ok (.if_icmp .ge 62, 3) := by decide +kernel
theorem dX7_areAlike_133 : decode cX7_areAlike 133 = .ok (.iload_n 3, 1) := by decide +kernel
theorem dX7_areAlike_134 : decode cX7_areAlike 134 = .ok (.ifCond .eq 58, 3) := by decide +kernel
theorem dX7_areAlike_137 : decode cX7_areAlike 137 = .ok (.aload_n 0, 1) := by decide +kernel
theorem dX7_areAlike_138 : decode cX7_areAlike 138 = .ok (.getfield 16, 3) := by decide +kernel
theorem dX7_areAlike_141 : decode cX7_areAlike 141 = .ok (.bipush 7, 2) := by decide +kernel
theorem dX7_areAlike_143 : decode cX7_areAlike 143 = .ok (.iload 5, 2) := by decide +kernel
theorem dX7_areAlike_145 : decode cX7_areAlike 145 = .ok (.imul, 1) := by decide +kernel
theorem dX7_areAlike_146 : decode cX7_areAlike 146 = .ok (.aload_n 0, 1) := by decide +kernel
theorem dX7_areAlike_147 : decode cX7_areAlike 147 = .ok (.getfield 28, 3) := by decide +kernel
theorem dX7_areAlike_150 : decode cX7_areAlike 150 = .ok (.iload_n 1, 1) := by decide +kernel
theorem dX7_areAlike_151 : decode cX7_areAlike 151 = .ok (.iaload, 1) := by decide +kernel
theorem dX7_areAlike_152 : decode cX7_areAlike 152 = .ok (.iadd, 1) := by decide +kernel
theorem dX7_areAlike_153 : decode cX7_areAlike 153 = .ok (.iload 8, 2) := by decide +kernel
theorem dX7_areAlike_155 : decode cX7_areAlike 155 = .ok (.iadd, 1) := by decide +kernel
theorem dX7_areAlike_156 : decode cX7_areAlike 156 = .ok (.iaload, 1) := by decide +kernel
theorem dX7_areAlike_157 : decode cX7_areAlike 157 = .ok (.aload_n 0, 1) := by decide +kernel
theorem dX7_areAlike_158 : decode cX7_areAlike 158 = .ok (.getfield 16, 3) := by decide +kernel
theorem dX7_areAlike_161 : decode cX7_areAlike 161 = .ok (.bipush 7, 2) := by decide +kernel
theorem dX7_areAlike_163 : decode cX7_areAlike 163 = .ok (.iload 6, 2) := by decide +kernel
theorem dX7_areAlike_165 : decode cX7_areAlike 165 = .ok (.imul, 1) := by decide +kernel
theorem dX7_areAlike_166 : decode cX7_areAlike 166 = .ok (.aload_n 0, 1) := by decide +kernel
theorem dX7_areAlike_167 : decode cX7_areAlike 167 = .ok (.getfield 28, 3) := by decide +kernel
theorem dX7_areAlike_170 : decode cX7_areAlike 170 = .ok (.iload_n 2, 1) := by decide +kernel
theorem dX7_areAlike_171 : decode cX7_areAlike 171 = .ok (.iaload, 1) := by decide +kernel
theorem dX7_areAlike_172 : decode cX7_areAlike 172 = .ok (.iadd, 1) := by decide +kernel
theorem dX7_areAlike_173 : decode cX7_areAlike 173 = .ok (.iload 8, 2) := by decide +kernel
theorem dX7_areAlike_175 : decode cX7_areAlike 175 = .ok (.iadd, 1) := by decide +kernel
theorem dX7_areAlike_176 : decode cX7_areAlike 176 = .ok (.iaload, 1) := by decide +kernel
theorem dX7_areAlike_177 : decode cX7_areAlike 177 = .ok (.if_icmp .ne 7, 3) := by decide +kernel
theorem dX7_areAlike_180 : decode cX7_areAlike 180 = .ok (.iconst 1, 1) := by decide +kernel
theorem dX7_areAlike_181 : decode cX7_areAlike 181 = .ok (.goto 4, 3) := by decide +kernel
theorem dX7_areAlike_184 : decode cX7_areAlike 184 = .ok (.iconst 0, 1) := by decide +kernel
theorem dX7_areAlike_185 : decode cX7_areAlike 185 = .ok (.istore_n 3, 1) := by decide +kernel
theorem dX7_areAlike_186 : decode cX7_areAlike 186 = .ok (.iinc 8 1, 3) := by decide +kernel
theorem dX7_areAlike_189 : decode cX7_areAlike 189 = .ok (.goto (-63), 3) := by decide +kernel
theorem dX7_areAlike_192 : decode cX7_areAlike 192 = .ok (.iinc 4 1, 3) := by decide +kernel
theorem dX7_areAlike_195 : decode cX7_areAlike 195 = .ok (.goto (-157), 3) := by decide +kernel
theorem dX7_areAlike_198 : decode cX7_areAlike 198 = .ok (.iload_n 3, 1) := by decide +kernel
theorem dX7_areAlike_199 : decode cX7_areAlike 199 = .ok (.ireturn, 1) := by decide +kernel
theorem dX7_isFirst_0 : decode cX7_isFirst 0 = .ok (.iconst 1, 1) := by decide +kernel
theorem dX7_isFirst_1 : decode cX7_isFirst 1 = .ok (.istore_n 2, 1) := by decide +kernel
theorem dX7_isFirst_2 : decode cX7_isFirst 2 = .ok (.iconst 0, 1) := by decide +kernel
theorem dX7_isFirst_3 : decode cX7_isFirst 3 = .ok (.istore_n 3, 1) := by decide +kernel
theorem dX7_isFirst_4 : decode cX7_isFirst 4 = .ok (.iload_n 3, 1) := by decide +kernel
theorem dX7_isFirst_5 : decode cX7_isFirst 5 = .ok (.iload_n 1, 1) := by decide +kernel
theorem dX7_isFirst_6 : decode cX7_isFirst 6 = .ok (.if_icmp .ge 28, 3) := by decide +kernel
theorem dX7_isFirst_9 : decode cX7_isFirst 9 = .ok (.iload_n 2, 1) := by decide +kernel
theorem dX7_isFirst_10 : decode cX7_isFirst 10 = .ok (.ifCond .eq 24, 3) := by decide +kernel
theorem dX7_isFirst_13 : decode cX7_isFirst 13 = .ok (.aload_n 0, 1) := by decide +kernel
theorem dX7_isFirst_14 : decode cX7_isFirst 14 = .ok (.iload_n 1, 1) := by decide +kernel
theorem dX7_isFirst_15 : decode cX7_isFirst 15 = .ok (.iload_n 3, 1) := by decide +kernel
theorem dX7_isFirst_16 : decode cX7_isFirst 16 = .ok (.invokevirtual 107, 3) := by decide +kernel
theorem dX7_isFirst_19 : decode cX7_isFirst 19 = .ok (.ifCond .ne 7, 3) := by decide +kernel
theorem dX7_isFirst_22 : decode cX7_isFirst 22 = .ok (.iconst 1, 1) := by decide +kernel
theorem dX7_isFirst_23 : decode cX7_isFirst 23 = .ok (.goto 4, 3) := by decide +kernel
theorem dX7_isFirst_26 : decode cX7_isFirst 26 = .ok (.iconst 0, 1) := by decide +kernel
theorem dX7_isFirst_27 : decode cX7_isFirst 27 = .ok (.istore_n 2, 1) := by decide +kernel
theorem dX7_isFirst_28 : decode cX7_isFirst 28 = .ok (.iinc 3 1, 3) := by decide +kernel
theorem dX7_isFirst_31 : decode cX7_isFirst 31 = .ok (.goto (-27), 3) := by decide +kernel
theorem dX7_isFirst_34 : decode cX7_isFirst 34 = .ok (.iload_n 2, 1) := by decide +kernel
theorem dX7_isFirst_35 : decode cX7_isFirst 35 = .ok (.ireturn, 1) := by decide +kernel
theorem dX7_states_0 : decode cX7_states 0 = .ok (.aload_n 0, 1) := by decide +kernel
theorem dX7_states_1 : decode cX7_states 1 = .ok (.iconst 0, 1) := by decide +kernel
theorem dX7_states_2 : decode cX7_states 2 = .ok (.putfield 50, 3) := by decide +kernel
theorem dX7_states_5 : decode cX7_states 5 = .ok (.aload_n 0, 1) := by decide +kernel
theorem dX7_states_6 : decode cX7_states 6 = .ok (.invokevirtual 110, 3) := by decide +kernel
theorem dX7_states_9 : decode cX7_states 9 = .ok (.iconst 0, 1) := by decide +kernel
theorem dX7_states_10 : decode cX7_states 10 = .ok (.istore_n 1, 1) := by decide +kernel
theorem dX7_states_11 : decode cX7_states 11 = .ok (.iconst 0, 1) := by decide +kernel
theorem dX7_states_12 : decode cX7_states 12 = .ok (.istore_n 2, 1) := by decide +kernel
theorem dX7_states_13 : decode cX7_states 13 = .ok (.iload_n 2, 1) := by decide +kernel
theorem dX7_states_14 : decode cX7_states 14 = .ok (.aload_n 0, 1) := by decide +kernel
theorem dX7_states_15 : decode cX7_states 15 = .ok (.getfield 100, 3) := by decide +kernel
theorem dX7_states_18 : decode cX7_states 18 = .ok (.if_icmp .ge 25, 3) := by decide +kernel
theorem dX7_states_21 : decode cX7_states 21 = .ok (.aload_n 0, 1) := by decide +kernel
theorem dX7_states_22 : decode cX7_states 22 = .ok (.iload_n 2, 1) := by decide +kernel
theorem dX7_states_23 : decode cX7_states 23 = .ok (.invokevirtual 113, 3) := by decide +kernel
theorem dX7_states_26 : decode cX7_states 26 = .ok (.ifCond .eq 9, 3) := by decide +kernel
theorem dX7_states_29 : decode cX7_states 29 = .ok (.iload_n 1, 1) := by decide +kernel
theorem dX7_states_30 : decode cX7_states 30 = .ok (.iconst 1, 1) := by decide +kernel
theorem dX7_states_31 : decode cX7_states 31 = .ok (.iadd, 1) := by decide +kernel
theorem dX7_states_32 : decode cX7_states 32 = .ok (.goto 4, 3) := by decide +kernel
theorem dX7_states_35 : decode cX7_states 35 = .ok (.iload_n 1, 1) := by decide +kernel
theorem dX7_states_36 : decode cX7_states 36 = .ok (.istore_n 1, 1) := by decide +kernel
theorem dX7_states_37 : decode cX7_states 37 = .ok (.iinc 2 1, 3) := by decide +kernel
theorem dX7_states_40 : decode cX7_states 40 = .ok (.goto (-27), 3) := by decide +kernel
theorem dX7_states_43 : decode cX7_states 43 = .ok (.iload_n 1, 1) := by decide +kernel
theorem dX7_states_44 : decode cX7_states 44 = .ok (.ireturn, 1) := by decide +kernel
theorem dX7_nexts_0 : decode cX7_nexts 0 = .ok (.iconst 0, 1) := by decide +kernel
theorem dX7_nexts_1 : decode cX7_nexts 1 = .ok (.istore_n 2, 1) := by decide +kernel
theorem dX7_nexts_2 : decode cX7_nexts 2 = .ok (.iconst 0, 1) := by decide +kernel
theorem dX7_nexts_3 : decode cX7_nexts 3 = .ok (.istore_n 3, 1) := by decide +kernel
theorem dX7_nexts_4 : decode cX7_nexts 4 = .ok (.aload_n 0, 1) := by decide +kernel
theorem dX7_nexts_5 : decode cX7_nexts 5 = .ok (.getfield 22, 3) := by decide +kernel
theorem dX7_nexts_8 : decode cX7_nexts 8 = .ok (.iload_n 1, 1) := by decide +kernel
theorem dX7_nexts_9 : decode cX7_nexts 9 = .ok (.iaload, 1) := by decide +kernel
theorem dX7_nexts_10 : decode cX7_nexts 10 = .ok (.istore 4, 2) := by decide +kernel
theorem dX7_nexts_12 : decode cX7_nexts 12 = .ok (.iload 4, 2) := by decide +kernel
theorem dX7_nexts_14 : decode cX7_nexts 14 = .ok (.aload_n 0, 1) := by decide +kernel
theorem dX7_nexts_15 : decode cX7_nexts 15 = .ok (.getfield 25, 3) := by decide +kernel
theorem dX7_nexts_18 : decode cX7_nexts 18 = .ok (.iload_n 1, 1) := by decide +kernel
theorem dX7_nexts_19 : decode cX7_nexts 19 = .ok (.iaload, 1) := by decide +kernel
theorem dX7_nexts_20 : decode cX7_nexts 20 = .ok (.if_icmp .ge 79, 3) := by decide +kernel
theorem dX7_nexts_23 : decode cX7_nexts 23 = .ok (.aload_n 0, 1) := by decide +kernel
theorem dX7_nexts_24 : decode cX7_nexts 24 = .ok (.getfield 19, 3) := by decide +kernel
theorem dX7_nexts_27 : decode cX7_nexts 27 = .ok (.iload 4, 2) := by decide +kernel
theorem dX7_nexts_29 : decode cX7_nexts 29 = .ok (.iaload, 1) := by decide +kernel
theorem dX7_nexts_30 : decode cX7_nexts 30 = .ok (.aload_n 0, 1) := by decide +kernel
theorem dX7_nexts_31 : decode cX7_nexts 31 = .ok (.getfield 28, 3) := by decide +kernel
theorem dX7_nexts_34 : decode cX7_nexts 34 = .ok (.iload_n 1, 1) := by decide +kernel
theorem dX7_nexts_35 : decode cX7_nexts 35 = .ok (.iaload, 1) := by decide +kernel
theorem dX7_nexts_36 : decode cX7_nexts 36 = .ok (.if_icmp .le 23, 3) := by decide +kernel
theorem dX7_nexts_39 : decode cX7_nexts 39 = .ok (.aload_n 0, 1) := by decide +kernel
theorem dX7_nexts_40 : decode cX7_nexts 40 = .ok (.getfield 16, 3) := by decide +kernel
theorem dX7_nexts_43 : decode cX7_nexts 43 = .ok (.bipush 7, 2) := by decide +kernel
theorem dX7_nexts_45 : decode cX7_nexts 45 = .ok (.iload 4, 2) := by decide +kernel
theorem dX7_nexts_47 : decode cX7_nexts 47 = .ok (.imul, 1) := by decide +kernel
theorem dX7_nexts_48 : decode cX7_nexts 48 = .ok (.aload_n 0, 1) := by decide +kernel
theorem dX7_nexts_49 : decode cX7_nexts 49 = .ok (.getfield 28, 3) := by decide +kernel
theorem dX7_nexts_52 : decode cX7_nexts 52 = .ok (.iload_n 1, 1) := by decide +kernel
theorem dX7_nexts_53 : decode cX7_nexts 53 = .ok (.iaload, 1) := by decide +kernel
theorem dX7_nexts_54 : decode cX7_nexts 54 = .ok (.iadd, 1) := by decide +kernel
theorem dX7_nexts_55 : decode cX7_nexts 55 = .ok (.iaload, 1) := by decide +kernel
theorem dX7_nexts_56 : decode cX7_nexts 56 = .ok (.goto 4, 3) := by decide +kernel
theorem dX7_nexts_59 : decode cX7_nexts 59 = .ok (.iconst 0, 1) := by decide +kernel
theorem dX7_nexts_60 : decode cX7_nexts 60 = .ok (.istore 5, 2) := by decide +kernel
theorem dX7_nexts_62 : decode cX7_nexts 62 = .ok (.iload 5, 2) := by decide +kernel
theorem dX7_nexts_64 : decode cX7_nexts 64 = .ok (.ifCond .le 15, 3) := by decide +kernel
theorem dX7_nexts_67 : decode cX7_nexts 67 = .ok (.iload 5, 2) := by decide +kernel
theorem dX7_nexts_69 : decode cX7_nexts 69 = .ok (.iload_n 3, 1) := by decide +kernel
theorem dX7_nexts_70 : decode cX7_nexts 70 = .ok (.if_icmp .eq 9, 3) := by decide +kernel
theorem dX7_nexts_73 : decode cX7_nexts 73 = .ok (.iload_n 2, 1) := by decide +kernel
theorem dX7_nexts_74 : decode cX7_nexts 74 = .ok (.iconst 1, 1) := by decide +kernel
theorem dX7_nexts_75 : decode cX7_nexts 75 = .ok (.iadd, 1) := by decide +kernel
theorem dX7_nexts_76 : decode cX7_nexts 76 = .ok (.goto 4, 3) := by decide +kernel
theorem dX7_nexts_79 : decode cX7_nexts 79 = .ok (.iload_n 2, 1) := by decide +kernel
theorem dX7_nexts_80 : decode cX7_nexts 80 = .ok (.istore_n 2, 1) := by decide +kernel
theorem dX7_nexts_81 : decode cX7_nexts 81 = .ok (.iload 5, 2) := by decide +kernel
theorem dX7_nexts_83 : decode cX7_nexts 83 = .ok (.ifCond .le 8, 3) := by decide +kernel
theorem dX7_nexts_86 : decode cX7_nexts 86 = .ok (.iload 5, 2) := by decide +kernel
theorem dX7_nexts_88 : decode cX7_nexts 88 = .ok (.goto 4, 3) := by decide +kernel
theorem dX7_nexts_91 : decode cX7_nexts 91 = .ok (.iload_n 3, 1) := by decide +kernel
theorem dX7_nexts_92 : decode cX7_nexts 92 = .ok (.istore_n 3, 1) := by decide +kernel
theorem dX7_nexts_93 : decode cX7_nexts 93 = .ok (.iinc 4 1, 3) := by decide +kernel
theorem dX7_nexts_96 : decode cX7_nexts 96 = .ok (.goto (-84), 3) := by decide +kernel
theorem dX7_nexts_99 : decode cX7_nexts 99 = .ok (.iload_n 2, 1) := by decide +kernel
theorem dX7_nexts_100 : decode cX7_nexts 100 = .ok (.ireturn, 1) := by decide +kernel
theorem dX7_edges_0 : decode cX7_edges 0 = .ok (.aload_n 0, 1) := by decide +kernel
theorem dX7_edges_1 : decode cX7_edges 1 = .ok (.iconst 0, 1) := by decide +kernel
theorem dX7_edges_2 : decode cX7_edges 2 = .ok (.putfield 50, 3) := by decide +kernel
theorem dX7_edges_5 : decode cX7_edges 5 = .ok (.aload_n 0, 1) := by decide +kernel
theorem dX7_edges_6 : decode cX7_edges 6 = .ok (.invokevirtual 110, 3) := by decide +kernel
theorem dX7_edges_9 : decode cX7_edges 9 = .ok (.iconst 0, 1) := by decide +kernel
theorem dX7_edges_10 : decode cX7_edges 10 = .ok (.istore_n 1, 1) := by decide +kernel
theorem dX7_edges_11 : decode cX7_edges 11 = .ok (.iconst 0, 1) := by decide +kernel
theorem dX7_edges_12 : decode cX7_edges 12 = .ok (.istore_n 2, 1) := by decide +kernel
theorem dX7_edges_13 : decode cX7_edges 13 = .ok (.iload_n 2, 1) := by decide +kernel
theorem dX7_edges_14 : decode cX7_edges 14 = .ok (.aload_n 0, 1) := by decide +kernel
theorem dX7_edges_15 : decode cX7_edges 15 = .ok (.getfield 100, 3) := by decide +kernel
theorem dX7_edges_18 : decode cX7_edges 18 = .ok (.if_icmp .ge 29, 3) := by decide +kernel
theorem dX7_edges_21 : decode cX7_edges 21 = .ok (.aload_n 0, 1) := by decide +kernel
theorem dX7_edges_22 : decode cX7_edges 22 = .ok (.iload_n 2, 1) := by decide +kernel
theorem dX7_edges_23 : decode cX7_edges 23 = .ok (.invokevirtual 113, 3) := by decide +kernel
theorem dX7_edges_26 : decode cX7_edges 26 = .ok (.ifCond .eq 13, 3) := by decide +kernel
theorem dX7_edges_29 : decode cX7_edges 29 = .ok (.iload_n 1, 1) := by decide +kernel
theorem dX7_edges_30 : decode cX7_edges 30 = .ok (.aload_n 0, 1) := by decide +kernel
theorem dX7_edges_31 : decode cX7_edges 31 = .ok (.iload_n 2, 1) := by decide +kernel
theorem dX7_edges_32 : decode cX7_edges 32 = .ok (.invokevirtual 117, 3) := by decide +kernel
theorem dX7_edges_35 : decode cX7_edges 35 = .ok (.iadd, 1) := by decide +kernel
theorem dX7_edges_36 : decode cX7_edges 36 = .ok (.goto 4, 3) := by decide +kernel
theorem dX7_edges_39 : decode cX7_edges 39 = .ok (.iload_n 1, 1) := by decide +kernel
theorem dX7_edges_40 : decode cX7_edges 40 = .ok (.istore_n 1, 1) := by decide +kernel
theorem dX7_edges_41 : decode cX7_edges 41 = .ok (.iinc 2 1, 3) := by decide +kernel
theorem dX7_edges_44 : decode cX7_edges 44 = .ok (.goto (-31), 3) := by decide +kernel
theorem dX7_edges_47 : decode cX7_edges 47 = .ok (.iload_n 1, 1) := by decide +kernel
theorem dX7_edges_48 : decode cX7_edges 48 = .ok (.ireturn, 1) := by decide +kernel
theorem dX7_alike_0 : decode cX7_alike 0 = .ok (.aload_n 0, 1) := by decide +kernel
theorem dX7_alike_1 : decode cX7_alike 1 = .ok (.iconst 0, 1) := by decide +kernel
theorem dX7_alike_2 : decode cX7_alike 2 = .ok (.putfield 50, 3) := by decide +kernel
theorem dX7_alike_5 : decode cX7_alike 5 = .ok (.aload_n 0, 1) := by decide +kernel
theorem dX7_alike_6 : decode cX7_alike 6 = .ok (.invokevirtual 57, 3) := by decide +kernel
theorem dX7_alike_9 : decode cX7_alike 9 = .ok (.istore_n 1, 1) := by decide +kernel
theorem dX7_alike_10 : decode cX7_alike 10 = .ok (.aload_n 0, 1) := by decide +kernel
theorem dX7_alike_11 : decode cX7_alike 11 = .ok (.invokevirtual 110, 3) := by decide +kernel
theorem dX7_alike_14 : decode cX7_alike 14 = .ok (.iconst (-1), 1) := by decide +kernel
theorem dX7_alike_15 : decode cX7_alike 15 = .ok (.istore_n 2, 1) := by decide +kernel
theorem dX7_alike_16 : decode cX7_alike 16 = .ok (.iconst 0, 1) := by decide +kernel
theorem dX7_alike_17 : decode cX7_alike 17 = .ok (.istore_n 3, 1) := by decide +kernel
theorem dX7_alike_18 : decode cX7_alike 18 = .ok (.iload_n 3, 1) := by decide +kernel
theorem dX7_alike_19 : decode cX7_alike 19 = .ok (.aload_n 0, 1) := by decide +kernel
theorem dX7_alike_20 : decode cX7_alike 20 = .ok (.getfield 100, 3) := by decide +kernel
theorem dX7_alike_23 : decode cX7_alike 23 = .ok (.if_icmp .ge 55, 3) := by decide +kernel
theorem dX7_alike_26 : decode cX7_alike 26 = .ok (.aload_n 0, 1) := by decide +kernel
theorem dX7_alike_27 : decode cX7_alike 27 = .ok (.getfield 28, 3) := by decide +kernel
theorem dX7_alike_30 : decode cX7_alike 30 = .ok (.iload_n 3, 1) := by decide +kernel
theorem dX7_alike_31 : decode cX7_alike 31 = .ok (.iaload, 1) := by decide +kernel
theorem dX7_alike_32 : decode cX7_alike 32 = .ok (.iload_n 1, 1) := by decide +kernel
theorem dX7_alike_33 : decode cX7_alike 33 = .ok (.if_icmp .ne 25, 3) := by decide +kernel
theorem dX7_alike_36 : decode cX7_alike 36 = .ok (.iload_n 1, 1) := by decide +kernel
theorem dX7_alike_37 : decode cX7_alike 37 = .ok (.ifCond .eq 17, 3) := by decide +kernel
theorem dX7_alike_40 : decode cX7_alike 40 = .ok (.aload_n 0, 1) := by decide +kernel
theorem dX7_alike_41 : decode cX7_alike 41 = .ok (.aload_n 0, 1) := by decide +kernel
theorem dX7_alike_42 : decode cX7_alike 42 = .ok (.getfield 22, 3) := by decide +kernel
theorem dX7_alike_45 : decode cX7_alike 45 = .ok (.iload_n 3, 1) := by decide +kernel
theorem dX7_alike_46 : decode cX7_alike 46 = .ok (.iaload, 1) := by decide +kernel
theorem dX7_alike_47 : decode cX7_alike 47 = .ok (.iload_n 1, 1) := by decide +kernel
theorem dX7_alike_48 : decode cX7_alike 48 = .ok (.invokevirtual 97, 3) := by decide +kernel
theorem dX7_alike_51 : decode cX7_alike 51 = .ok (.ifCond .eq 7, 3) := by decide +kernel
theorem dX7_alike_54 : decode cX7_alike 54 = .ok (.iconst 1, 1) := by decide +kernel
theorem dX7_alike_55 : decode cX7_alike 55 = .ok (.goto 4, 3) := by decide +kernel
theorem dX7_alike_58 : decode cX7_alike 58 = .ok (.iconst 0, 1) := by decide +kernel
theorem dX7_alike_59 : decode cX7_alike 59 = .ok (.istore 4, 2) := by decide +kernel
theorem dX7_alike_61 : decode cX7_alike 61 = .ok (.iload 4, 2) := by decide +kernel
theorem dX7_alike_63 : decode cX7_alike 63 = .ok (.ifCond .eq 7, 3) := by decide +kernel
theorem dX7_alike_66 : decode cX7_alike 66 = .ok (.iload_n 3, 1) := by decide +kernel
theorem dX7_alike_67 : decode cX7_alike 67 = .ok (.goto 4, 3) := by decide +kernel
theorem dX7_alike_70 : decode cX7_alike 70 = .ok (.iload_n 2, 1) := by decide +kernel
theorem dX7_alike_71 : decode cX7_alike 71 = .ok (.istore_n 2, 1) := by decide +kernel
theorem dX7_alike_72 : decode cX7_alike 72 = .ok (.iinc 3 1, 3) := by decide +kernel
theorem dX7_alike_75 : decode cX7_alike 75 = .ok (.goto (-57), 3) := by decide +kernel
theorem dX7_alike_78 : decode cX7_alike 78 = .ok (.iload_n 2, 1) := by decide +kernel
theorem dX7_alike_79 : decode cX7_alike 79 = .ok (.ifCond .ge 5, 3) := by decide +kernel
theorem dX7_alike_82 : decode cX7_alike 82 = .ok (.iconst (-1), 1) := by decide +kernel
theorem dX7_alike_83 : decode cX7_alike 83 = .ok (.ireturn, 1) := by decide +kernel
theorem dX7_alike_84 : decode cX7_alike 84 = .ok (.iconst 0, 1) := by decide +kernel
theorem dX7_alike_85 : decode cX7_alike 85 = .ok (.istore_n 3, 1) := by decide +kernel
theorem dX7_alike_86 : decode cX7_alike 86 = .ok (.iconst 0, 1) := by decide +kernel
theorem dX7_alike_87 : decode cX7_alike 87 = .ok (.istore 4, 2) := by decide +kernel
theorem dX7_alike_89 : decode cX7_alike 89 = .ok (.iload 4, 2) := by decide +kernel
theorem dX7_alike_91 : decode cX7_alike 91 = .ok (.aload_n 0, 1) := by decide +kernel
theorem dX7_alike_92 : decode cX7_alike 92 = .ok (.getfield 100, 3) := by decide +kernel
theorem dX7_alike_95 : decode cX7_alike 95 = .ok (.if_icmp .ge 27, 3) := by decide +kernel
theorem dX7_alike_98 : decode cX7_alike 98 = .ok (.aload_n 0, 1) := by decide +kernel
theorem dX7_alike_99 : decode cX7_alike 99 = .ok (.iload 4, 2) := by decide +kernel
theorem dX7_alike_101 : decode cX7_alike 101 = .ok (.iload_n 2, 1) := by decide +kernel
theorem dX7_alike_102 : decode cX7_alike 102 = .ok (.invokevirtual 107, 3) := by decide +kernel
theorem dX7_alike_105 : decode cX7_alike 105 = .ok (.ifCond .eq 9, 3) := by decide +kernel
theorem dX7_alike_108 : decode cX7_alike 108 = .ok (.iload_n 3, 1) := by decide +kernel
theorem dX7_alike_109 : decode cX7_alike 109 = .ok (.iconst 1, 1) := by decide +kernel
theorem dX7_alike_110 : decode cX7_alike 110 = .ok (.iadd, 1) := by decide +kernel
theorem dX7_alike_111 : decode cX7_alike 111 = .ok (.goto 4, 3) := by decide +kernel
theorem dX7_alike_114 : decode cX7_alike 114 = .ok (.iload_n 3, 1) := by decide +kernel
theorem dX7_alike_115 : decode cX7_alike 115 = .ok (.istore_n 3, 1) := by decide +kernel
theorem dX7_alike_116 : decode cX7_alike 116 = .ok (.iinc 4 1, 3) := by decide +kernel
theorem dX7_alike_119 : decode cX7_alike 119 = .ok (.goto (-30), 3) := by decide +kernel
theorem dX7_alike_122 : decode cX7_alike 122 = .ok (.iload_n 3, 1) := by decide +kernel
theorem dX7_alike_123 : decode cX7_alike 123 = .ok (.ireturn, 1) := by decide +kernel
theorem dX7_distance_0 : decode cX7_distance 0 = .ok (.iconst 0, 1) := by decide +kernel
theorem dX7_distance_1 : decode cX7_distance 1 = .ok (.istore_n 3, 1) := by decide +kernel
theorem dX7_distance_2 : decode cX7_distance 2 = .ok (.iload_n 3, 1) := by decide +kernel
theorem dX7_distance_3 : decode cX7_distance 3 = .ok (.iload_n 2, 1) := by decide +kernel
theorem dX7_distance_4 : decode cX7_distance 4 = .ok (.if_icmp .gt 16, 3) := by decide +kernel
theorem dX7_distance_7 : decode cX7_distance 7 = .ok (.aload_n 0, 1) := by decide +kernel
theorem dX7_distance_8 : decode cX7_distance 8 = .ok (.getfield 37, 3) := by decide +kernel
theorem dX7_distance_11 : decode cX7_distance 11 = .ok (.iload_n 3, 1) := by decide +kernel
theorem dX7_distance_12 : decode cX7_distance 12 = .ok (.iload_n 3, 1) := by decide +kernel
theorem dX7_distance_13 : decode cX7_distance 13 = .ok (.iastore, 1) := by decide +kernel
theorem dX7_distance_14 : decode cX7_distance 14 = .ok (.iinc 3 1, 3) := by decide +kernel
theorem dX7_distance_17 : decode cX7_distance 17 = .ok (.goto (-15), 3) := by decide +kernel
theorem dX7_distance_20 : decode cX7_distance 20 = .ok (.iconst 1, 1) := by decide +kernel
theorem dX7_distance_21 : decode cX7_distance 21 = .ok (.istore_n 3, 1) := by decide +kernel
theorem dX7_distance_22 : decode cX7_distance 22 = .ok (.iload_n 3, 1) := by decide +kernel
theorem dX7_distance_23 : decode cX7_distance 23 = .ok (.aload_n 0, 1) := by decide +kernel
theorem dX7_distance_24 : decode cX7_distance 24 = .ok (.getfield 19, 3) := by decide +kernel
theorem dX7_distance_27 : decode cX7_distance 27 = .ok (.iload_n 1, 1) := by decide +kernel
theorem dX7_distance_28 : decode cX7_distance 28 = .ok (.iaload, 1) := by decide +kernel
theorem dX7_distance_29 : decode cX7_distance 29 = .ok (.if_icmp .gt 166, 3) := by decide +kernel
theorem dX7_distance_32 : decode cX7_distance 32 = .ok (.aload_n 0, 1) := by decide +kernel
theorem dX7_distance_33 : decode cX7_distance 33 = .ok (.getfield 40, 3) := by decide +kernel
theorem dX7_distance_36 : decode cX7_distance 36 = .ok (.iconst 0, 1) := by decide +kernel
theorem dX7_distance_37 : decode cX7_distance 37 = .ok (.iload_n 3, 1) := by decide +kernel
theorem dX7_distance_38 : decode cX7_distance 38 = .ok (.iastore, 1) := by decide +kernel
theorem dX7_distance_39 : decode cX7_distance 39 = .ok (.iconst 1, 1) := by decide +kernel
theorem dX7_distance_40 : decode cX7_distance 40 = .ok (.istore 4, 2) := by decide +kernel
theorem dX7_distance_42 : decode cX7_distance 42 = .ok (.iload 4, 2) := by decide +kernel
theorem dX7_distance_44 : decode cX7_distance 44 = .ok (.iload_n 2, 1) := by decide +kernel
theorem dX7_distance_45 : decode cX7_distance 45 = .ok (.if_icmp .gt 115, 3) := by decide +kernel
theorem dX7_distance_48 : decode cX7_distance 48 = .ok (.aload_n 0, 1) := by decide +kernel
theorem dX7_distance_49 : decode cX7_distance 49 = .ok (.getfield 37, 3) := by decide +kernel
theorem dX7_distance_52 : decode cX7_distance 52 = .ok (.iload 4, 2) := by decide +kernel
theorem dX7_distance_54 : decode cX7_distance 54 = .ok (.iconst 1, 1) := by decide +kernel
theorem dX7_distance_55 : decode cX7_distance 55 = .ok (.isub, 1) := by decide +kernel
theorem dX7_distance_56 : decode cX7_distance 56 = .ok (.iaload, 1) := by decide +kernel
theorem dX7_distance_57 : decode cX7_distance 57 = .ok (.aload_n 0, 1) := by decide +kernel
theorem dX7_distance_58 : decode cX7_distance 58 = .ok (.iload 4, 2) := by decide +kernel
theorem dX7_distance_60 : decode cX7_distance 60 = .ok (.iconst 1, 1) := by decide +kernel
theorem dX7_distance_61 : decode cX7_distance 61 = .ok (.isub, 1) := by decide +kernel
theorem dX7_distance_62 : decode cX7_distance 62 = .ok (.invokevirtual 61, 3) := by decide +kernel
theorem dX7_distance_65 : decode cX7_distance 65 = .ok (.aload_n 0, 1) := by decide +kernel
theorem dX7_distance_66 : decode cX7_distance 66 = .ok (.getfield 16, 3) := by decide +kernel
theorem dX7_distance_69 : decode cX7_distance 69 = .ok (.bipush 7, 2) := by decide +kernel
theorem dX7_distance_71 : decode cX7_distance 71 = .ok (.iload_n 1, 1) := by decide +kernel
theorem dX7_distance_72 : decode cX7_distance 72 = .ok (.imul, 1) := by decide +kernel
theorem dX7_distance_73 : decode cX7_distance 73 = .ok (.iload_n 3, 1) := by decide +kernel
theorem dX7_distance_74 : decode cX7_distance 74 = .ok (.iadd, 1) := by decide +kernel
theorem dX7_distance_75 : decode cX7_distance 75 = .ok (.iconst 1, 1) := by decide +kernel
theorem dX7_distance_76 : decode cX7_distance 76 = .ok (.isub, 1) := by decide +kernel
theorem dX7_distance_77 : decode cX7_distance 77 = .ok (.iaload, 1) := by decide +kernel
theorem dX7_distance_78 : decode cX7_distance 78 = .ok (.if_icmp .ne 7, 3) := by decide +kernel
theorem dX7_distance_81 : decode cX7_distance 81 = .ok (.iconst 0, 1) := by decide +kernel
theorem dX7_distance_82 : decode cX7_distance 82 = .ok (.goto 4, 3) := by decide +kernel
theorem dX7_distance_85 : decode cX7_distance 85 = .ok (.iconst 1, 1) := by decide +kernel
theorem dX7_distance_86 : decode cX7_distance 86 = .ok (.iadd, 1) := by decide +kernel
theorem dX7_distance_87 : decode cX7_distance 87 = .ok (.istore 5, 2) := by decide +kernel
theorem dX7_distance_89 : decode cX7_distance 89 = .ok (.aload_n 0, 1) := by decide +kernel
theorem dX7_distance_90 : decode cX7_distance 90 = .ok (.getfield 37, 3) := by decide +kernel
theorem dX7_distance_93 : decode cX7_distance 93 = .ok (.iload 4, 2) := by decide +kernel
theorem dX7_distance_95 : decode cX7_distance 95 = .ok (.iaload, 1) := by decide +kernel
theorem dX7_distance_96 : decode cX7_distance 96 = .ok (.aload_n 0, 1) := by decide +kernel
theorem dX7_distance_97 : decode cX7_distance 97 = .ok (.getfield 40, 3) := by decide +kernel
theorem dX7_distance_100 : decode cX7_distance 100 = .ok (.iload 4, 2) := by decide +kernel
theorem dX7_distance_102 : decode cX7_distance 102 = .ok (.iconst 1, 1) := by decide +kernel
theorem dX7_distance_103 : decode cX7_distance 103 = .ok (.isub, 1) := by decide +kernel
theorem dX7_distance_104 : decode cX7_distance 104 = .ok (.iaload, 1) := by decide +kernel
theorem dX7_distance_105 : decode cX7_distance 105 = .ok (.if_icmp .ge 15, 3) := by decide +kernel
theorem dX7_distance_108 : decode cX7_distance 108 = .ok (.aload_n 0, 1) := by decide +kernel
theorem dX7_distance_109 : decode cX7_distance 109 = .ok (.getfield 37, 3) := by decide +kernel
theorem dX7_distance_112 : decode cX7_distance 112 = .ok (.iload 4, 2) := by decide +kernel
theorem dX7_distance_114 : decode cX7_distance 114 = .ok (.iaload, 1) := by decide +kernel
theorem dX7_distance_115 : decode cX7_distance 115 = .ok (.iconst 1, 1) := by decide +kernel
theorem dX7_distance_116 : decode cX7_distance 116 = .ok (.iadd, 1) := by decide +kernel
theorem dX7_distance_117 : decode cX7_distance 117 = .ok (.goto 14, 3) := by decide +kernel
theorem dX7_distance_120 : decode cX7_distance 120 = .ok (.aload_n 0, 1) := by decide +kernel
theorem dX7_distance_121 : decode cX7_distance 121 = .ok (.getfield 40, 3) := by decide +kernel
theorem dX7_distance_124 : decode cX7_distance 124 = .ok (.iload 4, 2) := by decide +kernel
theorem dX7_distance_126 : decode cX7_distance 126 = .ok (.iconst 1, 1) := by decide +kernel
theorem dX7_distance_127 : decode cX7_distance 127 = .ok (.isub, 1) := by decide +kernel
theorem dX7_distance_128 : decode cX7_distance 128 = .ok (.iaload, 1) := by decide +kernel
theorem dX7_distance_129 : decode cX7_distance 129 = .ok (.iconst 1, 1) := by decide +kernel
theorem dX7_distance_130 : decode cX7_distance 130 = .ok (.iadd, 1) := by decide +kernel
theorem dX7_distance_131 : decode cX7_distance 131 = .ok (.istore 6, 2) := by decide +kernel
theorem dX7_distance_133 : decode cX7_distance 133 = .ok (.aload_n 0, 1) := by decide +kernel
theorem dX7_distance_134 : decode cX7_distance 134 = .ok (.getfield 40, 3) := by decide +kernel
theorem dX7_distance_137 : decode cX7_distance 137 = .ok (.iload 4, 2) := by decide +kernel
theorem dX7_distance_139 : decode cX7_distance 139 = .ok (.iload 5, 2) := by decide +kernel
theorem dX7_distance_141 : decode cX7_distance 141 = .ok (.iload 6, 2) := by decide +kernel
theorem dX7_distance_143 : decode cX7_distance 143 = .ok (.if_icmp .ge 8, 3) := by decide +kernel
theorem dX7_distance_146 : decode cX7_distance 146 = .ok (.iload 5, 2) := by decide +kernel
theorem dX7_distance_148 : decode cX7_distance 148 = .ok (.goto 5, 3) := by decide +kernel
theorem dX7_distance_151 : decode cX7_distance 151 = .ok (.iload 6, 2) := by decide +kernel
theorem dX7_distance_153 : decode cX7_distance 153 = .ok (.iastore, 1) := by decide +kernel
theorem dX7_distance_154 : decode cX7_distance 154 = .ok (.iinc 4 1, 3) := by decide +kernel
theorem dX7_distance_157 : decode cX7_distance 157 = .ok (.goto (-115), 3) := by decide +kernel
theorem dX7_distance_160 : decode cX7_distance 160 = .ok (.iconst 0, 1) := by decide +kernel
theorem dX7_distance_161 : decode cX7_distance 161 = .ok (.istore 4, 2) := by decide +kernel
theorem dX7_distance_163 : decode cX7_distance 163 = .ok (.iload 4, 2) := by decide +kernel
theorem dX7_distance_165 : decode cX7_distance 165 = .ok (.iload_n 2, 1) := by decide +kernel
theorem dX7_distance_166 : decode cX7_distance 166 = .ok (.if_icmp .gt 23, 3) := by decide +kernel
theorem dX7_distance_169 : decode cX7_distance 169 = .ok (.aload_n 0, 1) := by decide +kernel
theorem dX7_distance_170 : decode cX7_distance 170 = .ok (.getfield 37, 3) := by decide +kernel
theorem dX7_distance_173 : decode cX7_distance 173 = .ok (.iload 4, 2) := by decide +kernel
theorem dX7_distance_175 : decode cX7_distance 175 = .ok (.aload_n 0, 1) := by decide +kernel
theorem dX7_distance_176 : decode cX7_distance 176 = .ok (.getfield 40, 3) := by decide +kernel
theorem dX7_distance_179 : decode cX7_distance 179 = .ok (.iload 4, 2) := by decide +kernel
theorem dX7_distance_181 : decode cX7_distance 181 = .ok (.iaload, 1) := by decide +kernel
theorem dX7_distance_182 : decode cX7_distance 182 = .ok (.iastore, 1) := by decide +kernel
theorem dX7_distance_183 : decode cX7_distance 183 = .ok (.iinc 4 1, 3) := by decide +kernel
theorem dX7_distance_186 : decode cX7_distance 186 = .ok (.goto (-23), 3) := by decide +kernel
theorem dX7_distance_189 : decode cX7_distance 189 = .ok (.iinc 3 1, 3) := by decide +kernel
theorem dX7_distance_192 : decode cX7_distance 192 = .ok (.goto (-170), 3) := by decide +kernel
theorem dX7_distance_195 : decode cX7_distance 195 = .ok (.aload_n 0, 1) := by decide +kernel
theorem dX7_distance_196 : decode cX7_distance 196 = .ok (.getfield 37, 3) := by decide +kernel
theorem dX7_distance_199 : decode cX7_distance 199 = .ok (.iload_n 2, 1) := by decide +kernel
theorem dX7_distance_200 : decode cX7_distance 200 = .ok (.iaload, 1) := by decide +kernel
theorem dX7_distance_201 : decode cX7_distance 201 = .ok (.ireturn, 1) := by decide +kernel
theorem dX7_note_0 : decode cX7_note 0 = .ok (.aload_n 0, 1) := by decide +kernel
theorem dX7_note_1 : decode cX7_note 1 = .ok (.getfield 31, 3) := by decide +kernel
theorem dX7_note_4 : decode cX7_note 4 = .ok (.aload_n 0, 1) := by decide +kernel
theorem dX7_note_5 : decode cX7_note 5 = .ok (.getfield 84, 3) := by decide +kernel
theorem dX7_note_8 : decode cX7_note 8 = .ok (.iload_n 1, 1) := by decide +kernel
theorem dX7_note_9 : decode cX7_note 9 = .ok (.iastore, 1) := by decide +kernel
theorem dX7_note_10 : decode cX7_note 10 = .ok (.aload_n 0, 1) := by decide +kernel
theorem dX7_note_11 : decode cX7_note 11 = .ok (.getfield 34, 3) := by decide +kernel
theorem dX7_note_14 : decode cX7_note 14 = .ok (.aload_n 0, 1) := by decide +kernel
theorem dX7_note_15 : decode cX7_note 15 = .ok (.getfield 84, 3) := by decide +kernel
theorem dX7_note_18 : decode cX7_note 18 = .ok (.iload_n 2, 1) := by decide +kernel
theorem dX7_note_19 : decode cX7_note 19 = .ok (.iastore, 1) := by decide +kernel
theorem dX7_note_20 : decode cX7_note 20 = .ok (.aload_n 0, 1) := by decide +kernel
theorem dX7_note_21 : decode cX7_note 21 = .ok (.dup, 1) := by decide +kernel
theorem dX7_note_22 : decode cX7_note 22 = .ok (.getfield 84, 3) := by decide +kernel
theorem dX7_note_25 : decode cX7_note 25 = .ok (.iconst 1, 1) := by decide +kernel
theorem dX7_note_26 : decode cX7_note 26 = .ok (.iadd, 1) := by decide +kernel
theorem dX7_note_27 : decode cX7_note 27 = .ok (.putfield 84, 3) := by decide +kernel
theorem dX7_note_30 : decode cX7_note 30 = .ok (.return_, 1) := by decide +kernel
theorem dX7_near_0 : decode cX7_near 0 = .ok (.aload_n 0, 1) := by decide +kernel
theorem dX7_near_1 : decode cX7_near 1 = .ok (.iload_n 1, 1) := by decide +kernel
theorem dX7_near_2 : decode cX7_near 2 = .ok (.ifCond .lt 8, 3) := by decide +kernel
theorem dX7_near_5 : decode cX7_near 5 = .ok (.iload_n 1, 1) := by decide +kernel
theorem dX7_near_6 : decode cX7_near 6 = .ok (.iconst 2, 1) := by decide +kernel
theorem dX7_near_7 : decode cX7_near 7 = .ok (.if_icmp .le 7, 3) := by decide +kernel
theorem dX7_near_10 : decode cX7_near 10 = .ok (.iconst 1, 1) := by decide +kernel
theorem dX7_near_11 : decode cX7_near 11 = .ok (.goto 4, 3) := by decide +kernel
theorem dX7_near_14 : decode cX7_near 14 = .ok (.iconst 0, 1) := by decide +kernel
theorem dX7_near_15 : decode cX7_near 15 = .ok (.putfield 50, 3) := by decide +kernel
theorem dX7_near_18 : decode cX7_near 18 = .ok (.aload_n 0, 1) := by decide +kernel
theorem dX7_near_19 : decode cX7_near 19 = .ok (.getfield 50, 3) := by decide +kernel
theorem dX7_near_22 : decode cX7_near 22 = .ok (.ifCond .le 5, 3) := by decide +kernel
theorem dX7_near_25 : decode cX7_near 25 = .ok (.iconst 0, 1) := by decide +kernel
theorem dX7_near_26 : decode cX7_near 26 = .ok (.ireturn, 1) := by decide +kernel
theorem dX7_near_27 : decode cX7_near 27 = .ok (.aload_n 0, 1) := by decide +kernel
theorem dX7_near_28 : decode cX7_near 28 = .ok (.invokevirtual 57, 3) := by decide +kernel
theorem dX7_near_31 : decode cX7_near 31 = .ok (.istore_n 2, 1) := by decide +kernel
theorem dX7_near_32 : decode cX7_near 32 = .ok (.aload_n 0, 1) := by decide +kernel
theorem dX7_near_33 : decode cX7_near 33 = .ok (.iconst 0, 1) := by decide +kernel
theorem dX7_near_34 : decode cX7_near 34 = .ok (.putfield 84, 3) := by decide +kernel
theorem dX7_near_37 : decode cX7_near 37 = .ok (.iconst 0, 1) := by decide +kernel
theorem dX7_near_38 : decode cX7_near 38 = .ok (.istore_n 3, 1) := by decide +kernel
theorem dX7_near_39 : decode cX7_near 39 = .ok (.iload_n 3, 1) := by decide +kernel
theorem dX7_near_40 : decode cX7_near 40 = .ok (.aload_n 0, 1) := by decide +kernel
theorem dX7_near_41 : decode cX7_near 41 = .ok (.getfield 65, 3) := by decide +kernel
theorem dX7_near_44 : decode cX7_near 44 = .ok (.if_icmp .ge 30, 3) := by decide +kernel
theorem dX7_near_47 : decode cX7_near 47 = .ok (.aload_n 0, 1) := by decide +kernel
theorem dX7_near_48 : decode cX7_near 48 = .ok (.iload_n 3, 1) := by decide +kernel
theorem dX7_near_49 : decode cX7_near 49 = .ok (.iload_n 2, 1) := by decide +kernel
theorem dX7_near_50 : decode cX7_near 50 = .ok (.invokevirtual 120, 3) := by decide +kernel
theorem dX7_near_53 : decode cX7_near 53 = .ok (.istore 4, 2) := by decide +kernel
theorem dX7_near_55 : decode cX7_near 55 = .ok (.iload 4, 2) := by decide +kernel
theorem dX7_near_57 : decode cX7_near 57 = .ok (.iload_n 1, 1) := by decide +kernel
theorem dX7_near_58 : decode cX7_near 58 = .ok (.if_icmp .gt 10, 3) := by decide +kernel
theorem dX7_near_61 : decode cX7_near 61 = .ok (.aload_n 0, 1) := by decide +kernel
theorem dX7_near_62 : decode cX7_near 62 = .ok (.iload_n 3, 1) := by decide +kernel
theorem dX7_near_63 : decode cX7_near 63 = .ok (.iload 4, 2) := by decide +kernel
theorem dX7_near_65 : decode cX7_near 65 = .ok (.invokevirtual 123, 3) := by decide +kernel
theorem dX7_near_68 : decode cX7_near 68 = .ok (.iinc 3 1, 3) := by decide +kernel
theorem dX7_near_71 : decode cX7_near 71 = .ok (.goto (-32), 3) := by decide +kernel
theorem dX7_near_74 : decode cX7_near 74 = .ok (.aload_n 0, 1) := by decide +kernel
theorem dX7_near_75 : decode cX7_near 75 = .ok (.getfield 84, 3) := by decide +kernel
theorem dX7_near_78 : decode cX7_near 78 = .ok (.ireturn, 1) := by decide +kernel
theorem dX7_scan_0 : decode cX7_scan 0 = .ok (.aload_n 0, 1) := by decide +kernel
theorem dX7_scan_1 : decode cX7_scan 1 = .ok (.iconst 0, 1) := by decide +kernel
theorem dX7_scan_2 : decode cX7_scan 2 = .ok (.putfield 50, 3) := by decide +kernel
theorem dX7_scan_5 : decode cX7_scan 5 = .ok (.aload_n 0, 1) := by decide +kernel
theorem dX7_scan_6 : decode cX7_scan 6 = .ok (.invokevirtual 57, 3) := by decide +kernel
theorem dX7_scan_9 : decode cX7_scan 9 = .ok (.istore_n 1, 1) := by decide +kernel
theorem dX7_scan_10 : decode cX7_scan 10 = .ok (.aload_n 0, 1) := by decide +kernel
theorem dX7_scan_11 : decode cX7_scan 11 = .ok (.iconst 0, 1) := by decide +kernel
theorem dX7_scan_12 : decode cX7_scan 12 = .ok (.putfield 84, 3) := by decide +kernel
theorem dX7_scan_15 : decode cX7_scan 15 = .ok (.iconst 1, 1) := by decide +kernel
theorem dX7_scan_16 : decode cX7_scan 16 = .ok (.istore_n 2, 1) := by decide +kernel
theorem dX7_scan_17 : decode cX7_scan 17 = .ok (.iload_n 2, 1) := by decide +kernel
theorem dX7_scan_18 : decode cX7_scan 18 = .ok (.iload_n 1, 1) := by decide +kernel
theorem dX7_scan_19 : decode cX7_scan 19 = .ok (.if_icmp .gt 53, 3) := by decide +kernel
theorem dX7_scan_22 : decode cX7_scan 22 = .ok (.bipush 7, 2) := by decide +kernel
theorem dX7_scan_24 : decode cX7_scan 24 = .ok (.istore_n 3, 1) := by decide +kernel
theorem dX7_scan_25 : decode cX7_scan 25 = .ok (.iload_n 3, 1) := by decide +kernel
theorem dX7_scan_26 : decode cX7_scan 26 = .ok (.ifCond .le 40, 3) := by decide +kernel
theorem dX7_scan_29 : decode cX7_scan 29 = .ok (.iload_n 3, 1) := by decide +kernel
theorem dX7_scan_30 : decode cX7_scan 30 = .ok (.iload_n 2, 1) := by decide +kernel
theorem dX7_scan_31 : decode cX7_scan 31 = .ok (.if_icmp .gt 14, 3) := by decide +kernel
theorem dX7_scan_34 : decode cX7_scan 34 = .ok (.aload_n 0, 1) := by decide +kernel
theorem dX7_scan_35 : decode cX7_scan 35 = .ok (.iload_n 2, 1) := by decide +kernel
theorem dX7_scan_36 : decode cX7_scan 36 = .ok (.iload_n 3, 1) := by decide +kernel
theorem dX7_scan_37 : decode cX7_scan 37 = .ok (.isub, 1) := by decide +kernel
theorem dX7_scan_38 : decode cX7_scan 38 = .ok (.iload_n 3, 1) := by decide +kernel
theorem dX7_scan_39 : decode cX7_scan 39 = .ok (.invokevirtual 76, 3) := by decide +kernel
theorem dX7_scan_42 : decode cX7_scan 42 = .ok (.goto 4, 3) := by decide +kernel
theorem dX7_scan_45 : decode cX7_scan 45 = .ok (.iconst (-1), 1) := by decide +kernel
theorem dX7_scan_46 : decode cX7_scan 46 = .ok (.istore 4, 2) := by decide +kernel
theorem dX7_scan_48 : decode cX7_scan 48 = .ok (.iload 4, 2) := by decide +kernel
theorem dX7_scan_50 : decode cX7_scan 50 = .ok (.ifCond .lt 10, 3) := by decide +kernel
theorem dX7_scan_53 : decode cX7_scan 53 = .ok (.aload_n 0, 1) := by decide +kernel
theorem dX7_scan_54 : decode cX7_scan 54 = .ok (.iload 4, 2) := by decide +kernel
theorem dX7_scan_56 : decode cX7_scan 56 = .ok (.iload_n 2, 1) := by decide +kernel
theorem dX7_scan_57 : decode cX7_scan 57 = .ok (.invokevirtual 123, 3) := by decide +kernel
theorem dX7_scan_60 : decode cX7_scan 60 = .ok (.iinc 3 (-1), 3) := by decide +kernel
theorem dX7_scan_63 : decode cX7_scan 63 = .ok (.goto (-38), 3) := by decide +kernel
theorem dX7_scan_66 : decode cX7_scan 66 = .ok (.iinc 2 1, 3) := by decide +kernel
theorem dX7_scan_69 : decode cX7_scan 69 = .ok (.goto (-52), 3) := by decide +kernel
theorem dX7_scan_72 : decode cX7_scan 72 = .ok (.aload_n 0, 1) := by decide +kernel
theorem dX7_scan_73 : decode cX7_scan 73 = .ok (.getfield 84, 3) := by decide +kernel
theorem dX7_scan_76 : decode cX7_scan 76 = .ok (.ireturn, 1) := by decide +kernel
theorem dX7_found_0 : decode cX7_found 0 = .ok (.aload_n 0, 1) := by decide +kernel
theorem dX7_found_1 : decode cX7_found 1 = .ok (.iload_n 1, 1) := by decide +kernel
theorem dX7_found_2 : decode cX7_found 2 = .ok (.ifCond .lt 11, 3) := by decide +kernel
theorem dX7_found_5 : decode cX7_found 5 = .ok (.iload_n 1, 1) := by decide +kernel
theorem dX7_found_6 : decode cX7_found 6 = .ok (.aload_n 0, 1) := by decide +kernel
theorem dX7_found_7 : decode cX7_found 7 = .ok (.getfield 84, 3) := by decide +kernel
theorem dX7_found_10 : decode cX7_found 10 = .ok (.if_icmp .lt 7, 3) := by decide +kernel
theorem dX7_found_13 : decode cX7_found 13 = .ok (.iconst 1, 1) := by decide +kernel
theorem dX7_found_14 : decode cX7_found 14 = .ok (.goto 17, 3) := by decide +kernel
theorem dX7_found_17 : decode cX7_found 17 = .ok (.iload_n 2, 1) := by decide +kernel
theorem dX7_found_18 : decode cX7_found 18 = .ok (.ifCond .lt 8, 3) := by decide +kernel
theorem dX7_found_21 : decode cX7_found 21 = .ok (.iload_n 2, 1) := by decide +kernel
theorem dX7_found_22 : decode cX7_found 22 = .ok (.iconst 1, 1) := by decide +kernel
theorem dX7_found_23 : decode cX7_found 23 = .ok (.if_icmp .le 7, 3) := by decide +kernel
theorem dX7_found_26 : decode cX7_found 26 = .ok (.iconst 2, 1) := by decide +kernel
theorem dX7_found_27 : decode cX7_found 27 = .ok (.goto 4, 3) := by decide +kernel
theorem dX7_found_30 : decode cX7_found 30 = .ok (.iconst 0, 1) := by decide +kernel
theorem dX7_found_31 : decode cX7_found 31 = .ok (.putfield 50, 3) := by decide +kernel
theorem dX7_found_34 : decode cX7_found 34 = .ok (.aload_n 0, 1) := by decide +kernel
theorem dX7_found_35 : decode cX7_found 35 = .ok (.getfield 50, 3) := by decide +kernel
theorem dX7_found_38 : decode cX7_found 38 = .ok (.ifCond .le 7, 3) := by decide +kernel
theorem dX7_found_41 : decode cX7_found 41 = .ok (.iconst 0, 1) := by decide +kernel
theorem dX7_found_42 : decode cX7_found 42 = .ok (.goto 22, 3) := by decide +kernel
theorem dX7_found_45 : decode cX7_found 45 = .ok (.iload_n 2, 1) := by decide +kernel
theorem dX7_found_46 : decode cX7_found 46 = .ok (.ifCond .ne 12, 3) := by decide +kernel
theorem dX7_found_49 : decode cX7_found 49 = .ok (.aload_n 0, 1) := by decide +kernel
theorem dX7_found_50 : decode cX7_found 50 = .ok (.getfield 31, 3) := by decide +kernel
theorem dX7_found_53 : decode cX7_found 53 = .ok (.iload_n 1, 1) := by decide +kernel
theorem dX7_found_54 : decode cX7_found 54 = .ok (.iaload, 1) := by decide +kernel
theorem dX7_found_55 : decode cX7_found 55 = .ok (.goto 9, 3) := by decide +kernel
theorem dX7_found_58 : decode cX7_found 58 = .ok (.aload_n 0, 1) := by decide +kernel
theorem dX7_found_59 : decode cX7_found 59 = .ok (.getfield 34, 3) := by decide +kernel
theorem dX7_found_62 : decode cX7_found 62 = .ok (.iload_n 1, 1) := by decide +kernel
theorem dX7_found_63 : decode cX7_found 63 = .ok (.iaload, 1) := by decide +kernel
theorem dX7_found_64 : decode cX7_found 64 = .ok (.ireturn, 1) := by decide +kernel
theorem dX7_splits_0 : decode cX7_splits 0 = .ok (.aload_n 0, 1) := by decide +kernel
theorem dX7_splits_1 : decode cX7_splits 1 = .ok (.iconst 0, 1) := by decide +kernel
theorem dX7_splits_2 : decode cX7_splits 2 = .ok (.putfield 50, 3) := by decide +kernel
theorem dX7_splits_5 : decode cX7_splits 5 = .ok (.aload_n 0, 1) := by decide +kernel
theorem dX7_splits_6 : decode cX7_splits 6 = .ok (.invokevirtual 57, 3) := by decide +kernel
theorem dX7_splits_9 : decode cX7_splits 9 = .ok (.istore_n 1, 1) := by decide +kernel
theorem dX7_splits_10 : decode cX7_splits 10 = .ok (.aload_n 0, 1) := by decide +kernel
theorem dX7_splits_11 : decode cX7_splits 11 = .ok (.getfield 43, 3) := by decide +kernel
theorem dX7_splits_14 : decode cX7_splits 14 = .ok (.iconst 0, 1) := by decide +kernel
theorem dX7_splits_15 : decode cX7_splits 15 = .ok (.lconst 1, 1) := by decide +kernel
theorem dX7_splits_16 : decode cX7_splits 16 = .ok (.lastore, 1) := by decide +kernel
theorem dX7_splits_17 : decode cX7_splits 17 = .ok (.iconst 1, 1) := by decide +kernel
theorem dX7_splits_18 : decode cX7_splits 18 = .ok (.istore_n 2, 1) := by decide +kernel
theorem dX7_splits_19 : decode cX7_splits 19 = .ok (.iload_n 2, 1) := by decide +kernel
theorem dX7_splits_20 : decode cX7_splits 20 = .ok (.iload_n 1, 1) := by decide +kernel
theorem dX7_splits_21 : decode cX7_splits 21 = .ok (.if_icmp .gt 76, 3) := by decide +kernel
theorem dX7_splits_24 : decode cX7_splits 24 = .ok (.aload_n 0, 1) := by decide +kernel
theorem dX7_splits_25 : decode cX7_splits 25 = .ok (.getfield 43, 3) := by decide +kernel
theorem dX7_splits_28 : decode cX7_splits 28 = .ok (.iload_n 2, 1) := by decide +kernel
theorem dX7_splits_29 : decode cX7_splits 29 = .ok (.lconst 0, 1) := by decide +kernel
theorem dX7_splits_30 : decode cX7_splits 30 = .ok (.lastore, 1) := by decide +kernel
theorem dX7_splits_31 : decode cX7_splits 31 = .ok (.iconst 1, 1) := by decide +kernel
theorem dX7_splits_32 : decode cX7_splits 32 = .ok (.istore_n 3, 1) := by decide +kernel
theorem dX7_splits_33 : decode cX7_splits 33 = .ok (.iload_n 3, 1) := by decide +kernel
theorem dX7_splits_34 : decode cX7_splits 34 = .ok (.bipush 7, 2) := by decide +kernel
theorem dX7_splits_36 : decode cX7_splits 36 = .ok (.if_icmp .gt 55, 3) := by decide +kernel
theorem dX7_splits_39 : decode cX7_splits 39 = .ok (.iload_n 3, 1) := by decide +kernel
theorem dX7_splits_40 : decode cX7_splits 40 = .ok (.iload_n 2, 1) := by decide +kernel
theorem dX7_splits_41 : decode cX7_splits 41 = .ok (.if_icmp .gt 50, 3) := by decide +kernel
theorem dX7_splits_44 : decode cX7_splits 44 = .ok (.aload_n 0, 1) := by decide +kernel
theorem dX7_splits_45 : decode cX7_splits 45 = .ok (.getfield 43, 3) := by decide +kernel
theorem dX7_splits_48 : decode cX7_splits 48 = .ok (.iload_n 2, 1) := by decide +kernel
theorem dX7_splits_49 : decode cX7_splits 49 = .ok (.aload_n 0, 1) := by decide +kernel
theorem dX7_splits_50 : decode cX7_splits 50 = .ok (.iload_n 2, 1) := by decide +kernel
theorem dX7_splits_51 : decode cX7_splits 51 = .ok (.iload_n 3, 1) := by decide +kernel
theorem dX7_splits_52 : decode cX7_splits 52 = .ok (.isub, 1) := by decide +kernel
theorem dX7_splits_53 : decode cX7_splits 53 = .ok (.iload_n 3, 1) := by decide +kernel
theorem dX7_splits_54 : decode cX7_splits 54 = .ok (.invokevirtual 76, 3) := by decide +kernel
theorem dX7_splits_57 : decode cX7_splits 57 = .ok (.ifCond .lt 21, 3) := by decide +kernel
theorem dX7_splits_60 : decode cX7_splits 60 = .ok (.aload_n 0, 1) := by decide +kernel
theorem dX7_splits_61 : decode cX7_splits 61 = .ok (.getfield 43, 3) := by decide +kernel
theorem dX7_splits_64 : decode cX7_splits 64 = .ok (.iload_n 2, 1) := by decide +kernel
theorem dX7_splits_65 : decode cX7_splits 65 = .ok (.laload, 1) := by decide +kernel
theorem dX7_splits_66 : decode cX7_splits 66 = .ok (.aload_n 0, 1) := by decide +kernel
theorem dX7_splits_67 : decode cX7_splits 67 = .ok (.getfield 43, 3) := by decide +kernel
theorem dX7_splits_70 : decode cX7_splits 70 = .ok (.iload_n 2, 1) := by decide +kernel
theorem dX7_splits_71 : decode cX7_splits 71 = .ok (.iload_n 3, 1) := by decide +kernel
theorem dX7_splits_72 : decode cX7_splits 72 = .ok (.isub, 1) := by decide +kernel
theorem dX7_splits_73 : decode cX7_splits 73 = .ok (.laload, 1) := by decide +kernel
theorem dX7_splits_74 : decode cX7_splits 74 = .ok (.ladd, 1) := by decide +kernel
theorem dX7_splits_75 : decode cX7_splits 75 = .ok (.goto 9, 3) := by decide +kernel
theorem dX7_splits_78 : decode cX7_splits 78 = .ok (.aload_n 0, 1) := by decide +kernel
theorem dX7_splits_79 : decode cX7_splits 79 = .ok (.getfield 43, 3) := by decide +kernel
theorem dX7_splits_82 : decode cX7_splits 82 = .ok (.iload_n 2, 1) := by decide +kernel
theorem dX7_splits_83 : decode cX7_splits 83 = .ok (.laload, 1) := by decide +kernel
theorem dX7_splits_84 : decode cX7_splits 84 = .ok (.lastore, 1) := by decide +kernel
theorem dX7_splits_85 : decode cX7_splits 85 = .ok (.iinc 3 1, 3) := by decide +kernel
theorem dX7_splits_88 : decode cX7_splits 88 = .ok (.goto (-55), 3) := by decide +kernel
theorem dX7_splits_91 : decode cX7_splits 91 = .ok (.iinc 2 1, 3) := by decide +kernel
theorem dX7_splits_94 : decode cX7_splits 94 = .ok (.goto (-75), 3) := by decide +kernel
theorem dX7_splits_97 : decode cX7_splits 97 = .ok (.aload_n 0, 1) := by decide +kernel
theorem dX7_splits_98 : decode cX7_splits 98 = .ok (.getfield 43, 3) := by decide +kernel
theorem dX7_splits_101 : decode cX7_splits 101 = .ok (.iload_n 1, 1) := by decide +kernel
theorem dX7_splits_102 : decode cX7_splits 102 = .ok (.laload, 1) := by decide +kernel
theorem dX7_splits_103 : decode cX7_splits 103 = .ok (.lreturn, 1) := by decide +kernel
theorem dX7_split_0 : decode cX7_split 0 = .ok (.aload_n 0, 1) := by decide +kernel
theorem dX7_split_1 : decode cX7_split 1 = .ok (.iconst 0, 1) := by decide +kernel
theorem dX7_split_2 : decode cX7_split 2 = .ok (.putfield 50, 3) := by decide +kernel
theorem dX7_split_5 : decode cX7_split 5 = .ok (.aload_n 0, 1) := by decide +kernel
theorem dX7_split_6 : decode cX7_split 6 = .ok (.invokevirtual 57, 3) := by decide +kernel
theorem dX7_split_9 : decode cX7_split 9 = .ok (.istore_n 1, 1) := by decide +kernel
theorem dX7_split_10 : decode cX7_split 10 = .ok (.aload_n 0, 1) := by decide +kernel
theorem dX7_split_11 : decode cX7_split 11 = .ok (.getfield 47, 3) := by decide +kernel
theorem dX7_split_14 : decode cX7_split 14 = .ok (.iload_n 1, 1) := by decide +kernel
theorem dX7_split_15 : decode cX7_split 15 = .ok (.iconst 0, 1) := by decide +kernel
theorem dX7_split_16 : decode cX7_split 16 = .ok (.iastore, 1) := by decide +kernel
theorem dX7_split_17 : decode cX7_split 17 = .ok (.iload_n 1, 1) := by decide +kernel
theorem dX7_split_18 : decode cX7_split 18 = .ok (.iconst 1, 1) := by decide +kernel
theorem dX7_split_19 : decode cX7_split 19 = .ok (.isub, 1) := by decide +kernel
theorem dX7_split_20 : decode cX7_split 20 = .ok (.istore_n 2, 1) := by decide +kernel
theorem dX7_split_21 : decode cX7_split 21 = .ok (.iload_n 2, 1) := by decide +kernel
theorem dX7_split_22 : decode cX7_split 22 = .ok (.ifCond .lt 103, 3) := by decide +kernel
theorem dX7_split_25 : decode cX7_split 25 = .ok (.aload_n 0, 1) := by decide +kernel
theorem dX7_split_26 : decode cX7_split 26 = .ok (.getfield 47, 3) := by decide +kernel
theorem dX7_split_29 : decode cX7_split 29 = .ok (.iload_n 2, 1) := by decide +kernel
theorem dX7_split_30 : decode cX7_split 30 = .ok (.bipush 100, 2) := by decide +kernel
theorem dX7_split_32 : decode cX7_split 32 = .ok (.iastore, 1) := by decide +kernel
theorem dX7_split_33 : decode cX7_split 33 = .ok (.iconst 1, 1) := by decide +kernel
theorem dX7_split_34 : decode cX7_split 34 = .ok (.istore_n 3, 1) := by decide +kernel
theorem dX7_split_35 : decode cX7_split 35 = .ok (.iload_n 3, 1) := by decide +kernel
theorem dX7_split_36 : decode cX7_split 36 = .ok (.bipush 7, 2) := by decide +kernel
theorem dX7_split_38 : decode cX7_split 38 = .ok (.if_icmp .gt 81, 3) := by decide +kernel
theorem dX7_split_41 : decode cX7_split 41 = .ok (.iload_n 2, 1) := by decide +kernel
theorem dX7_split_42 : decode cX7_split 42 = .ok (.iload_n 3, 1) := by decide +kernel
theorem dX7_split_43 : decode cX7_split 43 = .ok (.iadd, 1) := by decide +kernel
theorem dX7_split_44 : decode cX7_split 44 = .ok (.iload_n 1, 1) := by decide +kernel
theorem dX7_split_45 : decode cX7_split 45 = .ok (.if_icmp .gt 74, 3) := by decide +kernel
theorem dX7_split_48 : decode cX7_split 48 = .ok (.aload_n 0, 1) := by decide +kernel
theorem dX7_split_49 : decode cX7_split 49 = .ok (.iload_n 2, 1) := by decide +kernel
theorem dX7_split_50 : decode cX7_split 50 = .ok (.iload_n 3, 1) := by decide +kernel
theorem dX7_split_51 : decode cX7_split 51 = .ok (.invokevirtual 76, 3) := by decide +kernel
theorem dX7_split_54 : decode cX7_split 54 = .ok (.ifCond .lt 26, 3) := by decide +kernel
theorem dX7_split_57 : decode cX7_split 57 = .ok (.aload_n 0, 1) := by decide +kernel
theorem dX7_split_58 : decode cX7_split 58 = .ok (.getfield 47, 3) := by decide +kernel
theorem dX7_split_61 : decode cX7_split 61 = .ok (.iload_n 2, 1) := by decide +kernel
theorem dX7_split_62 : decode cX7_split 62 = .ok (.iload_n 3, 1) := by decide +kernel
theorem dX7_split_63 : decode cX7_split 63 = .ok (.iadd, 1) := by decide +kernel
theorem dX7_split_64 : decode cX7_split 64 = .ok (.iaload, 1) := by decide +kernel
theorem dX7_split_65 : decode cX7_split 65 = .ok (.iconst 1, 1) := by decide +kernel
theorem dX7_split_66 : decode cX7_split 66 = .ok (.iadd, 1) := by decide +kernel
theorem dX7_split_67 : decode cX7_split 67 = .ok (.aload_n 0, 1) := by decide +kernel
theorem dX7_split_68 : decode cX7_split 68 = .ok (.getfield 47, 3) := by decide +kernel
theorem dX7_split_71 : decode cX7_split 71 = .ok (.iload_n 2, 1) := by decide +kernel
theorem dX7_split_72 : decode cX7_split 72 = .ok (.iaload, 1) := by decide +kernel
theorem dX7_split_73 : decode cX7_split 73 = .ok (.if_icmp .ge 7, 3) := by decide +kernel
theorem dX7_split_76 : decode cX7_split 76 = .ok (.iconst 1, 1) := by decide +kernel
theorem dX7_split_77 : decode cX7_split 77 = .ok (.goto 4, 3) := by decide +kernel
theorem dX7_split_80 : decode cX7_split 80 = .ok (.iconst 0, 1) := by decide +kernel
theorem dX7_split_81 : decode cX7_split 81 = .ok (.istore 4, 2) := by decide +kernel
theorem dX7_split_83 : decode cX7_split 83 = .ok (.aload_n 0, 1) := by decide +kernel
theorem dX7_split_84 : decode cX7_split 84 = .ok (.getfield 47, 3) := by decide +kernel
theorem dX7_split_87 : decode cX7_split 87 = .ok (.iload_n 2, 1) := by decide +kernel
theorem dX7_split_88 : decode cX7_split 88 = .ok (.iload 4, 2) := by decide +kernel
theorem dX7_split_90 : decode cX7_split 90 = .ok (.ifCond .eq 16, 3) := by decide +kernel
theorem dX7_split_93 : decode cX7_split 93 = .ok (.aload_n 0, 1) := by decide +kernel
theorem dX7_split_94 : decode cX7_split 94 = .ok (.getfield 47, 3) := by decide +kernel
theorem dX7_split_97 : decode cX7_split 97 = .ok (.iload_n 2, 1) := by decide +kernel
theorem dX7_split_98 : decode cX7_split 98 = .ok (.iload_n 3, 1) := by decide +kernel
theorem dX7_split_99 : decode cX7_split 99 = .ok (.iadd, 1) := by decide +kernel
theorem dX7_split_100 : decode cX7_split 100 = .ok (.iaload, 1) := by decide +kernel
theorem dX7_split_101 : decode cX7_split 101 = .ok (.iconst 1, 1) := by decide +kernel
theorem dX7_split_102 : decode cX7_split 102 = .ok (.iadd, 1) := by decide +kernel
theorem dX7_split_103 : decode cX7_split 103 = .ok (.goto 9, 3) := by decide +kernel
theorem dX7_split_106 : decode cX7_split 106 = .ok (.aload_n 0, 1) := by decide +kernel
theorem dX7_split_107 : decode cX7_split 107 = .ok (.getfield 47, 3) := by decide +kernel
theorem dX7_split_110 : decode cX7_split 110 = .ok (.iload_n 2, 1) := by decide +kernel
theorem dX7_split_111 : decode cX7_split 111 = .ok (.iaload, 1) := by decide +kernel
theorem dX7_split_112 : decode cX7_split 112 = .ok (.iastore, 1) := by decide +kernel
theorem dX7_split_113 : decode cX7_split 113 = .ok (.iinc 3 1, 3) := by decide +kernel
theorem dX7_split_116 : decode cX7_split 116 = .ok (.goto (-81), 3) := by decide +kernel
theorem dX7_split_119 : decode cX7_split 119 = .ok (.iinc 2 (-1), 3) := by decide +kernel
theorem dX7_split_122 : decode cX7_split 122 = .ok (.goto (-101), 3) := by decide +kernel
theorem dX7_split_125 : decode cX7_split 125 = .ok (.aload_n 0, 1) := by decide +kernel
theorem dX7_split_126 : decode cX7_split 126 = .ok (.getfield 47, 3) := by decide +kernel
theorem dX7_split_129 : decode cX7_split 129 = .ok (.iconst 0, 1) := by decide +kernel
theorem dX7_split_130 : decode cX7_split 130 = .ok (.iaload, 1) := by decide +kernel
theorem dX7_split_131 : decode cX7_split 131 = .ok (.bipush 100, 2) := by decide +kernel
theorem dX7_split_133 : decode cX7_split 133 = .ok (.if_icmp .lt 5, 3) := by decide +kernel
theorem dX7_split_136 : decode cX7_split 136 = .ok (.iconst (-1), 1) := by decide +kernel
theorem dX7_split_137 : decode cX7_split 137 = .ok (.ireturn, 1) := by decide +kernel
theorem dX7_split_138 : decode cX7_split 138 = .ok (.aload_n 0, 1) := by decide +kernel
theorem dX7_split_139 : decode cX7_split 139 = .ok (.iconst 0, 1) := by decide +kernel
theorem dX7_split_140 : decode cX7_split 140 = .ok (.putfield 87, 3) := by decide +kernel
theorem dX7_split_143 : decode cX7_split 143 = .ok (.iconst 0, 1) := by decide +kernel
theorem dX7_split_144 : decode cX7_split 144 = .ok (.istore_n 2, 1) := by decide +kernel
theorem dX7_split_145 : decode cX7_split 145 = .ok (.iload_n 2, 1) := by decide +kernel
theorem dX7_split_146 : decode cX7_split 146 = .ok (.iload_n 1, 1) := by decide +kernel
theorem dX7_split_147 : decode cX7_split 147 = .ok (.if_icmp .ge 74, 3) := by decide +kernel
theorem dX7_split_150 : decode cX7_split 150 = .ok (.bipush 7, 2) := by decide +kernel
theorem dX7_split_152 : decode cX7_split 152 = .ok (.istore_n 3, 1) := by decide +kernel
theorem dX7_split_153 : decode cX7_split 153 = .ok (.iload_n 2, 1) := by decide +kernel
theorem dX7_split_154 : decode cX7_split 154 = .ok (.iload_n 3, 1) := by decide +kernel
theorem dX7_split_155 : decode cX7_split 155 = .ok (.iadd, 1) := by decide +kernel
theorem dX7_split_156 : decode cX7_split 156 = .ok (.iload_n 1, 1) := by decide +kernel
theorem dX7_split_157 : decode cX7_split 157 = .ok (.if_icmp .gt 31, 3) := by decide +kernel
theorem dX7_split_160 : decode cX7_split 160 = .ok (.aload_n 0, 1) := by decide +kernel
theorem dX7_split_161 : decode cX7_split 161 = .ok (.iload_n 2, 1) := by decide +kernel
theorem dX7_split_162 : decode cX7_split 162 = .ok (.iload_n 3, 1) := by decide +kernel
theorem dX7_split_163 : decode cX7_split 163 = .ok (.invokevirtual 76, 3) := by decide +kernel
theorem dX7_split_166 : decode cX7_split 166 = .ok (.ifCond .lt 22, 3) := by decide +kernel
theorem dX7_split_169 : decode cX7_split 169 = .ok (.aload_n 0, 1) := by decide +kernel
theorem dX7_split_170 : decode cX7_split 170 = .ok (.getfield 47, 3) := by decide +kernel
theorem dX7_split_173 : decode cX7_split 173 = .ok (.iload_n 2, 1) := by decide +kernel
theorem dX7_split_174 : decode cX7_split 174 = .ok (.iload_n 3, 1) := by decide +kernel
theorem dX7_split_175 : decode cX7_split 175 = .ok (.iadd, 1) := by decide +kernel
theorem dX7_split_176 : decode cX7_split 176 = .ok (.iaload, 1) := by decide +kernel
theorem dX7_split_177 : decode cX7_split 177 = .ok (.iconst 1, 1) := by decide +kernel
theorem dX7_split_178 : decode cX7_split 178 = .ok (.iadd, 1) := by decide +kernel
theorem dX7_split_179 : decode cX7_split 179 = .ok (.aload_n 0, 1) := by decide +kernel
theorem dX7_split_180 : decode cX7_split 180 = .ok (.getfield 47, 3) := by decide +kernel
theorem dX7_split_183 : decode cX7_split 183 = .ok (.iload_n 2, 1) := by decide +kernel
theorem dX7_split_184 : decode cX7_split 184 = .ok (.iaload, 1) := by decide +kernel
theorem dX7_split_185 : decode cX7_split 185 = .ok (.if_icmp .eq 9, 3) := by decide +kernel
theorem dX7_split_188 : decode cX7_split 188 = .ok (.iinc 3 (-1), 3) := by decide +kernel
theorem dX7_split_191 : decode cX7_split 191 = .ok (.goto (-38), 3) := by decide +kernel
theorem dX7_split_194 : decode cX7_split 194 = .ok (.iload_n 2, 1) := by decide +kernel
theorem dX7_split_195 : decode cX7_split 195 = .ok (.ifCond .le 9, 3) := by decide +kernel
theorem dX7_split_198 : decode cX7_split 198 = .ok (.aload_n 0, 1) := by decide +kernel
theorem dX7_split_199 : decode cX7_split 199 = .ok (.bipush 46, 2) := by decide +kernel
theorem dX7_split_201 : decode cX7_split 201 = .ok (.invokevirtual 90, 3) := by decide +kernel
theorem dX7_split_204 : decode cX7_split 204 = .ok (.aload_n 0, 1) := by decide +kernel
theorem dX7_split_205 : decode cX7_split 205 = .ok (.aload_n 0, 1) := by decide +kernel
theorem dX7_split_206 : decode cX7_split 206 = .ok (.iload_n 2, 1) := by decide +kernel
theorem dX7_split_207 : decode cX7_split 207 = .ok (.iload_n 3, 1) := by decide +kernel
theorem dX7_split_208 : decode cX7_split 208 = .ok (.invokevirtual 76, 3) := by decide +kernel
theorem dX7_split_211 : decode cX7_split 211 = .ok (.invokevirtual 94, 3) := by decide +kernel
theorem dX7_split_214 : decode cX7_split 214 = .ok (.iload_n 2, 1) := by decide +kernel
theorem dX7_split_215 : decode cX7_split 215 = .ok (.iload_n 3, 1) := by decide +kernel
theorem dX7_split_216 : decode cX7_split 216 = .ok (.iadd, 1) := by decide +kernel
theorem dX7_split_217 : decode cX7_split 217 = .ok (.istore_n 2, 1) := by decide +kernel
theorem dX7_split_218 : decode cX7_split 218 = .ok (.goto (-73), 3) := by decide +kernel
theorem dX7_split_221 : decode cX7_split 221 = .ok (.aload_n 0, 1) := by decide +kernel
theorem dX7_split_222 : decode cX7_split 222 = .ok (.getfield 47, 3) := by decide +kernel
theorem dX7_split_225 : decode cX7_split 225 = .ok (.iconst 0, 1) := by decide +kernel
theorem dX7_split_226 : decode cX7_split 226 = .ok (.iaload, 1) := by decide +kernel
theorem dX7_split_227 : decode cX7_split 227 = .ok (.ireturn, 1) := by decide +kernel
theorem dX7_length_0 : decode cX7_length 0 = .ok (.aload_n 0, 1) := by decide +kernel
theorem dX7_length_1 : decode cX7_length 1 = .ok (.iconst 0, 1) := by decide +kernel
theorem dX7_length_2 : decode cX7_length 2 = .ok (.putfield 50, 3) := by decide +kernel
theorem dX7_length_5 : decode cX7_length 5 = .ok (.aload_n 0, 1) := by decide +kernel
theorem dX7_length_6 : decode cX7_length 6 = .ok (.getfield 87, 3) := by decide +kernel
theorem dX7_length_9 : decode cX7_length 9 = .ok (.ireturn, 1) := by decide +kernel
theorem dX7_charAt_0 : decode cX7_charAt 0 = .ok (.aload_n 0, 1) := by decide +kernel
theorem dX7_charAt_1 : decode cX7_charAt 1 = .ok (.iconst 0, 1) := by decide +kernel
theorem dX7_charAt_2 : decode cX7_charAt 2 = .ok (.putfield 50, 3) := by decide +kernel
theorem dX7_charAt_5 : decode cX7_charAt 5 = .ok (.iload_n 1, 1) := by decide +kernel
theorem dX7_charAt_6 : decode cX7_charAt 6 = .ok (.ifCond .lt 11, 3) := by decide +kernel
theorem dX7_charAt_9 : decode cX7_charAt 9 = .ok (.iload_n 1, 1) := by decide +kernel
theorem dX7_charAt_10 : decode cX7_charAt 10 = .ok (.aload_n 0, 1) := by decide +kernel
theorem dX7_charAt_11 : decode cX7_charAt 11 = .ok (.getfield 87, 3) := by decide +kernel
theorem dX7_charAt_14 : decode cX7_charAt 14 = .ok (.if_icmp .lt 8, 3) := by decide +kernel
theorem dX7_charAt_17 : decode cX7_charAt 17 = .ok (.bipush 32, 2) := by decide +kernel
theorem dX7_charAt_19 : decode cX7_charAt 19 = .ok (.goto 10, 3) := by decide +kernel
theorem dX7_charAt_22 : decode cX7_charAt 22 = .ok (.aload_n 0, 1) := by decide +kernel
theorem dX7_charAt_23 : decode cX7_charAt 23 = .ok (.getfield 13, 3) := by decide +kernel
theorem dX7_charAt_26 : decode cX7_charAt 26 = .ok (.iload_n 1, 1) := by decide +kernel
theorem dX7_charAt_27 : decode cX7_charAt 27 = .ok (.iaload, 1) := by decide +kernel
theorem dX7_charAt_28 : decode cX7_charAt 28 = .ok (.i2c, 1) := by decide +kernel
theorem dX7_charAt_29 : decode cX7_charAt 29 = .ok (.ireturn, 1) := by decide +kernel
