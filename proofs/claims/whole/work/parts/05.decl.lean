theorem dJ6_bitCount_0f7a4_0 : decode cJ6_bitCount_0f7a4 0 = .ok (.iload_n 0, 1) := by decide +kernel
theorem dJ6_bitCount_0f7a4_1 : decode cJ6_bitCount_0f7a4 1 = .ok (.iload_n 0, 1) := by decide +kernel
theorem dJ6_bitCount_0f7a4_2 : decode cJ6_bitCount_0f7a4 2 = .ok (.iconst 1, 1) := by decide +kernel
theorem dJ6_bitCount_0f7a4_3 : decode cJ6_bitCount_0f7a4 3 = .ok (.iushr, 1) := by decide +kernel
theorem dJ6_bitCount_0f7a4_4 : decode cJ6_bitCount_0f7a4 4 = .ok (.ldc_w 265, 3) := by decide +kernel
theorem dJ6_bitCount_0f7a4_7 : decode cJ6_bitCount_0f7a4 7 = .ok (.iand, 1) := by decide +kernel
theorem dJ6_bitCount_0f7a4_8 : decode cJ6_bitCount_0f7a4 8 = .ok (.isub, 1) := by decide +kernel
theorem dJ6_bitCount_0f7a4_9 : decode cJ6_bitCount_0f7a4 9 = .ok (.istore_n 0, 1) := by decide +kernel
theorem dJ6_bitCount_0f7a4_10 : decode cJ6_bitCount_0f7a4 10 = .ok (.iload_n 0, 1) := by decide +kernel
theorem dJ6_bitCount_0f7a4_11 : decode cJ6_bitCount_0f7a4 11 = .ok (.ldc_w 266, 3) := by decide +kernel
theorem dJ6_bitCount_0f7a4_14 : decode cJ6_bitCount_0f7a4 14 = .ok (.iand, 1) := by decide +kernel
theorem dJ6_bitCount_0f7a4_15 : decode cJ6_bitCount_0f7a4 15 = .ok (.iload_n 0, 1) := by decide +kernel
theorem dJ6_bitCount_0f7a4_16 : decode cJ6_bitCount_0f7a4 16 = .ok (.iconst 2, 1) := by decide +kernel
theorem dJ6_bitCount_0f7a4_17 : decode cJ6_bitCount_0f7a4 17 = .ok (.iushr, 1) := by decide +kernel
theorem dJ6_bitCount_0f7a4_18 : decode cJ6_bitCount_0f7a4 18 = .ok (.ldc_w 266, 3) := by decide +kernel
theorem dJ6_bitCount_0f7a4_21 : decode cJ6_bitCount_0f7a4 21 = .ok (.iand, 1) := by decide +kernel
theorem dJ6_bitCount_0f7a4_22 : decode cJ6_bitCount_0f7a4 22 = .ok (.iadd, 1) := by decide +kernel
theorem dJ6_bitCount_0f7a4_23 : decode cJ6_bitCount_0f7a4 23 = .ok (.istore_n 0, 1) := by decide +kernel
theorem dJ6_bitCount_0f7a4_24 : decode cJ6_bitCount_0f7a4 24 = .ok (.iload_n 0, 1) := by decide +kernel
theorem dJ6_bitCount_0f7a4_25 : decode cJ6_bitCount_0f7a4 25 = .ok (.iload_n 0, 1) := by decide +kernel
theorem dJ6_bitCount_0f7a4_26 : decode cJ6_bitCount_0f7a4 26 = .ok (.iconst 4, 1) := by decide +kernel
theorem dJ6_bitCount_0f7a4_27 : decode cJ6_bitCount_0f7a4 27 = .ok (.iushr, 1) := by decide +kernel
theorem dJ6_bitCount_0f7a4_28 : decode cJ6_bitCount_0f7a4 28 = .ok (.iadd, 1) := by decide +kernel
theorem dJ6_bitCount_0f7a4_29 : decode cJ6_bitCount_0f7a4 29 = .ok (.ldc_w 267, 3) := by decide +kernel
theorem dJ6_bitCount_0f7a4_32 : decode cJ6_bitCount_0f7a4 32 = .ok (.iand, 1) := by decide +kernel
theorem dJ6_bitCount_0f7a4_33 : decode cJ6_bitCount_0f7a4 33 = .ok (.istore_n 0, 1) := by decide +kernel
theorem dJ6_bitCount_0f7a4_34 : decode cJ6_bitCount_0f7a4 34 = .ok (.iload_n 0, 1) := by decide +kernel
theorem dJ6_bitCount_0f7a4_35 : decode cJ6_bitCount_0f7a4 35 = .ok (.iload_n 0, 1) := by decide +kernel
theorem dJ6_bitCount_0f7a4_36 : decode cJ6_bitCount_0f7a4 36 = .ok (.bipush 8, 2) := by decide +kernel
theorem dJ6_bitCount_0f7a4_38 : decode cJ6_bitCount_0f7a4 38 = .ok (.iushr, 1) := by decide +kernel
theorem dJ6_bitCount_0f7a4_39 : decode cJ6_bitCount_0f7a4 39 = .ok (.iadd, 1) := by decide +kernel
theorem dJ6_bitCount_0f7a4_40 : decode cJ6_bitCount_0f7a4 40 = .ok (.istore_n 0, 1) := by decide +kernel
theorem dJ6_bitCount_0f7a4_41 : decode cJ6_bitCount_0f7a4 41 = .ok (.iload_n 0, 1) := by decide +kernel
theorem dJ6_bitCount_0f7a4_42 : decode cJ6_bitCount_0f7a4 42 = .ok (.iload_n 0, 1) := by decide +kernel
theorem dJ6_bitCount_0f7a4_43 : decode cJ6_bitCount_0f7a4 43 = .ok (.bipush 16, 2) := by decide +kernel
theorem dJ6_bitCount_0f7a4_45 : decode cJ6_bitCount_0f7a4 45 = .ok (.iushr, 1) := by decide +kernel
theorem dJ6_bitCount_0f7a4_46 : decode cJ6_bitCount_0f7a4 46 = .ok (.iadd, 1) := by decide +kernel
theorem dJ6_bitCount_0f7a4_47 : decode cJ6_bitCount_0f7a4 47 = .ok (.istore_n 0, 1) := by decide +kernel
theorem dJ6_bitCount_0f7a4_48 : decode cJ6_bitCount_0f7a4 48 = .ok (.iload_n 0, 1) := by decide +kernel
theorem dJ6_bitCount_0f7a4_49 : decode cJ6_bitCount_0f7a4 49 = .ok (.bipush 63, 2) := by decide +kernel
theorem dJ6_bitCount_0f7a4_51 : decode cJ6_bitCount_0f7a4 51 = .ok (.iand, 1) := by decide +kernel
theorem dJ6_bitCount_0f7a4_52 : decode cJ6_bitCount_0f7a4 52 = .ok (.ireturn, 1) := by decide +kernel
theorem dJ9_abs_0f7a4_0 : decode cJ9_abs_0f7a4 0 = .ok (.iload_n 0, 1) := by decide +kernel
theorem dJ9_abs_0f7a4_1 : decode cJ9_abs_0f7a4 1 = .ok (.ifCond .ge 8, 3) := by decide +kernel
theorem dJ9_abs_0f7a4_4 : decode cJ9_abs_0f7a4 4 = .ok (.iload_n 0, 1) := by decide +kernel
theorem dJ9_abs_0f7a4_5 : decode cJ9_abs_0f7a4 5 = .ok (.ineg, 1) := by decide +kernel
theorem dJ9_abs_0f7a4_6 : decode cJ9_abs_0f7a4 6 = .ok (.goto 4, 3) := by decide +kernel
theorem dJ9_abs_0f7a4_9 : decode cJ9_abs_0f7a4 9 = .ok (.iload_n 0, 1) := by decide +kernel
theorem dJ9_abs_0f7a4_10 : decode cJ9_abs_0f7a4 10 = .ok (.ireturn, 1) := by decide +kernel
theorem dJ9_max_7cf53_0 : decode cJ9_max_7cf53 0 = .ok (.iload_n 0, 1) := by decide +kernel
theorem dJ9_max_7cf53_1 : decode cJ9_max_7cf53 1 = .ok (.iload_n 1, 1) := by decide +kernel
theorem dJ9_max_7cf53_2 : decode cJ9_max_7cf53 2 = .ok (.if_icmp .lt 7, 3) := by decide +kernel
theorem dJ9_max_7cf53_5 : decode cJ9_max_7cf53 5 = .ok (.iload_n 0, 1) := by decide +kernel
theorem dJ9_max_7cf53_6 : decode cJ9_max_7cf53 6 = .ok (.goto 4, 3) := by decide +kernel
theorem dJ9_max_7cf53_9 : decode cJ9_max_7cf53 9 = .ok (.iload_n 1, 1) := by decide +kernel
theorem dJ9_max_7cf53_10 : decode cJ9_max_7cf53 10 = .ok (.ireturn, 1) := by decide +kernel
theorem dJ9_min_7cf53_0 : decode cJ9_min_7cf53 0 = .ok (.iload_n 0, 1) := by decide +kernel
theorem dJ9_min_7cf53_1 : decode cJ9_min_7cf53 1 = .ok (.iload_n 1, 1) := by decide +kernel
theorem dJ9_min_7cf53_2 : decode cJ9_min_7cf53 2 = .ok (.if_icmp .gt 7, 3) := by decide +kernel
theorem dJ9_min_7cf53_5 : decode cJ9_min_7cf53 5 = .ok (.iload_n 0, 1) := by decide +kernel
theorem dJ9_min_7cf53_6 : decode cJ9_min_7cf53 6 = .ok (.goto 4, 3) := by decide +kernel
theorem dJ9_min_7cf53_9 : decode cJ9_min_7cf53 9 = .ok (.iload_n 1, 1) := by decide +kernel
theorem dJ9_min_7cf53_10 : decode cJ9_min_7cf53 10 = .ok (.ireturn, 1) := by decide +kernel
theorem dJ7_fill_53178_0 : decode cJ7_fill_53178 0 = .ok (.iconst 0, 1) := by decide +kernel
theorem dJ7_fill_53178_1 : decode cJ7_fill_53178 1 = .ok (.istore_n 2, 1) := by decide +kernel
theorem dJ7_fill_53178_2 : decode cJ7_fill_53178 2 = .ok (.aload_n 0, 1) := by decide +kernel
theorem dJ7_fill_53178_3 : decode cJ7_fill_53178 3 = .ok (.arraylength, 1) := by decide +kernel
theorem dJ7_fill_53178_4 : decode cJ7_fill_53178 4 = .ok (.istore_n 3, 1) := by decide +kernel
theorem dJ7_fill_53178_5 : decode cJ7_fill_53178 5 = .ok (.iload_n 2, 1) := by decide +kernel
theorem dJ7_fill_53178_6 : decode cJ7_fill_53178 6 = .ok (.iload_n 3, 1) := by decide +kernel
theorem dJ7_fill_53178_7 : decode cJ7_fill_53178 7 = .ok (.if_icmp .ge 13, 3) := by decide +kernel
theorem dJ7_fill_53178_10 : decode cJ7_fill_53178 10 = .ok (.aload_n 0, 1) := by decide +kernel
theorem dJ7_fill_53178_11 : decode cJ7_fill_53178 11 = .ok (.iload_n 2, 1) := by decide +kernel
theorem dJ7_fill_53178_12 : decode cJ7_fill_53178 12 = .ok (.iload_n 1, 1) := by decide +kernel
theorem dJ7_fill_53178_13 : decode cJ7_fill_53178 13 = .ok (.iastore, 1) := by decide +kernel
theorem dJ7_fill_53178_14 : decode cJ7_fill_53178 14 = .ok (.iinc 2 1, 3) := by decide +kernel
theorem dJ7_fill_53178_17 : decode cJ7_fill_53178 17 = .ok (.goto (-12), 3) := by decide +kernel
theorem dJ7_fill_53178_20 : decode cJ7_fill_53178 20 = .ok (.return_, 1) := by decide +kernel
theorem dL_book_0 : decode cL_book 0 = .ok (.aload_n 1, 1) := by decide +kernel
theorem dL_book_1 : decode cL_book 1 = .ok (.iconst 0, 1) := by decide +kernel
theorem dL_book_2 : decode cL_book 2 = .ok (.aload_n 0, 1) := by decide +kernel
theorem dL_book_3 : decode cL_book 3 = .ok (.invokevirtual 7, 3) := by decide +kernel
theorem dL_book_6 : decode cL_book 6 = .ok (.i2l, 1) := by decide +kernel
theorem dL_book_7 : decode cL_book 7 = .ok (.lastore, 1) := by decide +kernel
theorem dL_book_8 : decode cL_book 8 = .ok (.goto 6, 3) := by decide +kernel
theorem dL_book_11 : decode cL_book 11 = .ok (.astore_n 2, 1) := by decide +kernel
theorem dL_book_12 : decode cL_book 12 = .ok (.iconst 1, 1) := by decide +kernel
theorem dL_book_13 : decode cL_book 13 = .ok (.ireturn, 1) := by decide +kernel
theorem dL_book_14 : decode cL_book 14 = .ok (.iconst 0, 1) := by decide +kernel
theorem dL_book_15 : decode cL_book 15 = .ok (.ireturn, 1) := by decide +kernel
theorem dL_fluency_0 : decode cL_fluency 0 = .ok (.aload_n 1, 1) := by decide +kernel
theorem dL_fluency_1 : decode cL_fluency 1 = .ok (.iconst 0, 1) := by decide +kernel
theorem dL_fluency_2 : decode cL_fluency 2 = .ok (.aload_n 0, 1) := by decide +kernel
theorem dL_fluency_3 : decode cL_fluency 3 = .ok (.invokevirtual 15, 3) := by decide +kernel
theorem dL_fluency_6 : decode cL_fluency 6 = .ok (.i2l, 1) := by decide +kernel
theorem dL_fluency_7 : decode cL_fluency 7 = .ok (.lastore, 1) := by decide +kernel
theorem dL_fluency_8 : decode cL_fluency 8 = .ok (.goto 6, 3) := by decide +kernel
theorem dL_fluency_11 : decode cL_fluency 11 = .ok (.astore_n 2, 1) := by decide +kernel
theorem dL_fluency_12 : decode cL_fluency 12 = .ok (.iconst 1, 1) := by decide +kernel
theorem dL_fluency_13 : decode cL_fluency 13 = .ok (.ireturn, 1) := by decide +kernel
theorem dL_fluency_14 : decode cL_fluency 14 = .ok (.iconst 0, 1) := by decide +kernel
theorem dL_fluency_15 : decode cL_fluency 15 = .ok (.ireturn, 1) := by decide +kernel
theorem dL_sentence_0 : decode cL_sentence 0 = .ok (.aload_n 1, 1) := by decide +kernel
theorem dL_sentence_1 : decode cL_sentence 1 = .ok (.iconst 0, 1) := by decide +kernel
theorem dL_sentence_2 : decode cL_sentence 2 = .ok (.aload_n 0, 1) := by decide +kernel
theorem dL_sentence_3 : decode cL_sentence 3 = .ok (.invokevirtual 18, 3) := by decide +kernel
theorem dL_sentence_6 : decode cL_sentence 6 = .ok (.i2l, 1) := by decide +kernel
theorem dL_sentence_7 : decode cL_sentence 7 = .ok (.lastore, 1) := by decide +kernel
theorem dL_sentence_8 : decode cL_sentence 8 = .ok (.goto 6, 3) := by decide +kernel
theorem dL_sentence_11 : decode cL_sentence 11 = .ok (.astore_n 2, 1) := by decide +kernel
theorem dL_sentence_12 : decode cL_sentence 12 = .ok (.iconst 1, 1) := by decide +kernel
theorem dL_sentence_13 : decode cL_sentence 13 = .ok (.ireturn, 1) := by decide +kernel
theorem dL_sentence_14 : decode cL_sentence 14 = .ok (.iconst 0, 1) := by decide +kernel
theorem dL_sentence_15 : decode cL_sentence 15 = .ok (.ireturn, 1) := by decide +kernel
theorem dL_learn_0 : decode cL_learn 0 = .ok (.aload_n 1, 1) := by decide +kernel
theorem dL_learn_1 : decode cL_learn 1 = .ok (.iconst 0, 1) := by decide +kernel
theorem dL_learn_2 : decode cL_learn 2 = .ok (.aload_n 0, 1) := by decide +kernel
theorem dL_learn_3 : decode cL_learn 3 = .ok (.invokevirtual 21, 3) := by decide +kernel
theorem dL_learn_6 : decode cL_learn 6 = .ok (.i2l, 1) := by decide +kernel
theorem dL_learn_7 : decode cL_learn 7 = .ok (.lastore, 1) := by decide +kernel
theorem dL_learn_8 : decode cL_learn 8 = .ok (.goto 9, 3) := by decide +kernel
theorem dL_learn_11 : decode cL_learn 11 = .ok (.astore_n 2, 1) := by decide +kernel
theorem dL_learn_12 : decode cL_learn 12 = .ok (.iconst 1, 1) := by decide +kernel
theorem dL_learn_13 : decode cL_learn 13 = .ok (.ireturn, 1) := by decide +kernel
theorem dL_learn_14 : decode cL_learn 14 = .ok (.astore_n 2, 1) := by decide +kernel
theorem dL_learn_15 : decode cL_learn 15 = .ok (.iconst 2, 1) := by decide +kernel
theorem dL_learn_16 : decode cL_learn 16 = .ok (.ireturn, 1) := by decide +kernel
theorem dL_learn_17 : decode cL_learn 17 = .ok (.iconst 0, 1) := by decide +kernel
theorem dL_learn_18 : decode cL_learn 18 = .ok (.ireturn, 1) := by decide +kernel
theorem dL_letter_0 : decode cL_letter 0 = .ok (.aload_n 3, 1) := by decide +kernel
theorem dL_letter_1 : decode cL_letter 1 = .ok (.iconst 0, 1) := by decide +kernel
theorem dL_letter_2 : decode cL_letter 2 = .ok (.aload_n 0, 1) := by decide +kernel
theorem dL_letter_3 : decode cL_letter 3 = .ok (.iload_n 1, 1) := by decide +kernel
theorem dL_letter_4 : decode cL_letter 4 = .ok (.iload_n 2, 1) := by decide +kernel
theorem dL_letter_5 : decode cL_letter 5 = .ok (.invokevirtual 26, 3) := by decide +kernel
theorem dL_letter_8 : decode cL_letter 8 = .ok (.i2l, 1) := by decide +kernel
theorem dL_letter_9 : decode cL_letter 9 = .ok (.lastore, 1) := by decide +kernel
theorem dL_letter_10 : decode cL_letter 10 = .ok (.goto 7, 3) := by decide +kernel
theorem dL_letter_13 : decode cL_letter 13 = .ok (.astore 4, 2) := by decide +kernel
theorem dL_letter_15 : decode cL_letter 15 = .ok (.iconst 1, 1) := by decide +kernel
theorem dL_letter_16 : decode cL_letter 16 = .ok (.ireturn, 1) := by decide +kernel
theorem dL_letter_17 : decode cL_letter 17 = .ok (.iconst 0, 1) := by decide +kernel
theorem dL_letter_18 : decode cL_letter 18 = .ok (.ireturn, 1) := by decide +kernel
theorem dL_phrase_0 : decode cL_phrase 0 = .ok (.aload_n 3, 1) := by decide +kernel
theorem dL_phrase_1 : decode cL_phrase 1 = .ok (.iconst 0, 1) := by decide +kernel
theorem dL_phrase_2 : decode cL_phrase 2 = .ok (.aload_n 0, 1) := by decide +kernel
theorem dL_phrase_3 : decode cL_phrase 3 = .ok (.iload_n 1, 1) := by decide +kernel
theorem dL_phrase_4 : decode cL_phrase 4 = .ok (.iload_n 2, 1) := by decide +kernel
theorem dL_phrase_5 : decode cL_phrase 5 = .ok (.invokevirtual 32, 3) := by decide +kernel
theorem dL_phrase_8 : decode cL_phrase 8 = .ok (.i2l, 1) := by decide +kernel
theorem dL_phrase_9 : decode cL_phrase 9 = .ok (.lastore, 1) := by decide +kernel
theorem dL_phrase_10 : decode cL_phrase 10 = .ok (.goto 11, 3) := by decide +kernel
theorem dL_phrase_13 : decode cL_phrase 13 = .ok (.astore 4, 2) := by decide +kernel
theorem dL_phrase_15 : decode cL_phrase 15 = .ok (.iconst 1, 1) := by decide +kernel
theorem dL_phrase_16 : decode cL_phrase 16 = .ok (.ireturn, 1) := by decide +kernel
theorem dL_phrase_17 : decode cL_phrase 17 = .ok (.astore 4, 2) := by decide +kernel
theorem dL_phrase_19 : decode cL_phrase 19 = .ok (.iconst 2, 1) := by decide +kernel
theorem dL_phrase_20 : decode cL_phrase 20 = .ok (.ireturn, 1) := by decide +kernel
theorem dL_phrase_21 : decode cL_phrase 21 = .ok (.iconst 0, 1) := by decide +kernel
theorem dL_phrase_22 : decode cL_phrase 22 = .ok (.ireturn, 1) := by decide +kernel
theorem dL_part_0 : decode cL_part 0 = .ok (.aload 4, 2) := by decide +kernel
theorem dL_part_2 : decode cL_part 2 = .ok (.iconst 0, 1) := by decide +kernel
theorem dL_part_3 : decode cL_part 3 = .ok (.aload_n 0, 1) := by decide +kernel
theorem dL_part_4 : decode cL_part 4 = .ok (.iload_n 1, 1) := by decide +kernel
theorem dL_part_5 : decode cL_part 5 = .ok (.iload_n 2, 1) := by decide +kernel
theorem dL_part_6 : decode cL_part 6 = .ok (.iload_n 3, 1) := by decide +kernel
theorem dL_part_7 : decode cL_part 7 = .ok (.invokevirtual 37, 3) := by decide +kernel
theorem dL_part_10 : decode cL_part 10 = .ok (.i2l, 1) := by decide +kernel
theorem dL_part_11 : decode cL_part 11 = .ok (.lastore, 1) := by decide +kernel
theorem dL_part_12 : decode cL_part 12 = .ok (.goto 7, 3) := by decide +kernel
theorem dL_part_15 : decode cL_part 15 = .ok (.astore 5, 2) := by decide +kernel
theorem dL_part_17 : decode cL_part 17 = .ok (.iconst 1, 1) := by decide +kernel
theorem dL_part_18 : decode cL_part 18 = .ok (.ireturn, 1) := by decide +kernel
theorem dL_part_19 : decode cL_part 19 = .ok (.iconst 0, 1) := by decide +kernel
theorem dL_part_20 : decode cL_part 20 = .ok (.ireturn, 1) := by decide +kernel
theorem dL_after_0 : decode cL_after 0 = .ok (.aload_n 3, 1) := by decide +kernel
theorem dL_after_1 : decode cL_after 1 = .ok (.iconst 0, 1) := by decide +kernel
theorem dL_after_2 : decode cL_after 2 = .ok (.aload_n 0, 1) := by decide +kernel
theorem dL_after_3 : decode cL_after 3 = .ok (.iload_n 1, 1) := by decide +kernel
theorem dL_after_4 : decode cL_after 4 = .ok (.iload_n 2, 1) := by decide +kernel
theorem dL_after_5 : decode cL_after 5 = .ok (.invokevirtual 41, 3) := by decide +kernel
theorem dL_after_8 : decode cL_after 8 = .ok (.i2l, 1) := by decide +kernel
theorem dL_after_9 : decode cL_after 9 = .ok (.lastore, 1) := by decide +kernel
theorem dL_after_10 : decode cL_after 10 = .ok (.goto 7, 3) := by decide +kernel
theorem dL_after_13 : decode cL_after 13 = .ok (.astore 4, 2) := by decide +kernel
theorem dL_after_15 : decode cL_after 15 = .ok (.iconst 1, 1) := by decide +kernel
theorem dL_after_16 : decode cL_after 16 = .ok (.ireturn, 1) := by decide +kernel
theorem dL_after_17 : decode cL_after 17 = .ok (.iconst 0, 1) := by decide +kernel
theorem dL_after_18 : decode cL_after 18 = .ok (.ireturn, 1) := by decide +kernel
theorem dL_place_0 : decode cL_place 0 = .ok (.aload_n 2, 1) := by decide +kernel
theorem dL_place_1 : decode cL_place 1 = .ok (.iconst 0, 1) := by decide +kernel
theorem dL_place_2 : decode cL_place 2 = .ok (.aload_n 0, 1) := by decide +kernel
theorem dL_place_3 : decode cL_place 3 = .ok (.iload_n 1, 1) := by decide +kernel
theorem dL_place_4 : decode cL_place 4 = .ok (.invokevirtual 44, 3) := by decide +kernel
theorem dL_place_7 : decode cL_place 7 = .ok (.i2l, 1) := by decide +kernel
theorem dL_place_8 : decode cL_place 8 = .ok (.lastore, 1) := by decide +kernel
theorem dL_place_9 : decode cL_place 9 = .ok (.goto 6, 3) := by decide +kernel
theorem dL_place_12 : decode cL_place 12 = .ok (.astore_n 3, 1) := by decide +kernel
theorem dL_place_13 : decode cL_place 13 = .ok (.iconst 1, 1) := by decide +kernel
theorem dL_place_14 : decode cL_place 14 = .ok (.ireturn, 1) := by decide +kernel
theorem dL_place_15 : decode cL_place 15 = .ok (.iconst 0, 1) := by decide +kernel
theorem dL_place_16 : decode cL_place 16 = .ok (.ireturn, 1) := by decide +kernel
theorem dL_put_0 : decode cL_put 0 = .ok (.aload_n 3, 1) := by decide +kernel
theorem dL_put_1 : decode cL_put 1 = .ok (.iconst 0, 1) := by decide +kernel
theorem dL_put_2 : decode cL_put 2 = .ok (.aload_n 0, 1) := by decide +kernel
theorem dL_put_3 : decode cL_put 3 = .ok (.iload_n 1, 1) := by decide +kernel
theorem dL_put_4 : decode cL_put 4 = .ok (.iload_n 2, 1) := by decide +kernel
theorem dL_put_5 : decode cL_put 5 = .ok (.invokevirtual 48, 3) := by decide +kernel
theorem dL_put_8 : decode cL_put 8 = .ok (.i2l, 1) := by decide +kernel
theorem dL_put_9 : decode cL_put 9 = .ok (.lastore, 1) := by decide +kernel
theorem dL_put_10 : decode cL_put 10 = .ok (.goto 7, 3) := by decide +kernel
theorem dL_put_13 : decode cL_put 13 = .ok (.astore 4, 2) := by decide +kernel
theorem dL_put_15 : decode cL_put 15 = .ok (.iconst 1, 1) := by decide +kernel
theorem dL_put_16 : decode cL_put 16 = .ok (.ireturn, 1) := by decide +kernel
theorem dL_put_17 : decode cL_put 17 = .ok (.iconst 0, 1) := by decide +kernel
theorem dL_put_18 : decode cL_put 18 = .ok (.ireturn, 1) := by decide +kernel
theorem dL_price_0 : decode cL_price 0 = .ok (.aload_n 3, 1) := by decide +kernel
theorem dL_price_1 : decode cL_price 1 = .ok (.iconst 0, 1) := by decide +kernel
theorem dL_price_2 : decode cL_price 2 = .ok (.aload_n 0, 1) := by decide +kernel
theorem dL_price_3 : decode cL_price 3 = .ok (.iload_n 1, 1) := by decide +kernel
theorem dL_price_4 : decode cL_price 4 = .ok (.iload_n 2, 1) := by decide +kernel
theorem dL_price_5 : decode cL_price 5 = .ok (.invokevirtual 51, 3) := by decide +kernel
theorem dL_price_8 : decode cL_price 8 = .ok (.i2l, 1) := by decide +kernel
theorem dL_price_9 : decode cL_price 9 = .ok (.lastore, 1) := by decide +kernel
theorem dL_price_10 : decode cL_price 10 = .ok (.goto 11, 3) := by decide +kernel
theorem dL_price_13 : decode cL_price 13 = .ok (.astore 4, 2) := by decide +kernel
theorem dL_price_15 : decode cL_price 15 = .ok (.iconst 1, 1) := by decide +kernel
theorem dL_price_16 : decode cL_price 16 = .ok (.ireturn, 1) := by decide +kernel
theorem dL_price_17 : decode cL_price 17 = .ok (.astore 4, 2) := by decide +kernel
theorem dL_price_19 : decode cL_price 19 = .ok (.iconst 2, 1) := by decide +kernel
theorem dL_price_20 : decode cL_price 20 = .ok (.ireturn, 1) := by decide +kernel
theorem dL_price_21 : decode cL_price 21 = .ok (.iconst 0, 1) := by decide +kernel
theorem dL_price_22 : decode cL_price 22 = .ok (.ireturn, 1) := by decide +kernel
theorem dL_drop_0 : decode cL_drop 0 = .ok (.aload_n 3, 1) := by decide +kernel
theorem dL_drop_1 : decode cL_drop 1 = .ok (.iconst 0, 1) := by decide +kernel
theorem dL_drop_2 : decode cL_drop 2 = .ok (.aload_n 0, 1) := by decide +kernel
theorem dL_drop_3 : decode cL_drop 3 = .ok (.iload_n 1, 1) := by decide +kernel
theorem dL_drop_4 : decode cL_drop 4 = .ok (.iload_n 2, 1) := by decide +kernel
theorem dL_drop_5 : decode cL_drop 5 = .ok (.invokevirtual 54, 3) := by decide +kernel
theorem dL_drop_8 : decode cL_drop 8 = .ok (.ifCond .eq 7, 3) := by decide +kernel
theorem dL_drop_11 : decode cL_drop 11 = .ok (.lconst 1, 1) := by decide +kernel
theorem dL_drop_12 : decode cL_drop 12 = .ok (.goto 4, 3) := by decide +kernel
theorem dL_drop_15 : decode cL_drop 15 = .ok (.lconst 0, 1) := by decide +kernel
theorem dL_drop_16 : decode cL_drop 16 = .ok (.lastore, 1) := by decide +kernel
theorem dL_drop_17 : decode cL_drop 17 = .ok (.goto 11, 3) := by decide +kernel
theorem dL_drop_20 : decode cL_drop 20 = .ok (.astore 4, 2) := by decide +kernel
theorem dL_drop_22 : decode cL_drop 22 = .ok (.iconst 1, 1) := by decide +kernel
theorem dL_drop_23 : decode cL_drop 23 = .ok (.ireturn, 1) := by decide +kernel
theorem dL_drop_24 : decode cL_drop 24 = .ok (.astore 4, 2) := by decide +kernel
theorem dL_drop_26 : decode cL_drop 26 = .ok (.iconst 2, 1) := by decide +kernel
theorem dL_drop_27 : decode cL_drop 27 = .ok (.ireturn, 1) := by decide +kernel
theorem dL_drop_28 : decode cL_drop 28 = .ok (.iconst 0, 1) := by decide +kernel
theorem dL_drop_29 : decode cL_drop 29 = .ok (.ireturn, 1) := by decide +kernel
theorem dL_tune_0 : decode cL_tune 0 = .ok (.aload_n 3, 1) := by decide +kernel
theorem dL_tune_1 : decode cL_tune 1 = .ok (.iconst 0, 1) := by decide +kernel
theorem dL_tune_2 : decode cL_tune 2 = .ok (.aload_n 0, 1) := by decide +kernel
theorem dL_tune_3 : decode cL_tune 3 = .ok (.iload_n 1, 1) := by decide +kernel
theorem dL_tune_4 : decode cL_tune 4 = .ok (.iload_n 2, 1) := by decide +kernel
theorem dL_tune_5 : decode cL_tune 5 = .ok (.invokevirtual 58, 3) := by decide +kernel
theorem dL_tune_8 : decode cL_tune 8 = .ok (.i2l, 1) := by decide +kernel
theorem dL_tune_9 : decode cL_tune 9 = .ok (.lastore, 1) := by decide +kernel
theorem dL_tune_10 : decode cL_tune 10 = .ok (.goto 11, 3) := by decide +kernel
theorem dL_tune_13 : decode cL_tune 13 = .ok (.astore 4, 2) := by decide +kernel
theorem dL_tune_15 : decode cL_tune 15 = .ok (.iconst 1, 1) := by decide +kernel
theorem dL_tune_16 : decode cL_tune 16 = .ok (.ireturn, 1) := by decide +kernel
theorem dL_tune_17 : decode cL_tune 17 = .ok (.astore 4, 2) := by decide +kernel
theorem dL_tune_19 : decode cL_tune 19 = .ok (.iconst 2, 1) := by decide +kernel
theorem dL_tune_20 : decode cL_tune 20 = .ok (.ireturn, 1) := by decide +kernel
theorem dL_tune_21 : decode cL_tune 21 = .ok (.iconst 0, 1) := by decide +kernel
theorem dL_tune_22 : decode cL_tune 22 = .ok (.ireturn, 1) := by decide +kernel
theorem dL_option_0 : decode cL_option 0 = .ok (.aload_n 3, 1) := by decide +kernel
theorem dL_option_1 : decode cL_option 1 = .ok (.iconst 0, 1) := by decide +kernel
theorem dL_option_2 : decode cL_option 2 = .ok (.aload_n 0, 1) := by decide +kernel
theorem dL_option_3 : decode cL_option 3 = .ok (.iload_n 1, 1) := by decide +kernel
theorem dL_option_4 : decode cL_option 4 = .ok (.iload_n 2, 1) := by decide +kernel
theorem dL_option_5 : decode cL_option 5 = .ok (.invokevirtual 61, 3) := by decide +kernel
theorem dL_option_8 : decode cL_option 8 = .ok (.i2l, 1) := by decide +kernel
theorem dL_option_9 : decode cL_option 9 = .ok (.lastore, 1) := by decide +kernel
theorem dL_option_10 : decode cL_option 10 = .ok (.goto 7, 3) := by decide +kernel
theorem dL_option_13 : decode cL_option 13 = .ok (.astore 4, 2) := by decide +kernel
theorem dL_option_15 : decode cL_option 15 = .ok (.iconst 1, 1) := by decide +kernel
theorem dL_option_16 : decode cL_option 16 = .ok (.ireturn, 1) := by decide +kernel
theorem dL_option_17 : decode cL_option 17 = .ok (.iconst 0, 1) := by decide +kernel
theorem dL_option_18 : decode cL_option 18 = .ok (.ireturn, 1) := by decide +kernel
theorem dL_stretch_0 : decode cL_stretch 0 = .ok (.aload_n 3, 1) := by decide +kernel
theorem dL_stretch_1 : decode cL_stretch 1 = .ok (.iconst 0, 1) := by decide +kernel
theorem dL_stretch_2 : decode cL_stretch 2 = .ok (.aload_n 0, 1) := by decide +kernel
theorem dL_stretch_3 : decode cL_stretch 3 = .ok (.iload_n 1, 1) := by decide +kernel
theorem dL_stretch_4 : decode cL_stretch 4 = .ok (.iload_n 2, 1) := by decide +kernel
theorem dL_stretch_5 : decode cL_stretch 5 = .ok (.invokevirtual 64, 3) := by decide +kernel
theorem dL_stretch_8 : decode cL_stretch 8 = .ok (.i2l, 1) := by decide +kernel
theorem dL_stretch_9 : decode cL_stretch 9 = .ok (.lastore, 1) := by decide +kernel
theorem dL_stretch_10 : decode cL_stretch 10 = .ok (.goto 11, 3) := by decide +kernel
theorem dL_stretch_13 : decode cL_stretch 13 = .ok (.astore 4, 2) := by decide +kernel
theorem dL_stretch_15 : decode cL_stretch 15 = .ok (.iconst 1, 1) := by decide +kernel
theorem dL_stretch_16 : decode cL_stretch 16 = .ok (.ireturn, 1) := by decide +kernel
theorem dL_stretch_17 : decode cL_stretch 17 = .ok (.astore 4, 2) := by decide +kernel
theorem dL_stretch_19 : decode cL_stretch 19 = .ok (.iconst 2, 1) := by decide +kernel
theorem dL_stretch_20 : decode cL_stretch 20 = .ok (.ireturn, 1) := by decide +kernel
theorem dL_stretch_21 : decode cL_stretch 21 = .ok (.iconst 0, 1) := by decide +kernel
theorem dL_stretch_22 : decode cL_stretch 22 = .ok (.ireturn, 1) := by decide +kernel
theorem dL_way_0 : decode cL_way 0 = .ok (.aload_n 3, 1) := by decide +kernel
theorem dL_way_1 : decode cL_way 1 = .ok (.iconst 0, 1) := by decide +kernel
theorem dL_way_2 : decode cL_way 2 = .ok (.aload_n 0, 1) := by decide +kernel
theorem dL_way_3 : decode cL_way 3 = .ok (.iload_n 1, 1) := by decide +kernel
theorem dL_way_4 : decode cL_way 4 = .ok (.iload_n 2, 1) := by decide +kernel
theorem dL_way_5 : decode cL_way 5 = .ok (.invokevirtual 67, 3) := by decide +kernel
theorem dL_way_8 : decode cL_way 8 = .ok (.i2l, 1) := by decide +kernel
theorem dL_way_9 : decode cL_way 9 = .ok (.lastore, 1) := by decide +kernel
theorem dL_way_10 : decode cL_way 10 = .ok (.goto 11, 3) := by decide +kernel
theorem dL_way_13 : decode cL_way 13 = .ok (.astore 4, 2) := by decide +kernel
theorem dL_way_15 : decode cL_way 15 = .ok (.iconst 1, 1) := by decide +kernel
theorem dL_way_16 : decode cL_way 16 = .ok (.ireturn, 1) := by decide +kernel
theorem dL_way_17 : decode cL_way 17 = .ok (.astore 4, 2) := by decide +kernel
theorem dL_way_19 : decode cL_way 19 = .ok (.iconst 2, 1) := by decide +kernel
theorem dL_way_20 : decode cL_way 20 = .ok (.ireturn, 1) := by decide +kernel
theorem dL_way_21 : decode cL_way 21 = .ok (.iconst 0, 1) := by decide +kernel
theorem dL_way_22 : decode cL_way 22 = .ok (.ireturn, 1) := by decide +kernel
theorem dL_step_0 : decode cL_step 0 = .ok (.aload 4, 2) := by decide +kernel
theorem dL_step_2 : decode cL_step 2 = .ok (.iconst 0, 1) := by decide +kernel
theorem dL_step_3 : decode cL_step 3 = .ok (.aload_n 0, 1) := by decide +kernel
theorem dL_step_4 : decode cL_step 4 = .ok (.iload_n 1, 1) := by decide +kernel
theorem dL_step_5 : decode cL_step 5 = .ok (.iload_n 2, 1) := by decide +kernel
theorem dL_step_6 : decode cL_step 6 = .ok (.iload_n 3, 1) := by decide +kernel
theorem dL_step_7 : decode cL_step 7 = .ok (.invokevirtual 70, 3) := by decide +kernel
theorem dL_step_10 : decode cL_step 10 = .ok (.i2l, 1) := by decide +kernel
theorem dL_step_11 : decode cL_step 11 = .ok (.lastore, 1) := by decide +kernel
theorem dL_step_12 : decode cL_step 12 = .ok (.goto 11, 3) := by decide +kernel
theorem dL_step_15 : decode cL_step 15 = .ok (.astore 5, 2) := by decide +kernel
theorem dL_step_17 : decode cL_step 17 = .ok (.iconst 1, 1) := by decide +kernel
theorem dL_step_18 : decode cL_step 18 = .ok (.ireturn, 1) := by decide +kernel
theorem dL_step_19 : decode cL_step 19 = .ok (.astore 5, 2) := by decide +kernel
theorem dL_step_21 : decode cL_step 21 = .ok (.iconst 2, 1) := by decide +kernel
theorem dL_step_22 : decode cL_step 22 = .ok (.ireturn, 1) := by decide +kernel
theorem dL_step_23 : decode cL_step 23 = .ok (.iconst 0, 1) := by decide +kernel
theorem dL_step_24 : decode cL_step 24 = .ok (.ireturn, 1) := by decide +kernel
theorem dL_word_0 : decode cL_word 0 = .ok (.aload_n 3, 1) := by decide +kernel
theorem dL_word_1 : decode cL_word 1 = .ok (.iconst 0, 1) := by decide +kernel
theorem dL_word_2 : decode cL_word 2 = .ok (.aload_n 0, 1) := by decide +kernel
theorem dL_word_3 : decode cL_word 3 = .ok (.iload_n 1, 1) := by decide +kernel
theorem dL_word_4 : decode cL_word 4 = .ok (.iload_n 2, 1) := by decide +kernel
theorem dL_word_5 : decode cL_word 5 = .ok (.invokevirtual 74, 3) := by decide +kernel
theorem dL_word_8 : decode cL_word 8 = .ok (.i2l, 1) := by decide +kernel
theorem dL_word_9 : decode cL_word 9 = .ok (.lastore, 1) := by decide +kernel
theorem dL_word_10 : decode cL_word 10 = .ok (.goto 7, 3) := by decide +kernel
theorem dL_word_13 : decode cL_word 13 = .ok (.astore 4, 2) := by decide +kernel
theorem dL_word_15 : decode cL_word 15 = .ok (.iconst 1, 1) := by decide +kernel
theorem dL_word_16 : decode cL_word 16 = .ok (.ireturn, 1) := by decide +kernel
theorem dL_word_17 : decode cL_word 17 = .ok (.iconst 0, 1) := by decide +kernel
theorem dL_word_18 : decode cL_word 18 = .ok (.ireturn, 1) := by decide +kernel
theorem dL_found_0 : decode cL_found 0 = .ok (.aload_n 2, 1) := by decide +kernel
theorem dL_found_1 : decode cL_found 1 = .ok (.iconst 0, 1) := by decide +kernel
theorem dL_found_2 : decode cL_found 2 = .ok (.aload_n 0, 1) := by decide +kernel
theorem dL_found_3 : decode cL_found 3 = .ok (.iload_n 1, 1) := by decide +kernel
theorem dL_found_4 : decode cL_found 4 = .ok (.invokevirtual 77, 3) := by decide +kernel
theorem dL_found_7 : decode cL_found 7 = .ok (.i2l, 1) := by decide +kernel
theorem dL_found_8 : decode cL_found 8 = .ok (.lastore, 1) := by decide +kernel
theorem dL_found_9 : decode cL_found 9 = .ok (.goto 6, 3) := by decide +kernel
theorem dL_found_12 : decode cL_found 12 = .ok (.astore_n 3, 1) := by decide +kernel
theorem dL_found_13 : decode cL_found 13 = .ok (.iconst 1, 1) := by decide +kernel
theorem dL_found_14 : decode cL_found 14 = .ok (.ireturn, 1) := by decide +kernel
theorem dL_found_15 : decode cL_found 15 = .ok (.iconst 0, 1) := by decide +kernel
theorem dL_found_16 : decode cL_found 16 = .ok (.ireturn, 1) := by decide +kernel
theorem dL_halves_0 : decode cL_halves 0 = .ok (.aload_n 3, 1) := by decide +kernel
theorem dL_halves_1 : decode cL_halves 1 = .ok (.iconst 0, 1) := by decide +kernel
theorem dL_halves_2 : decode cL_halves 2 = .ok (.aload_n 0, 1) := by decide +kernel
theorem dL_halves_3 : decode cL_halves 3 = .ok (.iload_n 1, 1) := by decide +kernel
theorem dL_halves_4 : decode cL_halves 4 = .ok (.iload_n 2, 1) := by decide +kernel
theorem dL_halves_5 : decode cL_halves 5 = .ok (.invokevirtual 80, 3) := by decide +kernel
theorem dL_halves_8 : decode cL_halves 8 = .ok (.i2l, 1) := by decide +kernel
theorem dL_halves_9 : decode cL_halves 9 = .ok (.lastore, 1) := by decide +kernel
theorem dL_halves_10 : decode cL_halves 10 = .ok (.goto 7, 3) := by decide +kernel
theorem dL_halves_13 : decode cL_halves 13 = .ok (.astore 4, 2) := by decide +kernel
theorem dL_halves_15 : decode cL_halves 15 = .ok (.iconst 1, 1) := by decide +kernel
theorem dL_halves_16 : decode cL_halves 16 = .ok (.ireturn, 1) := by decide +kernel
theorem dL_halves_17 : decode cL_halves 17 = .ok (.iconst 0, 1) := by decide +kernel
theorem dL_halves_18 : decode cL_halves 18 = .ok (.ireturn, 1) := by decide +kernel
theorem dL_stack_0 : decode cL_stack 0 = .ok (.aload_n 3, 1) := by decide +kernel
theorem dL_stack_1 : decode cL_stack 1 = .ok (.iconst 0, 1) := by decide +kernel
theorem dL_stack_2 : decode cL_stack 2 = .ok (.aload_n 0, 1) := by decide +kernel
theorem dL_stack_3 : decode cL_stack 3 = .ok (.iload_n 1, 1) := by decide +kernel
theorem dL_stack_4 : decode cL_stack 4 = .ok (.iload_n 2, 1) := by decide +kernel
theorem dL_stack_5 : decode cL_stack 5 = .ok (.invokevirtual 83, 3) := by decide +kernel
theorem dL_stack_8 : decode cL_stack 8 = .ok (.i2l, 1) := by decide +kernel
theorem dL_stack_9 : decode cL_stack 9 = .ok (.lastore, 1) := by decide +kernel
theorem dL_stack_10 : decode cL_stack 10 = .ok (.goto 11, 3) := by decide +kernel
theorem dL_stack_13 : decode cL_stack 13 = .ok (.astore 4, 2) := by decide +kernel
theorem dL_stack_15 : decode cL_stack 15 = .ok (.iconst 1, 1) := by decide +kernel
theorem dL_stack_16 : decode cL_stack 16 = .ok (.ireturn, 1) := by decide +kernel
theorem dL_stack_17 : decode cL_stack 17 = .ok (.astore 4, 2) := by decide +kernel
theorem dL_stack_19 : decode cL_stack 19 = .ok (.iconst 2, 1) := by decide +kernel
theorem dL_stack_20 : decode cL_stack 20 = .ok (.ireturn, 1) := by decide +kernel
theorem dL_stack_21 : decode cL_stack 21 = .ok (.iconst 0, 1) := by decide +kernel
theorem dL_stack_22 : decode cL_stack 22 = .ok (.ireturn, 1) := by decide +kernel
theorem dL_forced_0 : decode cL_forced 0 = .ok (.aload_n 1, 1) := by decide +kernel
theorem dL_forced_1 : decode cL_forced 1 = .ok (.iconst 0, 1) := by decide +kernel
theorem dL_forced_2 : decode cL_forced 2 = .ok (.aload_n 0, 1) := by decide +kernel
theorem dL_forced_3 : decode cL_forced 3 = .ok (.invokevirtual 86, 3) := by decide +kernel
theorem dL_forced_6 : decode cL_forced 6 = .ok (.i2l, 1) := by decide +kernel
theorem dL_forced_7 : decode cL_forced 7 = .ok (.lastore, 1) := by decide +kernel
theorem dL_forced_8 : decode cL_forced 8 = .ok (.goto 6, 3) := by decide +kernel
theorem dL_forced_11 : decode cL_forced 11 = .ok (.astore_n 2, 1) := by decide +kernel
theorem dL_forced_12 : decode cL_forced 12 = .ok (.iconst 1, 1) := by decide +kernel
theorem dL_forced_13 : decode cL_forced 13 = .ok (.ireturn, 1) := by decide +kernel
theorem dL_forced_14 : decode cL_forced 14 = .ok (.iconst 0, 1) := by decide +kernel
theorem dL_forced_15 : decode cL_forced 15 = .ok (.ireturn, 1) := by decide +kernel
theorem dL_near_0 : decode cL_near 0 = .ok (.aload_n 1, 1) := by decide +kernel
theorem dL_near_1 : decode cL_near 1 = .ok (.iconst 0, 1) := by decide +kernel
theorem dL_near_2 : decode cL_near 2 = .ok (.aload_n 0, 1) := by decide +kernel
theorem dL_near_3 : decode cL_near 3 = .ok (.invokevirtual 89, 3) := by decide +kernel
theorem dL_near_6 : decode cL_near 6 = .ok (.i2l, 1) := by decide +kernel
theorem dL_near_7 : decode cL_near 7 = .ok (.lastore, 1) := by decide +kernel
theorem dL_near_8 : decode cL_near 8 = .ok (.goto 6, 3) := by decide +kernel
theorem dL_near_11 : decode cL_near 11 = .ok (.astore_n 2, 1) := by decide +kernel
theorem dL_near_12 : decode cL_near 12 = .ok (.iconst 1, 1) := by decide +kernel
theorem dL_near_13 : decode cL_near 13 = .ok (.ireturn, 1) := by decide +kernel
theorem dL_near_14 : decode cL_near 14 = .ok (.iconst 0, 1) := by decide +kernel
theorem dL_near_15 : decode cL_near 15 = .ok (.ireturn, 1) := by decide +kernel
theorem dL_match_0 : decode cL_match 0 = .ok (.aload_n 2, 1) := by decide +kernel
theorem dL_match_1 : decode cL_match 1 = .ok (.iconst 0, 1) := by decide +kernel
theorem dL_match_2 : decode cL_match 2 = .ok (.aload_n 0, 1) := by decide +kernel
theorem dL_match_3 : decode cL_match 3 = .ok (.iload_n 1, 1) := by decide +kernel
theorem dL_match_4 : decode cL_match 4 = .ok (.invokevirtual 92, 3) := by decide +kernel
theorem dL_match_7 : decode cL_match 7 = .ok (.i2l, 1) := by decide +kernel
theorem dL_match_8 : decode cL_match 8 = .ok (.lastore, 1) := by decide +kernel
theorem dL_match_9 : decode cL_match 9 = .ok (.goto 6, 3) := by decide +kernel
theorem dL_match_12 : decode cL_match 12 = .ok (.astore_n 3, 1) := by decide +kernel
theorem dL_match_13 : decode cL_match 13 = .ok (.iconst 1, 1) := by decide +kernel
theorem dL_match_14 : decode cL_match 14 = .ok (.ireturn, 1) := by decide +kernel
theorem dL_match_15 : decode cL_match 15 = .ok (.iconst 0, 1) := by decide +kernel
theorem dL_match_16 : decode cL_match 16 = .ok (.ireturn, 1) := by decide +kernel
theorem dL_agreed_0 : decode cL_agreed 0 = .ok (.aload_n 2, 1) := by decide +kernel
theorem dL_agreed_1 : decode cL_agreed 1 = .ok (.iconst 0, 1) := by decide +kernel
theorem dL_agreed_2 : decode cL_agreed 2 = .ok (.aload_n 0, 1) := by decide +kernel
theorem dL_agreed_3 : decode cL_agreed 3 = .ok (.iload_n 1, 1) := by decide +kernel
theorem dL_agreed_4 : decode cL_agreed 4 = .ok (.invokevirtual 95, 3) := by decide +kernel
theorem dL_agreed_7 : decode cL_agreed 7 = .ok (.i2l, 1) := by decide +kernel
theorem dL_agreed_8 : decode cL_agreed 8 = .ok (.lastore, 1) := by decide +kernel
theorem dL_agreed_9 : decode cL_agreed 9 = .ok (.goto 6, 3) := by decide +kernel
theorem dL_agreed_12 : decode cL_agreed 12 = .ok (.astore_n 3, 1) := by decide +kernel
theorem dL_agreed_13 : decode cL_agreed 13 = .ok (.iconst 1, 1) := by decide +kernel
theorem dL_agreed_14 : decode cL_agreed 14 = .ok (.ireturn, 1) := by decide +kernel
theorem dL_agreed_15 : decode cL_agreed 15 = .ok (.iconst 0, 1) := by decide +kernel
theorem dL_agreed_16 : decode cL_agreed 16 = .ok (.ireturn, 1) := by decide +kernel
theorem dL_tuned_0 : decode cL_tuned 0 = .ok (.aload_n 1, 1) := by decide +kernel
theorem dL_tuned_1 : decode cL_tuned 1 = .ok (.iconst 0, 1) := by decide +kernel
theorem dL_tuned_2 : decode cL_tuned 2 = .ok (.aload_n 0, 1) := by decide +kernel
theorem dL_tuned_3 : decode cL_tuned 3 = .ok (.invokevirtual 98, 3) := by decide +kernel
theorem dL_tuned_6 : decode cL_tuned 6 = .ok (.i2l, 1) := by decide +kernel
theorem dL_tuned_7 : decode cL_tuned 7 = .ok (.lastore, 1) := by decide +kernel
theorem dL_tuned_8 : decode cL_tuned 8 = .ok (.goto 6, 3) := by decide +kernel
theorem dL_tuned_11 : decode cL_tuned 11 = .ok (.astore_n 2, 1) := by decide +kernel
theorem dL_tuned_12 : decode cL_tuned 12 = .ok (.iconst 1, 1) := by decide +kernel
theorem dL_tuned_13 : decode cL_tuned 13 = .ok (.ireturn, 1) := by decide +kernel
theorem dL_tuned_14 : decode cL_tuned 14 = .ok (.iconst 0, 1) := by decide +kernel
theorem dL_tuned_15 : decode cL_tuned 15 = .ok (.ireturn, 1) := by decide +kernel
theorem dL_law_0 : decode cL_law 0 = .ok (.new 8, 3) := by decide +kernel
theorem dL_law_3 : decode cL_law 3 = .ok (.dup, 1) := by decide +kernel
theorem dL_law_4 : decode cL_law 4 = .ok (.invokespecial 101, 3) := by decide +kernel
theorem dL_law_7 : decode cL_law 7 = .ok (.astore_n 1, 1) := by decide +kernel
theorem dL_law_8 : decode cL_law 8 = .ok (.new 102, 3) := by decide +kernel
theorem dL_law_11 : decode cL_law 11 = .ok (.dup, 1) := by decide +kernel
theorem dL_law_12 : decode cL_law 12 = .ok (.invokespecial 104, 3) := by decide +kernel
theorem dL_law_15 : decode cL_law 15 = .ok (.astore_n 2, 1) := by decide +kernel
theorem dL_law_16 : decode cL_law 16 = .ok (.iconst 1, 1) := by decide +kernel
theorem dL_law_17 : decode cL_law 17 = .ok (.newarray .long, 2) := by decide +kernel
theorem dL_law_19 : decode cL_law 19 = .ok (.astore_n 3, 1) := by decide +kernel
theorem dL_law_20 : decode cL_law 20 = .ok (.iconst 0, 1) := by decide +kernel
theorem dL_law_21 : decode cL_law 21 = .ok (.istore 4, 2) := by decide +kernel
theorem dL_law_23 : decode cL_law 23 = .ok (.iload 4, 2) := by decide +kernel
theorem dL_law_25 : decode cL_law 25 = .ok (.aload_n 0, 1) := by decide +kernel
theorem dL_law_26 : decode cL_law 26 = .ok (.arraylength, 1) := by decide +kernel
theorem dL_law_27 : decode cL_law 27 = .ok (.bipush 6, 2) := by decide +kernel
theorem dL_law_29 : decode cL_law 29 = .ok (.isub, 1) := by decide +kernel
theorem dL_law_30 : decode cL_law 30 = .ok (.if_icmp .gt 2037, 3) := by decide +kernel
theorem dL_law_33 : decode cL_law 33 = .ok (.aload_n 0, 1) := by decide +kernel
theorem dL_law_34 : decode cL_law 34 = .ok (.iload 4, 2) := by decide +kernel
theorem dL_law_36 : decode cL_law 36 = .ok (.iaload, 1) := by decide +kernel
theorem dL_law_37 : decode cL_law 37 = .ok (.bipush 63, 2) := by decide +kernel
theorem dL_law_39 : decode cL_law 39 = .ok (.iand, 1) := by decide +kernel
theorem dL_law_40 : decode cL_law 40 = .ok (.tableswitch 2021 0 37 #[168, 241, 266, 310, 354, 398, 442, 455, 523, 591, 687, 755, 811, 879, 947, 1038, 1106, 1174, 1242, 1255, 1268, 1336, 1416, 1484, 1540, 1608, 1676, 1720, 1764, 1820, 1876, 1889, 1902, 1915, 1928, 1972, 1983, 1996], 168) := by decide +kernel
theorem dL_law_208 : decode cL_law 208 = .ok (.aload_n 1, 1) := by decide +kernel
theorem dL_law_209 : decode cL_law 209 = .ok (.aload_n 0, 1) := by decide +kernel
theorem dL_law_210 : decode cL_law 210 = .ok (.iload 4, 2) := by decide +kernel
theorem dL_law_212 : decode cL_law 212 = .ok (.iconst 1, 1) := by decide +kernel
theorem dL_law_213 : decode cL_law 213 = .ok (.iadd, 1) := by decide +kernel
theorem dL_law_214 : decode cL_law 214 = .ok (.iaload, 1) := by decide +kernel
theorem dL_law_215 : decode cL_law 215 = .ok (.aload_n 0, 1) := by decide +kernel
theorem dL_law_216 : decode cL_law 216 = .ok (.iload 4, 2) := by decide +kernel
theorem dL_law_218 : decode cL_law 218 = .ok (.iconst 2, 1) := by decide +kernel
theorem dL_law_219 : decode cL_law 219 = .ok (.iadd, 1) := by decide +kernel
theorem dL_law_220 : decode cL_law 220 = .ok (.iaload, 1) := by decide +kernel
theorem dL_law_221 : decode cL_law 221 = .ok (.aload_n 0, 1) := by decide +kernel
theorem dL_law_222 : decode cL_law 222 = .ok (.iload 4, 2) := by decide +kernel
theorem dL_law_224 : decode cL_law 224 = .ok (.iconst 3, 1) := by decide +kernel
theorem dL_law_225 : decode cL_law 225 = .ok (.iadd, 1) := by decide +kernel
theorem dL_law_226 : decode cL_law 226 = .ok (.iaload, 1) := by decide +kernel
theorem dL_law_227 : decode cL_law 227 = .ok (.aload_n 0, 1) := by decide +kernel
theorem dL_law_228 : decode cL_law 228 = .ok (.iload 4, 2) := by decide +kernel
theorem dL_law_230 : decode cL_law 230 = .ok (.iconst 4, 1) := by decide +kernel
theorem dL_law_231 : decode cL_law 231 = .ok (.iadd, 1) := by decide +kernel
theorem dL_law_232 : decode cL_law 232 = .ok (.iaload, 1) := by decide +kernel
theorem dL_law_233 : decode cL_law 233 = .ok (.aload_n 0, 1) := by decide +kernel
theorem dL_law_234 : decode cL_law 234 = .ok (.iload 4, 2) := by decide +kernel
theorem dL_law_236 : decode cL_law 236 = .ok (.iconst 5, 1) := by decide +kernel
theorem dL_law_237 : decode cL_law 237 = .ok (.iadd, 1) := by decide +kernel
theorem dL_law_238 : decode cL_law 238 = .ok (.iaload, 1) := by decide +kernel
theorem dL_law_239 : decode cL_law 239 = .ok (.invokevirtual 105, 3) := by decide +kernel
theorem dL_law_242 : decode cL_law 242 = .ok (.aload_n 2, 1) := by decide +kernel
theorem dL_law_243 : decode cL_law 243 = .ok (.aload_n 0, 1) := by decide +kernel
theorem dL_law_244 : decode cL_law 244 = .ok (.iload 4, 2) := by decide +kernel
theorem dL_law_246 : decode cL_law 246 = .ok (.iconst 1, 1) := by decide +kernel
theorem dL_law_247 : decode cL_law 247 = .ok (.iadd, 1) := by decide +kernel
theorem dL_law_248 : decode cL_law 248 = .ok (.iaload, 1) := by decide +kernel
theorem dL_law_249 : decode cL_law 249 = .ok (.aload_n 0, 1) := by decide +kernel
theorem dL_law_250 : decode cL_law 250 = .ok (.iload 4, 2) := by decide +kernel
theorem dL_law_252 : decode cL_law 252 = .ok (.iconst 2, 1) := by decide +kernel
theorem dL_law_253 : decode cL_law 253 = .ok (.iadd, 1) := by decide +kernel
theorem dL_law_254 : decode cL_law 254 = .ok (.iaload, 1) := by decide +kernel
theorem dL_law_255 : decode cL_law 255 = .ok (.aload_n 0, 1) := by decide +kernel
theorem dL_law_256 : decode cL_law 256 = .ok (.iload 4, 2) := by decide +kernel
theorem dL_law_258 : decode cL_law 258 = .ok (.iconst 3, 1) := by decide +kernel
theorem dL_law_259 : decode cL_law 259 = .ok (.iadd, 1) := by decide +kernel
theorem dL_law_260 : decode cL_law 260 = .ok (.iaload, 1) := by decide +kernel
theorem dL_law_261 : decode cL_law 261 = .ok (.aload_n 0, 1) := by decide +kernel
theorem dL_law_262 : decode cL_law 262 = .ok (.iload 4, 2) := by decide +kernel
theorem dL_law_264 : decode cL_law 264 = .ok (.iconst 4, 1) := by decide +kernel
theorem dL_law_265 : decode cL_law 265 = .ok (.iadd, 1) := by decide +kernel
theorem dL_law_266 : decode cL_law 266 = .ok (.iaload, 1) := by decide +kernel
theorem dL_law_267 : decode cL_law 267 = .ok (.aload_n 0, 1) := by decide +kernel
theorem dL_law_268 : decode cL_law 268 = .ok (.iload 4, 2) := by decide +kernel
theorem dL_law_270 : decode cL_law 270 = .ok (.iconst 5, 1) := by decide +kernel
theorem dL_law_271 : decode cL_law 271 = .ok (.iadd, 1) := by decide +kernel
theorem dL_law_272 : decode cL_law 272 = .ok (.iaload, 1) := by decide +kernel
theorem dL_law_273 : decode cL_law 273 = .ok (.invokevirtual 109, 3) := by decide +kernel
theorem dL_law_276 : decode cL_law 276 = .ok (.if_icmp .eq 1785, 3) := by decide +kernel
theorem dL_law_279 : decode cL_law 279 = .ok (.iconst 0, 1) := by decide +kernel
theorem dL_law_280 : decode cL_law 280 = .ok (.ireturn, 1) := by decide +kernel
theorem dL_law_281 : decode cL_law 281 = .ok (.aload_n 1, 1) := by decide +kernel
theorem dL_law_282 : decode cL_law 282 = .ok (.aload_n 0, 1) := by decide +kernel
theorem dL_law_283 : decode cL_law 283 = .ok (.iload 4, 2) := by decide +kernel
theorem dL_law_285 : decode cL_law 285 = .ok (.iconst 1, 1) := by decide +kernel
theorem dL_law_286 : decode cL_law 286 = .ok (.iadd, 1) := by decide +kernel
theorem dL_law_287 : decode cL_law 287 = .ok (.iaload, 1) := by decide +kernel
theorem dL_law_288 : decode cL_law 288 = .ok (.invokevirtual 110, 3) := by decide +kernel
theorem dL_law_291 : decode cL_law 291 = .ok (.aload_n 2, 1) := by decide +kernel
theorem dL_law_292 : decode cL_law 292 = .ok (.aload_n 0, 1) := by decide +kernel
theorem dL_law_293 : decode cL_law 293 = .ok (.iload 4, 2) := by decide +kernel
theorem dL_law_295 : decode cL_law 295 = .ok (.iconst 1, 1) := by decide +kernel
theorem dL_law_296 : decode cL_law 296 = .ok (.iadd, 1) := by decide +kernel
theorem dL_law_297 : decode cL_law 297 = .ok (.iaload, 1) := by decide +kernel
theorem dL_law_298 : decode cL_law 298 = .ok (.invokevirtual 114, 3) := by decide +kernel
theorem dL_law_301 : decode cL_law 301 = .ok (.if_icmp .eq 1760, 3) := by decide +kernel
theorem dL_law_304 : decode cL_law 304 = .ok (.iconst 0, 1) := by decide +kernel
theorem dL_law_305 : decode cL_law 305 = .ok (.ireturn, 1) := by decide +kernel
theorem dL_law_306 : decode cL_law 306 = .ok (.aload_n 1, 1) := by decide +kernel
theorem dL_law_307 : decode cL_law 307 = .ok (.aload_n 3, 1) := by decide +kernel
theorem dL_law_308 : decode cL_law 308 = .ok (.invokestatic 115, 3) := by decide +kernel
theorem dL_law_311 : decode cL_law 311 = .ok (.istore 5, 2) := by decide +kernel
theorem dL_law_313 : decode cL_law 313 = .ok (.aload_n 2, 1) := by decide +kernel
theorem dL_law_314 : decode cL_law 314 = .ok (.invokevirtual 120, 3) := by decide +kernel
theorem dL_law_317 : decode cL_law 317 = .ok (.istore 6, 2) := by decide +kernel
theorem dL_law_319 : decode cL_law 319 = .ok (.aload_n 2, 1) := by decide +kernel
theorem dL_law_320 : decode cL_law 320 = .ok (.invokevirtual 121, 3) := by decide +kernel
theorem dL_law_323 : decode cL_law 323 = .ok (.iload 5, 2) := by decide +kernel
theorem dL_law_325 : decode cL_law 325 = .ok (.if_icmp .eq 5, 3) := by decide +kernel
theorem dL_law_328 : decode cL_law 328 = .ok (.iconst 0, 1) := by decide +kernel
theorem dL_law_329 : decode cL_law 329 = .ok (.ireturn, 1) := by decide +kernel
theorem dL_law_330 : decode cL_law 330 = .ok (.iload 5, 2) := by decide +kernel
theorem dL_law_332 : decode cL_law 332 = .ok (.ifCond .ne 15, 3) := by decide +kernel
theorem dL_law_335 : decode cL_law 335 = .ok (.aload_n 3, 1) := by decide +kernel
theorem dL_law_336 : decode cL_law 336 = .ok (.iconst 0, 1) := by decide +kernel
theorem dL_law_337 : decode cL_law 337 = .ok (.laload, 1) := by decide +kernel
theorem dL_law_338 : decode cL_law 338 = .ok (.iload 6, 2) := by decide +kernel
theorem dL_law_340 : decode cL_law 340 = .ok (.i2l, 1) := by decide +kernel
theorem dL_law_341 : decode cL_law 341 = .ok (.lcmp, 1) := by decide +kernel
theorem dL_law_342 : decode cL_law 342 = .ok (.ifCond .eq 5, 3) := by decide +kernel
theorem dL_law_345 : decode cL_law 345 = .ok (.iconst 0, 1) := by decide +kernel
theorem dL_law_346 : decode cL_law 346 = .ok (.ireturn, 1) := by decide +kernel
theorem dL_law_347 : decode cL_law 347 = .ok (.goto 1714, 3) := by decide +kernel
theorem dL_law_350 : decode cL_law 350 = .ok (.aload_n 1, 1) := by decide +kernel
theorem dL_law_351 : decode cL_law 351 = .ok (.aload_n 3, 1) := by decide +kernel
theorem dL_law_352 : decode cL_law 352 = .ok (.invokestatic 124, 3) := by decide +kernel
theorem dL_law_355 : decode cL_law 355 = .ok (.istore 5, 2) := by decide +kernel
theorem dL_law_357 : decode cL_law 357 = .ok (.aload_n 2, 1) := by decide +kernel
theorem dL_law_358 : decode cL_law 358 = .ok (.invokevirtual 126, 3) := by decide +kernel
theorem dL_law_361 : decode cL_law 361 = .ok (.istore 6, 2) := by decide +kernel
theorem dL_law_363 : decode cL_law 363 = .ok (.aload_n 2, 1) := by decide +kernel
theorem dL_law_364 : decode cL_law 364 = .ok (.invokevirtual 121, 3) := by decide +kernel
theorem dL_law_367 : decode cL_law 367 = .ok (.iload 5, 2) := by decide +kernel
theorem dL_law_369 : decode cL_law 369 = .ok (.if_icmp .eq 5, 3) := by decide +kernel
theorem dL_law_372 : decode cL_law 372 = .ok (.iconst 0, 1) := by decide +kernel
theorem dL_law_373 : decode cL_law 373 = .ok (.ireturn, 1) := by decide +kernel
theorem dL_law_374 : decode cL_law 374 = .ok (.iload 5, 2) := by decide +kernel
theorem dL_law_376 : decode cL_law 376 = .ok (.ifCond .ne 15, 3) := by decide +kernel
theorem dL_law_379 : decode cL_law 379 = .ok (.aload_n 3, 1) := by decide +kernel
theorem dL_law_380 : decode cL_law 380 = .ok (.iconst 0, 1) := by decide +kernel
theorem dL_law_381 : decode cL_law 381 = .ok (.laload, 1) := by decide +kernel
theorem dL_law_382 : decode cL_law 382 = .ok (.iload 6, 2) := by decide +kernel
theorem dL_law_384 : decode cL_law 384 = .ok (.i2l, 1) := by decide +kernel
theorem dL_law_385 : decode cL_law 385 = .ok (.lcmp, 1) := by decide +kernel
theorem dL_law_386 : decode cL_law 386 = .ok (.ifCond .eq 5, 3) := by decide +kernel
theorem dL_law_389 : decode cL_law 389 = .ok (.iconst 0, 1) := by decide +kernel
theorem dL_law_390 : decode cL_law 390 = .ok (.ireturn, 1) := by decide +kernel
theorem dL_law_391 : decode cL_law 391 = .ok (.goto 1670, 3) := by decide +kernel
theorem dL_law_394 : decode cL_law 394 = .ok (.aload_n 1, 1) := by decide +kernel
theorem dL_law_395 : decode cL_law 395 = .ok (.aload_n 3, 1) := by decide +kernel
theorem dL_law_396 : decode cL_law 396 = .ok (.invokestatic 127, 3) := by decide +kernel
theorem dL_law_399 : decode cL_law 399 = .ok (.istore 5, 2) := by decide +kernel
theorem dL_law_401 : decode cL_law 401 = .ok (.aload_n 2, 1) := by decide +kernel
theorem dL_law_402 : decode cL_law 402 = .ok (.invokevirtual 129, 3) := by decide +kernel
theorem dL_law_405 : decode cL_law 405 = .ok (.istore 6, 2) := by decide +kernel
theorem dL_law_407 : decode cL_law 407 = .ok (.aload_n 2, 1) := by decide +kernel
theorem dL_law_408 : decode cL_law 408 = .ok (.invokevirtual 121, 3) := by decide +kernel
theorem dL_law_411 : decode cL_law 411 = .ok (.iload 5, 2) := by decide +kernel
theorem dL_law_413 : decode cL_law 413 = .ok (.if_icmp .eq 5, 3) := by decide +kernel
theorem dL_law_416 : decode cL_law 416 = .ok (.iconst 0, 1) := by decide +kernel
theorem dL_law_417 : decode cL_law 417 = .ok (.ireturn, 1) := by decide +kernel
theorem dL_law_418 : decode cL_law 418 = .ok (.iload 5, 2) := by decide +kernel
theorem dL_law_420 : decode cL_law 420 = .ok (.ifCond .ne 15, 3) := by decide +kernel
theorem dL_law_423 : decode cL_law 423 = .ok (.aload_n 3, 1) := by decide +kernel
theorem dL_law_424 : decode cL_law 424 = .ok (.iconst 0, 1) := by decide +kernel
theorem dL_law_425 : decode cL_law 425 = .ok (.laload, 1) := by decide +kernel
theorem dL_law_426 : decode cL_law 426 = .ok (.iload 6, 2) := by decide +kernel
theorem dL_law_428 : decode cL_law 428 = .ok (.i2l, 1) := by decide +kernel
theorem dL_law_429 : decode cL_law 429 = .ok (.lcmp, 1) := by decide +kernel
theorem dL_law_430 : decode cL_law 430 = .ok (.ifCond .eq 5, 3) := by decide +kernel
theorem dL_law_433 : decode cL_law 433 = .ok (.iconst 0, 1) := by decide +kernel
theorem dL_law_434 : decode cL_law 434 = .ok (.ireturn, 1) := by decide +kernel
theorem dL_law_435 : decode cL_law 435 = .ok (.goto 1626, 3) := by decide +kernel
theorem dL_law_438 : decode cL_law 438 = .ok (.aload_n 1, 1) := by decide +kernel
theorem dL_law_439 : decode cL_law 439 = .ok (.aload_n 3, 1) := by decide +kernel
theorem dL_law_440 : decode cL_law 440 = .ok (.invokestatic 130, 3) := by decide +kernel
theorem dL_law_443 : decode cL_law 443 = .ok (.istore 5, 2) := by decide +kernel
theorem dL_law_445 : decode cL_law 445 = .ok (.aload_n 2, 1) := by decide +kernel
theorem dL_law_446 : decode cL_law 446 = .ok (.invokevirtual 132, 3) := by decide +kernel
theorem dL_law_449 : decode cL_law 449 = .ok (.istore 6, 2) := by decide +kernel
theorem dL_law_451 : decode cL_law 451 = .ok (.aload_n 2, 1) := by decide +kernel
theorem dL_law_452 : decode cL_law 452 = .ok (.invokevirtual 121, 3) := by decide +kernel
theorem dL_law_455 : decode cL_law 455 = .ok (.iload 5, 2) := by decide +kernel
theorem dL_law_457 : decode cL_law 457 = .ok (.if_icmp .eq 5, 3) := by decide +kernel
theorem dL_law_460 : decode cL_law 460 = .ok (.iconst 0, 1) := by decide +kernel
theorem dL_law_461 : decode cL_law 461 = .ok (.ireturn, 1) := by decide +kernel
theorem dL_law_462 : decode cL_law 462 = .ok (.iload 5, 2) := by decide +kernel
theorem dL_law_464 : decode cL_law 464 = .ok (.ifCond .ne 15, 3) := by decide +kernel
theorem dL_law_467 : decode cL_law 467 = .ok (.aload_n 3, 1) := by decide +kernel
theorem dL_law_468 : decode cL_law 468 = .ok (.iconst 0, 1) := by decide +kernel
theorem dL_law_469 : decode cL_law 469 = .ok (.laload, 1) := by decide +kernel
theorem dL_law_470 : decode cL_law 470 = .ok (.iload 6, 2) := by decide +kernel
theorem dL_law_472 : decode cL_law 472 = .ok (.i2l, 1) := by decide +kernel
theorem dL_law_473 : decode cL_law 473 = .ok (.lcmp, 1) := by decide +kernel
theorem dL_law_474 : decode cL_law 474 = .ok (.ifCond .eq 5, 3) := by decide +kernel
theorem dL_law_477 : decode cL_law 477 = .ok (.iconst 0, 1) := by decide +kernel
theorem dL_law_478 : decode cL_law 478 = .ok (.ireturn, 1) := by decide +kernel
theorem dL_law_479 : decode cL_law 479 = .ok (.goto 1582, 3) := by decide +kernel
theorem dL_law_482 : decode cL_law 482 = .ok (.aload_n 1, 1) := by decide +kernel
theorem dL_law_483 : decode cL_law 483 = .ok (.invokevirtual 133, 3) := by decide +kernel
theorem dL_law_486 : decode cL_law 486 = .ok (.aload_n 2, 1) := by decide +kernel
theorem dL_law_487 : decode cL_law 487 = .ok (.invokevirtual 136, 3) := by decide +kernel
theorem dL_law_490 : decode cL_law 490 = .ok (.if_icmp .eq 1571, 3) := by decide +kernel
theorem dL_law_493 : decode cL_law 493 = .ok (.iconst 0, 1) := by decide +kernel
theorem dL_law_494 : decode cL_law 494 = .ok (.ireturn, 1) := by decide +kernel
theorem dL_law_495 : decode cL_law 495 = .ok (.aload_n 1, 1) := by decide +kernel
theorem dL_law_496 : decode cL_law 496 = .ok (.aload_n 0, 1) := by decide +kernel
theorem dL_law_497 : decode cL_law 497 = .ok (.iload 4, 2) := by decide +kernel
theorem dL_law_499 : decode cL_law 499 = .ok (.iconst 1, 1) := by decide +kernel
theorem dL_law_500 : decode cL_law 500 = .ok (.iadd, 1) := by decide +kernel
theorem dL_law_501 : decode cL_law 501 = .ok (.iaload, 1) := by decide +kernel
theorem dL_law_502 : decode cL_law 502 = .ok (.aload_n 0, 1) := by decide +kernel
theorem dL_law_503 : decode cL_law 503 = .ok (.iload 4, 2) := by decide +kernel
theorem dL_law_505 : decode cL_law 505 = .ok (.iconst 2, 1) := by decide +kernel
theorem dL_law_506 : decode cL_law 506 = .ok (.iadd, 1) := by decide +kernel
theorem dL_law_507 : decode cL_law 507 = .ok (.iaload, 1) := by decide +kernel
theorem dL_law_508 : decode cL_law 508 = .ok (.aload_n 3, 1) := by decide +kernel
theorem dL_law_509 : decode cL_law 509 = .ok (.invokestatic 137, 3) := by decide +kernel
theorem dL_law_512 : decode cL_law 512 = .ok (.istore 5, 2) := by decide +kernel
theorem dL_law_514 : decode cL_law 514 = .ok (.aload_n 2, 1) := by decide +kernel
theorem dL_law_515 : decode cL_law 515 = .ok (.aload_n 0, 1) := by decide +kernel
theorem dL_law_516 : decode cL_law 516 = .ok (.iload 4, 2) := by decide +kernel
theorem dL_law_518 : decode cL_law 518 = .ok (.iconst 1, 1) := by decide +kernel
theorem dL_law_519 : decode cL_law 519 = .ok (.iadd, 1) := by decide +kernel
theorem dL_law_520 : decode cL_law 520 = .ok (.iaload, 1) := by decide +kernel
theorem dL_law_521 : decode cL_law 521 = .ok (.aload_n 0, 1) := by decide +kernel
theorem dL_law_522 : decode cL_law 522 = .ok (.iload 4, 2) := by decide +kernel
theorem dL_law_524 : decode cL_law 524 = .ok (.iconst 2, 1) := by decide +kernel
theorem dL_law_525 : decode cL_law 525 = .ok (.iadd, 1) := by decide +kernel
theorem dL_law_526 : decode cL_law 526 = .ok (.iaload, 1) := by decide +kernel
theorem dL_law_527 : decode cL_law 527 = .ok (.invokevirtual 140, 3) := by decide +kernel
theorem dL_law_530 : decode cL_law 530 = .ok (.istore 6, 2) := by decide +kernel
theorem dL_law_532 : decode cL_law 532 = .ok (.aload_n 2, 1) := by decide +kernel
theorem dL_law_533 : decode cL_law 533 = .ok (.invokevirtual 121, 3) := by decide +kernel
theorem dL_law_536 : decode cL_law 536 = .ok (.iload 5, 2) := by decide +kernel
theorem dL_law_538 : decode cL_law 538 = .ok (.if_icmp .eq 5, 3) := by decide +kernel
theorem dL_law_541 : decode cL_law 541 = .ok (.iconst 0, 1) := by decide +kernel
theorem dL_law_542 : decode cL_law 542 = .ok (.ireturn, 1) := by decide +kernel
theorem dL_law_543 : decode cL_law 543 = .ok (.iload 5, 2) := by decide +kernel
theorem dL_law_545 : decode cL_law 545 = .ok (.ifCond .ne 15, 3) := by decide +kernel
theorem dL_law_548 : decode cL_law 548 = .ok (.aload_n 3, 1) := by decide +kernel
theorem dL_law_549 : decode cL_law 549 = .ok (.iconst 0, 1) := by decide +kernel
theorem dL_law_550 : decode cL_law 550 = .ok (.laload, 1) := by decide +kernel
theorem dL_law_551 : decode cL_law 551 = .ok (.iload 6, 2) := by decide +kernel
theorem dL_law_553 : decode cL_law 553 = .ok (.i2l, 1) := by decide +kernel
theorem dL_law_554 : decode cL_law 554 = .ok (.lcmp, 1) := by decide +kernel
theorem dL_law_555 : decode cL_law 555 = .ok (.ifCond .eq 5, 3) := by decide +kernel
theorem dL_law_558 : decode cL_law 558 = .ok (.iconst 0, 1) := by decide +kernel
theorem dL_law_559 : decode cL_law 559 = .ok (.ireturn, 1) := by decide +kernel
theorem dL_law_560 : decode cL_law 560 = .ok (.goto 1501, 3) := by decide +kernel
theorem dL_law_563 : decode cL_law 563 = .ok (.aload_n 1, 1) := by decide +kernel
theorem dL_law_564 : decode cL_law 564 = .ok (.aload_n 0, 1) := by decide +kernel
theorem dL_law_565 : decode cL_law 565 = .ok (.iload 4, 2) := by decide +kernel
theorem dL_law_567 : decode cL_law 567 = .ok (.iconst 1, 1) := by decide +kernel
theorem dL_law_568 : decode cL_law 568 = .ok (.iadd, 1) := by decide +kernel
theorem dL_law_569 : decode cL_law 569 = .ok (.iaload, 1) := by decide +kernel
theorem dL_law_570 : decode cL_law 570 = .ok (.aload_n 0, 1) := by decide +kernel
theorem dL_law_571 : decode cL_law 571 = .ok (.iload 4, 2) := by decide +kernel
theorem dL_law_573 : decode cL_law 573 = .ok (.iconst 2, 1) := by decide +kernel
theorem dL_law_574 : decode cL_law 574 = .ok (.iadd, 1) := by decide +kernel
theorem dL_law_575 : decode cL_law 575 = .ok (.iaload, 1) := by decide +kernel
theorem dL_law_576 : decode cL_law 576 = .ok (.aload_n 3, 1) := by decide +kernel
theorem dL_law_577 : decode cL_law 577 = .ok (.invokestatic 141, 3) := by decide +kernel
theorem dL_law_580 : decode cL_law 580 = .ok (.istore 5, 2) := by decide +kernel
theorem dL_law_582 : decode cL_law 582 = .ok (.aload_n 2, 1) := by decide +kernel
theorem dL_law_583 : decode cL_law 583 = .ok (.aload_n 0, 1) := by decide +kernel
theorem dL_law_584 : decode cL_law 584 = .ok (.iload 4, 2) := by decide +kernel
theorem dL_law_586 : decode cL_law 586 = .ok (.iconst 1, 1) := by decide +kernel
theorem dL_law_587 : decode cL_law 587 = .ok (.iadd, 1) := by decide +kernel
theorem dL_law_588 : decode cL_law 588 = .ok (.iaload, 1) := by decide +kernel
theorem dL_law_589 : decode cL_law 589 = .ok (.aload_n 0, 1) := by decide +kernel
theorem dL_law_590 : decode cL_law 590 = .ok (.iload 4, 2) := by decide +kernel
theorem dL_law_592 : decode cL_law 592 = .ok (.iconst 2, 1) := by decide +kernel
theorem dL_law_593 : decode cL_law 593 = .ok (.iadd, 1) := by decide +kernel
theorem dL_law_594 : decode cL_law 594 = .ok (.iaload, 1) := by decide +kernel
theorem dL_law_595 : decode cL_law 595 = .ok (.invokevirtual 143, 3) := by decide +kernel
theorem dL_law_598 : decode cL_law 598 = .ok (.istore 6, 2) := by decide +kernel
theorem dL_law_600 : decode cL_law 600 = .ok (.aload_n 2, 1) := by decide +kernel
theorem dL_law_601 : decode cL_law 601 = .ok (.invokevirtual 121, 3) := by decide +kernel
theorem dL_law_604 : decode cL_law 604 = .ok (.iload 5, 2) := by decide +kernel
theorem dL_law_606 : decode cL_law 606 = .ok (.if_icmp .eq 5, 3) := by decide +kernel
theorem dL_law_609 : decode cL_law 609 = .ok (.iconst 0, 1) := by decide +kernel
theorem dL_law_610 : decode cL_law 610 = .ok (.ireturn, 1) := by decide +kernel
theorem dL_law_611 : decode cL_law 611 = .ok (.iload 5, 2) := by decide +kernel
theorem dL_law_613 : decode cL_law 613 = .ok (.ifCond .ne 15, 3) := by decide +kernel
theorem dL_law_616 : decode cL_law 616 = .ok (.aload_n 3, 1) := by decide +kernel
theorem dL_law_617 : decode cL_law 617 = .ok (.iconst 0, 1) := by decide +kernel
theorem dL_law_618 : decode cL_law 618 = .ok (.laload, 1) := by decide +kernel
theorem dL_law_619 : decode cL_law 619 = .ok (.iload 6, 2) := by decide +kernel
theorem dL_law_621 : decode cL_law 621 = .ok (.i2l, 1) := by decide +kernel
theorem dL_law_622 : decode cL_law 622 = .ok (.lcmp, 1) := by decide +kernel
theorem dL_law_623 : decode cL_law 623 = .ok (.ifCond .eq 5, 3) := by decide +kernel
theorem dL_law_626 : decode cL_law 626 = .ok (.iconst 0, 1) := by decide +kernel
theorem dL_law_627 : decode cL_law 627 = .ok (.ireturn, 1) := by decide +kernel
theorem dL_law_628 : decode cL_law 628 = .ok (.goto 1433, 3) := by decide +kernel
theorem dL_law_631 : decode cL_law 631 = .ok (.aload_n 1, 1) := by decide +kernel
theorem dL_law_632 : decode cL_law 632 = .ok (.aload_n 0, 1) := by decide +kernel
theorem dL_law_633 : decode cL_law 633 = .ok (.iload 4, 2) := by decide +kernel
theorem dL_law_635 : decode cL_law 635 = .ok (.iconst 1, 1) := by decide +kernel
theorem dL_law_636 : decode cL_law 636 = .ok (.iadd, 1) := by decide +kernel
theorem dL_law_637 : decode cL_law 637 = .ok (.iaload, 1) := by decide +kernel
theorem dL_law_638 : decode cL_law 638 = .ok (.aload_n 0, 1) := by decide +kernel
theorem dL_law_639 : decode cL_law 639 = .ok (.iload 4, 2) := by decide +kernel
theorem dL_law_641 : decode cL_law 641 = .ok (.iconst 2, 1) := by decide +kernel
theorem dL_law_642 : decode cL_law 642 = .ok (.iadd, 1) := by decide +kernel
theorem dL_law_643 : decode cL_law 643 = .ok (.iaload, 1) := by decide +kernel
theorem dL_law_644 : decode cL_law 644 = .ok (.ifCond .eq 7, 3) := by decide +kernel
theorem dL_law_647 : decode cL_law 647 = .ok (.iconst 1, 1) := by decide +kernel
theorem dL_law_648 : decode cL_law 648 = .ok (.goto 4, 3) := by decide +kernel
theorem dL_law_651 : decode cL_law 651 = .ok (.iconst 0, 1) := by decide +kernel
theorem dL_law_652 : decode cL_law 652 = .ok (.aload_n 0, 1) := by decide +kernel
theorem dL_law_653 : decode cL_law 653 = .ok (.iload 4, 2) := by decide +kernel
theorem dL_law_655 : decode cL_law 655 = .ok (.iconst 3, 1) := by decide +kernel
theorem dL_law_656 : decode cL_law 656 = .ok (.iadd, 1) := by decide +kernel
theorem dL_law_657 : decode cL_law 657 = .ok (.iaload, 1) := by decide +kernel
theorem dL_law_658 : decode cL_law 658 = .ok (.aload_n 3, 1) := by decide +kernel
theorem dL_law_659 : decode cL_law 659 = .ok (.invokestatic 144, 3) := by decide +kernel
theorem dL_law_662 : decode cL_law 662 = .ok (.istore 5, 2) := by decide +kernel
theorem dL_law_664 : decode cL_law 664 = .ok (.aload_n 2, 1) := by decide +kernel
theorem dL_law_665 : decode cL_law 665 = .ok (.aload_n 0, 1) := by decide +kernel
theorem dL_law_666 : decode cL_law 666 = .ok (.iload 4, 2) := by decide +kernel
theorem dL_law_668 : decode cL_law 668 = .ok (.iconst 1, 1) := by decide +kernel
theorem dL_law_669 : decode cL_law 669 = .ok (.iadd, 1) := by decide +kernel
theorem dL_law_670 : decode cL_law 670 = .ok (.iaload, 1) := by decide +kernel
theorem dL_law_671 : decode cL_law 671 = .ok (.aload_n 0, 1) := by decide +kernel
theorem dL_law_672 : decode cL_law 672 = .ok (.iload 4, 2) := by decide +kernel
theorem dL_law_674 : decode cL_law 674 = .ok (.iconst 2, 1) := by decide +kernel
theorem dL_law_675 : decode cL_law 675 = .ok (.iadd, 1) := by decide +kernel
theorem dL_law_676 : decode cL_law 676 = .ok (.iaload, 1) := by decide +kernel
theorem dL_law_677 : decode cL_law 677 = .ok (.ifCond .eq 7, 3) := by decide +kernel
theorem dL_law_680 : decode cL_law 680 = .ok (.iconst 1, 1) := by decide +kernel
theorem dL_law_681 : decode cL_law 681 = .ok (.goto 4, 3) := by decide +kernel
theorem dL_law_684 : decode cL_law 684 = .ok (.iconst 0, 1) := by decide +kernel
theorem dL_law_685 : decode cL_law 685 = .ok (.aload_n 0, 1) := by decide +kernel
theorem dL_law_686 : decode cL_law 686 = .ok (.iload 4, 2) := by decide +kernel
theorem dL_law_688 : decode cL_law 688 = .ok (.iconst 3, 1) := by decide +kernel
theorem dL_law_689 : decode cL_law 689 = .ok (.iadd, 1) := by decide +kernel
theorem dL_law_690 : decode cL_law 690 = .ok (.iaload, 1) := by decide +kernel
theorem dL_law_691 : decode cL_law 691 = .ok (.invokevirtual 147, 3) := by decide +kernel
theorem dL_law_694 : decode cL_law 694 = .ok (.istore 6, 2) := by decide +kernel
theorem dL_law_696 : decode cL_law 696 = .ok (.aload_n 2, 1) := by decide +kernel
theorem dL_law_697 : decode cL_law 697 = .ok (.invokevirtual 121, 3) := by decide +kernel
theorem dL_law_700 : decode cL_law 700 = .ok (.iload 5, 2) := by decide +kernel
theorem dL_law_702 : decode cL_law 702 = .ok (.if_icmp .eq 5, 3) := by decide +kernel
theorem dL_law_705 : decode cL_law 705 = .ok (.iconst 0, 1) := by decide +kernel
theorem dL_law_706 : decode cL_law 706 = .ok (.ireturn, 1) := by decide +kernel
theorem dL_law_707 : decode cL_law 707 = .ok (.iload 5, 2) := by decide +kernel
theorem dL_law_709 : decode cL_law 709 = .ok (.ifCond .ne 15, 3) := by decide +kernel
theorem dL_law_712 : decode cL_law 712 = .ok (.aload_n 3, 1) := by decide +kernel
theorem dL_law_713 : decode cL_law 713 = .ok (.iconst 0, 1) := by decide +kernel
theorem dL_law_714 : decode cL_law 714 = .ok (.laload, 1) := by decide +kernel
theorem dL_law_715 : decode cL_law 715 = .ok (.iload 6, 2) := by decide +kernel
theorem dL_law_717 : decode cL_law 717 = .ok (.i2l, 1) := by decide +kernel
theorem dL_law_718 : decode cL_law 718 = .ok (.lcmp, 1) := by decide +kernel
theorem dL_law_719 : decode cL_law 719 = .ok (.ifCond .eq 5, 3) := by decide +kernel
theorem dL_law_722 : decode cL_law 722 = .ok (.iconst 0, 1) := by decide +kernel
theorem dL_law_723 : decode cL_law 723 = .ok (.ireturn, 1) := by decide +kernel
theorem dL_law_724 : decode cL_law 724 = .ok (.goto 1337, 3) := by decide +kernel
theorem dL_law_727 : decode cL_law 727 = .ok (.aload_n 1, 1) := by decide +kernel
theorem dL_law_728 : decode cL_law 728 = .ok (.aload_n 0, 1) := by decide +kernel
theorem dL_law_729 : decode cL_law 729 = .ok (.iload 4, 2) := by decide +kernel
theorem dL_law_731 : decode cL_law 731 = .ok (.iconst 1, 1) := by decide +kernel
theorem dL_law_732 : decode cL_law 732 = .ok (.iadd, 1) := by decide +kernel
theorem dL_law_733 : decode cL_law 733 = .ok (.iaload, 1) := by decide +kernel
theorem dL_law_734 : decode cL_law 734 = .ok (.aload_n 0, 1) := by decide +kernel
theorem dL_law_735 : decode cL_law 735 = .ok (.iload 4, 2) := by decide +kernel
theorem dL_law_737 : decode cL_law 737 = .ok (.iconst 2, 1) := by decide +kernel
theorem dL_law_738 : decode cL_law 738 = .ok (.iadd, 1) := by decide +kernel
theorem dL_law_739 : decode cL_law 739 = .ok (.iaload, 1) := by decide +kernel
theorem dL_law_740 : decode cL_law 740 = .ok (.aload_n 3, 1) := by decide +kernel
theorem dL_law_741 : decode cL_law 741 = .ok (.invokestatic 148, 3) := by decide +kernel
theorem dL_law_744 : decode cL_law 744 = .ok (.istore 5, 2) := by decide +kernel
theorem dL_law_746 : decode cL_law 746 = .ok (.aload_n 2, 1) := by decide +kernel
theorem dL_law_747 : decode cL_law 747 = .ok (.aload_n 0, 1) := by decide +kernel
theorem dL_law_748 : decode cL_law 748 = .ok (.iload 4, 2) := by decide +kernel
theorem dL_law_750 : decode cL_law 750 = .ok (.iconst 1, 1) := by decide +kernel
theorem dL_law_751 : decode cL_law 751 = .ok (.iadd, 1) := by decide +kernel
theorem dL_law_752 : decode cL_law 752 = .ok (.iaload, 1) := by decide +kernel
theorem dL_law_753 : decode cL_law 753 = .ok (.aload_n 0, 1) := by decide +kernel
theorem dL_law_754 : decode cL_law 754 = .ok (.iload 4, 2) := by decide +kernel
theorem dL_law_756 : decode cL_law 756 = .ok (.iconst 2, 1) := by decide +kernel
theorem dL_law_757 : decode cL_law 757 = .ok (.iadd, 1) := by decide +kernel
theorem dL_law_758 : decode cL_law 758 = .ok (.iaload, 1) := by decide +kernel
theorem dL_law_759 : decode cL_law 759 = .ok (.invokevirtual 150, 3) := by decide +kernel
theorem dL_law_762 : decode cL_law 762 = .ok (.istore 6, 2) := by decide +kernel
theorem dL_law_764 : decode cL_law 764 = .ok (.aload_n 2, 1) := by decide +kernel
theorem dL_law_765 : decode cL_law 765 = .ok (.invokevirtual 121, 3) := by decide +kernel
theorem dL_law_768 : decode cL_law 768 = .ok (.iload 5, 2) := by decide +kernel
theorem dL_law_770 : decode cL_law 770 = .ok (.if_icmp .eq 5, 3) := by decide +kernel
theorem dL_law_773 : decode cL_law 773 = .ok (.iconst 0, 1) := by decide +kernel
theorem dL_law_774 : decode cL_law 774 = .ok (.ireturn, 1) := by decide +kernel
theorem dL_law_775 : decode cL_law 775 = .ok (.iload 5, 2) := by decide +kernel
theorem dL_law_777 : decode cL_law 777 = .ok (.ifCond .ne 15, 3) := by decide +kernel
theorem dL_law_780 : decode cL_law 780 = .ok (.aload_n 3, 1) := by decide +kernel
theorem dL_law_781 : decode cL_law 781 = .ok (.iconst 0, 1) := by decide +kernel
theorem dL_law_782 : decode cL_law 782 = .ok (.laload, 1) := by decide +kernel
theorem dL_law_783 : decode cL_law 783 = .ok (.iload 6, 2) := by decide +kernel
theorem dL_law_785 : decode cL_law 785 = .ok (.i2l, 1) := by decide +kernel
theorem dL_law_786 : decode cL_law 786 = .ok (.lcmp, 1) := by decide +kernel
theorem dL_law_787 : decode cL_law 787 = .ok (.ifCond .eq 5, 3) := by decide +kernel
theorem dL_law_790 : decode cL_law 790 = .ok (.iconst 0, 1) := by decide +kernel
theorem dL_law_791 : decode cL_law 791 = .ok (.ireturn, 1) := by decide +kernel
theorem dL_law_792 : decode cL_law 792 = .ok (.goto 1269, 3) := by decide +kernel
theorem dL_law_795 : decode cL_law 795 = .ok (.aload_n 1, 1) := by decide +kernel
theorem dL_law_796 : decode cL_law 796 = .ok (.aload_n 0, 1) := by decide +kernel
theorem dL_law_797 : decode cL_law 797 = .ok (.iload 4, 2) := by decide +kernel
theorem dL_law_799 : decode cL_law 799 = .ok (.iconst 1, 1) := by decide +kernel
theorem dL_law_800 : decode cL_law 800 = .ok (.iadd, 1) := by decide +kernel
theorem dL_law_801 : decode cL_law 801 = .ok (.iaload, 1) := by decide +kernel
theorem dL_law_802 : decode cL_law 802 = .ok (.aload_n 3, 1) := by decide +kernel
theorem dL_law_803 : decode cL_law 803 = .ok (.invokestatic 151, 3) := by decide +kernel
theorem dL_law_806 : decode cL_law 806 = .ok (.istore 5, 2) := by decide +kernel
theorem dL_law_808 : decode cL_law 808 = .ok (.aload_n 2, 1) := by decide +kernel
theorem dL_law_809 : decode cL_law 809 = .ok (.aload_n 0, 1) := by decide +kernel
theorem dL_law_810 : decode cL_law 810 = .ok (.iload 4, 2) := by decide +kernel
theorem dL_law_812 : decode cL_law 812 = .ok (.iconst 1, 1) := by decide +kernel
theorem dL_law_813 : decode cL_law 813 = .ok (.iadd, 1) := by decide +kernel
theorem dL_law_814 : decode cL_law 814 = .ok (.iaload, 1) := by decide +kernel
theorem dL_law_815 : decode cL_law 815 = .ok (.invokevirtual 154, 3) := by decide +kernel
theorem dL_law_818 : decode cL_law 818 = .ok (.istore 6, 2) := by decide +kernel
theorem dL_law_820 : decode cL_law 820 = .ok (.aload_n 2, 1) := by decide +kernel
theorem dL_law_821 : decode cL_law 821 = .ok (.invokevirtual 121, 3) := by decide +kernel
theorem dL_law_824 : decode cL_law 824 = .ok (.iload 5, 2) := by decide +kernel
theorem dL_law_826 : decode cL_law 826 = .ok (.if_icmp .eq 5, 3) := by decide +kernel
theorem dL_law_829 : decode cL_law 829 = .ok (.iconst 0, 1) := by decide +kernel
theorem dL_law_830 : decode cL_law 830 = .ok (.ireturn, 1) := by decide +kernel
theorem dL_law_831 : decode cL_law 831 = .ok (.iload 5, 2) := by decide +kernel
theorem dL_law_833 : decode cL_law 833 = .ok (.ifCond .ne 15, 3) := by decide +kernel
theorem dL_law_836 : decode cL_law 836 = .ok (.aload_n 3, 1) := by decide +kernel
theorem dL_law_837 : decode cL_law 837 = .ok (.iconst 0, 1) := by decide +kernel
theorem dL_law_838 : decode cL_law 838 = .ok (.laload, 1) := by decide +kernel
theorem dL_law_839 : decode cL_law 839 = .ok (.iload 6, 2) := by decide +kernel
theorem dL_law_841 : decode cL_law 841 = .ok (.i2l, 1) := by decide +kernel
theorem dL_law_842 : decode cL_law 842 = .ok (.lcmp, 1) := by decide +kernel
theorem dL_law_843 : decode cL_law 843 = .ok (.ifCond .eq 5, 3) := by decide +kernel
theorem dL_law_846 : decode cL_law 846 = .ok (.iconst 0, 1) := by decide +kernel
theorem dL_law_847 : decode cL_law 847 = .ok (.ireturn, 1) := by decide +kernel
theorem dL_law_848 : decode cL_law 848 = .ok (.goto 1213, 3) := by decide +kernel
theorem dL_law_851 : decode cL_law 851 = .ok (.aload_n 1, 1) := by decide +kernel
theorem dL_law_852 : decode cL_law 852 = .ok (.aload_n 0, 1) := by decide +kernel
theorem dL_law_853 : decode cL_law 853 = .ok (.iload 4, 2) := by decide +kernel
theorem dL_law_855 : decode cL_law 855 = .ok (.iconst 1, 1) := by decide +kernel
theorem dL_law_856 : decode cL_law 856 = .ok (.iadd, 1) := by decide +kernel
theorem dL_law_857 : decode cL_law 857 = .ok (.iaload, 1) := by decide +kernel
theorem dL_law_858 : decode cL_law 858 = .ok (.aload_n 0, 1) := by decide +kernel
theorem dL_law_859 : decode cL_law 859 = .ok (.iload 4, 2) := by decide +kernel
theorem dL_law_861 : decode cL_law 861 = .ok (.iconst 2, 1) := by decide +kernel
theorem dL_law_862 : decode cL_law 862 = .ok (.iadd, 1) := by decide +kernel
theorem dL_law_863 : decode cL_law 863 = .ok (.iaload, 1) := by decide +kernel
theorem dL_law_864 : decode cL_law 864 = .ok (.aload_n 3, 1) := by decide +kernel
theorem dL_law_865 : decode cL_law 865 = .ok (.invokestatic 155, 3) := by decide +kernel
theorem dL_law_868 : decode cL_law 868 = .ok (.istore 5, 2) := by decide +kernel
theorem dL_law_870 : decode cL_law 870 = .ok (.aload_n 2, 1) := by decide +kernel
theorem dL_law_871 : decode cL_law 871 = .ok (.aload_n 0, 1) := by decide +kernel
theorem dL_law_872 : decode cL_law 872 = .ok (.iload 4, 2) := by decide +kernel
theorem dL_law_874 : decode cL_law 874 = .ok (.iconst 1, 1) := by decide +kernel
theorem dL_law_875 : decode cL_law 875 = .ok (.iadd, 1) := by decide +kernel
theorem dL_law_876 : decode cL_law 876 = .ok (.iaload, 1) := by decide +kernel
theorem dL_law_877 : decode cL_law 877 = .ok (.aload_n 0, 1) := by decide +kernel
theorem dL_law_878 : decode cL_law 878 = .ok (.iload 4, 2) := by decide +kernel
theorem dL_law_880 : decode cL_law 880 = .ok (.iconst 2, 1) := by decide +kernel
theorem dL_law_881 : decode cL_law 881 = .ok (.iadd, 1) := by decide +kernel
theorem dL_law_882 : decode cL_law 882 = .ok (.iaload, 1) := by decide +kernel
theorem dL_law_883 : decode cL_law 883 = .ok (.invokevirtual 157, 3) := by decide +kernel
theorem dL_law_886 : decode cL_law 886 = .ok (.istore 6, 2) := by decide +kernel
theorem dL_law_888 : decode cL_law 888 = .ok (.aload_n 2, 1) := by decide +kernel
theorem dL_law_889 : decode cL_law 889 = .ok (.invokevirtual 121, 3) := by decide +kernel
theorem dL_law_892 : decode cL_law 892 = .ok (.iload 5, 2) := by decide +kernel
theorem dL_law_894 : decode cL_law 894 = .ok (.if_icmp .eq 5, 3) := by decide +kernel
theorem dL_law_897 : decode cL_law 897 = .ok (.iconst 0, 1) := by decide +kernel
theorem dL_law_898 : decode cL_law 898 = .ok (.ireturn, 1) := by decide +kernel
theorem dL_law_899 : decode cL_law 899 = .ok (.iload 5, 2) := by decide +kernel
theorem dL_law_901 : decode cL_law 901 = .ok (.ifCond .ne 15, 3) := by decide +kernel
theorem dL_law_904 : decode cL_law 904 = .ok (.aload_n 3, 1) := by decide +kernel
theorem dL_law_905 : decode cL_law 905 = .ok (.iconst 0, 1) := by decide +kernel
theorem dL_law_906 : decode cL_law 906 = .ok (.laload, 1) := by decide +kernel
theorem dL_law_907 : decode cL_law 907 = .ok (.iload 6, 2) := by decide +kernel
theorem dL_law_909 : decode cL_law 909 = .ok (.i2l, 1) := by decide +kernel
theorem dL_law_910 : decode cL_law 910 = .ok (.lcmp, 1) := by decide +kernel
theorem dL_law_911 : decode cL_law 911 = .ok (.ifCond .eq 5, 3) := by decide +kernel
theorem dL_law_914 : decode cL_law 914 = .ok (.iconst 0, 1) := by decide +kernel
theorem dL_law_915 : decode cL_law 915 = .ok (.ireturn, 1) := by decide +kernel
theorem dL_law_916 : decode cL_law 916 = .ok (.goto 1145, 3) := by decide +kernel
theorem dL_law_919 : decode cL_law 919 = .ok (.aload_n 1, 1) := by decide +kernel
theorem dL_law_920 : decode cL_law 920 = .ok (.aload_n 0, 1) := by decide +kernel
theorem dL_law_921 : decode cL_law 921 = .ok (.iload 4, 2) := by decide +kernel
theorem dL_law_923 : decode cL_law 923 = .ok (.iconst 1, 1) := by decide +kernel
theorem dL_law_924 : decode cL_law 924 = .ok (.iadd, 1) := by decide +kernel
theorem dL_law_925 : decode cL_law 925 = .ok (.iaload, 1) := by decide +kernel
theorem dL_law_926 : decode cL_law 926 = .ok (.aload_n 0, 1) := by decide +kernel
theorem dL_law_927 : decode cL_law 927 = .ok (.iload 4, 2) := by decide +kernel
theorem dL_law_929 : decode cL_law 929 = .ok (.iconst 2, 1) := by decide +kernel
theorem dL_law_930 : decode cL_law 930 = .ok (.iadd, 1) := by decide +kernel
theorem dL_law_931 : decode cL_law 931 = .ok (.iaload, 1) := by decide +kernel
theorem dL_law_932 : decode cL_law 932 = .ok (.aload_n 3, 1) := by decide +kernel
theorem dL_law_933 : decode cL_law 933 = .ok (.invokestatic 158, 3) := by decide +kernel
theorem dL_law_936 : decode cL_law 936 = .ok (.istore 5, 2) := by decide +kernel
theorem dL_law_938 : decode cL_law 938 = .ok (.aload_n 2, 1) := by decide +kernel
theorem dL_law_939 : decode cL_law 939 = .ok (.aload_n 0, 1) := by decide +kernel
theorem dL_law_940 : decode cL_law 940 = .ok (.iload 4, 2) := by decide +kernel
theorem dL_law_942 : decode cL_law 942 = .ok (.iconst 1, 1) := by decide +kernel
theorem dL_law_943 : decode cL_law 943 = .ok (.iadd, 1) := by decide +kernel
theorem dL_law_944 : decode cL_law 944 = .ok (.iaload, 1) := by decide +kernel
theorem dL_law_945 : decode cL_law 945 = .ok (.aload_n 0, 1) := by decide +kernel
theorem dL_law_946 : decode cL_law 946 = .ok (.iload 4, 2) := by decide +kernel
theorem dL_law_948 : decode cL_law 948 = .ok (.iconst 2, 1) := by decide +kernel
theorem dL_law_949 : decode cL_law 949 = .ok (.iadd, 1) := by decide +kernel
theorem dL_law_950 : decode cL_law 950 = .ok (.iaload, 1) := by decide +kernel
theorem dL_law_951 : decode cL_law 951 = .ok (.invokevirtual 160, 3) := by decide +kernel
theorem dL_law_954 : decode cL_law 954 = .ok (.istore 6, 2) := by decide +kernel
theorem dL_law_956 : decode cL_law 956 = .ok (.aload_n 2, 1) := by decide +kernel
theorem dL_law_957 : decode cL_law 957 = .ok (.invokevirtual 121, 3) := by decide +kernel
theorem dL_law_960 : decode cL_law 960 = .ok (.iload 5, 2) := by decide +kernel
theorem dL_law_962 : decode cL_law 962 = .ok (.if_icmp .eq 5, 3) := by decide +kernel
theorem dL_law_965 : decode cL_law 965 = .ok (.iconst 0, 1) := by decide +kernel
theorem dL_law_966 : decode cL_law 966 = .ok (.ireturn, 1) := by decide +kernel
theorem dL_law_967 : decode cL_law 967 = .ok (.iload 5, 2) := by decide +kernel
theorem dL_law_969 : decode cL_law 969 = .ok (.ifCond .ne 15, 3) := by decide +kernel
theorem dL_law_972 : decode cL_law 972 = .ok (.aload_n 3, 1) := by decide +kernel
theorem dL_law_973 : decode cL_law 973 = .ok (.iconst 0, 1) := by decide +kernel
theorem dL_law_974 : decode cL_law 974 = .ok (.laload, 1) := by decide +kernel
theorem dL_law_975 : decode cL_law 975 = .ok (.iload 6, 2) := by decide +kernel
theorem dL_law_977 : decode cL_law 977 = .ok (.i2l, 1) := by decide +kernel
theorem dL_law_978 : decode cL_law 978 = .ok (.lcmp, 1) := by decide +kernel
theorem dL_law_979 : decode cL_law 979 = .ok (.ifCond .eq 5, 3) := by decide +kernel
theorem dL_law_982 : decode cL_law 982 = .ok (.iconst 0, 1) := by decide +kernel
theorem dL_law_983 : decode cL_law 983 = .ok (.ireturn, 1) := by decide +kernel
theorem dL_law_984 : decode cL_law 984 = .ok (.goto 1077, 3) := by decide +kernel
theorem dL_law_987 : decode cL_law 987 = .ok (.aload_n 1, 1) := by decide +kernel
theorem dL_law_988 : decode cL_law 988 = .ok (.aload_n 0, 1) := by decide +kernel
theorem dL_law_989 : decode cL_law 989 = .ok (.iload 4, 2) := by decide +kernel
theorem dL_law_991 : decode cL_law 991 = .ok (.iconst 1, 1) := by decide +kernel
theorem dL_law_992 : decode cL_law 992 = .ok (.iadd, 1) := by decide +kernel
theorem dL_law_993 : decode cL_law 993 = .ok (.iaload, 1) := by decide +kernel
theorem dL_law_994 : decode cL_law 994 = .ok (.aload_n 0, 1) := by decide +kernel
theorem dL_law_995 : decode cL_law 995 = .ok (.iload 4, 2) := by decide +kernel
theorem dL_law_997 : decode cL_law 997 = .ok (.iconst 2, 1) := by decide +kernel
theorem dL_law_998 : decode cL_law 998 = .ok (.iadd, 1) := by decide +kernel
theorem dL_law_999 : decode cL_law 999 = .ok (.iaload, 1) := by decide +kernel
theorem dL_law_1000 : decode cL_law 1000 = .ok (.ifCond .eq 7, 3) := by decide +kernel
theorem dL_law_1003 : decode cL_law 1003 = .ok (.iconst 1, 1) := by decide +kernel
theorem dL_law_1004 : decode cL_law 1004 = .ok (.goto 4, 3) := by decide +kernel
theorem dL_law_1007 : decode cL_law 1007 = .ok (.iconst 0, 1) := by decide +kernel
theorem dL_law_1008 : decode cL_law 1008 = .ok (.aload_n 3, 1) := by decide +kernel
theorem dL_law_1009 : decode cL_law 1009 = .ok (.invokestatic 161, 3) := by decide +kernel
theorem dL_law_1012 : decode cL_law 1012 = .ok (.istore 5, 2) := by decide +kernel
theorem dL_law_1014 : decode cL_law 1014 = .ok (.aload_n 2, 1) := by decide +kernel
theorem dL_law_1015 : decode cL_law 1015 = .ok (.aload_n 0, 1) := by decide +kernel
theorem dL_law_1016 : decode cL_law 1016 = .ok (.iload 4, 2) := by decide +kernel
theorem dL_law_1018 : decode cL_law 1018 = .ok (.iconst 1, 1) := by decide +kernel
theorem dL_law_1019 : decode cL_law 1019 = .ok (.iadd, 1) := by decide +kernel
theorem dL_law_1020 : decode cL_law 1020 = .ok (.iaload, 1) := by decide +kernel
theorem dL_law_1021 : decode cL_law 1021 = .ok (.aload_n 0, 1) := by decide +kernel
theorem dL_law_1022 : decode cL_law 1022 = .ok (.iload 4, 2) := by decide +kernel
theorem dL_law_1024 : decode cL_law 1024 = .ok (.iconst 2, 1) := by decide +kernel
theorem dL_law_1025 : decode cL_law 1025 = .ok (.iadd, 1) := by decide +kernel
theorem dL_law_1026 : decode cL_law 1026 = .ok (.iaload, 1) := by decide +kernel
theorem dL_law_1027 : decode cL_law 1027 = .ok (.ifCond .eq 7, 3) := by decide +kernel
theorem dL_law_1030 : decode cL_law 1030 = .ok (.iconst 1, 1) := by decide +kernel
theorem dL_law_1031 : decode cL_law 1031 = .ok (.goto 4, 3) := by decide +kernel
theorem dL_law_1034 : decode cL_law 1034 = .ok (.iconst 0, 1) := by decide +kernel
theorem dL_law_1035 : decode cL_law 1035 = .ok (.invokevirtual 164, 3) := by decide +kernel
theorem dL_law_1038 : decode cL_law 1038 = .ok (.istore 6, 2) := by decide +kernel
theorem dL_law_1040 : decode cL_law 1040 = .ok (.aload_n 2, 1) := by decide +kernel
theorem dL_law_1041 : decode cL_law 1041 = .ok (.invokevirtual 121, 3) := by decide +kernel
theorem dL_law_1044 : decode cL_law 1044 = .ok (.iload 5, 2) := by decide +kernel
theorem dL_law_1046 : decode cL_law 1046 = .ok (.if_icmp .eq 5, 3) := by decide +kernel
theorem dL_law_1049 : decode cL_law 1049 = .ok (.iconst 0, 1) := by decide +kernel
theorem dL_law_1050 : decode cL_law 1050 = .ok (.ireturn, 1) := by decide +kernel
theorem dL_law_1051 : decode cL_law 1051 = .ok (.iload 5, 2) := by decide +kernel
theorem dL_law_1053 : decode cL_law 1053 = .ok (.ifCond .ne 22, 3) := by decide +kernel
theorem dL_law_1056 : decode cL_law 1056 = .ok (.aload_n 3, 1) := by decide +kernel
theorem dL_law_1057 : decode cL_law 1057 = .ok (.iconst 0, 1) := by decide +kernel
theorem dL_law_1058 : decode cL_law 1058 = .ok (.laload, 1) := by decide +kernel
theorem dL_law_1059 : decode cL_law 1059 = .ok (.iload 6, 2) := by decide +kernel
theorem dL_law_1061 : decode cL_law 1061 = .ok (.ifCond .eq 7, 3) := by decide +kernel
theorem dL_law_1064 : decode cL_law 1064 = .ok (.lconst 1, 1) := by decide +kernel
theorem dL_law_1065 : decode cL_law 1065 = .ok (.goto 4, 3) := by decide +kernel
theorem dL_law_1068 : decode cL_law 1068 = .ok (.lconst 0, 1) := by decide +kernel
theorem dL_law_1069 : decode cL_law 1069 = .ok (.lcmp, 1) := by decide +kernel
theorem dL_law_1070 : decode cL_law 1070 = .ok (.ifCond .eq 5, 3) := by decide +kernel
theorem dL_law_1073 : decode cL_law 1073 = .ok (.iconst 0, 1) := by decide +kernel
theorem dL_law_1074 : decode cL_law 1074 = .ok (.ireturn, 1) := by decide +kernel
theorem dL_law_1075 : decode cL_law 1075 = .ok (.goto 986, 3) := by decide +kernel
theorem dL_law_1078 : decode cL_law 1078 = .ok (.aload_n 1, 1) := by decide +kernel
theorem dL_law_1079 : decode cL_law 1079 = .ok (.aload_n 0, 1) := by decide +kernel
theorem dL_law_1080 : decode cL_law 1080 = .ok (.iload 4, 2) := by decide +kernel
theorem dL_law_1082 : decode cL_law 1082 = .ok (.iconst 1, 1) := by decide +kernel
theorem dL_law_1083 : decode cL_law 1083 = .ok (.iadd, 1) := by decide +kernel
theorem dL_law_1084 : decode cL_law 1084 = .ok (.iaload, 1) := by decide +kernel
theorem dL_law_1085 : decode cL_law 1085 = .ok (.aload_n 0, 1) := by decide +kernel
theorem dL_law_1086 : decode cL_law 1086 = .ok (.iload 4, 2) := by decide +kernel
theorem dL_law_1088 : decode cL_law 1088 = .ok (.iconst 2, 1) := by decide +kernel
theorem dL_law_1089 : decode cL_law 1089 = .ok (.iadd, 1) := by decide +kernel
theorem dL_law_1090 : decode cL_law 1090 = .ok (.iaload, 1) := by decide +kernel
theorem dL_law_1091 : decode cL_law 1091 = .ok (.aload_n 3, 1) := by decide +kernel
theorem dL_law_1092 : decode cL_law 1092 = .ok (.invokestatic 165, 3) := by decide +kernel
theorem dL_law_1095 : decode cL_law 1095 = .ok (.istore 5, 2) := by decide +kernel
theorem dL_law_1097 : decode cL_law 1097 = .ok (.aload_n 2, 1) := by decide +kernel
theorem dL_law_1098 : decode cL_law 1098 = .ok (.aload_n 0, 1) := by decide +kernel
theorem dL_law_1099 : decode cL_law 1099 = .ok (.iload 4, 2) := by decide +kernel
theorem dL_law_1101 : decode cL_law 1101 = .ok (.iconst 1, 1) := by decide +kernel
theorem dL_law_1102 : decode cL_law 1102 = .ok (.iadd, 1) := by decide +kernel
theorem dL_law_1103 : decode cL_law 1103 = .ok (.iaload, 1) := by decide +kernel
theorem dL_law_1104 : decode cL_law 1104 = .ok (.aload_n 0, 1) := by decide +kernel
theorem dL_law_1105 : decode cL_law 1105 = .ok (.iload 4, 2) := by decide +kernel
theorem dL_law_1107 : decode cL_law 1107 = .ok (.iconst 2, 1) := by decide +kernel
theorem dL_law_1108 : decode cL_law 1108 = .ok (.iadd, 1) := by decide +kernel
theorem dL_law_1109 : decode cL_law 1109 = .ok (.iaload, 1) := by decide +kernel
theorem dL_law_1110 : decode cL_law 1110 = .ok (.invokevirtual 167, 3) := by decide +kernel
theorem dL_law_1113 : decode cL_law 1113 = .ok (.istore 6, 2) := by decide +kernel
theorem dL_law_1115 : decode cL_law 1115 = .ok (.aload_n 2, 1) := by decide +kernel
theorem dL_law_1116 : decode cL_law 1116 = .ok (.invokevirtual 121, 3) := by decide +kernel
theorem dL_law_1119 : decode cL_law 1119 = .ok (.iload 5, 2) := by decide +kernel
theorem dL_law_1121 : decode cL_law 1121 = .ok (.if_icmp .eq 5, 3) := by decide +kernel
theorem dL_law_1124 : decode cL_law 1124 = .ok (.iconst 0, 1) := by decide +kernel
theorem dL_law_1125 : decode cL_law 1125 = .ok (.ireturn, 1) := by decide +kernel
theorem dL_law_1126 : decode cL_law 1126 = .ok (.iload 5, 2) := by decide +kernel
theorem dL_law_1128 : decode cL_law 1128 = .ok (.ifCond .ne 15, 3) := by decide +kernel
theorem dL_law_1131 : decode cL_law 1131 = .ok (.aload_n 3, 1) := by decide +kernel
theorem dL_law_1132 : decode cL_law 1132 = .ok (.iconst 0, 1) := by decide +kernel
theorem dL_law_1133 : decode cL_law 1133 = .ok (.laload, 1) := by decide +kernel
theorem dL_law_1134 : decode cL_law 1134 = .ok (.iload 6, 2) := by decide +kernel
theorem dL_law_1136 : decode cL_law 1136 = .ok (.i2l, 1) := by decide +kernel
theorem dL_law_1137 : decode cL_law 1137 = .ok (.lcmp, 1) := by decide +kernel
theorem dL_law_1138 : decode cL_law 1138 = .ok (.ifCond .eq 5, 3) := by decide +kernel
theorem dL_law_1141 : decode cL_law 1141 = .ok (.iconst 0, 1) := by decide +kernel
theorem dL_law_1142 : decode cL_law 1142 = .ok (.ireturn, 1) := by decide +kernel
theorem dL_law_1143 : decode cL_law 1143 = .ok (.goto 918, 3) := by decide +kernel
theorem dL_law_1146 : decode cL_law 1146 = .ok (.aload_n 1, 1) := by decide +kernel
theorem dL_law_1147 : decode cL_law 1147 = .ok (.aload_n 0, 1) := by decide +kernel
theorem dL_law_1148 : decode cL_law 1148 = .ok (.iload 4, 2) := by decide +kernel
theorem dL_law_1150 : decode cL_law 1150 = .ok (.iconst 1, 1) := by decide +kernel
theorem dL_law_1151 : decode cL_law 1151 = .ok (.iadd, 1) := by decide +kernel
theorem dL_law_1152 : decode cL_law 1152 = .ok (.iaload, 1) := by decide +kernel
theorem dL_law_1153 : decode cL_law 1153 = .ok (.aload_n 0, 1) := by decide +kernel
theorem dL_law_1154 : decode cL_law 1154 = .ok (.iload 4, 2) := by decide +kernel
theorem dL_law_1156 : decode cL_law 1156 = .ok (.iconst 2, 1) := by decide +kernel
theorem dL_law_1157 : decode cL_law 1157 = .ok (.iadd, 1) := by decide +kernel
theorem dL_law_1158 : decode cL_law 1158 = .ok (.iaload, 1) := by decide +kernel
theorem dL_law_1159 : decode cL_law 1159 = .ok (.aload_n 3, 1) := by decide +kernel
theorem dL_law_1160 : decode cL_law 1160 = .ok (.invokestatic 168, 3) := by decide +kernel
theorem dL_law_1163 : decode cL_law 1163 = .ok (.istore 5, 2) := by decide +kernel
theorem dL_law_1165 : decode cL_law 1165 = .ok (.aload_n 2, 1) := by decide +kernel
theorem dL_law_1166 : decode cL_law 1166 = .ok (.aload_n 0, 1) := by decide +kernel
theorem dL_law_1167 : decode cL_law 1167 = .ok (.iload 4, 2) := by decide +kernel
theorem dL_law_1169 : decode cL_law 1169 = .ok (.iconst 1, 1) := by decide +kernel
theorem dL_law_1170 : decode cL_law 1170 = .ok (.iadd, 1) := by decide +kernel
theorem dL_law_1171 : decode cL_law 1171 = .ok (.iaload, 1) := by decide +kernel
theorem dL_law_1172 : decode cL_law 1172 = .ok (.aload_n 0, 1) := by decide +kernel
theorem dL_law_1173 : decode cL_law 1173 = .ok (.iload 4, 2) := by decide +kernel
theorem dL_law_1175 : decode cL_law 1175 = .ok (.iconst 2, 1) := by decide +kernel
theorem dL_law_1176 : decode cL_law 1176 = .ok (.iadd, 1) := by decide +kernel
theorem dL_law_1177 : decode cL_law 1177 = .ok (.iaload, 1) := by decide +kernel
theorem dL_law_1178 : decode cL_law 1178 = .ok (.invokevirtual 170, 3) := by decide +kernel
theorem dL_law_1181 : decode cL_law 1181 = .ok (.istore 6, 2) := by decide +kernel
theorem dL_law_1183 : decode cL_law 1183 = .ok (.aload_n 2, 1) := by decide +kernel
theorem dL_law_1184 : decode cL_law 1184 = .ok (.invokevirtual 121, 3) := by decide +kernel
theorem dL_law_1187 : decode cL_law 1187 = .ok (.iload 5, 2) := by decide +kernel
theorem dL_law_1189 : decode cL_law 1189 = .ok (.if_icmp .eq 5, 3) := by decide +kernel
theorem dL_law_1192 : decode cL_law 1192 = .ok (.iconst 0, 1) := by decide +kernel
theorem dL_law_1193 : decode cL_law 1193 = .ok (.ireturn, 1) := by decide +kernel
theorem dL_law_1194 : decode cL_law 1194 = .ok (.iload 5, 2) := by decide +kernel
theorem dL_law_1196 : decode cL_law 1196 = .ok (.ifCond .ne 15, 3) := by decide +kernel
theorem dL_law_1199 : decode cL_law 1199 = .ok (.aload_n 3, 1) := by decide +kernel
theorem dL_law_1200 : decode cL_law 1200 = .ok (.iconst 0, 1) := by decide +kernel
theorem dL_law_1201 : decode cL_law 1201 = .ok (.laload, 1) := by decide +kernel
theorem dL_law_1202 : decode cL_law 1202 = .ok (.iload 6, 2) := by decide +kernel
theorem dL_law_1204 : decode cL_law 1204 = .ok (.i2l, 1) := by decide +kernel
theorem dL_law_1205 : decode cL_law 1205 = .ok (.lcmp, 1) := by decide +kernel
theorem dL_law_1206 : decode cL_law 1206 = .ok (.ifCond .eq 5, 3) := by decide +kernel
theorem dL_law_1209 : decode cL_law 1209 = .ok (.iconst 0, 1) := by decide +kernel
theorem dL_law_1210 : decode cL_law 1210 = .ok (.ireturn, 1) := by decide +kernel
theorem dL_law_1211 : decode cL_law 1211 = .ok (.goto 850, 3) := by decide +kernel
theorem dL_law_1214 : decode cL_law 1214 = .ok (.aload_n 1, 1) := by decide +kernel
theorem dL_law_1215 : decode cL_law 1215 = .ok (.aload_n 0, 1) := by decide +kernel
theorem dL_law_1216 : decode cL_law 1216 = .ok (.iload 4, 2) := by decide +kernel
theorem dL_law_1218 : decode cL_law 1218 = .ok (.iconst 1, 1) := by decide +kernel
theorem dL_law_1219 : decode cL_law 1219 = .ok (.iadd, 1) := by decide +kernel
theorem dL_law_1220 : decode cL_law 1220 = .ok (.iaload, 1) := by decide +kernel
theorem dL_law_1221 : decode cL_law 1221 = .ok (.aload_n 0, 1) := by decide +kernel
theorem dL_law_1222 : decode cL_law 1222 = .ok (.iload 4, 2) := by decide +kernel
theorem dL_law_1224 : decode cL_law 1224 = .ok (.iconst 2, 1) := by decide +kernel
theorem dL_law_1225 : decode cL_law 1225 = .ok (.iadd, 1) := by decide +kernel
theorem dL_law_1226 : decode cL_law 1226 = .ok (.iaload, 1) := by decide +kernel
theorem dL_law_1227 : decode cL_law 1227 = .ok (.aload_n 3, 1) := by decide +kernel
theorem dL_law_1228 : decode cL_law 1228 = .ok (.invokestatic 171, 3) := by decide +kernel
theorem dL_law_1231 : decode cL_law 1231 = .ok (.istore 5, 2) := by decide +kernel
theorem dL_law_1233 : decode cL_law 1233 = .ok (.aload_n 2, 1) := by decide +kernel
theorem dL_law_1234 : decode cL_law 1234 = .ok (.aload_n 0, 1) := by decide +kernel
theorem dL_law_1235 : decode cL_law 1235 = .ok (.iload 4, 2) := by decide +kernel
theorem dL_law_1237 : decode cL_law 1237 = .ok (.iconst 1, 1) := by decide +kernel
theorem dL_law_1238 : decode cL_law 1238 = .ok (.iadd, 1) := by decide +kernel
theorem dL_law_1239 : decode cL_law 1239 = .ok (.iaload, 1) := by decide +kernel
theorem dL_law_1240 : decode cL_law 1240 = .ok (.aload_n 0, 1) := by decide +kernel
theorem dL_law_1241 : decode cL_law 1241 = .ok (.iload 4, 2) := by decide +kernel
theorem dL_law_1243 : decode cL_law 1243 = .ok (.iconst 2, 1) := by decide +kernel
theorem dL_law_1244 : decode cL_law 1244 = .ok (.iadd, 1) := by decide +kernel
theorem dL_law_1245 : decode cL_law 1245 = .ok (.iaload, 1) := by decide +kernel
theorem dL_law_1246 : decode cL_law 1246 = .ok (.invokevirtual 173, 3) := by decide +kernel
theorem dL_law_1249 : decode cL_law 1249 = .ok (.istore 6, 2) := by decide +kernel
theorem dL_law_1251 : decode cL_law 1251 = .ok (.aload_n 2, 1) := by decide +kernel
theorem dL_law_1252 : decode cL_law 1252 = .ok (.invokevirtual 121, 3) := by decide +kernel
theorem dL_law_1255 : decode cL_law 1255 = .ok (.iload 5, 2) := by decide +kernel
theorem dL_law_1257 : decode cL_law 1257 = .ok (.if_icmp .eq 5, 3) := by decide +kernel
theorem dL_law_1260 : decode cL_law 1260 = .ok (.iconst 0, 1) := by decide +kernel
theorem dL_law_1261 : decode cL_law 1261 = .ok (.ireturn, 1) := by decide +kernel
theorem dL_law_1262 : decode cL_law 1262 = .ok (.iload 5, 2) := by decide +kernel
theorem dL_law_1264 : decode cL_law 1264 = .ok (.ifCond .ne 15, 3) := by decide +kernel
theorem dL_law_1267 : decode cL_law 1267 = .ok (.aload_n 3, 1) := by decide +kernel
theorem dL_law_1268 : decode cL_law 1268 = .ok (.iconst 0, 1) := by decide +kernel
theorem dL_law_1269 : decode cL_law 1269 = .ok (.laload, 1) := by decide +kernel
theorem dL_law_1270 : decode cL_law 1270 = .ok (.iload 6, 2) := by decide +kernel
theorem dL_law_1272 : decode cL_law 1272 = .ok (.i2l, 1) := by decide +kernel
theorem dL_law_1273 : decode cL_law 1273 = .ok (.lcmp, 1) := by decide +kernel
theorem dL_law_1274 : decode cL_law 1274 = .ok (.ifCond .eq 5, 3) := by decide +kernel
theorem dL_law_1277 : decode cL_law 1277 = .ok (.iconst 0, 1) := by decide +kernel
theorem dL_law_1278 : decode cL_law 1278 = .ok (.ireturn, 1) := by decide +kernel
theorem dL_law_1279 : decode cL_law 1279 = .ok (.goto 782, 3) := by decide +kernel
theorem dL_law_1282 : decode cL_law 1282 = .ok (.aload_n 1, 1) := by decide +kernel
theorem dL_law_1283 : decode cL_law 1283 = .ok (.invokevirtual 174, 3) := by decide +kernel
theorem dL_law_1286 : decode cL_law 1286 = .ok (.aload_n 2, 1) := by decide +kernel
theorem dL_law_1287 : decode cL_law 1287 = .ok (.invokevirtual 177, 3) := by decide +kernel
theorem dL_law_1290 : decode cL_law 1290 = .ok (.if_icmp .eq 771, 3) := by decide +kernel
theorem dL_law_1293 : decode cL_law 1293 = .ok (.iconst 0, 1) := by decide +kernel
theorem dL_law_1294 : decode cL_law 1294 = .ok (.ireturn, 1) := by decide +kernel
theorem dL_law_1295 : decode cL_law 1295 = .ok (.aload_n 1, 1) := by decide +kernel
theorem dL_law_1296 : decode cL_law 1296 = .ok (.invokevirtual 178, 3) := by decide +kernel
theorem dL_law_1299 : decode cL_law 1299 = .ok (.aload_n 2, 1) := by decide +kernel
theorem dL_law_1300 : decode cL_law 1300 = .ok (.invokevirtual 181, 3) := by decide +kernel
theorem dL_law_1303 : decode cL_law 1303 = .ok (.if_icmp .eq 758, 3) := by decide +kernel
theorem dL_law_1306 : decode cL_law 1306 = .ok (.iconst 0, 1) := by decide +kernel
theorem dL_law_1307 : decode cL_law 1307 = .ok (.ireturn, 1) := by decide +kernel
theorem dL_law_1308 : decode cL_law 1308 = .ok (.aload_n 1, 1) := by decide +kernel
theorem dL_law_1309 : decode cL_law 1309 = .ok (.aload_n 0, 1) := by decide +kernel
theorem dL_law_1310 : decode cL_law 1310 = .ok (.iload 4, 2) := by decide +kernel
theorem dL_law_1312 : decode cL_law 1312 = .ok (.iconst 1, 1) := by decide +kernel
theorem dL_law_1313 : decode cL_law 1313 = .ok (.iadd, 1) := by decide +kernel
theorem dL_law_1314 : decode cL_law 1314 = .ok (.iaload, 1) := by decide +kernel
theorem dL_law_1315 : decode cL_law 1315 = .ok (.aload_n 0, 1) := by decide +kernel
theorem dL_law_1316 : decode cL_law 1316 = .ok (.iload 4, 2) := by decide +kernel
theorem dL_law_1318 : decode cL_law 1318 = .ok (.iconst 2, 1) := by decide +kernel
theorem dL_law_1319 : decode cL_law 1319 = .ok (.iadd, 1) := by decide +kernel
theorem dL_law_1320 : decode cL_law 1320 = .ok (.iaload, 1) := by decide +kernel
theorem dL_law_1321 : decode cL_law 1321 = .ok (.aload_n 3, 1) := by decide +kernel
theorem dL_law_1322 : decode cL_law 1322 = .ok (.invokestatic 182, 3) := by decide +kernel
theorem dL_law_1325 : decode cL_law 1325 = .ok (.istore 5, 2) := by decide +kernel
theorem dL_law_1327 : decode cL_law 1327 = .ok (.aload_n 2, 1) := by decide +kernel
theorem dL_law_1328 : decode cL_law 1328 = .ok (.aload_n 0, 1) := by decide +kernel
theorem dL_law_1329 : decode cL_law 1329 = .ok (.iload 4, 2) := by decide +kernel
theorem dL_law_1331 : decode cL_law 1331 = .ok (.iconst 1, 1) := by decide +kernel
theorem dL_law_1332 : decode cL_law 1332 = .ok (.iadd, 1) := by decide +kernel
theorem dL_law_1333 : decode cL_law 1333 = .ok (.iaload, 1) := by decide +kernel
theorem dL_law_1334 : decode cL_law 1334 = .ok (.aload_n 0, 1) := by decide +kernel
theorem dL_law_1335 : decode cL_law 1335 = .ok (.iload 4, 2) := by decide +kernel
theorem dL_law_1337 : decode cL_law 1337 = .ok (.iconst 2, 1) := by decide +kernel
theorem dL_law_1338 : decode cL_law 1338 = .ok (.iadd, 1) := by decide +kernel
theorem dL_law_1339 : decode cL_law 1339 = .ok (.iaload, 1) := by decide +kernel
theorem dL_law_1340 : decode cL_law 1340 = .ok (.invokevirtual 184, 3) := by decide +kernel
theorem dL_law_1343 : decode cL_law 1343 = .ok (.istore 6, 2) := by decide +kernel
theorem dL_law_1345 : decode cL_law 1345 = .ok (.aload_n 2, 1) := by decide +kernel
theorem dL_law_1346 : decode cL_law 1346 = .ok (.invokevirtual 121, 3) := by decide +kernel
theorem dL_law_1349 : decode cL_law 1349 = .ok (.iload 5, 2) := by decide +kernel
theorem dL_law_1351 : decode cL_law 1351 = .ok (.if_icmp .eq 5, 3) := by decide +kernel
theorem dL_law_1354 : decode cL_law 1354 = .ok (.iconst 0, 1) := by decide +kernel
theorem dL_law_1355 : decode cL_law 1355 = .ok (.ireturn, 1) := by decide +kernel
theorem dL_law_1356 : decode cL_law 1356 = .ok (.iload 5, 2) := by decide +kernel
theorem dL_law_1358 : decode cL_law 1358 = .ok (.ifCond .ne 15, 3) := by decide +kernel
theorem dL_law_1361 : decode cL_law 1361 = .ok (.aload_n 3, 1) := by decide +kernel
theorem dL_law_1362 : decode cL_law 1362 = .ok (.iconst 0, 1) := by decide +kernel
theorem dL_law_1363 : decode cL_law 1363 = .ok (.laload, 1) := by decide +kernel
theorem dL_law_1364 : decode cL_law 1364 = .ok (.iload 6, 2) := by decide +kernel
theorem dL_law_1366 : decode cL_law 1366 = .ok (.i2l, 1) := by decide +kernel
theorem dL_law_1367 : decode cL_law 1367 = .ok (.lcmp, 1) := by decide +kernel
theorem dL_law_1368 : decode cL_law 1368 = .ok (.ifCond .eq 5, 3) := by decide +kernel
theorem dL_law_1371 : decode cL_law 1371 = .ok (.iconst 0, 1) := by decide +kernel
theorem dL_law_1372 : decode cL_law 1372 = .ok (.ireturn, 1) := by decide +kernel
theorem dL_law_1373 : decode cL_law 1373 = .ok (.goto 688, 3) := by decide +kernel
theorem dL_law_1376 : decode cL_law 1376 = .ok (.aload_n 1, 1) := by decide +kernel
theorem dL_law_1377 : decode cL_law 1377 = .ok (.aload_n 0, 1) := by decide +kernel
theorem dL_law_1378 : decode cL_law 1378 = .ok (.iload 4, 2) := by decide +kernel
theorem dL_law_1380 : decode cL_law 1380 = .ok (.iconst 1, 1) := by decide +kernel
theorem dL_law_1381 : decode cL_law 1381 = .ok (.iadd, 1) := by decide +kernel
theorem dL_law_1382 : decode cL_law 1382 = .ok (.iaload, 1) := by decide +kernel
theorem dL_law_1383 : decode cL_law 1383 = .ok (.aload_n 0, 1) := by decide +kernel
theorem dL_law_1384 : decode cL_law 1384 = .ok (.iload 4, 2) := by decide +kernel
theorem dL_law_1386 : decode cL_law 1386 = .ok (.iconst 2, 1) := by decide +kernel
theorem dL_law_1387 : decode cL_law 1387 = .ok (.iadd, 1) := by decide +kernel
theorem dL_law_1388 : decode cL_law 1388 = .ok (.iaload, 1) := by decide +kernel
theorem dL_law_1389 : decode cL_law 1389 = .ok (.aload_n 0, 1) := by decide +kernel
theorem dL_law_1390 : decode cL_law 1390 = .ok (.iload 4, 2) := by decide +kernel
theorem dL_law_1392 : decode cL_law 1392 = .ok (.iconst 3, 1) := by decide +kernel
theorem dL_law_1393 : decode cL_law 1393 = .ok (.iadd, 1) := by decide +kernel
theorem dL_law_1394 : decode cL_law 1394 = .ok (.iaload, 1) := by decide +kernel
theorem dL_law_1395 : decode cL_law 1395 = .ok (.aload_n 3, 1) := by decide +kernel
theorem dL_law_1396 : decode cL_law 1396 = .ok (.invokestatic 185, 3) := by decide +kernel
theorem dL_law_1399 : decode cL_law 1399 = .ok (.istore 5, 2) := by decide +kernel
theorem dL_law_1401 : decode cL_law 1401 = .ok (.aload_n 2, 1) := by decide +kernel
theorem dL_law_1402 : decode cL_law 1402 = .ok (.aload_n 0, 1) := by decide +kernel
theorem dL_law_1403 : decode cL_law 1403 = .ok (.iload 4, 2) := by decide +kernel
theorem dL_law_1405 : decode cL_law 1405 = .ok (.iconst 1, 1) := by decide +kernel
theorem dL_law_1406 : decode cL_law 1406 = .ok (.iadd, 1) := by decide +kernel
theorem dL_law_1407 : decode cL_law 1407 = .ok (.iaload, 1) := by decide +kernel
theorem dL_law_1408 : decode cL_law 1408 = .ok (.aload_n 0, 1) := by decide +kernel
theorem dL_law_1409 : decode cL_law 1409 = .ok (.iload 4, 2) := by decide +kernel
theorem dL_law_1411 : decode cL_law 1411 = .ok (.iconst 2, 1) := by decide +kernel
theorem dL_law_1412 : decode cL_law 1412 = .ok (.iadd, 1) := by decide +kernel
theorem dL_law_1413 : decode cL_law 1413 = .ok (.iaload, 1) := by decide +kernel
theorem dL_law_1414 : decode cL_law 1414 = .ok (.aload_n 0, 1) := by decide +kernel
theorem dL_law_1415 : decode cL_law 1415 = .ok (.iload 4, 2) := by decide +kernel
theorem dL_law_1417 : decode cL_law 1417 = .ok (.iconst 3, 1) := by decide +kernel
theorem dL_law_1418 : decode cL_law 1418 = .ok (.iadd, 1) := by decide +kernel
theorem dL_law_1419 : decode cL_law 1419 = .ok (.iaload, 1) := by decide +kernel
theorem dL_law_1420 : decode cL_law 1420 = .ok (.invokevirtual 188, 3) := by decide +kernel
theorem dL_law_1423 : decode cL_law 1423 = .ok (.istore 6, 2) := by decide +kernel
theorem dL_law_1425 : decode cL_law 1425 = .ok (.aload_n 2, 1) := by decide +kernel
theorem dL_law_1426 : decode cL_law 1426 = .ok (.invokevirtual 121, 3) := by decide +kernel
theorem dL_law_1429 : decode cL_law 1429 = .ok (.iload 5, 2) := by decide +kernel
theorem dL_law_1431 : decode cL_law 1431 = .ok (.if_icmp .eq 5, 3) := by decide +kernel
theorem dL_law_1434 : decode cL_law 1434 = .ok (.iconst 0, 1) := by decide +kernel
theorem dL_law_1435 : decode cL_law 1435 = .ok (.ireturn, 1) := by decide +kernel
theorem dL_law_1436 : decode cL_law 1436 = .ok (.iload 5, 2) := by decide +kernel
theorem dL_law_1438 : decode cL_law 1438 = .ok (.ifCond .ne 15, 3) := by decide +kernel
theorem dL_law_1441 : decode cL_law 1441 = .ok (.aload_n 3, 1) := by decide +kernel
theorem dL_law_1442 : decode cL_law 1442 = .ok (.iconst 0, 1) := by decide +kernel
theorem dL_law_1443 : decode cL_law 1443 = .ok (.laload, 1) := by decide +kernel
theorem dL_law_1444 : decode cL_law 1444 = .ok (.iload 6, 2) := by decide +kernel
theorem dL_law_1446 : decode cL_law 1446 = .ok (.i2l, 1) := by decide +kernel
theorem dL_law_1447 : decode cL_law 1447 = .ok (.lcmp, 1) := by decide +kernel
theorem dL_law_1448 : decode cL_law 1448 = .ok (.ifCond .eq 5, 3) := by decide +kernel
theorem dL_law_1451 : decode cL_law 1451 = .ok (.iconst 0, 1) := by decide +kernel
theorem dL_law_1452 : decode cL_law 1452 = .ok (.ireturn, 1) := by decide +kernel
theorem dL_law_1453 : decode cL_law 1453 = .ok (.goto 608, 3) := by decide +kernel
theorem dL_law_1456 : decode cL_law 1456 = .ok (.aload_n 1, 1) := by decide +kernel
theorem dL_law_1457 : decode cL_law 1457 = .ok (.aload_n 0, 1) := by decide +kernel
theorem dL_law_1458 : decode cL_law 1458 = .ok (.iload 4, 2) := by decide +kernel
theorem dL_law_1460 : decode cL_law 1460 = .ok (.iconst 1, 1) := by decide +kernel
theorem dL_law_1461 : decode cL_law 1461 = .ok (.iadd, 1) := by decide +kernel
theorem dL_law_1462 : decode cL_law 1462 = .ok (.iaload, 1) := by decide +kernel
theorem dL_law_1463 : decode cL_law 1463 = .ok (.aload_n 0, 1) := by decide +kernel
theorem dL_law_1464 : decode cL_law 1464 = .ok (.iload 4, 2) := by decide +kernel
theorem dL_law_1466 : decode cL_law 1466 = .ok (.iconst 2, 1) := by decide +kernel
theorem dL_law_1467 : decode cL_law 1467 = .ok (.iadd, 1) := by decide +kernel
theorem dL_law_1468 : decode cL_law 1468 = .ok (.iaload, 1) := by decide +kernel
theorem dL_law_1469 : decode cL_law 1469 = .ok (.aload_n 3, 1) := by decide +kernel
theorem dL_law_1470 : decode cL_law 1470 = .ok (.invokestatic 189, 3) := by decide +kernel
theorem dL_law_1473 : decode cL_law 1473 = .ok (.istore 5, 2) := by decide +kernel
theorem dL_law_1475 : decode cL_law 1475 = .ok (.aload_n 2, 1) := by decide +kernel
theorem dL_law_1476 : decode cL_law 1476 = .ok (.aload_n 0, 1) := by decide +kernel
theorem dL_law_1477 : decode cL_law 1477 = .ok (.iload 4, 2) := by decide +kernel
theorem dL_law_1479 : decode cL_law 1479 = .ok (.iconst 1, 1) := by decide +kernel
theorem dL_law_1480 : decode cL_law 1480 = .ok (.iadd, 1) := by decide +kernel
theorem dL_law_1481 : decode cL_law 1481 = .ok (.iaload, 1) := by decide +kernel
theorem dL_law_1482 : decode cL_law 1482 = .ok (.aload_n 0, 1) := by decide +kernel
theorem dL_law_1483 : decode cL_law 1483 = .ok (.iload 4, 2) := by decide +kernel
theorem dL_law_1485 : decode cL_law 1485 = .ok (.iconst 2, 1) := by decide +kernel
theorem dL_law_1486 : decode cL_law 1486 = .ok (.iadd, 1) := by decide +kernel
theorem dL_law_1487 : decode cL_law 1487 = .ok (.iaload, 1) := by decide +kernel
theorem dL_law_1488 : decode cL_law 1488 = .ok (.invokevirtual 191, 3) := by decide +kernel
theorem dL_law_1491 : decode cL_law 1491 = .ok (.istore 6, 2) := by decide +kernel
theorem dL_law_1493 : decode cL_law 1493 = .ok (.aload_n 2, 1) := by decide +kernel
theorem dL_law_1494 : decode cL_law 1494 = .ok (.invokevirtual 121, 3) := by decide +kernel
theorem dL_law_1497 : decode cL_law 1497 = .ok (.iload 5, 2) := by decide +kernel
theorem dL_law_1499 : decode cL_law 1499 = .ok (.if_icmp .eq 5, 3) := by decide +kernel
theorem dL_law_1502 : decode cL_law 1502 = .ok (.iconst 0, 1) := by decide +kernel
theorem dL_law_1503 : decode cL_law 1503 = .ok (.ireturn, 1) := by decide +kernel
theorem dL_law_1504 : decode cL_law 1504 = .ok (.iload 5, 2) := by decide +kernel
theorem dL_law_1506 : decode cL_law 1506 = .ok (.ifCond .ne 15, 3) := by decide +kernel
theorem dL_law_1509 : decode cL_law 1509 = .ok (.aload_n 3, 1) := by decide +kernel
theorem dL_law_1510 : decode cL_law 1510 = .ok (.iconst 0, 1) := by decide +kernel
theorem dL_law_1511 : decode cL_law 1511 = .ok (.laload, 1) := by decide +kernel
theorem dL_law_1512 : decode cL_law 1512 = .ok (.iload 6, 2) := by decide +kernel
theorem dL_law_1514 : decode cL_law 1514 = .ok (.i2l, 1) := by decide +kernel
theorem dL_law_1515 : decode cL_law 1515 = .ok (.lcmp, 1) := by decide +kernel
theorem dL_law_1516 : decode cL_law 1516 = .ok (.ifCond .eq 5, 3) := by decide +kernel
theorem dL_law_1519 : decode cL_law 1519 = .ok (.iconst 0, 1) := by decide +kernel
theorem dL_law_1520 : decode cL_law 1520 = .ok (.ireturn, 1) := by decide +kernel
theorem dL_law_1521 : decode cL_law 1521 = .ok (.goto 540, 3) := by decide +kernel
theorem dL_law_1524 : decode cL_law 1524 = .ok (.aload_n 1, 1) := by decide +kernel
theorem dL_law_1525 : decode cL_law 1525 = .ok (.aload_n 0, 1) := by decide +kernel
theorem dL_law_1526 : decode cL_law 1526 = .ok (.iload 4, 2) := by decide +kernel
theorem dL_law_1528 : decode cL_law 1528 = .ok (.iconst 1, 1) := by decide +kernel
theorem dL_law_1529 : decode cL_law 1529 = .ok (.iadd, 1) := by decide +kernel
theorem dL_law_1530 : decode cL_law 1530 = .ok (.iaload, 1) := by decide +kernel
theorem dL_law_1531 : decode cL_law 1531 = .ok (.aload_n 3, 1) := by decide +kernel
theorem dL_law_1532 : decode cL_law 1532 = .ok (.invokestatic 192, 3) := by decide +kernel
theorem dL_law_1535 : decode cL_law 1535 = .ok (.istore 5, 2) := by decide +kernel
theorem dL_law_1537 : decode cL_law 1537 = .ok (.aload_n 2, 1) := by decide +kernel
theorem dL_law_1538 : decode cL_law 1538 = .ok (.aload_n 0, 1) := by decide +kernel
theorem dL_law_1539 : decode cL_law 1539 = .ok (.iload 4, 2) := by decide +kernel
theorem dL_law_1541 : decode cL_law 1541 = .ok (.iconst 1, 1) := by decide +kernel
theorem dL_law_1542 : decode cL_law 1542 = .ok (.iadd, 1) := by decide +kernel
theorem dL_law_1543 : decode cL_law 1543 = .ok (.iaload, 1) := by decide +kernel
theorem dL_law_1544 : decode cL_law 1544 = .ok (.invokevirtual 194, 3) := by decide +kernel
theorem dL_law_1547 : decode cL_law 1547 = .ok (.istore 6, 2) := by decide +kernel
theorem dL_law_1549 : decode cL_law 1549 = .ok (.aload_n 2, 1) := by decide +kernel
theorem dL_law_1550 : decode cL_law 1550 = .ok (.invokevirtual 121, 3) := by decide +kernel
theorem dL_law_1553 : decode cL_law 1553 = .ok (.iload 5, 2) := by decide +kernel
theorem dL_law_1555 : decode cL_law 1555 = .ok (.if_icmp .eq 5, 3) := by decide +kernel
theorem dL_law_1558 : decode cL_law 1558 = .ok (.iconst 0, 1) := by decide +kernel
theorem dL_law_1559 : decode cL_law 1559 = .ok (.ireturn, 1) := by decide +kernel
theorem dL_law_1560 : decode cL_law 1560 = .ok (.iload 5, 2) := by decide +kernel
theorem dL_law_1562 : decode cL_law 1562 = .ok (.ifCond .ne 15, 3) := by decide +kernel
theorem dL_law_1565 : decode cL_law 1565 = .ok (.aload_n 3, 1) := by decide +kernel
theorem dL_law_1566 : decode cL_law 1566 = .ok (.iconst 0, 1) := by decide +kernel
theorem dL_law_1567 : decode cL_law 1567 = .ok (.laload, 1) := by decide +kernel
theorem dL_law_1568 : decode cL_law 1568 = .ok (.iload 6, 2) := by decide +kernel
theorem dL_law_1570 : decode cL_law 1570 = .ok (.i2l, 1) := by decide +kernel
theorem dL_law_1571 : decode cL_law 1571 = .ok (.lcmp, 1) := by decide +kernel
theorem dL_law_1572 : decode cL_law 1572 = .ok (.ifCond .eq 5, 3) := by decide +kernel
theorem dL_law_1575 : decode cL_law 1575 = .ok (.iconst 0, 1) := by decide +kernel
theorem dL_law_1576 : decode cL_law 1576 = .ok (.ireturn, 1) := by decide +kernel
theorem dL_law_1577 : decode cL_law 1577 = .ok (.goto 484, 3) := by decide +kernel
theorem dL_law_1580 : decode cL_law 1580 = .ok (.aload_n 1, 1) := by decide +kernel
theorem dL_law_1581 : decode cL_law 1581 = .ok (.aload_n 0, 1) := by decide +kernel
theorem dL_law_1582 : decode cL_law 1582 = .ok (.iload 4, 2) := by decide +kernel
theorem dL_law_1584 : decode cL_law 1584 = .ok (.iconst 1, 1) := by decide +kernel
theorem dL_law_1585 : decode cL_law 1585 = .ok (.iadd, 1) := by decide +kernel
theorem dL_law_1586 : decode cL_law 1586 = .ok (.iaload, 1) := by decide +kernel
theorem dL_law_1587 : decode cL_law 1587 = .ok (.aload_n 0, 1) := by decide +kernel
theorem dL_law_1588 : decode cL_law 1588 = .ok (.iload 4, 2) := by decide +kernel
theorem dL_law_1590 : decode cL_law 1590 = .ok (.iconst 2, 1) := by decide +kernel
theorem dL_law_1591 : decode cL_law 1591 = .ok (.iadd, 1) := by decide +kernel
theorem dL_law_1592 : decode cL_law 1592 = .ok (.iaload, 1) := by decide +kernel
theorem dL_law_1593 : decode cL_law 1593 = .ok (.aload_n 3, 1) := by decide +kernel
theorem dL_law_1594 : decode cL_law 1594 = .ok (.invokestatic 195, 3) := by decide +kernel
theorem dL_law_1597 : decode cL_law 1597 = .ok (.istore 5, 2) := by decide +kernel
theorem dL_law_1599 : decode cL_law 1599 = .ok (.aload_n 2, 1) := by decide +kernel
theorem dL_law_1600 : decode cL_law 1600 = .ok (.aload_n 0, 1) := by decide +kernel
theorem dL_law_1601 : decode cL_law 1601 = .ok (.iload 4, 2) := by decide +kernel
theorem dL_law_1603 : decode cL_law 1603 = .ok (.iconst 1, 1) := by decide +kernel
theorem dL_law_1604 : decode cL_law 1604 = .ok (.iadd, 1) := by decide +kernel
theorem dL_law_1605 : decode cL_law 1605 = .ok (.iaload, 1) := by decide +kernel
theorem dL_law_1606 : decode cL_law 1606 = .ok (.aload_n 0, 1) := by decide +kernel
theorem dL_law_1607 : decode cL_law 1607 = .ok (.iload 4, 2) := by decide +kernel
theorem dL_law_1609 : decode cL_law 1609 = .ok (.iconst 2, 1) := by decide +kernel
theorem dL_law_1610 : decode cL_law 1610 = .ok (.iadd, 1) := by decide +kernel
theorem dL_law_1611 : decode cL_law 1611 = .ok (.iaload, 1) := by decide +kernel
theorem dL_law_1612 : decode cL_law 1612 = .ok (.invokevirtual 197, 3) := by decide +kernel
theorem dL_law_1615 : decode cL_law 1615 = .ok (.istore 6, 2) := by decide +kernel
theorem dL_law_1617 : decode cL_law 1617 = .ok (.aload_n 2, 1) := by decide +kernel
theorem dL_law_1618 : decode cL_law 1618 = .ok (.invokevirtual 121, 3) := by decide +kernel
theorem dL_law_1621 : decode cL_law 1621 = .ok (.iload 5, 2) := by decide +kernel
theorem dL_law_1623 : decode cL_law 1623 = .ok (.if_icmp .eq 5, 3) := by decide +kernel
theorem dL_law_1626 : decode cL_law 1626 = .ok (.iconst 0, 1) := by decide +kernel
theorem dL_law_1627 : decode cL_law 1627 = .ok (.ireturn, 1) := by decide +kernel
theorem dL_law_1628 : decode cL_law 1628 = .ok (.iload 5, 2) := by decide +kernel
theorem dL_law_1630 : decode cL_law 1630 = .ok (.ifCond .ne 15, 3) := by decide +kernel
theorem dL_law_1633 : decode cL_law 1633 = .ok (.aload_n 3, 1) := by decide +kernel
theorem dL_law_1634 : decode cL_law 1634 = .ok (.iconst 0, 1) := by decide +kernel
theorem dL_law_1635 : decode cL_law 1635 = .ok (.laload, 1) := by decide +kernel
theorem dL_law_1636 : decode cL_law 1636 = .ok (.iload 6, 2) := by decide +kernel
theorem dL_law_1638 : decode cL_law 1638 = .ok (.i2l, 1) := by decide +kernel
theorem dL_law_1639 : decode cL_law 1639 = .ok (.lcmp, 1) := by decide +kernel
theorem dL_law_1640 : decode cL_law 1640 = .ok (.ifCond .eq 5, 3) := by decide +kernel
theorem dL_law_1643 : decode cL_law 1643 = .ok (.iconst 0, 1) := by decide +kernel
theorem dL_law_1644 : decode cL_law 1644 = .ok (.ireturn, 1) := by decide +kernel
theorem dL_law_1645 : decode cL_law 1645 = .ok (.goto 416, 3) := by decide +kernel
theorem dL_law_1648 : decode cL_law 1648 = .ok (.aload_n 1, 1) := by decide +kernel
theorem dL_law_1649 : decode cL_law 1649 = .ok (.aload_n 0, 1) := by decide +kernel
theorem dL_law_1650 : decode cL_law 1650 = .ok (.iload 4, 2) := by decide +kernel
theorem dL_law_1652 : decode cL_law 1652 = .ok (.iconst 1, 1) := by decide +kernel
theorem dL_law_1653 : decode cL_law 1653 = .ok (.iadd, 1) := by decide +kernel
theorem dL_law_1654 : decode cL_law 1654 = .ok (.iaload, 1) := by decide +kernel
theorem dL_law_1655 : decode cL_law 1655 = .ok (.aload_n 0, 1) := by decide +kernel
theorem dL_law_1656 : decode cL_law 1656 = .ok (.iload 4, 2) := by decide +kernel
theorem dL_law_1658 : decode cL_law 1658 = .ok (.iconst 2, 1) := by decide +kernel
theorem dL_law_1659 : decode cL_law 1659 = .ok (.iadd, 1) := by decide +kernel
theorem dL_law_1660 : decode cL_law 1660 = .ok (.iaload, 1) := by decide +kernel
theorem dL_law_1661 : decode cL_law 1661 = .ok (.aload_n 3, 1) := by decide +kernel
theorem dL_law_1662 : decode cL_law 1662 = .ok (.invokestatic 198, 3) := by decide +kernel
theorem dL_law_1665 : decode cL_law 1665 = .ok (.istore 5, 2) := by decide +kernel
theorem dL_law_1667 : decode cL_law 1667 = .ok (.aload_n 2, 1) := by decide +kernel
theorem dL_law_1668 : decode cL_law 1668 = .ok (.aload_n 0, 1) := by decide +kernel
theorem dL_law_1669 : decode cL_law 1669 = .ok (.iload 4, 2) := by decide +kernel
theorem dL_law_1671 : decode cL_law 1671 = .ok (.iconst 1, 1) := by decide +kernel
theorem dL_law_1672 : decode cL_law 1672 = .ok (.iadd, 1) := by decide +kernel
theorem dL_law_1673 : decode cL_law 1673 = .ok (.iaload, 1) := by decide +kernel
theorem dL_law_1674 : decode cL_law 1674 = .ok (.aload_n 0, 1) := by decide +kernel
theorem dL_law_1675 : decode cL_law 1675 = .ok (.iload 4, 2) := by decide +kernel
theorem dL_law_1677 : decode cL_law 1677 = .ok (.iconst 2, 1) := by decide +kernel
theorem dL_law_1678 : decode cL_law 1678 = .ok (.iadd, 1) := by decide +kernel
theorem dL_law_1679 : decode cL_law 1679 = .ok (.iaload, 1) := by decide +kernel
theorem dL_law_1680 : decode cL_law 1680 = .ok (.invokevirtual 200, 3) := by decide +kernel
theorem dL_law_1683 : decode cL_law 1683 = .ok (.istore 6, 2) := by decide +kernel
theorem dL_law_1685 : decode cL_law 1685 = .ok (.aload_n 2, 1) := by decide +kernel
theorem dL_law_1686 : decode cL_law 1686 = .ok (.invokevirtual 121, 3) := by decide +kernel
theorem dL_law_1689 : decode cL_law 1689 = .ok (.iload 5, 2) := by decide +kernel
theorem dL_law_1691 : decode cL_law 1691 = .ok (.if_icmp .eq 5, 3) := by decide +kernel
theorem dL_law_1694 : decode cL_law 1694 = .ok (.iconst 0, 1) := by decide +kernel
theorem dL_law_1695 : decode cL_law 1695 = .ok (.ireturn, 1) := by decide +kernel
theorem dL_law_1696 : decode cL_law 1696 = .ok (.iload 5, 2) := by decide +kernel
theorem dL_law_1698 : decode cL_law 1698 = .ok (.ifCond .ne 15, 3) := by decide +kernel
theorem dL_law_1701 : decode cL_law 1701 = .ok (.aload_n 3, 1) := by decide +kernel
theorem dL_law_1702 : decode cL_law 1702 = .ok (.iconst 0, 1) := by decide +kernel
theorem dL_law_1703 : decode cL_law 1703 = .ok (.laload, 1) := by decide +kernel
theorem dL_law_1704 : decode cL_law 1704 = .ok (.iload 6, 2) := by decide +kernel
theorem dL_law_1706 : decode cL_law 1706 = .ok (.i2l, 1) := by decide +kernel
theorem dL_law_1707 : decode cL_law 1707 = .ok (.lcmp, 1) := by decide +kernel
theorem dL_law_1708 : decode cL_law 1708 = .ok (.ifCond .eq 5, 3) := by decide +kernel
theorem dL_law_1711 : decode cL_law 1711 = .ok (.iconst 0, 1) := by decide +kernel
theorem dL_law_1712 : decode cL_law 1712 = .ok (.ireturn, 1) := by decide +kernel
theorem dL_law_1713 : decode cL_law 1713 = .ok (.goto 348, 3) := by decide +kernel
theorem dL_law_1716 : decode cL_law 1716 = .ok (.aload_n 1, 1) := by decide +kernel
theorem dL_law_1717 : decode cL_law 1717 = .ok (.aload_n 3, 1) := by decide +kernel
theorem dL_law_1718 : decode cL_law 1718 = .ok (.invokestatic 201, 3) := by decide +kernel
theorem dL_law_1721 : decode cL_law 1721 = .ok (.istore 5, 2) := by decide +kernel
theorem dL_law_1723 : decode cL_law 1723 = .ok (.aload_n 2, 1) := by decide +kernel
theorem dL_law_1724 : decode cL_law 1724 = .ok (.invokevirtual 203, 3) := by decide +kernel
theorem dL_law_1727 : decode cL_law 1727 = .ok (.istore 6, 2) := by decide +kernel
theorem dL_law_1729 : decode cL_law 1729 = .ok (.aload_n 2, 1) := by decide +kernel
theorem dL_law_1730 : decode cL_law 1730 = .ok (.invokevirtual 121, 3) := by decide +kernel
theorem dL_law_1733 : decode cL_law 1733 = .ok (.iload 5, 2) := by decide +kernel
theorem dL_law_1735 : decode cL_law 1735 = .ok (.if_icmp .eq 5, 3) := by decide +kernel
theorem dL_law_1738 : decode cL_law 1738 = .ok (.iconst 0, 1) := by decide +kernel
theorem dL_law_1739 : decode cL_law 1739 = .ok (.ireturn, 1) := by decide +kernel
theorem dL_law_1740 : decode cL_law 1740 = .ok (.iload 5, 2) := by decide +kernel
theorem dL_law_1742 : decode cL_law 1742 = .ok (.ifCond .ne 15, 3) := by decide +kernel
theorem dL_law_1745 : decode cL_law 1745 = .ok (.aload_n 3, 1) := by decide +kernel
theorem dL_law_1746 : decode cL_law 1746 = .ok (.iconst 0, 1) := by decide +kernel
theorem dL_law_1747 : decode cL_law 1747 = .ok (.laload, 1) := by decide +kernel
theorem dL_law_1748 : decode cL_law 1748 = .ok (.iload 6, 2) := by decide +kernel
theorem dL_law_1750 : decode cL_law 1750 = .ok (.i2l, 1) := by decide +kernel
theorem dL_law_1751 : decode cL_law 1751 = .ok (.lcmp, 1) := by decide +kernel
theorem dL_law_1752 : decode cL_law 1752 = .ok (.ifCond .eq 5, 3) := by decide +kernel
theorem dL_law_1755 : decode cL_law 1755 = .ok (.iconst 0, 1) := by decide +kernel
theorem dL_law_1756 : decode cL_law 1756 = .ok (.ireturn, 1) := by decide +kernel
theorem dL_law_1757 : decode cL_law 1757 = .ok (.goto 304, 3) := by decide +kernel
theorem dL_law_1760 : decode cL_law 1760 = .ok (.aload_n 1, 1) := by decide +kernel
theorem dL_law_1761 : decode cL_law 1761 = .ok (.aload_n 3, 1) := by decide +kernel
theorem dL_law_1762 : decode cL_law 1762 = .ok (.invokestatic 204, 3) := by decide +kernel
theorem dL_law_1765 : decode cL_law 1765 = .ok (.istore 5, 2) := by decide +kernel
theorem dL_law_1767 : decode cL_law 1767 = .ok (.aload_n 2, 1) := by decide +kernel
theorem dL_law_1768 : decode cL_law 1768 = .ok (.invokevirtual 206, 3) := by decide +kernel
theorem dL_law_1771 : decode cL_law 1771 = .ok (.istore 6, 2) := by decide +kernel
theorem dL_law_1773 : decode cL_law 1773 = .ok (.aload_n 2, 1) := by decide +kernel
theorem dL_law_1774 : decode cL_law 1774 = .ok (.invokevirtual 121, 3) := by decide +kernel
theorem dL_law_1777 : decode cL_law 1777 = .ok (.iload 5, 2) := by decide +kernel
theorem dL_law_1779 : decode cL_law 1779 = .ok (.if_icmp .eq 5, 3) := by decide +kernel
theorem dL_law_1782 : decode cL_law 1782 = .ok (.iconst 0, 1) := by decide +kernel
theorem dL_law_1783 : decode cL_law 1783 = .ok (.ireturn, 1) := by decide +kernel
theorem dL_law_1784 : decode cL_law 1784 = .ok (.iload 5, 2) := by decide +kernel
theorem dL_law_1786 : decode cL_law 1786 = .ok (.ifCond .ne 15, 3) := by decide +kernel
theorem dL_law_1789 : decode cL_law 1789 = .ok (.aload_n 3, 1) := by decide +kernel
theorem dL_law_1790 : decode cL_law 1790 = .ok (.iconst 0, 1) := by decide +kernel
theorem dL_law_1791 : decode cL_law 1791 = .ok (.laload, 1) := by decide +kernel
theorem dL_law_1792 : decode cL_law 1792 = .ok (.iload 6, 2) := by decide +kernel
theorem dL_law_1794 : decode cL_law 1794 = .ok (.i2l, 1) := by decide +kernel
theorem dL_law_1795 : decode cL_law 1795 = .ok (.lcmp, 1) := by decide +kernel
theorem dL_law_1796 : decode cL_law 1796 = .ok (.ifCond .eq 5, 3) := by decide +kernel
theorem dL_law_1799 : decode cL_law 1799 = .ok (.iconst 0, 1) := by decide +kernel
theorem dL_law_1800 : decode cL_law 1800 = .ok (.ireturn, 1) := by decide +kernel
theorem dL_law_1801 : decode cL_law 1801 = .ok (.goto 260, 3) := by decide +kernel
theorem dL_law_1804 : decode cL_law 1804 = .ok (.aload_n 1, 1) := by decide +kernel
theorem dL_law_1805 : decode cL_law 1805 = .ok (.aload_n 0, 1) := by decide +kernel
theorem dL_law_1806 : decode cL_law 1806 = .ok (.iload 4, 2) := by decide +kernel
theorem dL_law_1808 : decode cL_law 1808 = .ok (.iconst 1, 1) := by decide +kernel
theorem dL_law_1809 : decode cL_law 1809 = .ok (.iadd, 1) := by decide +kernel
theorem dL_law_1810 : decode cL_law 1810 = .ok (.iaload, 1) := by decide +kernel
theorem dL_law_1811 : decode cL_law 1811 = .ok (.aload_n 3, 1) := by decide +kernel
theorem dL_law_1812 : decode cL_law 1812 = .ok (.invokestatic 207, 3) := by decide +kernel
theorem dL_law_1815 : decode cL_law 1815 = .ok (.istore 5, 2) := by decide +kernel
theorem dL_law_1817 : decode cL_law 1817 = .ok (.aload_n 2, 1) := by decide +kernel
theorem dL_law_1818 : decode cL_law 1818 = .ok (.aload_n 0, 1) := by decide +kernel
theorem dL_law_1819 : decode cL_law 1819 = .ok (.iload 4, 2) := by decide +kernel
theorem dL_law_1821 : decode cL_law 1821 = .ok (.iconst 1, 1) := by decide +kernel
theorem dL_law_1822 : decode cL_law 1822 = .ok (.iadd, 1) := by decide +kernel
theorem dL_law_1823 : decode cL_law 1823 = .ok (.iaload, 1) := by decide +kernel
theorem dL_law_1824 : decode cL_law 1824 = .ok (.invokevirtual 209, 3) := by decide +kernel
theorem dL_law_1827 : decode cL_law 1827 = .ok (.istore 6, 2) := by decide +kernel
theorem dL_law_1829 : decode cL_law 1829 = .ok (.aload_n 2, 1) := by decide +kernel
theorem dL_law_1830 : decode cL_law 1830 = .ok (.invokevirtual 121, 3) := by decide +kernel
theorem dL_law_1833 : decode cL_law 1833 = .ok (.iload 5, 2) := by decide +kernel
theorem dL_law_1835 : decode cL_law 1835 = .ok (.if_icmp .eq 5, 3) := by decide +kernel
theorem dL_law_1838 : decode cL_law 1838 = .ok (.iconst 0, 1) := by decide +kernel
theorem dL_law_1839 : decode cL_law 1839 = .ok (.ireturn, 1) := by decide +kernel
theorem dL_law_1840 : decode cL_law 1840 = .ok (.iload 5, 2) := by decide +kernel
theorem dL_law_1842 : decode cL_law 1842 = .ok (.ifCond .ne 15, 3) := by decide +kernel
theorem dL_law_1845 : decode cL_law 1845 = .ok (.aload_n 3, 1) := by decide +kernel
theorem dL_law_1846 : decode cL_law 1846 = .ok (.iconst 0, 1) := by decide +kernel
theorem dL_law_1847 : decode cL_law 1847 = .ok (.laload, 1) := by decide +kernel
theorem dL_law_1848 : decode cL_law 1848 = .ok (.iload 6, 2) := by decide +kernel
theorem dL_law_1850 : decode cL_law 1850 = .ok (.i2l, 1) := by decide +kernel
theorem dL_law_1851 : decode cL_law 1851 = .ok (.lcmp, 1) := by decide +kernel
theorem dL_law_1852 : decode cL_law 1852 = .ok (.ifCond .eq 5, 3) := by decide +kernel
theorem dL_law_1855 : decode cL_law 1855 = .ok (.iconst 0, 1) := by decide +kernel
theorem dL_law_1856 : decode cL_law 1856 = .ok (.ireturn, 1) := by decide +kernel
theorem dL_law_1857 : decode cL_law 1857 = .ok (.goto 204, 3) := by decide +kernel
theorem dL_law_1860 : decode cL_law 1860 = .ok (.aload_n 1, 1) := by decide +kernel
theorem dL_law_1861 : decode cL_law 1861 = .ok (.aload_n 0, 1) := by decide +kernel
theorem dL_law_1862 : decode cL_law 1862 = .ok (.iload 4, 2) := by decide +kernel
theorem dL_law_1864 : decode cL_law 1864 = .ok (.iconst 1, 1) := by decide +kernel
theorem dL_law_1865 : decode cL_law 1865 = .ok (.iadd, 1) := by decide +kernel
theorem dL_law_1866 : decode cL_law 1866 = .ok (.iaload, 1) := by decide +kernel
theorem dL_law_1867 : decode cL_law 1867 = .ok (.aload_n 3, 1) := by decide +kernel
theorem dL_law_1868 : decode cL_law 1868 = .ok (.invokestatic 210, 3) := by decide +kernel
theorem dL_law_1871 : decode cL_law 1871 = .ok (.istore 5, 2) := by decide +kernel
theorem dL_law_1873 : decode cL_law 1873 = .ok (.aload_n 2, 1) := by decide +kernel
theorem dL_law_1874 : decode cL_law 1874 = .ok (.aload_n 0, 1) := by decide +kernel
theorem dL_law_1875 : decode cL_law 1875 = .ok (.iload 4, 2) := by decide +kernel
theorem dL_law_1877 : decode cL_law 1877 = .ok (.iconst 1, 1) := by decide +kernel
theorem dL_law_1878 : decode cL_law 1878 = .ok (.iadd, 1) := by decide +kernel
theorem dL_law_1879 : decode cL_law 1879 = .ok (.iaload, 1) := by decide +kernel
theorem dL_law_1880 : decode cL_law 1880 = .ok (.invokevirtual 212, 3) := by decide +kernel
theorem dL_law_1883 : decode cL_law 1883 = .ok (.istore 6, 2) := by decide +kernel
theorem dL_law_1885 : decode cL_law 1885 = .ok (.aload_n 2, 1) := by decide +kernel
theorem dL_law_1886 : decode cL_law 1886 = .ok (.invokevirtual 121, 3) := by decide +kernel
theorem dL_law_1889 : decode cL_law 1889 = .ok (.iload 5, 2) := by decide +kernel
theorem dL_law_1891 : decode cL_law 1891 = .ok (.if_icmp .eq 5, 3) := by decide +kernel
theorem dL_law_1894 : decode cL_law 1894 = .ok (.iconst 0, 1) := by decide +kernel
theorem dL_law_1895 : decode cL_law 1895 = .ok (.ireturn, 1) := by decide +kernel
theorem dL_law_1896 : decode cL_law 1896 = .ok (.iload 5, 2) := by decide +kernel
theorem dL_law_1898 : decode cL_law 1898 = .ok (.ifCond .ne 15, 3) := by decide +kernel
theorem dL_law_1901 : decode cL_law 1901 = .ok (.aload_n 3, 1) := by decide +kernel
theorem dL_law_1902 : decode cL_law 1902 = .ok (.iconst 0, 1) := by decide +kernel
theorem dL_law_1903 : decode cL_law 1903 = .ok (.laload, 1) := by decide +kernel
theorem dL_law_1904 : decode cL_law 1904 = .ok (.iload 6, 2) := by decide +kernel
theorem dL_law_1906 : decode cL_law 1906 = .ok (.i2l, 1) := by decide +kernel
theorem dL_law_1907 : decode cL_law 1907 = .ok (.lcmp, 1) := by decide +kernel
theorem dL_law_1908 : decode cL_law 1908 = .ok (.ifCond .eq 5, 3) := by decide +kernel
theorem dL_law_1911 : decode cL_law 1911 = .ok (.iconst 0, 1) := by decide +kernel
theorem dL_law_1912 : decode cL_law 1912 = .ok (.ireturn, 1) := by decide +kernel
theorem dL_law_1913 : decode cL_law 1913 = .ok (.goto 148, 3) := by decide +kernel
theorem dL_law_1916 : decode cL_law 1916 = .ok (.aload_n 1, 1) := by decide +kernel
theorem dL_law_1917 : decode cL_law 1917 = .ok (.invokevirtual 213, 3) := by decide +kernel
theorem dL_law_1920 : decode cL_law 1920 = .ok (.aload_n 2, 1) := by decide +kernel
theorem dL_law_1921 : decode cL_law 1921 = .ok (.invokevirtual 216, 3) := by decide +kernel
theorem dL_law_1924 : decode cL_law 1924 = .ok (.if_icmp .eq 137, 3) := by decide +kernel
theorem dL_law_1927 : decode cL_law 1927 = .ok (.iconst 0, 1) := by decide +kernel
theorem dL_law_1928 : decode cL_law 1928 = .ok (.ireturn, 1) := by decide +kernel
theorem dL_law_1929 : decode cL_law 1929 = .ok (.aload_n 1, 1) := by decide +kernel
theorem dL_law_1930 : decode cL_law 1930 = .ok (.invokevirtual 217, 3) := by decide +kernel
theorem dL_law_1933 : decode cL_law 1933 = .ok (.aload_n 2, 1) := by decide +kernel
theorem dL_law_1934 : decode cL_law 1934 = .ok (.invokevirtual 220, 3) := by decide +kernel
theorem dL_law_1937 : decode cL_law 1937 = .ok (.if_icmp .eq 124, 3) := by decide +kernel
theorem dL_law_1940 : decode cL_law 1940 = .ok (.iconst 0, 1) := by decide +kernel
theorem dL_law_1941 : decode cL_law 1941 = .ok (.ireturn, 1) := by decide +kernel
theorem dL_law_1942 : decode cL_law 1942 = .ok (.aload_n 1, 1) := by decide +kernel
theorem dL_law_1943 : decode cL_law 1943 = .ok (.invokevirtual 221, 3) := by decide +kernel
theorem dL_law_1946 : decode cL_law 1946 = .ok (.aload_n 2, 1) := by decide +kernel
theorem dL_law_1947 : decode cL_law 1947 = .ok (.invokevirtual 224, 3) := by decide +kernel
theorem dL_law_1950 : decode cL_law 1950 = .ok (.if_icmp .eq 111, 3) := by decide +kernel
theorem dL_law_1953 : decode cL_law 1953 = .ok (.iconst 0, 1) := by decide +kernel
theorem dL_law_1954 : decode cL_law 1954 = .ok (.ireturn, 1) := by decide +kernel
theorem dL_law_1955 : decode cL_law 1955 = .ok (.aload_n 1, 1) := by decide +kernel
theorem dL_law_1956 : decode cL_law 1956 = .ok (.invokevirtual 225, 3) := by decide +kernel
theorem dL_law_1959 : decode cL_law 1959 = .ok (.aload_n 2, 1) := by decide +kernel
theorem dL_law_1960 : decode cL_law 1960 = .ok (.invokevirtual 228, 3) := by decide +kernel
theorem dL_law_1963 : decode cL_law 1963 = .ok (.if_icmp .eq 98, 3) := by decide +kernel
theorem dL_law_1966 : decode cL_law 1966 = .ok (.iconst 0, 1) := by decide +kernel
theorem dL_law_1967 : decode cL_law 1967 = .ok (.ireturn, 1) := by decide +kernel
theorem dL_law_1968 : decode cL_law 1968 = .ok (.aload_n 1, 1) := by decide +kernel
theorem dL_law_1969 : decode cL_law 1969 = .ok (.aload_n 3, 1) := by decide +kernel
theorem dL_law_1970 : decode cL_law 1970 = .ok (.invokestatic 229, 3) := by decide +kernel
theorem dL_law_1973 : decode cL_law 1973 = .ok (.istore 5, 2) := by decide +kernel
theorem dL_law_1975 : decode cL_law 1975 = .ok (.aload_n 2, 1) := by decide +kernel
theorem dL_law_1976 : decode cL_law 1976 = .ok (.invokevirtual 231, 3) := by decide +kernel
theorem dL_law_1979 : decode cL_law 1979 = .ok (.istore 6, 2) := by decide +kernel
theorem dL_law_1981 : decode cL_law 1981 = .ok (.aload_n 2, 1) := by decide +kernel
theorem dL_law_1982 : decode cL_law 1982 = .ok (.invokevirtual 121, 3) := by decide +kernel
theorem dL_law_1985 : decode cL_law 1985 = .ok (.iload 5, 2) := by decide +kernel
theorem dL_law_1987 : decode cL_law 1987 = .ok (.if_icmp .eq 5, 3) := by decide +kernel
theorem dL_law_1990 : decode cL_law 1990 = .ok (.iconst 0, 1) := by decide +kernel
theorem dL_law_1991 : decode cL_law 1991 = .ok (.ireturn, 1) := by decide +kernel
theorem dL_law_1992 : decode cL_law 1992 = .ok (.iload 5, 2) := by decide +kernel
theorem dL_law_1994 : decode cL_law 1994 = .ok (.ifCond .ne 15, 3) := by decide +kernel
theorem dL_law_1997 : decode cL_law 1997 = .ok (.aload_n 3, 1) := by decide +kernel
theorem dL_law_1998 : decode cL_law 1998 = .ok (.iconst 0, 1) := by decide +kernel
theorem dL_law_1999 : decode cL_law 1999 = .ok (.laload, 1) := by decide +kernel
theorem dL_law_2000 : decode cL_law 2000 = .ok (.iload 6, 2) := by decide +kernel
theorem dL_law_2002 : decode cL_law 2002 = .ok (.i2l, 1) := by decide +kernel
theorem dL_law_2003 : decode cL_law 2003 = .ok (.lcmp, 1) := by decide +kernel
theorem dL_law_2004 : decode cL_law 2004 = .ok (.ifCond .eq 5, 3) := by decide +kernel
theorem dL_law_2007 : decode cL_law 2007 = .ok (.iconst 0, 1) := by decide +kernel
theorem dL_law_2008 : decode cL_law 2008 = .ok (.ireturn, 1) := by decide +kernel
theorem dL_law_2009 : decode cL_law 2009 = .ok (.goto 52, 3) := by decide +kernel
theorem dL_law_2012 : decode cL_law 2012 = .ok (.aload_n 1, 1) := by decide +kernel
theorem dL_law_2013 : decode cL_law 2013 = .ok (.invokevirtual 232, 3) := by decide +kernel
theorem dL_law_2016 : decode cL_law 2016 = .ok (.aload_n 2, 1) := by decide +kernel
theorem dL_law_2017 : decode cL_law 2017 = .ok (.invokevirtual 235, 3) := by decide +kernel
theorem dL_law_2020 : decode cL_law 2020 = .ok (.goto 41, 3) := by decide +kernel
theorem dL_law_2023 : decode cL_law 2023 = .ok (.aload_n 1, 1) := by decide +kernel
theorem dL_law_2024 : decode cL_law 2024 = .ok (.invokevirtual 236, 3) := by decide +kernel
theorem dL_law_2027 : decode cL_law 2027 = .ok (.aload_n 2, 1) := by decide +kernel
theorem dL_law_2028 : decode cL_law 2028 = .ok (.invokevirtual 240, 3) := by decide +kernel
theorem dL_law_2031 : decode cL_law 2031 = .ok (.if_icmp .eq 30, 3) := by decide +kernel
theorem dL_law_2034 : decode cL_law 2034 = .ok (.iconst 0, 1) := by decide +kernel
theorem dL_law_2035 : decode cL_law 2035 = .ok (.ireturn, 1) := by decide +kernel
theorem dL_law_2036 : decode cL_law 2036 = .ok (.aload_n 1, 1) := by decide +kernel
theorem dL_law_2037 : decode cL_law 2037 = .ok (.aload_n 0, 1) := by decide +kernel
theorem dL_law_2038 : decode cL_law 2038 = .ok (.iload 4, 2) := by decide +kernel
theorem dL_law_2040 : decode cL_law 2040 = .ok (.iconst 1, 1) := by decide +kernel
theorem dL_law_2041 : decode cL_law 2041 = .ok (.iadd, 1) := by decide +kernel
theorem dL_law_2042 : decode cL_law 2042 = .ok (.iaload, 1) := by decide +kernel
theorem dL_law_2043 : decode cL_law 2043 = .ok (.invokevirtual 241, 3) := by decide +kernel
theorem dL_law_2046 : decode cL_law 2046 = .ok (.aload_n 2, 1) := by decide +kernel
theorem dL_law_2047 : decode cL_law 2047 = .ok (.aload_n 0, 1) := by decide +kernel
theorem dL_law_2048 : decode cL_law 2048 = .ok (.iload 4, 2) := by decide +kernel
theorem dL_law_2050 : decode cL_law 2050 = .ok (.iconst 1, 1) := by decide +kernel
theorem dL_law_2051 : decode cL_law 2051 = .ok (.iadd, 1) := by decide +kernel
theorem dL_law_2052 : decode cL_law 2052 = .ok (.iaload, 1) := by decide +kernel
theorem dL_law_2053 : decode cL_law 2053 = .ok (.invokevirtual 244, 3) := by decide +kernel
theorem dL_law_2056 : decode cL_law 2056 = .ok (.if_icmp .eq 5, 3) := by decide +kernel
theorem dL_law_2059 : decode cL_law 2059 = .ok (.iconst 0, 1) := by decide +kernel
theorem dL_law_2060 : decode cL_law 2060 = .ok (.ireturn, 1) := by decide +kernel
theorem dL_law_2061 : decode cL_law 2061 = .ok (.iinc 4 6, 3) := by decide +kernel
theorem dL_law_2064 : decode cL_law 2064 = .ok (.goto (-2041), 3) := by decide +kernel
theorem dL_law_2067 : decode cL_law 2067 = .ok (.iconst 1, 1) := by decide +kernel
theorem dL_law_2068 : decode cL_law 2068 = .ok (.ireturn, 1) := by decide +kernel
