theorem dL_check_0 : decode cL_check 0 = .ok (.aload_n 3, 1) := by decide +kernel
theorem dL_check_1 : decode cL_check 1 = .ok (.iconst 0, 1) := by decide +kernel
theorem dL_check_2 : decode cL_check 2 = .ok (.aload_n 0, 1) := by decide +kernel
theorem dL_check_3 : decode cL_check 3 = .ok (.iload_n 1, 1) := by decide +kernel
theorem dL_check_4 : decode cL_check 4 = .ok (.iload_n 2, 1) := by decide +kernel
theorem dL_check_5 : decode cL_check 5 = .ok (.invokevirtual 48, 3) := by decide +kernel
theorem dL_check_8 : decode cL_check 8 = .ok (.i2l, 1) := by decide +kernel
theorem dL_check_9 : decode cL_check 9 = .ok (.lastore, 1) := by decide +kernel
theorem dL_check_10 : decode cL_check 10 = .ok (.goto 7, 3) := by decide +kernel
theorem dL_check_13 : decode cL_check 13 = .ok (.astore 4, 2) := by decide +kernel
theorem dL_check_15 : decode cL_check 15 = .ok (.iconst 1, 1) := by decide +kernel
theorem dL_check_16 : decode cL_check 16 = .ok (.ireturn, 1) := by decide +kernel
theorem dL_check_17 : decode cL_check 17 = .ok (.iconst 0, 1) := by decide +kernel
theorem dL_check_18 : decode cL_check 18 = .ok (.ireturn, 1) := by decide +kernel
theorem dL_compile_0 : decode cL_compile 0 = .ok (.aload_n 2, 1) := by decide +kernel
theorem dL_compile_1 : decode cL_compile 1 = .ok (.iconst 0, 1) := by decide +kernel
theorem dL_compile_2 : decode cL_compile 2 = .ok (.aload_n 0, 1) := by decide +kernel
theorem dL_compile_3 : decode cL_compile 3 = .ok (.iload_n 1, 1) := by decide +kernel
theorem dL_compile_4 : decode cL_compile 4 = .ok (.invokevirtual 17, 3) := by decide +kernel
theorem dL_compile_7 : decode cL_compile 7 = .ok (.i2l, 1) := by decide +kernel
theorem dL_compile_8 : decode cL_compile 8 = .ok (.lastore, 1) := by decide +kernel
theorem dL_compile_9 : decode cL_compile 9 = .ok (.goto 6, 3) := by decide +kernel
theorem dL_compile_12 : decode cL_compile 12 = .ok (.astore_n 3, 1) := by decide +kernel
theorem dL_compile_13 : decode cL_compile 13 = .ok (.iconst 1, 1) := by decide +kernel
theorem dL_compile_14 : decode cL_compile 14 = .ok (.ireturn, 1) := by decide +kernel
theorem dL_compile_15 : decode cL_compile 15 = .ok (.iconst 0, 1) := by decide +kernel
theorem dL_compile_16 : decode cL_compile 16 = .ok (.ireturn, 1) := by decide +kernel
theorem dL_decode_0 : decode cL_decode 0 = .ok (.aload 4, 2) := by decide +kernel
theorem dL_decode_2 : decode cL_decode 2 = .ok (.iconst 0, 1) := by decide +kernel
theorem dL_decode_3 : decode cL_decode 3 = .ok (.aload_n 0, 1) := by decide +kernel
theorem dL_decode_4 : decode cL_decode 4 = .ok (.iload_n 1, 1) := by decide +kernel
theorem dL_decode_5 : decode cL_decode 5 = .ok (.iload_n 2, 1) := by decide +kernel
theorem dL_decode_6 : decode cL_decode 6 = .ok (.iload_n 3, 1) := by decide +kernel
theorem dL_decode_7 : decode cL_decode 7 = .ok (.invokevirtual 32, 3) := by decide +kernel
theorem dL_decode_10 : decode cL_decode 10 = .ok (.i2l, 1) := by decide +kernel
theorem dL_decode_11 : decode cL_decode 11 = .ok (.lastore, 1) := by decide +kernel
theorem dL_decode_12 : decode cL_decode 12 = .ok (.goto 11, 3) := by decide +kernel
theorem dL_decode_15 : decode cL_decode 15 = .ok (.astore 5, 2) := by decide +kernel
theorem dL_decode_17 : decode cL_decode 17 = .ok (.iconst 1, 1) := by decide +kernel
theorem dL_decode_18 : decode cL_decode 18 = .ok (.ireturn, 1) := by decide +kernel
theorem dL_decode_19 : decode cL_decode 19 = .ok (.astore 5, 2) := by decide +kernel
theorem dL_decode_21 : decode cL_decode 21 = .ok (.iconst 2, 1) := by decide +kernel
theorem dL_decode_22 : decode cL_decode 22 = .ok (.ireturn, 1) := by decide +kernel
theorem dL_decode_23 : decode cL_decode 23 = .ok (.iconst 0, 1) := by decide +kernel
theorem dL_decode_24 : decode cL_decode 24 = .ok (.ireturn, 1) := by decide +kernel
theorem dL_encode_0 : decode cL_encode 0 = .ok (.aload_n 1, 1) := by decide +kernel
theorem dL_encode_1 : decode cL_encode 1 = .ok (.iconst 0, 1) := by decide +kernel
theorem dL_encode_2 : decode cL_encode 2 = .ok (.aload_n 0, 1) := by decide +kernel
theorem dL_encode_3 : decode cL_encode 3 = .ok (.invokevirtual 39, 3) := by decide +kernel
theorem dL_encode_6 : decode cL_encode 6 = .ok (.i2l, 1) := by decide +kernel
theorem dL_encode_7 : decode cL_encode 7 = .ok (.lastore, 1) := by decide +kernel
theorem dL_encode_8 : decode cL_encode 8 = .ok (.goto 6, 3) := by decide +kernel
theorem dL_encode_11 : decode cL_encode 11 = .ok (.astore_n 2, 1) := by decide +kernel
theorem dL_encode_12 : decode cL_encode 12 = .ok (.iconst 1, 1) := by decide +kernel
theorem dL_encode_13 : decode cL_encode 13 = .ok (.ireturn, 1) := by decide +kernel
theorem dL_encode_14 : decode cL_encode 14 = .ok (.iconst 0, 1) := by decide +kernel
theorem dL_encode_15 : decode cL_encode 15 = .ok (.ireturn, 1) := by decide +kernel
theorem dL_feed_0 : decode cL_feed 0 = .ok (.aload 4, 2) := by decide +kernel
theorem dL_feed_2 : decode cL_feed 2 = .ok (.iconst 0, 1) := by decide +kernel
theorem dL_feed_3 : decode cL_feed 3 = .ok (.aload_n 0, 1) := by decide +kernel
theorem dL_feed_4 : decode cL_feed 4 = .ok (.lload_n 1, 1) := by decide +kernel
theorem dL_feed_5 : decode cL_feed 5 = .ok (.iload_n 3, 1) := by decide +kernel
theorem dL_feed_6 : decode cL_feed 6 = .ok (.invokevirtual 7, 3) := by decide +kernel
theorem dL_feed_9 : decode cL_feed 9 = .ok (.i2l, 1) := by decide +kernel
theorem dL_feed_10 : decode cL_feed 10 = .ok (.lastore, 1) := by decide +kernel
theorem dL_feed_11 : decode cL_feed 11 = .ok (.goto 11, 3) := by decide +kernel
theorem dL_feed_14 : decode cL_feed 14 = .ok (.astore 5, 2) := by decide +kernel
theorem dL_feed_16 : decode cL_feed 16 = .ok (.iconst 1, 1) := by decide +kernel
theorem dL_feed_17 : decode cL_feed 17 = .ok (.ireturn, 1) := by decide +kernel
theorem dL_feed_18 : decode cL_feed 18 = .ok (.astore 5, 2) := by decide +kernel
theorem dL_feed_20 : decode cL_feed 20 = .ok (.iconst 2, 1) := by decide +kernel
theorem dL_feed_21 : decode cL_feed 21 = .ok (.ireturn, 1) := by decide +kernel
theorem dL_feed_22 : decode cL_feed 22 = .ok (.iconst 0, 1) := by decide +kernel
theorem dL_feed_23 : decode cL_feed 23 = .ok (.ireturn, 1) := by decide +kernel
theorem dL_field_0 : decode cL_field 0 = .ok (.aload 5, 2) := by decide +kernel
theorem dL_field_2 : decode cL_field 2 = .ok (.iconst 0, 1) := by decide +kernel
theorem dL_field_3 : decode cL_field 3 = .ok (.aload_n 0, 1) := by decide +kernel
theorem dL_field_4 : decode cL_field 4 = .ok (.iload_n 1, 1) := by decide +kernel
theorem dL_field_5 : decode cL_field 5 = .ok (.iload_n 2, 1) := by decide +kernel
theorem dL_field_6 : decode cL_field 6 = .ok (.iload_n 3, 1) := by decide +kernel
theorem dL_field_7 : decode cL_field 7 = .ok (.iload 4, 2) := by decide +kernel
theorem dL_field_9 : decode cL_field 9 = .ok (.invokevirtual 25, 3) := by decide +kernel
theorem dL_field_12 : decode cL_field 12 = .ok (.i2l, 1) := by decide +kernel
theorem dL_field_13 : decode cL_field 13 = .ok (.lastore, 1) := by decide +kernel
theorem dL_field_14 : decode cL_field 14 = .ok (.goto 7, 3) := by decide +kernel
theorem dL_field_17 : decode cL_field 17 = .ok (.astore 6, 2) := by decide +kernel
theorem dL_field_19 : decode cL_field 19 = .ok (.iconst 1, 1) := by decide +kernel
theorem dL_field_20 : decode cL_field 20 = .ok (.ireturn, 1) := by decide +kernel
theorem dL_field_21 : decode cL_field 21 = .ok (.iconst 0, 1) := by decide +kernel
theorem dL_field_22 : decode cL_field 22 = .ok (.ireturn, 1) := by decide +kernel
theorem dL_find_0 : decode cL_find 0 = .ok (.aload_n 2, 1) := by decide +kernel
theorem dL_find_1 : decode cL_find 1 = .ok (.iconst 0, 1) := by decide +kernel
theorem dL_find_2 : decode cL_find 2 = .ok (.aload_n 0, 1) := by decide +kernel
theorem dL_find_3 : decode cL_find 3 = .ok (.iload_n 1, 1) := by decide +kernel
theorem dL_find_4 : decode cL_find 4 = .ok (.invokevirtual 29, 3) := by decide +kernel
theorem dL_find_7 : decode cL_find 7 = .ok (.i2l, 1) := by decide +kernel
theorem dL_find_8 : decode cL_find 8 = .ok (.lastore, 1) := by decide +kernel
theorem dL_find_9 : decode cL_find 9 = .ok (.goto 6, 3) := by decide +kernel
theorem dL_find_12 : decode cL_find 12 = .ok (.astore_n 3, 1) := by decide +kernel
theorem dL_find_13 : decode cL_find 13 = .ok (.iconst 1, 1) := by decide +kernel
theorem dL_find_14 : decode cL_find 14 = .ok (.ireturn, 1) := by decide +kernel
theorem dL_find_15 : decode cL_find 15 = .ok (.iconst 0, 1) := by decide +kernel
theorem dL_find_16 : decode cL_find 16 = .ok (.ireturn, 1) := by decide +kernel
theorem dL_many_0 : decode cL_many 0 = .ok (.aload_n 3, 1) := by decide +kernel
theorem dL_many_1 : decode cL_many 1 = .ok (.iconst 0, 1) := by decide +kernel
theorem dL_many_2 : decode cL_many 2 = .ok (.aload_n 0, 1) := by decide +kernel
theorem dL_many_3 : decode cL_many 3 = .ok (.iload_n 1, 1) := by decide +kernel
theorem dL_many_4 : decode cL_many 4 = .ok (.iload_n 2, 1) := by decide +kernel
theorem dL_many_5 : decode cL_many 5 = .ok (.invokevirtual 21, 3) := by decide +kernel
theorem dL_many_8 : decode cL_many 8 = .ok (.i2l, 1) := by decide +kernel
theorem dL_many_9 : decode cL_many 9 = .ok (.lastore, 1) := by decide +kernel
theorem dL_many_10 : decode cL_many 10 = .ok (.goto 7, 3) := by decide +kernel
theorem dL_many_13 : decode cL_many 13 = .ok (.astore 4, 2) := by decide +kernel
theorem dL_many_15 : decode cL_many 15 = .ok (.iconst 1, 1) := by decide +kernel
theorem dL_many_16 : decode cL_many 16 = .ok (.ireturn, 1) := by decide +kernel
theorem dL_many_17 : decode cL_many 17 = .ok (.iconst 0, 1) := by decide +kernel
theorem dL_many_18 : decode cL_many 18 = .ok (.ireturn, 1) := by decide +kernel
theorem dL_out_0 : decode cL_out 0 = .ok (.aload_n 2, 1) := by decide +kernel
theorem dL_out_1 : decode cL_out 1 = .ok (.iconst 0, 1) := by decide +kernel
theorem dL_out_2 : decode cL_out 2 = .ok (.aload_n 0, 1) := by decide +kernel
theorem dL_out_3 : decode cL_out 3 = .ok (.iload_n 1, 1) := by decide +kernel
theorem dL_out_4 : decode cL_out 4 = .ok (.invokevirtual 51, 3) := by decide +kernel
theorem dL_out_7 : decode cL_out 7 = .ok (.lastore, 1) := by decide +kernel
theorem dL_out_8 : decode cL_out 8 = .ok (.goto 6, 3) := by decide +kernel
theorem dL_out_11 : decode cL_out 11 = .ok (.astore_n 3, 1) := by decide +kernel
theorem dL_out_12 : decode cL_out 12 = .ok (.iconst 1, 1) := by decide +kernel
theorem dL_out_13 : decode cL_out 13 = .ok (.ireturn, 1) := by decide +kernel
theorem dL_out_14 : decode cL_out 14 = .ok (.iconst 0, 1) := by decide +kernel
theorem dL_out_15 : decode cL_out 15 = .ok (.ireturn, 1) := by decide +kernel
theorem dL_parse_0 : decode cL_parse 0 = .ok (.aload 4, 2) := by decide +kernel
theorem dL_parse_2 : decode cL_parse 2 = .ok (.iconst 0, 1) := by decide +kernel
theorem dL_parse_3 : decode cL_parse 3 = .ok (.aload_n 0, 1) := by decide +kernel
theorem dL_parse_4 : decode cL_parse 4 = .ok (.iload_n 1, 1) := by decide +kernel
theorem dL_parse_5 : decode cL_parse 5 = .ok (.iload_n 2, 1) := by decide +kernel
theorem dL_parse_6 : decode cL_parse 6 = .ok (.iload_n 3, 1) := by decide +kernel
theorem dL_parse_7 : decode cL_parse 7 = .ok (.invokevirtual 36, 3) := by decide +kernel
theorem dL_parse_10 : decode cL_parse 10 = .ok (.i2l, 1) := by decide +kernel
theorem dL_parse_11 : decode cL_parse 11 = .ok (.lastore, 1) := by decide +kernel
theorem dL_parse_12 : decode cL_parse 12 = .ok (.goto 11, 3) := by decide +kernel
theorem dL_parse_15 : decode cL_parse 15 = .ok (.astore 5, 2) := by decide +kernel
theorem dL_parse_17 : decode cL_parse 17 = .ok (.iconst 1, 1) := by decide +kernel
theorem dL_parse_18 : decode cL_parse 18 = .ok (.ireturn, 1) := by decide +kernel
theorem dL_parse_19 : decode cL_parse 19 = .ok (.astore 5, 2) := by decide +kernel
theorem dL_parse_21 : decode cL_parse 21 = .ok (.iconst 2, 1) := by decide +kernel
theorem dL_parse_22 : decode cL_parse 22 = .ok (.ireturn, 1) := by decide +kernel
theorem dL_parse_23 : decode cL_parse 23 = .ok (.iconst 0, 1) := by decide +kernel
theorem dL_parse_24 : decode cL_parse 24 = .ok (.ireturn, 1) := by decide +kernel
theorem dL_print_0 : decode cL_print 0 = .ok (.aload_n 1, 1) := by decide +kernel
theorem dL_print_1 : decode cL_print 1 = .ok (.iconst 0, 1) := by decide +kernel
theorem dL_print_2 : decode cL_print 2 = .ok (.aload_n 0, 1) := by decide +kernel
theorem dL_print_3 : decode cL_print 3 = .ok (.invokevirtual 43, 3) := by decide +kernel
theorem dL_print_6 : decode cL_print 6 = .ok (.i2l, 1) := by decide +kernel
theorem dL_print_7 : decode cL_print 7 = .ok (.lastore, 1) := by decide +kernel
theorem dL_print_8 : decode cL_print 8 = .ok (.goto 9, 3) := by decide +kernel
theorem dL_print_11 : decode cL_print 11 = .ok (.astore_n 2, 1) := by decide +kernel
theorem dL_print_12 : decode cL_print 12 = .ok (.iconst 1, 1) := by decide +kernel
theorem dL_print_13 : decode cL_print 13 = .ok (.ireturn, 1) := by decide +kernel
theorem dL_print_14 : decode cL_print 14 = .ok (.astore_n 2, 1) := by decide +kernel
theorem dL_print_15 : decode cL_print 15 = .ok (.iconst 2, 1) := by decide +kernel
theorem dL_print_16 : decode cL_print 16 = .ok (.ireturn, 1) := by decide +kernel
theorem dL_print_17 : decode cL_print 17 = .ok (.iconst 0, 1) := by decide +kernel
theorem dL_print_18 : decode cL_print 18 = .ok (.ireturn, 1) := by decide +kernel
theorem dL_turn_0 : decode cL_turn 0 = .ok (.aload_n 1, 1) := by decide +kernel
theorem dL_turn_1 : decode cL_turn 1 = .ok (.iconst 0, 1) := by decide +kernel
theorem dL_turn_2 : decode cL_turn 2 = .ok (.aload_n 0, 1) := by decide +kernel
theorem dL_turn_3 : decode cL_turn 3 = .ok (.invokevirtual 57, 3) := by decide +kernel
theorem dL_turn_6 : decode cL_turn 6 = .ok (.i2l, 1) := by decide +kernel
theorem dL_turn_7 : decode cL_turn 7 = .ok (.lastore, 1) := by decide +kernel
theorem dL_turn_8 : decode cL_turn 8 = .ok (.goto 6, 3) := by decide +kernel
theorem dL_turn_11 : decode cL_turn 11 = .ok (.astore_n 2, 1) := by decide +kernel
theorem dL_turn_12 : decode cL_turn 12 = .ok (.iconst 1, 1) := by decide +kernel
theorem dL_turn_13 : decode cL_turn 13 = .ok (.ireturn, 1) := by decide +kernel
theorem dL_turn_14 : decode cL_turn 14 = .ok (.iconst 0, 1) := by decide +kernel
theorem dL_turn_15 : decode cL_turn 15 = .ok (.ireturn, 1) := by decide +kernel
