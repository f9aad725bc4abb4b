theorem dX0_add_0 : decode cX0_add 0 = .ok (.aload_n 0, 1) := by decide +kernel
theorem dX0_add_1 : decode cX0_add 1 = .ok (.getfield 19, 3) := by decide +kernel
theorem dX0_add_4 : decode cX0_add 4 = .ok (.ifCond .lt 39, 3) := by decide +kernel
theorem dX0_add_7 : decode cX0_add 7 = .ok (.aload_n 0, 1) := by decide +kernel
theorem dX0_add_8 : decode cX0_add 8 = .ok (.getfield 19, 3) := by decide +kernel
theorem dX0_add_11 : decode cX0_add 11 = .ok (.aload_n 0, 1) := by decide +kernel
theorem dX0_add_12 : decode cX0_add 12 = .ok (.getfield 13, 3) := by decide +kernel
theorem dX0_add_15 : decode cX0_add 15 = .ok (.arraylength, 1) := by decide +kernel
theorem dX0_add_16 : decode cX0_add 16 = .ok (.if_icmp .ge 27, 3) := by decide +kernel
theorem dX0_add_19 : decode cX0_add 19 = .ok (.aload_n 0, 1) := by decide +kernel
theorem dX0_add_20 : decode cX0_add 20 = .ok (.getfield 13, 3) := by decide +kernel
theorem dX0_add_23 : decode cX0_add 23 = .ok (.aload_n 0, 1) := by decide +kernel
theorem dX0_add_24 : decode cX0_add 24 = .ok (.getfield 19, 3) := by decide +kernel
theorem dX0_add_27 : decode cX0_add 27 = .ok (.iload_n 1, 1) := by decide +kernel
theorem dX0_add_28 : decode cX0_add 28 = .ok (.i2b, 1) := by decide +kernel
theorem dX0_add_29 : decode cX0_add 29 = .ok (.bastore, 1) := by decide +kernel
theorem dX0_add_30 : decode cX0_add 30 = .ok (.aload_n 0, 1) := by decide +kernel
theorem dX0_add_31 : decode cX0_add 31 = .ok (.dup, 1) := by decide +kernel
theorem dX0_add_32 : decode cX0_add 32 = .ok (.getfield 19, 3) := by decide +kernel
theorem dX0_add_35 : decode cX0_add 35 = .ok (.iconst 1, 1) := by decide +kernel
theorem dX0_add_36 : decode cX0_add 36 = .ok (.iadd, 1) := by decide +kernel
theorem dX0_add_37 : decode cX0_add 37 = .ok (.putfield 19, 3) := by decide +kernel
theorem dX0_add_40 : decode cX0_add 40 = .ok (.goto 8, 3) := by decide +kernel
theorem dX0_add_43 : decode cX0_add 43 = .ok (.aload_n 0, 1) := by decide +kernel
theorem dX0_add_44 : decode cX0_add 44 = .ok (.iconst 1, 1) := by decide +kernel
theorem dX0_add_45 : decode cX0_add 45 = .ok (.putfield 23, 3) := by decide +kernel
theorem dX0_add_48 : decode cX0_add 48 = .ok (.return_, 1) := by decide +kernel
theorem dX0_at_0 : decode cX0_at 0 = .ok (.iload_n 1, 1) := by decide +kernel
theorem dX0_at_1 : decode cX0_at 1 = .ok (.ifCond .lt 33, 3) := by decide +kernel
theorem dX0_at_4 : decode cX0_at 4 = .ok (.iload_n 1, 1) := by decide +kernel
theorem dX0_at_5 : decode cX0_at 5 = .ok (.aload_n 0, 1) := by decide +kernel
theorem dX0_at_6 : decode cX0_at 6 = .ok (.getfield 19, 3) := by decide +kernel
theorem dX0_at_9 : decode cX0_at 9 = .ok (.if_icmp .ge 25, 3) := by decide +kernel
theorem dX0_at_12 : decode cX0_at 12 = .ok (.iload_n 1, 1) := by decide +kernel
theorem dX0_at_13 : decode cX0_at 13 = .ok (.aload_n 0, 1) := by decide +kernel
theorem dX0_at_14 : decode cX0_at 14 = .ok (.getfield 13, 3) := by decide +kernel
theorem dX0_at_17 : decode cX0_at 17 = .ok (.arraylength, 1) := by decide +kernel
theorem dX0_at_18 : decode cX0_at 18 = .ok (.if_icmp .ge 16, 3) := by decide +kernel
theorem dX0_at_21 : decode cX0_at 21 = .ok (.aload_n 0, 1) := by decide +kernel
theorem dX0_at_22 : decode cX0_at 22 = .ok (.getfield 13, 3) := by decide +kernel
theorem dX0_at_25 : decode cX0_at 25 = .ok (.iload_n 1, 1) := by decide +kernel
theorem dX0_at_26 : decode cX0_at 26 = .ok (.baload, 1) := by decide +kernel
theorem dX0_at_27 : decode cX0_at 27 = .ok (.sipush 255, 3) := by decide +kernel
theorem dX0_at_30 : decode cX0_at 30 = .ok (.iand, 1) := by decide +kernel
theorem dX0_at_31 : decode cX0_at 31 = .ok (.goto 4, 3) := by decide +kernel
theorem dX0_at_34 : decode cX0_at 34 = .ok (.iconst (-1), 1) := by decide +kernel
theorem dX0_at_35 : decode cX0_at 35 = .ok (.ireturn, 1) := by decide +kernel
theorem dX0_addAll_0 : decode cX0_addAll 0 = .ok (.iload_n 2, 1) := by decide +kernel
theorem dX0_addAll_1 : decode cX0_addAll 1 = .ok (.istore 4, 2) := by decide +kernel
theorem dX0_addAll_3 : decode cX0_addAll 3 = .ok (.iload 4, 2) := by decide +kernel
theorem dX0_addAll_5 : decode cX0_addAll 5 = .ok (.iload_n 3, 1) := by decide +kernel
theorem dX0_addAll_6 : decode cX0_addAll 6 = .ok (.if_icmp .ge 19, 3) := by decide +kernel
theorem dX0_addAll_9 : decode cX0_addAll 9 = .ok (.aload_n 0, 1) := by decide +kernel
theorem dX0_addAll_10 : decode cX0_addAll 10 = .ok (.aload_n 1, 1) := by decide +kernel
theorem dX0_addAll_11 : decode cX0_addAll 11 = .ok (.iload 4, 2) := by decide +kernel
theorem dX0_addAll_13 : decode cX0_addAll 13 = .ok (.invokevirtual 27, 3) := by decide +kernel
theorem dX0_addAll_16 : decode cX0_addAll 16 = .ok (.invokevirtual 31, 3) := by decide +kernel
theorem dX0_addAll_19 : decode cX0_addAll 19 = .ok (.iinc 4 1, 3) := by decide +kernel
theorem dX0_addAll_22 : decode cX0_addAll 22 = .ok (.goto (-19), 3) := by decide +kernel
theorem dX0_addAll_25 : decode cX0_addAll 25 = .ok (.return_, 1) := by decide +kernel
theorem dX0_addFixed_0 : decode cX0_addFixed 0 = .ok (.iconst 0, 1) := by decide +kernel
theorem dX0_addFixed_1 : decode cX0_addFixed 1 = .ok (.istore 4, 2) := by decide +kernel
theorem dX0_addFixed_3 : decode cX0_addFixed 3 = .ok (.iload 4, 2) := by decide +kernel
theorem dX0_addFixed_5 : decode cX0_addFixed 5 = .ok (.iload_n 3, 1) := by decide +kernel
theorem dX0_addFixed_6 : decode cX0_addFixed 6 = .ok (.if_icmp .ge 21, 3) := by decide +kernel
theorem dX0_addFixed_9 : decode cX0_addFixed 9 = .ok (.aload_n 0, 1) := by decide +kernel
theorem dX0_addFixed_10 : decode cX0_addFixed 10 = .ok (.lload_n 1, 1) := by decide +kernel
theorem dX0_addFixed_11 : decode cX0_addFixed 11 = .ok (.bipush 8, 2) := by decide +kernel
theorem dX0_addFixed_13 : decode cX0_addFixed 13 = .ok (.iload 4, 2) := by decide +kernel
theorem dX0_addFixed_15 : decode cX0_addFixed 15 = .ok (.imul, 1) := by decide +kernel
theorem dX0_addFixed_16 : decode cX0_addFixed 16 = .ok (.lushr, 1) := by decide +kernel
theorem dX0_addFixed_17 : decode cX0_addFixed 17 = .ok (.l2i, 1) := by decide +kernel
theorem dX0_addFixed_18 : decode cX0_addFixed 18 = .ok (.invokevirtual 31, 3) := by decide +kernel
theorem dX0_addFixed_21 : decode cX0_addFixed 21 = .ok (.iinc 4 1, 3) := by decide +kernel
theorem dX0_addFixed_24 : decode cX0_addFixed 24 = .ok (.goto (-21), 3) := by decide +kernel
theorem dX0_addFixed_27 : decode cX0_addFixed 27 = .ok (.return_, 1) := by decide +kernel
theorem dX0_addText_0 : decode cX0_addText 0 = .ok (.iconst 0, 1) := by decide +kernel
theorem dX0_addText_1 : decode cX0_addText 1 = .ok (.istore_n 2, 1) := by decide +kernel
theorem dX0_addText_2 : decode cX0_addText 2 = .ok (.iload_n 2, 1) := by decide +kernel
theorem dX0_addText_3 : decode cX0_addText 3 = .ok (.aload_n 1, 1) := by decide +kernel
theorem dX0_addText_4 : decode cX0_addText 4 = .ok (.invokevirtual 35, 3) := by decide +kernel
theorem dX0_addText_7 : decode cX0_addText 7 = .ok (.if_icmp .ge 18, 3) := by decide +kernel
theorem dX0_addText_10 : decode cX0_addText 10 = .ok (.aload_n 0, 1) := by decide +kernel
theorem dX0_addText_11 : decode cX0_addText 11 = .ok (.aload_n 1, 1) := by decide +kernel
theorem dX0_addText_12 : decode cX0_addText 12 = .ok (.iload_n 2, 1) := by decide +kernel
theorem dX0_addText_13 : decode cX0_addText 13 = .ok (.invokevirtual 41, 3) := by decide +kernel
theorem dX0_addText_16 : decode cX0_addText 16 = .ok (.invokevirtual 31, 3) := by decide +kernel
theorem dX0_addText_19 : decode cX0_addText 19 = .ok (.iinc 2 1, 3) := by decide +kernel
theorem dX0_addText_22 : decode cX0_addText 22 = .ok (.goto (-20), 3) := by decide +kernel
theorem dX0_addText_25 : decode cX0_addText 25 = .ok (.return_, 1) := by decide +kernel
theorem dX0_addVarint_0 : decode cX0_addVarint 0 = .ok (.lload_n 1, 1) := by decide +kernel
theorem dX0_addVarint_1 : decode cX0_addVarint 1 = .ok (.lstore_n 3, 1) := by decide +kernel
theorem dX0_addVarint_2 : decode cX0_addVarint 2 = .ok (.iconst 0, 1) := by decide +kernel
theorem dX0_addVarint_3 : decode cX0_addVarint 3 = .ok (.istore 5, 2) := by decide +kernel
theorem dX0_addVarint_5 : decode cX0_addVarint 5 = .ok (.iload 5, 2) := by decide +kernel
theorem dX0_addVarint_7 : decode cX0_addVarint 7 = .ok (.bipush 9, 2) := by decide +kernel
theorem dX0_addVarint_9 : decode cX0_addVarint 9 = .ok (.if_icmp .ge 37, 3) := by decide +kernel
theorem dX0_addVarint_12 : decode cX0_addVarint 12 = .ok (.lload_n 3, 1) := by decide +kernel
theorem dX0_addVarint_13 : decode cX0_addVarint 13 = .ok (.bipush 7, 2) := by decide +kernel
theorem dX0_addVarint_15 : decode cX0_addVarint 15 = .ok (.lushr, 1) := by decide +kernel
theorem dX0_addVarint_16 : decode cX0_addVarint 16 = .ok (.lconst 0, 1) := by decide +kernel
theorem dX0_addVarint_17 : decode cX0_addVarint 17 = .ok (.lcmp, 1) := by decide +kernel
theorem dX0_addVarint_18 : decode cX0_addVarint 18 = .ok (.ifCond .eq 28, 3) := by decide +kernel
theorem dX0_addVarint_21 : decode cX0_addVarint 21 = .ok (.aload_n 0, 1) := by decide +kernel
theorem dX0_addVarint_22 : decode cX0_addVarint 22 = .ok (.lload_n 3, 1) := by decide +kernel
theorem dX0_addVarint_23 : decode cX0_addVarint 23 = .ok (.ldc2_w 45, 3) := by decide +kernel
theorem dX0_addVarint_26 : decode cX0_addVarint 26 = .ok (.land, 1) := by decide +kernel
theorem dX0_addVarint_27 : decode cX0_addVarint 27 = .ok (.l2i, 1) := by decide +kernel
theorem dX0_addVarint_28 : decode cX0_addVarint 28 = .ok (.sipush 128, 3) := by decide +kernel
theorem dX0_addVarint_31 : decode cX0_addVarint 31 = .ok (.ior, 1) := by decide +kernel
theorem dX0_addVarint_32 : decode cX0_addVarint 32 = .ok (.invokevirtual 31, 3) := by decide +kernel
theorem dX0_addVarint_35 : decode cX0_addVarint 35 = .ok (.lload_n 3, 1) := by decide +kernel
theorem dX0_addVarint_36 : decode cX0_addVarint 36 = .ok (.bipush 7, 2) := by decide +kernel
theorem dX0_addVarint_38 : decode cX0_addVarint 38 = .ok (.lushr, 1) := by decide +kernel
theorem dX0_addVarint_39 : decode cX0_addVarint 39 = .ok (.lstore_n 3, 1) := by decide +kernel
theorem dX0_addVarint_40 : decode cX0_addVarint 40 = .ok (.iinc 5 1, 3) := by decide +kernel
theorem dX0_addVarint_43 : decode cX0_addVarint 43 = .ok (.goto (-38), 3) := by decide +kernel
theorem dX0_addVarint_46 : decode cX0_addVarint 46 = .ok (.aload_n 0, 1) := by decide +kernel
theorem dX0_addVarint_47 : decode cX0_addVarint 47 = .ok (.lload_n 3, 1) := by decide +kernel
theorem dX0_addVarint_48 : decode cX0_addVarint 48 = .ok (.l2i, 1) := by decide +kernel
theorem dX0_addVarint_49 : decode cX0_addVarint 49 = .ok (.invokevirtual 31, 3) := by decide +kernel
theorem dX0_addVarint_52 : decode cX0_addVarint 52 = .ok (.return_, 1) := by decide +kernel
theorem dX0_clear_0 : decode cX0_clear 0 = .ok (.aload_n 0, 1) := by decide +kernel
theorem dX0_clear_1 : decode cX0_clear 1 = .ok (.iconst 0, 1) := by decide +kernel
theorem dX0_clear_2 : decode cX0_clear 2 = .ok (.putfield 19, 3) := by decide +kernel
theorem dX0_clear_5 : decode cX0_clear 5 = .ok (.aload_n 0, 1) := by decide +kernel
theorem dX0_clear_6 : decode cX0_clear 6 = .ok (.iconst 0, 1) := by decide +kernel
theorem dX0_clear_7 : decode cX0_clear 7 = .ok (.putfield 23, 3) := by decide +kernel
theorem dX0_clear_10 : decode cX0_clear 10 = .ok (.return_, 1) := by decide +kernel
theorem dX0_insertLength_0 : decode cX0_insertLength 0 = .ok (.aload_n 0, 1) := by decide +kernel
theorem dX0_insertLength_1 : decode cX0_insertLength 1 = .ok (.getfield 19, 3) := by decide +kernel
theorem dX0_insertLength_4 : decode cX0_insertLength 4 = .ok (.iload_n 1, 1) := by decide +kernel
theorem dX0_insertLength_5 : decode cX0_insertLength 5 = .ok (.isub, 1) := by decide +kernel
theorem dX0_insertLength_6 : decode cX0_insertLength 6 = .ok (.istore_n 2, 1) := by decide +kernel
theorem dX0_insertLength_7 : decode cX0_insertLength 7 = .ok (.iload_n 2, 1) := by decide +kernel
theorem dX0_insertLength_8 : decode cX0_insertLength 8 = .ok (.sipush 128, 3) := by decide +kernel
theorem dX0_insertLength_11 : decode cX0_insertLength 11 = .ok (.if_icmp .ge 7, 3) := by decide +kernel
theorem dX0_insertLength_14 : decode cX0_insertLength 14 = .ok (.iconst 1, 1) := by decide +kernel
theorem dX0_insertLength_15 : decode cX0_insertLength 15 = .ok (.goto 4, 3) := by decide +kernel
theorem dX0_insertLength_18 : decode cX0_insertLength 18 = .ok (.iconst 2, 1) := by decide +kernel
theorem dX0_insertLength_19 : decode cX0_insertLength 19 = .ok (.istore_n 3, 1) := by decide +kernel
theorem dX0_insertLength_20 : decode cX0_insertLength 20 = .ok (.iload_n 1, 1) := by decide +kernel
theorem dX0_insertLength_21 : decode cX0_insertLength 21 = .ok (.ifCond .lt 28, 3) := by decide +kernel
theorem dX0_insertLength_24 : decode cX0_insertLength 24 = .ok (.iload_n 2, 1) := by decide +kernel
theorem dX0_insertLength_25 : decode cX0_insertLength 25 = .ok (.ifCond .lt 24, 3) := by decide +kernel
theorem dX0_insertLength_28 : decode cX0_insertLength 28 = .ok (.iload_n 2, 1) := by decide +kernel
theorem dX0_insertLength_29 : decode cX0_insertLength 29 = .ok (.sipush 16384, 3) := by decide +kernel
theorem dX0_insertLength_32 : decode cX0_insertLength 32 = .ok (.if_icmp .ge 17, 3) := by decide +kernel
theorem dX0_insertLength_35 : decode cX0_insertLength 35 = .ok (.aload_n 0, 1) := by decide +kernel
theorem dX0_insertLength_36 : decode cX0_insertLength 36 = .ok (.getfield 19, 3) := by decide +kernel
theorem dX0_insertLength_39 : decode cX0_insertLength 39 = .ok (.iload_n 3, 1) := by decide +kernel
theorem dX0_insertLength_40 : decode cX0_insertLength 40 = .ok (.iadd, 1) := by decide +kernel
theorem dX0_insertLength_41 : decode cX0_insertLength 41 = .ok (.aload_n 0, 1) := by decide +kernel
theorem dX0_insertLength_42 : decode cX0_insertLength 42 = .ok (.getfield 13, 3) := by decide +kernel
theorem dX0_insertLength_45 : decode cX0_insertLength 45 = .ok (.arraylength, 1) := by decide +kernel
theorem dX0_insertLength_46 : decode cX0_insertLength 46 = .ok (.if_icmp .le 9, 3) := by decide +kernel
theorem dX0_insertLength_49 : decode cX0_insertLength 49 = .ok (.aload_n 0, 1) := by decide +kernel
theorem dX0_insertLength_50 : decode cX0_insertLength 50 = .ok (.iconst 1, 1) := by decide +kernel
theorem dX0_insertLength_51 : decode cX0_insertLength 51 = .ok (.putfield 23, 3) := by decide +kernel
theorem dX0_insertLength_54 : decode cX0_insertLength 54 = .ok (.return_, 1) := by decide +kernel
theorem dX0_insertLength_55 : decode cX0_insertLength 55 = .ok (.aload_n 0, 1) := by decide +kernel
theorem dX0_insertLength_56 : decode cX0_insertLength 56 = .ok (.getfield 13, 3) := by decide +kernel
theorem dX0_insertLength_59 : decode cX0_insertLength 59 = .ok (.iload_n 1, 1) := by decide +kernel
theorem dX0_insertLength_60 : decode cX0_insertLength 60 = .ok (.aload_n 0, 1) := by decide +kernel
theorem dX0_insertLength_61 : decode cX0_insertLength 61 = .ok (.getfield 13, 3) := by decide +kernel
theorem dX0_insertLength_64 : decode cX0_insertLength 64 = .ok (.iload_n 1, 1) := by decide +kernel
theorem dX0_insertLength_65 : decode cX0_insertLength 65 = .ok (.iload_n 3, 1) := by decide +kernel
theorem dX0_insertLength_66 : decode cX0_insertLength 66 = .ok (.iadd, 1) := by decide +kernel
theorem dX0_insertLength_67 : decode cX0_insertLength 67 = .ok (.iload_n 2, 1) := by decide +kernel
theorem dX0_insertLength_68 : decode cX0_insertLength 68 = .ok (.invokestatic 47, 3) := by decide +kernel
theorem dX0_insertLength_71 : decode cX0_insertLength 71 = .ok (.aload_n 0, 1) := by decide +kernel
theorem dX0_insertLength_72 : decode cX0_insertLength 72 = .ok (.iload_n 1, 1) := by decide +kernel
theorem dX0_insertLength_73 : decode cX0_insertLength 73 = .ok (.putfield 19, 3) := by decide +kernel
theorem dX0_insertLength_76 : decode cX0_insertLength 76 = .ok (.aload_n 0, 1) := by decide +kernel
theorem dX0_insertLength_77 : decode cX0_insertLength 77 = .ok (.iload_n 2, 1) := by decide +kernel
theorem dX0_insertLength_78 : decode cX0_insertLength 78 = .ok (.i2l, 1) := by decide +kernel
theorem dX0_insertLength_79 : decode cX0_insertLength 79 = .ok (.invokevirtual 53, 3) := by decide +kernel
theorem dX0_insertLength_82 : decode cX0_insertLength 82 = .ok (.aload_n 0, 1) := by decide +kernel
theorem dX0_insertLength_83 : decode cX0_insertLength 83 = .ok (.iload_n 1, 1) := by decide +kernel
theorem dX0_insertLength_84 : decode cX0_insertLength 84 = .ok (.iload_n 3, 1) := by decide +kernel
theorem dX0_insertLength_85 : decode cX0_insertLength 85 = .ok (.iadd, 1) := by decide +kernel
theorem dX0_insertLength_86 : decode cX0_insertLength 86 = .ok (.iload_n 2, 1) := by decide +kernel
theorem dX0_insertLength_87 : decode cX0_insertLength 87 = .ok (.iadd, 1) := by decide +kernel
theorem dX0_insertLength_88 : decode cX0_insertLength 88 = .ok (.putfield 19, 3) := by decide +kernel
theorem dX0_insertLength_91 : decode cX0_insertLength 91 = .ok (.return_, 1) := by decide +kernel
theorem dX0_isSame_0 : decode cX0_isSame 0 = .ok (.iload_n 1, 1) := by decide +kernel
theorem dX0_isSame_1 : decode cX0_isSame 1 = .ok (.ifCond .lt 26, 3) := by decide +kernel
theorem dX0_isSame_4 : decode cX0_isSame 4 = .ok (.iload_n 3, 1) := by decide +kernel
theorem dX0_isSame_5 : decode cX0_isSame 5 = .ok (.ifCond .lt 22, 3) := by decide +kernel
theorem dX0_isSame_8 : decode cX0_isSame 8 = .ok (.iload 4, 2) := by decide +kernel
theorem dX0_isSame_10 : decode cX0_isSame 10 = .ok (.aload_n 2, 1) := by decide +kernel
theorem dX0_isSame_11 : decode cX0_isSame 11 = .ok (.getfield 19, 3) := by decide +kernel
theorem dX0_isSame_14 : decode cX0_isSame 14 = .ok (.if_icmp .gt 13, 3) := by decide +kernel
theorem dX0_isSame_17 : decode cX0_isSame 17 = .ok (.iload 4, 2) := by decide +kernel
theorem dX0_isSame_19 : decode cX0_isSame 19 = .ok (.aload_n 2, 1) := by decide +kernel
theorem dX0_isSame_20 : decode cX0_isSame 20 = .ok (.getfield 13, 3) := by decide +kernel
theorem dX0_isSame_23 : decode cX0_isSame 23 = .ok (.arraylength, 1) := by decide +kernel
theorem dX0_isSame_24 : decode cX0_isSame 24 = .ok (.if_icmp .le 5, 3) := by decide +kernel
theorem dX0_isSame_27 : decode cX0_isSame 27 = .ok (.iconst 0, 1) := by decide +kernel
theorem dX0_isSame_28 : decode cX0_isSame 28 = .ok (.ireturn, 1) := by decide +kernel
theorem dX0_isSame_29 : decode cX0_isSame 29 = .ok (.iload_n 3, 1) := by decide +kernel
theorem dX0_isSame_30 : decode cX0_isSame 30 = .ok (.istore 5, 2) := by decide +kernel
theorem dX0_isSame_32 : decode cX0_isSame 32 = .ok (.iload 5, 2) := by decide +kernel
theorem dX0_isSame_34 : decode cX0_isSame 34 = .ok (.iload 4, 2) := by decide +kernel
theorem dX0_isSame_36 : decode cX0_isSame 36 = .ok (.if_icmp .ge 55, 3) := by decide +kernel
theorem dX0_isSame_39 : decode cX0_isSame 39 = .ok (.iload_n 1, 1) := by decide +kernel
theorem dX0_isSame_40 : decode cX0_isSame 40 = .ok (.iload 5, 2) := by decide +kernel
theorem dX0_isSame_42 : decode cX0_isSame 42 = .ok (.iadd, 1) := by decide +kernel
theorem dX0_isSame_43 : decode cX0_isSame 43 = .ok (.iload_n 3, 1) := by decide +kernel
theorem dX0_isSame_44 : decode cX0_isSame 44 = .ok (.isub, 1) := by decide +kernel
theorem dX0_isSame_45 : decode cX0_isSame 45 = .ok (.istore 6, 2) := by decide +kernel
theorem dX0_isSame_47 : decode cX0_isSame 47 = .ok (.iload 6, 2) := by decide +kernel
theorem dX0_isSame_49 : decode cX0_isSame 49 = .ok (.aload_n 0, 1) := by decide +kernel
theorem dX0_isSame_50 : decode cX0_isSame 50 = .ok (.getfield 19, 3) := by decide +kernel
theorem dX0_isSame_53 : decode cX0_isSame 53 = .ok (.if_icmp .ge 30, 3) := by decide +kernel
theorem dX0_isSame_56 : decode cX0_isSame 56 = .ok (.iload 6, 2) := by decide +kernel
theorem dX0_isSame_58 : decode cX0_isSame 58 = .ok (.aload_n 0, 1) := by decide +kernel
theorem dX0_isSame_59 : decode cX0_isSame 59 = .ok (.getfield 13, 3) := by decide +kernel
theorem dX0_isSame_62 : decode cX0_isSame 62 = .ok (.arraylength, 1) := by decide +kernel
theorem dX0_isSame_63 : decode cX0_isSame 63 = .ok (.if_icmp .ge 20, 3) := by decide +kernel
theorem dX0_isSame_66 : decode cX0_isSame 66 = .ok (.aload_n 0, 1) := by decide +kernel
theorem dX0_isSame_67 : decode cX0_isSame 67 = .ok (.getfield 13, 3) := by decide +kernel
theorem dX0_isSame_70 : decode cX0_isSame 70 = .ok (.iload 6, 2) := by decide +kernel
theorem dX0_isSame_72 : decode cX0_isSame 72 = .ok (.baload, 1) := by decide +kernel
theorem dX0_isSame_73 : decode cX0_isSame 73 = .ok (.aload_n 2, 1) := by decide +kernel
theorem dX0_isSame_74 : decode cX0_isSame 74 = .ok (.getfield 13, 3) := by decide +kernel
theorem dX0_isSame_77 : decode cX0_isSame 77 = .ok (.iload 5, 2) := by decide +kernel
theorem dX0_isSame_79 : decode cX0_isSame 79 = .ok (.baload, 1) := by decide +kernel
theorem dX0_isSame_80 : decode cX0_isSame 80 = .ok (.if_icmp .eq 5, 3) := by decide +kernel
theorem dX0_isSame_83 : decode cX0_isSame 83 = .ok (.iconst 0, 1) := by decide +kernel
theorem dX0_isSame_84 : decode cX0_isSame 84 = .ok (.ireturn, 1) := by decide +kernel
theorem dX0_isSame_85 : decode cX0_isSame 85 = .ok (.iinc 5 1, 3) := by decide +kernel
theorem dX0_isSame_88 : decode cX0_isSame 88 = .ok (.goto (-56), 3) := by decide +kernel
theorem dX0_isSame_91 : decode cX0_isSame 91 = .ok (.iconst 1, 1) := by decide +kernel
theorem dX0_isSame_92 : decode cX0_isSame 92 = .ok (.ireturn, 1) := by decide +kernel
theorem dX0_isSpilt_0 : decode cX0_isSpilt 0 = .ok (.aload_n 0, 1) := by decide +kernel
theorem dX0_isSpilt_1 : decode cX0_isSpilt 1 = .ok (.getfield 23, 3) := by decide +kernel
theorem dX0_isSpilt_4 : decode cX0_isSpilt 4 = .ok (.ireturn, 1) := by decide +kernel
theorem dX0_isUtf8_0 : decode cX0_isUtf8 0 = .ok (.iload_n 1, 1) := by decide +kernel
theorem dX0_isUtf8_1 : decode cX0_isUtf8 1 = .ok (.istore_n 3, 1) := by decide +kernel
theorem dX0_isUtf8_2 : decode cX0_isUtf8 2 = .ok (.iload_n 3, 1) := by decide +kernel
theorem dX0_isUtf8_3 : decode cX0_isUtf8 3 = .ok (.iload_n 2, 1) := by decide +kernel
theorem dX0_isUtf8_4 : decode cX0_isUtf8 4 = .ok (.if_icmp .ge 241, 3) := by decide +kernel
theorem dX0_isUtf8_7 : decode cX0_isUtf8 7 = .ok (.aload_n 0, 1) := by decide +kernel
theorem dX0_isUtf8_8 : decode cX0_isUtf8 8 = .ok (.iload_n 3, 1) := by decide +kernel
theorem dX0_isUtf8_9 : decode cX0_isUtf8 9 = .ok (.invokevirtual 27, 3) := by decide +kernel
theorem dX0_isUtf8_12 : decode cX0_isUtf8 12 = .ok (.istore 4, 2) := by decide +kernel
theorem dX0_isUtf8_14 : decode cX0_isUtf8 14 = .ok (.iload 4, 2) := by decide +kernel
theorem dX0_isUtf8_16 : decode cX0_isUtf8 16 = .ok (.ifCond .lt 14, 3) := by decide +kernel
theorem dX0_isUtf8_19 : decode cX0_isUtf8 19 = .ok (.iload 4, 2) := by decide +kernel
theorem dX0_isUtf8_21 : decode cX0_isUtf8 21 = .ok (.sipush 128, 3) := by decide +kernel
theorem dX0_isUtf8_24 : decode cX0_isUtf8 24 = .ok (.if_icmp .ge 6, 3) := by decide +kernel
theorem dX0_isUtf8_27 : decode cX0_isUtf8 27 = .ok (.goto 212, 3) := by decide +kernel
theorem dX0_isUtf8_30 : decode cX0_isUtf8 30 = .ok (.iload 4, 2) := by decide +kernel
theorem dX0_isUtf8_32 : decode cX0_isUtf8 32 = .ok (.sipush 194, 3) := by decide +kernel
theorem dX0_isUtf8_35 : decode cX0_isUtf8 35 = .ok (.if_icmp .lt 15, 3) := by decide +kernel
theorem dX0_isUtf8_38 : decode cX0_isUtf8 38 = .ok (.iload 4, 2) := by decide +kernel
theorem dX0_isUtf8_40 : decode cX0_isUtf8 40 = .ok (.sipush 223, 3) := by decide +kernel
theorem dX0_isUtf8_43 : decode cX0_isUtf8 43 = .ok (.if_icmp .gt 7, 3) := by decide +kernel
theorem dX0_isUtf8_46 : decode cX0_isUtf8 46 = .ok (.iconst 1, 1) := by decide +kernel
theorem dX0_isUtf8_47 : decode cX0_isUtf8 47 = .ok (.goto 44, 3) := by decide +kernel
theorem dX0_isUtf8_50 : decode cX0_isUtf8 50 = .ok (.iload 4, 2) := by decide +kernel
theorem dX0_isUtf8_52 : decode cX0_isUtf8 52 = .ok (.sipush 224, 3) := by decide +kernel
theorem dX0_isUtf8_55 : decode cX0_isUtf8 55 = .ok (.if_icmp .lt 15, 3) := by decide +kernel
theorem dX0_isUtf8_58 : decode cX0_isUtf8 58 = .ok (.iload 4, 2) := by decide +kernel
theorem dX0_isUtf8_60 : decode cX0_isUtf8 60 = .ok (.sipush 239, 3) := by decide +kernel
theorem dX0_isUtf8_63 : decode cX0_isUtf8 63 = .ok (.if_icmp .gt 7, 3) := by decide +kernel
theorem dX0_isUtf8_66 : decode cX0_isUtf8 66 = .ok (.iconst 2, 1) := by decide +kernel
theorem dX0_isUtf8_67 : decode cX0_isUtf8 67 = .ok (.goto 24, 3) := by decide +kernel
theorem dX0_isUtf8_70 : decode cX0_isUtf8 70 = .ok (.iload 4, 2) := by decide +kernel
theorem dX0_isUtf8_72 : decode cX0_isUtf8 72 = .ok (.sipush 240, 3) := by decide +kernel
theorem dX0_isUtf8_75 : decode cX0_isUtf8 75 = .ok (.if_icmp .lt 15, 3) := by decide +kernel
theorem dX0_isUtf8_78 : decode cX0_isUtf8 78 = .ok (.iload 4, 2) := by decide +kernel
theorem dX0_isUtf8_80 : decode cX0_isUtf8 80 = .ok (.sipush 244, 3) := by decide +kernel
theorem dX0_isUtf8_83 : decode cX0_isUtf8 83 = .ok (.if_icmp .gt 7, 3) := by decide +kernel
theorem dX0_isUtf8_86 : decode cX0_isUtf8 86 = .ok (.iconst 3, 1) := by decide +kernel
theorem dX0_isUtf8_87 : decode cX0_isUtf8 87 = .ok (.goto 4, 3) := by decide +kernel
theorem dX0_isUtf8_90 : decode cX0_isUtf8 90 = .ok (.iconst 0, 1) := by decide +kernel
theorem dX0_isUtf8_91 : decode cX0_isUtf8 91 = .ok (.istore 5, 2) := by decide +kernel
theorem dX0_isUtf8_93 : decode cX0_isUtf8 93 = .ok (.iload 4, 2) := by decide +kernel
theorem dX0_isUtf8_95 : decode cX0_isUtf8 95 = .ok (.sipush 224, 3) := by decide +kernel
theorem dX0_isUtf8_98 : decode cX0_isUtf8 98 = .ok (.if_icmp .ne 9, 3) := by decide +kernel
theorem dX0_isUtf8_101 : decode cX0_isUtf8 101 = .ok (.sipush 160, 3) := by decide +kernel
theorem dX0_isUtf8_104 : decode cX0_isUtf8 104 = .ok (.goto 20, 3) := by decide +kernel
theorem dX0_isUtf8_107 : decode cX0_isUtf8 107 = .ok (.iload 4, 2) := by decide +kernel
theorem dX0_isUtf8_109 : decode cX0_isUtf8 109 = .ok (.sipush 240, 3) := by decide +kernel
theorem dX0_isUtf8_112 : decode cX0_isUtf8 112 = .ok (.if_icmp .ne 9, 3) := by decide +kernel
theorem dX0_isUtf8_115 : decode cX0_isUtf8 115 = .ok (.sipush 144, 3) := by decide +kernel
theorem dX0_isUtf8_118 : decode cX0_isUtf8 118 = .ok (.goto 6, 3) := by decide +kernel
theorem dX0_isUtf8_121 : decode cX0_isUtf8 121 = .ok (.sipush 128, 3) := by decide +kernel
theorem dX0_isUtf8_124 : decode cX0_isUtf8 124 = .ok (.istore 6, 2) := by decide +kernel
theorem dX0_isUtf8_126 : decode cX0_isUtf8 126 = .ok (.iload 4, 2) := by decide +kernel
theorem dX0_isUtf8_128 : decode cX0_isUtf8 128 = .ok (.sipush 237, 3) := by decide +kernel
theorem dX0_isUtf8_131 : decode cX0_isUtf8 131 = .ok (.if_icmp .ne 9, 3) := by decide +kernel
theorem dX0_isUtf8_134 : decode cX0_isUtf8 134 = .ok (.sipush 159, 3) := by decide +kernel
theorem dX0_isUtf8_137 : decode cX0_isUtf8 137 = .ok (.goto 20, 3) := by decide +kernel
theorem dX0_isUtf8_140 : decode cX0_isUtf8 140 = .ok (.iload 4, 2) := by decide +kernel
theorem dX0_isUtf8_142 : decode cX0_isUtf8 142 = .ok (.sipush 244, 3) := by decide +kernel
theorem dX0_isUtf8_145 : decode cX0_isUtf8 145 = .ok (.if_icmp .ne 9, 3) := by decide +kernel
theorem dX0_isUtf8_148 : decode cX0_isUtf8 148 = .ok (.sipush 143, 3) := by decide +kernel
theorem dX0_isUtf8_151 : decode cX0_isUtf8 151 = .ok (.goto 6, 3) := by decide +kernel
theorem dX0_isUtf8_154 : decode cX0_isUtf8 154 = .ok (.sipush 191, 3) := by decide +kernel
theorem dX0_isUtf8_157 : decode cX0_isUtf8 157 = .ok (.istore 7, 2) := by decide +kernel
theorem dX0_isUtf8_159 : decode cX0_isUtf8 159 = .ok (.iload 5, 2) := by decide +kernel
theorem dX0_isUtf8_161 : decode cX0_isUtf8 161 = .ok (.ifCond .eq 35, 3) := by decide +kernel
theorem dX0_isUtf8_164 : decode cX0_isUtf8 164 = .ok (.iload_n 3, 1) := by decide +kernel
theorem dX0_isUtf8_165 : decode cX0_isUtf8 165 = .ok (.iload 5, 2) := by decide +kernel
theorem dX0_isUtf8_167 : decode cX0_isUtf8 167 = .ok (.iadd, 1) := by decide +kernel
theorem dX0_isUtf8_168 : decode cX0_isUtf8 168 = .ok (.iload_n 2, 1) := by decide +kernel
theorem dX0_isUtf8_169 : decode cX0_isUtf8 169 = .ok (.if_icmp .ge 27, 3) := by decide +kernel
theorem dX0_isUtf8_172 : decode cX0_isUtf8 172 = .ok (.aload_n 0, 1) := by decide +kernel
theorem dX0_isUtf8_173 : decode cX0_isUtf8 173 = .ok (.iload_n 3, 1) := by decide +kernel
theorem dX0_isUtf8_174 : decode cX0_isUtf8 174 = .ok (.iconst 1, 1) := by decide +kernel
theorem dX0_isUtf8_175 : decode cX0_isUtf8 175 = .ok (.iadd, 1) := by decide +kernel
theorem dX0_isUtf8_176 : decode cX0_isUtf8 176 = .ok (.invokevirtual 27, 3) := by decide +kernel
theorem dX0_isUtf8_179 : decode cX0_isUtf8 179 = .ok (.iload 6, 2) := by decide +kernel
theorem dX0_isUtf8_181 : decode cX0_isUtf8 181 = .ok (.if_icmp .lt 15, 3) := by decide +kernel
theorem dX0_isUtf8_184 : decode cX0_isUtf8 184 = .ok (.aload_n 0, 1) := by decide +kernel
theorem dX0_isUtf8_185 : decode cX0_isUtf8 185 = .ok (.iload_n 3, 1) := by decide +kernel
theorem dX0_isUtf8_186 : decode cX0_isUtf8 186 = .ok (.iconst 1, 1) := by decide +kernel
theorem dX0_isUtf8_187 : decode cX0_isUtf8 187 = .ok (.iadd, 1) := by decide +kernel
theorem dX0_isUtf8_188 : decode cX0_isUtf8 188 = .ok (.invokevirtual 27, 3) := by decide +kernel
theorem dX0_isUtf8_191 : decode cX0_isUtf8 191 = .ok (.iload 7, 2) := by decide +kernel
theorem dX0_isUtf8_193 : decode cX0_isUtf8 193 = .ok (.if_icmp .le 5, 3) := by decide +kernel
theorem dX0_isUtf8_196 : decode cX0_isUtf8 196 = .ok (.iconst 0, 1) := by decide +kernel
theorem dX0_isUtf8_197 : decode cX0_isUtf8 197 = .ok (.ireturn, 1) := by decide +kernel
theorem dX0_isUtf8_198 : decode cX0_isUtf8 198 = .ok (.iconst 2, 1) := by decide +kernel
theorem dX0_isUtf8_199 : decode cX0_isUtf8 199 = .ok (.istore 8, 2) := by decide +kernel
theorem dX0_isUtf8_201 : decode cX0_isUtf8 201 = .ok (.iload 8, 2) := by decide +kernel
theorem dX0_isUtf8_203 : decode cX0_isUtf8 203 = .ok (.iload 5, 2) := by decide +kernel
theorem dX0_isUtf8_205 : decode cX0_isUtf8 205 = .ok (.if_icmp .gt 29, 3) := by decide +kernel
theorem dX0_isUtf8_208 : decode cX0_isUtf8 208 = .ok (.aload_n 0, 1) := by decide +kernel
theorem dX0_isUtf8_209 : decode cX0_isUtf8 209 = .ok (.iload_n 3, 1) := by decide +kernel
theorem dX0_isUtf8_210 : decode cX0_isUtf8 210 = .ok (.iload 8, 2) := by decide +kernel
theorem dX0_isUtf8_212 : decode cX0_isUtf8 212 = .ok (.iadd, 1) := by decide +kernel
theorem dX0_isUtf8_213 : decode cX0_isUtf8 213 = .ok (.invokevirtual 27, 3) := by decide +kernel
theorem dX0_isUtf8_216 : decode cX0_isUtf8 216 = .ok (.sipush 192, 3) := by decide +kernel
theorem dX0_isUtf8_219 : decode cX0_isUtf8 219 = .ok (.iand, 1) := by decide +kernel
theorem dX0_isUtf8_220 : decode cX0_isUtf8 220 = .ok (.sipush 128, 3) := by decide +kernel
theorem dX0_isUtf8_223 : decode cX0_isUtf8 223 = .ok (.if_icmp .eq 5, 3) := by decide +kernel
theorem dX0_isUtf8_226 : decode cX0_isUtf8 226 = .ok (.iconst 0, 1) := by decide +kernel
theorem dX0_isUtf8_227 : decode cX0_isUtf8 227 = .ok (.ireturn, 1) := by decide +kernel
theorem dX0_isUtf8_228 : decode cX0_isUtf8 228 = .ok (.iinc 8 1, 3) := by decide +kernel
theorem dX0_isUtf8_231 : decode cX0_isUtf8 231 = .ok (.goto (-30), 3) := by decide +kernel
theorem dX0_isUtf8_234 : decode cX0_isUtf8 234 = .ok (.iload_n 3, 1) := by decide +kernel
theorem dX0_isUtf8_235 : decode cX0_isUtf8 235 = .ok (.iload 5, 2) := by decide +kernel
theorem dX0_isUtf8_237 : decode cX0_isUtf8 237 = .ok (.iadd, 1) := by decide +kernel
theorem dX0_isUtf8_238 : decode cX0_isUtf8 238 = .ok (.istore_n 3, 1) := by decide +kernel
theorem dX0_isUtf8_239 : decode cX0_isUtf8 239 = .ok (.iinc 3 1, 3) := by decide +kernel
theorem dX0_isUtf8_242 : decode cX0_isUtf8 242 = .ok (.goto (-240), 3) := by decide +kernel
theorem dX0_isUtf8_245 : decode cX0_isUtf8 245 = .ok (.iconst 1, 1) := by decide +kernel
theorem dX0_isUtf8_246 : decode cX0_isUtf8 246 = .ok (.ireturn, 1) := by decide +kernel
theorem dX0_size_0 : decode cX0_size 0 = .ok (.aload_n 0, 1) := by decide +kernel
theorem dX0_size_1 : decode cX0_size 1 = .ok (.getfield 19, 3) := by decide +kernel
theorem dX0_size_4 : decode cX0_size 4 = .ok (.ireturn, 1) := by decide +kernel
theorem dX0_wordIn_0 : decode cX0_wordIn 0 = .ok (.iconst 0, 1) := by decide +kernel
theorem dX0_wordIn_1 : decode cX0_wordIn 1 = .ok (.istore 4, 2) := by decide +kernel
theorem dX0_wordIn_3 : decode cX0_wordIn 3 = .ok (.iload_n 2, 1) := by decide +kernel
theorem dX0_wordIn_4 : decode cX0_wordIn 4 = .ok (.istore 5, 2) := by decide +kernel
theorem dX0_wordIn_6 : decode cX0_wordIn 6 = .ok (.iconst 1, 1) := by decide +kernel
theorem dX0_wordIn_7 : decode cX0_wordIn 7 = .ok (.istore 6, 2) := by decide +kernel
theorem dX0_wordIn_9 : decode cX0_wordIn 9 = .ok (.iconst 0, 1) := by decide +kernel
theorem dX0_wordIn_10 : decode cX0_wordIn 10 = .ok (.istore 7, 2) := by decide +kernel
theorem dX0_wordIn_12 : decode cX0_wordIn 12 = .ok (.iload 7, 2) := by decide +kernel
theorem dX0_wordIn_14 : decode cX0_wordIn 14 = .ok (.aload_n 1, 1) := by decide +kernel
theorem dX0_wordIn_15 : decode cX0_wordIn 15 = .ok (.invokevirtual 35, 3) := by decide +kernel
theorem dX0_wordIn_18 : decode cX0_wordIn 18 = .ok (.if_icmp .gt 96, 3) := by decide +kernel
theorem dX0_wordIn_21 : decode cX0_wordIn 21 = .ok (.iload 7, 2) := by decide +kernel
theorem dX0_wordIn_23 : decode cX0_wordIn 23 = .ok (.aload_n 1, 1) := by decide +kernel
theorem dX0_wordIn_24 : decode cX0_wordIn 24 = .ok (.invokevirtual 35, 3) := by decide +kernel
theorem dX0_wordIn_27 : decode cX0_wordIn 27 = .ok (.if_icmp .ge 12, 3) := by decide +kernel
theorem dX0_wordIn_30 : decode cX0_wordIn 30 = .ok (.aload_n 1, 1) := by decide +kernel
theorem dX0_wordIn_31 : decode cX0_wordIn 31 = .ok (.iload 7, 2) := by decide +kernel
theorem dX0_wordIn_33 : decode cX0_wordIn 33 = .ok (.invokevirtual 41, 3) := by decide +kernel
theorem dX0_wordIn_36 : decode cX0_wordIn 36 = .ok (.goto 5, 3) := by decide +kernel
theorem dX0_wordIn_39 : decode cX0_wordIn 39 = .ok (.bipush 32, 2) := by decide +kernel
theorem dX0_wordIn_41 : decode cX0_wordIn 41 = .ok (.istore 8, 2) := by decide +kernel
theorem dX0_wordIn_43 : decode cX0_wordIn 43 = .ok (.iload 8, 2) := by decide +kernel
theorem dX0_wordIn_45 : decode cX0_wordIn 45 = .ok (.bipush 32, 2) := by decide +kernel
theorem dX0_wordIn_47 : decode cX0_wordIn 47 = .ok (.if_icmp .eq 38, 3) := by decide +kernel
theorem dX0_wordIn_50 : decode cX0_wordIn 50 = .ok (.iload 6, 2) := by decide +kernel
theorem dX0_wordIn_52 : decode cX0_wordIn 52 = .ok (.ifCond .eq 24, 3) := by decide +kernel
theorem dX0_wordIn_55 : decode cX0_wordIn 55 = .ok (.iload 5, 2) := by decide +kernel
theorem dX0_wordIn_57 : decode cX0_wordIn 57 = .ok (.iload_n 3, 1) := by decide +kernel
theorem dX0_wordIn_58 : decode cX0_wordIn 58 = .ok (.if_icmp .ge 18, 3) := by decide +kernel
theorem dX0_wordIn_61 : decode cX0_wordIn 61 = .ok (.aload_n 0, 1) := by decide +kernel
theorem dX0_wordIn_62 : decode cX0_wordIn 62 = .ok (.iload 5, 2) := by decide +kernel
theorem dX0_wordIn_64 : decode cX0_wordIn 64 = .ok (.invokevirtual 27, 3) := by decide +kernel
theorem dX0_wordIn_67 : decode cX0_wordIn 67 = .ok (.iload 8, 2) := by decide +kernel
theorem dX0_wordIn_69 : decode cX0_wordIn 69 = .ok (.if_icmp .ne 7, 3) := by decide +kernel
theorem dX0_wordIn_72 : decode cX0_wordIn 72 = .ok (.iconst 1, 1) := by decide +kernel
theorem dX0_wordIn_73 : decode cX0_wordIn 73 = .ok (.goto 4, 3) := by decide +kernel
theorem dX0_wordIn_76 : decode cX0_wordIn 76 = .ok (.iconst 0, 1) := by decide +kernel
theorem dX0_wordIn_77 : decode cX0_wordIn 77 = .ok (.istore 6, 2) := by decide +kernel
theorem dX0_wordIn_79 : decode cX0_wordIn 79 = .ok (.iinc 5 1, 3) := by decide +kernel
theorem dX0_wordIn_82 : decode cX0_wordIn 82 = .ok (.goto 26, 3) := by decide +kernel
theorem dX0_wordIn_85 : decode cX0_wordIn 85 = .ok (.iload 6, 2) := by decide +kernel
theorem dX0_wordIn_87 : decode cX0_wordIn 87 = .ok (.ifCond .eq 12, 3) := by decide +kernel
theorem dX0_wordIn_90 : decode cX0_wordIn 90 = .ok (.iload 5, 2) := by decide +kernel
theorem dX0_wordIn_92 : decode cX0_wordIn 92 = .ok (.iload_n 3, 1) := by decide +kernel
theorem dX0_wordIn_93 : decode cX0_wordIn 93 = .ok (.if_icmp .ne 6, 3) := by decide +kernel
theorem dX0_wordIn_96 : decode cX0_wordIn 96 = .ok (.iload 4, 2) := by decide +kernel
theorem dX0_wordIn_98 : decode cX0_wordIn 98 = .ok (.ireturn, 1) := by decide +kernel
theorem dX0_wordIn_99 : decode cX0_wordIn 99 = .ok (.iinc 4 1, 3) := by decide +kernel
theorem dX0_wordIn_102 : decode cX0_wordIn 102 = .ok (.iload_n 2, 1) := by decide +kernel
theorem dX0_wordIn_103 : decode cX0_wordIn 103 = .ok (.istore 5, 2) := by decide +kernel
theorem dX0_wordIn_105 : decode cX0_wordIn 105 = .ok (.iconst 1, 1) := by decide +kernel
theorem dX0_wordIn_106 : decode cX0_wordIn 106 = .ok (.istore 6, 2) := by decide +kernel
theorem dX0_wordIn_108 : decode cX0_wordIn 108 = .ok (.iinc 7 1, 3) := by decide +kernel
theorem dX0_wordIn_111 : decode cX0_wordIn 111 = .ok (.goto (-99), 3) := by decide +kernel
theorem dX0_wordIn_114 : decode cX0_wordIn 114 = .ok (.iconst (-1), 1) := by decide +kernel
theorem dX0_wordIn_115 : decode cX0_wordIn 115 = .ok (.ireturn, 1) := by decide +kernel
theorem dX10_digit_0 : decode cX10_digit 0 = .ok (.aload_n 0, 1) := by decide +kernel
theorem dX10_digit_1 : decode cX10_digit 1 = .ok (.getfield 9, 3) := by decide +kernel
theorem dX10_digit_4 : decode cX10_digit 4 = .ok (.iload_n 1, 1) := by decide +kernel
theorem dX10_digit_5 : decode cX10_digit 5 = .ok (.invokevirtual 55, 3) := by decide +kernel
theorem dX10_digit_8 : decode cX10_digit 8 = .ok (.istore_n 3, 1) := by decide +kernel
theorem dX10_digit_9 : decode cX10_digit 9 = .ok (.iload_n 3, 1) := by decide +kernel
theorem dX10_digit_10 : decode cX10_digit 10 = .ok (.bipush 48, 2) := by decide +kernel
theorem dX10_digit_12 : decode cX10_digit 12 = .ok (.if_icmp .lt 14, 3) := by decide +kernel
theorem dX10_digit_15 : decode cX10_digit 15 = .ok (.iload_n 3, 1) := by decide +kernel
theorem dX10_digit_16 : decode cX10_digit 16 = .ok (.bipush 57, 2) := by decide +kernel
theorem dX10_digit_18 : decode cX10_digit 18 = .ok (.if_icmp .gt 8, 3) := by decide +kernel
theorem dX10_digit_21 : decode cX10_digit 21 = .ok (.iload_n 3, 1) := by decide +kernel
theorem dX10_digit_22 : decode cX10_digit 22 = .ok (.bipush 48, 2) := by decide +kernel
theorem dX10_digit_24 : decode cX10_digit 24 = .ok (.isub, 1) := by decide +kernel
theorem dX10_digit_25 : decode cX10_digit 25 = .ok (.ireturn, 1) := by decide +kernel
theorem dX10_digit_26 : decode cX10_digit 26 = .ok (.iload_n 2, 1) := by decide +kernel
theorem dX10_digit_27 : decode cX10_digit 27 = .ok (.bipush 16, 2) := by decide +kernel
theorem dX10_digit_29 : decode cX10_digit 29 = .ok (.if_icmp .ne 23, 3) := by decide +kernel
theorem dX10_digit_32 : decode cX10_digit 32 = .ok (.iload_n 3, 1) := by decide +kernel
theorem dX10_digit_33 : decode cX10_digit 33 = .ok (.bipush 97, 2) := by decide +kernel
theorem dX10_digit_35 : decode cX10_digit 35 = .ok (.if_icmp .lt 17, 3) := by decide +kernel
theorem dX10_digit_38 : decode cX10_digit 38 = .ok (.iload_n 3, 1) := by decide +kernel
theorem dX10_digit_39 : decode cX10_digit 39 = .ok (.bipush 102, 2) := by decide +kernel
theorem dX10_digit_41 : decode cX10_digit 41 = .ok (.if_icmp .gt 11, 3) := by decide +kernel
theorem dX10_digit_44 : decode cX10_digit 44 = .ok (.iload_n 3, 1) := by decide +kernel
theorem dX10_digit_45 : decode cX10_digit 45 = .ok (.bipush 97, 2) := by decide +kernel
theorem dX10_digit_47 : decode cX10_digit 47 = .ok (.isub, 1) := by decide +kernel
theorem dX10_digit_48 : decode cX10_digit 48 = .ok (.bipush 10, 2) := by decide +kernel
theorem dX10_digit_50 : decode cX10_digit 50 = .ok (.iadd, 1) := by decide +kernel
theorem dX10_digit_51 : decode cX10_digit 51 = .ok (.ireturn, 1) := by decide +kernel
theorem dX10_digit_52 : decode cX10_digit 52 = .ok (.iload_n 2, 1) := by decide +kernel
theorem dX10_digit_53 : decode cX10_digit 53 = .ok (.bipush 16, 2) := by decide +kernel
theorem dX10_digit_55 : decode cX10_digit 55 = .ok (.if_icmp .ne 25, 3) := by decide +kernel
theorem dX10_digit_58 : decode cX10_digit 58 = .ok (.iload_n 3, 1) := by decide +kernel
theorem dX10_digit_59 : decode cX10_digit 59 = .ok (.bipush 65, 2) := by decide +kernel
theorem dX10_digit_61 : decode cX10_digit 61 = .ok (.if_icmp .lt 19, 3) := by decide +kernel
theorem dX10_digit_64 : decode cX10_digit 64 = .ok (.iload_n 3, 1) := by decide +kernel
theorem dX10_digit_65 : decode cX10_digit 65 = .ok (.bipush 70, 2) := by decide +kernel
theorem dX10_digit_67 : decode cX10_digit 67 = .ok (.if_icmp .gt 13, 3) := by decide +kernel
theorem dX10_digit_70 : decode cX10_digit 70 = .ok (.iload_n 3, 1) := by decide +kernel
theorem dX10_digit_71 : decode cX10_digit 71 = .ok (.bipush 65, 2) := by decide +kernel
theorem dX10_digit_73 : decode cX10_digit 73 = .ok (.isub, 1) := by decide +kernel
theorem dX10_digit_74 : decode cX10_digit 74 = .ok (.bipush 10, 2) := by decide +kernel
theorem dX10_digit_76 : decode cX10_digit 76 = .ok (.iadd, 1) := by decide +kernel
theorem dX10_digit_77 : decode cX10_digit 77 = .ok (.goto 4, 3) := by decide +kernel
theorem dX10_digit_80 : decode cX10_digit 80 = .ok (.iconst (-1), 1) := by decide +kernel
theorem dX10_digit_81 : decode cX10_digit 81 = .ok (.ireturn, 1) := by decide +kernel
theorem dX11_isWordByte_0 : decode cX11_isWordByte 0 = .ok (.iload_n 0, 1) := by decide +kernel
theorem dX11_isWordByte_1 : decode cX11_isWordByte 1 = .ok (.bipush 97, 2) := by decide +kernel
theorem dX11_isWordByte_3 : decode cX11_isWordByte 3 = .ok (.if_icmp .lt 9, 3) := by decide +kernel
theorem dX11_isWordByte_6 : decode cX11_isWordByte 6 = .ok (.iload_n 0, 1) := by decide +kernel
theorem dX11_isWordByte_7 : decode cX11_isWordByte 7 = .ok (.bipush 122, 2) := by decide +kernel
theorem dX11_isWordByte_9 : decode cX11_isWordByte 9 = .ok (.if_icmp .le 33, 3) := by decide +kernel
theorem dX11_isWordByte_12 : decode cX11_isWordByte 12 = .ok (.iload_n 0, 1) := by decide +kernel
theorem dX11_isWordByte_13 : decode cX11_isWordByte 13 = .ok (.bipush 65, 2) := by decide +kernel
theorem dX11_isWordByte_15 : decode cX11_isWordByte 15 = .ok (.if_icmp .lt 9, 3) := by decide +kernel
theorem dX11_isWordByte_18 : decode cX11_isWordByte 18 = .ok (.iload_n 0, 1) := by decide +kernel
theorem dX11_isWordByte_19 : decode cX11_isWordByte 19 = .ok (.bipush 90, 2) := by decide +kernel
theorem dX11_isWordByte_21 : decode cX11_isWordByte 21 = .ok (.if_icmp .le 21, 3) := by decide +kernel
theorem dX11_isWordByte_24 : decode cX11_isWordByte 24 = .ok (.iload_n 0, 1) := by decide +kernel
theorem dX11_isWordByte_25 : decode cX11_isWordByte 25 = .ok (.bipush 48, 2) := by decide +kernel
theorem dX11_isWordByte_27 : decode cX11_isWordByte 27 = .ok (.if_icmp .lt 9, 3) := by decide +kernel
theorem dX11_isWordByte_30 : decode cX11_isWordByte 30 = .ok (.iload_n 0, 1) := by decide +kernel
theorem dX11_isWordByte_31 : decode cX11_isWordByte 31 = .ok (.bipush 57, 2) := by decide +kernel
theorem dX11_isWordByte_33 : decode cX11_isWordByte 33 = .ok (.if_icmp .le 9, 3) := by decide +kernel
theorem dX11_isWordByte_36 : decode cX11_isWordByte 36 = .ok (.iload_n 0, 1) := by decide +kernel
theorem dX11_isWordByte_37 : decode cX11_isWordByte 37 = .ok (.bipush 95, 2) := by decide +kernel
theorem dX11_isWordByte_39 : decode cX11_isWordByte 39 = .ok (.if_icmp .ne 7, 3) := by decide +kernel
theorem dX11_isWordByte_42 : decode cX11_isWordByte 42 = .ok (.iconst 1, 1) := by decide +kernel
theorem dX11_isWordByte_43 : decode cX11_isWordByte 43 = .ok (.goto 4, 3) := by decide +kernel
theorem dX11_isWordByte_46 : decode cX11_isWordByte 46 = .ok (.iconst 0, 1) := by decide +kernel
theorem dX11_isWordByte_47 : decode cX11_isWordByte 47 = .ok (.ireturn, 1) := by decide +kernel
theorem dX10_push_0 : decode cX10_push 0 = .ok (.aload_n 0, 1) := by decide +kernel
theorem dX10_push_1 : decode cX10_push 1 = .ok (.getfield 29, 3) := by decide +kernel
theorem dX10_push_4 : decode cX10_push 4 = .ok (.ifCond .lt 51, 3) := by decide +kernel
theorem dX10_push_7 : decode cX10_push 7 = .ok (.aload_n 0, 1) := by decide +kernel
theorem dX10_push_8 : decode cX10_push 8 = .ok (.getfield 29, 3) := by decide +kernel
theorem dX10_push_11 : decode cX10_push 11 = .ok (.aload_n 0, 1) := by decide +kernel
theorem dX10_push_12 : decode cX10_push 12 = .ok (.getfield 15, 3) := by decide +kernel
theorem dX10_push_15 : decode cX10_push 15 = .ok (.arraylength, 1) := by decide +kernel
theorem dX10_push_16 : decode cX10_push 16 = .ok (.if_icmp .ge 39, 3) := by decide +kernel
theorem dX10_push_19 : decode cX10_push 19 = .ok (.aload_n 0, 1) := by decide +kernel
theorem dX10_push_20 : decode cX10_push 20 = .ok (.getfield 29, 3) := by decide +kernel
theorem dX10_push_23 : decode cX10_push 23 = .ok (.aload_n 0, 1) := by decide +kernel
theorem dX10_push_24 : decode cX10_push 24 = .ok (.getfield 19, 3) := by decide +kernel
theorem dX10_push_27 : decode cX10_push 27 = .ok (.arraylength, 1) := by decide +kernel
theorem dX10_push_28 : decode cX10_push 28 = .ok (.if_icmp .ge 27, 3) := by decide +kernel
theorem dX10_push_31 : decode cX10_push 31 = .ok (.aload_n 0, 1) := by decide +kernel
theorem dX10_push_32 : decode cX10_push 32 = .ok (.getfield 29, 3) := by decide +kernel
theorem dX10_push_35 : decode cX10_push 35 = .ok (.aload_n 0, 1) := by decide +kernel
theorem dX10_push_36 : decode cX10_push 36 = .ok (.getfield 22, 3) := by decide +kernel
theorem dX10_push_39 : decode cX10_push 39 = .ok (.arraylength, 1) := by decide +kernel
theorem dX10_push_40 : decode cX10_push 40 = .ok (.if_icmp .ge 15, 3) := by decide +kernel
theorem dX10_push_43 : decode cX10_push 43 = .ok (.aload_n 0, 1) := by decide +kernel
theorem dX10_push_44 : decode cX10_push 44 = .ok (.getfield 29, 3) := by decide +kernel
theorem dX10_push_47 : decode cX10_push 47 = .ok (.aload_n 0, 1) := by decide +kernel
theorem dX10_push_48 : decode cX10_push 48 = .ok (.getfield 25, 3) := by decide +kernel
theorem dX10_push_51 : decode cX10_push 51 = .ok (.arraylength, 1) := by decide +kernel
theorem dX10_push_52 : decode cX10_push 52 = .ok (.if_icmp .lt 5, 3) := by decide +kernel
theorem dX10_push_55 : decode cX10_push 55 = .ok (.iload_n 2, 1) := by decide +kernel
theorem dX10_push_56 : decode cX10_push 56 = .ok (.ireturn, 1) := by decide +kernel
theorem dX10_push_57 : decode cX10_push 57 = .ok (.aload_n 0, 1) := by decide +kernel
theorem dX10_push_58 : decode cX10_push 58 = .ok (.getfield 15, 3) := by decide +kernel
theorem dX10_push_61 : decode cX10_push 61 = .ok (.aload_n 0, 1) := by decide +kernel
theorem dX10_push_62 : decode cX10_push 62 = .ok (.getfield 29, 3) := by decide +kernel
theorem dX10_push_65 : decode cX10_push 65 = .ok (.iload_n 1, 1) := by decide +kernel
theorem dX10_push_66 : decode cX10_push 66 = .ok (.iastore, 1) := by decide +kernel
theorem dX10_push_67 : decode cX10_push 67 = .ok (.aload_n 0, 1) := by decide +kernel
theorem dX10_push_68 : decode cX10_push 68 = .ok (.getfield 19, 3) := by decide +kernel
theorem dX10_push_71 : decode cX10_push 71 = .ok (.aload_n 0, 1) := by decide +kernel
theorem dX10_push_72 : decode cX10_push 72 = .ok (.getfield 29, 3) := by decide +kernel
theorem dX10_push_75 : decode cX10_push 75 = .ok (.iload_n 2, 1) := by decide +kernel
theorem dX10_push_76 : decode cX10_push 76 = .ok (.iastore, 1) := by decide +kernel
theorem dX10_push_77 : decode cX10_push 77 = .ok (.aload_n 0, 1) := by decide +kernel
theorem dX10_push_78 : decode cX10_push 78 = .ok (.getfield 22, 3) := by decide +kernel
theorem dX10_push_81 : decode cX10_push 81 = .ok (.aload_n 0, 1) := by decide +kernel
theorem dX10_push_82 : decode cX10_push 82 = .ok (.getfield 29, 3) := by decide +kernel
theorem dX10_push_85 : decode cX10_push 85 = .ok (.iload_n 3, 1) := by decide +kernel
theorem dX10_push_86 : decode cX10_push 86 = .ok (.iastore, 1) := by decide +kernel
theorem dX10_push_87 : decode cX10_push 87 = .ok (.aload_n 0, 1) := by decide +kernel
theorem dX10_push_88 : decode cX10_push 88 = .ok (.getfield 25, 3) := by decide +kernel
theorem dX10_push_91 : decode cX10_push 91 = .ok (.aload_n 0, 1) := by decide +kernel
theorem dX10_push_92 : decode cX10_push 92 = .ok (.getfield 29, 3) := by decide +kernel
theorem dX10_push_95 : decode cX10_push 95 = .ok (.lload 4, 2) := by decide +kernel
theorem dX10_push_97 : decode cX10_push 97 = .ok (.lastore, 1) := by decide +kernel
theorem dX10_push_98 : decode cX10_push 98 = .ok (.aload_n 0, 1) := by decide +kernel
theorem dX10_push_99 : decode cX10_push 99 = .ok (.dup, 1) := by decide +kernel
theorem dX10_push_100 : decode cX10_push 100 = .ok (.getfield 29, 3) := by decide +kernel
theorem dX10_push_103 : decode cX10_push 103 = .ok (.iconst 1, 1) := by decide +kernel
theorem dX10_push_104 : decode cX10_push 104 = .ok (.iadd, 1) := by decide +kernel
theorem dX10_push_105 : decode cX10_push 105 = .ok (.putfield 29, 3) := by decide +kernel
theorem dX10_push_108 : decode cX10_push 108 = .ok (.iload_n 1, 1) := by decide +kernel
theorem dX10_push_109 : decode cX10_push 109 = .ok (.iconst 5, 1) := by decide +kernel
theorem dX10_push_110 : decode cX10_push 110 = .ok (.if_icmp .ne 7, 3) := by decide +kernel
theorem dX10_push_113 : decode cX10_push 113 = .ok (.iload_n 2, 1) := by decide +kernel
theorem dX10_push_114 : decode cX10_push 114 = .ok (.goto 4, 3) := by decide +kernel
theorem dX10_push_117 : decode cX10_push 117 = .ok (.iload_n 3, 1) := by decide +kernel
theorem dX10_push_118 : decode cX10_push 118 = .ok (.ireturn, 1) := by decide +kernel
theorem dX10_addNumber_0 : decode cX10_addNumber 0 = .ok (.aload_n 0, 1) := by decide +kernel
theorem dX10_addNumber_1 : decode cX10_addNumber 1 = .ok (.getfield 9, 3) := by decide +kernel
theorem dX10_addNumber_4 : decode cX10_addNumber 4 = .ok (.iload_n 1, 1) := by decide +kernel
theorem dX10_addNumber_5 : decode cX10_addNumber 5 = .ok (.invokevirtual 55, 3) := by decide +kernel
theorem dX10_addNumber_8 : decode cX10_addNumber 8 = .ok (.bipush 48, 2) := by decide +kernel
theorem dX10_addNumber_10 : decode cX10_addNumber 10 = .ok (.if_icmp .ne 22, 3) := by decide +kernel
theorem dX10_addNumber_13 : decode cX10_addNumber 13 = .ok (.aload_n 0, 1) := by decide +kernel
theorem dX10_addNumber_14 : decode cX10_addNumber 14 = .ok (.getfield 9, 3) := by decide +kernel
theorem dX10_addNumber_17 : decode cX10_addNumber 17 = .ok (.iload_n 1, 1) := by decide +kernel
theorem dX10_addNumber_18 : decode cX10_addNumber 18 = .ok (.iconst 1, 1) := by decide +kernel
theorem dX10_addNumber_19 : decode cX10_addNumber 19 = .ok (.iadd, 1) := by decide +kernel
theorem dX10_addNumber_20 : decode cX10_addNumber 20 = .ok (.invokevirtual 55, 3) := by decide +kernel
theorem dX10_addNumber_23 : decode cX10_addNumber 23 = .ok (.bipush 120, 2) := by decide +kernel
theorem dX10_addNumber_25 : decode cX10_addNumber 25 = .ok (.if_icmp .ne 7, 3) := by decide +kernel
theorem dX10_addNumber_28 : decode cX10_addNumber 28 = .ok (.iconst 1, 1) := by decide +kernel
theorem dX10_addNumber_29 : decode cX10_addNumber 29 = .ok (.goto 4, 3) := by decide +kernel
theorem dX10_addNumber_32 : decode cX10_addNumber 32 = .ok (.iconst 0, 1) := by decide +kernel
theorem dX10_addNumber_33 : decode cX10_addNumber 33 = .ok (.istore_n 2, 1) := by decide +kernel
theorem dX10_addNumber_34 : decode cX10_addNumber 34 = .ok (.iload_n 2, 1) := by decide +kernel
theorem dX10_addNumber_35 : decode cX10_addNumber 35 = .ok (.ifCond .eq 9, 3) := by decide +kernel
theorem dX10_addNumber_38 : decode cX10_addNumber 38 = .ok (.iload_n 1, 1) := by decide +kernel
theorem dX10_addNumber_39 : decode cX10_addNumber 39 = .ok (.iconst 2, 1) := by decide +kernel
theorem dX10_addNumber_40 : decode cX10_addNumber 40 = .ok (.iadd, 1) := by decide +kernel
theorem dX10_addNumber_41 : decode cX10_addNumber 41 = .ok (.goto 4, 3) := by decide +kernel
theorem dX10_addNumber_44 : decode cX10_addNumber 44 = .ok (.iload_n 1, 1) := by decide +kernel
theorem dX10_addNumber_45 : decode cX10_addNumber 45 = .ok (.istore_n 3, 1) := by decide +kernel
theorem dX10_addNumber_46 : decode cX10_addNumber 46 = .ok (.iload_n 2, 1) := by decide +kernel
theorem dX10_addNumber_47 : decode cX10_addNumber 47 = .ok (.ifCond .eq 8, 3) := by decide +kernel
theorem dX10_addNumber_50 : decode cX10_addNumber 50 = .ok (.bipush 16, 2) := by decide +kernel
theorem dX10_addNumber_52 : decode cX10_addNumber 52 = .ok (.goto 5, 3) := by decide +kernel
theorem dX10_addNumber_55 : decode cX10_addNumber 55 = .ok (.bipush 10, 2) := by decide +kernel
theorem dX10_addNumber_57 : decode cX10_addNumber 57 = .ok (.istore 4, 2) := by decide +kernel
theorem dX10_addNumber_59 : decode cX10_addNumber 59 = .ok (.lconst 0, 1) := by decide +kernel
theorem dX10_addNumber_60 : decode cX10_addNumber 60 = .ok (.lstore 5, 2) := by decide +kernel
theorem dX10_addNumber_62 : decode cX10_addNumber 62 = .ok (.iload_n 3, 1) := by decide +kernel
theorem dX10_addNumber_63 : decode cX10_addNumber 63 = .ok (.istore 7, 2) := by decide +kernel
theorem dX10_addNumber_65 : decode cX10_addNumber 65 = .ok (.iload 7, 2) := by decide +kernel
theorem dX10_addNumber_67 : decode cX10_addNumber 67 = .ok (.aload_n 0, 1) := by decide +kernel
theorem dX10_addNumber_68 : decode cX10_addNumber 68 = .ok (.getfield 33, 3) := by decide +kernel
theorem dX10_addNumber_71 : decode cX10_addNumber 71 = .ok (.if_icmp .ge 44, 3) := by decide +kernel
theorem dX10_addNumber_74 : decode cX10_addNumber 74 = .ok (.aload_n 0, 1) := by decide +kernel
theorem dX10_addNumber_75 : decode cX10_addNumber 75 = .ok (.iload 7, 2) := by decide +kernel
theorem dX10_addNumber_77 : decode cX10_addNumber 77 = .ok (.iload 4, 2) := by decide +kernel
theorem dX10_addNumber_79 : decode cX10_addNumber 79 = .ok (.invokevirtual 79, 3) := by decide +kernel
theorem dX10_addNumber_82 : decode cX10_addNumber 82 = .ok (.ifCond .lt 33, 3) := by decide +kernel
theorem dX10_addNumber_85 : decode cX10_addNumber 85 = .ok (.lload 5, 2) := by decide +kernel
theorem dX10_addNumber_87 : decode cX10_addNumber 87 = .ok (.iload 4, 2) := by decide +kernel
theorem dX10_addNumber_89 : decode cX10_addNumber 89 = .ok (.i2l, 1) := by decide +kernel
theorem dX10_addNumber_90 : decode cX10_addNumber 90 = .ok (.lmul, 1) := by decide +kernel
theorem dX10_addNumber_91 : decode cX10_addNumber 91 = .ok (.aload_n 0, 1) := by decide +kernel
theorem dX10_addNumber_92 : decode cX10_addNumber 92 = .ok (.iload 7, 2) := by decide +kernel
theorem dX10_addNumber_94 : decode cX10_addNumber 94 = .ok (.iload 4, 2) := by decide +kernel
theorem dX10_addNumber_96 : decode cX10_addNumber 96 = .ok (.invokevirtual 79, 3) := by decide +kernel
theorem dX10_addNumber_99 : decode cX10_addNumber 99 = .ok (.i2l, 1) := by decide +kernel
theorem dX10_addNumber_100 : decode cX10_addNumber 100 = .ok (.ladd, 1) := by decide +kernel
theorem dX10_addNumber_101 : decode cX10_addNumber 101 = .ok (.ldc2_w 82, 3) := by decide +kernel
theorem dX10_addNumber_104 : decode cX10_addNumber 104 = .ok (.invokestatic 84, 3) := by decide +kernel
theorem dX10_addNumber_107 : decode cX10_addNumber 107 = .ok (.lstore 5, 2) := by decide +kernel
theorem dX10_addNumber_109 : decode cX10_addNumber 109 = .ok (.iinc 7 1, 3) := by decide +kernel
theorem dX10_addNumber_112 : decode cX10_addNumber 112 = .ok (.goto (-47), 3) := by decide +kernel
theorem dX10_addNumber_115 : decode cX10_addNumber 115 = .ok (.iload_n 2, 1) := by decide +kernel
theorem dX10_addNumber_116 : decode cX10_addNumber 116 = .ok (.ifCond .ne 28, 3) := by decide +kernel
theorem dX10_addNumber_119 : decode cX10_addNumber 119 = .ok (.aload_n 0, 1) := by decide +kernel
theorem dX10_addNumber_120 : decode cX10_addNumber 120 = .ok (.getfield 9, 3) := by decide +kernel
theorem dX10_addNumber_123 : decode cX10_addNumber 123 = .ok (.iload_n 1, 1) := by decide +kernel
theorem dX10_addNumber_124 : decode cX10_addNumber 124 = .ok (.invokevirtual 55, 3) := by decide +kernel
theorem dX10_addNumber_127 : decode cX10_addNumber 127 = .ok (.bipush 48, 2) := by decide +kernel
theorem dX10_addNumber_129 : decode cX10_addNumber 129 = .ok (.if_icmp .ne 15, 3) := by decide +kernel
theorem dX10_addNumber_132 : decode cX10_addNumber 132 = .ok (.iload 7, 2) := by decide +kernel
theorem dX10_addNumber_134 : decode cX10_addNumber 134 = .ok (.iload_n 1, 1) := by decide +kernel
theorem dX10_addNumber_135 : decode cX10_addNumber 135 = .ok (.iconst 1, 1) := by decide +kernel
theorem dX10_addNumber_136 : decode cX10_addNumber 136 = .ok (.iadd, 1) := by decide +kernel
theorem dX10_addNumber_137 : decode cX10_addNumber 137 = .ok (.if_icmp .le 7, 3) := by decide +kernel
theorem dX10_addNumber_140 : decode cX10_addNumber 140 = .ok (.iconst 1, 1) := by decide +kernel
theorem dX10_addNumber_141 : decode cX10_addNumber 141 = .ok (.goto 4, 3) := by decide +kernel
theorem dX10_addNumber_144 : decode cX10_addNumber 144 = .ok (.iconst 0, 1) := by decide +kernel
theorem dX10_addNumber_145 : decode cX10_addNumber 145 = .ok (.istore 8, 2) := by decide +kernel
theorem dX10_addNumber_147 : decode cX10_addNumber 147 = .ok (.iload 7, 2) := by decide +kernel
theorem dX10_addNumber_149 : decode cX10_addNumber 149 = .ok (.iload_n 3, 1) := by decide +kernel
theorem dX10_addNumber_150 : decode cX10_addNumber 150 = .ok (.if_icmp .le 27, 3) := by decide +kernel
theorem dX10_addNumber_153 : decode cX10_addNumber 153 = .ok (.iload 8, 2) := by decide +kernel
theorem dX10_addNumber_155 : decode cX10_addNumber 155 = .ok (.ifCond .ne 22, 3) := by decide +kernel
theorem dX10_addNumber_158 : decode cX10_addNumber 158 = .ok (.aload_n 0, 1) := by decide +kernel
theorem dX10_addNumber_159 : decode cX10_addNumber 159 = .ok (.getfield 9, 3) := by decide +kernel
theorem dX10_addNumber_162 : decode cX10_addNumber 162 = .ok (.iload 7, 2) := by decide +kernel
theorem dX10_addNumber_164 : decode cX10_addNumber 164 = .ok (.invokevirtual 55, 3) := by decide +kernel
theorem dX10_addNumber_167 : decode cX10_addNumber 167 = .ok (.invokestatic 90, 3) := by decide +kernel
theorem dX10_addNumber_170 : decode cX10_addNumber 170 = .ok (.ifCond .ne 7, 3) := by decide +kernel
theorem dX10_addNumber_173 : decode cX10_addNumber 173 = .ok (.iconst 1, 1) := by decide +kernel
theorem dX10_addNumber_174 : decode cX10_addNumber 174 = .ok (.goto 4, 3) := by decide +kernel
theorem dX10_addNumber_177 : decode cX10_addNumber 177 = .ok (.iconst 0, 1) := by decide +kernel
theorem dX10_addNumber_178 : decode cX10_addNumber 178 = .ok (.istore 9, 2) := by decide +kernel
theorem dX10_addNumber_180 : decode cX10_addNumber 180 = .ok (.aload_n 0, 1) := by decide +kernel
theorem dX10_addNumber_181 : decode cX10_addNumber 181 = .ok (.iload 9, 2) := by decide +kernel
theorem dX10_addNumber_183 : decode cX10_addNumber 183 = .ok (.ifCond .eq 7, 3) := by decide +kernel
theorem dX10_addNumber_186 : decode cX10_addNumber 186 = .ok (.iconst 2, 1) := by decide +kernel
theorem dX10_addNumber_187 : decode cX10_addNumber 187 = .ok (.goto 4, 3) := by decide +kernel
theorem dX10_addNumber_190 : decode cX10_addNumber 190 = .ok (.iconst 5, 1) := by decide +kernel
theorem dX10_addNumber_191 : decode cX10_addNumber 191 = .ok (.iload_n 1, 1) := by decide +kernel
theorem dX10_addNumber_192 : decode cX10_addNumber 192 = .ok (.iload 7, 2) := by decide +kernel
theorem dX10_addNumber_194 : decode cX10_addNumber 194 = .ok (.lload 5, 2) := by decide +kernel
theorem dX10_addNumber_196 : decode cX10_addNumber 196 = .ok (.invokevirtual 58, 3) := by decide +kernel
theorem dX10_addNumber_199 : decode cX10_addNumber 199 = .ok (.ireturn, 1) := by decide +kernel
theorem dX10_codeBetween_0 : decode cX10_codeBetween 0 = .ok (.aload_n 0, 1) := by decide +kernel
theorem dX10_codeBetween_1 : decode cX10_codeBetween 1 = .ok (.getfield 9, 3) := by decide +kernel
theorem dX10_codeBetween_4 : decode cX10_codeBetween 4 = .ok (.ldc 93, 2) := by decide +kernel
theorem dX10_codeBetween_6 : decode cX10_codeBetween 6 = .ok (.iload_n 1, 1) := by decide +kernel
theorem dX10_codeBetween_7 : decode cX10_codeBetween 7 = .ok (.iload_n 2, 1) := by decide +kernel
theorem dX10_codeBetween_8 : decode cX10_codeBetween 8 = .ok (.invokevirtual 95, 3) := by decide +kernel
theorem dX10_codeBetween_11 : decode cX10_codeBetween 11 = .ok (.istore_n 3, 1) := by decide +kernel
theorem dX10_codeBetween_12 : decode cX10_codeBetween 12 = .ok (.iload_n 3, 1) := by decide +kernel
theorem dX10_codeBetween_13 : decode cX10_codeBetween 13 = .ok (.ifCond .lt 5, 3) := by decide +kernel
theorem dX10_codeBetween_16 : decode cX10_codeBetween 16 = .ok (.iload_n 3, 1) := by decide +kernel
theorem dX10_codeBetween_17 : decode cX10_codeBetween 17 = .ok (.ireturn, 1) := by decide +kernel
theorem dX10_codeBetween_18 : decode cX10_codeBetween 18 = .ok (.aload_n 0, 1) := by decide +kernel
theorem dX10_codeBetween_19 : decode cX10_codeBetween 19 = .ok (.getfield 9, 3) := by decide +kernel
theorem dX10_codeBetween_22 : decode cX10_codeBetween 22 = .ok (.ldc 99, 2) := by decide +kernel
theorem dX10_codeBetween_24 : decode cX10_codeBetween 24 = .ok (.iload_n 1, 1) := by decide +kernel
theorem dX10_codeBetween_25 : decode cX10_codeBetween 25 = .ok (.iload_n 2, 1) := by decide +kernel
theorem dX10_codeBetween_26 : decode cX10_codeBetween 26 = .ok (.invokevirtual 95, 3) := by decide +kernel
theorem dX10_codeBetween_29 : decode cX10_codeBetween 29 = .ok (.istore 4, 2) := by decide +kernel
theorem dX10_codeBetween_31 : decode cX10_codeBetween 31 = .ok (.iload 4, 2) := by decide +kernel
theorem dX10_codeBetween_33 : decode cX10_codeBetween 33 = .ok (.ifCond .lt 9, 3) := by decide +kernel
theorem dX10_codeBetween_36 : decode cX10_codeBetween 36 = .ok (.bipush 20, 2) := by decide +kernel
theorem dX10_codeBetween_38 : decode cX10_codeBetween 38 = .ok (.iload 4, 2) := by decide +kernel
theorem dX10_codeBetween_40 : decode cX10_codeBetween 40 = .ok (.iadd, 1) := by decide +kernel
theorem dX10_codeBetween_41 : decode cX10_codeBetween 41 = .ok (.ireturn, 1) := by decide +kernel
theorem dX10_codeBetween_42 : decode cX10_codeBetween 42 = .ok (.aload_n 0, 1) := by decide +kernel
theorem dX10_codeBetween_43 : decode cX10_codeBetween 43 = .ok (.getfield 9, 3) := by decide +kernel
theorem dX10_codeBetween_46 : decode cX10_codeBetween 46 = .ok (.ldc 101, 2) := by decide +kernel
theorem dX10_codeBetween_48 : decode cX10_codeBetween 48 = .ok (.iload_n 1, 1) := by decide +kernel
theorem dX10_codeBetween_49 : decode cX10_codeBetween 49 = .ok (.iload_n 2, 1) := by decide +kernel
theorem dX10_codeBetween_50 : decode cX10_codeBetween 50 = .ok (.invokevirtual 95, 3) := by decide +kernel
theorem dX10_codeBetween_53 : decode cX10_codeBetween 53 = .ok (.ifCond .lt 8, 3) := by decide +kernel
theorem dX10_codeBetween_56 : decode cX10_codeBetween 56 = .ok (.bipush 40, 2) := by decide +kernel
theorem dX10_codeBetween_58 : decode cX10_codeBetween 58 = .ok (.goto 4, 3) := by decide +kernel
theorem dX10_codeBetween_61 : decode cX10_codeBetween 61 = .ok (.iconst (-1), 1) := by decide +kernel
theorem dX10_codeBetween_62 : decode cX10_codeBetween 62 = .ok (.ireturn, 1) := by decide +kernel
theorem dX10_addText_0 : decode cX10_addText 0 = .ok (.iload_n 1, 1) := by decide +kernel
theorem dX10_addText_1 : decode cX10_addText 1 = .ok (.iconst 1, 1) := by decide +kernel
theorem dX10_addText_2 : decode cX10_addText 2 = .ok (.iadd, 1) := by decide +kernel
theorem dX10_addText_3 : decode cX10_addText 3 = .ok (.istore_n 2, 1) := by decide +kernel
theorem dX10_addText_4 : decode cX10_addText 4 = .ok (.iload_n 2, 1) := by decide +kernel
theorem dX10_addText_5 : decode cX10_addText 5 = .ok (.aload_n 0, 1) := by decide +kernel
theorem dX10_addText_6 : decode cX10_addText 6 = .ok (.getfield 33, 3) := by decide +kernel
theorem dX10_addText_9 : decode cX10_addText 9 = .ok (.if_icmp .ge 64, 3) := by decide +kernel
theorem dX10_addText_12 : decode cX10_addText 12 = .ok (.aload_n 0, 1) := by decide +kernel
theorem dX10_addText_13 : decode cX10_addText 13 = .ok (.getfield 9, 3) := by decide +kernel
theorem dX10_addText_16 : decode cX10_addText 16 = .ok (.iload_n 2, 1) := by decide +kernel
theorem dX10_addText_17 : decode cX10_addText 17 = .ok (.invokevirtual 55, 3) := by decide +kernel
theorem dX10_addText_20 : decode cX10_addText 20 = .ok (.istore_n 3, 1) := by decide +kernel
theorem dX10_addText_21 : decode cX10_addText 21 = .ok (.iload_n 3, 1) := by decide +kernel
theorem dX10_addText_22 : decode cX10_addText 22 = .ok (.bipush 34, 2) := by decide +kernel
theorem dX10_addText_24 : decode cX10_addText 24 = .ok (.if_icmp .ne 22, 3) := by decide +kernel
theorem dX10_addText_27 : decode cX10_addText 27 = .ok (.aload_n 0, 1) := by decide +kernel
theorem dX10_addText_28 : decode cX10_addText 28 = .ok (.iconst 3, 1) := by decide +kernel
theorem dX10_addText_29 : decode cX10_addText 29 = .ok (.iload_n 1, 1) := by decide +kernel
theorem dX10_addText_30 : decode cX10_addText 30 = .ok (.iload_n 2, 1) := by decide +kernel
theorem dX10_addText_31 : decode cX10_addText 31 = .ok (.iconst 1, 1) := by decide +kernel
theorem dX10_addText_32 : decode cX10_addText 32 = .ok (.iadd, 1) := by decide +kernel
theorem dX10_addText_33 : decode cX10_addText 33 = .ok (.aload_n 0, 1) := by decide +kernel
theorem dX10_addText_34 : decode cX10_addText 34 = .ok (.iload_n 1, 1) := by decide +kernel
theorem dX10_addText_35 : decode cX10_addText 35 = .ok (.iconst 1, 1) := by decide +kernel
theorem dX10_addText_36 : decode cX10_addText 36 = .ok (.iadd, 1) := by decide +kernel
theorem dX10_addText_37 : decode cX10_addText 37 = .ok (.iload_n 2, 1) := by decide +kernel
theorem dX10_addText_38 : decode cX10_addText 38 = .ok (.invokevirtual 69, 3) := by decide +kernel
theorem dX10_addText_41 : decode cX10_addText 41 = .ok (.i2l, 1) := by decide +kernel
theorem dX10_addText_42 : decode cX10_addText 42 = .ok (.invokevirtual 58, 3) := by decide +kernel
theorem dX10_addText_45 : decode cX10_addText 45 = .ok (.ireturn, 1) := by decide +kernel
theorem dX10_addText_46 : decode cX10_addText 46 = .ok (.iload_n 3, 1) := by decide +kernel
theorem dX10_addText_47 : decode cX10_addText 47 = .ok (.bipush 32, 2) := by decide +kernel
theorem dX10_addText_49 : decode cX10_addText 49 = .ok (.if_icmp .lt 24, 3) := by decide +kernel
theorem dX10_addText_52 : decode cX10_addText 52 = .ok (.iload_n 3, 1) := by decide +kernel
theorem dX10_addText_53 : decode cX10_addText 53 = .ok (.bipush 126, 2) := by decide +kernel
theorem dX10_addText_55 : decode cX10_addText 55 = .ok (.if_icmp .gt 18, 3) := by decide +kernel
theorem dX10_addText_58 : decode cX10_addText 58 = .ok (.iload_n 3, 1) := by decide +kernel
theorem dX10_addText_59 : decode cX10_addText 59 = .ok (.bipush 92, 2) := by decide +kernel
theorem dX10_addText_61 : decode cX10_addText 61 = .ok (.if_icmp .ne 6, 3) := by decide +kernel
theorem dX10_addText_64 : decode cX10_addText 64 = .ok (.goto 9, 3) := by decide +kernel
theorem dX10_addText_67 : decode cX10_addText 67 = .ok (.iinc 2 1, 3) := by decide +kernel
theorem dX10_addText_70 : decode cX10_addText 70 = .ok (.goto (-66), 3) := by decide +kernel
theorem dX10_addText_73 : decode cX10_addText 73 = .ok (.aload_n 0, 1) := by decide +kernel
theorem dX10_addText_74 : decode cX10_addText 74 = .ok (.iconst 5, 1) := by decide +kernel
theorem dX10_addText_75 : decode cX10_addText 75 = .ok (.iload_n 1, 1) := by decide +kernel
theorem dX10_addText_76 : decode cX10_addText 76 = .ok (.iload_n 1, 1) := by decide +kernel
theorem dX10_addText_77 : decode cX10_addText 77 = .ok (.ldc2_w 36, 3) := by decide +kernel
theorem dX10_addText_80 : decode cX10_addText 80 = .ok (.invokevirtual 58, 3) := by decide +kernel
theorem dX10_addText_83 : decode cX10_addText 83 = .ok (.ireturn, 1) := by decide +kernel
theorem dX11_isLetter_0 : decode cX11_isLetter 0 = .ok (.iload_n 0, 1) := by decide +kernel
theorem dX11_isLetter_1 : decode cX11_isLetter 1 = .ok (.bipush 97, 2) := by decide +kernel
theorem dX11_isLetter_3 : decode cX11_isLetter 3 = .ok (.if_icmp .lt 9, 3) := by decide +kernel
theorem dX11_isLetter_6 : decode cX11_isLetter 6 = .ok (.iload_n 0, 1) := by decide +kernel
theorem dX11_isLetter_7 : decode cX11_isLetter 7 = .ok (.bipush 122, 2) := by decide +kernel
theorem dX11_isLetter_9 : decode cX11_isLetter 9 = .ok (.if_icmp .le 15, 3) := by decide +kernel
theorem dX11_isLetter_12 : decode cX11_isLetter 12 = .ok (.iload_n 0, 1) := by decide +kernel
theorem dX11_isLetter_13 : decode cX11_isLetter 13 = .ok (.bipush 65, 2) := by decide +kernel
theorem dX11_isLetter_15 : decode cX11_isLetter 15 = .ok (.if_icmp .lt 13, 3) := by decide +kernel
theorem dX11_isLetter_18 : decode cX11_isLetter 18 = .ok (.iload_n 0, 1) := by decide +kernel
theorem dX11_isLetter_19 : decode cX11_isLetter 19 = .ok (.bipush 90, 2) := by decide +kernel
theorem dX11_isLetter_21 : decode cX11_isLetter 21 = .ok (.if_icmp .gt 7, 3) := by decide +kernel
theorem dX11_isLetter_24 : decode cX11_isLetter 24 = .ok (.iconst 1, 1) := by decide +kernel
theorem dX11_isLetter_25 : decode cX11_isLetter 25 = .ok (.goto 4, 3) := by decide +kernel
theorem dX11_isLetter_28 : decode cX11_isLetter 28 = .ok (.iconst 0, 1) := by decide +kernel
theorem dX11_isLetter_29 : decode cX11_isLetter 29 = .ok (.ireturn, 1) := by decide +kernel
theorem dX10_nameEnd_0 : decode cX10_nameEnd 0 = .ok (.iload_n 1, 1) := by decide +kernel
theorem dX10_nameEnd_1 : decode cX10_nameEnd 1 = .ok (.istore_n 2, 1) := by decide +kernel
theorem dX10_nameEnd_2 : decode cX10_nameEnd 2 = .ok (.iload_n 2, 1) := by decide +kernel
theorem dX10_nameEnd_3 : decode cX10_nameEnd 3 = .ok (.aload_n 0, 1) := by decide +kernel
theorem dX10_nameEnd_4 : decode cX10_nameEnd 4 = .ok (.getfield 33, 3) := by decide +kernel
theorem dX10_nameEnd_7 : decode cX10_nameEnd 7 = .ok (.if_icmp .ge 23, 3) := by decide +kernel
theorem dX10_nameEnd_10 : decode cX10_nameEnd 10 = .ok (.aload_n 0, 1) := by decide +kernel
theorem dX10_nameEnd_11 : decode cX10_nameEnd 11 = .ok (.getfield 9, 3) := by decide +kernel
theorem dX10_nameEnd_14 : decode cX10_nameEnd 14 = .ok (.iload_n 2, 1) := by decide +kernel
theorem dX10_nameEnd_15 : decode cX10_nameEnd 15 = .ok (.invokevirtual 55, 3) := by decide +kernel
theorem dX10_nameEnd_18 : decode cX10_nameEnd 18 = .ok (.invokestatic 90, 3) := by decide +kernel
theorem dX10_nameEnd_21 : decode cX10_nameEnd 21 = .ok (.ifCond .eq 9, 3) := by decide +kernel
theorem dX10_nameEnd_24 : decode cX10_nameEnd 24 = .ok (.iinc 2 1, 3) := by decide +kernel
theorem dX10_nameEnd_27 : decode cX10_nameEnd 27 = .ok (.goto (-25), 3) := by decide +kernel
theorem dX10_nameEnd_30 : decode cX10_nameEnd 30 = .ok (.iload_n 2, 1) := by decide +kernel
theorem dX10_nameEnd_31 : decode cX10_nameEnd 31 = .ok (.ireturn, 1) := by decide +kernel
theorem dX10_addWord_0 : decode cX10_addWord 0 = .ok (.aload_n 0, 1) := by decide +kernel
theorem dX10_addWord_1 : decode cX10_addWord 1 = .ok (.getfield 9, 3) := by decide +kernel
theorem dX10_addWord_4 : decode cX10_addWord 4 = .ok (.iload_n 1, 1) := by decide +kernel
theorem dX10_addWord_5 : decode cX10_addWord 5 = .ok (.invokevirtual 55, 3) := by decide +kernel
theorem dX10_addWord_8 : decode cX10_addWord 8 = .ok (.istore_n 2, 1) := by decide +kernel
theorem dX10_addWord_9 : decode cX10_addWord 9 = .ok (.iload_n 2, 1) := by decide +kernel
theorem dX10_addWord_10 : decode cX10_addWord 10 = .ok (.ifCond .ge 25, 3) := by decide +kernel
theorem dX10_addWord_13 : decode cX10_addWord 13 = .ok (.aload_n 0, 1) := by decide +kernel
theorem dX10_addWord_14 : decode cX10_addWord 14 = .ok (.aload_n 0, 1) := by decide +kernel
theorem dX10_addWord_15 : decode cX10_addWord 15 = .ok (.getfield 44, 3) := by decide +kernel
theorem dX10_addWord_18 : decode cX10_addWord 18 = .ok (.ifCond .eq 7, 3) := by decide +kernel
theorem dX10_addWord_21 : decode cX10_addWord 21 = .ok (.iconst 5, 1) := by decide +kernel
theorem dX10_addWord_22 : decode cX10_addWord 22 = .ok (.goto 4, 3) := by decide +kernel
theorem dX10_addWord_25 : decode cX10_addWord 25 = .ok (.iconst 0, 1) := by decide +kernel
theorem dX10_addWord_26 : decode cX10_addWord 26 = .ok (.iload_n 1, 1) := by decide +kernel
theorem dX10_addWord_27 : decode cX10_addWord 27 = .ok (.iload_n 1, 1) := by decide +kernel
theorem dX10_addWord_28 : decode cX10_addWord 28 = .ok (.ldc2_w 36, 3) := by decide +kernel
theorem dX10_addWord_31 : decode cX10_addWord 31 = .ok (.invokevirtual 58, 3) := by decide +kernel
theorem dX10_addWord_34 : decode cX10_addWord 34 = .ok (.ireturn, 1) := by decide +kernel
theorem dX10_addWord_35 : decode cX10_addWord 35 = .ok (.iload_n 2, 1) := by decide +kernel
theorem dX10_addWord_36 : decode cX10_addWord 36 = .ok (.invokestatic 62, 3) := by decide +kernel
theorem dX10_addWord_39 : decode cX10_addWord 39 = .ok (.ifCond .eq 24, 3) := by decide +kernel
theorem dX10_addWord_42 : decode cX10_addWord 42 = .ok (.aload_n 0, 1) := by decide +kernel
theorem dX10_addWord_43 : decode cX10_addWord 43 = .ok (.iload_n 1, 1) := by decide +kernel
theorem dX10_addWord_44 : decode cX10_addWord 44 = .ok (.invokevirtual 66, 3) := by decide +kernel
theorem dX10_addWord_47 : decode cX10_addWord 47 = .ok (.istore_n 3, 1) := by decide +kernel
theorem dX10_addWord_48 : decode cX10_addWord 48 = .ok (.aload_n 0, 1) := by decide +kernel
theorem dX10_addWord_49 : decode cX10_addWord 49 = .ok (.iconst 1, 1) := by decide +kernel
theorem dX10_addWord_50 : decode cX10_addWord 50 = .ok (.iload_n 1, 1) := by decide +kernel
theorem dX10_addWord_51 : decode cX10_addWord 51 = .ok (.iload_n 3, 1) := by decide +kernel
theorem dX10_addWord_52 : decode cX10_addWord 52 = .ok (.aload_n 0, 1) := by decide +kernel
theorem dX10_addWord_53 : decode cX10_addWord 53 = .ok (.iload_n 1, 1) := by decide +kernel
theorem dX10_addWord_54 : decode cX10_addWord 54 = .ok (.iload_n 3, 1) := by decide +kernel
theorem dX10_addWord_55 : decode cX10_addWord 55 = .ok (.invokevirtual 69, 3) := by decide +kernel
theorem dX10_addWord_58 : decode cX10_addWord 58 = .ok (.i2l, 1) := by decide +kernel
theorem dX10_addWord_59 : decode cX10_addWord 59 = .ok (.invokevirtual 58, 3) := by decide +kernel
theorem dX10_addWord_62 : decode cX10_addWord 62 = .ok (.ireturn, 1) := by decide +kernel
theorem dX10_addWord_63 : decode cX10_addWord 63 = .ok (.iload_n 2, 1) := by decide +kernel
theorem dX10_addWord_64 : decode cX10_addWord 64 = .ok (.bipush 48, 2) := by decide +kernel
theorem dX10_addWord_66 : decode cX10_addWord 66 = .ok (.if_icmp .lt 15, 3) := by decide +kernel
theorem dX10_addWord_69 : decode cX10_addWord 69 = .ok (.iload_n 2, 1) := by decide +kernel
theorem dX10_addWord_70 : decode cX10_addWord 70 = .ok (.bipush 57, 2) := by decide +kernel
theorem dX10_addWord_72 : decode cX10_addWord 72 = .ok (.if_icmp .gt 9, 3) := by decide +kernel
theorem dX10_addWord_75 : decode cX10_addWord 75 = .ok (.aload_n 0, 1) := by decide +kernel
theorem dX10_addWord_76 : decode cX10_addWord 76 = .ok (.iload_n 1, 1) := by decide +kernel
theorem dX10_addWord_77 : decode cX10_addWord 77 = .ok (.invokevirtual 73, 3) := by decide +kernel
theorem dX10_addWord_80 : decode cX10_addWord 80 = .ok (.ireturn, 1) := by decide +kernel
theorem dX10_addWord_81 : decode cX10_addWord 81 = .ok (.iload_n 2, 1) := by decide +kernel
theorem dX10_addWord_82 : decode cX10_addWord 82 = .ok (.bipush 34, 2) := by decide +kernel
theorem dX10_addWord_84 : decode cX10_addWord 84 = .ok (.if_icmp .ne 9, 3) := by decide +kernel
theorem dX10_addWord_87 : decode cX10_addWord 87 = .ok (.aload_n 0, 1) := by decide +kernel
theorem dX10_addWord_88 : decode cX10_addWord 88 = .ok (.iload_n 1, 1) := by decide +kernel
theorem dX10_addWord_89 : decode cX10_addWord 89 = .ok (.invokevirtual 76, 3) := by decide +kernel
theorem dX10_addWord_92 : decode cX10_addWord 92 = .ok (.ireturn, 1) := by decide +kernel
theorem dX10_addWord_93 : decode cX10_addWord 93 = .ok (.aload_n 0, 1) := by decide +kernel
theorem dX10_addWord_94 : decode cX10_addWord 94 = .ok (.iconst 4, 1) := by decide +kernel
theorem dX10_addWord_95 : decode cX10_addWord 95 = .ok (.iload_n 1, 1) := by decide +kernel
theorem dX10_addWord_96 : decode cX10_addWord 96 = .ok (.iload_n 1, 1) := by decide +kernel
theorem dX10_addWord_97 : decode cX10_addWord 97 = .ok (.iconst 1, 1) := by decide +kernel
theorem dX10_addWord_98 : decode cX10_addWord 98 = .ok (.iadd, 1) := by decide +kernel
theorem dX10_addWord_99 : decode cX10_addWord 99 = .ok (.iload_n 2, 1) := by decide +kernel
theorem dX10_addWord_100 : decode cX10_addWord 100 = .ok (.i2l, 1) := by decide +kernel
theorem dX10_addWord_101 : decode cX10_addWord 101 = .ok (.invokevirtual 58, 3) := by decide +kernel
theorem dX10_addWord_104 : decode cX10_addWord 104 = .ok (.ireturn, 1) := by decide +kernel
theorem dX10_lineEnd_0 : decode cX10_lineEnd 0 = .ok (.iload_n 1, 1) := by decide +kernel
theorem dX10_lineEnd_1 : decode cX10_lineEnd 1 = .ok (.istore_n 2, 1) := by decide +kernel
theorem dX10_lineEnd_2 : decode cX10_lineEnd 2 = .ok (.iload_n 2, 1) := by decide +kernel
theorem dX10_lineEnd_3 : decode cX10_lineEnd 3 = .ok (.aload_n 0, 1) := by decide +kernel
theorem dX10_lineEnd_4 : decode cX10_lineEnd 4 = .ok (.getfield 33, 3) := by decide +kernel
theorem dX10_lineEnd_7 : decode cX10_lineEnd 7 = .ok (.if_icmp .ge 22, 3) := by decide +kernel
theorem dX10_lineEnd_10 : decode cX10_lineEnd 10 = .ok (.aload_n 0, 1) := by decide +kernel
theorem dX10_lineEnd_11 : decode cX10_lineEnd 11 = .ok (.getfield 9, 3) := by decide +kernel
theorem dX10_lineEnd_14 : decode cX10_lineEnd 14 = .ok (.iload_n 2, 1) := by decide +kernel
theorem dX10_lineEnd_15 : decode cX10_lineEnd 15 = .ok (.invokevirtual 55, 3) := by decide +kernel
theorem dX10_lineEnd_18 : decode cX10_lineEnd 18 = .ok (.bipush 10, 2) := by decide +kernel
theorem dX10_lineEnd_20 : decode cX10_lineEnd 20 = .ok (.if_icmp .eq 9, 3) := by decide +kernel
theorem dX10_lineEnd_23 : decode cX10_lineEnd 23 = .ok (.iinc 2 1, 3) := by decide +kernel
theorem dX10_lineEnd_26 : decode cX10_lineEnd 26 = .ok (.goto (-24), 3) := by decide +kernel
theorem dX10_lineEnd_29 : decode cX10_lineEnd 29 = .ok (.iload_n 2, 1) := by decide +kernel
theorem dX10_lineEnd_30 : decode cX10_lineEnd 30 = .ok (.ireturn, 1) := by decide +kernel
theorem dX10_commentEnd_0 : decode cX10_commentEnd 0 = .ok (.iload_n 1, 1) := by decide +kernel
theorem dX10_commentEnd_1 : decode cX10_commentEnd 1 = .ok (.istore_n 2, 1) := by decide +kernel
theorem dX10_commentEnd_2 : decode cX10_commentEnd 2 = .ok (.iload_n 2, 1) := by decide +kernel
theorem dX10_commentEnd_3 : decode cX10_commentEnd 3 = .ok (.aload_n 0, 1) := by decide +kernel
theorem dX10_commentEnd_4 : decode cX10_commentEnd 4 = .ok (.getfield 33, 3) := by decide +kernel
theorem dX10_commentEnd_7 : decode cX10_commentEnd 7 = .ok (.if_icmp .ge 41, 3) := by decide +kernel
theorem dX10_commentEnd_10 : decode cX10_commentEnd 10 = .ok (.aload_n 0, 1) := by decide +kernel
theorem dX10_commentEnd_11 : decode cX10_commentEnd 11 = .ok (.getfield 9, 3) := by decide +kernel
theorem dX10_commentEnd_14 : decode cX10_commentEnd 14 = .ok (.iload_n 2, 1) := by decide +kernel
theorem dX10_commentEnd_15 : decode cX10_commentEnd 15 = .ok (.invokevirtual 55, 3) := by decide +kernel
theorem dX10_commentEnd_18 : decode cX10_commentEnd 18 = .ok (.bipush 42, 2) := by decide +kernel
theorem dX10_commentEnd_20 : decode cX10_commentEnd 20 = .ok (.if_icmp .ne 22, 3) := by decide +kernel
theorem dX10_commentEnd_23 : decode cX10_commentEnd 23 = .ok (.aload_n 0, 1) := by decide +kernel
theorem dX10_commentEnd_24 : decode cX10_commentEnd 24 = .ok (.getfield 9, 3) := by decide +kernel
theorem dX10_commentEnd_27 : decode cX10_commentEnd 27 = .ok (.iload_n 2, 1) := by decide +kernel
theorem dX10_commentEnd_28 : decode cX10_commentEnd 28 = .ok (.iconst 1, 1) := by decide +kernel
theorem dX10_commentEnd_29 : decode cX10_commentEnd 29 = .ok (.iadd, 1) := by decide +kernel
theorem dX10_commentEnd_30 : decode cX10_commentEnd 30 = .ok (.invokevirtual 55, 3) := by decide +kernel
theorem dX10_commentEnd_33 : decode cX10_commentEnd 33 = .ok (.bipush 47, 2) := by decide +kernel
theorem dX10_commentEnd_35 : decode cX10_commentEnd 35 = .ok (.if_icmp .ne 7, 3) := by decide +kernel
theorem dX10_commentEnd_38 : decode cX10_commentEnd 38 = .ok (.iload_n 2, 1) := by decide +kernel
theorem dX10_commentEnd_39 : decode cX10_commentEnd 39 = .ok (.iconst 1, 1) := by decide +kernel
theorem dX10_commentEnd_40 : decode cX10_commentEnd 40 = .ok (.iadd, 1) := by decide +kernel
theorem dX10_commentEnd_41 : decode cX10_commentEnd 41 = .ok (.ireturn, 1) := by decide +kernel
theorem dX10_commentEnd_42 : decode cX10_commentEnd 42 = .ok (.iinc 2 1, 3) := by decide +kernel
theorem dX10_commentEnd_45 : decode cX10_commentEnd 45 = .ok (.goto (-43), 3) := by decide +kernel
theorem dX10_commentEnd_48 : decode cX10_commentEnd 48 = .ok (.aload_n 0, 1) := by decide +kernel
theorem dX10_commentEnd_49 : decode cX10_commentEnd 49 = .ok (.iconst 1, 1) := by decide +kernel
theorem dX10_commentEnd_50 : decode cX10_commentEnd 50 = .ok (.putfield 44, 3) := by decide +kernel
theorem dX10_commentEnd_53 : decode cX10_commentEnd 53 = .ok (.aload_n 0, 1) := by decide +kernel
theorem dX10_commentEnd_54 : decode cX10_commentEnd 54 = .ok (.getfield 33, 3) := by decide +kernel
theorem dX10_commentEnd_57 : decode cX10_commentEnd 57 = .ok (.ireturn, 1) := by decide +kernel
theorem dX11_isBlank_0 : decode cX11_isBlank 0 = .ok (.iload_n 0, 1) := by decide +kernel
theorem dX11_isBlank_1 : decode cX11_isBlank 1 = .ok (.bipush 32, 2) := by decide +kernel
theorem dX11_isBlank_3 : decode cX11_isBlank 3 = .ok (.if_icmp .eq 21, 3) := by decide +kernel
theorem dX11_isBlank_6 : decode cX11_isBlank 6 = .ok (.iload_n 0, 1) := by decide +kernel
theorem dX11_isBlank_7 : decode cX11_isBlank 7 = .ok (.bipush 9, 2) := by decide +kernel
theorem dX11_isBlank_9 : decode cX11_isBlank 9 = .ok (.if_icmp .eq 15, 3) := by decide +kernel
theorem dX11_isBlank_12 : decode cX11_isBlank 12 = .ok (.iload_n 0, 1) := by decide +kernel
theorem dX11_isBlank_13 : decode cX11_isBlank 13 = .ok (.bipush 10, 2) := by decide +kernel
theorem dX11_isBlank_15 : decode cX11_isBlank 15 = .ok (.if_icmp .eq 9, 3) := by decide +kernel
theorem dX11_isBlank_18 : decode cX11_isBlank 18 = .ok (.iload_n 0, 1) := by decide +kernel
theorem dX11_isBlank_19 : decode cX11_isBlank 19 = .ok (.bipush 13, 2) := by decide +kernel
theorem dX11_isBlank_21 : decode cX11_isBlank 21 = .ok (.if_icmp .ne 7, 3) := by decide +kernel
theorem dX11_isBlank_24 : decode cX11_isBlank 24 = .ok (.iconst 1, 1) := by decide +kernel
theorem dX11_isBlank_25 : decode cX11_isBlank 25 = .ok (.goto 4, 3) := by decide +kernel
theorem dX11_isBlank_28 : decode cX11_isBlank 28 = .ok (.iconst 0, 1) := by decide +kernel
theorem dX11_isBlank_29 : decode cX11_isBlank 29 = .ok (.ireturn, 1) := by decide +kernel
theorem dX10_behindBlanks_0 : decode cX10_behindBlanks 0 = .ok (.iload_n 1, 1) := by decide +kernel
theorem dX10_behindBlanks_1 : decode cX10_behindBlanks 1 = .ok (.istore_n 2, 1) := by decide +kernel
theorem dX10_behindBlanks_2 : decode cX10_behindBlanks 2 = .ok (.iload_n 2, 1) := by decide +kernel
theorem dX10_behindBlanks_3 : decode cX10_behindBlanks 3 = .ok (.aload_n 0, 1) := by decide +kernel
theorem dX10_behindBlanks_4 : decode cX10_behindBlanks 4 = .ok (.getfield 33, 3) := by decide +kernel
theorem dX10_behindBlanks_7 : decode cX10_behindBlanks 7 = .ok (.if_icmp .ge 85, 3) := by decide +kernel
theorem dX10_behindBlanks_10 : decode cX10_behindBlanks 10 = .ok (.aload_n 0, 1) := by decide +kernel
theorem dX10_behindBlanks_11 : decode cX10_behindBlanks 11 = .ok (.getfield 9, 3) := by decide +kernel
theorem dX10_behindBlanks_14 : decode cX10_behindBlanks 14 = .ok (.iload_n 2, 1) := by decide +kernel
theorem dX10_behindBlanks_15 : decode cX10_behindBlanks 15 = .ok (.invokevirtual 55, 3) := by decide +kernel
theorem dX10_behindBlanks_18 : decode cX10_behindBlanks 18 = .ok (.istore_n 3, 1) := by decide +kernel
theorem dX10_behindBlanks_19 : decode cX10_behindBlanks 19 = .ok (.iload_n 3, 1) := by decide +kernel
theorem dX10_behindBlanks_20 : decode cX10_behindBlanks 20 = .ok (.bipush 47, 2) := by decide +kernel
theorem dX10_behindBlanks_22 : decode cX10_behindBlanks 22 = .ok (.if_icmp .ne 16, 3) := by decide +kernel
theorem dX10_behindBlanks_25 : decode cX10_behindBlanks 25 = .ok (.aload_n 0, 1) := by decide +kernel
theorem dX10_behindBlanks_26 : decode cX10_behindBlanks 26 = .ok (.getfield 9, 3) := by decide +kernel
theorem dX10_behindBlanks_29 : decode cX10_behindBlanks 29 = .ok (.iload_n 2, 1) := by decide +kernel
theorem dX10_behindBlanks_30 : decode cX10_behindBlanks 30 = .ok (.iconst 1, 1) := by decide +kernel
theorem dX10_behindBlanks_31 : decode cX10_behindBlanks 31 = .ok (.iadd, 1) := by decide +kernel
theorem dX10_behindBlanks_32 : decode cX10_behindBlanks 32 = .ok (.invokevirtual 55, 3) := by decide +kernel
theorem dX10_behindBlanks_35 : decode cX10_behindBlanks 35 = .ok (.goto 4, 3) := by decide +kernel
theorem dX10_behindBlanks_38 : decode cX10_behindBlanks 38 = .ok (.iconst (-1), 1) := by decide +kernel
theorem dX10_behindBlanks_39 : decode cX10_behindBlanks 39 = .ok (.istore 4, 2) := by decide +kernel
theorem dX10_behindBlanks_41 : decode cX10_behindBlanks 41 = .ok (.iload 4, 2) := by decide +kernel
theorem dX10_behindBlanks_43 : decode cX10_behindBlanks 43 = .ok (.bipush 47, 2) := by decide +kernel
theorem dX10_behindBlanks_45 : decode cX10_behindBlanks 45 = .ok (.if_icmp .ne 14, 3) := by decide +kernel
theorem dX10_behindBlanks_48 : decode cX10_behindBlanks 48 = .ok (.aload_n 0, 1) := by decide +kernel
theorem dX10_behindBlanks_49 : decode cX10_behindBlanks 49 = .ok (.iload_n 2, 1) := by decide +kernel
theorem dX10_behindBlanks_50 : decode cX10_behindBlanks 50 = .ok (.iconst 2, 1) := by decide +kernel
theorem dX10_behindBlanks_51 : decode cX10_behindBlanks 51 = .ok (.iadd, 1) := by decide +kernel
theorem dX10_behindBlanks_52 : decode cX10_behindBlanks 52 = .ok (.invokevirtual 103, 3) := by decide +kernel
theorem dX10_behindBlanks_55 : decode cX10_behindBlanks 55 = .ok (.istore_n 2, 1) := by decide +kernel
theorem dX10_behindBlanks_56 : decode cX10_behindBlanks 56 = .ok (.goto 30, 3) := by decide +kernel
theorem dX10_behindBlanks_59 : decode cX10_behindBlanks 59 = .ok (.iload 4, 2) := by decide +kernel
theorem dX10_behindBlanks_61 : decode cX10_behindBlanks 61 = .ok (.bipush 42, 2) := by decide +kernel
theorem dX10_behindBlanks_63 : decode cX10_behindBlanks 63 = .ok (.if_icmp .ne 14, 3) := by decide +kernel
theorem dX10_behindBlanks_66 : decode cX10_behindBlanks 66 = .ok (.aload_n 0, 1) := by decide +kernel
theorem dX10_behindBlanks_67 : decode cX10_behindBlanks 67 = .ok (.iload_n 2, 1) := by decide +kernel
theorem dX10_behindBlanks_68 : decode cX10_behindBlanks 68 = .ok (.iconst 2, 1) := by decide +kernel
theorem dX10_behindBlanks_69 : decode cX10_behindBlanks 69 = .ok (.iadd, 1) := by decide +kernel
theorem dX10_behindBlanks_70 : decode cX10_behindBlanks 70 = .ok (.invokevirtual 106, 3) := by decide +kernel
theorem dX10_behindBlanks_73 : decode cX10_behindBlanks 73 = .ok (.istore_n 2, 1) := by decide +kernel
theorem dX10_behindBlanks_74 : decode cX10_behindBlanks 74 = .ok (.goto 12, 3) := by decide +kernel
theorem dX10_behindBlanks_77 : decode cX10_behindBlanks 77 = .ok (.iload_n 3, 1) := by decide +kernel
theorem dX10_behindBlanks_78 : decode cX10_behindBlanks 78 = .ok (.invokestatic 109, 3) := by decide +kernel
theorem dX10_behindBlanks_81 : decode cX10_behindBlanks 81 = .ok (.ifCond .ne 5, 3) := by decide +kernel
theorem dX10_behindBlanks_84 : decode cX10_behindBlanks 84 = .ok (.iload_n 2, 1) := by decide +kernel
theorem dX10_behindBlanks_85 : decode cX10_behindBlanks 85 = .ok (.ireturn, 1) := by decide +kernel
theorem dX10_behindBlanks_86 : decode cX10_behindBlanks 86 = .ok (.iinc 2 1, 3) := by decide +kernel
theorem dX10_behindBlanks_89 : decode cX10_behindBlanks 89 = .ok (.goto (-87), 3) := by decide +kernel
theorem dX10_behindBlanks_92 : decode cX10_behindBlanks 92 = .ok (.aload_n 0, 1) := by decide +kernel
theorem dX10_behindBlanks_93 : decode cX10_behindBlanks 93 = .ok (.getfield 33, 3) := by decide +kernel
theorem dX10_behindBlanks_96 : decode cX10_behindBlanks 96 = .ok (.ireturn, 1) := by decide +kernel
theorem dX10_codeOf_0 : decode cX10_codeOf 0 = .ok (.iload_n 1, 1) := by decide +kernel
theorem dX10_codeOf_1 : decode cX10_codeOf 1 = .ok (.ifCond .lt 43, 3) := by decide +kernel
theorem dX10_codeOf_4 : decode cX10_codeOf 4 = .ok (.iload_n 1, 1) := by decide +kernel
theorem dX10_codeOf_5 : decode cX10_codeOf 5 = .ok (.aload_n 0, 1) := by decide +kernel
theorem dX10_codeOf_6 : decode cX10_codeOf 6 = .ok (.getfield 29, 3) := by decide +kernel
theorem dX10_codeOf_9 : decode cX10_codeOf 9 = .ok (.if_icmp .ge 35, 3) := by decide +kernel
theorem dX10_codeOf_12 : decode cX10_codeOf 12 = .ok (.iload_n 1, 1) := by decide +kernel
theorem dX10_codeOf_13 : decode cX10_codeOf 13 = .ok (.aload_n 0, 1) := by decide +kernel
theorem dX10_codeOf_14 : decode cX10_codeOf 14 = .ok (.getfield 15, 3) := by decide +kernel
theorem dX10_codeOf_17 : decode cX10_codeOf 17 = .ok (.arraylength, 1) := by decide +kernel
theorem dX10_codeOf_18 : decode cX10_codeOf 18 = .ok (.if_icmp .ge 26, 3) := by decide +kernel
theorem dX10_codeOf_21 : decode cX10_codeOf 21 = .ok (.iload_n 1, 1) := by decide +kernel
theorem dX10_codeOf_22 : decode cX10_codeOf 22 = .ok (.aload_n 0, 1) := by decide +kernel
theorem dX10_codeOf_23 : decode cX10_codeOf 23 = .ok (.getfield 25, 3) := by decide +kernel
theorem dX10_codeOf_26 : decode cX10_codeOf 26 = .ok (.arraylength, 1) := by decide +kernel
theorem dX10_codeOf_27 : decode cX10_codeOf 27 = .ok (.if_icmp .ge 17, 3) := by decide +kernel
theorem dX10_codeOf_30 : decode cX10_codeOf 30 = .ok (.aload_n 0, 1) := by decide +kernel
theorem dX10_codeOf_31 : decode cX10_codeOf 31 = .ok (.getfield 15, 3) := by decide +kernel
theorem dX10_codeOf_34 : decode cX10_codeOf 34 = .ok (.iload_n 1, 1) := by decide +kernel
theorem dX10_codeOf_35 : decode cX10_codeOf 35 = .ok (.iaload, 1) := by decide +kernel
theorem dX10_codeOf_36 : decode cX10_codeOf 36 = .ok (.iconst 1, 1) := by decide +kernel
theorem dX10_codeOf_37 : decode cX10_codeOf 37 = .ok (.if_icmp .ne 7, 3) := by decide +kernel
theorem dX10_codeOf_40 : decode cX10_codeOf 40 = .ok (.iconst 1, 1) := by decide +kernel
theorem dX10_codeOf_41 : decode cX10_codeOf 41 = .ok (.goto 4, 3) := by decide +kernel
theorem dX10_codeOf_44 : decode cX10_codeOf 44 = .ok (.iconst 0, 1) := by decide +kernel
theorem dX10_codeOf_45 : decode cX10_codeOf 45 = .ok (.istore_n 2, 1) := by decide +kernel
theorem dX10_codeOf_46 : decode cX10_codeOf 46 = .ok (.iload_n 2, 1) := by decide +kernel
theorem dX10_codeOf_47 : decode cX10_codeOf 47 = .ok (.ifCond .eq 13, 3) := by decide +kernel
theorem dX10_codeOf_50 : decode cX10_codeOf 50 = .ok (.aload_n 0, 1) := by decide +kernel
theorem dX10_codeOf_51 : decode cX10_codeOf 51 = .ok (.getfield 25, 3) := by decide +kernel
theorem dX10_codeOf_54 : decode cX10_codeOf 54 = .ok (.iload_n 1, 1) := by decide +kernel
theorem dX10_codeOf_55 : decode cX10_codeOf 55 = .ok (.laload, 1) := by decide +kernel
theorem dX10_codeOf_56 : decode cX10_codeOf 56 = .ok (.l2i, 1) := by decide +kernel
theorem dX10_codeOf_57 : decode cX10_codeOf 57 = .ok (.goto 4, 3) := by decide +kernel
theorem dX10_codeOf_60 : decode cX10_codeOf 60 = .ok (.iconst (-1), 1) := by decide +kernel
theorem dX10_codeOf_61 : decode cX10_codeOf 61 = .ok (.ireturn, 1) := by decide +kernel
theorem dX10_count_0 : decode cX10_count 0 = .ok (.aload_n 0, 1) := by decide +kernel
theorem dX10_count_1 : decode cX10_count 1 = .ok (.getfield 29, 3) := by decide +kernel
theorem dX10_count_4 : decode cX10_count 4 = .ok (.ireturn, 1) := by decide +kernel
theorem dX10_endOf_0 : decode cX10_endOf 0 = .ok (.iload_n 1, 1) := by decide +kernel
theorem dX10_endOf_1 : decode cX10_endOf 1 = .ok (.ifCond .lt 29, 3) := by decide +kernel
theorem dX10_endOf_4 : decode cX10_endOf 4 = .ok (.iload_n 1, 1) := by decide +kernel
theorem dX10_endOf_5 : decode cX10_endOf 5 = .ok (.aload_n 0, 1) := by decide +kernel
theorem dX10_endOf_6 : decode cX10_endOf 6 = .ok (.getfield 29, 3) := by decide +kernel
theorem dX10_endOf_9 : decode cX10_endOf 9 = .ok (.if_icmp .ge 21, 3) := by decide +kernel
theorem dX10_endOf_12 : decode cX10_endOf 12 = .ok (.iload_n 1, 1) := by decide +kernel
theorem dX10_endOf_13 : decode cX10_endOf 13 = .ok (.aload_n 0, 1) := by decide +kernel
theorem dX10_endOf_14 : decode cX10_endOf 14 = .ok (.getfield 22, 3) := by decide +kernel
theorem dX10_endOf_17 : decode cX10_endOf 17 = .ok (.arraylength, 1) := by decide +kernel
theorem dX10_endOf_18 : decode cX10_endOf 18 = .ok (.if_icmp .ge 12, 3) := by decide +kernel
theorem dX10_endOf_21 : decode cX10_endOf 21 = .ok (.aload_n 0, 1) := by decide +kernel
theorem dX10_endOf_22 : decode cX10_endOf 22 = .ok (.getfield 22, 3) := by decide +kernel
theorem dX10_endOf_25 : decode cX10_endOf 25 = .ok (.iload_n 1, 1) := by decide +kernel
theorem dX10_endOf_26 : decode cX10_endOf 26 = .ok (.iaload, 1) := by decide +kernel
theorem dX10_endOf_27 : decode cX10_endOf 27 = .ok (.goto 7, 3) := by decide +kernel
theorem dX10_endOf_30 : decode cX10_endOf 30 = .ok (.aload_n 0, 1) := by decide +kernel
theorem dX10_endOf_31 : decode cX10_endOf 31 = .ok (.getfield 33, 3) := by decide +kernel
theorem dX10_endOf_34 : decode cX10_endOf 34 = .ok (.ireturn, 1) := by decide +kernel
theorem dX10_isSign_0 : decode cX10_isSign 0 = .ok (.iload_n 1, 1) := by decide +kernel
theorem dX10_isSign_1 : decode cX10_isSign 1 = .ok (.ifCond .lt 55, 3) := by decide +kernel
theorem dX10_isSign_4 : decode cX10_isSign 4 = .ok (.iload_n 1, 1) := by decide +kernel
theorem dX10_isSign_5 : decode cX10_isSign 5 = .ok (.aload_n 0, 1) := by decide +kernel
theorem dX10_isSign_6 : decode cX10_isSign 6 = .ok (.getfield 29, 3) := by decide +kernel
theorem dX10_isSign_9 : decode cX10_isSign 9 = .ok (.if_icmp .ge 47, 3) := by decide +kernel
theorem dX10_isSign_12 : decode cX10_isSign 12 = .ok (.iload_n 1, 1) := by decide +kernel
theorem dX10_isSign_13 : decode cX10_isSign 13 = .ok (.aload_n 0, 1) := by decide +kernel
theorem dX10_isSign_14 : decode cX10_isSign 14 = .ok (.getfield 15, 3) := by decide +kernel
theorem dX10_isSign_17 : decode cX10_isSign 17 = .ok (.arraylength, 1) := by decide +kernel
theorem dX10_isSign_18 : decode cX10_isSign 18 = .ok (.if_icmp .ge 38, 3) := by decide +kernel
theorem dX10_isSign_21 : decode cX10_isSign 21 = .ok (.iload_n 1, 1) := by decide +kernel
theorem dX10_isSign_22 : decode cX10_isSign 22 = .ok (.aload_n 0, 1) := by decide +kernel
theorem dX10_isSign_23 : decode cX10_isSign 23 = .ok (.getfield 25, 3) := by decide +kernel
theorem dX10_isSign_26 : decode cX10_isSign 26 = .ok (.arraylength, 1) := by decide +kernel
theorem dX10_isSign_27 : decode cX10_isSign 27 = .ok (.if_icmp .ge 29, 3) := by decide +kernel
theorem dX10_isSign_30 : decode cX10_isSign 30 = .ok (.aload_n 0, 1) := by decide +kernel
theorem dX10_isSign_31 : decode cX10_isSign 31 = .ok (.getfield 15, 3) := by decide +kernel
theorem dX10_isSign_34 : decode cX10_isSign 34 = .ok (.iload_n 1, 1) := by decide +kernel
theorem dX10_isSign_35 : decode cX10_isSign 35 = .ok (.iaload, 1) := by decide +kernel
theorem dX10_isSign_36 : decode cX10_isSign 36 = .ok (.iconst 4, 1) := by decide +kernel
theorem dX10_isSign_37 : decode cX10_isSign 37 = .ok (.if_icmp .ne 19, 3) := by decide +kernel
theorem dX10_isSign_40 : decode cX10_isSign 40 = .ok (.aload_n 0, 1) := by decide +kernel
theorem dX10_isSign_41 : decode cX10_isSign 41 = .ok (.getfield 25, 3) := by decide +kernel
theorem dX10_isSign_44 : decode cX10_isSign 44 = .ok (.iload_n 1, 1) := by decide +kernel
theorem dX10_isSign_45 : decode cX10_isSign 45 = .ok (.laload, 1) := by decide +kernel
theorem dX10_isSign_46 : decode cX10_isSign 46 = .ok (.iload_n 2, 1) := by decide +kernel
theorem dX10_isSign_47 : decode cX10_isSign 47 = .ok (.i2l, 1) := by decide +kernel
theorem dX10_isSign_48 : decode cX10_isSign 48 = .ok (.lcmp, 1) := by decide +kernel
theorem dX10_isSign_49 : decode cX10_isSign 49 = .ok (.ifCond .ne 7, 3) := by decide +kernel
theorem dX10_isSign_52 : decode cX10_isSign 52 = .ok (.iconst 1, 1) := by decide +kernel
theorem dX10_isSign_53 : decode cX10_isSign 53 = .ok (.goto 4, 3) := by decide +kernel
theorem dX10_isSign_56 : decode cX10_isSign 56 = .ok (.iconst 0, 1) := by decide +kernel
theorem dX10_isSign_57 : decode cX10_isSign 57 = .ok (.ireturn, 1) := by decide +kernel
theorem dX10_kindOf_0 : decode cX10_kindOf 0 = .ok (.iload_n 1, 1) := by decide +kernel
theorem dX10_kindOf_1 : decode cX10_kindOf 1 = .ok (.ifCond .lt 29, 3) := by decide +kernel
theorem dX10_kindOf_4 : decode cX10_kindOf 4 = .ok (.iload_n 1, 1) := by decide +kernel
theorem dX10_kindOf_5 : decode cX10_kindOf 5 = .ok (.aload_n 0, 1) := by decide +kernel
theorem dX10_kindOf_6 : decode cX10_kindOf 6 = .ok (.getfield 29, 3) := by decide +kernel
theorem dX10_kindOf_9 : decode cX10_kindOf 9 = .ok (.if_icmp .ge 21, 3) := by decide +kernel
theorem dX10_kindOf_12 : decode cX10_kindOf 12 = .ok (.iload_n 1, 1) := by decide +kernel
theorem dX10_kindOf_13 : decode cX10_kindOf 13 = .ok (.aload_n 0, 1) := by decide +kernel
theorem dX10_kindOf_14 : decode cX10_kindOf 14 = .ok (.getfield 15, 3) := by decide +kernel
theorem dX10_kindOf_17 : decode cX10_kindOf 17 = .ok (.arraylength, 1) := by decide +kernel
theorem dX10_kindOf_18 : decode cX10_kindOf 18 = .ok (.if_icmp .ge 12, 3) := by decide +kernel
theorem dX10_kindOf_21 : decode cX10_kindOf 21 = .ok (.aload_n 0, 1) := by decide +kernel
theorem dX10_kindOf_22 : decode cX10_kindOf 22 = .ok (.getfield 15, 3) := by decide +kernel
theorem dX10_kindOf_25 : decode cX10_kindOf 25 = .ok (.iload_n 1, 1) := by decide +kernel
theorem dX10_kindOf_26 : decode cX10_kindOf 26 = .ok (.iaload, 1) := by decide +kernel
theorem dX10_kindOf_27 : decode cX10_kindOf 27 = .ok (.goto 4, 3) := by decide +kernel
theorem dX10_kindOf_30 : decode cX10_kindOf 30 = .ok (.iconst 0, 1) := by decide +kernel
theorem dX10_kindOf_31 : decode cX10_kindOf 31 = .ok (.ireturn, 1) := by decide +kernel
theorem dX10_split_0 : decode cX10_split 0 = .ok (.aload_n 0, 1) := by decide +kernel
theorem dX10_split_1 : decode cX10_split 1 = .ok (.iconst 0, 1) := by decide +kernel
theorem dX10_split_2 : decode cX10_split 2 = .ok (.putfield 29, 3) := by decide +kernel
theorem dX10_split_5 : decode cX10_split 5 = .ok (.aload_n 0, 1) := by decide +kernel
theorem dX10_split_6 : decode cX10_split 6 = .ok (.aload_n 0, 1) := by decide +kernel
theorem dX10_split_7 : decode cX10_split 7 = .ok (.getfield 9, 3) := by decide +kernel
theorem dX10_split_10 : decode cX10_split 10 = .ok (.invokevirtual 38, 3) := by decide +kernel
theorem dX10_split_13 : decode cX10_split 13 = .ok (.putfield 33, 3) := by decide +kernel
theorem dX10_split_16 : decode cX10_split 16 = .ok (.aload_n 0, 1) := by decide +kernel
theorem dX10_split_17 : decode cX10_split 17 = .ok (.iconst 0, 1) := by decide +kernel
theorem dX10_split_18 : decode cX10_split 18 = .ok (.putfield 44, 3) := by decide +kernel
theorem dX10_split_21 : decode cX10_split 21 = .ok (.iconst 0, 1) := by decide +kernel
theorem dX10_split_22 : decode cX10_split 22 = .ok (.istore_n 1, 1) := by decide +kernel
theorem dX10_split_23 : decode cX10_split 23 = .ok (.iconst 0, 1) := by decide +kernel
theorem dX10_split_24 : decode cX10_split 24 = .ok (.istore_n 2, 1) := by decide +kernel
theorem dX10_split_25 : decode cX10_split 25 = .ok (.iload_n 2, 1) := by decide +kernel
theorem dX10_split_26 : decode cX10_split 26 = .ok (.sipush 700, 3) := by decide +kernel
theorem dX10_split_29 : decode cX10_split 29 = .ok (.if_icmp .gt 27, 3) := by decide +kernel
theorem dX10_split_32 : decode cX10_split 32 = .ok (.aload_n 0, 1) := by decide +kernel
theorem dX10_split_33 : decode cX10_split 33 = .ok (.iload_n 1, 1) := by decide +kernel
theorem dX10_split_34 : decode cX10_split 34 = .ok (.invokevirtual 48, 3) := by decide +kernel
theorem dX10_split_37 : decode cX10_split 37 = .ok (.istore_n 3, 1) := by decide +kernel
theorem dX10_split_38 : decode cX10_split 38 = .ok (.aload_n 0, 1) := by decide +kernel
theorem dX10_split_39 : decode cX10_split 39 = .ok (.iload_n 3, 1) := by decide +kernel
theorem dX10_split_40 : decode cX10_split 40 = .ok (.invokevirtual 52, 3) := by decide +kernel
theorem dX10_split_43 : decode cX10_split 43 = .ok (.istore_n 1, 1) := by decide +kernel
theorem dX10_split_44 : decode cX10_split 44 = .ok (.iload_n 1, 1) := by decide +kernel
theorem dX10_split_45 : decode cX10_split 45 = .ok (.iload_n 3, 1) := by decide +kernel
theorem dX10_split_46 : decode cX10_split 46 = .ok (.if_icmp .gt 4, 3) := by decide +kernel
theorem dX10_split_49 : decode cX10_split 49 = .ok (.return_, 1) := by decide +kernel
theorem dX10_split_50 : decode cX10_split 50 = .ok (.iinc 2 1, 3) := by decide +kernel
theorem dX10_split_53 : decode cX10_split 53 = .ok (.goto (-28), 3) := by decide +kernel
theorem dX10_split_56 : decode cX10_split 56 = .ok (.return_, 1) := by decide +kernel
theorem dX10_startOf_0 : decode cX10_startOf 0 = .ok (.iload_n 1, 1) := by decide +kernel
theorem dX10_startOf_1 : decode cX10_startOf 1 = .ok (.ifCond .lt 29, 3) := by decide +kernel
theorem dX10_startOf_4 : decode cX10_startOf 4 = .ok (.iload_n 1, 1) := by decide +kernel
theorem dX10_startOf_5 : decode cX10_startOf 5 = .ok (.aload_n 0, 1) := by decide +kernel
theorem dX10_startOf_6 : decode cX10_startOf 6 = .ok (.getfield 29, 3) := by decide +kernel
theorem dX10_startOf_9 : decode cX10_startOf 9 = .ok (.if_icmp .ge 21, 3) := by decide +kernel
theorem dX10_startOf_12 : decode cX10_startOf 12 = .ok (.iload_n 1, 1) := by decide +kernel
theorem dX10_startOf_13 : decode cX10_startOf 13 = .ok (.aload_n 0, 1) := by decide +kernel
theorem dX10_startOf_14 : decode cX10_startOf 14 = .ok (.getfield 19, 3) := by decide +kernel
theorem dX10_startOf_17 : decode cX10_startOf 17 = .ok (.arraylength, 1) := by decide +kernel
theorem dX10_startOf_18 : decode cX10_startOf 18 = .ok (.if_icmp .ge 12, 3) := by decide +kernel
theorem dX10_startOf_21 : decode cX10_startOf 21 = .ok (.aload_n 0, 1) := by decide +kernel
theorem dX10_startOf_22 : decode cX10_startOf 22 = .ok (.getfield 19, 3) := by decide +kernel
theorem dX10_startOf_25 : decode cX10_startOf 25 = .ok (.iload_n 1, 1) := by decide +kernel
theorem dX10_startOf_26 : decode cX10_startOf 26 = .ok (.iaload, 1) := by decide +kernel
theorem dX10_startOf_27 : decode cX10_startOf 27 = .ok (.goto 7, 3) := by decide +kernel
theorem dX10_startOf_30 : decode cX10_startOf 30 = .ok (.aload_n 0, 1) := by decide +kernel
theorem dX10_startOf_31 : decode cX10_startOf 31 = .ok (.getfield 33, 3) := by decide +kernel
theorem dX10_startOf_34 : decode cX10_startOf 34 = .ok (.ireturn, 1) := by decide +kernel
theorem dX10_valueOf_0 : decode cX10_valueOf 0 = .ok (.iload_n 1, 1) := by decide +kernel
theorem dX10_valueOf_1 : decode cX10_valueOf 1 = .ok (.ifCond .lt 29, 3) := by decide +kernel
theorem dX10_valueOf_4 : decode cX10_valueOf 4 = .ok (.iload_n 1, 1) := by decide +kernel
theorem dX10_valueOf_5 : decode cX10_valueOf 5 = .ok (.aload_n 0, 1) := by decide +kernel
theorem dX10_valueOf_6 : decode cX10_valueOf 6 = .ok (.getfield 29, 3) := by decide +kernel
theorem dX10_valueOf_9 : decode cX10_valueOf 9 = .ok (.if_icmp .ge 21, 3) := by decide +kernel
theorem dX10_valueOf_12 : decode cX10_valueOf 12 = .ok (.iload_n 1, 1) := by decide +kernel
theorem dX10_valueOf_13 : decode cX10_valueOf 13 = .ok (.aload_n 0, 1) := by decide +kernel
theorem dX10_valueOf_14 : decode cX10_valueOf 14 = .ok (.getfield 25, 3) := by decide +kernel
theorem dX10_valueOf_17 : decode cX10_valueOf 17 = .ok (.arraylength, 1) := by decide +kernel
theorem dX10_valueOf_18 : decode cX10_valueOf 18 = .ok (.if_icmp .ge 12, 3) := by decide +kernel
theorem dX10_valueOf_21 : decode cX10_valueOf 21 = .ok (.aload_n 0, 1) := by decide +kernel
theorem dX10_valueOf_22 : decode cX10_valueOf 22 = .ok (.getfield 25, 3) := by decide +kernel
theorem dX10_valueOf_25 : decode cX10_valueOf 25 = .ok (.iload_n 1, 1) := by decide +kernel
theorem dX10_valueOf_26 : decode cX10_valueOf 26 = .ok (.laload, 1) := by decide +kernel
theorem dX10_valueOf_27 : decode cX10_valueOf 27 = .ok (.goto 6, 3) := by decide +kernel
theorem dX10_valueOf_30 : decode cX10_valueOf 30 = .ok (.ldc2_w 36, 3) := by decide +kernel
theorem dX10_valueOf_33 : decode cX10_valueOf 33 = .ok (.lreturn, 1) := by decide +kernel
theorem dX2_schema_0 : decode cX2_schema 0 = .ok (.aload_n 0, 1) := by decide +kernel
theorem dX2_schema_1 : decode cX2_schema 1 = .ok (.getfield 12, 3) := by decide +kernel
theorem dX2_schema_4 : decode cX2_schema 4 = .ok (.areturn, 1) := by decide +kernel
theorem dX6_item_0 : decode cX6_item 0 = .ok (.iload_n 1, 1) := by decide +kernel
theorem dX6_item_1 : decode cX6_item 1 = .ok (.ifCond .lt 29, 3) := by decide +kernel
theorem dX6_item_4 : decode cX6_item 4 = .ok (.iload_n 1, 1) := by decide +kernel
theorem dX6_item_5 : decode cX6_item 5 = .ok (.aload_n 0, 1) := by decide +kernel
theorem dX6_item_6 : decode cX6_item 6 = .ok (.getfield 34, 3) := by decide +kernel
theorem dX6_item_9 : decode cX6_item 9 = .ok (.if_icmp .ge 21, 3) := by decide +kernel
theorem dX6_item_12 : decode cX6_item 12 = .ok (.iload_n 1, 1) := by decide +kernel
theorem dX6_item_13 : decode cX6_item 13 = .ok (.aload_n 0, 1) := by decide +kernel
theorem dX6_item_14 : decode cX6_item 14 = .ok (.getfield 22, 3) := by decide +kernel
theorem dX6_item_17 : decode cX6_item 17 = .ok (.arraylength, 1) := by decide +kernel
theorem dX6_item_18 : decode cX6_item 18 = .ok (.if_icmp .ge 12, 3) := by decide +kernel
theorem dX6_item_21 : decode cX6_item 21 = .ok (.aload_n 0, 1) := by decide +kernel
theorem dX6_item_22 : decode cX6_item 22 = .ok (.getfield 22, 3) := by decide +kernel
theorem dX6_item_25 : decode cX6_item 25 = .ok (.iload_n 1, 1) := by decide +kernel
theorem dX6_item_26 : decode cX6_item 26 = .ok (.aaload, 1) := by decide +kernel
theorem dX6_item_27 : decode cX6_item 27 = .ok (.goto 4, 3) := by decide +kernel
theorem dX6_item_30 : decode cX6_item 30 = .ok (.aconst_null, 1) := by decide +kernel
theorem dX6_item_31 : decode cX6_item 31 = .ok (.areturn, 1) := by decide +kernel
theorem dX6_message_0 : decode cX6_message 0 = .ok (.iconst 0, 1) := by decide +kernel
theorem dX6_message_1 : decode cX6_message 1 = .ok (.istore_n 2, 1) := by decide +kernel
theorem dX6_message_2 : decode cX6_message 2 = .ok (.iload_n 2, 1) := by decide +kernel
theorem dX6_message_3 : decode cX6_message 3 = .ok (.aload_n 0, 1) := by decide +kernel
theorem dX6_message_4 : decode cX6_message 4 = .ok (.getfield 34, 3) := by decide +kernel
theorem dX6_message_7 : decode cX6_message 7 = .ok (.if_icmp .ge 36, 3) := by decide +kernel
theorem dX6_message_10 : decode cX6_message 10 = .ok (.aload_n 0, 1) := by decide +kernel
theorem dX6_message_11 : decode cX6_message 11 = .ok (.iload_n 2, 1) := by decide +kernel
theorem dX6_message_12 : decode cX6_message 12 = .ok (.invokevirtual 45, 3) := by decide +kernel
theorem dX6_message_15 : decode cX6_message 15 = .ok (.astore_n 3, 1) := by decide +kernel
theorem dX6_message_16 : decode cX6_message 16 = .ok (.aload_n 3, 1) := by decide +kernel
theorem dX6_message_17 : decode cX6_message 17 = .ok (.ifnull 20, 3) := by decide +kernel
theorem dX6_message_20 : decode cX6_message 20 = .ok (.aload_n 3, 1) := by decide +kernel
theorem dX6_message_21 : decode cX6_message 21 = .ok (.getfield 49, 3) := by decide +kernel
theorem dX6_message_24 : decode cX6_message 24 = .ok (.ifCond .ne 13, 3) := by decide +kernel
theorem dX6_message_27 : decode cX6_message 27 = .ok (.aload_n 3, 1) := by decide +kernel
theorem dX6_message_28 : decode cX6_message 28 = .ok (.getfield 52, 3) := by decide +kernel
theorem dX6_message_31 : decode cX6_message 31 = .ok (.iload_n 1, 1) := by decide +kernel
theorem dX6_message_32 : decode cX6_message 32 = .ok (.if_icmp .ne 5, 3) := by decide +kernel
theorem dX6_message_35 : decode cX6_message 35 = .ok (.aload_n 3, 1) := by decide +kernel
theorem dX6_message_36 : decode cX6_message 36 = .ok (.areturn, 1) := by decide +kernel
theorem dX6_message_37 : decode cX6_message 37 = .ok (.iinc 2 1, 3) := by decide +kernel
theorem dX6_message_40 : decode cX6_message 40 = .ok (.goto (-38), 3) := by decide +kernel
theorem dX6_message_43 : decode cX6_message 43 = .ok (.aconst_null, 1) := by decide +kernel
theorem dX6_message_44 : decode cX6_message 44 = .ok (.areturn, 1) := by decide +kernel
theorem dX1_enter_0 : decode cX1_enter 0 = .ok (.aload_n 1, 1) := by decide +kernel
theorem dX1_enter_1 : decode cX1_enter 1 = .ok (.ifnull 38, 3) := by decide +kernel
theorem dX1_enter_4 : decode cX1_enter 4 = .ok (.aload_n 2, 1) := by decide +kernel
theorem dX1_enter_5 : decode cX1_enter 5 = .ok (.ifnull 34, 3) := by decide +kernel
theorem dX1_enter_8 : decode cX1_enter 8 = .ok (.aload_n 0, 1) := by decide +kernel
theorem dX1_enter_9 : decode cX1_enter 9 = .ok (.getfield 28, 3) := by decide +kernel
theorem dX1_enter_12 : decode cX1_enter 12 = .ok (.ifCond .lt 27, 3) := by decide +kernel
theorem dX1_enter_15 : decode cX1_enter 15 = .ok (.aload_n 0, 1) := by decide +kernel
theorem dX1_enter_16 : decode cX1_enter 16 = .ok (.getfield 28, 3) := by decide +kernel
theorem dX1_enter_19 : decode cX1_enter 19 = .ok (.aload_n 0, 1) := by decide +kernel
theorem dX1_enter_20 : decode cX1_enter 20 = .ok (.getfield 17, 3) := by decide +kernel
theorem dX1_enter_23 : decode cX1_enter 23 = .ok (.arraylength, 1) := by decide +kernel
theorem dX1_enter_24 : decode cX1_enter 24 = .ok (.if_icmp .ge 15, 3) := by decide +kernel
theorem dX1_enter_27 : decode cX1_enter 27 = .ok (.aload_n 0, 1) := by decide +kernel
theorem dX1_enter_28 : decode cX1_enter 28 = .ok (.getfield 28, 3) := by decide +kernel
theorem dX1_enter_31 : decode cX1_enter 31 = .ok (.aload_n 0, 1) := by decide +kernel
theorem dX1_enter_32 : decode cX1_enter 32 = .ok (.getfield 21, 3) := by decide +kernel
theorem dX1_enter_35 : decode cX1_enter 35 = .ok (.arraylength, 1) := by decide +kernel
theorem dX1_enter_36 : decode cX1_enter 36 = .ok (.if_icmp .lt 5, 3) := by decide +kernel
theorem dX1_enter_39 : decode cX1_enter 39 = .ok (.iconst 0, 1) := by decide +kernel
theorem dX1_enter_40 : decode cX1_enter 40 = .ok (.ireturn, 1) := by decide +kernel
theorem dX1_enter_41 : decode cX1_enter 41 = .ok (.aload_n 1, 1) := by decide +kernel
theorem dX1_enter_42 : decode cX1_enter 42 = .ok (.getfield 44, 3) := by decide +kernel
theorem dX1_enter_45 : decode cX1_enter 45 = .ok (.bipush 16, 2) := by decide +kernel
theorem dX1_enter_47 : decode cX1_enter 47 = .ok (.imul, 1) := by decide +kernel
theorem dX1_enter_48 : decode cX1_enter 48 = .ok (.aload_n 2, 1) := by decide +kernel
theorem dX1_enter_49 : decode cX1_enter 49 = .ok (.getfield 44, 3) := by decide +kernel
theorem dX1_enter_52 : decode cX1_enter 52 = .ok (.iadd, 1) := by decide +kernel
theorem dX1_enter_53 : decode cX1_enter 53 = .ok (.istore_n 3, 1) := by decide +kernel
theorem dX1_enter_54 : decode cX1_enter 54 = .ok (.iload_n 3, 1) := by decide +kernel
theorem dX1_enter_55 : decode cX1_enter 55 = .ok (.ifCond .lt 21, 3) := by decide +kernel
theorem dX1_enter_58 : decode cX1_enter 58 = .ok (.iload_n 3, 1) := by decide +kernel
theorem dX1_enter_59 : decode cX1_enter 59 = .ok (.aload_n 0, 1) := by decide +kernel
theorem dX1_enter_60 : decode cX1_enter 60 = .ok (.getfield 24, 3) := by decide +kernel
theorem dX1_enter_63 : decode cX1_enter 63 = .ok (.arraylength, 1) := by decide +kernel
theorem dX1_enter_64 : decode cX1_enter 64 = .ok (.if_icmp .ge 12, 3) := by decide +kernel
theorem dX1_enter_67 : decode cX1_enter 67 = .ok (.aload_n 0, 1) := by decide +kernel
theorem dX1_enter_68 : decode cX1_enter 68 = .ok (.getfield 24, 3) := by decide +kernel
theorem dX1_enter_71 : decode cX1_enter 71 = .ok (.iload_n 3, 1) := by decide +kernel
theorem dX1_enter_72 : decode cX1_enter 72 = .ok (.baload, 1) := by decide +kernel
theorem dX1_enter_73 : decode cX1_enter 73 = .ok (.ifCond .eq 5, 3) := by decide +kernel
theorem dX1_enter_76 : decode cX1_enter 76 = .ok (.iconst 0, 1) := by decide +kernel
theorem dX1_enter_77 : decode cX1_enter 77 = .ok (.ireturn, 1) := by decide +kernel
theorem dX1_enter_78 : decode cX1_enter 78 = .ok (.aload_n 0, 1) := by decide +kernel
theorem dX1_enter_79 : decode cX1_enter 79 = .ok (.getfield 24, 3) := by decide +kernel
theorem dX1_enter_82 : decode cX1_enter 82 = .ok (.iload_n 3, 1) := by decide +kernel
theorem dX1_enter_83 : decode cX1_enter 83 = .ok (.iconst 1, 1) := by decide +kernel
theorem dX1_enter_84 : decode cX1_enter 84 = .ok (.bastore, 1) := by decide +kernel
theorem dX1_enter_85 : decode cX1_enter 85 = .ok (.aload_n 0, 1) := by decide +kernel
theorem dX1_enter_86 : decode cX1_enter 86 = .ok (.getfield 17, 3) := by decide +kernel
theorem dX1_enter_89 : decode cX1_enter 89 = .ok (.aload_n 0, 1) := by decide +kernel
theorem dX1_enter_90 : decode cX1_enter 90 = .ok (.getfield 28, 3) := by decide +kernel
theorem dX1_enter_93 : decode cX1_enter 93 = .ok (.aload_n 1, 1) := by decide +kernel
theorem dX1_enter_94 : decode cX1_enter 94 = .ok (.getfield 47, 3) := by decide +kernel
theorem dX1_enter_97 : decode cX1_enter 97 = .ok (.aastore, 1) := by decide +kernel
theorem dX1_enter_98 : decode cX1_enter 98 = .ok (.aload_n 0, 1) := by decide +kernel
theorem dX1_enter_99 : decode cX1_enter 99 = .ok (.getfield 21, 3) := by decide +kernel
theorem dX1_enter_102 : decode cX1_enter 102 = .ok (.aload_n 0, 1) := by decide +kernel
theorem dX1_enter_103 : decode cX1_enter 103 = .ok (.getfield 28, 3) := by decide +kernel
theorem dX1_enter_106 : decode cX1_enter 106 = .ok (.aload_n 2, 1) := by decide +kernel
theorem dX1_enter_107 : decode cX1_enter 107 = .ok (.aastore, 1) := by decide +kernel
theorem dX1_enter_108 : decode cX1_enter 108 = .ok (.aload_n 0, 1) := by decide +kernel
theorem dX1_enter_109 : decode cX1_enter 109 = .ok (.dup, 1) := by decide +kernel
theorem dX1_enter_110 : decode cX1_enter 110 = .ok (.getfield 28, 3) := by decide +kernel
theorem dX1_enter_113 : decode cX1_enter 113 = .ok (.iconst 1, 1) := by decide +kernel
theorem dX1_enter_114 : decode cX1_enter 114 = .ok (.iadd, 1) := by decide +kernel
theorem dX1_enter_115 : decode cX1_enter 115 = .ok (.putfield 28, 3) := by decide +kernel
theorem dX1_enter_118 : decode cX1_enter 118 = .ok (.iconst 1, 1) := by decide +kernel
theorem dX1_enter_119 : decode cX1_enter 119 = .ok (.ireturn, 1) := by decide +kernel
theorem dX3_memberNumbered_0 : decode cX3_memberNumbered 0 = .ok (.aload_n 0, 1) := by decide +kernel
theorem dX3_memberNumbered_1 : decode cX3_memberNumbered 1 = .ok (.getfield 60, 3) := by decide +kernel
theorem dX3_memberNumbered_4 : decode cX3_memberNumbered 4 = .ok (.astore_n 3, 1) := by decide +kernel
theorem dX3_memberNumbered_5 : decode cX3_memberNumbered 5 = .ok (.aload_n 3, 1) := by decide +kernel
theorem dX3_memberNumbered_6 : decode cX3_memberNumbered 6 = .ok (.ifnull 20, 3) := by decide +kernel
theorem dX3_memberNumbered_9 : decode cX3_memberNumbered 9 = .ok (.aload_n 3, 1) := by decide +kernel
theorem dX3_memberNumbered_10 : decode cX3_memberNumbered 10 = .ok (.getfield 31, 3) := by decide +kernel
theorem dX3_memberNumbered_13 : decode cX3_memberNumbered 13 = .ok (.lload_n 1, 1) := by decide +kernel
theorem dX3_memberNumbered_14 : decode cX3_memberNumbered 14 = .ok (.lcmp, 1) := by decide +kernel
theorem dX3_memberNumbered_15 : decode cX3_memberNumbered 15 = .ok (.ifCond .eq 11, 3) := by decide +kernel
theorem dX3_memberNumbered_18 : decode cX3_memberNumbered 18 = .ok (.aload_n 3, 1) := by decide +kernel
theorem dX3_memberNumbered_19 : decode cX3_memberNumbered 19 = .ok (.getfield 63, 3) := by decide +kernel
theorem dX3_memberNumbered_22 : decode cX3_memberNumbered 22 = .ok (.astore_n 3, 1) := by decide +kernel
theorem dX3_memberNumbered_23 : decode cX3_memberNumbered 23 = .ok (.goto (-18), 3) := by decide +kernel
theorem dX3_memberNumbered_26 : decode cX3_memberNumbered 26 = .ok (.aload_n 3, 1) := by decide +kernel
theorem dX3_memberNumbered_27 : decode cX3_memberNumbered 27 = .ok (.areturn, 1) := by decide +kernel
theorem dX1_isUnderstood_0 : decode cX1_isUnderstood 0 = .ok (.iload_n 0, 1) := by decide +kernel
theorem dX1_isUnderstood_1 : decode cX1_isUnderstood 1 = .ok (.iload_n 1, 1) := by decide +kernel
theorem dX1_isUnderstood_2 : decode cX1_isUnderstood 2 = .ok (.if_icmp .ne 5, 3) := by decide +kernel
theorem dX1_isUnderstood_5 : decode cX1_isUnderstood 5 = .ok (.iconst 1, 1) := by decide +kernel
theorem dX1_isUnderstood_6 : decode cX1_isUnderstood 6 = .ok (.ireturn, 1) := by decide +kernel
theorem dX1_isUnderstood_7 : decode cX1_isUnderstood 7 = .ok (.iload_n 0, 1) := by decide +kernel
theorem dX1_isUnderstood_8 : decode cX1_isUnderstood 8 = .ok (.tableswitch 178 0 14 #[76, 178, 93, 178, 109, 178, 178, 178, 178, 178, 120, 166, 178, 178, 151], 76) := by decide +kernel
theorem dX1_isUnderstood_84 : decode cX1_isUnderstood 84 = .ok (.iload_n 1, 1) := by decide +kernel
theorem dX1_isUnderstood_85 : decode cX1_isUnderstood 85 = .ok (.iconst 1, 1) := by decide +kernel
theorem dX1_isUnderstood_86 : decode cX1_isUnderstood 86 = .ok (.if_icmp .eq 9, 3) := by decide +kernel
theorem dX1_isUnderstood_89 : decode cX1_isUnderstood 89 = .ok (.iload_n 1, 1) := by decide +kernel
theorem dX1_isUnderstood_90 : decode cX1_isUnderstood 90 = .ok (.bipush 14, 2) := by decide +kernel
theorem dX1_isUnderstood_92 : decode cX1_isUnderstood 92 = .ok (.if_icmp .ne 7, 3) := by decide +kernel
theorem dX1_isUnderstood_95 : decode cX1_isUnderstood 95 = .ok (.iconst 1, 1) := by decide +kernel
theorem dX1_isUnderstood_96 : decode cX1_isUnderstood 96 = .ok (.goto 4, 3) := by decide +kernel
theorem dX1_isUnderstood_99 : decode cX1_isUnderstood 99 = .ok (.iconst 0, 1) := by decide +kernel
theorem dX1_isUnderstood_100 : decode cX1_isUnderstood 100 = .ok (.ireturn, 1) := by decide +kernel
theorem dX1_isUnderstood_101 : decode cX1_isUnderstood 101 = .ok (.iload_n 1, 1) := by decide +kernel
theorem dX1_isUnderstood_102 : decode cX1_isUnderstood 102 = .ok (.iconst 3, 1) := by decide +kernel
theorem dX1_isUnderstood_103 : decode cX1_isUnderstood 103 = .ok (.if_icmp .eq 8, 3) := by decide +kernel
theorem dX1_isUnderstood_106 : decode cX1_isUnderstood 106 = .ok (.iload_n 1, 1) := by decide +kernel
theorem dX1_isUnderstood_107 : decode cX1_isUnderstood 107 = .ok (.iconst 1, 1) := by decide +kernel
theorem dX1_isUnderstood_108 : decode cX1_isUnderstood 108 = .ok (.if_icmp .ne 7, 3) := by decide +kernel
theorem dX1_isUnderstood_111 : decode cX1_isUnderstood 111 = .ok (.iconst 1, 1) := by decide +kernel
theorem dX1_isUnderstood_112 : decode cX1_isUnderstood 112 = .ok (.goto 4, 3) := by decide +kernel
theorem dX1_isUnderstood_115 : decode cX1_isUnderstood 115 = .ok (.iconst 0, 1) := by decide +kernel
theorem dX1_isUnderstood_116 : decode cX1_isUnderstood 116 = .ok (.ireturn, 1) := by decide +kernel
theorem dX1_isUnderstood_117 : decode cX1_isUnderstood 117 = .ok (.iload_n 1, 1) := by decide +kernel
theorem dX1_isUnderstood_118 : decode cX1_isUnderstood 118 = .ok (.iconst 5, 1) := by decide +kernel
theorem dX1_isUnderstood_119 : decode cX1_isUnderstood 119 = .ok (.if_icmp .ne 7, 3) := by decide +kernel
theorem dX1_isUnderstood_122 : decode cX1_isUnderstood 122 = .ok (.iconst 1, 1) := by decide +kernel
theorem dX1_isUnderstood_123 : decode cX1_isUnderstood 123 = .ok (.goto 4, 3) := by decide +kernel
theorem dX1_isUnderstood_126 : decode cX1_isUnderstood 126 = .ok (.iconst 0, 1) := by decide +kernel
theorem dX1_isUnderstood_127 : decode cX1_isUnderstood 127 = .ok (.ireturn, 1) := by decide +kernel
theorem dX1_isUnderstood_128 : decode cX1_isUnderstood 128 = .ok (.iload_n 1, 1) := by decide +kernel
theorem dX1_isUnderstood_129 : decode cX1_isUnderstood 129 = .ok (.ifCond .eq 24, 3) := by decide +kernel
theorem dX1_isUnderstood_132 : decode cX1_isUnderstood 132 = .ok (.iload_n 1, 1) := by decide +kernel
theorem dX1_isUnderstood_133 : decode cX1_isUnderstood 133 = .ok (.iconst 1, 1) := by decide +kernel
theorem dX1_isUnderstood_134 : decode cX1_isUnderstood 134 = .ok (.if_icmp .eq 19, 3) := by decide +kernel
theorem dX1_isUnderstood_137 : decode cX1_isUnderstood 137 = .ok (.iload_n 1, 1) := by decide +kernel
theorem dX1_isUnderstood_138 : decode cX1_isUnderstood 138 = .ok (.iconst 2, 1) := by decide +kernel
theorem dX1_isUnderstood_139 : decode cX1_isUnderstood 139 = .ok (.if_icmp .eq 14, 3) := by decide +kernel
theorem dX1_isUnderstood_142 : decode cX1_isUnderstood 142 = .ok (.iload_n 1, 1) := by decide +kernel
theorem dX1_isUnderstood_143 : decode cX1_isUnderstood 143 = .ok (.iconst 3, 1) := by decide +kernel
theorem dX1_isUnderstood_144 : decode cX1_isUnderstood 144 = .ok (.if_icmp .eq 9, 3) := by decide +kernel
theorem dX1_isUnderstood_147 : decode cX1_isUnderstood 147 = .ok (.iload_n 1, 1) := by decide +kernel
theorem dX1_isUnderstood_148 : decode cX1_isUnderstood 148 = .ok (.bipush 14, 2) := by decide +kernel
theorem dX1_isUnderstood_150 : decode cX1_isUnderstood 150 = .ok (.if_icmp .ne 7, 3) := by decide +kernel
theorem dX1_isUnderstood_153 : decode cX1_isUnderstood 153 = .ok (.iconst 1, 1) := by decide +kernel
theorem dX1_isUnderstood_154 : decode cX1_isUnderstood 154 = .ok (.goto 4, 3) := by decide +kernel
theorem dX1_isUnderstood_157 : decode cX1_isUnderstood 157 = .ok (.iconst 0, 1) := by decide +kernel
theorem dX1_isUnderstood_158 : decode cX1_isUnderstood 158 = .ok (.ireturn, 1) := by decide +kernel
theorem dX1_isUnderstood_159 : decode cX1_isUnderstood 159 = .ok (.iload_n 1, 1) := by decide +kernel
theorem dX1_isUnderstood_160 : decode cX1_isUnderstood 160 = .ok (.ifCond .eq 8, 3) := by decide +kernel
theorem dX1_isUnderstood_163 : decode cX1_isUnderstood 163 = .ok (.iload_n 1, 1) := by decide +kernel
theorem dX1_isUnderstood_164 : decode cX1_isUnderstood 164 = .ok (.iconst 1, 1) := by decide +kernel
theorem dX1_isUnderstood_165 : decode cX1_isUnderstood 165 = .ok (.if_icmp .ne 7, 3) := by decide +kernel
theorem dX1_isUnderstood_168 : decode cX1_isUnderstood 168 = .ok (.iconst 1, 1) := by decide +kernel
theorem dX1_isUnderstood_169 : decode cX1_isUnderstood 169 = .ok (.goto 4, 3) := by decide +kernel
theorem dX1_isUnderstood_172 : decode cX1_isUnderstood 172 = .ok (.iconst 0, 1) := by decide +kernel
theorem dX1_isUnderstood_173 : decode cX1_isUnderstood 173 = .ok (.ireturn, 1) := by decide +kernel
theorem dX1_isUnderstood_174 : decode cX1_isUnderstood 174 = .ok (.iload_n 1, 1) := by decide +kernel
theorem dX1_isUnderstood_175 : decode cX1_isUnderstood 175 = .ok (.bipush 12, 2) := by decide +kernel
theorem dX1_isUnderstood_177 : decode cX1_isUnderstood 177 = .ok (.if_icmp .ne 7, 3) := by decide +kernel
theorem dX1_isUnderstood_180 : decode cX1_isUnderstood 180 = .ok (.iconst 1, 1) := by decide +kernel
theorem dX1_isUnderstood_181 : decode cX1_isUnderstood 181 = .ok (.goto 4, 3) := by decide +kernel
theorem dX1_isUnderstood_184 : decode cX1_isUnderstood 184 = .ok (.iconst 0, 1) := by decide +kernel
theorem dX1_isUnderstood_185 : decode cX1_isUnderstood 185 = .ok (.ireturn, 1) := by decide +kernel
theorem dX1_isUnderstood_186 : decode cX1_isUnderstood 186 = .ok (.iconst 0, 1) := by decide +kernel
theorem dX1_isUnderstood_187 : decode cX1_isUnderstood 187 = .ok (.ireturn, 1) := by decide +kernel
theorem dX1_isTornApart_0 : decode cX1_isTornApart 0 = .ok (.aload_n 1, 1) := by decide +kernel
theorem dX1_isTornApart_1 : decode cX1_isTornApart 1 = .ok (.getfield 80, 3) := by decide +kernel
theorem dX1_isTornApart_4 : decode cX1_isTornApart 4 = .ok (.ifnull 14, 3) := by decide +kernel
theorem dX1_isTornApart_7 : decode cX1_isTornApart 7 = .ok (.aload_n 0, 1) := by decide +kernel
theorem dX1_isTornApart_8 : decode cX1_isTornApart 8 = .ok (.getfield 83, 3) := by decide +kernel
theorem dX1_isTornApart_11 : decode cX1_isTornApart 11 = .ok (.ifnull 7, 3) := by decide +kernel
theorem dX1_isTornApart_14 : decode cX1_isTornApart 14 = .ok (.aload_n 2, 1) := by decide +kernel
theorem dX1_isTornApart_15 : decode cX1_isTornApart 15 = .ok (.ifnonnull 5, 3) := by decide +kernel
theorem dX1_isTornApart_18 : decode cX1_isTornApart 18 = .ok (.iconst 0, 1) := by decide +kernel
theorem dX1_isTornApart_19 : decode cX1_isTornApart 19 = .ok (.ireturn, 1) := by decide +kernel
theorem dX1_isTornApart_20 : decode cX1_isTornApart 20 = .ok (.aload_n 0, 1) := by decide +kernel
theorem dX1_isTornApart_21 : decode cX1_isTornApart 21 = .ok (.getfield 83, 3) := by decide +kernel
theorem dX1_isTornApart_24 : decode cX1_isTornApart 24 = .ok (.getfield 47, 3) := by decide +kernel
theorem dX1_isTornApart_27 : decode cX1_isTornApart 27 = .ok (.astore_n 3, 1) := by decide +kernel
theorem dX1_isTornApart_28 : decode cX1_isTornApart 28 = .ok (.aload_n 3, 1) := by decide +kernel
theorem dX1_isTornApart_29 : decode cX1_isTornApart 29 = .ok (.ifnull 75, 3) := by decide +kernel
theorem dX1_isTornApart_32 : decode cX1_isTornApart 32 = .ok (.aload_n 3, 1) := by decide +kernel
theorem dX1_isTornApart_33 : decode cX1_isTornApart 33 = .ok (.aload_n 0, 1) := by decide +kernel
theorem dX1_isTornApart_34 : decode cX1_isTornApart 34 = .ok (.if_acmp .eq 70, 3) := by decide +kernel
theorem dX1_isTornApart_37 : decode cX1_isTornApart 37 = .ok (.aload_n 2, 1) := by decide +kernel
theorem dX1_isTornApart_38 : decode cX1_isTornApart 38 = .ok (.aload_n 3, 1) := by decide +kernel
theorem dX1_isTornApart_39 : decode cX1_isTornApart 39 = .ok (.getfield 51, 3) := by decide +kernel
theorem dX1_isTornApart_42 : decode cX1_isTornApart 42 = .ok (.invokevirtual 55, 3) := by decide +kernel
theorem dX1_isTornApart_45 : decode cX1_isTornApart 45 = .ok (.astore 4, 2) := by decide +kernel
theorem dX1_isTornApart_47 : decode cX1_isTornApart 47 = .ok (.aload_n 3, 1) := by decide +kernel
theorem dX1_isTornApart_48 : decode cX1_isTornApart 48 = .ok (.getfield 80, 3) := by decide +kernel
theorem dX1_isTornApart_51 : decode cX1_isTornApart 51 = .ok (.ifnull 18, 3) := by decide +kernel
theorem dX1_isTornApart_54 : decode cX1_isTornApart 54 = .ok (.aload_n 3, 1) := by decide +kernel
theorem dX1_isTornApart_55 : decode cX1_isTornApart 55 = .ok (.getfield 80, 3) := by decide +kernel
theorem dX1_isTornApart_58 : decode cX1_isTornApart 58 = .ok (.aload_n 0, 1) := by decide +kernel
theorem dX1_isTornApart_59 : decode cX1_isTornApart 59 = .ok (.getfield 80, 3) := by decide +kernel
theorem dX1_isTornApart_62 : decode cX1_isTornApart 62 = .ok (.if_acmp .ne 7, 3) := by decide +kernel
theorem dX1_isTornApart_65 : decode cX1_isTornApart 65 = .ok (.iconst 1, 1) := by decide +kernel
theorem dX1_isTornApart_66 : decode cX1_isTornApart 66 = .ok (.goto 4, 3) := by decide +kernel
theorem dX1_isTornApart_69 : decode cX1_isTornApart 69 = .ok (.iconst 0, 1) := by decide +kernel
theorem dX1_isTornApart_70 : decode cX1_isTornApart 70 = .ok (.istore 5, 2) := by decide +kernel
theorem dX1_isTornApart_72 : decode cX1_isTornApart 72 = .ok (.aload 4, 2) := by decide +kernel
theorem dX1_isTornApart_74 : decode cX1_isTornApart 74 = .ok (.ifnull 22, 3) := by decide +kernel
theorem dX1_isTornApart_77 : decode cX1_isTornApart 77 = .ok (.aload 4, 2) := by decide +kernel
theorem dX1_isTornApart_79 : decode cX1_isTornApart 79 = .ok (.getfield 80, 3) := by decide +kernel
theorem dX1_isTornApart_82 : decode cX1_isTornApart 82 = .ok (.aload_n 1, 1) := by decide +kernel
theorem dX1_isTornApart_83 : decode cX1_isTornApart 83 = .ok (.getfield 80, 3) := by decide +kernel
theorem dX1_isTornApart_86 : decode cX1_isTornApart 86 = .ok (.if_acmp .ne 10, 3) := by decide +kernel
theorem dX1_isTornApart_89 : decode cX1_isTornApart 89 = .ok (.iload 5, 2) := by decide +kernel
theorem dX1_isTornApart_91 : decode cX1_isTornApart 91 = .ok (.ifCond .ne 5, 3) := by decide +kernel
theorem dX1_isTornApart_94 : decode cX1_isTornApart 94 = .ok (.iconst 1, 1) := by decide +kernel
theorem dX1_isTornApart_95 : decode cX1_isTornApart 95 = .ok (.ireturn, 1) := by decide +kernel
theorem dX1_isTornApart_96 : decode cX1_isTornApart 96 = .ok (.aload_n 3, 1) := by decide +kernel
theorem dX1_isTornApart_97 : decode cX1_isTornApart 97 = .ok (.getfield 59, 3) := by decide +kernel
theorem dX1_isTornApart_100 : decode cX1_isTornApart 100 = .ok (.astore_n 3, 1) := by decide +kernel
theorem dX1_isTornApart_101 : decode cX1_isTornApart 101 = .ok (.goto (-73), 3) := by decide +kernel
theorem dX1_isTornApart_104 : decode cX1_isTornApart 104 = .ok (.iconst 0, 1) := by decide +kernel
theorem dX1_isTornApart_105 : decode cX1_isTornApart 105 = .ok (.ireturn, 1) := by decide +kernel
theorem dX1_look_0 : decode cX1_look 0 = .ok (.aload_n 0, 1) := by decide +kernel
theorem dX1_look_1 : decode cX1_look 1 = .ok (.getfield 28, 3) := by decide +kernel
theorem dX1_look_4 : decode cX1_look 4 = .ok (.iconst 1, 1) := by decide +kernel
theorem dX1_look_5 : decode cX1_look 5 = .ok (.isub, 1) := by decide +kernel
theorem dX1_look_6 : decode cX1_look 6 = .ok (.istore_n 1, 1) := by decide +kernel
theorem dX1_look_7 : decode cX1_look 7 = .ok (.iload_n 1, 1) := by decide +kernel
theorem dX1_look_8 : decode cX1_look 8 = .ok (.ifCond .lt 21, 3) := by decide +kernel
theorem dX1_look_11 : decode cX1_look 11 = .ok (.iload_n 1, 1) := by decide +kernel
theorem dX1_look_12 : decode cX1_look 12 = .ok (.aload_n 0, 1) := by decide +kernel
theorem dX1_look_13 : decode cX1_look 13 = .ok (.getfield 17, 3) := by decide +kernel
theorem dX1_look_16 : decode cX1_look 16 = .ok (.arraylength, 1) := by decide +kernel
theorem dX1_look_17 : decode cX1_look 17 = .ok (.if_icmp .ge 12, 3) := by decide +kernel
theorem dX1_look_20 : decode cX1_look 20 = .ok (.iload_n 1, 1) := by decide +kernel
theorem dX1_look_21 : decode cX1_look 21 = .ok (.aload_n 0, 1) := by decide +kernel
theorem dX1_look_22 : decode cX1_look 22 = .ok (.getfield 21, 3) := by decide +kernel
theorem dX1_look_25 : decode cX1_look 25 = .ok (.arraylength, 1) := by decide +kernel
theorem dX1_look_26 : decode cX1_look 26 = .ok (.if_icmp .lt 5, 3) := by decide +kernel
theorem dX1_look_29 : decode cX1_look 29 = .ok (.iconst 0, 1) := by decide +kernel
theorem dX1_look_30 : decode cX1_look 30 = .ok (.ireturn, 1) := by decide +kernel
theorem dX1_look_31 : decode cX1_look 31 = .ok (.aload_n 0, 1) := by decide +kernel
theorem dX1_look_32 : decode cX1_look 32 = .ok (.getfield 17, 3) := by decide +kernel
theorem dX1_look_35 : decode cX1_look 35 = .ok (.iload_n 1, 1) := by decide +kernel
theorem dX1_look_36 : decode cX1_look 36 = .ok (.aaload, 1) := by decide +kernel
theorem dX1_look_37 : decode cX1_look 37 = .ok (.astore_n 2, 1) := by decide +kernel
theorem dX1_look_38 : decode cX1_look 38 = .ok (.aload_n 2, 1) := by decide +kernel
theorem dX1_look_39 : decode cX1_look 39 = .ok (.ifnonnull 15, 3) := by decide +kernel
theorem dX1_look_42 : decode cX1_look 42 = .ok (.aload_n 0, 1) := by decide +kernel
theorem dX1_look_43 : decode cX1_look 43 = .ok (.dup, 1) := by decide +kernel
theorem dX1_look_44 : decode cX1_look 44 = .ok (.getfield 28, 3) := by decide +kernel
theorem dX1_look_47 : decode cX1_look 47 = .ok (.iconst 1, 1) := by decide +kernel
theorem dX1_look_48 : decode cX1_look 48 = .ok (.isub, 1) := by decide +kernel
theorem dX1_look_49 : decode cX1_look 49 = .ok (.putfield 28, 3) := by decide +kernel
theorem dX1_look_52 : decode cX1_look 52 = .ok (.iconst 0, 1) := by decide +kernel
theorem dX1_look_53 : decode cX1_look 53 = .ok (.ireturn, 1) := by decide +kernel
theorem dX1_look_54 : decode cX1_look 54 = .ok (.aload_n 0, 1) := by decide +kernel
theorem dX1_look_55 : decode cX1_look 55 = .ok (.getfield 21, 3) := by decide +kernel
theorem dX1_look_58 : decode cX1_look 58 = .ok (.iload_n 1, 1) := by decide +kernel
theorem dX1_look_59 : decode cX1_look 59 = .ok (.aaload, 1) := by decide +kernel
theorem dX1_look_60 : decode cX1_look 60 = .ok (.ifnonnull 7, 3) := by decide +kernel
theorem dX1_look_63 : decode cX1_look 63 = .ok (.aconst_null, 1) := by decide +kernel
theorem dX1_look_64 : decode cX1_look 64 = .ok (.goto 16, 3) := by decide +kernel
theorem dX1_look_67 : decode cX1_look 67 = .ok (.aload_n 0, 1) := by decide +kernel
theorem dX1_look_68 : decode cX1_look 68 = .ok (.getfield 21, 3) := by decide +kernel
theorem dX1_look_71 : decode cX1_look 71 = .ok (.iload_n 1, 1) := by decide +kernel
theorem dX1_look_72 : decode cX1_look 72 = .ok (.aaload, 1) := by decide +kernel
theorem dX1_look_73 : decode cX1_look 73 = .ok (.aload_n 2, 1) := by decide +kernel
theorem dX1_look_74 : decode cX1_look 74 = .ok (.getfield 51, 3) := by decide +kernel
theorem dX1_look_77 : decode cX1_look 77 = .ok (.invokevirtual 55, 3) := by decide +kernel
theorem dX1_look_80 : decode cX1_look 80 = .ok (.astore_n 3, 1) := by decide +kernel
theorem dX1_look_81 : decode cX1_look 81 = .ok (.aload_n 3, 1) := by decide +kernel
theorem dX1_look_82 : decode cX1_look 82 = .ok (.ifnonnull 15, 3) := by decide +kernel
theorem dX1_look_85 : decode cX1_look 85 = .ok (.aload_n 0, 1) := by decide +kernel
theorem dX1_look_86 : decode cX1_look 86 = .ok (.getfield 17, 3) := by decide +kernel
theorem dX1_look_89 : decode cX1_look 89 = .ok (.iload_n 1, 1) := by decide +kernel
theorem dX1_look_90 : decode cX1_look 90 = .ok (.aload_n 2, 1) := by decide +kernel
theorem dX1_look_91 : decode cX1_look 91 = .ok (.getfield 59, 3) := by decide +kernel
theorem dX1_look_94 : decode cX1_look 94 = .ok (.aastore, 1) := by decide +kernel
theorem dX1_look_95 : decode cX1_look 95 = .ok (.iconst 0, 1) := by decide +kernel
theorem dX1_look_96 : decode cX1_look 96 = .ok (.ireturn, 1) := by decide +kernel
theorem dX1_look_97 : decode cX1_look 97 = .ok (.aload_n 2, 1) := by decide +kernel
theorem dX1_look_98 : decode cX1_look 98 = .ok (.getfield 62, 3) := by decide +kernel
theorem dX1_look_101 : decode cX1_look 101 = .ok (.aload_n 3, 1) := by decide +kernel
theorem dX1_look_102 : decode cX1_look 102 = .ok (.getfield 62, 3) := by decide +kernel
theorem dX1_look_105 : decode cX1_look 105 = .ok (.if_icmp .eq 5, 3) := by decide +kernel
theorem dX1_look_108 : decode cX1_look 108 = .ok (.iconst 1, 1) := by decide +kernel
theorem dX1_look_109 : decode cX1_look 109 = .ok (.ireturn, 1) := by decide +kernel
theorem dX1_look_110 : decode cX1_look 110 = .ok (.aload_n 2, 1) := by decide +kernel
theorem dX1_look_111 : decode cX1_look 111 = .ok (.getfield 66, 3) := by decide +kernel
theorem dX1_look_114 : decode cX1_look 114 = .ok (.aload_n 3, 1) := by decide +kernel
theorem dX1_look_115 : decode cX1_look 115 = .ok (.getfield 66, 3) := by decide +kernel
theorem dX1_look_118 : decode cX1_look 118 = .ok (.invokestatic 69, 3) := by decide +kernel
theorem dX1_look_121 : decode cX1_look 121 = .ok (.ifCond .ne 5, 3) := by decide +kernel
theorem dX1_look_124 : decode cX1_look 124 = .ok (.iconst 2, 1) := by decide +kernel
theorem dX1_look_125 : decode cX1_look 125 = .ok (.ireturn, 1) := by decide +kernel
theorem dX1_look_126 : decode cX1_look 126 = .ok (.aload_n 2, 1) := by decide +kernel
theorem dX1_look_127 : decode cX1_look 127 = .ok (.getfield 66, 3) := by decide +kernel
theorem dX1_look_130 : decode cX1_look 130 = .ok (.bipush 13, 2) := by decide +kernel
theorem dX1_look_132 : decode cX1_look 132 = .ok (.if_icmp .ne 20, 3) := by decide +kernel
theorem dX1_look_135 : decode cX1_look 135 = .ok (.aload_n 0, 1) := by decide +kernel
theorem dX1_look_136 : decode cX1_look 136 = .ok (.aload_n 2, 1) := by decide +kernel
theorem dX1_look_137 : decode cX1_look 137 = .ok (.getfield 73, 3) := by decide +kernel
theorem dX1_look_140 : decode cX1_look 140 = .ok (.aload_n 3, 1) := by decide +kernel
theorem dX1_look_141 : decode cX1_look 141 = .ok (.getfield 73, 3) := by decide +kernel
theorem dX1_look_144 : decode cX1_look 144 = .ok (.invokevirtual 32, 3) := by decide +kernel
theorem dX1_look_147 : decode cX1_look 147 = .ok (.ifCond .eq 5, 3) := by decide +kernel
theorem dX1_look_150 : decode cX1_look 150 = .ok (.iconst 0, 1) := by decide +kernel
theorem dX1_look_151 : decode cX1_look 151 = .ok (.ireturn, 1) := by decide +kernel
theorem dX1_look_152 : decode cX1_look 152 = .ok (.aload_n 2, 1) := by decide +kernel
theorem dX1_look_153 : decode cX1_look 153 = .ok (.aload_n 3, 1) := by decide +kernel
theorem dX1_look_154 : decode cX1_look 154 = .ok (.aload_n 0, 1) := by decide +kernel
theorem dX1_look_155 : decode cX1_look 155 = .ok (.getfield 21, 3) := by decide +kernel
theorem dX1_look_158 : decode cX1_look 158 = .ok (.iload_n 1, 1) := by decide +kernel
theorem dX1_look_159 : decode cX1_look 159 = .ok (.aaload, 1) := by decide +kernel
theorem dX1_look_160 : decode cX1_look 160 = .ok (.invokestatic 76, 3) := by decide +kernel
theorem dX1_look_163 : decode cX1_look 163 = .ok (.ifCond .eq 5, 3) := by decide +kernel
theorem dX1_look_166 : decode cX1_look 166 = .ok (.iconst 3, 1) := by decide +kernel
theorem dX1_look_167 : decode cX1_look 167 = .ok (.ireturn, 1) := by decide +kernel
theorem dX1_look_168 : decode cX1_look 168 = .ok (.aload_n 0, 1) := by decide +kernel
theorem dX1_look_169 : decode cX1_look 169 = .ok (.getfield 17, 3) := by decide +kernel
theorem dX1_look_172 : decode cX1_look 172 = .ok (.iload_n 1, 1) := by decide +kernel
theorem dX1_look_173 : decode cX1_look 173 = .ok (.aload_n 2, 1) := by decide +kernel
theorem dX1_look_174 : decode cX1_look 174 = .ok (.getfield 59, 3) := by decide +kernel
theorem dX1_look_177 : decode cX1_look 177 = .ok (.aastore, 1) := by decide +kernel
theorem dX1_look_178 : decode cX1_look 178 = .ok (.iconst 0, 1) := by decide +kernel
theorem dX1_look_179 : decode cX1_look 179 = .ok (.ireturn, 1) := by decide +kernel
theorem dX1_tellWay_0 : decode cX1_tellWay 0 = .ok (.iconst 0, 1) := by decide +kernel
theorem dX1_tellWay_1 : decode cX1_tellWay 1 = .ok (.istore_n 1, 1) := by decide +kernel
theorem dX1_tellWay_2 : decode cX1_tellWay 2 = .ok (.iload_n 1, 1) := by decide +kernel
theorem dX1_tellWay_3 : decode cX1_tellWay 3 = .ok (.aload_n 0, 1) := by decide +kernel
theorem dX1_tellWay_4 : decode cX1_tellWay 4 = .ok (.getfield 28, 3) := by decide +kernel
theorem dX1_tellWay_7 : decode cX1_tellWay 7 = .ok (.if_icmp .ge 43, 3) := by decide +kernel
theorem dX1_tellWay_10 : decode cX1_tellWay 10 = .ok (.iload_n 1, 1) := by decide +kernel
theorem dX1_tellWay_11 : decode cX1_tellWay 11 = .ok (.aload_n 0, 1) := by decide +kernel
theorem dX1_tellWay_12 : decode cX1_tellWay 12 = .ok (.getfield 17, 3) := by decide +kernel
theorem dX1_tellWay_15 : decode cX1_tellWay 15 = .ok (.arraylength, 1) := by decide +kernel
theorem dX1_tellWay_16 : decode cX1_tellWay 16 = .ok (.if_icmp .ge 34, 3) := by decide +kernel
theorem dX1_tellWay_19 : decode cX1_tellWay 19 = .ok (.aload_n 0, 1) := by decide +kernel
theorem dX1_tellWay_20 : decode cX1_tellWay 20 = .ok (.getfield 17, 3) := by decide +kernel
theorem dX1_tellWay_23 : decode cX1_tellWay 23 = .ok (.iload_n 1, 1) := by decide +kernel
theorem dX1_tellWay_24 : decode cX1_tellWay 24 = .ok (.aaload, 1) := by decide +kernel
theorem dX1_tellWay_25 : decode cX1_tellWay 25 = .ok (.ifnull 19, 3) := by decide +kernel
theorem dX1_tellWay_28 : decode cX1_tellWay 28 = .ok (.aload_n 0, 1) := by decide +kernel
theorem dX1_tellWay_29 : decode cX1_tellWay 29 = .ok (.getfield 9, 3) := by decide +kernel
theorem dX1_tellWay_32 : decode cX1_tellWay 32 = .ok (.aload_n 0, 1) := by decide +kernel
theorem dX1_tellWay_33 : decode cX1_tellWay 33 = .ok (.getfield 17, 3) := by decide +kernel
theorem dX1_tellWay_36 : decode cX1_tellWay 36 = .ok (.iload_n 1, 1) := by decide +kernel
theorem dX1_tellWay_37 : decode cX1_tellWay 37 = .ok (.aaload, 1) := by decide +kernel
theorem dX1_tellWay_38 : decode cX1_tellWay 38 = .ok (.getfield 51, 3) := by decide +kernel
theorem dX1_tellWay_41 : decode cX1_tellWay 41 = .ok (.invokevirtual 86, 3) := by decide +kernel
theorem dX1_tellWay_44 : decode cX1_tellWay 44 = .ok (.iinc 1 1, 3) := by decide +kernel
theorem dX1_tellWay_47 : decode cX1_tellWay 47 = .ok (.goto (-45), 3) := by decide +kernel
theorem dX1_tellWay_50 : decode cX1_tellWay 50 = .ok (.return_, 1) := by decide +kernel
theorem dX1_compare_0 : decode cX1_compare 0 = .ok (.iconst 0, 1) := by decide +kernel
theorem dX1_compare_1 : decode cX1_compare 1 = .ok (.istore_n 3, 1) := by decide +kernel
theorem dX1_compare_2 : decode cX1_compare 2 = .ok (.iload_n 3, 1) := by decide +kernel
theorem dX1_compare_3 : decode cX1_compare 3 = .ok (.aload_n 0, 1) := by decide +kernel
theorem dX1_compare_4 : decode cX1_compare 4 = .ok (.getfield 24, 3) := by decide +kernel
theorem dX1_compare_7 : decode cX1_compare 7 = .ok (.arraylength, 1) := by decide +kernel
theorem dX1_compare_8 : decode cX1_compare 8 = .ok (.if_icmp .ge 16, 3) := by decide +kernel
theorem dX1_compare_11 : decode cX1_compare 11 = .ok (.aload_n 0, 1) := by decide +kernel
theorem dX1_compare_12 : decode cX1_compare 12 = .ok (.getfield 24, 3) := by decide +kernel
theorem dX1_compare_15 : decode cX1_compare 15 = .ok (.iload_n 3, 1) := by decide +kernel
theorem dX1_compare_16 : decode cX1_compare 16 = .ok (.iconst 0, 1) := by decide +kernel
theorem dX1_compare_17 : decode cX1_compare 17 = .ok (.bastore, 1) := by decide +kernel
theorem dX1_compare_18 : decode cX1_compare 18 = .ok (.iinc 3 1, 3) := by decide +kernel
theorem dX1_compare_21 : decode cX1_compare 21 = .ok (.goto (-19), 3) := by decide +kernel
theorem dX1_compare_24 : decode cX1_compare 24 = .ok (.aload_n 0, 1) := by decide +kernel
theorem dX1_compare_25 : decode cX1_compare 25 = .ok (.iconst 0, 1) := by decide +kernel
theorem dX1_compare_26 : decode cX1_compare 26 = .ok (.putfield 28, 3) := by decide +kernel
theorem dX1_compare_29 : decode cX1_compare 29 = .ok (.aload_n 0, 1) := by decide +kernel
theorem dX1_compare_30 : decode cX1_compare 30 = .ok (.aload_n 1, 1) := by decide +kernel
theorem dX1_compare_31 : decode cX1_compare 31 = .ok (.aload_n 2, 1) := by decide +kernel
theorem dX1_compare_32 : decode cX1_compare 32 = .ok (.invokevirtual 32, 3) := by decide +kernel
theorem dX1_compare_35 : decode cX1_compare 35 = .ok (.pop, 1) := by decide +kernel
theorem dX1_compare_36 : decode cX1_compare 36 = .ok (.iconst 0, 1) := by decide +kernel
theorem dX1_compare_37 : decode cX1_compare 37 = .ok (.istore_n 3, 1) := by decide +kernel
theorem dX1_compare_38 : decode cX1_compare 38 = .ok (.iload_n 3, 1) := by decide +kernel
theorem dX1_compare_39 : decode cX1_compare 39 = .ok (.ldc 36, 2) := by decide +kernel
theorem dX1_compare_41 : decode cX1_compare 41 = .ok (.if_icmp .ge 34, 3) := by decide +kernel
theorem dX1_compare_44 : decode cX1_compare 44 = .ok (.aload_n 0, 1) := by decide +kernel
theorem dX1_compare_45 : decode cX1_compare 45 = .ok (.getfield 28, 3) := by decide +kernel
theorem dX1_compare_48 : decode cX1_compare 48 = .ok (.ifCond .le 27, 3) := by decide +kernel
theorem dX1_compare_51 : decode cX1_compare 51 = .ok (.aload_n 0, 1) := by decide +kernel
theorem dX1_compare_52 : decode cX1_compare 52 = .ok (.invokevirtual 37, 3) := by decide +kernel
theorem dX1_compare_55 : decode cX1_compare 55 = .ok (.istore 4, 2) := by decide +kernel
theorem dX1_compare_57 : decode cX1_compare 57 = .ok (.iload 4, 2) := by decide +kernel
theorem dX1_compare_59 : decode cX1_compare 59 = .ok (.ifCond .eq 10, 3) := by decide +kernel
theorem dX1_compare_62 : decode cX1_compare 62 = .ok (.aload_n 0, 1) := by decide +kernel
theorem dX1_compare_63 : decode cX1_compare 63 = .ok (.invokevirtual 41, 3) := by decide +kernel
theorem dX1_compare_66 : decode cX1_compare 66 = .ok (.iload 4, 2) := by decide +kernel
theorem dX1_compare_68 : decode cX1_compare 68 = .ok (.ireturn, 1) := by decide +kernel
theorem dX1_compare_69 : decode cX1_compare 69 = .ok (.iinc 3 1, 3) := by decide +kernel
theorem dX1_compare_72 : decode cX1_compare 72 = .ok (.goto (-34), 3) := by decide +kernel
theorem dX1_compare_75 : decode cX1_compare 75 = .ok (.iconst 0, 1) := by decide +kernel
theorem dX1_compare_76 : decode cX1_compare 76 = .ok (.ireturn, 1) := by decide +kernel
theorem dX11_check_0 : decode cX11_check 0 = .ok (.aload_n 0, 1) := by decide +kernel
theorem dX11_check_1 : decode cX11_check 1 = .ok (.getfield 18, 3) := by decide +kernel
theorem dX11_check_4 : decode cX11_check 4 = .ok (.invokevirtual 99, 3) := by decide +kernel
theorem dX11_check_7 : decode cX11_check 7 = .ok (.aload_n 0, 1) := by decide +kernel
theorem dX11_check_8 : decode cX11_check 8 = .ok (.getfield 24, 3) := by decide +kernel
theorem dX11_check_11 : decode cX11_check 11 = .ok (.invokevirtual 109, 3) := by decide +kernel
theorem dX11_check_14 : decode cX11_check 14 = .ok (.iload_n 1, 1) := by decide +kernel
theorem dX11_check_15 : decode cX11_check 15 = .ok (.invokevirtual 193, 3) := by decide +kernel
theorem dX11_check_18 : decode cX11_check 18 = .ok (.astore_n 3, 1) := by decide +kernel
theorem dX11_check_19 : decode cX11_check 19 = .ok (.aload_n 0, 1) := by decide +kernel
theorem dX11_check_20 : decode cX11_check 20 = .ok (.getfield 28, 3) := by decide +kernel
theorem dX11_check_23 : decode cX11_check 23 = .ok (.invokevirtual 109, 3) := by decide +kernel
theorem dX11_check_26 : decode cX11_check 26 = .ok (.iload_n 2, 1) := by decide +kernel
theorem dX11_check_27 : decode cX11_check 27 = .ok (.invokevirtual 193, 3) := by decide +kernel
theorem dX11_check_30 : decode cX11_check 30 = .ok (.astore 4, 2) := by decide +kernel
theorem dX11_check_32 : decode cX11_check 32 = .ok (.aload_n 3, 1) := by decide +kernel
theorem dX11_check_33 : decode cX11_check 33 = .ok (.ifnull 8, 3) := by decide +kernel
theorem dX11_check_36 : decode cX11_check 36 = .ok (.aload 4, 2) := by decide +kernel
theorem dX11_check_38 : decode cX11_check 38 = .ok (.ifnonnull 13, 3) := by decide +kernel
theorem dX11_check_41 : decode cX11_check 41 = .ok (.new 67, 3) := by decide +kernel
theorem dX11_check_44 : decode cX11_check 44 = .ok (.dup, 1) := by decide +kernel
theorem dX11_check_45 : decode cX11_check 45 = .ok (.ldc 196, 2) := by decide +kernel
theorem dX11_check_47 : decode cX11_check 47 = .ok (.invokespecial 71, 3) := by decide +kernel
theorem dX11_check_50 : decode cX11_check 50 = .ok (.athrow, 1) := by decide +kernel
theorem dX11_check_51 : decode cX11_check 51 = .ok (.aload_n 0, 1) := by decide +kernel
theorem dX11_check_52 : decode cX11_check 52 = .ok (.getfield 59, 3) := by decide +kernel
theorem dX11_check_55 : decode cX11_check 55 = .ok (.aload_n 3, 1) := by decide +kernel
theorem dX11_check_56 : decode cX11_check 56 = .ok (.aload 4, 2) := by decide +kernel
theorem dX11_check_58 : decode cX11_check 58 = .ok (.invokevirtual 198, 3) := by decide +kernel
theorem dX11_check_61 : decode cX11_check 61 = .ok (.ireturn, 1) := by decide +kernel
theorem dX11_compilerOf_0 : decode cX11_compilerOf 0 = .ok (.iload_n 1, 1) := by decide +kernel
theorem dX11_compilerOf_1 : decode cX11_compilerOf 1 = .ok (.ifCond .ne 10, 3) := by decide +kernel
theorem dX11_compilerOf_4 : decode cX11_compilerOf 4 = .ok (.aload_n 0, 1) := by decide +kernel
theorem dX11_compilerOf_5 : decode cX11_compilerOf 5 = .ok (.getfield 24, 3) := by decide +kernel
theorem dX11_compilerOf_8 : decode cX11_compilerOf 8 = .ok (.goto 16, 3) := by decide +kernel
theorem dX11_compilerOf_11 : decode cX11_compilerOf 11 = .ok (.iload_n 1, 1) := by decide +kernel
theorem dX11_compilerOf_12 : decode cX11_compilerOf 12 = .ok (.iconst 1, 1) := by decide +kernel
theorem dX11_compilerOf_13 : decode cX11_compilerOf 13 = .ok (.if_icmp .ne 10, 3) := by decide +kernel
theorem dX11_compilerOf_16 : decode cX11_compilerOf 16 = .ok (.aload_n 0, 1) := by decide +kernel
theorem dX11_compilerOf_17 : decode cX11_compilerOf 17 = .ok (.getfield 28, 3) := by decide +kernel
theorem dX11_compilerOf_20 : decode cX11_compilerOf 20 = .ok (.goto 4, 3) := by decide +kernel
theorem dX11_compilerOf_23 : decode cX11_compilerOf 23 = .ok (.aconst_null, 1) := by decide +kernel
theorem dX11_compilerOf_24 : decode cX11_compilerOf 24 = .ok (.areturn, 1) := by decide +kernel
theorem dX4_begin_0 : decode cX4_begin 0 = .ok (.aload_n 0, 1) := by decide +kernel
theorem dX4_begin_1 : decode cX4_begin 1 = .ok (.aload_n 1, 1) := by decide +kernel
theorem dX4_begin_2 : decode cX4_begin 2 = .ok (.putfield 9, 3) := by decide +kernel
theorem dX4_begin_5 : decode cX4_begin 5 = .ok (.aload_n 0, 1) := by decide +kernel
theorem dX4_begin_6 : decode cX4_begin 6 = .ok (.aconst_null, 1) := by decide +kernel
theorem dX4_begin_7 : decode cX4_begin 7 = .ok (.putfield 15, 3) := by decide +kernel
theorem dX4_begin_10 : decode cX4_begin 10 = .ok (.aload_n 0, 1) := by decide +kernel
theorem dX4_begin_11 : decode cX4_begin 11 = .ok (.aconst_null, 1) := by decide +kernel
theorem dX4_begin_12 : decode cX4_begin 12 = .ok (.putfield 19, 3) := by decide +kernel
theorem dX4_begin_15 : decode cX4_begin 15 = .ok (.aload_n 0, 1) := by decide +kernel
theorem dX4_begin_16 : decode cX4_begin 16 = .ok (.aconst_null, 1) := by decide +kernel
theorem dX4_begin_17 : decode cX4_begin 17 = .ok (.putfield 22, 3) := by decide +kernel
theorem dX4_begin_20 : decode cX4_begin 20 = .ok (.aload_n 0, 1) := by decide +kernel
theorem dX4_begin_21 : decode cX4_begin 21 = .ok (.lconst 0, 1) := by decide +kernel
theorem dX4_begin_22 : decode cX4_begin 22 = .ok (.putfield 25, 3) := by decide +kernel
theorem dX4_begin_25 : decode cX4_begin 25 = .ok (.aload_n 0, 1) := by decide +kernel
theorem dX4_begin_26 : decode cX4_begin 26 = .ok (.iconst 0, 1) := by decide +kernel
theorem dX4_begin_27 : decode cX4_begin 27 = .ok (.putfield 29, 3) := by decide +kernel
theorem dX4_begin_30 : decode cX4_begin 30 = .ok (.aload_n 0, 1) := by decide +kernel
theorem dX4_begin_31 : decode cX4_begin 31 = .ok (.iconst 0, 1) := by decide +kernel
theorem dX4_begin_32 : decode cX4_begin 32 = .ok (.putfield 33, 3) := by decide +kernel
theorem dX4_begin_35 : decode cX4_begin 35 = .ok (.return_, 1) := by decide +kernel
theorem dX8_drop_0 : decode cX8_drop 0 = .ok (.aload_n 0, 1) := by decide +kernel
theorem dX8_drop_1 : decode cX8_drop 1 = .ok (.aconst_null, 1) := by decide +kernel
theorem dX8_drop_2 : decode cX8_drop 2 = .ok (.putfield 37, 3) := by decide +kernel
theorem dX8_drop_5 : decode cX8_drop 5 = .ok (.aload_n 0, 1) := by decide +kernel
theorem dX8_drop_6 : decode cX8_drop 6 = .ok (.aconst_null, 1) := by decide +kernel
theorem dX8_drop_7 : decode cX8_drop 7 = .ok (.putfield 33, 3) := by decide +kernel
theorem dX8_drop_10 : decode cX8_drop 10 = .ok (.aload_n 0, 1) := by decide +kernel
theorem dX8_drop_11 : decode cX8_drop 11 = .ok (.getfield 29, 3) := by decide +kernel
theorem dX8_drop_14 : decode cX8_drop 14 = .ok (.invokevirtual 45, 3) := by decide +kernel
theorem dX8_drop_17 : decode cX8_drop 17 = .ok (.aload_n 0, 1) := by decide +kernel
theorem dX8_drop_18 : decode cX8_drop 18 = .ok (.iconst 0, 1) := by decide +kernel
theorem dX8_drop_19 : decode cX8_drop 19 = .ok (.putfield 48, 3) := by decide +kernel
theorem dX8_drop_22 : decode cX8_drop 22 = .ok (.aload_n 0, 1) := by decide +kernel
theorem dX8_drop_23 : decode cX8_drop 23 = .ok (.getfield 20, 3) := by decide +kernel
theorem dX8_drop_26 : decode cX8_drop 26 = .ok (.aconst_null, 1) := by decide +kernel
theorem dX8_drop_27 : decode cX8_drop 27 = .ok (.invokevirtual 52, 3) := by decide +kernel
theorem dX8_drop_30 : decode cX8_drop 30 = .ok (.return_, 1) := by decide +kernel
theorem dX6_clear_0 : decode cX6_clear 0 = .ok (.aload_n 0, 1) := by decide +kernel
theorem dX6_clear_1 : decode cX6_clear 1 = .ok (.getfield 14, 3) := by decide +kernel
theorem dX6_clear_4 : decode cX6_clear 4 = .ok (.invokevirtual 31, 3) := by decide +kernel
theorem dX6_clear_7 : decode cX6_clear 7 = .ok (.aload_n 0, 1) := by decide +kernel
theorem dX6_clear_8 : decode cX6_clear 8 = .ok (.iconst 0, 1) := by decide +kernel
theorem dX6_clear_9 : decode cX6_clear 9 = .ok (.putfield 34, 3) := by decide +kernel
theorem dX6_clear_12 : decode cX6_clear 12 = .ok (.aload_n 0, 1) := by decide +kernel
theorem dX6_clear_13 : decode cX6_clear 13 = .ok (.iconst 0, 1) := by decide +kernel
theorem dX6_clear_14 : decode cX6_clear 14 = .ok (.putfield 38, 3) := by decide +kernel
theorem dX6_clear_17 : decode cX6_clear 17 = .ok (.iconst 0, 1) := by decide +kernel
theorem dX6_clear_18 : decode cX6_clear 18 = .ok (.istore_n 1, 1) := by decide +kernel
theorem dX6_clear_19 : decode cX6_clear 19 = .ok (.iload_n 1, 1) := by decide +kernel
theorem dX6_clear_20 : decode cX6_clear 20 = .ok (.aload_n 0, 1) := by decide +kernel
theorem dX6_clear_21 : decode cX6_clear 21 = .ok (.getfield 27, 3) := by decide +kernel
theorem dX6_clear_24 : decode cX6_clear 24 = .ok (.arraylength, 1) := by decide +kernel
theorem dX6_clear_25 : decode cX6_clear 25 = .ok (.if_icmp .ge 16, 3) := by decide +kernel
theorem dX6_clear_28 : decode cX6_clear 28 = .ok (.aload_n 0, 1) := by decide +kernel
theorem dX6_clear_29 : decode cX6_clear 29 = .ok (.getfield 27, 3) := by decide +kernel
theorem dX6_clear_32 : decode cX6_clear 32 = .ok (.iload_n 1, 1) := by decide +kernel
theorem dX6_clear_33 : decode cX6_clear 33 = .ok (.iconst 0, 1) := by decide +kernel
theorem dX6_clear_34 : decode cX6_clear 34 = .ok (.iastore, 1) := by decide +kernel
theorem dX6_clear_35 : decode cX6_clear 35 = .ok (.iinc 1 1, 3) := by decide +kernel
theorem dX6_clear_38 : decode cX6_clear 38 = .ok (.goto (-19), 3) := by decide +kernel
theorem dX6_clear_41 : decode cX6_clear 41 = .ok (.return_, 1) := by decide +kernel
theorem dX6_text_0 : decode cX6_text 0 = .ok (.aload_n 0, 1) := by decide +kernel
theorem dX6_text_1 : decode cX6_text 1 = .ok (.getfield 14, 3) := by decide +kernel
theorem dX6_text_4 : decode cX6_text 4 = .ok (.areturn, 1) := by decide +kernel
theorem dX5_takesWord_0 : decode cX5_takesWord 0 = .ok (.aload_n 0, 1) := by decide +kernel
theorem dX5_takesWord_1 : decode cX5_takesWord 1 = .ok (.getfield 15, 3) := by decide +kernel
theorem dX5_takesWord_4 : decode cX5_takesWord 4 = .ok (.aload_n 0, 1) := by decide +kernel
theorem dX5_takesWord_5 : decode cX5_takesWord 5 = .ok (.getfield 29, 3) := by decide +kernel
theorem dX5_takesWord_8 : decode cX5_takesWord 8 = .ok (.invokevirtual 69, 3) := by decide +kernel
theorem dX5_takesWord_11 : decode cX5_takesWord 11 = .ok (.iload_n 1, 1) := by decide +kernel
theorem dX5_takesWord_12 : decode cX5_takesWord 12 = .ok (.if_icmp .eq 5, 3) := by decide +kernel
theorem dX5_takesWord_15 : decode cX5_takesWord 15 = .ok (.iconst 0, 1) := by decide +kernel
theorem dX5_takesWord_16 : decode cX5_takesWord 16 = .ok (.ireturn, 1) := by decide +kernel
theorem dX5_takesWord_17 : decode cX5_takesWord 17 = .ok (.aload_n 0, 1) := by decide +kernel
theorem dX5_takesWord_18 : decode cX5_takesWord 18 = .ok (.dup, 1) := by decide +kernel
theorem dX5_takesWord_19 : decode cX5_takesWord 19 = .ok (.getfield 29, 3) := by decide +kernel
theorem dX5_takesWord_22 : decode cX5_takesWord 22 = .ok (.iconst 1, 1) := by decide +kernel
theorem dX5_takesWord_23 : decode cX5_takesWord 23 = .ok (.iadd, 1) := by decide +kernel
theorem dX5_takesWord_24 : decode cX5_takesWord 24 = .ok (.putfield 29, 3) := by decide +kernel
theorem dX5_takesWord_27 : decode cX5_takesWord 27 = .ok (.iconst 1, 1) := by decide +kernel
theorem dX5_takesWord_28 : decode cX5_takesWord 28 = .ok (.ireturn, 1) := by decide +kernel
theorem dX5_takes_0 : decode cX5_takes 0 = .ok (.aload_n 0, 1) := by decide +kernel
theorem dX5_takes_1 : decode cX5_takes 1 = .ok (.getfield 15, 3) := by decide +kernel
theorem dX5_takes_4 : decode cX5_takes 4 = .ok (.aload_n 0, 1) := by decide +kernel
theorem dX5_takes_5 : decode cX5_takes 5 = .ok (.getfield 29, 3) := by decide +kernel
theorem dX5_takes_8 : decode cX5_takes 8 = .ok (.iload_n 1, 1) := by decide +kernel
theorem dX5_takes_9 : decode cX5_takes 9 = .ok (.invokevirtual 65, 3) := by decide +kernel
theorem dX5_takes_12 : decode cX5_takes 12 = .ok (.ifCond .ne 5, 3) := by decide +kernel
theorem dX5_takes_15 : decode cX5_takes 15 = .ok (.iconst 0, 1) := by decide +kernel
theorem dX5_takes_16 : decode cX5_takes 16 = .ok (.ireturn, 1) := by decide +kernel
theorem dX5_takes_17 : decode cX5_takes 17 = .ok (.aload_n 0, 1) := by decide +kernel
theorem dX5_takes_18 : decode cX5_takes 18 = .ok (.dup, 1) := by decide +kernel
theorem dX5_takes_19 : decode cX5_takes 19 = .ok (.getfield 29, 3) := by decide +kernel
theorem dX5_takes_22 : decode cX5_takes 22 = .ok (.iconst 1, 1) := by decide +kernel
theorem dX5_takes_23 : decode cX5_takes 23 = .ok (.iadd, 1) := by decide +kernel
theorem dX5_takes_24 : decode cX5_takes 24 = .ok (.putfield 29, 3) := by decide +kernel
theorem dX5_takes_27 : decode cX5_takes 27 = .ok (.iconst 1, 1) := by decide +kernel
theorem dX5_takes_28 : decode cX5_takes 28 = .ok (.ireturn, 1) := by decide +kernel
theorem dX5_readSyntax_0 : decode cX5_readSyntax 0 = .ok (.aload_n 0, 1) := by decide +kernel
theorem dX5_readSyntax_1 : decode cX5_readSyntax 1 = .ok (.bipush 24, 2) := by decide +kernel
theorem dX5_readSyntax_3 : decode cX5_readSyntax 3 = .ok (.invokevirtual 72, 3) := by decide +kernel
theorem dX5_readSyntax_6 : decode cX5_readSyntax 6 = .ok (.ifCond .eq 12, 3) := by decide +kernel
theorem dX5_readSyntax_9 : decode cX5_readSyntax 9 = .ok (.aload_n 0, 1) := by decide +kernel
theorem dX5_readSyntax_10 : decode cX5_readSyntax 10 = .ok (.bipush 61, 2) := by decide +kernel
theorem dX5_readSyntax_12 : decode cX5_readSyntax 12 = .ok (.invokevirtual 76, 3) := by decide +kernel
theorem dX5_readSyntax_15 : decode cX5_readSyntax 15 = .ok (.ifCond .ne 5, 3) := by decide +kernel
theorem dX5_readSyntax_18 : decode cX5_readSyntax 18 = .ok (.iconst 0, 1) := by decide +kernel
theorem dX5_readSyntax_19 : decode cX5_readSyntax 19 = .ok (.ireturn, 1) := by decide +kernel
theorem dX5_readSyntax_20 : decode cX5_readSyntax 20 = .ok (.aload_n 0, 1) := by decide +kernel
theorem dX5_readSyntax_21 : decode cX5_readSyntax 21 = .ok (.getfield 15, 3) := by decide +kernel
theorem dX5_readSyntax_24 : decode cX5_readSyntax 24 = .ok (.aload_n 0, 1) := by decide +kernel
theorem dX5_readSyntax_25 : decode cX5_readSyntax 25 = .ok (.getfield 29, 3) := by decide +kernel
theorem dX5_readSyntax_28 : decode cX5_readSyntax 28 = .ok (.invokevirtual 62, 3) := by decide +kernel
theorem dX5_readSyntax_31 : decode cX5_readSyntax 31 = .ok (.iconst 3, 1) := by decide +kernel
theorem dX5_readSyntax_32 : decode cX5_readSyntax 32 = .ok (.if_icmp .ne 21, 3) := by decide +kernel
theorem dX5_readSyntax_35 : decode cX5_readSyntax 35 = .ok (.aload_n 0, 1) := by decide +kernel
theorem dX5_readSyntax_36 : decode cX5_readSyntax 36 = .ok (.getfield 15, 3) := by decide +kernel
theorem dX5_readSyntax_39 : decode cX5_readSyntax 39 = .ok (.aload_n 0, 1) := by decide +kernel
theorem dX5_readSyntax_40 : decode cX5_readSyntax 40 = .ok (.getfield 29, 3) := by decide +kernel
theorem dX5_readSyntax_43 : decode cX5_readSyntax 43 = .ok (.invokevirtual 79, 3) := by decide +kernel
theorem dX5_readSyntax_46 : decode cX5_readSyntax 46 = .ok (.ldc2_w 83, 3) := by decide +kernel
theorem dX5_readSyntax_49 : decode cX5_readSyntax 49 = .ok (.lcmp, 1) := by decide +kernel
theorem dX5_readSyntax_50 : decode cX5_readSyntax 50 = .ok (.ifCond .eq 5, 3) := by decide +kernel
theorem dX5_readSyntax_53 : decode cX5_readSyntax 53 = .ok (.iconst 0, 1) := by decide +kernel
theorem dX5_readSyntax_54 : decode cX5_readSyntax 54 = .ok (.ireturn, 1) := by decide +kernel
theorem dX5_readSyntax_55 : decode cX5_readSyntax 55 = .ok (.aload_n 0, 1) := by decide +kernel
theorem dX5_readSyntax_56 : decode cX5_readSyntax 56 = .ok (.dup, 1) := by decide +kernel
theorem dX5_readSyntax_57 : decode cX5_readSyntax 57 = .ok (.getfield 29, 3) := by decide +kernel
theorem dX5_readSyntax_60 : decode cX5_readSyntax 60 = .ok (.iconst 1, 1) := by decide +kernel
theorem dX5_readSyntax_61 : decode cX5_readSyntax 61 = .ok (.iadd, 1) := by decide +kernel
theorem dX5_readSyntax_62 : decode cX5_readSyntax 62 = .ok (.putfield 29, 3) := by decide +kernel
theorem dX5_readSyntax_65 : decode cX5_readSyntax 65 = .ok (.aload_n 0, 1) := by decide +kernel
theorem dX5_readSyntax_66 : decode cX5_readSyntax 66 = .ok (.bipush 59, 2) := by decide +kernel
theorem dX5_readSyntax_68 : decode cX5_readSyntax 68 = .ok (.invokevirtual 76, 3) := by decide +kernel
theorem dX5_readSyntax_71 : decode cX5_readSyntax 71 = .ok (.ireturn, 1) := by decide +kernel
theorem dX5_isAtEnd_0 : decode cX5_isAtEnd 0 = .ok (.aload_n 0, 1) := by decide +kernel
theorem dX5_isAtEnd_1 : decode cX5_isAtEnd 1 = .ok (.getfield 15, 3) := by decide +kernel
theorem dX5_isAtEnd_4 : decode cX5_isAtEnd 4 = .ok (.aload_n 0, 1) := by decide +kernel
theorem dX5_isAtEnd_5 : decode cX5_isAtEnd 5 = .ok (.getfield 29, 3) := by decide +kernel
theorem dX5_isAtEnd_8 : decode cX5_isAtEnd 8 = .ok (.invokevirtual 62, 3) := by decide +kernel
theorem dX5_isAtEnd_11 : decode cX5_isAtEnd 11 = .ok (.ifCond .ne 28, 3) := by decide +kernel
theorem dX5_isAtEnd_14 : decode cX5_isAtEnd 14 = .ok (.aload_n 0, 1) := by decide +kernel
theorem dX5_isAtEnd_15 : decode cX5_isAtEnd 15 = .ok (.getfield 19, 3) := by decide +kernel
theorem dX5_isAtEnd_18 : decode cX5_isAtEnd 18 = .ok (.ifnonnull 21, 3) := by decide +kernel
theorem dX5_isAtEnd_21 : decode cX5_isAtEnd 21 = .ok (.aload_n 0, 1) := by decide +kernel
theorem dX5_isAtEnd_22 : decode cX5_isAtEnd 22 = .ok (.getfield 23, 3) := by decide +kernel
theorem dX5_isAtEnd_25 : decode cX5_isAtEnd 25 = .ok (.ifnonnull 14, 3) := by decide +kernel
theorem dX5_isAtEnd_28 : decode cX5_isAtEnd 28 = .ok (.aload_n 0, 1) := by decide +kernel
theorem dX5_isAtEnd_29 : decode cX5_isAtEnd 29 = .ok (.getfield 26, 3) := by decide +kernel
theorem dX5_isAtEnd_32 : decode cX5_isAtEnd 32 = .ok (.ifnonnull 7, 3) := by decide +kernel
theorem dX5_isAtEnd_35 : decode cX5_isAtEnd 35 = .ok (.iconst 1, 1) := by decide +kernel
theorem dX5_isAtEnd_36 : decode cX5_isAtEnd 36 = .ok (.goto 4, 3) := by decide +kernel
theorem dX5_isAtEnd_39 : decode cX5_isAtEnd 39 = .ok (.iconst 0, 1) := by decide +kernel
theorem dX5_isAtEnd_40 : decode cX5_isAtEnd 40 = .ok (.ireturn, 1) := by decide +kernel
theorem dX5_isForbidden_0 : decode cX5_isForbidden 0 = .ok (.aload_n 0, 1) := by decide +kernel
theorem dX5_isForbidden_1 : decode cX5_isForbidden 1 = .ok (.getfield 15, 3) := by decide +kernel
theorem dX5_isForbidden_4 : decode cX5_isForbidden 4 = .ok (.aload_n 0, 1) := by decide +kernel
theorem dX5_isForbidden_5 : decode cX5_isForbidden 5 = .ok (.getfield 29, 3) := by decide +kernel
theorem dX5_isForbidden_8 : decode cX5_isForbidden 8 = .ok (.invokevirtual 69, 3) := by decide +kernel
theorem dX5_isForbidden_11 : decode cX5_isForbidden 11 = .ok (.bipush 40, 2) := by decide +kernel
theorem dX5_isForbidden_13 : decode cX5_isForbidden 13 = .ok (.if_icmp .eq 5, 3) := by decide +kernel
theorem dX5_isForbidden_16 : decode cX5_isForbidden 16 = .ok (.iconst 0, 1) := by decide +kernel
theorem dX5_isForbidden_17 : decode cX5_isForbidden 17 = .ok (.ireturn, 1) := by decide +kernel
theorem dX5_isForbidden_18 : decode cX5_isForbidden 18 = .ok (.aload_n 0, 1) := by decide +kernel
theorem dX5_isForbidden_19 : decode cX5_isForbidden 19 = .ok (.iconst 2, 1) := by decide +kernel
theorem dX5_isForbidden_20 : decode cX5_isForbidden 20 = .ok (.putfield 33, 3) := by decide +kernel
theorem dX5_isForbidden_23 : decode cX5_isForbidden 23 = .ok (.iconst 1, 1) := by decide +kernel
theorem dX5_isForbidden_24 : decode cX5_isForbidden 24 = .ok (.ireturn, 1) := by decide +kernel
theorem dX3_begin_0 : decode cX3_begin 0 = .ok (.aload_n 0, 1) := by decide +kernel
theorem dX3_begin_1 : decode cX3_begin 1 = .ok (.iload_n 1, 1) := by decide +kernel
theorem dX3_begin_2 : decode cX3_begin 2 = .ok (.putfield 9, 3) := by decide +kernel
theorem dX3_begin_5 : decode cX3_begin 5 = .ok (.aload_n 0, 1) := by decide +kernel
theorem dX3_begin_6 : decode cX3_begin 6 = .ok (.iload_n 2, 1) := by decide +kernel
theorem dX3_begin_7 : decode cX3_begin 7 = .ok (.putfield 15, 3) := by decide +kernel
theorem dX3_begin_10 : decode cX3_begin 10 = .ok (.aload_n 0, 1) := by decide +kernel
theorem dX3_begin_11 : decode cX3_begin 11 = .ok (.aload_n 3, 1) := by decide +kernel
theorem dX3_begin_12 : decode cX3_begin 12 = .ok (.putfield 18, 3) := by decide +kernel
theorem dX3_begin_15 : decode cX3_begin 15 = .ok (.aload_n 0, 1) := by decide +kernel
theorem dX3_begin_16 : decode cX3_begin 16 = .ok (.aload 4, 2) := by decide +kernel
theorem dX3_begin_18 : decode cX3_begin 18 = .ok (.putfield 22, 3) := by decide +kernel
theorem dX3_begin_21 : decode cX3_begin 21 = .ok (.aload_n 0, 1) := by decide +kernel
theorem dX3_begin_22 : decode cX3_begin 22 = .ok (.iload 5, 2) := by decide +kernel
theorem dX3_begin_24 : decode cX3_begin 24 = .ok (.putfield 25, 3) := by decide +kernel
theorem dX3_begin_27 : decode cX3_begin 27 = .ok (.aload_n 0, 1) := by decide +kernel
theorem dX3_begin_28 : decode cX3_begin 28 = .ok (.iload 6, 2) := by decide +kernel
theorem dX3_begin_30 : decode cX3_begin 30 = .ok (.putfield 28, 3) := by decide +kernel
theorem dX3_begin_33 : decode cX3_begin 33 = .ok (.aload_n 0, 1) := by decide +kernel
theorem dX3_begin_34 : decode cX3_begin 34 = .ok (.lconst 0, 1) := by decide +kernel
theorem dX3_begin_35 : decode cX3_begin 35 = .ok (.putfield 31, 3) := by decide +kernel
theorem dX3_begin_38 : decode cX3_begin 38 = .ok (.aload_n 0, 1) := by decide +kernel
theorem dX3_begin_39 : decode cX3_begin 39 = .ok (.iconst 0, 1) := by decide +kernel
theorem dX3_begin_40 : decode cX3_begin 40 = .ok (.putfield 35, 3) := by decide +kernel
theorem dX3_begin_43 : decode cX3_begin 43 = .ok (.aload_n 0, 1) := by decide +kernel
theorem dX3_begin_44 : decode cX3_begin 44 = .ok (.iconst 0, 1) := by decide +kernel
theorem dX3_begin_45 : decode cX3_begin 45 = .ok (.putfield 38, 3) := by decide +kernel
theorem dX3_begin_48 : decode cX3_begin 48 = .ok (.aload_n 0, 1) := by decide +kernel
theorem dX3_begin_49 : decode cX3_begin 49 = .ok (.iconst (-1), 1) := by decide +kernel
theorem dX3_begin_50 : decode cX3_begin 50 = .ok (.putfield 41, 3) := by decide +kernel
theorem dX3_begin_53 : decode cX3_begin 53 = .ok (.aload_n 0, 1) := by decide +kernel
theorem dX3_begin_54 : decode cX3_begin 54 = .ok (.aconst_null, 1) := by decide +kernel
theorem dX3_begin_55 : decode cX3_begin 55 = .ok (.putfield 44, 3) := by decide +kernel
theorem dX3_begin_58 : decode cX3_begin 58 = .ok (.aload_n 0, 1) := by decide +kernel
theorem dX3_begin_59 : decode cX3_begin 59 = .ok (.iconst 0, 1) := by decide +kernel
theorem dX3_begin_60 : decode cX3_begin 60 = .ok (.putfield 47, 3) := by decide +kernel
theorem dX3_begin_63 : decode cX3_begin 63 = .ok (.aload_n 0, 1) := by decide +kernel
theorem dX3_begin_64 : decode cX3_begin 64 = .ok (.iconst 0, 1) := by decide +kernel
theorem dX3_begin_65 : decode cX3_begin 65 = .ok (.putfield 51, 3) := by decide +kernel
theorem dX3_begin_68 : decode cX3_begin 68 = .ok (.aload_n 0, 1) := by decide +kernel
theorem dX3_begin_69 : decode cX3_begin 69 = .ok (.iconst 0, 1) := by decide +kernel
theorem dX3_begin_70 : decode cX3_begin 70 = .ok (.putfield 54, 3) := by decide +kernel
theorem dX3_begin_73 : decode cX3_begin 73 = .ok (.aload_n 0, 1) := by decide +kernel
theorem dX3_begin_74 : decode cX3_begin 74 = .ok (.iconst (-1), 1) := by decide +kernel
theorem dX3_begin_75 : decode cX3_begin 75 = .ok (.putfield 57, 3) := by decide +kernel
theorem dX3_begin_78 : decode cX3_begin 78 = .ok (.aload_n 0, 1) := by decide +kernel
theorem dX3_begin_79 : decode cX3_begin 79 = .ok (.aconst_null, 1) := by decide +kernel
theorem dX3_begin_80 : decode cX3_begin 80 = .ok (.putfield 60, 3) := by decide +kernel
theorem dX3_begin_83 : decode cX3_begin 83 = .ok (.aload_n 0, 1) := by decide +kernel
theorem dX3_begin_84 : decode cX3_begin 84 = .ok (.aconst_null, 1) := by decide +kernel
theorem dX3_begin_85 : decode cX3_begin 85 = .ok (.putfield 63, 3) := by decide +kernel
theorem dX3_begin_88 : decode cX3_begin 88 = .ok (.return_, 1) := by decide +kernel
theorem dX6_declare_0 : decode cX6_declare 0 = .ok (.aload_n 0, 1) := by decide +kernel
theorem dX6_declare_1 : decode cX6_declare 1 = .ok (.getfield 34, 3) := by decide +kernel
theorem dX6_declare_4 : decode cX6_declare 4 = .ok (.ifCond .lt 28, 3) := by decide +kernel
theorem dX6_declare_7 : decode cX6_declare 7 = .ok (.aload_n 0, 1) := by decide +kernel
theorem dX6_declare_8 : decode cX6_declare 8 = .ok (.getfield 34, 3) := by decide +kernel
theorem dX6_declare_11 : decode cX6_declare 11 = .ok (.aload_n 0, 1) := by decide +kernel
theorem dX6_declare_12 : decode cX6_declare 12 = .ok (.getfield 22, 3) := by decide +kernel
theorem dX6_declare_15 : decode cX6_declare 15 = .ok (.arraylength, 1) := by decide +kernel
theorem dX6_declare_16 : decode cX6_declare 16 = .ok (.if_icmp .ge 16, 3) := by decide +kernel
theorem dX6_declare_19 : decode cX6_declare 19 = .ok (.iload_n 1, 1) := by decide +kernel
theorem dX6_declare_20 : decode cX6_declare 20 = .ok (.ifCond .lt 12, 3) := by decide +kernel
theorem dX6_declare_23 : decode cX6_declare 23 = .ok (.iload_n 1, 1) := by decide +kernel
theorem dX6_declare_24 : decode cX6_declare 24 = .ok (.aload_n 0, 1) := by decide +kernel
theorem dX6_declare_25 : decode cX6_declare 25 = .ok (.getfield 27, 3) := by decide +kernel
theorem dX6_declare_28 : decode cX6_declare 28 = .ok (.arraylength, 1) := by decide +kernel
theorem dX6_declare_29 : decode cX6_declare 29 = .ok (.if_icmp .lt 5, 3) := by decide +kernel
theorem dX6_declare_32 : decode cX6_declare 32 = .ok (.aconst_null, 1) := by decide +kernel
theorem dX6_declare_33 : decode cX6_declare 33 = .ok (.areturn, 1) := by decide +kernel
theorem dX6_declare_34 : decode cX6_declare 34 = .ok (.aload_n 0, 1) := by decide +kernel
theorem dX6_declare_35 : decode cX6_declare 35 = .ok (.getfield 22, 3) := by decide +kernel
theorem dX6_declare_38 : decode cX6_declare 38 = .ok (.aload_n 0, 1) := by decide +kernel
theorem dX6_declare_39 : decode cX6_declare 39 = .ok (.getfield 34, 3) := by decide +kernel
theorem dX6_declare_42 : decode cX6_declare 42 = .ok (.aaload, 1) := by decide +kernel
theorem dX6_declare_43 : decode cX6_declare 43 = .ok (.astore 6, 2) := by decide +kernel
theorem dX6_declare_45 : decode cX6_declare 45 = .ok (.aload 6, 2) := by decide +kernel
theorem dX6_declare_47 : decode cX6_declare 47 = .ok (.ifnonnull 5, 3) := by decide +kernel
theorem dX6_declare_50 : decode cX6_declare 50 = .ok (.aconst_null, 1) := by decide +kernel
theorem dX6_declare_51 : decode cX6_declare 51 = .ok (.areturn, 1) := by decide +kernel
theorem dX6_declare_52 : decode cX6_declare 52 = .ok (.aload 6, 2) := by decide +kernel
theorem dX6_declare_54 : decode cX6_declare 54 = .ok (.iload_n 1, 1) := by decide +kernel
theorem dX6_declare_55 : decode cX6_declare 55 = .ok (.aload_n 0, 1) := by decide +kernel
theorem dX6_declare_56 : decode cX6_declare 56 = .ok (.getfield 27, 3) := by decide +kernel
theorem dX6_declare_59 : decode cX6_declare 59 = .ok (.iload_n 1, 1) := by decide +kernel
theorem dX6_declare_60 : decode cX6_declare 60 = .ok (.iaload, 1) := by decide +kernel
theorem dX6_declare_61 : decode cX6_declare 61 = .ok (.aload_n 2, 1) := by decide +kernel
theorem dX6_declare_62 : decode cX6_declare 62 = .ok (.aload_n 3, 1) := by decide +kernel
theorem dX6_declare_63 : decode cX6_declare 63 = .ok (.iload 4, 2) := by decide +kernel
theorem dX6_declare_65 : decode cX6_declare 65 = .ok (.iload 5, 2) := by decide +kernel
theorem dX6_declare_67 : decode cX6_declare 67 = .ok (.invokevirtual 41, 3) := by decide +kernel
theorem dX6_declare_70 : decode cX6_declare 70 = .ok (.aload_n 0, 1) := by decide +kernel
theorem dX6_declare_71 : decode cX6_declare 71 = .ok (.dup, 1) := by decide +kernel
theorem dX6_declare_72 : decode cX6_declare 72 = .ok (.getfield 34, 3) := by decide +kernel
theorem dX6_declare_75 : decode cX6_declare 75 = .ok (.iconst 1, 1) := by decide +kernel
theorem dX6_declare_76 : decode cX6_declare 76 = .ok (.iadd, 1) := by decide +kernel
theorem dX6_declare_77 : decode cX6_declare 77 = .ok (.putfield 34, 3) := by decide +kernel
theorem dX6_declare_80 : decode cX6_declare 80 = .ok (.aload_n 0, 1) := by decide +kernel
theorem dX6_declare_81 : decode cX6_declare 81 = .ok (.getfield 27, 3) := by decide +kernel
theorem dX6_declare_84 : decode cX6_declare 84 = .ok (.iload_n 1, 1) := by decide +kernel
theorem dX6_declare_85 : decode cX6_declare 85 = .ok (.dup2, 1) := by decide +kernel
theorem dX6_declare_86 : decode cX6_declare 86 = .ok (.iaload, 1) := by decide +kernel
theorem dX6_declare_87 : decode cX6_declare 87 = .ok (.iconst 1, 1) := by decide +kernel
theorem dX6_declare_88 : decode cX6_declare 88 = .ok (.iadd, 1) := by decide +kernel
theorem dX6_declare_89 : decode cX6_declare 89 = .ok (.iastore, 1) := by decide +kernel
theorem dX6_declare_90 : decode cX6_declare 90 = .ok (.aload_n 0, 1) := by decide +kernel
theorem dX6_declare_91 : decode cX6_declare 91 = .ok (.dup, 1) := by decide +kernel
theorem dX6_declare_92 : decode cX6_declare 92 = .ok (.getfield 38, 3) := by decide +kernel
theorem dX6_declare_95 : decode cX6_declare 95 = .ok (.iload 5, 2) := by decide +kernel
theorem dX6_declare_97 : decode cX6_declare 97 = .ok (.iload 4, 2) := by decide +kernel
theorem dX6_declare_99 : decode cX6_declare 99 = .ok (.isub, 1) := by decide +kernel
theorem dX6_declare_100 : decode cX6_declare 100 = .ok (.iadd, 1) := by decide +kernel
theorem dX6_declare_101 : decode cX6_declare 101 = .ok (.putfield 38, 3) := by decide +kernel
theorem dX6_declare_104 : decode cX6_declare 104 = .ok (.aload 6, 2) := by decide +kernel
theorem dX6_declare_106 : decode cX6_declare 106 = .ok (.areturn, 1) := by decide +kernel
theorem dX5_readName_0 : decode cX5_readName 0 = .ok (.aload_n 0, 1) := by decide +kernel
theorem dX5_readName_1 : decode cX5_readName 1 = .ok (.getfield 15, 3) := by decide +kernel
theorem dX5_readName_4 : decode cX5_readName 4 = .ok (.aload_n 0, 1) := by decide +kernel
theorem dX5_readName_5 : decode cX5_readName 5 = .ok (.getfield 29, 3) := by decide +kernel
theorem dX5_readName_8 : decode cX5_readName 8 = .ok (.invokevirtual 62, 3) := by decide +kernel
theorem dX5_readName_11 : decode cX5_readName 11 = .ok (.iconst 1, 1) := by decide +kernel
theorem dX5_readName_12 : decode cX5_readName 12 = .ok (.if_icmp .eq 5, 3) := by decide +kernel
theorem dX5_readName_15 : decode cX5_readName 15 = .ok (.aconst_null, 1) := by decide +kernel
theorem dX5_readName_16 : decode cX5_readName 16 = .ok (.areturn, 1) := by decide +kernel
theorem dX5_readName_17 : decode cX5_readName 17 = .ok (.iload_n 1, 1) := by decide +kernel
theorem dX5_readName_18 : decode cX5_readName 18 = .ok (.iconst 3, 1) := by decide +kernel
theorem dX5_readName_19 : decode cX5_readName 19 = .ok (.if_icmp .ne 10, 3) := by decide +kernel
theorem dX5_readName_22 : decode cX5_readName 22 = .ok (.aload_n 0, 1) := by decide +kernel
theorem dX5_readName_23 : decode cX5_readName 23 = .ok (.getfield 26, 3) := by decide +kernel
theorem dX5_readName_26 : decode cX5_readName 26 = .ok (.goto 16, 3) := by decide +kernel
theorem dX5_readName_29 : decode cX5_readName 29 = .ok (.iload_n 1, 1) := by decide +kernel
theorem dX5_readName_30 : decode cX5_readName 30 = .ok (.iconst 2, 1) := by decide +kernel
theorem dX5_readName_31 : decode cX5_readName 31 = .ok (.if_icmp .ne 10, 3) := by decide +kernel
theorem dX5_readName_34 : decode cX5_readName 34 = .ok (.aload_n 0, 1) := by decide +kernel
theorem dX5_readName_35 : decode cX5_readName 35 = .ok (.getfield 23, 3) := by decide +kernel
theorem dX5_readName_38 : decode cX5_readName 38 = .ok (.goto 4, 3) := by decide +kernel
theorem dX5_readName_41 : decode cX5_readName 41 = .ok (.aconst_null, 1) := by decide +kernel
theorem dX5_readName_42 : decode cX5_readName 42 = .ok (.astore_n 2, 1) := by decide +kernel
theorem dX5_readName_43 : decode cX5_readName 43 = .ok (.aload_n 0, 1) := by decide +kernel
theorem dX5_readName_44 : decode cX5_readName 44 = .ok (.getfield 9, 3) := by decide +kernel
theorem dX5_readName_47 : decode cX5_readName 47 = .ok (.iload_n 1, 1) := by decide +kernel
theorem dX5_readName_48 : decode cX5_readName 48 = .ok (.aload_n 0, 1) := by decide +kernel
theorem dX5_readName_49 : decode cX5_readName 49 = .ok (.getfield 19, 3) := by decide +kernel
theorem dX5_readName_52 : decode cX5_readName 52 = .ok (.aload_n 2, 1) := by decide +kernel
theorem dX5_readName_53 : decode cX5_readName 53 = .ok (.aload_n 0, 1) := by decide +kernel
theorem dX5_readName_54 : decode cX5_readName 54 = .ok (.getfield 15, 3) := by decide +kernel
theorem dX5_readName_57 : decode cX5_readName 57 = .ok (.aload_n 0, 1) := by decide +kernel
theorem dX5_readName_58 : decode cX5_readName 58 = .ok (.getfield 29, 3) := by decide +kernel
theorem dX5_readName_61 : decode cX5_readName 61 = .ok (.invokevirtual 58, 3) := by decide +kernel
theorem dX5_readName_64 : decode cX5_readName 64 = .ok (.aload_n 0, 1) := by decide +kernel
theorem dX5_readName_65 : decode cX5_readName 65 = .ok (.getfield 15, 3) := by decide +kernel
theorem dX5_readName_68 : decode cX5_readName 68 = .ok (.aload_n 0, 1) := by decide +kernel
theorem dX5_readName_69 : decode cX5_readName 69 = .ok (.getfield 29, 3) := by decide +kernel
theorem dX5_readName_72 : decode cX5_readName 72 = .ok (.invokevirtual 107, 3) := by decide +kernel
theorem dX5_readName_75 : decode cX5_readName 75 = .ok (.invokevirtual 110, 3) := by decide +kernel
theorem dX5_readName_78 : decode cX5_readName 78 = .ok (.astore_n 3, 1) := by decide +kernel
theorem dX5_readName_79 : decode cX5_readName 79 = .ok (.aload_n 0, 1) := by decide +kernel
theorem dX5_readName_80 : decode cX5_readName 80 = .ok (.dup, 1) := by decide +kernel
theorem dX5_readName_81 : decode cX5_readName 81 = .ok (.getfield 29, 3) := by decide +kernel
theorem dX5_readName_84 : decode cX5_readName 84 = .ok (.iconst 1, 1) := by decide +kernel
theorem dX5_readName_85 : decode cX5_readName 85 = .ok (.iadd, 1) := by decide +kernel
theorem dX5_readName_86 : decode cX5_readName 86 = .ok (.putfield 29, 3) := by decide +kernel
theorem dX5_readName_89 : decode cX5_readName 89 = .ok (.aload_n 3, 1) := by decide +kernel
theorem dX5_readName_90 : decode cX5_readName 90 = .ok (.areturn, 1) := by decide +kernel
theorem dX5_readNumber_0 : decode cX5_readNumber 0 = .ok (.aload_n 1, 1) := by decide +kernel
theorem dX5_readNumber_1 : decode cX5_readNumber 1 = .ok (.aload_n 0, 1) := by decide +kernel
theorem dX5_readNumber_2 : decode cX5_readNumber 2 = .ok (.getfield 15, 3) := by decide +kernel
theorem dX5_readNumber_5 : decode cX5_readNumber 5 = .ok (.aload_n 0, 1) := by decide +kernel
theorem dX5_readNumber_6 : decode cX5_readNumber 6 = .ok (.getfield 29, 3) := by decide +kernel
theorem dX5_readNumber_9 : decode cX5_readNumber 9 = .ok (.invokevirtual 58, 3) := by decide +kernel
theorem dX5_readNumber_12 : decode cX5_readNumber 12 = .ok (.putfield 136, 3) := by decide +kernel
theorem dX5_readNumber_15 : decode cX5_readNumber 15 = .ok (.iload_n 2, 1) := by decide +kernel
theorem dX5_readNumber_16 : decode cX5_readNumber 16 = .ok (.ifCond .eq 16, 3) := by decide +kernel
theorem dX5_readNumber_19 : decode cX5_readNumber 19 = .ok (.aload_n 0, 1) := by decide +kernel
theorem dX5_readNumber_20 : decode cX5_readNumber 20 = .ok (.bipush 45, 2) := by decide +kernel
theorem dX5_readNumber_22 : decode cX5_readNumber 22 = .ok (.invokevirtual 76, 3) := by decide +kernel
theorem dX5_readNumber_25 : decode cX5_readNumber 25 = .ok (.ifCond .eq 7, 3) := by decide +kernel
theorem dX5_readNumber_28 : decode cX5_readNumber 28 = .ok (.iconst 1, 1) := by decide +kernel
theorem dX5_readNumber_29 : decode cX5_readNumber 29 = .ok (.goto 4, 3) := by decide +kernel
theorem dX5_readNumber_32 : decode cX5_readNumber 32 = .ok (.iconst 0, 1) := by decide +kernel
theorem dX5_readNumber_33 : decode cX5_readNumber 33 = .ok (.istore_n 3, 1) := by decide +kernel
theorem dX5_readNumber_34 : decode cX5_readNumber 34 = .ok (.aload_n 0, 1) := by decide +kernel
theorem dX5_readNumber_35 : decode cX5_readNumber 35 = .ok (.getfield 15, 3) := by decide +kernel
theorem dX5_readNumber_38 : decode cX5_readNumber 38 = .ok (.aload_n 0, 1) := by decide +kernel
theorem dX5_readNumber_39 : decode cX5_readNumber 39 = .ok (.getfield 29, 3) := by decide +kernel
theorem dX5_readNumber_42 : decode cX5_readNumber 42 = .ok (.invokevirtual 62, 3) := by decide +kernel
theorem dX5_readNumber_45 : decode cX5_readNumber 45 = .ok (.iconst 2, 1) := by decide +kernel
theorem dX5_readNumber_46 : decode cX5_readNumber 46 = .ok (.if_icmp .eq 5, 3) := by decide +kernel
theorem dX5_readNumber_49 : decode cX5_readNumber 49 = .ok (.iconst 0, 1) := by decide +kernel
theorem dX5_readNumber_50 : decode cX5_readNumber 50 = .ok (.ireturn, 1) := by decide +kernel
theorem dX5_readNumber_51 : decode cX5_readNumber 51 = .ok (.aload_n 1, 1) := by decide +kernel
theorem dX5_readNumber_52 : decode cX5_readNumber 52 = .ok (.iload_n 3, 1) := by decide +kernel
theorem dX5_readNumber_53 : decode cX5_readNumber 53 = .ok (.ifCond .eq 18, 3) := by decide +kernel
theorem dX5_readNumber_56 : decode cX5_readNumber 56 = .ok (.aload_n 0, 1) := by decide +kernel
theorem dX5_readNumber_57 : decode cX5_readNumber 57 = .ok (.getfield 15, 3) := by decide +kernel
theorem dX5_readNumber_60 : decode cX5_readNumber 60 = .ok (.aload_n 0, 1) := by decide +kernel
theorem dX5_readNumber_61 : decode cX5_readNumber 61 = .ok (.getfield 29, 3) := by decide +kernel
theorem dX5_readNumber_64 : decode cX5_readNumber 64 = .ok (.invokevirtual 79, 3) := by decide +kernel
theorem dX5_readNumber_67 : decode cX5_readNumber 67 = .ok (.lneg, 1) := by decide +kernel
theorem dX5_readNumber_68 : decode cX5_readNumber 68 = .ok (.goto 14, 3) := by decide +kernel
theorem dX5_readNumber_71 : decode cX5_readNumber 71 = .ok (.aload_n 0, 1) := by decide +kernel
theorem dX5_readNumber_72 : decode cX5_readNumber 72 = .ok (.getfield 15, 3) := by decide +kernel
theorem dX5_readNumber_75 : decode cX5_readNumber 75 = .ok (.aload_n 0, 1) := by decide +kernel
theorem dX5_readNumber_76 : decode cX5_readNumber 76 = .ok (.getfield 29, 3) := by decide +kernel
theorem dX5_readNumber_79 : decode cX5_readNumber 79 = .ok (.invokevirtual 79, 3) := by decide +kernel
theorem dX5_readNumber_82 : decode cX5_readNumber 82 = .ok (.putfield 139, 3) := by decide +kernel
theorem dX5_readNumber_85 : decode cX5_readNumber 85 = .ok (.aload_n 0, 1) := by decide +kernel
theorem dX5_readNumber_86 : decode cX5_readNumber 86 = .ok (.dup, 1) := by decide +kernel
theorem dX5_readNumber_87 : decode cX5_readNumber 87 = .ok (.getfield 29, 3) := by decide +kernel
theorem dX5_readNumber_90 : decode cX5_readNumber 90 = .ok (.iconst 1, 1) := by decide +kernel
theorem dX5_readNumber_91 : decode cX5_readNumber 91 = .ok (.iadd, 1) := by decide +kernel
theorem dX5_readNumber_92 : decode cX5_readNumber 92 = .ok (.putfield 29, 3) := by decide +kernel
theorem dX5_readNumber_95 : decode cX5_readNumber 95 = .ok (.iconst 1, 1) := by decide +kernel
theorem dX5_readNumber_96 : decode cX5_readNumber 96 = .ok (.ireturn, 1) := by decide +kernel
theorem dX5_readValue_0 : decode cX5_readValue 0 = .ok (.aload_n 0, 1) := by decide +kernel
theorem dX5_readValue_1 : decode cX5_readValue 1 = .ok (.getfield 103, 3) := by decide +kernel
theorem dX5_readValue_4 : decode cX5_readValue 4 = .ok (.ifCond .ne 19, 3) := by decide +kernel
theorem dX5_readValue_7 : decode cX5_readValue 7 = .ok (.aload_n 0, 1) := by decide +kernel
theorem dX5_readValue_8 : decode cX5_readValue 8 = .ok (.bipush 125, 2) := by decide +kernel
theorem dX5_readValue_10 : decode cX5_readValue 10 = .ok (.invokevirtual 76, 3) := by decide +kernel
theorem dX5_readValue_13 : decode cX5_readValue 13 = .ok (.ifCond .eq 10, 3) := by decide +kernel
theorem dX5_readValue_16 : decode cX5_readValue 16 = .ok (.aload_n 0, 1) := by decide +kernel
theorem dX5_readValue_17 : decode cX5_readValue 17 = .ok (.aconst_null, 1) := by decide +kernel
theorem dX5_readValue_18 : decode cX5_readValue 18 = .ok (.putfield 26, 3) := by decide +kernel
theorem dX5_readValue_21 : decode cX5_readValue 21 = .ok (.iconst 1, 1) := by decide +kernel
theorem dX5_readValue_22 : decode cX5_readValue 22 = .ok (.ireturn, 1) := by decide +kernel
theorem dX5_readValue_23 : decode cX5_readValue 23 = .ok (.aload_n 0, 1) := by decide +kernel
theorem dX5_readValue_24 : decode cX5_readValue 24 = .ok (.invokevirtual 85, 3) := by decide +kernel
theorem dX5_readValue_27 : decode cX5_readValue 27 = .ok (.ifCond .eq 5, 3) := by decide +kernel
theorem dX5_readValue_30 : decode cX5_readValue 30 = .ok (.iconst 0, 1) := by decide +kernel
theorem dX5_readValue_31 : decode cX5_readValue 31 = .ok (.ireturn, 1) := by decide +kernel
theorem dX5_readValue_32 : decode cX5_readValue 32 = .ok (.aload_n 0, 1) := by decide +kernel
theorem dX5_readValue_33 : decode cX5_readValue 33 = .ok (.iconst 0, 1) := by decide +kernel
theorem dX5_readValue_34 : decode cX5_readValue 34 = .ok (.putfield 103, 3) := by decide +kernel
theorem dX5_readValue_37 : decode cX5_readValue 37 = .ok (.aload_n 0, 1) := by decide +kernel
theorem dX5_readValue_38 : decode cX5_readValue 38 = .ok (.iconst 3, 1) := by decide +kernel
theorem dX5_readValue_39 : decode cX5_readValue 39 = .ok (.invokevirtual 99, 3) := by decide +kernel
theorem dX5_readValue_42 : decode cX5_readValue 42 = .ok (.astore_n 1, 1) := by decide +kernel
theorem dX5_readValue_43 : decode cX5_readValue 43 = .ok (.aload_n 1, 1) := by decide +kernel
theorem dX5_readValue_44 : decode cX5_readValue 44 = .ok (.ifnull 34, 3) := by decide +kernel
theorem dX5_readValue_47 : decode cX5_readValue 47 = .ok (.aload_n 0, 1) := by decide +kernel
theorem dX5_readValue_48 : decode cX5_readValue 48 = .ok (.bipush 61, 2) := by decide +kernel
theorem dX5_readValue_50 : decode cX5_readValue 50 = .ok (.invokevirtual 76, 3) := by decide +kernel
theorem dX5_readValue_53 : decode cX5_readValue 53 = .ok (.ifCond .eq 25, 3) := by decide +kernel
theorem dX5_readValue_56 : decode cX5_readValue 56 = .ok (.aload_n 0, 1) := by decide +kernel
theorem dX5_readValue_57 : decode cX5_readValue 57 = .ok (.aload_n 1, 1) := by decide +kernel
theorem dX5_readValue_58 : decode cX5_readValue 58 = .ok (.iconst 1, 1) := by decide +kernel
theorem dX5_readValue_59 : decode cX5_readValue 59 = .ok (.invokevirtual 116, 3) := by decide +kernel
theorem dX5_readValue_62 : decode cX5_readValue 62 = .ok (.ifCond .eq 16, 3) := by decide +kernel
theorem dX5_readValue_65 : decode cX5_readValue 65 = .ok (.aload_n 0, 1) := by decide +kernel
theorem dX5_readValue_66 : decode cX5_readValue 66 = .ok (.bipush 59, 2) := by decide +kernel
theorem dX5_readValue_68 : decode cX5_readValue 68 = .ok (.invokevirtual 76, 3) := by decide +kernel
theorem dX5_readValue_71 : decode cX5_readValue 71 = .ok (.ifCond .eq 7, 3) := by decide +kernel
theorem dX5_readValue_74 : decode cX5_readValue 74 = .ok (.iconst 1, 1) := by decide +kernel
theorem dX5_readValue_75 : decode cX5_readValue 75 = .ok (.goto 4, 3) := by decide +kernel
theorem dX5_readValue_78 : decode cX5_readValue 78 = .ok (.iconst 0, 1) := by decide +kernel
theorem dX5_readValue_79 : decode cX5_readValue 79 = .ok (.ireturn, 1) := by decide +kernel
theorem dX5_readTypeName_0 : decode cX5_readTypeName 0 = .ok (.aload_n 0, 1) := by decide +kernel
theorem dX5_readTypeName_1 : decode cX5_readTypeName 1 = .ok (.getfield 15, 3) := by decide +kernel
theorem dX5_readTypeName_4 : decode cX5_readTypeName 4 = .ok (.aload_n 0, 1) := by decide +kernel
theorem dX5_readTypeName_5 : decode cX5_readTypeName 5 = .ok (.getfield 29, 3) := by decide +kernel
theorem dX5_readTypeName_8 : decode cX5_readTypeName 8 = .ok (.invokevirtual 69, 3) := by decide +kernel
theorem dX5_readTypeName_11 : decode cX5_readTypeName 11 = .ok (.istore_n 1, 1) := by decide +kernel
theorem dX5_readTypeName_12 : decode cX5_readTypeName 12 = .ok (.aload_n 0, 1) := by decide +kernel
theorem dX5_readTypeName_13 : decode cX5_readTypeName 13 = .ok (.bipush 46, 2) := by decide +kernel
theorem dX5_readTypeName_15 : decode cX5_readTypeName 15 = .ok (.invokevirtual 76, 3) := by decide +kernel
theorem dX5_readTypeName_18 : decode cX5_readTypeName 18 = .ok (.ifCond .ne 17, 3) := by decide +kernel
theorem dX5_readTypeName_21 : decode cX5_readTypeName 21 = .ok (.iload_n 1, 1) := by decide +kernel
theorem dX5_readTypeName_22 : decode cX5_readTypeName 22 = .ok (.bipush 20, 2) := by decide +kernel
theorem dX5_readTypeName_24 : decode cX5_readTypeName 24 = .ok (.if_icmp .lt 11, 3) := by decide +kernel
theorem dX5_readTypeName_27 : decode cX5_readTypeName 27 = .ok (.iload_n 1, 1) := by decide +kernel
theorem dX5_readTypeName_28 : decode cX5_readTypeName 28 = .ok (.bipush 23, 2) := by decide +kernel
theorem dX5_readTypeName_30 : decode cX5_readTypeName 30 = .ok (.if_icmp .gt 5, 3) := by decide +kernel
theorem dX5_readTypeName_33 : decode cX5_readTypeName 33 = .ok (.iconst 0, 1) := by decide +kernel
theorem dX5_readTypeName_34 : decode cX5_readTypeName 34 = .ok (.ireturn, 1) := by decide +kernel
theorem dX5_readTypeName_35 : decode cX5_readTypeName 35 = .ok (.iconst 0, 1) := by decide +kernel
theorem dX5_readTypeName_36 : decode cX5_readTypeName 36 = .ok (.istore_n 2, 1) := by decide +kernel
theorem dX5_readTypeName_37 : decode cX5_readTypeName 37 = .ok (.iload_n 2, 1) := by decide +kernel
theorem dX5_readTypeName_38 : decode cX5_readTypeName 38 = .ok (.aload_n 0, 1) := by decide +kernel
theorem dX5_readTypeName_39 : decode cX5_readTypeName 39 = .ok (.getfield 15, 3) := by decide +kernel
theorem dX5_readTypeName_42 : decode cX5_readTypeName 42 = .ok (.invokevirtual 40, 3) := by decide +kernel
theorem dX5_readTypeName_45 : decode cX5_readTypeName 45 = .ok (.if_icmp .ge 47, 3) := by decide +kernel
theorem dX5_readTypeName_48 : decode cX5_readTypeName 48 = .ok (.aload_n 0, 1) := by decide +kernel
theorem dX5_readTypeName_49 : decode cX5_readTypeName 49 = .ok (.getfield 15, 3) := by decide +kernel
theorem dX5_readTypeName_52 : decode cX5_readTypeName 52 = .ok (.aload_n 0, 1) := by decide +kernel
theorem dX5_readTypeName_53 : decode cX5_readTypeName 53 = .ok (.getfield 29, 3) := by decide +kernel
theorem dX5_readTypeName_56 : decode cX5_readTypeName 56 = .ok (.invokevirtual 62, 3) := by decide +kernel
theorem dX5_readTypeName_59 : decode cX5_readTypeName 59 = .ok (.iconst 1, 1) := by decide +kernel
theorem dX5_readTypeName_60 : decode cX5_readTypeName 60 = .ok (.if_icmp .eq 5, 3) := by decide +kernel
theorem dX5_readTypeName_63 : decode cX5_readTypeName 63 = .ok (.iconst 0, 1) := by decide +kernel
theorem dX5_readTypeName_64 : decode cX5_readTypeName 64 = .ok (.ireturn, 1) := by decide +kernel
theorem dX5_readTypeName_65 : decode cX5_readTypeName 65 = .ok (.aload_n 0, 1) := by decide +kernel
theorem dX5_readTypeName_66 : decode cX5_readTypeName 66 = .ok (.dup, 1) := by decide +kernel
theorem dX5_readTypeName_67 : decode cX5_readTypeName 67 = .ok (.getfield 29, 3) := by decide +kernel
theorem dX5_readTypeName_70 : decode cX5_readTypeName 70 = .ok (.iconst 1, 1) := by decide +kernel
theorem dX5_readTypeName_71 : decode cX5_readTypeName 71 = .ok (.iadd, 1) := by decide +kernel
theorem dX5_readTypeName_72 : decode cX5_readTypeName 72 = .ok (.putfield 29, 3) := by decide +kernel
theorem dX5_readTypeName_75 : decode cX5_readTypeName 75 = .ok (.aload_n 0, 1) := by decide +kernel
theorem dX5_readTypeName_76 : decode cX5_readTypeName 76 = .ok (.bipush 46, 2) := by decide +kernel
theorem dX5_readTypeName_78 : decode cX5_readTypeName 78 = .ok (.invokevirtual 76, 3) := by decide +kernel
theorem dX5_readTypeName_81 : decode cX5_readTypeName 81 = .ok (.ifCond .ne 5, 3) := by decide +kernel
theorem dX5_readTypeName_84 : decode cX5_readTypeName 84 = .ok (.iconst 1, 1) := by decide +kernel
theorem dX5_readTypeName_85 : decode cX5_readTypeName 85 = .ok (.ireturn, 1) := by decide +kernel
theorem dX5_readTypeName_86 : decode cX5_readTypeName 86 = .ok (.iinc 2 1, 3) := by decide +kernel
theorem dX5_readTypeName_89 : decode cX5_readTypeName 89 = .ok (.goto (-52), 3) := by decide +kernel
theorem dX5_readTypeName_92 : decode cX5_readTypeName 92 = .ok (.iconst 0, 1) := by decide +kernel
theorem dX5_readTypeName_93 : decode cX5_readTypeName 93 = .ok (.ireturn, 1) := by decide +kernel
theorem dX5_readPacked_0 : decode cX5_readPacked 0 = .ok (.aload_n 0, 1) := by decide +kernel
theorem dX5_readPacked_1 : decode cX5_readPacked 1 = .ok (.bipush 91, 2) := by decide +kernel
theorem dX5_readPacked_3 : decode cX5_readPacked 3 = .ok (.invokevirtual 76, 3) := by decide +kernel
theorem dX5_readPacked_6 : decode cX5_readPacked 6 = .ok (.ifCond .ne 5, 3) := by decide +kernel
theorem dX5_readPacked_9 : decode cX5_readPacked 9 = .ok (.iconst 1, 1) := by decide +kernel
theorem dX5_readPacked_10 : decode cX5_readPacked 10 = .ok (.ireturn, 1) := by decide +kernel
theorem dX5_readPacked_11 : decode cX5_readPacked 11 = .ok (.aload_n 1, 1) := by decide +kernel
theorem dX5_readPacked_12 : decode cX5_readPacked 12 = .ok (.aload_n 0, 1) := by decide +kernel
theorem dX5_readPacked_13 : decode cX5_readPacked 13 = .ok (.getfield 15, 3) := by decide +kernel
theorem dX5_readPacked_16 : decode cX5_readPacked 16 = .ok (.aload_n 0, 1) := by decide +kernel
theorem dX5_readPacked_17 : decode cX5_readPacked 17 = .ok (.getfield 29, 3) := by decide +kernel
theorem dX5_readPacked_20 : decode cX5_readPacked 20 = .ok (.invokevirtual 58, 3) := by decide +kernel
theorem dX5_readPacked_23 : decode cX5_readPacked 23 = .ok (.putfield 143, 3) := by decide +kernel
theorem dX5_readPacked_26 : decode cX5_readPacked 26 = .ok (.aload_n 0, 1) := by decide +kernel
theorem dX5_readPacked_27 : decode cX5_readPacked 27 = .ok (.bipush 25, 2) := by decide +kernel
theorem dX5_readPacked_29 : decode cX5_readPacked 29 = .ok (.invokevirtual 72, 3) := by decide +kernel
theorem dX5_readPacked_32 : decode cX5_readPacked 32 = .ok (.ifCond .eq 12, 3) := by decide +kernel
theorem dX5_readPacked_35 : decode cX5_readPacked 35 = .ok (.aload_n 0, 1) := by decide +kernel
theorem dX5_readPacked_36 : decode cX5_readPacked 36 = .ok (.bipush 61, 2) := by decide +kernel
theorem dX5_readPacked_38 : decode cX5_readPacked 38 = .ok (.invokevirtual 76, 3) := by decide +kernel
theorem dX5_readPacked_41 : decode cX5_readPacked 41 = .ok (.ifCond .ne 5, 3) := by decide +kernel
theorem dX5_readPacked_44 : decode cX5_readPacked 44 = .ok (.iconst 0, 1) := by decide +kernel
theorem dX5_readPacked_45 : decode cX5_readPacked 45 = .ok (.ireturn, 1) := by decide +kernel
theorem dX5_readPacked_46 : decode cX5_readPacked 46 = .ok (.aload_n 1, 1) := by decide +kernel
theorem dX5_readPacked_47 : decode cX5_readPacked 47 = .ok (.aload_n 0, 1) := by decide +kernel
theorem dX5_readPacked_48 : decode cX5_readPacked 48 = .ok (.getfield 15, 3) := by decide +kernel
theorem dX5_readPacked_51 : decode cX5_readPacked 51 = .ok (.aload_n 0, 1) := by decide +kernel
theorem dX5_readPacked_52 : decode cX5_readPacked 52 = .ok (.getfield 29, 3) := by decide +kernel
theorem dX5_readPacked_55 : decode cX5_readPacked 55 = .ok (.invokevirtual 69, 3) := by decide +kernel
theorem dX5_readPacked_58 : decode cX5_readPacked 58 = .ok (.bipush 27, 2) := by decide +kernel
theorem dX5_readPacked_60 : decode cX5_readPacked 60 = .ok (.if_icmp .ne 7, 3) := by decide +kernel
theorem dX5_readPacked_63 : decode cX5_readPacked 63 = .ok (.iconst 1, 1) := by decide +kernel
theorem dX5_readPacked_64 : decode cX5_readPacked 64 = .ok (.goto 4, 3) := by decide +kernel
theorem dX5_readPacked_67 : decode cX5_readPacked 67 = .ok (.iconst 0, 1) := by decide +kernel
theorem dX5_readPacked_68 : decode cX5_readPacked 68 = .ok (.putfield 146, 3) := by decide +kernel
theorem dX5_readPacked_71 : decode cX5_readPacked 71 = .ok (.aload_n 0, 1) := by decide +kernel
theorem dX5_readPacked_72 : decode cX5_readPacked 72 = .ok (.bipush 26, 2) := by decide +kernel
theorem dX5_readPacked_74 : decode cX5_readPacked 74 = .ok (.invokevirtual 72, 3) := by decide +kernel
theorem dX5_readPacked_77 : decode cX5_readPacked 77 = .ok (.ifCond .ne 12, 3) := by decide +kernel
theorem dX5_readPacked_80 : decode cX5_readPacked 80 = .ok (.aload_n 0, 1) := by decide +kernel
theorem dX5_readPacked_81 : decode cX5_readPacked 81 = .ok (.bipush 27, 2) := by decide +kernel
theorem dX5_readPacked_83 : decode cX5_readPacked 83 = .ok (.invokevirtual 72, 3) := by decide +kernel
theorem dX5_readPacked_86 : decode cX5_readPacked 86 = .ok (.ifCond .eq 16, 3) := by decide +kernel
theorem dX5_readPacked_89 : decode cX5_readPacked 89 = .ok (.aload_n 0, 1) := by decide +kernel
theorem dX5_readPacked_90 : decode cX5_readPacked 90 = .ok (.bipush 93, 2) := by decide +kernel
theorem dX5_readPacked_92 : decode cX5_readPacked 92 = .ok (.invokevirtual 76, 3) := by decide +kernel
theorem dX5_readPacked_95 : decode cX5_readPacked 95 = .ok (.ifCond .eq 7, 3) := by decide +kernel
theorem dX5_readPacked_98 : decode cX5_readPacked 98 = .ok (.iconst 1, 1) := by decide +kernel
theorem dX5_readPacked_99 : decode cX5_readPacked 99 = .ok (.goto 4, 3) := by decide +kernel
theorem dX5_readPacked_102 : decode cX5_readPacked 102 = .ok (.iconst 0, 1) := by decide +kernel
theorem dX5_readPacked_103 : decode cX5_readPacked 103 = .ok (.ireturn, 1) := by decide +kernel
theorem dX5_readField_0 : decode cX5_readField 0 = .ok (.aload_n 0, 1) := by decide +kernel
theorem dX5_readField_1 : decode cX5_readField 1 = .ok (.getfield 23, 3) := by decide +kernel
theorem dX5_readField_4 : decode cX5_readField 4 = .ok (.ifnonnull 16, 3) := by decide +kernel
theorem dX5_readField_7 : decode cX5_readField 7 = .ok (.aload_n 0, 1) := by decide +kernel
theorem dX5_readField_8 : decode cX5_readField 8 = .ok (.bipush 23, 2) := by decide +kernel
theorem dX5_readField_10 : decode cX5_readField 10 = .ok (.invokevirtual 72, 3) := by decide +kernel
theorem dX5_readField_13 : decode cX5_readField 13 = .ok (.ifCond .eq 7, 3) := by decide +kernel
theorem dX5_readField_16 : decode cX5_readField 16 = .ok (.iconst 1, 1) := by decide +kernel
theorem dX5_readField_17 : decode cX5_readField 17 = .ok (.goto 4, 3) := by decide +kernel
theorem dX5_readField_20 : decode cX5_readField 20 = .ok (.iconst 0, 1) := by decide +kernel
theorem dX5_readField_21 : decode cX5_readField 21 = .ok (.istore_n 1, 1) := by decide +kernel
theorem dX5_readField_22 : decode cX5_readField 22 = .ok (.aload_n 0, 1) := by decide +kernel
theorem dX5_readField_23 : decode cX5_readField 23 = .ok (.getfield 29, 3) := by decide +kernel
theorem dX5_readField_26 : decode cX5_readField 26 = .ok (.istore_n 2, 1) := by decide +kernel
theorem dX5_readField_27 : decode cX5_readField 27 = .ok (.aload_n 0, 1) := by decide +kernel
theorem dX5_readField_28 : decode cX5_readField 28 = .ok (.getfield 15, 3) := by decide +kernel
theorem dX5_readField_31 : decode cX5_readField 31 = .ok (.aload_n 0, 1) := by decide +kernel
theorem dX5_readField_32 : decode cX5_readField 32 = .ok (.getfield 29, 3) := by decide +kernel
theorem dX5_readField_35 : decode cX5_readField 35 = .ok (.invokevirtual 69, 3) := by decide +kernel
theorem dX5_readField_38 : decode cX5_readField 38 = .ok (.istore_n 3, 1) := by decide +kernel
theorem dX5_readField_39 : decode cX5_readField 39 = .ok (.iload_n 3, 1) := by decide +kernel
theorem dX5_readField_40 : decode cX5_readField 40 = .ok (.ifCond .lt 13, 3) := by decide +kernel
theorem dX5_readField_43 : decode cX5_readField 43 = .ok (.iload_n 3, 1) := by decide +kernel
theorem dX5_readField_44 : decode cX5_readField 44 = .ok (.bipush 12, 2) := by decide +kernel
theorem dX5_readField_46 : decode cX5_readField 46 = .ok (.if_icmp .gt 7, 3) := by decide +kernel
theorem dX5_readField_49 : decode cX5_readField 49 = .ok (.iconst 1, 1) := by decide +kernel
theorem dX5_readField_50 : decode cX5_readField 50 = .ok (.goto 4, 3) := by decide +kernel
theorem dX5_readField_53 : decode cX5_readField 53 = .ok (.iconst 0, 1) := by decide +kernel
theorem dX5_readField_54 : decode cX5_readField 54 = .ok (.istore 4, 2) := by decide +kernel
theorem dX5_readField_56 : decode cX5_readField 56 = .ok (.iload 4, 2) := by decide +kernel
theorem dX5_readField_58 : decode cX5_readField 58 = .ok (.ifCond .eq 16, 3) := by decide +kernel
theorem dX5_readField_61 : decode cX5_readField 61 = .ok (.aload_n 0, 1) := by decide +kernel
theorem dX5_readField_62 : decode cX5_readField 62 = .ok (.dup, 1) := by decide +kernel
theorem dX5_readField_63 : decode cX5_readField 63 = .ok (.getfield 29, 3) := by decide +kernel
theorem dX5_readField_66 : decode cX5_readField 66 = .ok (.iconst 1, 1) := by decide +kernel
theorem dX5_readField_67 : decode cX5_readField 67 = .ok (.iadd, 1) := by decide +kernel
theorem dX5_readField_68 : decode cX5_readField 68 = .ok (.putfield 29, 3) := by decide +kernel
theorem dX5_readField_71 : decode cX5_readField 71 = .ok (.goto 12, 3) := by decide +kernel
theorem dX5_readField_74 : decode cX5_readField 74 = .ok (.aload_n 0, 1) := by decide +kernel
theorem dX5_readField_75 : decode cX5_readField 75 = .ok (.invokevirtual 120, 3) := by decide +kernel
theorem dX5_readField_78 : decode cX5_readField 78 = .ok (.ifCond .ne 5, 3) := by decide +kernel
theorem dX5_readField_81 : decode cX5_readField 81 = .ok (.iconst 0, 1) := by decide +kernel
theorem dX5_readField_82 : decode cX5_readField 82 = .ok (.ireturn, 1) := by decide +kernel
theorem dX5_readField_83 : decode cX5_readField 83 = .ok (.aload_n 0, 1) := by decide +kernel
theorem dX5_readField_84 : decode cX5_readField 84 = .ok (.iconst 2, 1) := by decide +kernel
theorem dX5_readField_85 : decode cX5_readField 85 = .ok (.invokevirtual 99, 3) := by decide +kernel
theorem dX5_readField_88 : decode cX5_readField 88 = .ok (.astore 5, 2) := by decide +kernel
theorem dX5_readField_90 : decode cX5_readField 90 = .ok (.aload 5, 2) := by decide +kernel
theorem dX5_readField_92 : decode cX5_readField 92 = .ok (.ifnonnull 5, 3) := by decide +kernel
theorem dX5_readField_95 : decode cX5_readField 95 = .ok (.iconst 0, 1) := by decide +kernel
theorem dX5_readField_96 : decode cX5_readField 96 = .ok (.ireturn, 1) := by decide +kernel
theorem dX5_readField_97 : decode cX5_readField 97 = .ok (.aload 5, 2) := by decide +kernel
theorem dX5_readField_99 : decode cX5_readField 99 = .ok (.iload_n 1, 1) := by decide +kernel
theorem dX5_readField_100 : decode cX5_readField 100 = .ok (.putfield 123, 3) := by decide +kernel
theorem dX5_readField_103 : decode cX5_readField 103 = .ok (.aload 5, 2) := by decide +kernel
theorem dX5_readField_105 : decode cX5_readField 105 = .ok (.iload 4, 2) := by decide +kernel
theorem dX5_readField_107 : decode cX5_readField 107 = .ok (.ifCond .eq 7, 3) := by decide +kernel
theorem dX5_readField_110 : decode cX5_readField 110 = .ok (.iload_n 3, 1) := by decide +kernel
theorem dX5_readField_111 : decode cX5_readField 111 = .ok (.goto 5, 3) := by decide +kernel
theorem dX5_readField_114 : decode cX5_readField 114 = .ok (.bipush 13, 2) := by decide +kernel
theorem dX5_readField_116 : decode cX5_readField 116 = .ok (.putfield 126, 3) := by decide +kernel
theorem dX5_readField_119 : decode cX5_readField 119 = .ok (.aload 5, 2) := by decide +kernel
theorem dX5_readField_121 : decode cX5_readField 121 = .ok (.iload_n 2, 1) := by decide +kernel
theorem dX5_readField_122 : decode cX5_readField 122 = .ok (.putfield 129, 3) := by decide +kernel
theorem dX5_readField_125 : decode cX5_readField 125 = .ok (.aload_n 0, 1) := by decide +kernel
theorem dX5_readField_126 : decode cX5_readField 126 = .ok (.bipush 61, 2) := by decide +kernel
theorem dX5_readField_128 : decode cX5_readField 128 = .ok (.invokevirtual 76, 3) := by decide +kernel
theorem dX5_readField_131 : decode cX5_readField 131 = .ok (.ifCond .eq 35, 3) := by decide +kernel
theorem dX5_readField_134 : decode cX5_readField 134 = .ok (.aload_n 0, 1) := by decide +kernel
theorem dX5_readField_135 : decode cX5_readField 135 = .ok (.aload 5, 2) := by decide +kernel
theorem dX5_readField_137 : decode cX5_readField 137 = .ok (.iconst 0, 1) := by decide +kernel
theorem dX5_readField_138 : decode cX5_readField 138 = .ok (.invokevirtual 116, 3) := by decide +kernel
theorem dX5_readField_141 : decode cX5_readField 141 = .ok (.ifCond .eq 25, 3) := by decide +kernel
theorem dX5_readField_144 : decode cX5_readField 144 = .ok (.aload_n 0, 1) := by decide +kernel
theorem dX5_readField_145 : decode cX5_readField 145 = .ok (.aload 5, 2) := by decide +kernel
theorem dX5_readField_147 : decode cX5_readField 147 = .ok (.invokevirtual 132, 3) := by decide +kernel
theorem dX5_readField_150 : decode cX5_readField 150 = .ok (.ifCond .eq 16, 3) := by decide +kernel
theorem dX5_readField_153 : decode cX5_readField 153 = .ok (.aload_n 0, 1) := by decide +kernel
theorem dX5_readField_154 : decode cX5_readField 154 = .ok (.bipush 59, 2) := by decide +kernel
theorem dX5_readField_156 : decode cX5_readField 156 = .ok (.invokevirtual 76, 3) := by decide +kernel
theorem dX5_readField_159 : decode cX5_readField 159 = .ok (.ifCond .eq 7, 3) := by decide +kernel
theorem dX5_readField_162 : decode cX5_readField 162 = .ok (.iconst 1, 1) := by decide +kernel
theorem dX5_readField_163 : decode cX5_readField 163 = .ok (.goto 4, 3) := by decide +kernel
theorem dX5_readField_166 : decode cX5_readField 166 = .ok (.iconst 0, 1) := by decide +kernel
theorem dX5_readField_167 : decode cX5_readField 167 = .ok (.ireturn, 1) := by decide +kernel
theorem dX5_readChoice_0 : decode cX5_readChoice 0 = .ok (.aload_n 0, 1) := by decide +kernel
theorem dX5_readChoice_1 : decode cX5_readChoice 1 = .ok (.getfield 103, 3) := by decide +kernel
theorem dX5_readChoice_4 : decode cX5_readChoice 4 = .ok (.ifCond .ne 19, 3) := by decide +kernel
theorem dX5_readChoice_7 : decode cX5_readChoice 7 = .ok (.aload_n 0, 1) := by decide +kernel
theorem dX5_readChoice_8 : decode cX5_readChoice 8 = .ok (.bipush 125, 2) := by decide +kernel
theorem dX5_readChoice_10 : decode cX5_readChoice 10 = .ok (.invokevirtual 76, 3) := by decide +kernel
theorem dX5_readChoice_13 : decode cX5_readChoice 13 = .ok (.ifCond .eq 10, 3) := by decide +kernel
theorem dX5_readChoice_16 : decode cX5_readChoice 16 = .ok (.aload_n 0, 1) := by decide +kernel
theorem dX5_readChoice_17 : decode cX5_readChoice 17 = .ok (.aconst_null, 1) := by decide +kernel
theorem dX5_readChoice_18 : decode cX5_readChoice 18 = .ok (.putfield 23, 3) := by decide +kernel
theorem dX5_readChoice_21 : decode cX5_readChoice 21 = .ok (.iconst 1, 1) := by decide +kernel
theorem dX5_readChoice_22 : decode cX5_readChoice 22 = .ok (.ireturn, 1) := by decide +kernel
theorem dX5_readChoice_23 : decode cX5_readChoice 23 = .ok (.aload_n 0, 1) := by decide +kernel
theorem dX5_readChoice_24 : decode cX5_readChoice 24 = .ok (.invokevirtual 85, 3) := by decide +kernel
theorem dX5_readChoice_27 : decode cX5_readChoice 27 = .ok (.ifCond .eq 5, 3) := by decide +kernel
theorem dX5_readChoice_30 : decode cX5_readChoice 30 = .ok (.iconst 0, 1) := by decide +kernel
theorem dX5_readChoice_31 : decode cX5_readChoice 31 = .ok (.ireturn, 1) := by decide +kernel
theorem dX5_readChoice_32 : decode cX5_readChoice 32 = .ok (.aload_n 0, 1) := by decide +kernel
theorem dX5_readChoice_33 : decode cX5_readChoice 33 = .ok (.iconst 0, 1) := by decide +kernel
theorem dX5_readChoice_34 : decode cX5_readChoice 34 = .ok (.putfield 103, 3) := by decide +kernel
theorem dX5_readChoice_37 : decode cX5_readChoice 37 = .ok (.aload_n 0, 1) := by decide +kernel
theorem dX5_readChoice_38 : decode cX5_readChoice 38 = .ok (.invokevirtual 96, 3) := by decide +kernel
theorem dX5_readChoice_41 : decode cX5_readChoice 41 = .ok (.ireturn, 1) := by decide +kernel
theorem dX5_begin_0 : decode cX5_begin 0 = .ok (.aload_n 0, 1) := by decide +kernel
theorem dX5_begin_1 : decode cX5_begin 1 = .ok (.iload_n 1, 1) := by decide +kernel
theorem dX5_begin_2 : decode cX5_begin 2 = .ok (.invokevirtual 99, 3) := by decide +kernel
theorem dX5_begin_5 : decode cX5_begin 5 = .ok (.astore_n 2, 1) := by decide +kernel
theorem dX5_begin_6 : decode cX5_begin 6 = .ok (.aload_n 2, 1) := by decide +kernel
theorem dX5_begin_7 : decode cX5_begin 7 = .ok (.ifnull 12, 3) := by decide +kernel
theorem dX5_begin_10 : decode cX5_begin 10 = .ok (.aload_n 0, 1) := by decide +kernel
theorem dX5_begin_11 : decode cX5_begin 11 = .ok (.bipush 123, 2) := by decide +kernel
theorem dX5_begin_13 : decode cX5_begin 13 = .ok (.invokevirtual 76, 3) := by decide +kernel
theorem dX5_begin_16 : decode cX5_begin 16 = .ok (.ifCond .ne 5, 3) := by decide +kernel
theorem dX5_begin_19 : decode cX5_begin 19 = .ok (.iconst 0, 1) := by decide +kernel
theorem dX5_begin_20 : decode cX5_begin 20 = .ok (.ireturn, 1) := by decide +kernel
theorem dX5_begin_21 : decode cX5_begin 21 = .ok (.iload_n 1, 1) := by decide +kernel
theorem dX5_begin_22 : decode cX5_begin 22 = .ok (.ifCond .ne 11, 3) := by decide +kernel
theorem dX5_begin_25 : decode cX5_begin 25 = .ok (.aload_n 0, 1) := by decide +kernel
theorem dX5_begin_26 : decode cX5_begin 26 = .ok (.aload_n 2, 1) := by decide +kernel
theorem dX5_begin_27 : decode cX5_begin 27 = .ok (.putfield 19, 3) := by decide +kernel
theorem dX5_begin_30 : decode cX5_begin 30 = .ok (.goto 21, 3) := by decide +kernel
theorem dX5_begin_33 : decode cX5_begin 33 = .ok (.iload_n 1, 1) := by decide +kernel
theorem dX5_begin_34 : decode cX5_begin 34 = .ok (.iconst 1, 1) := by decide +kernel
theorem dX5_begin_35 : decode cX5_begin 35 = .ok (.if_icmp .ne 11, 3) := by decide +kernel
theorem dX5_begin_38 : decode cX5_begin 38 = .ok (.aload_n 0, 1) := by decide +kernel
theorem dX5_begin_39 : decode cX5_begin 39 = .ok (.aload_n 2, 1) := by decide +kernel
theorem dX5_begin_40 : decode cX5_begin 40 = .ok (.putfield 26, 3) := by decide +kernel
theorem dX5_begin_43 : decode cX5_begin 43 = .ok (.goto 8, 3) := by decide +kernel
theorem dX5_begin_46 : decode cX5_begin 46 = .ok (.aload_n 0, 1) := by decide +kernel
theorem dX5_begin_47 : decode cX5_begin 47 = .ok (.aload_n 2, 1) := by decide +kernel
theorem dX5_begin_48 : decode cX5_begin 48 = .ok (.putfield 23, 3) := by decide +kernel
theorem dX5_begin_51 : decode cX5_begin 51 = .ok (.aload_n 0, 1) := by decide +kernel
theorem dX5_begin_52 : decode cX5_begin 52 = .ok (.iconst 1, 1) := by decide +kernel
theorem dX5_begin_53 : decode cX5_begin 53 = .ok (.putfield 103, 3) := by decide +kernel
theorem dX5_begin_56 : decode cX5_begin 56 = .ok (.iconst 1, 1) := by decide +kernel
theorem dX5_begin_57 : decode cX5_begin 57 = .ok (.ireturn, 1) := by decide +kernel
theorem dX5_readMember_0 : decode cX5_readMember 0 = .ok (.aload_n 0, 1) := by decide +kernel
theorem dX5_readMember_1 : decode cX5_readMember 1 = .ok (.invokevirtual 85, 3) := by decide +kernel
theorem dX5_readMember_4 : decode cX5_readMember 4 = .ok (.ifCond .eq 5, 3) := by decide +kernel
theorem dX5_readMember_7 : decode cX5_readMember 7 = .ok (.iconst 0, 1) := by decide +kernel
theorem dX5_readMember_8 : decode cX5_readMember 8 = .ok (.ireturn, 1) := by decide +kernel
theorem dX5_readMember_9 : decode cX5_readMember 9 = .ok (.aload_n 0, 1) := by decide +kernel
theorem dX5_readMember_10 : decode cX5_readMember 10 = .ok (.bipush 20, 2) := by decide +kernel
theorem dX5_readMember_12 : decode cX5_readMember 12 = .ok (.invokevirtual 72, 3) := by decide +kernel
theorem dX5_readMember_15 : decode cX5_readMember 15 = .ok (.ifCond .eq 9, 3) := by decide +kernel
theorem dX5_readMember_18 : decode cX5_readMember 18 = .ok (.aload_n 0, 1) := by decide +kernel
theorem dX5_readMember_19 : decode cX5_readMember 19 = .ok (.iconst 0, 1) := by decide +kernel
theorem dX5_readMember_20 : decode cX5_readMember 20 = .ok (.invokevirtual 90, 3) := by decide +kernel
theorem dX5_readMember_23 : decode cX5_readMember 23 = .ok (.ireturn, 1) := by decide +kernel
theorem dX5_readMember_24 : decode cX5_readMember 24 = .ok (.aload_n 0, 1) := by decide +kernel
theorem dX5_readMember_25 : decode cX5_readMember 25 = .ok (.bipush 21, 2) := by decide +kernel
theorem dX5_readMember_27 : decode cX5_readMember 27 = .ok (.invokevirtual 72, 3) := by decide +kernel
theorem dX5_readMember_30 : decode cX5_readMember 30 = .ok (.ifCond .eq 9, 3) := by decide +kernel
theorem dX5_readMember_33 : decode cX5_readMember 33 = .ok (.aload_n 0, 1) := by decide +kernel
theorem dX5_readMember_34 : decode cX5_readMember 34 = .ok (.iconst 1, 1) := by decide +kernel
theorem dX5_readMember_35 : decode cX5_readMember 35 = .ok (.invokevirtual 90, 3) := by decide +kernel
theorem dX5_readMember_38 : decode cX5_readMember 38 = .ok (.ireturn, 1) := by decide +kernel
theorem dX5_readMember_39 : decode cX5_readMember 39 = .ok (.aload_n 0, 1) := by decide +kernel
theorem dX5_readMember_40 : decode cX5_readMember 40 = .ok (.getfield 19, 3) := by decide +kernel
theorem dX5_readMember_43 : decode cX5_readMember 43 = .ok (.ifnonnull 5, 3) := by decide +kernel
theorem dX5_readMember_46 : decode cX5_readMember 46 = .ok (.iconst 0, 1) := by decide +kernel
theorem dX5_readMember_47 : decode cX5_readMember 47 = .ok (.ireturn, 1) := by decide +kernel
theorem dX5_readMember_48 : decode cX5_readMember 48 = .ok (.aload_n 0, 1) := by decide +kernel
theorem dX5_readMember_49 : decode cX5_readMember 49 = .ok (.bipush 59, 2) := by decide +kernel
theorem dX5_readMember_51 : decode cX5_readMember 51 = .ok (.invokevirtual 76, 3) := by decide +kernel
theorem dX5_readMember_54 : decode cX5_readMember 54 = .ok (.ifCond .eq 5, 3) := by decide +kernel
theorem dX5_readMember_57 : decode cX5_readMember 57 = .ok (.iconst 1, 1) := by decide +kernel
theorem dX5_readMember_58 : decode cX5_readMember 58 = .ok (.ireturn, 1) := by decide +kernel
theorem dX5_readMember_59 : decode cX5_readMember 59 = .ok (.aload_n 0, 1) := by decide +kernel
theorem dX5_readMember_60 : decode cX5_readMember 60 = .ok (.bipush 125, 2) := by decide +kernel
theorem dX5_readMember_62 : decode cX5_readMember 62 = .ok (.invokevirtual 76, 3) := by decide +kernel
theorem dX5_readMember_65 : decode cX5_readMember 65 = .ok (.ifCond .eq 16, 3) := by decide +kernel
theorem dX5_readMember_68 : decode cX5_readMember 68 = .ok (.aload_n 0, 1) := by decide +kernel
theorem dX5_readMember_69 : decode cX5_readMember 69 = .ok (.aload_n 0, 1) := by decide +kernel
theorem dX5_readMember_70 : decode cX5_readMember 70 = .ok (.getfield 19, 3) := by decide +kernel
theorem dX5_readMember_73 : decode cX5_readMember 73 = .ok (.getfield 93, 3) := by decide +kernel
theorem dX5_readMember_76 : decode cX5_readMember 76 = .ok (.putfield 19, 3) := by decide +kernel
theorem dX5_readMember_79 : decode cX5_readMember 79 = .ok (.iconst 1, 1) := by decide +kernel
theorem dX5_readMember_80 : decode cX5_readMember 80 = .ok (.ireturn, 1) := by decide +kernel
theorem dX5_readMember_81 : decode cX5_readMember 81 = .ok (.aload_n 0, 1) := by decide +kernel
theorem dX5_readMember_82 : decode cX5_readMember 82 = .ok (.bipush 22, 2) := by decide +kernel
theorem dX5_readMember_84 : decode cX5_readMember 84 = .ok (.invokevirtual 72, 3) := by decide +kernel
theorem dX5_readMember_87 : decode cX5_readMember 87 = .ok (.ifCond .eq 11, 3) := by decide +kernel
theorem dX5_readMember_90 : decode cX5_readMember 90 = .ok (.aload_n 0, 1) := by decide +kernel
theorem dX5_readMember_91 : decode cX5_readMember 91 = .ok (.iconst 4, 1) := by decide +kernel
theorem dX5_readMember_92 : decode cX5_readMember 92 = .ok (.invokevirtual 90, 3) := by decide +kernel
theorem dX5_readMember_95 : decode cX5_readMember 95 = .ok (.goto 7, 3) := by decide +kernel
theorem dX5_readMember_98 : decode cX5_readMember 98 = .ok (.aload_n 0, 1) := by decide +kernel
theorem dX5_readMember_99 : decode cX5_readMember 99 = .ok (.invokevirtual 96, 3) := by decide +kernel
theorem dX5_readMember_102 : decode cX5_readMember 102 = .ok (.ireturn, 1) := by decide +kernel
theorem dX5_read_0 : decode cX5_read 0 = .ok (.aload_n 0, 1) := by decide +kernel
theorem dX5_read_1 : decode cX5_read 1 = .ok (.aconst_null, 1) := by decide +kernel
theorem dX5_read_2 : decode cX5_read 2 = .ok (.putfield 19, 3) := by decide +kernel
theorem dX5_read_5 : decode cX5_read 5 = .ok (.aload_n 0, 1) := by decide +kernel
theorem dX5_read_6 : decode cX5_read 6 = .ok (.aconst_null, 1) := by decide +kernel
theorem dX5_read_7 : decode cX5_read 7 = .ok (.putfield 23, 3) := by decide +kernel
theorem dX5_read_10 : decode cX5_read 10 = .ok (.aload_n 0, 1) := by decide +kernel
theorem dX5_read_11 : decode cX5_read 11 = .ok (.aconst_null, 1) := by decide +kernel
theorem dX5_read_12 : decode cX5_read 12 = .ok (.putfield 26, 3) := by decide +kernel
theorem dX5_read_15 : decode cX5_read 15 = .ok (.aload_n 0, 1) := by decide +kernel
theorem dX5_read_16 : decode cX5_read 16 = .ok (.iconst 0, 1) := by decide +kernel
theorem dX5_read_17 : decode cX5_read 17 = .ok (.putfield 29, 3) := by decide +kernel
theorem dX5_read_20 : decode cX5_read 20 = .ok (.aload_n 0, 1) := by decide +kernel
theorem dX5_read_21 : decode cX5_read 21 = .ok (.iconst 1, 1) := by decide +kernel
theorem dX5_read_22 : decode cX5_read 22 = .ok (.putfield 33, 3) := by decide +kernel
theorem dX5_read_25 : decode cX5_read 25 = .ok (.aload_n 0, 1) := by decide +kernel
theorem dX5_read_26 : decode cX5_read 26 = .ok (.invokevirtual 36, 3) := by decide +kernel
theorem dX5_read_29 : decode cX5_read 29 = .ok (.istore_n 1, 1) := by decide +kernel
theorem dX5_read_30 : decode cX5_read 30 = .ok (.iconst 0, 1) := by decide +kernel
theorem dX5_read_31 : decode cX5_read 31 = .ok (.istore_n 2, 1) := by decide +kernel
theorem dX5_read_32 : decode cX5_read 32 = .ok (.iload_n 2, 1) := by decide +kernel
theorem dX5_read_33 : decode cX5_read 33 = .ok (.aload_n 0, 1) := by decide +kernel
theorem dX5_read_34 : decode cX5_read 34 = .ok (.getfield 15, 3) := by decide +kernel
theorem dX5_read_37 : decode cX5_read 37 = .ok (.invokevirtual 40, 3) := by decide +kernel
theorem dX5_read_40 : decode cX5_read 40 = .ok (.if_icmp .ge 53, 3) := by decide +kernel
theorem dX5_read_43 : decode cX5_read 43 = .ok (.iload_n 1, 1) := by decide +kernel
theorem dX5_read_44 : decode cX5_read 44 = .ok (.ifCond .eq 49, 3) := by decide +kernel
theorem dX5_read_47 : decode cX5_read 47 = .ok (.aload_n 0, 1) := by decide +kernel
theorem dX5_read_48 : decode cX5_read 48 = .ok (.invokevirtual 46, 3) := by decide +kernel
theorem dX5_read_51 : decode cX5_read 51 = .ok (.ifCond .ne 42, 3) := by decide +kernel
theorem dX5_read_54 : decode cX5_read 54 = .ok (.aload_n 0, 1) := by decide +kernel
theorem dX5_read_55 : decode cX5_read 55 = .ok (.getfield 26, 3) := by decide +kernel
theorem dX5_read_58 : decode cX5_read 58 = .ok (.ifnull 10, 3) := by decide +kernel
theorem dX5_read_61 : decode cX5_read 61 = .ok (.aload_n 0, 1) := by decide +kernel
theorem dX5_read_62 : decode cX5_read 62 = .ok (.invokevirtual 49, 3) := by decide +kernel
theorem dX5_read_65 : decode cX5_read 65 = .ok (.goto 21, 3) := by decide +kernel
theorem dX5_read_68 : decode cX5_read 68 = .ok (.aload_n 0, 1) := by decide +kernel
theorem dX5_read_69 : decode cX5_read 69 = .ok (.getfield 23, 3) := by decide +kernel
theorem dX5_read_72 : decode cX5_read 72 = .ok (.ifnull 10, 3) := by decide +kernel
theorem dX5_read_75 : decode cX5_read 75 = .ok (.aload_n 0, 1) := by decide +kernel
theorem dX5_read_76 : decode cX5_read 76 = .ok (.invokevirtual 52, 3) := by decide +kernel
theorem dX5_read_79 : decode cX5_read 79 = .ok (.goto 7, 3) := by decide +kernel
theorem dX5_read_82 : decode cX5_read 82 = .ok (.aload_n 0, 1) := by decide +kernel
theorem dX5_read_83 : decode cX5_read 83 = .ok (.invokevirtual 55, 3) := by decide +kernel
theorem dX5_read_86 : decode cX5_read 86 = .ok (.istore_n 1, 1) := by decide +kernel
theorem dX5_read_87 : decode cX5_read 87 = .ok (.iinc 2 1, 3) := by decide +kernel
theorem dX5_read_90 : decode cX5_read 90 = .ok (.goto (-58), 3) := by decide +kernel
theorem dX5_read_93 : decode cX5_read 93 = .ok (.iload_n 1, 1) := by decide +kernel
theorem dX5_read_94 : decode cX5_read 94 = .ok (.ifCond .eq 14, 3) := by decide +kernel
theorem dX5_read_97 : decode cX5_read 97 = .ok (.aload_n 0, 1) := by decide +kernel
theorem dX5_read_98 : decode cX5_read 98 = .ok (.invokevirtual 46, 3) := by decide +kernel
theorem dX5_read_101 : decode cX5_read 101 = .ok (.ifCond .eq 7, 3) := by decide +kernel
theorem dX5_read_104 : decode cX5_read 104 = .ok (.iconst 0, 1) := by decide +kernel
theorem dX5_read_105 : decode cX5_read 105 = .ok (.goto 7, 3) := by decide +kernel
theorem dX5_read_108 : decode cX5_read 108 = .ok (.aload_n 0, 1) := by decide +kernel
theorem dX5_read_109 : decode cX5_read 109 = .ok (.getfield 33, 3) := by decide +kernel
theorem dX5_read_112 : decode cX5_read 112 = .ok (.ireturn, 1) := by decide +kernel
theorem dX5_endPlace_0 : decode cX5_endPlace 0 = .ok (.aload_n 0, 1) := by decide +kernel
theorem dX5_endPlace_1 : decode cX5_endPlace 1 = .ok (.getfield 15, 3) := by decide +kernel
theorem dX5_endPlace_4 : decode cX5_endPlace 4 = .ok (.aload_n 0, 1) := by decide +kernel
theorem dX5_endPlace_5 : decode cX5_endPlace 5 = .ok (.getfield 29, 3) := by decide +kernel
theorem dX5_endPlace_8 : decode cX5_endPlace 8 = .ok (.invokevirtual 58, 3) := by decide +kernel
theorem dX5_endPlace_11 : decode cX5_endPlace 11 = .ok (.ireturn, 1) := by decide +kernel
theorem dX6_used_0 : decode cX6_used 0 = .ok (.aload_n 0, 1) := by decide +kernel
theorem dX6_used_1 : decode cX6_used 1 = .ok (.getfield 34, 3) := by decide +kernel
theorem dX6_used_4 : decode cX6_used 4 = .ok (.ireturn, 1) := by decide +kernel
theorem dX3_isType_0 : decode cX3_isType 0 = .ok (.aload_n 0, 1) := by decide +kernel
theorem dX3_isType_1 : decode cX3_isType 1 = .ok (.getfield 9, 3) := by decide +kernel
theorem dX3_isType_4 : decode cX3_isType 4 = .ok (.ifCond .eq 11, 3) := by decide +kernel
theorem dX3_isType_7 : decode cX3_isType 7 = .ok (.aload_n 0, 1) := by decide +kernel
theorem dX3_isType_8 : decode cX3_isType 8 = .ok (.getfield 9, 3) := by decide +kernel
theorem dX3_isType_11 : decode cX3_isType 11 = .ok (.iconst 1, 1) := by decide +kernel
theorem dX3_isType_12 : decode cX3_isType 12 = .ok (.if_icmp .ne 7, 3) := by decide +kernel
theorem dX3_isType_15 : decode cX3_isType 15 = .ok (.iconst 1, 1) := by decide +kernel
theorem dX3_isType_16 : decode cX3_isType 16 = .ok (.goto 4, 3) := by decide +kernel
theorem dX3_isType_19 : decode cX3_isType 19 = .ok (.iconst 0, 1) := by decide +kernel
theorem dX3_isType_20 : decode cX3_isType 20 = .ok (.ireturn, 1) := by decide +kernel
theorem dX6_isCalled_0 : decode cX6_isCalled 0 = .ok (.aload_n 1, 1) := by decide +kernel
theorem dX6_isCalled_1 : decode cX6_isCalled 1 = .ok (.getfield 55, 3) := by decide +kernel
theorem dX6_isCalled_4 : decode cX6_isCalled 4 = .ok (.aload_n 1, 1) := by decide +kernel
theorem dX6_isCalled_5 : decode cX6_isCalled 5 = .ok (.getfield 58, 3) := by decide +kernel
theorem dX6_isCalled_8 : decode cX6_isCalled 8 = .ok (.isub, 1) := by decide +kernel
theorem dX6_isCalled_9 : decode cX6_isCalled 9 = .ok (.iload 4, 2) := by decide +kernel
theorem dX6_isCalled_11 : decode cX6_isCalled 11 = .ok (.iload_n 3, 1) := by decide +kernel
theorem dX6_isCalled_12 : decode cX6_isCalled 12 = .ok (.isub, 1) := by decide +kernel
theorem dX6_isCalled_13 : decode cX6_isCalled 13 = .ok (.if_icmp .ne 25, 3) := by decide +kernel
theorem dX6_isCalled_16 : decode cX6_isCalled 16 = .ok (.aload_n 0, 1) := by decide +kernel
theorem dX6_isCalled_17 : decode cX6_isCalled 17 = .ok (.getfield 14, 3) := by decide +kernel
theorem dX6_isCalled_20 : decode cX6_isCalled 20 = .ok (.aload_n 1, 1) := by decide +kernel
theorem dX6_isCalled_21 : decode cX6_isCalled 21 = .ok (.getfield 58, 3) := by decide +kernel
theorem dX6_isCalled_24 : decode cX6_isCalled 24 = .ok (.aload_n 2, 1) := by decide +kernel
theorem dX6_isCalled_25 : decode cX6_isCalled 25 = .ok (.iload_n 3, 1) := by decide +kernel
theorem dX6_isCalled_26 : decode cX6_isCalled 26 = .ok (.iload 4, 2) := by decide +kernel
theorem dX6_isCalled_28 : decode cX6_isCalled 28 = .ok (.invokevirtual 61, 3) := by decide +kernel
theorem dX6_isCalled_31 : decode cX6_isCalled 31 = .ok (.ifCond .eq 7, 3) := by decide +kernel
theorem dX6_isCalled_34 : decode cX6_isCalled 34 = .ok (.iconst 1, 1) := by decide +kernel
theorem dX6_isCalled_35 : decode cX6_isCalled 35 = .ok (.goto 4, 3) := by decide +kernel
theorem dX6_isCalled_38 : decode cX6_isCalled 38 = .ok (.iconst 0, 1) := by decide +kernel
theorem dX6_isCalled_39 : decode cX6_isCalled 39 = .ok (.ireturn, 1) := by decide +kernel
theorem dX6_typeIn_0 : decode cX6_typeIn 0 = .ok (.iconst 0, 1) := by decide +kernel
theorem dX6_typeIn_1 : decode cX6_typeIn 1 = .ok (.istore 4, 2) := by decide +kernel
theorem dX6_typeIn_3 : decode cX6_typeIn 3 = .ok (.iload 4, 2) := by decide +kernel
theorem dX6_typeIn_5 : decode cX6_typeIn 5 = .ok (.aload_n 0, 1) := by decide +kernel
theorem dX6_typeIn_6 : decode cX6_typeIn 6 = .ok (.getfield 34, 3) := by decide +kernel
theorem dX6_typeIn_9 : decode cX6_typeIn 9 = .ok (.if_icmp .ge 57, 3) := by decide +kernel
theorem dX6_typeIn_12 : decode cX6_typeIn 12 = .ok (.aload_n 0, 1) := by decide +kernel
theorem dX6_typeIn_13 : decode cX6_typeIn 13 = .ok (.iload 4, 2) := by decide +kernel
theorem dX6_typeIn_15 : decode cX6_typeIn 15 = .ok (.invokevirtual 45, 3) := by decide +kernel
theorem dX6_typeIn_18 : decode cX6_typeIn 18 = .ok (.astore 5, 2) := by decide +kernel
theorem dX6_typeIn_20 : decode cX6_typeIn 20 = .ok (.aload 5, 2) := by decide +kernel
theorem dX6_typeIn_22 : decode cX6_typeIn 22 = .ok (.ifnull 38, 3) := by decide +kernel
theorem dX6_typeIn_25 : decode cX6_typeIn 25 = .ok (.aload 5, 2) := by decide +kernel
theorem dX6_typeIn_27 : decode cX6_typeIn 27 = .ok (.getfield 65, 3) := by decide +kernel
theorem dX6_typeIn_30 : decode cX6_typeIn 30 = .ok (.aload_n 1, 1) := by decide +kernel
theorem dX6_typeIn_31 : decode cX6_typeIn 31 = .ok (.if_acmp .ne 29, 3) := by decide +kernel
theorem dX6_typeIn_34 : decode cX6_typeIn 34 = .ok (.aload 5, 2) := by decide +kernel
theorem dX6_typeIn_36 : decode cX6_typeIn 36 = .ok (.invokevirtual 69, 3) := by decide +kernel
theorem dX6_typeIn_39 : decode cX6_typeIn 39 = .ok (.ifCond .eq 21, 3) := by decide +kernel
theorem dX6_typeIn_42 : decode cX6_typeIn 42 = .ok (.aload_n 0, 1) := by decide +kernel
theorem dX6_typeIn_43 : decode cX6_typeIn 43 = .ok (.aload 5, 2) := by decide +kernel
theorem dX6_typeIn_45 : decode cX6_typeIn 45 = .ok (.aload_n 0, 1) := by decide +kernel
theorem dX6_typeIn_46 : decode cX6_typeIn 46 = .ok (.getfield 14, 3) := by decide +kernel
theorem dX6_typeIn_49 : decode cX6_typeIn 49 = .ok (.iload_n 2, 1) := by decide +kernel
theorem dX6_typeIn_50 : decode cX6_typeIn 50 = .ok (.iload_n 3, 1) := by decide +kernel
theorem dX6_typeIn_51 : decode cX6_typeIn 51 = .ok (.invokevirtual 73, 3) := by decide +kernel
theorem dX6_typeIn_54 : decode cX6_typeIn 54 = .ok (.ifCond .eq 6, 3) := by decide +kernel
theorem dX6_typeIn_57 : decode cX6_typeIn 57 = .ok (.aload 5, 2) := by decide +kernel
theorem dX6_typeIn_59 : decode cX6_typeIn 59 = .ok (.areturn, 1) := by decide +kernel
theorem dX6_typeIn_60 : decode cX6_typeIn 60 = .ok (.iinc 4 1, 3) := by decide +kernel
theorem dX6_typeIn_63 : decode cX6_typeIn 63 = .ok (.goto (-60), 3) := by decide +kernel
theorem dX6_typeIn_66 : decode cX6_typeIn 66 = .ok (.aconst_null, 1) := by decide +kernel
theorem dX6_typeIn_67 : decode cX6_typeIn 67 = .ok (.areturn, 1) := by decide +kernel
theorem dX2_typeAround_0 : decode cX2_typeAround 0 = .ok (.aload_n 0, 1) := by decide +kernel
theorem dX2_typeAround_1 : decode cX2_typeAround 1 = .ok (.getfield 27, 3) := by decide +kernel
theorem dX2_typeAround_4 : decode cX2_typeAround 4 = .ok (.iload_n 2, 1) := by decide +kernel
theorem dX2_typeAround_5 : decode cX2_typeAround 5 = .ok (.invokevirtual 103, 3) := by decide +kernel
theorem dX2_typeAround_8 : decode cX2_typeAround 8 = .ok (.istore_n 3, 1) := by decide +kernel
theorem dX2_typeAround_9 : decode cX2_typeAround 9 = .ok (.aload_n 0, 1) := by decide +kernel
theorem dX2_typeAround_10 : decode cX2_typeAround 10 = .ok (.getfield 27, 3) := by decide +kernel
theorem dX2_typeAround_13 : decode cX2_typeAround 13 = .ok (.iload_n 2, 1) := by decide +kernel
theorem dX2_typeAround_14 : decode cX2_typeAround 14 = .ok (.invokevirtual 186, 3) := by decide +kernel
theorem dX2_typeAround_17 : decode cX2_typeAround 17 = .ok (.istore 4, 2) := by decide +kernel
theorem dX2_typeAround_19 : decode cX2_typeAround 19 = .ok (.aload_n 1, 1) := by decide +kernel
theorem dX2_typeAround_20 : decode cX2_typeAround 20 = .ok (.astore 5, 2) := by decide +kernel
theorem dX2_typeAround_22 : decode cX2_typeAround 22 = .ok (.aload 5, 2) := by decide +kernel
theorem dX2_typeAround_24 : decode cX2_typeAround 24 = .ok (.ifnull 35, 3) := by decide +kernel
theorem dX2_typeAround_27 : decode cX2_typeAround 27 = .ok (.aload_n 0, 1) := by decide +kernel
theorem dX2_typeAround_28 : decode cX2_typeAround 28 = .ok (.getfield 12, 3) := by decide +kernel
theorem dX2_typeAround_31 : decode cX2_typeAround 31 = .ok (.aload 5, 2) := by decide +kernel
theorem dX2_typeAround_33 : decode cX2_typeAround 33 = .ok (.iload_n 3, 1) := by decide +kernel
theorem dX2_typeAround_34 : decode cX2_typeAround 34 = .ok (.iload 4, 2) := by decide +kernel
theorem dX2_typeAround_36 : decode cX2_typeAround 36 = .ok (.invokevirtual 189, 3) := by decide +kernel
theorem dX2_typeAround_39 : decode cX2_typeAround 39 = .ok (.astore 6, 2) := by decide +kernel
theorem dX2_typeAround_41 : decode cX2_typeAround 41 = .ok (.aload 6, 2) := by decide +kernel
theorem dX2_typeAround_43 : decode cX2_typeAround 43 = .ok (.ifnull 6, 3) := by decide +kernel
theorem dX2_typeAround_46 : decode cX2_typeAround 46 = .ok (.aload 6, 2) := by decide +kernel
theorem dX2_typeAround_48 : decode cX2_typeAround 48 = .ok (.areturn, 1) := by decide +kernel
theorem dX2_typeAround_49 : decode cX2_typeAround 49 = .ok (.aload 5, 2) := by decide +kernel
theorem dX2_typeAround_51 : decode cX2_typeAround 51 = .ok (.getfield 121, 3) := by decide +kernel
theorem dX2_typeAround_54 : decode cX2_typeAround 54 = .ok (.astore 5, 2) := by decide +kernel
theorem dX2_typeAround_56 : decode cX2_typeAround 56 = .ok (.goto (-34), 3) := by decide +kernel
theorem dX2_typeAround_59 : decode cX2_typeAround 59 = .ok (.aload_n 0, 1) := by decide +kernel
theorem dX2_typeAround_60 : decode cX2_typeAround 60 = .ok (.getfield 12, 3) := by decide +kernel
theorem dX2_typeAround_63 : decode cX2_typeAround 63 = .ok (.aconst_null, 1) := by decide +kernel
theorem dX2_typeAround_64 : decode cX2_typeAround 64 = .ok (.iload_n 3, 1) := by decide +kernel
theorem dX2_typeAround_65 : decode cX2_typeAround 65 = .ok (.iload 4, 2) := by decide +kernel
theorem dX2_typeAround_67 : decode cX2_typeAround 67 = .ok (.invokevirtual 189, 3) := by decide +kernel
theorem dX2_typeAround_70 : decode cX2_typeAround 70 = .ok (.areturn, 1) := by decide +kernel
theorem dX2_findsType_0 : decode cX2_findsType 0 = .ok (.aload_n 1, 1) := by decide +kernel
theorem dX2_findsType_1 : decode cX2_findsType 1 = .ok (.getfield 100, 3) := by decide +kernel
theorem dX2_findsType_4 : decode cX2_findsType 4 = .ok (.istore_n 2, 1) := by decide +kernel
theorem dX2_findsType_5 : decode cX2_findsType 5 = .ok (.aload_n 0, 1) := by decide +kernel
theorem dX2_findsType_6 : decode cX2_findsType 6 = .ok (.getfield 27, 3) := by decide +kernel
theorem dX2_findsType_9 : decode cX2_findsType 9 = .ok (.iload_n 2, 1) := by decide +kernel
theorem dX2_findsType_10 : decode cX2_findsType 10 = .ok (.bipush 46, 2) := by decide +kernel
theorem dX2_findsType_12 : decode cX2_findsType 12 = .ok (.invokevirtual 182, 3) := by decide +kernel
theorem dX2_findsType_15 : decode cX2_findsType 15 = .ok (.istore_n 3, 1) := by decide +kernel
theorem dX2_findsType_16 : decode cX2_findsType 16 = .ok (.iload_n 3, 1) := by decide +kernel
theorem dX2_findsType_17 : decode cX2_findsType 17 = .ok (.ifCond .eq 6, 3) := by decide +kernel
theorem dX2_findsType_20 : decode cX2_findsType 20 = .ok (.iinc 2 1, 3) := by decide +kernel
theorem dX2_findsType_23 : decode cX2_findsType 23 = .ok (.iload_n 3, 1) := by decide +kernel
theorem dX2_findsType_24 : decode cX2_findsType 24 = .ok (.ifCond .eq 30, 3) := by decide +kernel
theorem dX2_findsType_27 : decode cX2_findsType 27 = .ok (.aload_n 0, 1) := by decide +kernel
theorem dX2_findsType_28 : decode cX2_findsType 28 = .ok (.getfield 12, 3) := by decide +kernel
theorem dX2_findsType_31 : decode cX2_findsType 31 = .ok (.aconst_null, 1) := by decide +kernel
theorem dX2_findsType_32 : decode cX2_findsType 32 = .ok (.aload_n 0, 1) := by decide +kernel
theorem dX2_findsType_33 : decode cX2_findsType 33 = .ok (.getfield 27, 3) := by decide +kernel
theorem dX2_findsType_36 : decode cX2_findsType 36 = .ok (.iload_n 2, 1) := by decide +kernel
theorem dX2_findsType_37 : decode cX2_findsType 37 = .ok (.invokevirtual 103, 3) := by decide +kernel
theorem dX2_findsType_40 : decode cX2_findsType 40 = .ok (.aload_n 0, 1) := by decide +kernel
theorem dX2_findsType_41 : decode cX2_findsType 41 = .ok (.getfield 27, 3) := by decide +kernel
theorem dX2_findsType_44 : decode cX2_findsType 44 = .ok (.iload_n 2, 1) := by decide +kernel
theorem dX2_findsType_45 : decode cX2_findsType 45 = .ok (.invokevirtual 186, 3) := by decide +kernel
theorem dX2_findsType_48 : decode cX2_findsType 48 = .ok (.invokevirtual 189, 3) := by decide +kernel
theorem dX2_findsType_51 : decode cX2_findsType 51 = .ok (.goto 12, 3) := by decide +kernel
theorem dX2_findsType_54 : decode cX2_findsType 54 = .ok (.aload_n 0, 1) := by decide +kernel
theorem dX2_findsType_55 : decode cX2_findsType 55 = .ok (.aload_n 1, 1) := by decide +kernel
theorem dX2_findsType_56 : decode cX2_findsType 56 = .ok (.getfield 121, 3) := by decide +kernel
theorem dX2_findsType_59 : decode cX2_findsType 59 = .ok (.iload_n 2, 1) := by decide +kernel
theorem dX2_findsType_60 : decode cX2_findsType 60 = .ok (.invokevirtual 193, 3) := by decide +kernel
theorem dX2_findsType_63 : decode cX2_findsType 63 = .ok (.astore 4, 2) := by decide +kernel
theorem dX2_findsType_65 : decode cX2_findsType 65 = .ok (.aload 4, 2) := by decide +kernel
theorem dX2_findsType_67 : decode cX2_findsType 67 = .ok (.ifnull 62, 3) := by decide +kernel
theorem dX2_findsType_70 : decode cX2_findsType 70 = .ok (.aload_n 0, 1) := by decide +kernel
theorem dX2_findsType_71 : decode cX2_findsType 71 = .ok (.getfield 27, 3) := by decide +kernel
theorem dX2_findsType_74 : decode cX2_findsType 74 = .ok (.iload_n 2, 1) := by decide +kernel
theorem dX2_findsType_75 : decode cX2_findsType 75 = .ok (.iconst 1, 1) := by decide +kernel
theorem dX2_findsType_76 : decode cX2_findsType 76 = .ok (.iadd, 1) := by decide +kernel
theorem dX2_findsType_77 : decode cX2_findsType 77 = .ok (.bipush 46, 2) := by decide +kernel
theorem dX2_findsType_79 : decode cX2_findsType 79 = .ok (.invokevirtual 182, 3) := by decide +kernel
theorem dX2_findsType_82 : decode cX2_findsType 82 = .ok (.ifCond .eq 47, 3) := by decide +kernel
theorem dX2_findsType_85 : decode cX2_findsType 85 = .ok (.iload_n 2, 1) := by decide +kernel
theorem dX2_findsType_86 : decode cX2_findsType 86 = .ok (.aload_n 0, 1) := by decide +kernel
theorem dX2_findsType_87 : decode cX2_findsType 87 = .ok (.getfield 27, 3) := by decide +kernel
theorem dX2_findsType_90 : decode cX2_findsType 90 = .ok (.invokevirtual 197, 3) := by decide +kernel
theorem dX2_findsType_93 : decode cX2_findsType 93 = .ok (.if_icmp .ge 36, 3) := by decide +kernel
theorem dX2_findsType_96 : decode cX2_findsType 96 = .ok (.iinc 2 2, 3) := by decide +kernel
theorem dX2_findsType_99 : decode cX2_findsType 99 = .ok (.aload_n 0, 1) := by decide +kernel
theorem dX2_findsType_100 : decode cX2_findsType 100 = .ok (.getfield 12, 3) := by decide +kernel
theorem dX2_findsType_103 : decode cX2_findsType 103 = .ok (.aload 4, 2) := by decide +kernel
theorem dX2_findsType_105 : decode cX2_findsType 105 = .ok (.aload_n 0, 1) := by decide +kernel
theorem dX2_findsType_106 : decode cX2_findsType 106 = .ok (.getfield 27, 3) := by decide +kernel
theorem dX2_findsType_109 : decode cX2_findsType 109 = .ok (.iload_n 2, 1) := by decide +kernel
theorem dX2_findsType_110 : decode cX2_findsType 110 = .ok (.invokevirtual 103, 3) := by decide +kernel
theorem dX2_findsType_113 : decode cX2_findsType 113 = .ok (.aload_n 0, 1) := by decide +kernel
theorem dX2_findsType_114 : decode cX2_findsType 114 = .ok (.getfield 27, 3) := by decide +kernel
theorem dX2_findsType_117 : decode cX2_findsType 117 = .ok (.iload_n 2, 1) := by decide +kernel
theorem dX2_findsType_118 : decode cX2_findsType 118 = .ok (.invokevirtual 186, 3) := by decide +kernel
theorem dX2_findsType_121 : decode cX2_findsType 121 = .ok (.invokevirtual 189, 3) := by decide +kernel
theorem dX2_findsType_124 : decode cX2_findsType 124 = .ok (.astore 4, 2) := by decide +kernel
theorem dX2_findsType_126 : decode cX2_findsType 126 = .ok (.goto (-61), 3) := by decide +kernel
theorem dX2_findsType_129 : decode cX2_findsType 129 = .ok (.aload 4, 2) := by decide +kernel
theorem dX2_findsType_131 : decode cX2_findsType 131 = .ok (.ifnonnull 5, 3) := by decide +kernel
theorem dX2_findsType_134 : decode cX2_findsType 134 = .ok (.iconst 0, 1) := by decide +kernel
theorem dX2_findsType_135 : decode cX2_findsType 135 = .ok (.ireturn, 1) := by decide +kernel
theorem dX2_findsType_136 : decode cX2_findsType 136 = .ok (.aload_n 1, 1) := by decide +kernel
theorem dX2_findsType_137 : decode cX2_findsType 137 = .ok (.aload 4, 2) := by decide +kernel
theorem dX2_findsType_139 : decode cX2_findsType 139 = .ok (.putfield 200, 3) := by decide +kernel
theorem dX2_findsType_142 : decode cX2_findsType 142 = .ok (.aload_n 1, 1) := by decide +kernel
theorem dX2_findsType_143 : decode cX2_findsType 143 = .ok (.aload 4, 2) := by decide +kernel
theorem dX2_findsType_145 : decode cX2_findsType 145 = .ok (.getfield 88, 3) := by decide +kernel
theorem dX2_findsType_148 : decode cX2_findsType 148 = .ok (.ifCond .ne 8, 3) := by decide +kernel
theorem dX2_findsType_151 : decode cX2_findsType 151 = .ok (.bipush 13, 2) := by decide +kernel
theorem dX2_findsType_153 : decode cX2_findsType 153 = .ok (.goto 5, 3) := by decide +kernel
theorem dX2_findsType_156 : decode cX2_findsType 156 = .ok (.bipush 14, 2) := by decide +kernel
theorem dX2_findsType_158 : decode cX2_findsType 158 = .ok (.putfield 93, 3) := by decide +kernel
theorem dX2_findsType_161 : decode cX2_findsType 161 = .ok (.iconst 1, 1) := by decide +kernel
theorem dX2_findsType_162 : decode cX2_findsType 162 = .ok (.ireturn, 1) := by decide +kernel
theorem dX2_fail_0 : decode cX2_fail 0 = .ok (.aload_n 0, 1) := by decide +kernel
theorem dX2_fail_1 : decode cX2_fail 1 = .ok (.iload_n 1, 1) := by decide +kernel
theorem dX2_fail_2 : decode cX2_fail 2 = .ok (.putfield 63, 3) := by decide +kernel
theorem dX2_fail_5 : decode cX2_fail 5 = .ok (.aload_n 0, 1) := by decide +kernel
theorem dX2_fail_6 : decode cX2_fail 6 = .ok (.iload_n 2, 1) := by decide +kernel
theorem dX2_fail_7 : decode cX2_fail 7 = .ok (.putfield 40, 3) := by decide +kernel
theorem dX2_fail_10 : decode cX2_fail 10 = .ok (.return_, 1) := by decide +kernel
theorem dX2_isTaken_0 : decode cX2_isTaken 0 = .ok (.iconst 0, 1) := by decide +kernel
theorem dX2_isTaken_1 : decode cX2_isTaken 1 = .ok (.istore_n 3, 1) := by decide +kernel
theorem dX2_isTaken_2 : decode cX2_isTaken 2 = .ok (.iload_n 3, 1) := by decide +kernel
theorem dX2_isTaken_3 : decode cX2_isTaken 3 = .ok (.iload_n 2, 1) := by decide +kernel
theorem dX2_isTaken_4 : decode cX2_isTaken 4 = .ok (.if_icmp .ge 65, 3) := by decide +kernel
theorem dX2_isTaken_7 : decode cX2_isTaken 7 = .ok (.aload_n 0, 1) := by decide +kernel
theorem dX2_isTaken_8 : decode cX2_isTaken 8 = .ok (.getfield 12, 3) := by decide +kernel
theorem dX2_isTaken_11 : decode cX2_isTaken 11 = .ok (.iload_n 3, 1) := by decide +kernel
theorem dX2_isTaken_12 : decode cX2_isTaken 12 = .ok (.invokevirtual 72, 3) := by decide +kernel
theorem dX2_isTaken_15 : decode cX2_isTaken 15 = .ok (.astore 4, 2) := by decide +kernel
theorem dX2_isTaken_17 : decode cX2_isTaken 17 = .ok (.aload 4, 2) := by decide +kernel
theorem dX2_isTaken_19 : decode cX2_isTaken 19 = .ok (.ifnull 44, 3) := by decide +kernel
theorem dX2_isTaken_22 : decode cX2_isTaken 22 = .ok (.aload 4, 2) := by decide +kernel
theorem dX2_isTaken_24 : decode cX2_isTaken 24 = .ok (.getfield 121, 3) := by decide +kernel
theorem dX2_isTaken_27 : decode cX2_isTaken 27 = .ok (.aload_n 1, 1) := by decide +kernel
theorem dX2_isTaken_28 : decode cX2_isTaken 28 = .ok (.getfield 121, 3) := by decide +kernel
theorem dX2_isTaken_31 : decode cX2_isTaken 31 = .ok (.if_acmp .ne 32, 3) := by decide +kernel
theorem dX2_isTaken_34 : decode cX2_isTaken 34 = .ok (.aload_n 0, 1) := by decide +kernel
theorem dX2_isTaken_35 : decode cX2_isTaken 35 = .ok (.getfield 12, 3) := by decide +kernel
theorem dX2_isTaken_38 : decode cX2_isTaken 38 = .ok (.aload 4, 2) := by decide +kernel
theorem dX2_isTaken_40 : decode cX2_isTaken 40 = .ok (.aload_n 0, 1) := by decide +kernel
theorem dX2_isTaken_41 : decode cX2_isTaken 41 = .ok (.getfield 12, 3) := by decide +kernel
theorem dX2_isTaken_44 : decode cX2_isTaken 44 = .ok (.invokevirtual 20, 3) := by decide +kernel
theorem dX2_isTaken_47 : decode cX2_isTaken 47 = .ok (.aload_n 1, 1) := by decide +kernel
theorem dX2_isTaken_48 : decode cX2_isTaken 48 = .ok (.getfield 111, 3) := by decide +kernel
theorem dX2_isTaken_51 : decode cX2_isTaken 51 = .ok (.aload_n 1, 1) := by decide +kernel
theorem dX2_isTaken_52 : decode cX2_isTaken 52 = .ok (.getfield 125, 3) := by decide +kernel
theorem dX2_isTaken_55 : decode cX2_isTaken 55 = .ok (.invokevirtual 128, 3) := by decide +kernel
theorem dX2_isTaken_58 : decode cX2_isTaken 58 = .ok (.ifCond .eq 5, 3) := by decide +kernel
theorem dX2_isTaken_61 : decode cX2_isTaken 61 = .ok (.iconst 1, 1) := by decide +kernel
theorem dX2_isTaken_62 : decode cX2_isTaken 62 = .ok (.ireturn, 1) := by decide +kernel
theorem dX2_isTaken_63 : decode cX2_isTaken 63 = .ok (.iinc 3 1, 3) := by decide +kernel
theorem dX2_isTaken_66 : decode cX2_isTaken 66 = .ok (.goto (-64), 3) := by decide +kernel
theorem dX2_isTaken_69 : decode cX2_isTaken 69 = .ok (.iconst 0, 1) := by decide +kernel
theorem dX2_isTaken_70 : decode cX2_isTaken 70 = .ok (.ireturn, 1) := by decide +kernel
theorem dX3_insert_0 : decode cX3_insert 0 = .ok (.aconst_null, 1) := by decide +kernel
theorem dX3_insert_1 : decode cX3_insert 1 = .ok (.astore_n 2, 1) := by decide +kernel
theorem dX3_insert_2 : decode cX3_insert 2 = .ok (.aload_n 0, 1) := by decide +kernel
theorem dX3_insert_3 : decode cX3_insert 3 = .ok (.getfield 60, 3) := by decide +kernel
theorem dX3_insert_6 : decode cX3_insert 6 = .ok (.astore_n 3, 1) := by decide +kernel
theorem dX3_insert_7 : decode cX3_insert 7 = .ok (.aload_n 3, 1) := by decide +kernel
theorem dX3_insert_8 : decode cX3_insert 8 = .ok (.ifnull 25, 3) := by decide +kernel
theorem dX3_insert_11 : decode cX3_insert 11 = .ok (.aload_n 3, 1) := by decide +kernel
theorem dX3_insert_12 : decode cX3_insert 12 = .ok (.getfield 31, 3) := by decide +kernel
theorem dX3_insert_15 : decode cX3_insert 15 = .ok (.aload_n 1, 1) := by decide +kernel
theorem dX3_insert_16 : decode cX3_insert 16 = .ok (.getfield 31, 3) := by decide +kernel
theorem dX3_insert_19 : decode cX3_insert 19 = .ok (.lcmp, 1) := by decide +kernel
theorem dX3_insert_20 : decode cX3_insert 20 = .ok (.ifCond .ge 13, 3) := by decide +kernel
theorem dX3_insert_23 : decode cX3_insert 23 = .ok (.aload_n 3, 1) := by decide +kernel
theorem dX3_insert_24 : decode cX3_insert 24 = .ok (.astore_n 2, 1) := by decide +kernel
theorem dX3_insert_25 : decode cX3_insert 25 = .ok (.aload_n 3, 1) := by decide +kernel
theorem dX3_insert_26 : decode cX3_insert 26 = .ok (.getfield 63, 3) := by decide +kernel
theorem dX3_insert_29 : decode cX3_insert 29 = .ok (.astore_n 3, 1) := by decide +kernel
theorem dX3_insert_30 : decode cX3_insert 30 = .ok (.goto (-23), 3) := by decide +kernel
theorem dX3_insert_33 : decode cX3_insert 33 = .ok (.aload_n 2, 1) := by decide +kernel
theorem dX3_insert_34 : decode cX3_insert 34 = .ok (.ifnonnull 19, 3) := by decide +kernel
theorem dX3_insert_37 : decode cX3_insert 37 = .ok (.aload_n 1, 1) := by decide +kernel
theorem dX3_insert_38 : decode cX3_insert 38 = .ok (.aload_n 0, 1) := by decide +kernel
theorem dX3_insert_39 : decode cX3_insert 39 = .ok (.getfield 60, 3) := by decide +kernel
theorem dX3_insert_42 : decode cX3_insert 42 = .ok (.putfield 63, 3) := by decide +kernel
theorem dX3_insert_45 : decode cX3_insert 45 = .ok (.aload_n 0, 1) := by decide +kernel
theorem dX3_insert_46 : decode cX3_insert 46 = .ok (.aload_n 1, 1) := by decide +kernel
theorem dX3_insert_47 : decode cX3_insert 47 = .ok (.putfield 60, 3) := by decide +kernel
theorem dX3_insert_50 : decode cX3_insert 50 = .ok (.goto 16, 3) := by decide +kernel
theorem dX3_insert_53 : decode cX3_insert 53 = .ok (.aload_n 1, 1) := by decide +kernel
theorem dX3_insert_54 : decode cX3_insert 54 = .ok (.aload_n 2, 1) := by decide +kernel
theorem dX3_insert_55 : decode cX3_insert 55 = .ok (.getfield 63, 3) := by decide +kernel
theorem dX3_insert_58 : decode cX3_insert 58 = .ok (.putfield 63, 3) := by decide +kernel
theorem dX3_insert_61 : decode cX3_insert 61 = .ok (.aload_n 2, 1) := by decide +kernel
theorem dX3_insert_62 : decode cX3_insert 62 = .ok (.aload_n 1, 1) := by decide +kernel
theorem dX3_insert_63 : decode cX3_insert 63 = .ok (.putfield 63, 3) := by decide +kernel
theorem dX3_insert_66 : decode cX3_insert 66 = .ok (.return_, 1) := by decide +kernel
theorem dX11_isNumeric_0 : decode cX11_isNumeric 0 = .ok (.iload_n 0, 1) := by decide +kernel
theorem dX11_isNumeric_1 : decode cX11_isNumeric 1 = .ok (.bipush 10, 2) := by decide +kernel
theorem dX11_isNumeric_3 : decode cX11_isNumeric 3 = .ok (.if_icmp .le 9, 3) := by decide +kernel
theorem dX11_isNumeric_6 : decode cX11_isNumeric 6 = .ok (.iload_n 0, 1) := by decide +kernel
theorem dX11_isNumeric_7 : decode cX11_isNumeric 7 = .ok (.bipush 14, 2) := by decide +kernel
theorem dX11_isNumeric_9 : decode cX11_isNumeric 9 = .ok (.if_icmp .ne 7, 3) := by decide +kernel
theorem dX11_isNumeric_12 : decode cX11_isNumeric 12 = .ok (.iconst 1, 1) := by decide +kernel
theorem dX11_isNumeric_13 : decode cX11_isNumeric 13 = .ok (.goto 4, 3) := by decide +kernel
theorem dX11_isNumeric_16 : decode cX11_isNumeric 16 = .ok (.iconst 0, 1) := by decide +kernel
theorem dX11_isNumeric_17 : decode cX11_isNumeric 17 = .ok (.ireturn, 1) := by decide +kernel
theorem dX2_judgeField_0 : decode cX2_judgeField 0 = .ok (.aload_n 1, 1) := by decide +kernel
theorem dX2_judgeField_1 : decode cX2_judgeField 1 = .ok (.getfield 132, 3) := by decide +kernel
theorem dX2_judgeField_4 : decode cX2_judgeField 4 = .ok (.lstore_n 2, 1) := by decide +kernel
theorem dX2_judgeField_5 : decode cX2_judgeField 5 = .ok (.lload_n 2, 1) := by decide +kernel
theorem dX2_judgeField_6 : decode cX2_judgeField 6 = .ok (.lconst 1, 1) := by decide +kernel
theorem dX2_judgeField_7 : decode cX2_judgeField 7 = .ok (.lcmp, 1) := by decide +kernel
theorem dX2_judgeField_8 : decode cX2_judgeField 8 = .ok (.ifCond .lt 27, 3) := by decide +kernel
theorem dX2_judgeField_11 : decode cX2_judgeField 11 = .ok (.lload_n 2, 1) := by decide +kernel
theorem dX2_judgeField_12 : decode cX2_judgeField 12 = .ok (.ldc2_w 136, 3) := by decide +kernel
theorem dX2_judgeField_15 : decode cX2_judgeField 15 = .ok (.lcmp, 1) := by decide +kernel
theorem dX2_judgeField_16 : decode cX2_judgeField 16 = .ok (.ifCond .gt 19, 3) := by decide +kernel
theorem dX2_judgeField_19 : decode cX2_judgeField 19 = .ok (.lload_n 2, 1) := by decide +kernel
theorem dX2_judgeField_20 : decode cX2_judgeField 20 = .ok (.ldc2_w 138, 3) := by decide +kernel
theorem dX2_judgeField_23 : decode cX2_judgeField 23 = .ok (.lcmp, 1) := by decide +kernel
theorem dX2_judgeField_24 : decode cX2_judgeField 24 = .ok (.ifCond .lt 15, 3) := by decide +kernel
theorem dX2_judgeField_27 : decode cX2_judgeField 27 = .ok (.lload_n 2, 1) := by decide +kernel
theorem dX2_judgeField_28 : decode cX2_judgeField 28 = .ok (.ldc2_w 140, 3) := by decide +kernel
theorem dX2_judgeField_31 : decode cX2_judgeField 31 = .ok (.lcmp, 1) := by decide +kernel
theorem dX2_judgeField_32 : decode cX2_judgeField 32 = .ok (.ifCond .gt 7, 3) := by decide +kernel
theorem dX2_judgeField_35 : decode cX2_judgeField 35 = .ok (.iconst 1, 1) := by decide +kernel
theorem dX2_judgeField_36 : decode cX2_judgeField 36 = .ok (.goto 4, 3) := by decide +kernel
theorem dX2_judgeField_39 : decode cX2_judgeField 39 = .ok (.iconst 0, 1) := by decide +kernel
theorem dX2_judgeField_40 : decode cX2_judgeField 40 = .ok (.istore 4, 2) := by decide +kernel
theorem dX2_judgeField_42 : decode cX2_judgeField 42 = .ok (.aload_n 1, 1) := by decide +kernel
theorem dX2_judgeField_43 : decode cX2_judgeField 43 = .ok (.getfield 121, 3) := by decide +kernel
theorem dX2_judgeField_46 : decode cX2_judgeField 46 = .ok (.astore 5, 2) := by decide +kernel
theorem dX2_judgeField_48 : decode cX2_judgeField 48 = .ok (.iload 4, 2) := by decide +kernel
theorem dX2_judgeField_50 : decode cX2_judgeField 50 = .ok (.ifCond .ne 17, 3) := by decide +kernel
theorem dX2_judgeField_53 : decode cX2_judgeField 53 = .ok (.aload 5, 2) := by decide +kernel
theorem dX2_judgeField_55 : decode cX2_judgeField 55 = .ok (.ifnull 12, 3) := by decide +kernel
theorem dX2_judgeField_58 : decode cX2_judgeField 58 = .ok (.aload 5, 2) := by decide +kernel
theorem dX2_judgeField_60 : decode cX2_judgeField 60 = .ok (.lload_n 2, 1) := by decide +kernel
theorem dX2_judgeField_61 : decode cX2_judgeField 61 = .ok (.invokevirtual 142, 3) := by decide +kernel
theorem dX2_judgeField_64 : decode cX2_judgeField 64 = .ok (.ifnull 13, 3) := by decide +kernel
theorem dX2_judgeField_67 : decode cX2_judgeField 67 = .ok (.aload_n 0, 1) := by decide +kernel
theorem dX2_judgeField_68 : decode cX2_judgeField 68 = .ok (.iconst 4, 1) := by decide +kernel
theorem dX2_judgeField_69 : decode cX2_judgeField 69 = .ok (.aload_n 1, 1) := by decide +kernel
theorem dX2_judgeField_70 : decode cX2_judgeField 70 = .ok (.getfield 146, 3) := by decide +kernel
theorem dX2_judgeField_73 : decode cX2_judgeField 73 = .ok (.invokevirtual 84, 3) := by decide +kernel
theorem dX2_judgeField_76 : decode cX2_judgeField 76 = .ok (.return_, 1) := by decide +kernel
theorem dX2_judgeField_77 : decode cX2_judgeField 77 = .ok (.aload 5, 2) := by decide +kernel
theorem dX2_judgeField_79 : decode cX2_judgeField 79 = .ok (.aload_n 1, 1) := by decide +kernel
theorem dX2_judgeField_80 : decode cX2_judgeField 80 = .ok (.invokevirtual 149, 3) := by decide +kernel
theorem dX2_judgeField_83 : decode cX2_judgeField 83 = .ok (.aload_n 1, 1) := by decide +kernel
theorem dX2_judgeField_84 : decode cX2_judgeField 84 = .ok (.getfield 152, 3) := by decide +kernel
theorem dX2_judgeField_87 : decode cX2_judgeField 87 = .ok (.ifCond .eq 17, 3) := by decide +kernel
theorem dX2_judgeField_90 : decode cX2_judgeField 90 = .ok (.aload_n 1, 1) := by decide +kernel
theorem dX2_judgeField_91 : decode cX2_judgeField 91 = .ok (.getfield 93, 3) := by decide +kernel
theorem dX2_judgeField_94 : decode cX2_judgeField 94 = .ok (.invokestatic 156, 3) := by decide +kernel
theorem dX2_judgeField_97 : decode cX2_judgeField 97 = .ok (.ifCond .eq 7, 3) := by decide +kernel
theorem dX2_judgeField_100 : decode cX2_judgeField 100 = .ok (.iconst 1, 1) := by decide +kernel
theorem dX2_judgeField_101 : decode cX2_judgeField 101 = .ok (.goto 4, 3) := by decide +kernel
theorem dX2_judgeField_104 : decode cX2_judgeField 104 = .ok (.iconst 0, 1) := by decide +kernel
theorem dX2_judgeField_105 : decode cX2_judgeField 105 = .ok (.istore 6, 2) := by decide +kernel
theorem dX2_judgeField_107 : decode cX2_judgeField 107 = .ok (.aload_n 1, 1) := by decide +kernel
theorem dX2_judgeField_108 : decode cX2_judgeField 108 = .ok (.iload 6, 2) := by decide +kernel
theorem dX2_judgeField_110 : decode cX2_judgeField 110 = .ok (.ifCond .eq 14, 3) := by decide +kernel
theorem dX2_judgeField_113 : decode cX2_judgeField 113 = .ok (.aload_n 1, 1) := by decide +kernel
theorem dX2_judgeField_114 : decode cX2_judgeField 114 = .ok (.getfield 160, 3) := by decide +kernel
theorem dX2_judgeField_117 : decode cX2_judgeField 117 = .ok (.ifCond .ne 7, 3) := by decide +kernel
theorem dX2_judgeField_120 : decode cX2_judgeField 120 = .ok (.iconst 1, 1) := by decide +kernel
theorem dX2_judgeField_121 : decode cX2_judgeField 121 = .ok (.goto 4, 3) := by decide +kernel
theorem dX2_judgeField_124 : decode cX2_judgeField 124 = .ok (.iconst 0, 1) := by decide +kernel
theorem dX2_judgeField_125 : decode cX2_judgeField 125 = .ok (.putfield 163, 3) := by decide +kernel
theorem dX2_judgeField_128 : decode cX2_judgeField 128 = .ok (.aload_n 1, 1) := by decide +kernel
theorem dX2_judgeField_129 : decode cX2_judgeField 129 = .ok (.getfield 166, 3) := by decide +kernel
theorem dX2_judgeField_132 : decode cX2_judgeField 132 = .ok (.ifCond .lt 18, 3) := by decide +kernel
theorem dX2_judgeField_135 : decode cX2_judgeField 135 = .ok (.iload 6, 2) := by decide +kernel
theorem dX2_judgeField_137 : decode cX2_judgeField 137 = .ok (.ifCond .ne 13, 3) := by decide +kernel
theorem dX2_judgeField_140 : decode cX2_judgeField 140 = .ok (.aload_n 0, 1) := by decide +kernel
theorem dX2_judgeField_141 : decode cX2_judgeField 141 = .ok (.bipush 6, 2) := by decide +kernel
theorem dX2_judgeField_143 : decode cX2_judgeField 143 = .ok (.aload_n 1, 1) := by decide +kernel
theorem dX2_judgeField_144 : decode cX2_judgeField 144 = .ok (.getfield 166, 3) := by decide +kernel
theorem dX2_judgeField_147 : decode cX2_judgeField 147 = .ok (.invokevirtual 84, 3) := by decide +kernel
theorem dX2_judgeField_150 : decode cX2_judgeField 150 = .ok (.return_, 1) := by decide +kernel
theorem dX3_append_0 : decode cX3_append 0 = .ok (.aload_n 0, 1) := by decide +kernel
theorem dX3_append_1 : decode cX3_append 1 = .ok (.getfield 60, 3) := by decide +kernel
theorem dX3_append_4 : decode cX3_append 4 = .ok (.astore_n 2, 1) := by decide +kernel
theorem dX3_append_5 : decode cX3_append 5 = .ok (.aload_n 2, 1) := by decide +kernel
theorem dX3_append_6 : decode cX3_append 6 = .ok (.ifnull 18, 3) := by decide +kernel
theorem dX3_append_9 : decode cX3_append 9 = .ok (.aload_n 2, 1) := by decide +kernel
theorem dX3_append_10 : decode cX3_append 10 = .ok (.getfield 63, 3) := by decide +kernel
theorem dX3_append_13 : decode cX3_append 13 = .ok (.ifnull 11, 3) := by decide +kernel
theorem dX3_append_16 : decode cX3_append 16 = .ok (.aload_n 2, 1) := by decide +kernel
theorem dX3_append_17 : decode cX3_append 17 = .ok (.getfield 63, 3) := by decide +kernel
theorem dX3_append_20 : decode cX3_append 20 = .ok (.astore_n 2, 1) := by decide +kernel
theorem dX3_append_21 : decode cX3_append 21 = .ok (.goto (-16), 3) := by decide +kernel
theorem dX3_append_24 : decode cX3_append 24 = .ok (.aload_n 2, 1) := by decide +kernel
theorem dX3_append_25 : decode cX3_append 25 = .ok (.ifnonnull 11, 3) := by decide +kernel
theorem dX3_append_28 : decode cX3_append 28 = .ok (.aload_n 0, 1) := by decide +kernel
theorem dX3_append_29 : decode cX3_append 29 = .ok (.aload_n 1, 1) := by decide +kernel
theorem dX3_append_30 : decode cX3_append 30 = .ok (.putfield 60, 3) := by decide +kernel
theorem dX3_append_33 : decode cX3_append 33 = .ok (.goto 8, 3) := by decide +kernel
theorem dX3_append_36 : decode cX3_append 36 = .ok (.aload_n 2, 1) := by decide +kernel
theorem dX3_append_37 : decode cX3_append 37 = .ok (.aload_n 1, 1) := by decide +kernel
theorem dX3_append_38 : decode cX3_append 38 = .ok (.putfield 63, 3) := by decide +kernel
theorem dX3_append_41 : decode cX3_append 41 = .ok (.return_, 1) := by decide +kernel
theorem dX2_judgeValue_0 : decode cX2_judgeValue 0 = .ok (.aload_n 1, 1) := by decide +kernel
theorem dX2_judgeValue_1 : decode cX2_judgeValue 1 = .ok (.getfield 169, 3) := by decide +kernel
theorem dX2_judgeValue_4 : decode cX2_judgeValue 4 = .ok (.astore_n 2, 1) := by decide +kernel
theorem dX2_judgeValue_5 : decode cX2_judgeValue 5 = .ok (.aload_n 1, 1) := by decide +kernel
theorem dX2_judgeValue_6 : decode cX2_judgeValue 6 = .ok (.getfield 132, 3) := by decide +kernel
theorem dX2_judgeValue_9 : decode cX2_judgeValue 9 = .ok (.ldc2_w 172, 3) := by decide +kernel
theorem dX2_judgeValue_12 : decode cX2_judgeValue 12 = .ok (.lcmp, 1) := by decide +kernel
theorem dX2_judgeValue_13 : decode cX2_judgeValue 13 = .ok (.ifCond .lt 14, 3) := by decide +kernel
theorem dX2_judgeValue_16 : decode cX2_judgeValue 16 = .ok (.aload_n 1, 1) := by decide +kernel
theorem dX2_judgeValue_17 : decode cX2_judgeValue 17 = .ok (.getfield 132, 3) := by decide +kernel
theorem dX2_judgeValue_20 : decode cX2_judgeValue 20 = .ok (.ldc2_w 174, 3) := by decide +kernel
theorem dX2_judgeValue_23 : decode cX2_judgeValue 23 = .ok (.lcmp, 1) := by decide +kernel
theorem dX2_judgeValue_24 : decode cX2_judgeValue 24 = .ok (.ifCond .le 7, 3) := by decide +kernel
theorem dX2_judgeValue_27 : decode cX2_judgeValue 27 = .ok (.iconst 1, 1) := by decide +kernel
theorem dX2_judgeValue_28 : decode cX2_judgeValue 28 = .ok (.goto 4, 3) := by decide +kernel
theorem dX2_judgeValue_31 : decode cX2_judgeValue 31 = .ok (.iconst 0, 1) := by decide +kernel
theorem dX2_judgeValue_32 : decode cX2_judgeValue 32 = .ok (.istore_n 3, 1) := by decide +kernel
theorem dX2_judgeValue_33 : decode cX2_judgeValue 33 = .ok (.iload_n 3, 1) := by decide +kernel
theorem dX2_judgeValue_34 : decode cX2_judgeValue 34 = .ok (.ifCond .ne 23, 3) := by decide +kernel
theorem dX2_judgeValue_37 : decode cX2_judgeValue 37 = .ok (.aload_n 2, 1) := by decide +kernel
theorem dX2_judgeValue_38 : decode cX2_judgeValue 38 = .ok (.ifnull 19, 3) := by decide +kernel
theorem dX2_judgeValue_41 : decode cX2_judgeValue 41 = .ok (.aload_n 2, 1) := by decide +kernel
theorem dX2_judgeValue_42 : decode cX2_judgeValue 42 = .ok (.getfield 176, 3) := by decide +kernel
theorem dX2_judgeValue_45 : decode cX2_judgeValue 45 = .ok (.ifnonnull 23, 3) := by decide +kernel
theorem dX2_judgeValue_48 : decode cX2_judgeValue 48 = .ok (.aload_n 1, 1) := by decide +kernel
theorem dX2_judgeValue_49 : decode cX2_judgeValue 49 = .ok (.getfield 132, 3) := by decide +kernel
theorem dX2_judgeValue_52 : decode cX2_judgeValue 52 = .ok (.lconst 0, 1) := by decide +kernel
theorem dX2_judgeValue_53 : decode cX2_judgeValue 53 = .ok (.lcmp, 1) := by decide +kernel
theorem dX2_judgeValue_54 : decode cX2_judgeValue 54 = .ok (.ifCond .eq 14, 3) := by decide +kernel
theorem dX2_judgeValue_57 : decode cX2_judgeValue 57 = .ok (.aload_n 0, 1) := by decide +kernel
theorem dX2_judgeValue_58 : decode cX2_judgeValue 58 = .ok (.bipush 6, 2) := by decide +kernel
theorem dX2_judgeValue_60 : decode cX2_judgeValue 60 = .ok (.aload_n 1, 1) := by decide +kernel
theorem dX2_judgeValue_61 : decode cX2_judgeValue 61 = .ok (.getfield 146, 3) := by decide +kernel
theorem dX2_judgeValue_64 : decode cX2_judgeValue 64 = .ok (.invokevirtual 84, 3) := by decide +kernel
theorem dX2_judgeValue_67 : decode cX2_judgeValue 67 = .ok (.return_, 1) := by decide +kernel
theorem dX2_judgeValue_68 : decode cX2_judgeValue 68 = .ok (.aload_n 2, 1) := by decide +kernel
theorem dX2_judgeValue_69 : decode cX2_judgeValue 69 = .ok (.aload_n 1, 1) := by decide +kernel
theorem dX2_judgeValue_70 : decode cX2_judgeValue 70 = .ok (.invokevirtual 179, 3) := by decide +kernel
theorem dX2_judgeValue_73 : decode cX2_judgeValue 73 = .ok (.return_, 1) := by decide +kernel
theorem dX2_judge_0 : decode cX2_judge 0 = .ok (.aload_n 1, 1) := by decide +kernel
theorem dX2_judge_1 : decode cX2_judge 1 = .ok (.ifnonnull 4, 3) := by decide +kernel
theorem dX2_judge_4 : decode cX2_judge 4 = .ok (.return_, 1) := by decide +kernel
theorem dX2_judge_5 : decode cX2_judge 5 = .ok (.aload_n 1, 1) := by decide +kernel
theorem dX2_judge_6 : decode cX2_judge 6 = .ok (.getfield 88, 3) := by decide +kernel
theorem dX2_judge_9 : decode cX2_judge 9 = .ok (.iconst 2, 1) := by decide +kernel
theorem dX2_judge_10 : decode cX2_judge 10 = .ok (.if_icmp .ne 7, 3) := by decide +kernel
theorem dX2_judge_13 : decode cX2_judge 13 = .ok (.iconst 1, 1) := by decide +kernel
theorem dX2_judge_14 : decode cX2_judge 14 = .ok (.goto 4, 3) := by decide +kernel
theorem dX2_judge_17 : decode cX2_judge 17 = .ok (.iconst 0, 1) := by decide +kernel
theorem dX2_judge_18 : decode cX2_judge 18 = .ok (.istore_n 3, 1) := by decide +kernel
theorem dX2_judge_19 : decode cX2_judge 19 = .ok (.iload_n 3, 1) := by decide +kernel
theorem dX2_judge_20 : decode cX2_judge 20 = .ok (.ifCond .eq 39, 3) := by decide +kernel
theorem dX2_judge_23 : decode cX2_judge 23 = .ok (.aload_n 1, 1) := by decide +kernel
theorem dX2_judge_24 : decode cX2_judge 24 = .ok (.getfield 93, 3) := by decide +kernel
theorem dX2_judge_27 : decode cX2_judge 27 = .ok (.bipush 13, 2) := by decide +kernel
theorem dX2_judge_29 : decode cX2_judge 29 = .ok (.if_icmp .ne 30, 3) := by decide +kernel
theorem dX2_judge_32 : decode cX2_judge 32 = .ok (.aload_n 0, 1) := by decide +kernel
theorem dX2_judge_33 : decode cX2_judge 33 = .ok (.aload_n 1, 1) := by decide +kernel
theorem dX2_judge_34 : decode cX2_judge 34 = .ok (.invokevirtual 96, 3) := by decide +kernel
theorem dX2_judge_37 : decode cX2_judge 37 = .ok (.ifCond .ne 22, 3) := by decide +kernel
theorem dX2_judge_40 : decode cX2_judge 40 = .ok (.aload_n 0, 1) := by decide +kernel
theorem dX2_judge_41 : decode cX2_judge 41 = .ok (.iconst 5, 1) := by decide +kernel
theorem dX2_judge_42 : decode cX2_judge 42 = .ok (.aload_n 0, 1) := by decide +kernel
theorem dX2_judge_43 : decode cX2_judge 43 = .ok (.getfield 27, 3) := by decide +kernel
theorem dX2_judge_46 : decode cX2_judge 46 = .ok (.aload_n 1, 1) := by decide +kernel
theorem dX2_judge_47 : decode cX2_judge 47 = .ok (.getfield 100, 3) := by decide +kernel
theorem dX2_judge_50 : decode cX2_judge 50 = .ok (.invokevirtual 103, 3) := by decide +kernel
theorem dX2_judge_53 : decode cX2_judge 53 = .ok (.invokevirtual 84, 3) := by decide +kernel
theorem dX2_judge_56 : decode cX2_judge 56 = .ok (.goto 49, 3) := by decide +kernel
theorem dX2_judge_59 : decode cX2_judge 59 = .ok (.aload_n 0, 1) := by decide +kernel
theorem dX2_judge_60 : decode cX2_judge 60 = .ok (.aload_n 1, 1) := by decide +kernel
theorem dX2_judge_61 : decode cX2_judge 61 = .ok (.iload_n 2, 1) := by decide +kernel
theorem dX2_judge_62 : decode cX2_judge 62 = .ok (.invokevirtual 107, 3) := by decide +kernel
theorem dX2_judge_65 : decode cX2_judge 65 = .ok (.ifCond .eq 15, 3) := by decide +kernel
theorem dX2_judge_68 : decode cX2_judge 68 = .ok (.aload_n 0, 1) := by decide +kernel
theorem dX2_judge_69 : decode cX2_judge 69 = .ok (.iconst 3, 1) := by decide +kernel
theorem dX2_judge_70 : decode cX2_judge 70 = .ok (.aload_n 1, 1) := by decide +kernel
theorem dX2_judge_71 : decode cX2_judge 71 = .ok (.getfield 111, 3) := by decide +kernel
theorem dX2_judge_74 : decode cX2_judge 74 = .ok (.invokevirtual 84, 3) := by decide +kernel
theorem dX2_judge_77 : decode cX2_judge 77 = .ok (.goto 28, 3) := by decide +kernel
theorem dX2_judge_80 : decode cX2_judge 80 = .ok (.iload_n 3, 1) := by decide +kernel
theorem dX2_judge_81 : decode cX2_judge 81 = .ok (.ifCond .eq 11, 3) := by decide +kernel
theorem dX2_judge_84 : decode cX2_judge 84 = .ok (.aload_n 0, 1) := by decide +kernel
theorem dX2_judge_85 : decode cX2_judge 85 = .ok (.aload_n 1, 1) := by decide +kernel
theorem dX2_judge_86 : decode cX2_judge 86 = .ok (.invokevirtual 114, 3) := by decide +kernel
theorem dX2_judge_89 : decode cX2_judge 89 = .ok (.goto 16, 3) := by decide +kernel
theorem dX2_judge_92 : decode cX2_judge 92 = .ok (.aload_n 1, 1) := by decide +kernel
theorem dX2_judge_93 : decode cX2_judge 93 = .ok (.getfield 88, 3) := by decide +kernel
theorem dX2_judge_96 : decode cX2_judge 96 = .ok (.iconst 3, 1) := by decide +kernel
theorem dX2_judge_97 : decode cX2_judge 97 = .ok (.if_icmp .ne 8, 3) := by decide +kernel
theorem dX2_judge_100 : decode cX2_judge 100 = .ok (.aload_n 0, 1) := by decide +kernel
theorem dX2_judge_101 : decode cX2_judge 101 = .ok (.aload_n 1, 1) := by decide +kernel
theorem dX2_judge_102 : decode cX2_judge 102 = .ok (.invokevirtual 118, 3) := by decide +kernel
theorem dX2_judge_105 : decode cX2_judge 105 = .ok (.return_, 1) := by decide +kernel
theorem dX6_count_0 : decode cX6_count 0 = .ok (.iload_n 1, 1) := by decide +kernel
theorem dX6_count_1 : decode cX6_count 1 = .ok (.ifCond .lt 21, 3) := by decide +kernel
theorem dX6_count_4 : decode cX6_count 4 = .ok (.iload_n 1, 1) := by decide +kernel
theorem dX6_count_5 : decode cX6_count 5 = .ok (.aload_n 0, 1) := by decide +kernel
theorem dX6_count_6 : decode cX6_count 6 = .ok (.getfield 27, 3) := by decide +kernel
theorem dX6_count_9 : decode cX6_count 9 = .ok (.arraylength, 1) := by decide +kernel
theorem dX6_count_10 : decode cX6_count 10 = .ok (.if_icmp .ge 12, 3) := by decide +kernel
theorem dX6_count_13 : decode cX6_count 13 = .ok (.aload_n 0, 1) := by decide +kernel
theorem dX6_count_14 : decode cX6_count 14 = .ok (.getfield 27, 3) := by decide +kernel
theorem dX6_count_17 : decode cX6_count 17 = .ok (.iload_n 1, 1) := by decide +kernel
theorem dX6_count_18 : decode cX6_count 18 = .ok (.iaload, 1) := by decide +kernel
theorem dX6_count_19 : decode cX6_count 19 = .ok (.goto 4, 3) := by decide +kernel
theorem dX6_count_22 : decode cX6_count 22 = .ok (.iconst 0, 1) := by decide +kernel
theorem dX6_count_23 : decode cX6_count 23 = .ok (.ireturn, 1) := by decide +kernel
theorem dX6_nameBytes_0 : decode cX6_nameBytes 0 = .ok (.aload_n 0, 1) := by decide +kernel
theorem dX6_nameBytes_1 : decode cX6_nameBytes 1 = .ok (.getfield 38, 3) := by decide +kernel
theorem dX6_nameBytes_4 : decode cX6_nameBytes 4 = .ok (.ireturn, 1) := by decide +kernel
theorem dX2_isTooMuch_0 : decode cX2_isTooMuch 0 = .ok (.aload_n 0, 1) := by decide +kernel
theorem dX2_isTooMuch_1 : decode cX2_isTooMuch 1 = .ok (.getfield 12, 3) := by decide +kernel
theorem dX2_isTooMuch_4 : decode cX2_isTooMuch 4 = .ok (.iconst 0, 1) := by decide +kernel
theorem dX2_isTooMuch_5 : decode cX2_isTooMuch 5 = .ok (.invokevirtual 203, 3) := by decide +kernel
theorem dX2_isTooMuch_8 : decode cX2_isTooMuch 8 = .ok (.bipush 16, 2) := by decide +kernel
theorem dX2_isTooMuch_10 : decode cX2_isTooMuch 10 = .ok (.if_icmp .gt 68, 3) := by decide +kernel
theorem dX2_isTooMuch_13 : decode cX2_isTooMuch 13 = .ok (.aload_n 0, 1) := by decide +kernel
theorem dX2_isTooMuch_14 : decode cX2_isTooMuch 14 = .ok (.getfield 12, 3) := by decide +kernel
theorem dX2_isTooMuch_17 : decode cX2_isTooMuch 17 = .ok (.iconst 1, 1) := by decide +kernel
theorem dX2_isTooMuch_18 : decode cX2_isTooMuch 18 = .ok (.invokevirtual 203, 3) := by decide +kernel
theorem dX2_isTooMuch_21 : decode cX2_isTooMuch 21 = .ok (.bipush 8, 2) := by decide +kernel
theorem dX2_isTooMuch_23 : decode cX2_isTooMuch 23 = .ok (.if_icmp .gt 55, 3) := by decide +kernel
theorem dX2_isTooMuch_26 : decode cX2_isTooMuch 26 = .ok (.aload_n 0, 1) := by decide +kernel
theorem dX2_isTooMuch_27 : decode cX2_isTooMuch 27 = .ok (.getfield 12, 3) := by decide +kernel
theorem dX2_isTooMuch_30 : decode cX2_isTooMuch 30 = .ok (.iconst 2, 1) := by decide +kernel
theorem dX2_isTooMuch_31 : decode cX2_isTooMuch 31 = .ok (.invokevirtual 203, 3) := by decide +kernel
theorem dX2_isTooMuch_34 : decode cX2_isTooMuch 34 = .ok (.bipush 60, 2) := by decide +kernel
theorem dX2_isTooMuch_36 : decode cX2_isTooMuch 36 = .ok (.if_icmp .gt 42, 3) := by decide +kernel
theorem dX2_isTooMuch_39 : decode cX2_isTooMuch 39 = .ok (.aload_n 0, 1) := by decide +kernel
theorem dX2_isTooMuch_40 : decode cX2_isTooMuch 40 = .ok (.getfield 12, 3) := by decide +kernel
theorem dX2_isTooMuch_43 : decode cX2_isTooMuch 43 = .ok (.iconst 3, 1) := by decide +kernel
theorem dX2_isTooMuch_44 : decode cX2_isTooMuch 44 = .ok (.invokevirtual 203, 3) := by decide +kernel
theorem dX2_isTooMuch_47 : decode cX2_isTooMuch 47 = .ok (.bipush 40, 2) := by decide +kernel
theorem dX2_isTooMuch_49 : decode cX2_isTooMuch 49 = .ok (.if_icmp .gt 29, 3) := by decide +kernel
theorem dX2_isTooMuch_52 : decode cX2_isTooMuch 52 = .ok (.aload_n 0, 1) := by decide +kernel
theorem dX2_isTooMuch_53 : decode cX2_isTooMuch 53 = .ok (.getfield 12, 3) := by decide +kernel
theorem dX2_isTooMuch_56 : decode cX2_isTooMuch 56 = .ok (.iconst 4, 1) := by decide +kernel
theorem dX2_isTooMuch_57 : decode cX2_isTooMuch 57 = .ok (.invokevirtual 203, 3) := by decide +kernel
theorem dX2_isTooMuch_60 : decode cX2_isTooMuch 60 = .ok (.bipush 16, 2) := by decide +kernel
theorem dX2_isTooMuch_62 : decode cX2_isTooMuch 62 = .ok (.if_icmp .gt 16, 3) := by decide +kernel
theorem dX2_isTooMuch_65 : decode cX2_isTooMuch 65 = .ok (.aload_n 0, 1) := by decide +kernel
theorem dX2_isTooMuch_66 : decode cX2_isTooMuch 66 = .ok (.getfield 12, 3) := by decide +kernel
theorem dX2_isTooMuch_69 : decode cX2_isTooMuch 69 = .ok (.invokevirtual 205, 3) := by decide +kernel
theorem dX2_isTooMuch_72 : decode cX2_isTooMuch 72 = .ok (.sipush 600, 3) := by decide +kernel
theorem dX2_isTooMuch_75 : decode cX2_isTooMuch 75 = .ok (.if_icmp .le 7, 3) := by decide +kernel
theorem dX2_isTooMuch_78 : decode cX2_isTooMuch 78 = .ok (.iconst 1, 1) := by decide +kernel
theorem dX2_isTooMuch_79 : decode cX2_isTooMuch 79 = .ok (.goto 4, 3) := by decide +kernel
theorem dX2_isTooMuch_82 : decode cX2_isTooMuch 82 = .ok (.iconst 0, 1) := by decide +kernel
theorem dX2_isTooMuch_83 : decode cX2_isTooMuch 83 = .ok (.ireturn, 1) := by decide +kernel
theorem dX2_run_0 : decode cX2_run 0 = .ok (.aload_n 0, 1) := by decide +kernel
theorem dX2_run_1 : decode cX2_run 1 = .ok (.getfield 12, 3) := by decide +kernel
theorem dX2_run_4 : decode cX2_run 4 = .ok (.invokevirtual 44, 3) := by decide +kernel
theorem dX2_run_7 : decode cX2_run 7 = .ok (.aload_n 0, 1) := by decide +kernel
theorem dX2_run_8 : decode cX2_run 8 = .ok (.getfield 12, 3) := by decide +kernel
theorem dX2_run_11 : decode cX2_run 11 = .ok (.invokevirtual 20, 3) := by decide +kernel
theorem dX2_run_14 : decode cX2_run 14 = .ok (.aload_n 1, 1) := by decide +kernel
theorem dX2_run_15 : decode cX2_run 15 = .ok (.iconst 0, 1) := by decide +kernel
theorem dX2_run_16 : decode cX2_run 16 = .ok (.aload_n 1, 1) := by decide +kernel
theorem dX2_run_17 : decode cX2_run 17 = .ok (.invokevirtual 47, 3) := by decide +kernel
theorem dX2_run_20 : decode cX2_run 20 = .ok (.invokevirtual 53, 3) := by decide +kernel
theorem dX2_run_23 : decode cX2_run 23 = .ok (.aload_n 0, 1) := by decide +kernel
theorem dX2_run_24 : decode cX2_run 24 = .ok (.getfield 27, 3) := by decide +kernel
theorem dX2_run_27 : decode cX2_run 27 = .ok (.invokevirtual 57, 3) := by decide +kernel
theorem dX2_run_30 : decode cX2_run 30 = .ok (.aload_n 0, 1) := by decide +kernel
theorem dX2_run_31 : decode cX2_run 31 = .ok (.aload_n 0, 1) := by decide +kernel
theorem dX2_run_32 : decode cX2_run 32 = .ok (.getfield 36, 3) := by decide +kernel
theorem dX2_run_35 : decode cX2_run 35 = .ok (.invokevirtual 60, 3) := by decide +kernel
theorem dX2_run_38 : decode cX2_run 38 = .ok (.putfield 63, 3) := by decide +kernel
theorem dX2_run_41 : decode cX2_run 41 = .ok (.aload_n 0, 1) := by decide +kernel
theorem dX2_run_42 : decode cX2_run 42 = .ok (.aload_n 0, 1) := by decide +kernel
theorem dX2_run_43 : decode cX2_run 43 = .ok (.getfield 63, 3) := by decide +kernel
theorem dX2_run_46 : decode cX2_run 46 = .ok (.ifCond .ne 7, 3) := by decide +kernel
theorem dX2_run_49 : decode cX2_run 49 = .ok (.iconst (-1), 1) := by decide +kernel
theorem dX2_run_50 : decode cX2_run 50 = .ok (.goto 10, 3) := by decide +kernel
theorem dX2_run_53 : decode cX2_run 53 = .ok (.aload_n 0, 1) := by decide +kernel
theorem dX2_run_54 : decode cX2_run 54 = .ok (.getfield 36, 3) := by decide +kernel
theorem dX2_run_57 : decode cX2_run 57 = .ok (.invokevirtual 66, 3) := by decide +kernel
theorem dX2_run_60 : decode cX2_run 60 = .ok (.putfield 40, 3) := by decide +kernel
theorem dX2_run_63 : decode cX2_run 63 = .ok (.iconst 0, 1) := by decide +kernel
theorem dX2_run_64 : decode cX2_run 64 = .ok (.istore_n 2, 1) := by decide +kernel
theorem dX2_run_65 : decode cX2_run 65 = .ok (.iload_n 2, 1) := by decide +kernel
theorem dX2_run_66 : decode cX2_run 66 = .ok (.aload_n 0, 1) := by decide +kernel
theorem dX2_run_67 : decode cX2_run 67 = .ok (.getfield 12, 3) := by decide +kernel
theorem dX2_run_70 : decode cX2_run 70 = .ok (.invokevirtual 69, 3) := by decide +kernel
theorem dX2_run_73 : decode cX2_run 73 = .ok (.if_icmp .ge 29, 3) := by decide +kernel
theorem dX2_run_76 : decode cX2_run 76 = .ok (.aload_n 0, 1) := by decide +kernel
theorem dX2_run_77 : decode cX2_run 77 = .ok (.getfield 63, 3) := by decide +kernel
theorem dX2_run_80 : decode cX2_run 80 = .ok (.ifCond .ne 22, 3) := by decide +kernel
theorem dX2_run_83 : decode cX2_run 83 = .ok (.aload_n 0, 1) := by decide +kernel
theorem dX2_run_84 : decode cX2_run 84 = .ok (.aload_n 0, 1) := by decide +kernel
theorem dX2_run_85 : decode cX2_run 85 = .ok (.getfield 12, 3) := by decide +kernel
theorem dX2_run_88 : decode cX2_run 88 = .ok (.iload_n 2, 1) := by decide +kernel
theorem dX2_run_89 : decode cX2_run 89 = .ok (.invokevirtual 72, 3) := by decide +kernel
theorem dX2_run_92 : decode cX2_run 92 = .ok (.iload_n 2, 1) := by decide +kernel
theorem dX2_run_93 : decode cX2_run 93 = .ok (.invokevirtual 76, 3) := by decide +kernel
theorem dX2_run_96 : decode cX2_run 96 = .ok (.iinc 2 1, 3) := by decide +kernel
theorem dX2_run_99 : decode cX2_run 99 = .ok (.goto (-34), 3) := by decide +kernel
theorem dX2_run_102 : decode cX2_run 102 = .ok (.aload_n 0, 1) := by decide +kernel
theorem dX2_run_103 : decode cX2_run 103 = .ok (.getfield 63, 3) := by decide +kernel
theorem dX2_run_106 : decode cX2_run 106 = .ok (.ifCond .ne 20, 3) := by decide +kernel
theorem dX2_run_109 : decode cX2_run 109 = .ok (.aload_n 0, 1) := by decide +kernel
theorem dX2_run_110 : decode cX2_run 110 = .ok (.invokevirtual 80, 3) := by decide +kernel
theorem dX2_run_113 : decode cX2_run 113 = .ok (.ifCond .eq 13, 3) := by decide +kernel
theorem dX2_run_116 : decode cX2_run 116 = .ok (.aload_n 0, 1) := by decide +kernel
theorem dX2_run_117 : decode cX2_run 117 = .ok (.bipush 7, 2) := by decide +kernel
theorem dX2_run_119 : decode cX2_run 119 = .ok (.aload_n 1, 1) := by decide +kernel
theorem dX2_run_120 : decode cX2_run 120 = .ok (.invokevirtual 47, 3) := by decide +kernel
theorem dX2_run_123 : decode cX2_run 123 = .ok (.invokevirtual 84, 3) := by decide +kernel
theorem dX2_run_126 : decode cX2_run 126 = .ok (.aload_n 0, 1) := by decide +kernel
theorem dX2_run_127 : decode cX2_run 127 = .ok (.getfield 63, 3) := by decide +kernel
theorem dX2_run_130 : decode cX2_run 130 = .ok (.ifCond .eq 10, 3) := by decide +kernel
theorem dX2_run_133 : decode cX2_run 133 = .ok (.aload_n 0, 1) := by decide +kernel
theorem dX2_run_134 : decode cX2_run 134 = .ok (.getfield 12, 3) := by decide +kernel
theorem dX2_run_137 : decode cX2_run 137 = .ok (.invokevirtual 44, 3) := by decide +kernel
theorem dX2_run_140 : decode cX2_run 140 = .ok (.aload_n 0, 1) := by decide +kernel
theorem dX2_run_141 : decode cX2_run 141 = .ok (.getfield 63, 3) := by decide +kernel
theorem dX2_run_144 : decode cX2_run 144 = .ok (.ireturn, 1) := by decide +kernel
theorem dX2_faultAt_0 : decode cX2_faultAt 0 = .ok (.aload_n 0, 1) := by decide +kernel
theorem dX2_faultAt_1 : decode cX2_faultAt 1 = .ok (.getfield 40, 3) := by decide +kernel
theorem dX2_faultAt_4 : decode cX2_faultAt 4 = .ok (.ireturn, 1) := by decide +kernel
theorem dX11_compile_0 : decode cX11_compile 0 = .ok (.aload_n 0, 1) := by decide +kernel
theorem dX11_compile_1 : decode cX11_compile 1 = .ok (.iload_n 1, 1) := by decide +kernel
theorem dX11_compile_2 : decode cX11_compile 2 = .ok (.invokevirtual 86, 3) := by decide +kernel
theorem dX11_compile_5 : decode cX11_compile 5 = .ok (.astore_n 2, 1) := by decide +kernel
theorem dX11_compile_6 : decode cX11_compile 6 = .ok (.aload_n 2, 1) := by decide +kernel
theorem dX11_compile_7 : decode cX11_compile 7 = .ok (.ifnonnull 13, 3) := by decide +kernel
theorem dX11_compile_10 : decode cX11_compile 10 = .ok (.new 67, 3) := by decide +kernel
theorem dX11_compile_13 : decode cX11_compile 13 = .ok (.dup, 1) := by decide +kernel
theorem dX11_compile_14 : decode cX11_compile 14 = .ok (.ldc 90, 2) := by decide +kernel
theorem dX11_compile_16 : decode cX11_compile 16 = .ok (.invokespecial 71, 3) := by decide +kernel
theorem dX11_compile_19 : decode cX11_compile 19 = .ok (.athrow, 1) := by decide +kernel
theorem dX11_compile_20 : decode cX11_compile 20 = .ok (.aload_n 0, 1) := by decide +kernel
theorem dX11_compile_21 : decode cX11_compile 21 = .ok (.getfield 34, 3) := by decide +kernel
theorem dX11_compile_24 : decode cX11_compile 24 = .ok (.invokevirtual 92, 3) := by decide +kernel
theorem dX11_compile_27 : decode cX11_compile 27 = .ok (.aload_n 2, 1) := by decide +kernel
theorem dX11_compile_28 : decode cX11_compile 28 = .ok (.aload_n 0, 1) := by decide +kernel
theorem dX11_compile_29 : decode cX11_compile 29 = .ok (.getfield 14, 3) := by decide +kernel
theorem dX11_compile_32 : decode cX11_compile 32 = .ok (.invokevirtual 95, 3) := by decide +kernel
theorem dX11_compile_35 : decode cX11_compile 35 = .ok (.istore_n 3, 1) := by decide +kernel
theorem dX11_compile_36 : decode cX11_compile 36 = .ok (.aload_n 0, 1) := by decide +kernel
theorem dX11_compile_37 : decode cX11_compile 37 = .ok (.getfield 14, 3) := by decide +kernel
theorem dX11_compile_40 : decode cX11_compile 40 = .ok (.invokevirtual 99, 3) := by decide +kernel
theorem dX11_compile_43 : decode cX11_compile 43 = .ok (.aload_n 0, 1) := by decide +kernel
theorem dX11_compile_44 : decode cX11_compile 44 = .ok (.aload_n 2, 1) := by decide +kernel
theorem dX11_compile_45 : decode cX11_compile 45 = .ok (.invokevirtual 102, 3) := by decide +kernel
theorem dX11_compile_48 : decode cX11_compile 48 = .ok (.putfield 63, 3) := by decide +kernel
theorem dX11_compile_51 : decode cX11_compile 51 = .ok (.iload_n 3, 1) := by decide +kernel
theorem dX11_compile_52 : decode cX11_compile 52 = .ok (.ireturn, 1) := by decide +kernel
theorem dX11_messageOf_0 : decode cX11_messageOf 0 = .ok (.aload_n 0, 1) := by decide +kernel
theorem dX11_messageOf_1 : decode cX11_messageOf 1 = .ok (.iload_n 1, 1) := by decide +kernel
theorem dX11_messageOf_2 : decode cX11_messageOf 2 = .ok (.invokevirtual 86, 3) := by decide +kernel
theorem dX11_messageOf_5 : decode cX11_messageOf 5 = .ok (.astore_n 3, 1) := by decide +kernel
theorem dX11_messageOf_6 : decode cX11_messageOf 6 = .ok (.aload_n 3, 1) := by decide +kernel
theorem dX11_messageOf_7 : decode cX11_messageOf 7 = .ok (.ifnonnull 7, 3) := by decide +kernel
theorem dX11_messageOf_10 : decode cX11_messageOf 10 = .ok (.aconst_null, 1) := by decide +kernel
theorem dX11_messageOf_11 : decode cX11_messageOf 11 = .ok (.goto 11, 3) := by decide +kernel
theorem dX11_messageOf_14 : decode cX11_messageOf 14 = .ok (.aload_n 3, 1) := by decide +kernel
theorem dX11_messageOf_15 : decode cX11_messageOf 15 = .ok (.invokevirtual 109, 3) := by decide +kernel
theorem dX11_messageOf_18 : decode cX11_messageOf 18 = .ok (.iload_n 2, 1) := by decide +kernel
theorem dX11_messageOf_19 : decode cX11_messageOf 19 = .ok (.invokevirtual 193, 3) := by decide +kernel
theorem dX11_messageOf_22 : decode cX11_messageOf 22 = .ok (.areturn, 1) := by decide +kernel
theorem dX8_begin_0 : decode cX8_begin 0 = .ok (.aload_n 0, 1) := by decide +kernel
theorem dX8_begin_1 : decode cX8_begin 1 = .ok (.invokevirtual 56, 3) := by decide +kernel
theorem dX8_begin_4 : decode cX8_begin 4 = .ok (.aload_n 0, 1) := by decide +kernel
theorem dX8_begin_5 : decode cX8_begin 5 = .ok (.aload_n 1, 1) := by decide +kernel
theorem dX8_begin_6 : decode cX8_begin 6 = .ok (.putfield 37, 3) := by decide +kernel
theorem dX8_begin_9 : decode cX8_begin 9 = .ok (.aload_n 0, 1) := by decide +kernel
theorem dX8_begin_10 : decode cX8_begin 10 = .ok (.aload_n 2, 1) := by decide +kernel
theorem dX8_begin_11 : decode cX8_begin 11 = .ok (.putfield 33, 3) := by decide +kernel
theorem dX8_begin_14 : decode cX8_begin 14 = .ok (.return_, 1) := by decide +kernel
theorem dX11_opens_0 : decode cX11_opens 0 = .ok (.aload_n 0, 1) := by decide +kernel
theorem dX11_opens_1 : decode cX11_opens 1 = .ok (.iload_n 1, 1) := by decide +kernel
theorem dX11_opens_2 : decode cX11_opens 2 = .ok (.invokevirtual 86, 3) := by decide +kernel
theorem dX11_opens_5 : decode cX11_opens 5 = .ok (.astore 4, 2) := by decide +kernel
theorem dX11_opens_7 : decode cX11_opens 7 = .ok (.aload_n 0, 1) := by decide +kernel
theorem dX11_opens_8 : decode cX11_opens 8 = .ok (.iload_n 1, 1) := by decide +kernel
theorem dX11_opens_9 : decode cX11_opens 9 = .ok (.iload_n 2, 1) := by decide +kernel
theorem dX11_opens_10 : decode cX11_opens 10 = .ok (.invokevirtual 119, 3) := by decide +kernel
theorem dX11_opens_13 : decode cX11_opens 13 = .ok (.astore 5, 2) := by decide +kernel
theorem dX11_opens_15 : decode cX11_opens 15 = .ok (.aload 4, 2) := by decide +kernel
theorem dX11_opens_17 : decode cX11_opens 17 = .ok (.ifnull 19, 3) := by decide +kernel
theorem dX11_opens_20 : decode cX11_opens 20 = .ok (.aload 5, 2) := by decide +kernel
theorem dX11_opens_22 : decode cX11_opens 22 = .ok (.ifnull 14, 3) := by decide +kernel
theorem dX11_opens_25 : decode cX11_opens 25 = .ok (.iload_n 3, 1) := by decide +kernel
theorem dX11_opens_26 : decode cX11_opens 26 = .ok (.iconst 1, 1) := by decide +kernel
theorem dX11_opens_27 : decode cX11_opens 27 = .ok (.if_icmp .lt 9, 3) := by decide +kernel
theorem dX11_opens_30 : decode cX11_opens 30 = .ok (.iload_n 3, 1) := by decide +kernel
theorem dX11_opens_31 : decode cX11_opens 31 = .ok (.bipush 20, 2) := by decide +kernel
theorem dX11_opens_33 : decode cX11_opens 33 = .ok (.if_icmp .le 5, 3) := by decide +kernel
theorem dX11_opens_36 : decode cX11_opens 36 = .ok (.iconst 0, 1) := by decide +kernel
theorem dX11_opens_37 : decode cX11_opens 37 = .ok (.ireturn, 1) := by decide +kernel
theorem dX11_opens_38 : decode cX11_opens 38 = .ok (.aload_n 0, 1) := by decide +kernel
theorem dX11_opens_39 : decode cX11_opens 39 = .ok (.getfield 34, 3) := by decide +kernel
theorem dX11_opens_42 : decode cX11_opens 42 = .ok (.aload 4, 2) := by decide +kernel
theorem dX11_opens_44 : decode cX11_opens 44 = .ok (.invokevirtual 109, 3) := by decide +kernel
theorem dX11_opens_47 : decode cX11_opens 47 = .ok (.aload 5, 2) := by decide +kernel
theorem dX11_opens_49 : decode cX11_opens 49 = .ok (.invokevirtual 222, 3) := by decide +kernel
theorem dX11_opens_52 : decode cX11_opens 52 = .ok (.iconst 1, 1) := by decide +kernel
theorem dX11_opens_53 : decode cX11_opens 53 = .ok (.ireturn, 1) := by decide +kernel
theorem dX9_readNumber_0 : decode cX9_readNumber 0 = .ok (.iload_n 1, 1) := by decide +kernel
theorem dX9_readNumber_1 : decode cX9_readNumber 1 = .ok (.ifCond .ne 8, 3) := by decide +kernel
theorem dX9_readNumber_4 : decode cX9_readNumber 4 = .ok (.bipush 7, 2) := by decide +kernel
theorem dX9_readNumber_6 : decode cX9_readNumber 6 = .ok (.goto 5, 3) := by decide +kernel
theorem dX9_readNumber_9 : decode cX9_readNumber 9 = .ok (.bipush 8, 2) := by decide +kernel
theorem dX9_readNumber_11 : decode cX9_readNumber 11 = .ok (.istore_n 3, 1) := by decide +kernel
theorem dX9_readNumber_12 : decode cX9_readNumber 12 = .ok (.iload_n 1, 1) := by decide +kernel
theorem dX9_readNumber_13 : decode cX9_readNumber 13 = .ok (.ifCond .ne 8, 3) := by decide +kernel
theorem dX9_readNumber_16 : decode cX9_readNumber 16 = .ok (.bipush 10, 2) := by decide +kernel
theorem dX9_readNumber_18 : decode cX9_readNumber 18 = .ok (.goto 23, 3) := by decide +kernel
theorem dX9_readNumber_21 : decode cX9_readNumber 21 = .ok (.iload_n 1, 1) := by decide +kernel
theorem dX9_readNumber_22 : decode cX9_readNumber 22 = .ok (.iconst 1, 1) := by decide +kernel
theorem dX9_readNumber_23 : decode cX9_readNumber 23 = .ok (.if_icmp .ne 8, 3) := by decide +kernel
theorem dX9_readNumber_26 : decode cX9_readNumber 26 = .ok (.bipush 8, 2) := by decide +kernel
theorem dX9_readNumber_28 : decode cX9_readNumber 28 = .ok (.goto 13, 3) := by decide +kernel
theorem dX9_readNumber_31 : decode cX9_readNumber 31 = .ok (.iload_n 1, 1) := by decide +kernel
theorem dX9_readNumber_32 : decode cX9_readNumber 32 = .ok (.iconst 5, 1) := by decide +kernel
theorem dX9_readNumber_33 : decode cX9_readNumber 33 = .ok (.if_icmp .ne 7, 3) := by decide +kernel
theorem dX9_readNumber_36 : decode cX9_readNumber 36 = .ok (.iconst 4, 1) := by decide +kernel
theorem dX9_readNumber_37 : decode cX9_readNumber 37 = .ok (.goto 4, 3) := by decide +kernel
theorem dX9_readNumber_40 : decode cX9_readNumber 40 = .ok (.iconst 0, 1) := by decide +kernel
theorem dX9_readNumber_41 : decode cX9_readNumber 41 = .ok (.istore 4, 2) := by decide +kernel
theorem dX9_readNumber_43 : decode cX9_readNumber 43 = .ok (.aload_n 0, 1) := by decide +kernel
theorem dX9_readNumber_44 : decode cX9_readNumber 44 = .ok (.lconst 0, 1) := by decide +kernel
theorem dX9_readNumber_45 : decode cX9_readNumber 45 = .ok (.putfield 53, 3) := by decide +kernel
theorem dX9_readNumber_48 : decode cX9_readNumber 48 = .ok (.iconst 0, 1) := by decide +kernel
theorem dX9_readNumber_49 : decode cX9_readNumber 49 = .ok (.istore 5, 2) := by decide +kernel
theorem dX9_readNumber_51 : decode cX9_readNumber 51 = .ok (.iload 5, 2) := by decide +kernel
theorem dX9_readNumber_53 : decode cX9_readNumber 53 = .ok (.iload 4, 2) := by decide +kernel
theorem dX9_readNumber_55 : decode cX9_readNumber 55 = .ok (.if_icmp .ge 97, 3) := by decide +kernel
theorem dX9_readNumber_58 : decode cX9_readNumber 58 = .ok (.aload_n 0, 1) := by decide +kernel
theorem dX9_readNumber_59 : decode cX9_readNumber 59 = .ok (.getfield 22, 3) := by decide +kernel
theorem dX9_readNumber_62 : decode cX9_readNumber 62 = .ok (.iload_n 2, 1) := by decide +kernel
theorem dX9_readNumber_63 : decode cX9_readNumber 63 = .ok (.if_icmp .ge 89, 3) := by decide +kernel
theorem dX9_readNumber_66 : decode cX9_readNumber 66 = .ok (.aload_n 0, 1) := by decide +kernel
theorem dX9_readNumber_67 : decode cX9_readNumber 67 = .ok (.getfield 9, 3) := by decide +kernel
theorem dX9_readNumber_70 : decode cX9_readNumber 70 = .ok (.aload_n 0, 1) := by decide +kernel
theorem dX9_readNumber_71 : decode cX9_readNumber 71 = .ok (.getfield 22, 3) := by decide +kernel
theorem dX9_readNumber_74 : decode cX9_readNumber 74 = .ok (.invokevirtual 135, 3) := by decide +kernel
theorem dX9_readNumber_77 : decode cX9_readNumber 77 = .ok (.i2l, 1) := by decide +kernel
theorem dX9_readNumber_78 : decode cX9_readNumber 78 = .ok (.lstore 6, 2) := by decide +kernel
theorem dX9_readNumber_80 : decode cX9_readNumber 80 = .ok (.aload_n 0, 1) := by decide +kernel
theorem dX9_readNumber_81 : decode cX9_readNumber 81 = .ok (.dup, 1) := by decide +kernel
theorem dX9_readNumber_82 : decode cX9_readNumber 82 = .ok (.getfield 22, 3) := by decide +kernel
theorem dX9_readNumber_85 : decode cX9_readNumber 85 = .ok (.iconst 1, 1) := by decide +kernel
theorem dX9_readNumber_86 : decode cX9_readNumber 86 = .ok (.iadd, 1) := by decide +kernel
theorem dX9_readNumber_87 : decode cX9_readNumber 87 = .ok (.putfield 22, 3) := by decide +kernel
theorem dX9_readNumber_90 : decode cX9_readNumber 90 = .ok (.aload_n 0, 1) := by decide +kernel
theorem dX9_readNumber_91 : decode cX9_readNumber 91 = .ok (.dup, 1) := by decide +kernel
theorem dX9_readNumber_92 : decode cX9_readNumber 92 = .ok (.getfield 53, 3) := by decide +kernel
theorem dX9_readNumber_95 : decode cX9_readNumber 95 = .ok (.iload_n 1, 1) := by decide +kernel
theorem dX9_readNumber_96 : decode cX9_readNumber 96 = .ok (.ifCond .ne 12, 3) := by decide +kernel
theorem dX9_readNumber_99 : decode cX9_readNumber 99 = .ok (.lload 6, 2) := by decide +kernel
theorem dX9_readNumber_101 : decode cX9_readNumber 101 = .ok (.ldc2_w 137, 3) := by decide +kernel
theorem dX9_readNumber_104 : decode cX9_readNumber 104 = .ok (.land, 1) := by decide +kernel
theorem dX9_readNumber_105 : decode cX9_readNumber 105 = .ok (.goto 5, 3) := by decide +kernel
theorem dX9_readNumber_108 : decode cX9_readNumber 108 = .ok (.lload 6, 2) := by decide +kernel
theorem dX9_readNumber_110 : decode cX9_readNumber 110 = .ok (.iload_n 3, 1) := by decide +kernel
theorem dX9_readNumber_111 : decode cX9_readNumber 111 = .ok (.iload 5, 2) := by decide +kernel
theorem dX9_readNumber_113 : decode cX9_readNumber 113 = .ok (.imul, 1) := by decide +kernel
theorem dX9_readNumber_114 : decode cX9_readNumber 114 = .ok (.lshl, 1) := by decide +kernel
theorem dX9_readNumber_115 : decode cX9_readNumber 115 = .ok (.lor, 1) := by decide +kernel
theorem dX9_readNumber_116 : decode cX9_readNumber 116 = .ok (.putfield 53, 3) := by decide +kernel
theorem dX9_readNumber_119 : decode cX9_readNumber 119 = .ok (.iload_n 1, 1) := by decide +kernel
theorem dX9_readNumber_120 : decode cX9_readNumber 120 = .ok (.ifCond .ne 15, 3) := by decide +kernel
theorem dX9_readNumber_123 : decode cX9_readNumber 123 = .ok (.lload 6, 2) := by decide +kernel
theorem dX9_readNumber_125 : decode cX9_readNumber 125 = .ok (.ldc2_w 139, 3) := by decide +kernel
theorem dX9_readNumber_128 : decode cX9_readNumber 128 = .ok (.lcmp, 1) := by decide +kernel
theorem dX9_readNumber_129 : decode cX9_readNumber 129 = .ok (.ifCond .ge 17, 3) := by decide +kernel
theorem dX9_readNumber_132 : decode cX9_readNumber 132 = .ok (.goto 12, 3) := by decide +kernel
theorem dX9_readNumber_135 : decode cX9_readNumber 135 = .ok (.iload 5, 2) := by decide +kernel
theorem dX9_readNumber_137 : decode cX9_readNumber 137 = .ok (.iload 4, 2) := by decide +kernel
theorem dX9_readNumber_139 : decode cX9_readNumber 139 = .ok (.iconst 1, 1) := by decide +kernel
theorem dX9_readNumber_140 : decode cX9_readNumber 140 = .ok (.isub, 1) := by decide +kernel
theorem dX9_readNumber_141 : decode cX9_readNumber 141 = .ok (.if_icmp .ne 5, 3) := by decide +kernel
theorem dX9_readNumber_144 : decode cX9_readNumber 144 = .ok (.iconst 1, 1) := by decide +kernel
theorem dX9_readNumber_145 : decode cX9_readNumber 145 = .ok (.ireturn, 1) := by decide +kernel
theorem dX9_readNumber_146 : decode cX9_readNumber 146 = .ok (.iinc 5 1, 3) := by decide +kernel
theorem dX9_readNumber_149 : decode cX9_readNumber 149 = .ok (.goto (-98), 3) := by decide +kernel
theorem dX9_readNumber_152 : decode cX9_readNumber 152 = .ok (.iconst 0, 1) := by decide +kernel
theorem dX9_readNumber_153 : decode cX9_readNumber 153 = .ok (.ireturn, 1) := by decide +kernel
theorem dX9_kindOf_0 : decode cX9_kindOf 0 = .ok (.iload_n 0, 1) := by decide +kernel
theorem dX9_kindOf_1 : decode cX9_kindOf 1 = .ok (.tableswitch 53 6 13 #[49, 47, 49, 47, 53, 51, 51, 51], 47) := by decide +kernel
theorem dX9_kindOf_48 : decode cX9_kindOf 48 = .ok (.iconst 1, 1) := by decide +kernel
theorem dX9_kindOf_49 : decode cX9_kindOf 49 = .ok (.ireturn, 1) := by decide +kernel
theorem dX9_kindOf_50 : decode cX9_kindOf 50 = .ok (.iconst 5, 1) := by decide +kernel
theorem dX9_kindOf_51 : decode cX9_kindOf 51 = .ok (.ireturn, 1) := by decide +kernel
theorem dX9_kindOf_52 : decode cX9_kindOf 52 = .ok (.iconst 2, 1) := by decide +kernel
theorem dX9_kindOf_53 : decode cX9_kindOf 53 = .ok (.ireturn, 1) := by decide +kernel
theorem dX9_kindOf_54 : decode cX9_kindOf 54 = .ok (.iconst 0, 1) := by decide +kernel
theorem dX9_kindOf_55 : decode cX9_kindOf 55 = .ok (.ireturn, 1) := by decide +kernel
theorem dX8_dropRivals_0 : decode cX8_dropRivals 0 = .ok (.aconst_null, 1) := by decide +kernel
theorem dX8_dropRivals_1 : decode cX8_dropRivals 1 = .ok (.astore_n 3, 1) := by decide +kernel
theorem dX8_dropRivals_2 : decode cX8_dropRivals 2 = .ok (.aload_n 1, 1) := by decide +kernel
theorem dX8_dropRivals_3 : decode cX8_dropRivals 3 = .ok (.getfield 63, 3) := by decide +kernel
theorem dX8_dropRivals_6 : decode cX8_dropRivals 6 = .ok (.astore 4, 2) := by decide +kernel
theorem dX8_dropRivals_8 : decode cX8_dropRivals 8 = .ok (.aload 4, 2) := by decide +kernel
theorem dX8_dropRivals_10 : decode cX8_dropRivals 10 = .ok (.ifnull 88, 3) := by decide +kernel
theorem dX8_dropRivals_13 : decode cX8_dropRivals 13 = .ok (.aload 4, 2) := by decide +kernel
theorem dX8_dropRivals_15 : decode cX8_dropRivals 15 = .ok (.getfield 66, 3) := by decide +kernel
theorem dX8_dropRivals_18 : decode cX8_dropRivals 18 = .ok (.ifnull 31, 3) := by decide +kernel
theorem dX8_dropRivals_21 : decode cX8_dropRivals 21 = .ok (.aload 4, 2) := by decide +kernel
theorem dX8_dropRivals_23 : decode cX8_dropRivals 23 = .ok (.getfield 66, 3) := by decide +kernel
theorem dX8_dropRivals_26 : decode cX8_dropRivals 26 = .ok (.aload_n 2, 1) := by decide +kernel
theorem dX8_dropRivals_27 : decode cX8_dropRivals 27 = .ok (.if_acmp .eq 22, 3) := by decide +kernel
theorem dX8_dropRivals_30 : decode cX8_dropRivals 30 = .ok (.aload 4, 2) := by decide +kernel
theorem dX8_dropRivals_32 : decode cX8_dropRivals 32 = .ok (.getfield 66, 3) := by decide +kernel
theorem dX8_dropRivals_35 : decode cX8_dropRivals 35 = .ok (.getfield 75, 3) := by decide +kernel
theorem dX8_dropRivals_38 : decode cX8_dropRivals 38 = .ok (.aload_n 2, 1) := by decide +kernel
theorem dX8_dropRivals_39 : decode cX8_dropRivals 39 = .ok (.getfield 75, 3) := by decide +kernel
theorem dX8_dropRivals_42 : decode cX8_dropRivals 42 = .ok (.if_acmp .ne 7, 3) := by decide +kernel
theorem dX8_dropRivals_45 : decode cX8_dropRivals 45 = .ok (.iconst 1, 1) := by decide +kernel
theorem dX8_dropRivals_46 : decode cX8_dropRivals 46 = .ok (.goto 4, 3) := by decide +kernel
theorem dX8_dropRivals_49 : decode cX8_dropRivals 49 = .ok (.iconst 0, 1) := by decide +kernel
theorem dX8_dropRivals_50 : decode cX8_dropRivals 50 = .ok (.istore 5, 2) := by decide +kernel
theorem dX8_dropRivals_52 : decode cX8_dropRivals 52 = .ok (.iload 5, 2) := by decide +kernel
theorem dX8_dropRivals_54 : decode cX8_dropRivals 54 = .ok (.ifCond .ne 9, 3) := by decide +kernel
theorem dX8_dropRivals_57 : decode cX8_dropRivals 57 = .ok (.aload 4, 2) := by decide +kernel
theorem dX8_dropRivals_59 : decode cX8_dropRivals 59 = .ok (.astore_n 3, 1) := by decide +kernel
theorem dX8_dropRivals_60 : decode cX8_dropRivals 60 = .ok (.goto 28, 3) := by decide +kernel
theorem dX8_dropRivals_63 : decode cX8_dropRivals 63 = .ok (.aload_n 3, 1) := by decide +kernel
theorem dX8_dropRivals_64 : decode cX8_dropRivals 64 = .ok (.ifnonnull 15, 3) := by decide +kernel
theorem dX8_dropRivals_67 : decode cX8_dropRivals 67 = .ok (.aload_n 1, 1) := by decide +kernel
theorem dX8_dropRivals_68 : decode cX8_dropRivals 68 = .ok (.aload 4, 2) := by decide +kernel
theorem dX8_dropRivals_70 : decode cX8_dropRivals 70 = .ok (.getfield 72, 3) := by decide +kernel
theorem dX8_dropRivals_73 : decode cX8_dropRivals 73 = .ok (.putfield 63, 3) := by decide +kernel
theorem dX8_dropRivals_76 : decode cX8_dropRivals 76 = .ok (.goto 12, 3) := by decide +kernel
theorem dX8_dropRivals_79 : decode cX8_dropRivals 79 = .ok (.aload_n 3, 1) := by decide +kernel
theorem dX8_dropRivals_80 : decode cX8_dropRivals 80 = .ok (.aload 4, 2) := by decide +kernel
theorem dX8_dropRivals_82 : decode cX8_dropRivals 82 = .ok (.getfield 72, 3) := by decide +kernel
theorem dX8_dropRivals_85 : decode cX8_dropRivals 85 = .ok (.putfield 72, 3) := by decide +kernel
theorem dX8_dropRivals_88 : decode cX8_dropRivals 88 = .ok (.aload 4, 2) := by decide +kernel
theorem dX8_dropRivals_90 : decode cX8_dropRivals 90 = .ok (.getfield 72, 3) := by decide +kernel
theorem dX8_dropRivals_93 : decode cX8_dropRivals 93 = .ok (.astore 4, 2) := by decide +kernel
theorem dX8_dropRivals_95 : decode cX8_dropRivals 95 = .ok (.goto (-87), 3) := by decide +kernel
theorem dX8_dropRivals_98 : decode cX8_dropRivals 98 = .ok (.aload_n 1, 1) := by decide +kernel
theorem dX8_dropRivals_99 : decode cX8_dropRivals 99 = .ok (.aconst_null, 1) := by decide +kernel
theorem dX8_dropRivals_100 : decode cX8_dropRivals 100 = .ok (.putfield 98, 3) := by decide +kernel
theorem dX8_dropRivals_103 : decode cX8_dropRivals 103 = .ok (.return_, 1) := by decide +kernel
theorem dX8_lastUpTo_0 : decode cX8_lastUpTo 0 = .ok (.aload_n 1, 1) := by decide +kernel
theorem dX8_lastUpTo_1 : decode cX8_lastUpTo 1 = .ok (.getfield 98, 3) := by decide +kernel
theorem dX8_lastUpTo_4 : decode cX8_lastUpTo 4 = .ok (.astore 4, 2) := by decide +kernel
theorem dX8_lastUpTo_6 : decode cX8_lastUpTo 6 = .ok (.aload 4, 2) := by decide +kernel
theorem dX8_lastUpTo_8 : decode cX8_lastUpTo 8 = .ok (.ifnull 33, 3) := by decide +kernel
theorem dX8_lastUpTo_11 : decode cX8_lastUpTo 11 = .ok (.aload 4, 2) := by decide +kernel
theorem dX8_lastUpTo_13 : decode cX8_lastUpTo 13 = .ok (.getfield 66, 3) := by decide +kernel
theorem dX8_lastUpTo_16 : decode cX8_lastUpTo 16 = .ok (.ifnonnull 9, 3) := by decide +kernel
theorem dX8_lastUpTo_19 : decode cX8_lastUpTo 19 = .ok (.ldc2_w 84, 3) := by decide +kernel
theorem dX8_lastUpTo_22 : decode cX8_lastUpTo 22 = .ok (.goto 11, 3) := by decide +kernel
theorem dX8_lastUpTo_25 : decode cX8_lastUpTo 25 = .ok (.aload 4, 2) := by decide +kernel
theorem dX8_lastUpTo_27 : decode cX8_lastUpTo 27 = .ok (.getfield 66, 3) := by decide +kernel
theorem dX8_lastUpTo_30 : decode cX8_lastUpTo 30 = .ok (.getfield 86, 3) := by decide +kernel
theorem dX8_lastUpTo_33 : decode cX8_lastUpTo 33 = .ok (.lload_n 2, 1) := by decide +kernel
theorem dX8_lastUpTo_34 : decode cX8_lastUpTo 34 = .ok (.lcmp, 1) := by decide +kernel
theorem dX8_lastUpTo_35 : decode cX8_lastUpTo 35 = .ok (.ifCond .le 6, 3) := by decide +kernel
theorem dX8_lastUpTo_38 : decode cX8_lastUpTo 38 = .ok (.aconst_null, 1) := by decide +kernel
theorem dX8_lastUpTo_39 : decode cX8_lastUpTo 39 = .ok (.astore 4, 2) := by decide +kernel
theorem dX8_lastUpTo_41 : decode cX8_lastUpTo 41 = .ok (.aload 4, 2) := by decide +kernel
theorem dX8_lastUpTo_43 : decode cX8_lastUpTo 43 = .ok (.ifnonnull 10, 3) := by decide +kernel
theorem dX8_lastUpTo_46 : decode cX8_lastUpTo 46 = .ok (.aload_n 1, 1) := by decide +kernel
theorem dX8_lastUpTo_47 : decode cX8_lastUpTo 47 = .ok (.getfield 63, 3) := by decide +kernel
theorem dX8_lastUpTo_50 : decode cX8_lastUpTo 50 = .ok (.goto 8, 3) := by decide +kernel
theorem dX8_lastUpTo_53 : decode cX8_lastUpTo 53 = .ok (.aload 4, 2) := by decide +kernel
theorem dX8_lastUpTo_55 : decode cX8_lastUpTo 55 = .ok (.getfield 72, 3) := by decide +kernel
theorem dX8_lastUpTo_58 : decode cX8_lastUpTo 58 = .ok (.astore 5, 2) := by decide +kernel
theorem dX8_lastUpTo_60 : decode cX8_lastUpTo 60 = .ok (.aload 5, 2) := by decide +kernel
theorem dX8_lastUpTo_62 : decode cX8_lastUpTo 62 = .ok (.ifnull 44, 3) := by decide +kernel
theorem dX8_lastUpTo_65 : decode cX8_lastUpTo 65 = .ok (.aload 5, 2) := by decide +kernel
theorem dX8_lastUpTo_67 : decode cX8_lastUpTo 67 = .ok (.getfield 66, 3) := by decide +kernel
theorem dX8_lastUpTo_70 : decode cX8_lastUpTo 70 = .ok (.ifnonnull 9, 3) := by decide +kernel
theorem dX8_lastUpTo_73 : decode cX8_lastUpTo 73 = .ok (.ldc2_w 84, 3) := by decide +kernel
theorem dX8_lastUpTo_76 : decode cX8_lastUpTo 76 = .ok (.goto 11, 3) := by decide +kernel
theorem dX8_lastUpTo_79 : decode cX8_lastUpTo 79 = .ok (.aload 5, 2) := by decide +kernel
theorem dX8_lastUpTo_81 : decode cX8_lastUpTo 81 = .ok (.getfield 66, 3) := by decide +kernel
theorem dX8_lastUpTo_84 : decode cX8_lastUpTo 84 = .ok (.getfield 86, 3) := by decide +kernel
theorem dX8_lastUpTo_87 : decode cX8_lastUpTo 87 = .ok (.lload_n 2, 1) := by decide +kernel
theorem dX8_lastUpTo_88 : decode cX8_lastUpTo 88 = .ok (.lcmp, 1) := by decide +kernel
theorem dX8_lastUpTo_89 : decode cX8_lastUpTo 89 = .ok (.ifCond .gt 17, 3) := by decide +kernel
theorem dX8_lastUpTo_92 : decode cX8_lastUpTo 92 = .ok (.aload 5, 2) := by decide +kernel
theorem dX8_lastUpTo_94 : decode cX8_lastUpTo 94 = .ok (.astore 4, 2) := by decide +kernel
theorem dX8_lastUpTo_96 : decode cX8_lastUpTo 96 = .ok (.aload 5, 2) := by decide +kernel
theorem dX8_lastUpTo_98 : decode cX8_lastUpTo 98 = .ok (.getfield 72, 3) := by decide +kernel
theorem dX8_lastUpTo_101 : decode cX8_lastUpTo 101 = .ok (.astore 5, 2) := by decide +kernel
theorem dX8_lastUpTo_103 : decode cX8_lastUpTo 103 = .ok (.goto (-43), 3) := by decide +kernel
theorem dX8_lastUpTo_106 : decode cX8_lastUpTo 106 = .ok (.aload 4, 2) := by decide +kernel
theorem dX8_lastUpTo_108 : decode cX8_lastUpTo 108 = .ok (.areturn, 1) := by decide +kernel
theorem dX8_put_0 : decode cX8_put 0 = .ok (.aload_n 2, 1) := by decide +kernel
theorem dX8_put_1 : decode cX8_put 1 = .ok (.ifnull 16, 3) := by decide +kernel
theorem dX8_put_4 : decode cX8_put 4 = .ok (.aload_n 2, 1) := by decide +kernel
theorem dX8_put_5 : decode cX8_put 5 = .ok (.getfield 75, 3) := by decide +kernel
theorem dX8_put_8 : decode cX8_put 8 = .ok (.ifnull 9, 3) := by decide +kernel
theorem dX8_put_11 : decode cX8_put 11 = .ok (.aload_n 0, 1) := by decide +kernel
theorem dX8_put_12 : decode cX8_put 12 = .ok (.aload_n 1, 1) := by decide +kernel
theorem dX8_put_13 : decode cX8_put 13 = .ok (.aload_n 2, 1) := by decide +kernel
theorem dX8_put_14 : decode cX8_put 14 = .ok (.invokevirtual 80, 3) := by decide +kernel
theorem dX8_put_17 : decode cX8_put 17 = .ok (.aload_n 0, 1) := by decide +kernel
theorem dX8_put_18 : decode cX8_put 18 = .ok (.aload_n 1, 1) := by decide +kernel
theorem dX8_put_19 : decode cX8_put 19 = .ok (.aload_n 2, 1) := by decide +kernel
theorem dX8_put_20 : decode cX8_put 20 = .ok (.ifnonnull 9, 3) := by decide +kernel
theorem dX8_put_23 : decode cX8_put 23 = .ok (.ldc2_w 84, 3) := by decide +kernel
theorem dX8_put_26 : decode cX8_put 26 = .ok (.goto 7, 3) := by decide +kernel
theorem dX8_put_29 : decode cX8_put 29 = .ok (.aload_n 2, 1) := by decide +kernel
theorem dX8_put_30 : decode cX8_put 30 = .ok (.getfield 86, 3) := by decide +kernel
theorem dX8_put_33 : decode cX8_put 33 = .ok (.invokevirtual 90, 3) := by decide +kernel
theorem dX8_put_36 : decode cX8_put 36 = .ok (.astore_n 3, 1) := by decide +kernel
theorem dX8_put_37 : decode cX8_put 37 = .ok (.aload_n 3, 1) := by decide +kernel
theorem dX8_put_38 : decode cX8_put 38 = .ok (.ifnull 24, 3) := by decide +kernel
theorem dX8_put_41 : decode cX8_put 41 = .ok (.aload_n 2, 1) := by decide +kernel
theorem dX8_put_42 : decode cX8_put 42 = .ok (.ifnull 20, 3) := by decide +kernel
theorem dX8_put_45 : decode cX8_put 45 = .ok (.aload_n 3, 1) := by decide +kernel
theorem dX8_put_46 : decode cX8_put 46 = .ok (.getfield 66, 3) := by decide +kernel
theorem dX8_put_49 : decode cX8_put 49 = .ok (.aload_n 2, 1) := by decide +kernel
theorem dX8_put_50 : decode cX8_put 50 = .ok (.if_acmp .ne 12, 3) := by decide +kernel
theorem dX8_put_53 : decode cX8_put 53 = .ok (.aload_n 2, 1) := by decide +kernel
theorem dX8_put_54 : decode cX8_put 54 = .ok (.getfield 94, 3) := by decide +kernel
theorem dX8_put_57 : decode cX8_put 57 = .ok (.ifCond .ne 5, 3) := by decide +kernel
theorem dX8_put_60 : decode cX8_put 60 = .ok (.aload_n 3, 1) := by decide +kernel
theorem dX8_put_61 : decode cX8_put 61 = .ok (.areturn, 1) := by decide +kernel
theorem dX8_put_62 : decode cX8_put 62 = .ok (.aload_n 0, 1) := by decide +kernel
theorem dX8_put_63 : decode cX8_put 63 = .ok (.getfield 48, 3) := by decide +kernel
theorem dX8_put_66 : decode cX8_put 66 = .ok (.ifCond .lt 27, 3) := by decide +kernel
theorem dX8_put_69 : decode cX8_put 69 = .ok (.aload_n 0, 1) := by decide +kernel
theorem dX8_put_70 : decode cX8_put 70 = .ok (.getfield 48, 3) := by decide +kernel
theorem dX8_put_73 : decode cX8_put 73 = .ok (.aload_n 0, 1) := by decide +kernel
theorem dX8_put_74 : decode cX8_put 74 = .ok (.getfield 15, 3) := by decide +kernel
theorem dX8_put_77 : decode cX8_put 77 = .ok (.arraylength, 1) := by decide +kernel
theorem dX8_put_78 : decode cX8_put 78 = .ok (.if_icmp .ge 15, 3) := by decide +kernel
theorem dX8_put_81 : decode cX8_put 81 = .ok (.aload_n 0, 1) := by decide +kernel
theorem dX8_put_82 : decode cX8_put 82 = .ok (.getfield 15, 3) := by decide +kernel
theorem dX8_put_85 : decode cX8_put 85 = .ok (.aload_n 0, 1) := by decide +kernel
theorem dX8_put_86 : decode cX8_put 86 = .ok (.getfield 48, 3) := by decide +kernel
theorem dX8_put_89 : decode cX8_put 89 = .ok (.aaload, 1) := by decide +kernel
theorem dX8_put_90 : decode cX8_put 90 = .ok (.goto 4, 3) := by decide +kernel
theorem dX8_put_93 : decode cX8_put 93 = .ok (.aconst_null, 1) := by decide +kernel
theorem dX8_put_94 : decode cX8_put 94 = .ok (.astore 4, 2) := by decide +kernel
theorem dX8_put_96 : decode cX8_put 96 = .ok (.aload 4, 2) := by decide +kernel
theorem dX8_put_98 : decode cX8_put 98 = .ok (.ifnonnull 5, 3) := by decide +kernel
theorem dX8_put_101 : decode cX8_put 101 = .ok (.aconst_null, 1) := by decide +kernel
theorem dX8_put_102 : decode cX8_put 102 = .ok (.areturn, 1) := by decide +kernel
theorem dX8_put_103 : decode cX8_put 103 = .ok (.aload_n 0, 1) := by decide +kernel
theorem dX8_put_104 : decode cX8_put 104 = .ok (.dup, 1) := by decide +kernel
theorem dX8_put_105 : decode cX8_put 105 = .ok (.getfield 48, 3) := by decide +kernel
theorem dX8_put_108 : decode cX8_put 108 = .ok (.iconst 1, 1) := by decide +kernel
theorem dX8_put_109 : decode cX8_put 109 = .ok (.iadd, 1) := by decide +kernel
theorem dX8_put_110 : decode cX8_put 110 = .ok (.putfield 48, 3) := by decide +kernel
theorem dX8_put_113 : decode cX8_put 113 = .ok (.aload 4, 2) := by decide +kernel
theorem dX8_put_115 : decode cX8_put 115 = .ok (.aload_n 2, 1) := by decide +kernel
theorem dX8_put_116 : decode cX8_put 116 = .ok (.invokevirtual 52, 3) := by decide +kernel
theorem dX8_put_119 : decode cX8_put 119 = .ok (.aload_n 3, 1) := by decide +kernel
theorem dX8_put_120 : decode cX8_put 120 = .ok (.ifnonnull 21, 3) := by decide +kernel
theorem dX8_put_123 : decode cX8_put 123 = .ok (.aload 4, 2) := by decide +kernel
theorem dX8_put_125 : decode cX8_put 125 = .ok (.aload_n 1, 1) := by decide +kernel
theorem dX8_put_126 : decode cX8_put 126 = .ok (.getfield 63, 3) := by decide +kernel
theorem dX8_put_129 : decode cX8_put 129 = .ok (.putfield 72, 3) := by decide +kernel
theorem dX8_put_132 : decode cX8_put 132 = .ok (.aload_n 1, 1) := by decide +kernel
theorem dX8_put_133 : decode cX8_put 133 = .ok (.aload 4, 2) := by decide +kernel
theorem dX8_put_135 : decode cX8_put 135 = .ok (.putfield 63, 3) := by decide +kernel
theorem dX8_put_138 : decode cX8_put 138 = .ok (.goto 18, 3) := by decide +kernel
theorem dX8_put_141 : decode cX8_put 141 = .ok (.aload 4, 2) := by decide +kernel
theorem dX8_put_143 : decode cX8_put 143 = .ok (.aload_n 3, 1) := by decide +kernel
theorem dX8_put_144 : decode cX8_put 144 = .ok (.getfield 72, 3) := by decide +kernel
theorem dX8_put_147 : decode cX8_put 147 = .ok (.putfield 72, 3) := by decide +kernel
theorem dX8_put_150 : decode cX8_put 150 = .ok (.aload_n 3, 1) := by decide +kernel
theorem dX8_put_151 : decode cX8_put 151 = .ok (.aload 4, 2) := by decide +kernel
theorem dX8_put_153 : decode cX8_put 153 = .ok (.putfield 72, 3) := by decide +kernel
theorem dX8_put_156 : decode cX8_put 156 = .ok (.aload_n 1, 1) := by decide +kernel
theorem dX8_put_157 : decode cX8_put 157 = .ok (.aload 4, 2) := by decide +kernel
theorem dX8_put_159 : decode cX8_put 159 = .ok (.putfield 98, 3) := by decide +kernel
theorem dX8_put_162 : decode cX8_put 162 = .ok (.aload 4, 2) := by decide +kernel
theorem dX8_put_164 : decode cX8_put 164 = .ok (.areturn, 1) := by decide +kernel
theorem dX9_meaning_0 : decode cX9_meaning 0 = .ok (.iload_n 0, 1) := by decide +kernel
theorem dX9_meaning_1 : decode cX9_meaning 1 = .ok (.tableswitch 118 0 14 #[75, 118, 79, 118, 85, 97, 79, 118, 75, 118, 106, 118, 118, 118, 75], 75) := by decide +kernel
theorem dX9_meaning_76 : decode cX9_meaning 76 = .ok (.lload_n 1, 1) := by decide +kernel
theorem dX9_meaning_77 : decode cX9_meaning 77 = .ok (.l2i, 1) := by decide +kernel
theorem dX9_meaning_78 : decode cX9_meaning 78 = .ok (.i2l, 1) := by decide +kernel
theorem dX9_meaning_79 : decode cX9_meaning 79 = .ok (.lreturn, 1) := by decide +kernel
theorem dX9_meaning_80 : decode cX9_meaning 80 = .ok (.lload_n 1, 1) := by decide +kernel
theorem dX9_meaning_81 : decode cX9_meaning 81 = .ok (.ldc2_w 141, 3) := by decide +kernel
theorem dX9_meaning_84 : decode cX9_meaning 84 = .ok (.land, 1) := by decide +kernel
theorem dX9_meaning_85 : decode cX9_meaning 85 = .ok (.lreturn, 1) := by decide +kernel
theorem dX9_meaning_86 : decode cX9_meaning 86 = .ok (.lload_n 1, 1) := by decide +kernel
theorem dX9_meaning_87 : decode cX9_meaning 87 = .ok (.l2i, 1) := by decide +kernel
theorem dX9_meaning_88 : decode cX9_meaning 88 = .ok (.iconst 1, 1) := by decide +kernel
theorem dX9_meaning_89 : decode cX9_meaning 89 = .ok (.iushr, 1) := by decide +kernel
theorem dX9_meaning_90 : decode cX9_meaning 90 = .ok (.lload_n 1, 1) := by decide +kernel
theorem dX9_meaning_91 : decode cX9_meaning 91 = .ok (.l2i, 1) := by decide +kernel
theorem dX9_meaning_92 : decode cX9_meaning 92 = .ok (.iconst 1, 1) := by decide +kernel
theorem dX9_meaning_93 : decode cX9_meaning 93 = .ok (.iand, 1) := by decide +kernel
theorem dX9_meaning_94 : decode cX9_meaning 94 = .ok (.ineg, 1) := by decide +kernel
theorem dX9_meaning_95 : decode cX9_meaning 95 = .ok (.ixor, 1) := by decide +kernel
theorem dX9_meaning_96 : decode cX9_meaning 96 = .ok (.i2l, 1) := by decide +kernel
theorem dX9_meaning_97 : decode cX9_meaning 97 = .ok (.lreturn, 1) := by decide +kernel
theorem dX9_meaning_98 : decode cX9_meaning 98 = .ok (.lload_n 1, 1) := by decide +kernel
theorem dX9_meaning_99 : decode cX9_meaning 99 = .ok (.iconst 1, 1) := by decide +kernel
theorem dX9_meaning_100 : decode cX9_meaning 100 = .ok (.lushr, 1) := by decide +kernel
theorem dX9_meaning_101 : decode cX9_meaning 101 = .ok (.lload_n 1, 1) := by decide +kernel
theorem dX9_meaning_102 : decode cX9_meaning 102 = .ok (.lconst 1, 1) := by decide +kernel
theorem dX9_meaning_103 : decode cX9_meaning 103 = .ok (.land, 1) := by decide +kernel
theorem dX9_meaning_104 : decode cX9_meaning 104 = .ok (.lneg, 1) := by decide +kernel
theorem dX9_meaning_105 : decode cX9_meaning 105 = .ok (.lxor, 1) := by decide +kernel
theorem dX9_meaning_106 : decode cX9_meaning 106 = .ok (.lreturn, 1) := by decide +kernel
theorem dX9_meaning_107 : decode cX9_meaning 107 = .ok (.lload_n 1, 1) := by decide +kernel
theorem dX9_meaning_108 : decode cX9_meaning 108 = .ok (.lconst 0, 1) := by decide +kernel
theorem dX9_meaning_109 : decode cX9_meaning 109 = .ok (.lcmp, 1) := by decide +kernel
theorem dX9_meaning_110 : decode cX9_meaning 110 = .ok (.ifCond .eq 7, 3) := by decide +kernel
theorem dX9_meaning_113 : decode cX9_meaning 113 = .ok (.lconst 1, 1) := by decide +kernel
theorem dX9_meaning_114 : decode cX9_meaning 114 = .ok (.goto 4, 3) := by decide +kernel
theorem dX9_meaning_117 : decode cX9_meaning 117 = .ok (.lconst 0, 1) := by decide +kernel
theorem dX9_meaning_118 : decode cX9_meaning 118 = .ok (.lreturn, 1) := by decide +kernel
theorem dX9_meaning_119 : decode cX9_meaning 119 = .ok (.lload_n 1, 1) := by decide +kernel
theorem dX9_meaning_120 : decode cX9_meaning 120 = .ok (.lreturn, 1) := by decide +kernel
theorem dX9_putNumber_0 : decode cX9_putNumber 0 = .ok (.aload_n 0, 1) := by decide +kernel
theorem dX9_putNumber_1 : decode cX9_putNumber 1 = .ok (.getfield 15, 3) := by decide +kernel
theorem dX9_putNumber_4 : decode cX9_putNumber 4 = .ok (.aload_n 1, 1) := by decide +kernel
theorem dX9_putNumber_5 : decode cX9_putNumber 5 = .ok (.aload_n 2, 1) := by decide +kernel
theorem dX9_putNumber_6 : decode cX9_putNumber 6 = .ok (.invokevirtual 104, 3) := by decide +kernel
theorem dX9_putNumber_9 : decode cX9_putNumber 9 = .ok (.astore_n 3, 1) := by decide +kernel
theorem dX9_putNumber_10 : decode cX9_putNumber 10 = .ok (.aload_n 3, 1) := by decide +kernel
theorem dX9_putNumber_11 : decode cX9_putNumber 11 = .ok (.ifnonnull 5, 3) := by decide +kernel
theorem dX9_putNumber_14 : decode cX9_putNumber 14 = .ok (.iconst 0, 1) := by decide +kernel
theorem dX9_putNumber_15 : decode cX9_putNumber 15 = .ok (.ireturn, 1) := by decide +kernel
theorem dX9_putNumber_16 : decode cX9_putNumber 16 = .ok (.aload_n 3, 1) := by decide +kernel
theorem dX9_putNumber_17 : decode cX9_putNumber 17 = .ok (.aload_n 2, 1) := by decide +kernel
theorem dX9_putNumber_18 : decode cX9_putNumber 18 = .ok (.getfield 74, 3) := by decide +kernel
theorem dX9_putNumber_21 : decode cX9_putNumber 21 = .ok (.aload_n 0, 1) := by decide +kernel
theorem dX9_putNumber_22 : decode cX9_putNumber 22 = .ok (.getfield 53, 3) := by decide +kernel
theorem dX9_putNumber_25 : decode cX9_putNumber 25 = .ok (.invokestatic 115, 3) := by decide +kernel
theorem dX9_putNumber_28 : decode cX9_putNumber 28 = .ok (.putfield 119, 3) := by decide +kernel
theorem dX9_putNumber_31 : decode cX9_putNumber 31 = .ok (.iconst 1, 1) := by decide +kernel
theorem dX9_putNumber_32 : decode cX9_putNumber 32 = .ok (.ireturn, 1) := by decide +kernel
theorem dX9_takeRow_0 : decode cX9_takeRow 0 = .ok (.iconst 0, 1) := by decide +kernel
theorem dX9_takeRow_1 : decode cX9_takeRow 1 = .ok (.istore 4, 2) := by decide +kernel
theorem dX9_takeRow_3 : decode cX9_takeRow 3 = .ok (.iload 4, 2) := by decide +kernel
theorem dX9_takeRow_5 : decode cX9_takeRow 5 = .ok (.sipush 700, 3) := by decide +kernel
theorem dX9_takeRow_8 : decode cX9_takeRow 8 = .ok (.if_icmp .ge 43, 3) := by decide +kernel
theorem dX9_takeRow_11 : decode cX9_takeRow 11 = .ok (.aload_n 0, 1) := by decide +kernel
theorem dX9_takeRow_12 : decode cX9_takeRow 12 = .ok (.getfield 22, 3) := by decide +kernel
theorem dX9_takeRow_15 : decode cX9_takeRow 15 = .ok (.iload_n 3, 1) := by decide +kernel
theorem dX9_takeRow_16 : decode cX9_takeRow 16 = .ok (.if_icmp .ge 35, 3) := by decide +kernel
theorem dX9_takeRow_19 : decode cX9_takeRow 19 = .ok (.aload_n 0, 1) := by decide +kernel
theorem dX9_takeRow_20 : decode cX9_takeRow 20 = .ok (.aload_n 2, 1) := by decide +kernel
theorem dX9_takeRow_21 : decode cX9_takeRow 21 = .ok (.getfield 74, 3) := by decide +kernel
theorem dX9_takeRow_24 : decode cX9_takeRow 24 = .ok (.invokestatic 77, 3) := by decide +kernel
theorem dX9_takeRow_27 : decode cX9_takeRow 27 = .ok (.iload_n 3, 1) := by decide +kernel
theorem dX9_takeRow_28 : decode cX9_takeRow 28 = .ok (.invokevirtual 49, 3) := by decide +kernel
theorem dX9_takeRow_31 : decode cX9_takeRow 31 = .ok (.ifCond .eq 12, 3) := by decide +kernel
theorem dX9_takeRow_34 : decode cX9_takeRow 34 = .ok (.aload_n 0, 1) := by decide +kernel
theorem dX9_takeRow_35 : decode cX9_takeRow 35 = .ok (.aload_n 1, 1) := by decide +kernel
theorem dX9_takeRow_36 : decode cX9_takeRow 36 = .ok (.aload_n 2, 1) := by decide +kernel
theorem dX9_takeRow_37 : decode cX9_takeRow 37 = .ok (.invokevirtual 81, 3) := by decide +kernel
theorem dX9_takeRow_40 : decode cX9_takeRow 40 = .ok (.ifCond .ne 5, 3) := by decide +kernel
theorem dX9_takeRow_43 : decode cX9_takeRow 43 = .ok (.iconst 0, 1) := by decide +kernel
theorem dX9_takeRow_44 : decode cX9_takeRow 44 = .ok (.ireturn, 1) := by decide +kernel
theorem dX9_takeRow_45 : decode cX9_takeRow 45 = .ok (.iinc 4 1, 3) := by decide +kernel
theorem dX9_takeRow_48 : decode cX9_takeRow 48 = .ok (.goto (-45), 3) := by decide +kernel
theorem dX9_takeRow_51 : decode cX9_takeRow 51 = .ok (.aload_n 0, 1) := by decide +kernel
theorem dX9_takeRow_52 : decode cX9_takeRow 52 = .ok (.getfield 22, 3) := by decide +kernel
theorem dX9_takeRow_55 : decode cX9_takeRow 55 = .ok (.iload_n 3, 1) := by decide +kernel
theorem dX9_takeRow_56 : decode cX9_takeRow 56 = .ok (.if_icmp .ne 7, 3) := by decide +kernel
theorem dX9_takeRow_59 : decode cX9_takeRow 59 = .ok (.iconst 1, 1) := by decide +kernel
theorem dX9_takeRow_60 : decode cX9_takeRow 60 = .ok (.goto 4, 3) := by decide +kernel
theorem dX9_takeRow_63 : decode cX9_takeRow 63 = .ok (.iconst 0, 1) := by decide +kernel
theorem dX9_takeRow_64 : decode cX9_takeRow 64 = .ok (.ireturn, 1) := by decide +kernel
theorem dX9_copy_0 : decode cX9_copy 0 = .ok (.aload_n 1, 1) := by decide +kernel
theorem dX9_copy_1 : decode cX9_copy 1 = .ok (.aload_n 0, 1) := by decide +kernel
theorem dX9_copy_2 : decode cX9_copy 2 = .ok (.getfield 15, 3) := by decide +kernel
theorem dX9_copy_5 : decode cX9_copy 5 = .ok (.getfield 122, 3) := by decide +kernel
theorem dX9_copy_8 : decode cX9_copy 8 = .ok (.invokevirtual 39, 3) := by decide +kernel
theorem dX9_copy_11 : decode cX9_copy 11 = .ok (.putfield 125, 3) := by decide +kernel
theorem dX9_copy_14 : decode cX9_copy 14 = .ok (.aload_n 0, 1) := by decide +kernel
theorem dX9_copy_15 : decode cX9_copy 15 = .ok (.getfield 15, 3) := by decide +kernel
theorem dX9_copy_18 : decode cX9_copy 18 = .ok (.getfield 122, 3) := by decide +kernel
theorem dX9_copy_21 : decode cX9_copy 21 = .ok (.aload_n 0, 1) := by decide +kernel
theorem dX9_copy_22 : decode cX9_copy 22 = .ok (.getfield 9, 3) := by decide +kernel
theorem dX9_copy_25 : decode cX9_copy 25 = .ok (.iload_n 2, 1) := by decide +kernel
theorem dX9_copy_26 : decode cX9_copy 26 = .ok (.iload_n 3, 1) := by decide +kernel
theorem dX9_copy_27 : decode cX9_copy 27 = .ok (.invokevirtual 128, 3) := by decide +kernel
theorem dX9_copy_30 : decode cX9_copy 30 = .ok (.aload_n 1, 1) := by decide +kernel
theorem dX9_copy_31 : decode cX9_copy 31 = .ok (.aload_n 0, 1) := by decide +kernel
theorem dX9_copy_32 : decode cX9_copy 32 = .ok (.getfield 15, 3) := by decide +kernel
theorem dX9_copy_35 : decode cX9_copy 35 = .ok (.getfield 122, 3) := by decide +kernel
theorem dX9_copy_38 : decode cX9_copy 38 = .ok (.invokevirtual 39, 3) := by decide +kernel
theorem dX9_copy_41 : decode cX9_copy 41 = .ok (.putfield 132, 3) := by decide +kernel
theorem dX9_copy_44 : decode cX9_copy 44 = .ok (.aload_n 0, 1) := by decide +kernel
theorem dX9_copy_45 : decode cX9_copy 45 = .ok (.iload_n 3, 1) := by decide +kernel
theorem dX9_copy_46 : decode cX9_copy 46 = .ok (.putfield 22, 3) := by decide +kernel
theorem dX9_copy_49 : decode cX9_copy 49 = .ok (.iconst 1, 1) := by decide +kernel
theorem dX9_copy_50 : decode cX9_copy 50 = .ok (.ireturn, 1) := by decide +kernel
theorem dX9_keep_0 : decode cX9_keep 0 = .ok (.aload_n 0, 1) := by decide +kernel
theorem dX9_keep_1 : decode cX9_keep 1 = .ok (.getfield 15, 3) := by decide +kernel
theorem dX9_keep_4 : decode cX9_keep 4 = .ok (.aload_n 1, 1) := by decide +kernel
theorem dX9_keep_5 : decode cX9_keep 5 = .ok (.aconst_null, 1) := by decide +kernel
theorem dX9_keep_6 : decode cX9_keep 6 = .ok (.invokevirtual 104, 3) := by decide +kernel
theorem dX9_keep_9 : decode cX9_keep 9 = .ok (.astore_n 3, 1) := by decide +kernel
theorem dX9_keep_10 : decode cX9_keep 10 = .ok (.aload_n 3, 1) := by decide +kernel
theorem dX9_keep_11 : decode cX9_keep 11 = .ok (.ifnull 20, 3) := by decide +kernel
theorem dX9_keep_14 : decode cX9_keep 14 = .ok (.aload_n 0, 1) := by decide +kernel
theorem dX9_keep_15 : decode cX9_keep 15 = .ok (.aload_n 3, 1) := by decide +kernel
theorem dX9_keep_16 : decode cX9_keep 16 = .ok (.iload_n 2, 1) := by decide +kernel
theorem dX9_keep_17 : decode cX9_keep 17 = .ok (.aload_n 0, 1) := by decide +kernel
theorem dX9_keep_18 : decode cX9_keep 18 = .ok (.getfield 22, 3) := by decide +kernel
theorem dX9_keep_21 : decode cX9_keep 21 = .ok (.invokevirtual 111, 3) := by decide +kernel
theorem dX9_keep_24 : decode cX9_keep 24 = .ok (.ifCond .eq 7, 3) := by decide +kernel
theorem dX9_keep_27 : decode cX9_keep 27 = .ok (.iconst 1, 1) := by decide +kernel
theorem dX9_keep_28 : decode cX9_keep 28 = .ok (.goto 4, 3) := by decide +kernel
theorem dX9_keep_31 : decode cX9_keep 31 = .ok (.iconst 0, 1) := by decide +kernel
theorem dX9_keep_32 : decode cX9_keep 32 = .ok (.ireturn, 1) := by decide +kernel
theorem dX9_takeLength_0 : decode cX9_takeLength 0 = .ok (.aload_n 0, 1) := by decide +kernel
theorem dX9_takeLength_1 : decode cX9_takeLength 1 = .ok (.iconst 0, 1) := by decide +kernel
theorem dX9_takeLength_2 : decode cX9_takeLength 2 = .ok (.iload 4, 2) := by decide +kernel
theorem dX9_takeLength_4 : decode cX9_takeLength 4 = .ok (.invokevirtual 49, 3) := by decide +kernel
theorem dX9_takeLength_7 : decode cX9_takeLength 7 = .ok (.ifCond .eq 28, 3) := by decide +kernel
theorem dX9_takeLength_10 : decode cX9_takeLength 10 = .ok (.aload_n 0, 1) := by decide +kernel
theorem dX9_takeLength_11 : decode cX9_takeLength 11 = .ok (.getfield 53, 3) := by decide +kernel
theorem dX9_takeLength_14 : decode cX9_takeLength 14 = .ok (.lconst 0, 1) := by decide +kernel
theorem dX9_takeLength_15 : decode cX9_takeLength 15 = .ok (.lcmp, 1) := by decide +kernel
theorem dX9_takeLength_16 : decode cX9_takeLength 16 = .ok (.ifCond .lt 19, 3) := by decide +kernel
theorem dX9_takeLength_19 : decode cX9_takeLength 19 = .ok (.aload_n 0, 1) := by decide +kernel
theorem dX9_takeLength_20 : decode cX9_takeLength 20 = .ok (.getfield 53, 3) := by decide +kernel
theorem dX9_takeLength_23 : decode cX9_takeLength 23 = .ok (.iload 4, 2) := by decide +kernel
theorem dX9_takeLength_25 : decode cX9_takeLength 25 = .ok (.aload_n 0, 1) := by decide +kernel
theorem dX9_takeLength_26 : decode cX9_takeLength 26 = .ok (.getfield 22, 3) := by decide +kernel
theorem dX9_takeLength_29 : decode cX9_takeLength 29 = .ok (.isub, 1) := by decide +kernel
theorem dX9_takeLength_30 : decode cX9_takeLength 30 = .ok (.i2l, 1) := by decide +kernel
theorem dX9_takeLength_31 : decode cX9_takeLength 31 = .ok (.lcmp, 1) := by decide +kernel
theorem dX9_takeLength_32 : decode cX9_takeLength 32 = .ok (.ifCond .le 5, 3) := by decide +kernel
theorem dX9_takeLength_35 : decode cX9_takeLength 35 = .ok (.iconst 0, 1) := by decide +kernel
theorem dX9_takeLength_36 : decode cX9_takeLength 36 = .ok (.ireturn, 1) := by decide +kernel
theorem dX9_takeLength_37 : decode cX9_takeLength 37 = .ok (.aload_n 0, 1) := by decide +kernel
theorem dX9_takeLength_38 : decode cX9_takeLength 38 = .ok (.getfield 22, 3) := by decide +kernel
theorem dX9_takeLength_41 : decode cX9_takeLength 41 = .ok (.aload_n 0, 1) := by decide +kernel
theorem dX9_takeLength_42 : decode cX9_takeLength 42 = .ok (.getfield 53, 3) := by decide +kernel
theorem dX9_takeLength_45 : decode cX9_takeLength 45 = .ok (.l2i, 1) := by decide +kernel
theorem dX9_takeLength_46 : decode cX9_takeLength 46 = .ok (.iadd, 1) := by decide +kernel
theorem dX9_takeLength_47 : decode cX9_takeLength 47 = .ok (.istore 6, 2) := by decide +kernel
theorem dX9_takeLength_49 : decode cX9_takeLength 49 = .ok (.aload_n 2, 1) := by decide +kernel
theorem dX9_takeLength_50 : decode cX9_takeLength 50 = .ok (.ifnull 24, 3) := by decide +kernel
theorem dX9_takeLength_53 : decode cX9_takeLength 53 = .ok (.aload_n 2, 1) := by decide +kernel
theorem dX9_takeLength_54 : decode cX9_takeLength 54 = .ok (.getfield 89, 3) := by decide +kernel
theorem dX9_takeLength_57 : decode cX9_takeLength 57 = .ok (.ifCond .eq 17, 3) := by decide +kernel
theorem dX9_takeLength_60 : decode cX9_takeLength 60 = .ok (.aload_n 2, 1) := by decide +kernel
theorem dX9_takeLength_61 : decode cX9_takeLength 61 = .ok (.getfield 74, 3) := by decide +kernel
theorem dX9_takeLength_64 : decode cX9_takeLength 64 = .ok (.invokestatic 93, 3) := by decide +kernel
theorem dX9_takeLength_67 : decode cX9_takeLength 67 = .ok (.ifCond .eq 7, 3) := by decide +kernel
theorem dX9_takeLength_70 : decode cX9_takeLength 70 = .ok (.iconst 1, 1) := by decide +kernel
theorem dX9_takeLength_71 : decode cX9_takeLength 71 = .ok (.goto 4, 3) := by decide +kernel
theorem dX9_takeLength_74 : decode cX9_takeLength 74 = .ok (.iconst 0, 1) := by decide +kernel
theorem dX9_takeLength_75 : decode cX9_takeLength 75 = .ok (.istore 7, 2) := by decide +kernel
theorem dX9_takeLength_77 : decode cX9_takeLength 77 = .ok (.iload 7, 2) := by decide +kernel
theorem dX9_takeLength_79 : decode cX9_takeLength 79 = .ok (.ifCond .eq 12, 3) := by decide +kernel
theorem dX9_takeLength_82 : decode cX9_takeLength 82 = .ok (.aload_n 0, 1) := by decide +kernel
theorem dX9_takeLength_83 : decode cX9_takeLength 83 = .ok (.aload_n 1, 1) := by decide +kernel
theorem dX9_takeLength_84 : decode cX9_takeLength 84 = .ok (.aload_n 2, 1) := by decide +kernel
theorem dX9_takeLength_85 : decode cX9_takeLength 85 = .ok (.iload 6, 2) := by decide +kernel
theorem dX9_takeLength_87 : decode cX9_takeLength 87 = .ok (.invokevirtual 97, 3) := by decide +kernel
theorem dX9_takeLength_90 : decode cX9_takeLength 90 = .ok (.ireturn, 1) := by decide +kernel
theorem dX9_takeLength_91 : decode cX9_takeLength 91 = .ok (.aload_n 2, 1) := by decide +kernel
theorem dX9_takeLength_92 : decode cX9_takeLength 92 = .ok (.ifnull 13, 3) := by decide +kernel
theorem dX9_takeLength_95 : decode cX9_takeLength 95 = .ok (.aload_n 2, 1) := by decide +kernel
theorem dX9_takeLength_96 : decode cX9_takeLength 96 = .ok (.getfield 74, 3) := by decide +kernel
theorem dX9_takeLength_99 : decode cX9_takeLength 99 = .ok (.invokestatic 93, 3) := by decide +kernel
theorem dX9_takeLength_102 : decode cX9_takeLength 102 = .ok (.ifCond .eq 16, 3) := by decide +kernel
theorem dX9_takeLength_105 : decode cX9_takeLength 105 = .ok (.aload_n 0, 1) := by decide +kernel
theorem dX9_takeLength_106 : decode cX9_takeLength 106 = .ok (.iload 6, 2) := by decide +kernel
theorem dX9_takeLength_108 : decode cX9_takeLength 108 = .ok (.putfield 22, 3) := by decide +kernel
theorem dX9_takeLength_111 : decode cX9_takeLength 111 = .ok (.aload_n 0, 1) := by decide +kernel
theorem dX9_takeLength_112 : decode cX9_takeLength 112 = .ok (.aload_n 1, 1) := by decide +kernel
theorem dX9_takeLength_113 : decode cX9_takeLength 113 = .ok (.iload_n 3, 1) := by decide +kernel
theorem dX9_takeLength_114 : decode cX9_takeLength 114 = .ok (.invokevirtual 85, 3) := by decide +kernel
theorem dX9_takeLength_117 : decode cX9_takeLength 117 = .ok (.ireturn, 1) := by decide +kernel
theorem dX9_takeLength_118 : decode cX9_takeLength 118 = .ok (.aload_n 2, 1) := by decide +kernel
theorem dX9_takeLength_119 : decode cX9_takeLength 119 = .ok (.getfield 74, 3) := by decide +kernel
theorem dX9_takeLength_122 : decode cX9_takeLength 122 = .ok (.bipush 11, 2) := by decide +kernel
theorem dX9_takeLength_124 : decode cX9_takeLength 124 = .ok (.if_icmp .ne 21, 3) := by decide +kernel
theorem dX9_takeLength_127 : decode cX9_takeLength 127 = .ok (.aload_n 0, 1) := by decide +kernel
theorem dX9_takeLength_128 : decode cX9_takeLength 128 = .ok (.getfield 9, 3) := by decide +kernel
theorem dX9_takeLength_131 : decode cX9_takeLength 131 = .ok (.aload_n 0, 1) := by decide +kernel
theorem dX9_takeLength_132 : decode cX9_takeLength 132 = .ok (.getfield 22, 3) := by decide +kernel
theorem dX9_takeLength_135 : decode cX9_takeLength 135 = .ok (.iload 6, 2) := by decide +kernel
theorem dX9_takeLength_137 : decode cX9_takeLength 137 = .ok (.invokevirtual 101, 3) := by decide +kernel
theorem dX9_takeLength_140 : decode cX9_takeLength 140 = .ok (.ifCond .ne 5, 3) := by decide +kernel
theorem dX9_takeLength_143 : decode cX9_takeLength 143 = .ok (.iconst 0, 1) := by decide +kernel
theorem dX9_takeLength_144 : decode cX9_takeLength 144 = .ok (.ireturn, 1) := by decide +kernel
theorem dX9_takeLength_145 : decode cX9_takeLength 145 = .ok (.aload_n 0, 1) := by decide +kernel
theorem dX9_takeLength_146 : decode cX9_takeLength 146 = .ok (.getfield 15, 3) := by decide +kernel
theorem dX9_takeLength_149 : decode cX9_takeLength 149 = .ok (.aload_n 1, 1) := by decide +kernel
theorem dX9_takeLength_150 : decode cX9_takeLength 150 = .ok (.aload_n 2, 1) := by decide +kernel
theorem dX9_takeLength_151 : decode cX9_takeLength 151 = .ok (.invokevirtual 104, 3) := by decide +kernel
theorem dX9_takeLength_154 : decode cX9_takeLength 154 = .ok (.astore 8, 2) := by decide +kernel
theorem dX9_takeLength_156 : decode cX9_takeLength 156 = .ok (.aload 8, 2) := by decide +kernel
theorem dX9_takeLength_158 : decode cX9_takeLength 158 = .ok (.ifnonnull 5, 3) := by decide +kernel
theorem dX9_takeLength_161 : decode cX9_takeLength 161 = .ok (.iconst 0, 1) := by decide +kernel
theorem dX9_takeLength_162 : decode cX9_takeLength 162 = .ok (.ireturn, 1) := by decide +kernel
theorem dX9_takeLength_163 : decode cX9_takeLength 163 = .ok (.aload_n 2, 1) := by decide +kernel
theorem dX9_takeLength_164 : decode cX9_takeLength 164 = .ok (.getfield 74, 3) := by decide +kernel
theorem dX9_takeLength_167 : decode cX9_takeLength 167 = .ok (.bipush 13, 2) := by decide +kernel
theorem dX9_takeLength_169 : decode cX9_takeLength 169 = .ok (.if_icmp .ne 20, 3) := by decide +kernel
theorem dX9_takeLength_172 : decode cX9_takeLength 172 = .ok (.aload_n 0, 1) := by decide +kernel
theorem dX9_takeLength_173 : decode cX9_takeLength 173 = .ok (.aload 8, 2) := by decide +kernel
theorem dX9_takeLength_175 : decode cX9_takeLength 175 = .ok (.aload_n 2, 1) := by decide +kernel
theorem dX9_takeLength_176 : decode cX9_takeLength 176 = .ok (.getfield 108, 3) := by decide +kernel
theorem dX9_takeLength_179 : decode cX9_takeLength 179 = .ok (.iload 6, 2) := by decide +kernel
theorem dX9_takeLength_181 : decode cX9_takeLength 181 = .ok (.iload 5, 2) := by decide +kernel
theorem dX9_takeLength_183 : decode cX9_takeLength 183 = .ok (.iconst 1, 1) := by decide +kernel
theorem dX9_takeLength_184 : decode cX9_takeLength 184 = .ok (.iadd, 1) := by decide +kernel
theorem dX9_takeLength_185 : decode cX9_takeLength 185 = .ok (.invokevirtual 45, 3) := by decide +kernel
theorem dX9_takeLength_188 : decode cX9_takeLength 188 = .ok (.ireturn, 1) := by decide +kernel
theorem dX9_takeLength_189 : decode cX9_takeLength 189 = .ok (.aload_n 0, 1) := by decide +kernel
theorem dX9_takeLength_190 : decode cX9_takeLength 190 = .ok (.aload 8, 2) := by decide +kernel
theorem dX9_takeLength_192 : decode cX9_takeLength 192 = .ok (.aload_n 0, 1) := by decide +kernel
theorem dX9_takeLength_193 : decode cX9_takeLength 193 = .ok (.getfield 22, 3) := by decide +kernel
theorem dX9_takeLength_196 : decode cX9_takeLength 196 = .ok (.iload 6, 2) := by decide +kernel
theorem dX9_takeLength_198 : decode cX9_takeLength 198 = .ok (.invokevirtual 111, 3) := by decide +kernel
theorem dX9_takeLength_201 : decode cX9_takeLength 201 = .ok (.ireturn, 1) := by decide +kernel
theorem dX9_takeNumber_0 : decode cX9_takeNumber 0 = .ok (.aload_n 0, 1) := by decide +kernel
theorem dX9_takeNumber_1 : decode cX9_takeNumber 1 = .ok (.iload_n 3, 1) := by decide +kernel
theorem dX9_takeNumber_2 : decode cX9_takeNumber 2 = .ok (.iload 5, 2) := by decide +kernel
theorem dX9_takeNumber_4 : decode cX9_takeNumber 4 = .ok (.invokevirtual 49, 3) := by decide +kernel
theorem dX9_takeNumber_7 : decode cX9_takeNumber 7 = .ok (.ifCond .ne 5, 3) := by decide +kernel
theorem dX9_takeNumber_10 : decode cX9_takeNumber 10 = .ok (.iconst 0, 1) := by decide +kernel
theorem dX9_takeNumber_11 : decode cX9_takeNumber 11 = .ok (.ireturn, 1) := by decide +kernel
theorem dX9_takeNumber_12 : decode cX9_takeNumber 12 = .ok (.aload_n 2, 1) := by decide +kernel
theorem dX9_takeNumber_13 : decode cX9_takeNumber 13 = .ok (.ifnull 23, 3) := by decide +kernel
theorem dX9_takeNumber_16 : decode cX9_takeNumber 16 = .ok (.aload_n 2, 1) := by decide +kernel
theorem dX9_takeNumber_17 : decode cX9_takeNumber 17 = .ok (.getfield 74, 3) := by decide +kernel
theorem dX9_takeNumber_20 : decode cX9_takeNumber 20 = .ok (.invokestatic 77, 3) := by decide +kernel
theorem dX9_takeNumber_23 : decode cX9_takeNumber 23 = .ok (.iload_n 3, 1) := by decide +kernel
theorem dX9_takeNumber_24 : decode cX9_takeNumber 24 = .ok (.if_icmp .ne 12, 3) := by decide +kernel
theorem dX9_takeNumber_27 : decode cX9_takeNumber 27 = .ok (.aload_n 0, 1) := by decide +kernel
theorem dX9_takeNumber_28 : decode cX9_takeNumber 28 = .ok (.aload_n 1, 1) := by decide +kernel
theorem dX9_takeNumber_29 : decode cX9_takeNumber 29 = .ok (.aload_n 2, 1) := by decide +kernel
theorem dX9_takeNumber_30 : decode cX9_takeNumber 30 = .ok (.invokevirtual 81, 3) := by decide +kernel
theorem dX9_takeNumber_33 : decode cX9_takeNumber 33 = .ok (.goto 10, 3) := by decide +kernel
theorem dX9_takeNumber_36 : decode cX9_takeNumber 36 = .ok (.aload_n 0, 1) := by decide +kernel
theorem dX9_takeNumber_37 : decode cX9_takeNumber 37 = .ok (.aload_n 1, 1) := by decide +kernel
theorem dX9_takeNumber_38 : decode cX9_takeNumber 38 = .ok (.iload 4, 2) := by decide +kernel
theorem dX9_takeNumber_40 : decode cX9_takeNumber 40 = .ok (.invokevirtual 85, 3) := by decide +kernel
theorem dX9_takeNumber_43 : decode cX9_takeNumber 43 = .ok (.ireturn, 1) := by decide +kernel
theorem dX9_readMessage_0 : decode cX9_readMessage 0 = .ok (.aload_n 2, 1) := by decide +kernel
theorem dX9_readMessage_1 : decode cX9_readMessage 1 = .ok (.ifnull 12, 3) := by decide +kernel
theorem dX9_readMessage_4 : decode cX9_readMessage 4 = .ok (.iload 4, 2) := by decide +kernel
theorem dX9_readMessage_6 : decode cX9_readMessage 6 = .ok (.aload_n 0, 1) := by decide +kernel
theorem dX9_readMessage_7 : decode cX9_readMessage 7 = .ok (.getfield 26, 3) := by decide +kernel
theorem dX9_readMessage_10 : decode cX9_readMessage 10 = .ok (.if_icmp .le 5, 3) := by decide +kernel
theorem dX9_readMessage_13 : decode cX9_readMessage 13 = .ok (.iconst 0, 1) := by decide +kernel
theorem dX9_readMessage_14 : decode cX9_readMessage 14 = .ok (.ireturn, 1) := by decide +kernel
theorem dX9_readMessage_15 : decode cX9_readMessage 15 = .ok (.iconst 0, 1) := by decide +kernel
theorem dX9_readMessage_16 : decode cX9_readMessage 16 = .ok (.istore 5, 2) := by decide +kernel
theorem dX9_readMessage_18 : decode cX9_readMessage 18 = .ok (.iload 5, 2) := by decide +kernel
theorem dX9_readMessage_20 : decode cX9_readMessage 20 = .ok (.sipush 700, 3) := by decide +kernel
theorem dX9_readMessage_23 : decode cX9_readMessage 23 = .ok (.if_icmp .ge 122, 3) := by decide +kernel
theorem dX9_readMessage_26 : decode cX9_readMessage 26 = .ok (.aload_n 0, 1) := by decide +kernel
theorem dX9_readMessage_27 : decode cX9_readMessage 27 = .ok (.getfield 22, 3) := by decide +kernel
theorem dX9_readMessage_30 : decode cX9_readMessage 30 = .ok (.iload_n 3, 1) := by decide +kernel
theorem dX9_readMessage_31 : decode cX9_readMessage 31 = .ok (.if_icmp .ge 114, 3) := by decide +kernel
theorem dX9_readMessage_34 : decode cX9_readMessage 34 = .ok (.aload_n 0, 1) := by decide +kernel
theorem dX9_readMessage_35 : decode cX9_readMessage 35 = .ok (.getfield 22, 3) := by decide +kernel
theorem dX9_readMessage_38 : decode cX9_readMessage 38 = .ok (.istore 6, 2) := by decide +kernel
theorem dX9_readMessage_40 : decode cX9_readMessage 40 = .ok (.aload_n 0, 1) := by decide +kernel
theorem dX9_readMessage_41 : decode cX9_readMessage 41 = .ok (.iconst 0, 1) := by decide +kernel
theorem dX9_readMessage_42 : decode cX9_readMessage 42 = .ok (.iload_n 3, 1) := by decide +kernel
theorem dX9_readMessage_43 : decode cX9_readMessage 43 = .ok (.invokevirtual 49, 3) := by decide +kernel
theorem dX9_readMessage_46 : decode cX9_readMessage 46 = .ok (.ifCond .eq 26, 3) := by decide +kernel
theorem dX9_readMessage_49 : decode cX9_readMessage 49 = .ok (.aload_n 0, 1) := by decide +kernel
theorem dX9_readMessage_50 : decode cX9_readMessage 50 = .ok (.getfield 53, 3) := by decide +kernel
theorem dX9_readMessage_53 : decode cX9_readMessage 53 = .ok (.bipush 32, 2) := by decide +kernel
theorem dX9_readMessage_55 : decode cX9_readMessage 55 = .ok (.lushr, 1) := by decide +kernel
theorem dX9_readMessage_56 : decode cX9_readMessage 56 = .ok (.lconst 0, 1) := by decide +kernel
theorem dX9_readMessage_57 : decode cX9_readMessage 57 = .ok (.lcmp, 1) := by decide +kernel
theorem dX9_readMessage_58 : decode cX9_readMessage 58 = .ok (.ifCond .ne 14, 3) := by decide +kernel
theorem dX9_readMessage_61 : decode cX9_readMessage 61 = .ok (.aload_n 0, 1) := by decide +kernel
theorem dX9_readMessage_62 : decode cX9_readMessage 62 = .ok (.getfield 53, 3) := by decide +kernel
theorem dX9_readMessage_65 : decode cX9_readMessage 65 = .ok (.ldc2_w 57, 3) := by decide +kernel
theorem dX9_readMessage_68 : decode cX9_readMessage 68 = .ok (.lcmp, 1) := by decide +kernel
theorem dX9_readMessage_69 : decode cX9_readMessage 69 = .ok (.ifCond .ge 5, 3) := by decide +kernel
theorem dX9_readMessage_72 : decode cX9_readMessage 72 = .ok (.iconst 0, 1) := by decide +kernel
theorem dX9_readMessage_73 : decode cX9_readMessage 73 = .ok (.ireturn, 1) := by decide +kernel
theorem dX9_readMessage_74 : decode cX9_readMessage 74 = .ok (.aload_n 0, 1) := by decide +kernel
theorem dX9_readMessage_75 : decode cX9_readMessage 75 = .ok (.getfield 53, 3) := by decide +kernel
theorem dX9_readMessage_78 : decode cX9_readMessage 78 = .ok (.ldc2_w 59, 3) := by decide +kernel
theorem dX9_readMessage_81 : decode cX9_readMessage 81 = .ok (.land, 1) := by decide +kernel
theorem dX9_readMessage_82 : decode cX9_readMessage 82 = .ok (.l2i, 1) := by decide +kernel
theorem dX9_readMessage_83 : decode cX9_readMessage 83 = .ok (.istore 7, 2) := by decide +kernel
theorem dX9_readMessage_85 : decode cX9_readMessage 85 = .ok (.aload_n 2, 1) := by decide +kernel
theorem dX9_readMessage_86 : decode cX9_readMessage 86 = .ok (.aload_n 0, 1) := by decide +kernel
theorem dX9_readMessage_87 : decode cX9_readMessage 87 = .ok (.getfield 53, 3) := by decide +kernel
theorem dX9_readMessage_90 : decode cX9_readMessage 90 = .ok (.iconst 3, 1) := by decide +kernel
theorem dX9_readMessage_91 : decode cX9_readMessage 91 = .ok (.lushr, 1) := by decide +kernel
theorem dX9_readMessage_92 : decode cX9_readMessage 92 = .ok (.invokevirtual 61, 3) := by decide +kernel
theorem dX9_readMessage_95 : decode cX9_readMessage 95 = .ok (.astore 8, 2) := by decide +kernel
theorem dX9_readMessage_97 : decode cX9_readMessage 97 = .ok (.iload 7, 2) := by decide +kernel
theorem dX9_readMessage_99 : decode cX9_readMessage 99 = .ok (.iconst 2, 1) := by decide +kernel
theorem dX9_readMessage_100 : decode cX9_readMessage 100 = .ok (.if_icmp .ne 18, 3) := by decide +kernel
theorem dX9_readMessage_103 : decode cX9_readMessage 103 = .ok (.aload_n 0, 1) := by decide +kernel
theorem dX9_readMessage_104 : decode cX9_readMessage 104 = .ok (.aload_n 1, 1) := by decide +kernel
theorem dX9_readMessage_105 : decode cX9_readMessage 105 = .ok (.aload 8, 2) := by decide +kernel
theorem dX9_readMessage_107 : decode cX9_readMessage 107 = .ok (.iload 6, 2) := by decide +kernel
theorem dX9_readMessage_109 : decode cX9_readMessage 109 = .ok (.iload_n 3, 1) := by decide +kernel
theorem dX9_readMessage_110 : decode cX9_readMessage 110 = .ok (.iload 4, 2) := by decide +kernel
theorem dX9_readMessage_112 : decode cX9_readMessage 112 = .ok (.invokevirtual 67, 3) := by decide +kernel
theorem dX9_readMessage_115 : decode cX9_readMessage 115 = .ok (.goto 15, 3) := by decide +kernel
theorem dX9_readMessage_118 : decode cX9_readMessage 118 = .ok (.aload_n 0, 1) := by decide +kernel
theorem dX9_readMessage_119 : decode cX9_readMessage 119 = .ok (.aload_n 1, 1) := by decide +kernel
theorem dX9_readMessage_120 : decode cX9_readMessage 120 = .ok (.aload 8, 2) := by decide +kernel
theorem dX9_readMessage_122 : decode cX9_readMessage 122 = .ok (.iload 7, 2) := by decide +kernel
theorem dX9_readMessage_124 : decode cX9_readMessage 124 = .ok (.iload 6, 2) := by decide +kernel
theorem dX9_readMessage_126 : decode cX9_readMessage 126 = .ok (.iload_n 3, 1) := by decide +kernel
theorem dX9_readMessage_127 : decode cX9_readMessage 127 = .ok (.invokevirtual 71, 3) := by decide +kernel
theorem dX9_readMessage_130 : decode cX9_readMessage 130 = .ok (.istore 9, 2) := by decide +kernel
theorem dX9_readMessage_132 : decode cX9_readMessage 132 = .ok (.iload 9, 2) := by decide +kernel
theorem dX9_readMessage_134 : decode cX9_readMessage 134 = .ok (.ifCond .ne 5, 3) := by decide +kernel
theorem dX9_readMessage_137 : decode cX9_readMessage 137 = .ok (.iconst 0, 1) := by decide +kernel
theorem dX9_readMessage_138 : decode cX9_readMessage 138 = .ok (.ireturn, 1) := by decide +kernel
theorem dX9_readMessage_139 : decode cX9_readMessage 139 = .ok (.iinc 5 1, 3) := by decide +kernel
theorem dX9_readMessage_142 : decode cX9_readMessage 142 = .ok (.goto (-124), 3) := by decide +kernel
theorem dX9_readMessage_145 : decode cX9_readMessage 145 = .ok (.aload_n 0, 1) := by decide +kernel
theorem dX9_readMessage_146 : decode cX9_readMessage 146 = .ok (.getfield 22, 3) := by decide +kernel
theorem dX9_readMessage_149 : decode cX9_readMessage 149 = .ok (.iload_n 3, 1) := by decide +kernel
theorem dX9_readMessage_150 : decode cX9_readMessage 150 = .ok (.if_icmp .ne 7, 3) := by decide +kernel
theorem dX9_readMessage_153 : decode cX9_readMessage 153 = .ok (.iconst 1, 1) := by decide +kernel
theorem dX9_readMessage_154 : decode cX9_readMessage 154 = .ok (.goto 4, 3) := by decide +kernel
theorem dX9_readMessage_157 : decode cX9_readMessage 157 = .ok (.iconst 0, 1) := by decide +kernel
theorem dX9_readMessage_158 : decode cX9_readMessage 158 = .ok (.ireturn, 1) := by decide +kernel
theorem dX9_read_0 : decode cX9_read 0 = .ok (.aload_n 0, 1) := by decide +kernel
theorem dX9_read_1 : decode cX9_read 1 = .ok (.iconst 0, 1) := by decide +kernel
theorem dX9_read_2 : decode cX9_read 2 = .ok (.putfield 22, 3) := by decide +kernel
theorem dX9_read_5 : decode cX9_read 5 = .ok (.aload_n 0, 1) := by decide +kernel
theorem dX9_read_6 : decode cX9_read 6 = .ok (.iload_n 1, 1) := by decide +kernel
theorem dX9_read_7 : decode cX9_read 7 = .ok (.putfield 26, 3) := by decide +kernel
theorem dX9_read_10 : decode cX9_read 10 = .ok (.aload_n 0, 1) := by decide +kernel
theorem dX9_read_11 : decode cX9_read 11 = .ok (.aload_n 0, 1) := by decide +kernel
theorem dX9_read_12 : decode cX9_read 12 = .ok (.getfield 15, 3) := by decide +kernel
theorem dX9_read_15 : decode cX9_read 15 = .ok (.getfield 29, 3) := by decide +kernel
theorem dX9_read_18 : decode cX9_read 18 = .ok (.aload_n 0, 1) := by decide +kernel
theorem dX9_read_19 : decode cX9_read 19 = .ok (.getfield 15, 3) := by decide +kernel
theorem dX9_read_22 : decode cX9_read 22 = .ok (.getfield 35, 3) := by decide +kernel
theorem dX9_read_25 : decode cX9_read 25 = .ok (.aload_n 0, 1) := by decide +kernel
theorem dX9_read_26 : decode cX9_read 26 = .ok (.getfield 9, 3) := by decide +kernel
theorem dX9_read_29 : decode cX9_read 29 = .ok (.invokevirtual 39, 3) := by decide +kernel
theorem dX9_read_32 : decode cX9_read 32 = .ok (.iconst 1, 1) := by decide +kernel
theorem dX9_read_33 : decode cX9_read 33 = .ok (.invokevirtual 45, 3) := by decide +kernel
theorem dX9_read_36 : decode cX9_read 36 = .ok (.ireturn, 1) := by decide +kernel
theorem dX4_isNothing_0 : decode cX4_isNothing 0 = .ok (.aload_n 0, 1) := by decide +kernel
theorem dX4_isNothing_1 : decode cX4_isNothing 1 = .ok (.getfield 9, 3) := by decide +kernel
theorem dX4_isNothing_4 : decode cX4_isNothing 4 = .ok (.ifnull 35, 3) := by decide +kernel
theorem dX4_isNothing_7 : decode cX4_isNothing 7 = .ok (.aload_n 0, 1) := by decide +kernel
theorem dX4_isNothing_8 : decode cX4_isNothing 8 = .ok (.getfield 9, 3) := by decide +kernel
theorem dX4_isNothing_11 : decode cX4_isNothing 11 = .ok (.getfield 36, 3) := by decide +kernel
theorem dX4_isNothing_14 : decode cX4_isNothing 14 = .ok (.ifCond .ne 25, 3) := by decide +kernel
theorem dX4_isNothing_17 : decode cX4_isNothing 17 = .ok (.aload_n 0, 1) := by decide +kernel
theorem dX4_isNothing_18 : decode cX4_isNothing 18 = .ok (.getfield 9, 3) := by decide +kernel
theorem dX4_isNothing_21 : decode cX4_isNothing 21 = .ok (.getfield 42, 3) := by decide +kernel
theorem dX4_isNothing_24 : decode cX4_isNothing 24 = .ok (.ifnonnull 15, 3) := by decide +kernel
theorem dX4_isNothing_27 : decode cX4_isNothing 27 = .ok (.aload_n 0, 1) := by decide +kernel
theorem dX4_isNothing_28 : decode cX4_isNothing 28 = .ok (.getfield 9, 3) := by decide +kernel
theorem dX4_isNothing_31 : decode cX4_isNothing 31 = .ok (.getfield 45, 3) := by decide +kernel
theorem dX4_isNothing_34 : decode cX4_isNothing 34 = .ok (.bipush 13, 2) := by decide +kernel
theorem dX4_isNothing_36 : decode cX4_isNothing 36 = .ok (.if_icmp .ne 5, 3) := by decide +kernel
theorem dX4_isNothing_39 : decode cX4_isNothing 39 = .ok (.iconst 0, 1) := by decide +kernel
theorem dX4_isNothing_40 : decode cX4_isNothing 40 = .ok (.ireturn, 1) := by decide +kernel
theorem dX4_isNothing_41 : decode cX4_isNothing 41 = .ok (.aload_n 0, 1) := by decide +kernel
theorem dX4_isNothing_42 : decode cX4_isNothing 42 = .ok (.getfield 9, 3) := by decide +kernel
theorem dX4_isNothing_45 : decode cX4_isNothing 45 = .ok (.getfield 45, 3) := by decide +kernel
theorem dX4_isNothing_48 : decode cX4_isNothing 48 = .ok (.invokestatic 48, 3) := by decide +kernel
theorem dX4_isNothing_51 : decode cX4_isNothing 51 = .ok (.ifCond .eq 20, 3) := by decide +kernel
theorem dX4_isNothing_54 : decode cX4_isNothing 54 = .ok (.aload_n 0, 1) := by decide +kernel
theorem dX4_isNothing_55 : decode cX4_isNothing 55 = .ok (.getfield 25, 3) := by decide +kernel
theorem dX4_isNothing_58 : decode cX4_isNothing 58 = .ok (.lconst 0, 1) := by decide +kernel
theorem dX4_isNothing_59 : decode cX4_isNothing 59 = .ok (.lcmp, 1) := by decide +kernel
theorem dX4_isNothing_60 : decode cX4_isNothing 60 = .ok (.ifCond .ne 7, 3) := by decide +kernel
theorem dX4_isNothing_63 : decode cX4_isNothing 63 = .ok (.iconst 1, 1) := by decide +kernel
theorem dX4_isNothing_64 : decode cX4_isNothing 64 = .ok (.goto 23, 3) := by decide +kernel
theorem dX4_isNothing_67 : decode cX4_isNothing 67 = .ok (.iconst 0, 1) := by decide +kernel
theorem dX4_isNothing_68 : decode cX4_isNothing 68 = .ok (.goto 19, 3) := by decide +kernel
theorem dX4_isNothing_71 : decode cX4_isNothing 71 = .ok (.aload_n 0, 1) := by decide +kernel
theorem dX4_isNothing_72 : decode cX4_isNothing 72 = .ok (.getfield 29, 3) := by decide +kernel
theorem dX4_isNothing_75 : decode cX4_isNothing 75 = .ok (.aload_n 0, 1) := by decide +kernel
theorem dX4_isNothing_76 : decode cX4_isNothing 76 = .ok (.getfield 33, 3) := by decide +kernel
theorem dX4_isNothing_79 : decode cX4_isNothing 79 = .ok (.if_icmp .ne 7, 3) := by decide +kernel
theorem dX4_isNothing_82 : decode cX4_isNothing 82 = .ok (.iconst 1, 1) := by decide +kernel
theorem dX4_isNothing_83 : decode cX4_isNothing 83 = .ok (.goto 4, 3) := by decide +kernel
theorem dX4_isNothing_86 : decode cX4_isNothing 86 = .ok (.iconst 0, 1) := by decide +kernel
theorem dX4_isNothing_87 : decode cX4_isNothing 87 = .ok (.ireturn, 1) := by decide +kernel
theorem dX8_countIn_0 : decode cX8_countIn 0 = .ok (.iconst 0, 1) := by decide +kernel
theorem dX8_countIn_1 : decode cX8_countIn 1 = .ok (.istore_n 3, 1) := by decide +kernel
theorem dX8_countIn_2 : decode cX8_countIn 2 = .ok (.aload_n 1, 1) := by decide +kernel
theorem dX8_countIn_3 : decode cX8_countIn 3 = .ok (.getfield 63, 3) := by decide +kernel
theorem dX8_countIn_6 : decode cX8_countIn 6 = .ok (.astore 4, 2) := by decide +kernel
theorem dX8_countIn_8 : decode cX8_countIn 8 = .ok (.aload 4, 2) := by decide +kernel
theorem dX8_countIn_10 : decode cX8_countIn 10 = .ok (.ifnull 58, 3) := by decide +kernel
theorem dX8_countIn_13 : decode cX8_countIn 13 = .ok (.aload 4, 2) := by decide +kernel
theorem dX8_countIn_15 : decode cX8_countIn 15 = .ok (.getfield 66, 3) := by decide +kernel
theorem dX8_countIn_18 : decode cX8_countIn 18 = .ok (.ifnull 14, 3) := by decide +kernel
theorem dX8_countIn_21 : decode cX8_countIn 21 = .ok (.aload 4, 2) := by decide +kernel
theorem dX8_countIn_23 : decode cX8_countIn 23 = .ok (.invokevirtual 69, 3) := by decide +kernel
theorem dX8_countIn_26 : decode cX8_countIn 26 = .ok (.ifCond .ne 6, 3) := by decide +kernel
theorem dX8_countIn_29 : decode cX8_countIn 29 = .ok (.iinc 3 1, 3) := by decide +kernel
theorem dX8_countIn_32 : decode cX8_countIn 32 = .ok (.aload 4, 2) := by decide +kernel
theorem dX8_countIn_34 : decode cX8_countIn 34 = .ok (.getfield 63, 3) := by decide +kernel
theorem dX8_countIn_37 : decode cX8_countIn 37 = .ok (.ifnull 21, 3) := by decide +kernel
theorem dX8_countIn_40 : decode cX8_countIn 40 = .ok (.iload_n 2, 1) := by decide +kernel
theorem dX8_countIn_41 : decode cX8_countIn 41 = .ok (.bipush 20, 2) := by decide +kernel
theorem dX8_countIn_43 : decode cX8_countIn 43 = .ok (.if_icmp .gt 15, 3) := by decide +kernel
theorem dX8_countIn_46 : decode cX8_countIn 46 = .ok (.iload_n 3, 1) := by decide +kernel
theorem dX8_countIn_47 : decode cX8_countIn 47 = .ok (.aload_n 0, 1) := by decide +kernel
theorem dX8_countIn_48 : decode cX8_countIn 48 = .ok (.aload 4, 2) := by decide +kernel
theorem dX8_countIn_50 : decode cX8_countIn 50 = .ok (.iload_n 2, 1) := by decide +kernel
theorem dX8_countIn_51 : decode cX8_countIn 51 = .ok (.iconst 1, 1) := by decide +kernel
theorem dX8_countIn_52 : decode cX8_countIn 52 = .ok (.iadd, 1) := by decide +kernel
theorem dX8_countIn_53 : decode cX8_countIn 53 = .ok (.invokevirtual 59, 3) := by decide +kernel
theorem dX8_countIn_56 : decode cX8_countIn 56 = .ok (.iadd, 1) := by decide +kernel
theorem dX8_countIn_57 : decode cX8_countIn 57 = .ok (.istore_n 3, 1) := by decide +kernel
theorem dX8_countIn_58 : decode cX8_countIn 58 = .ok (.aload 4, 2) := by decide +kernel
theorem dX8_countIn_60 : decode cX8_countIn 60 = .ok (.getfield 72, 3) := by decide +kernel
theorem dX8_countIn_63 : decode cX8_countIn 63 = .ok (.astore 4, 2) := by decide +kernel
theorem dX8_countIn_65 : decode cX8_countIn 65 = .ok (.goto (-57), 3) := by decide +kernel
theorem dX8_countIn_68 : decode cX8_countIn 68 = .ok (.iload_n 3, 1) := by decide +kernel
theorem dX8_countIn_69 : decode cX8_countIn 69 = .ok (.ireturn, 1) := by decide +kernel
theorem dX8_count_0 : decode cX8_count 0 = .ok (.aload_n 0, 1) := by decide +kernel
theorem dX8_count_1 : decode cX8_count 1 = .ok (.aload_n 0, 1) := by decide +kernel
theorem dX8_count_2 : decode cX8_count 2 = .ok (.getfield 20, 3) := by decide +kernel
theorem dX8_count_5 : decode cX8_count 5 = .ok (.iconst 1, 1) := by decide +kernel
theorem dX8_count_6 : decode cX8_count 6 = .ok (.invokevirtual 59, 3) := by decide +kernel
theorem dX8_count_9 : decode cX8_count 9 = .ok (.ireturn, 1) := by decide +kernel
theorem dX8_isSpilt_0 : decode cX8_isSpilt 0 = .ok (.aload_n 0, 1) := by decide +kernel
theorem dX8_isSpilt_1 : decode cX8_isSpilt 1 = .ok (.getfield 29, 3) := by decide +kernel
theorem dX8_isSpilt_4 : decode cX8_isSpilt 4 = .ok (.invokevirtual 41, 3) := by decide +kernel
theorem dX8_isSpilt_7 : decode cX8_isSpilt 7 = .ok (.ireturn, 1) := by decide +kernel
theorem dX11_settle_0 : decode cX11_settle 0 = .ok (.aload_n 0, 1) := by decide +kernel
theorem dX11_settle_1 : decode cX11_settle 1 = .ok (.getfield 14, 3) := by decide +kernel
theorem dX11_settle_4 : decode cX11_settle 4 = .ok (.invokevirtual 99, 3) := by decide +kernel
theorem dX11_settle_7 : decode cX11_settle 7 = .ok (.iload_n 1, 1) := by decide +kernel
theorem dX11_settle_8 : decode cX11_settle 8 = .ok (.ifCond .eq 13, 3) := by decide +kernel
theorem dX11_settle_11 : decode cX11_settle 11 = .ok (.aload_n 0, 1) := by decide +kernel
theorem dX11_settle_12 : decode cX11_settle 12 = .ok (.getfield 34, 3) := by decide +kernel
theorem dX11_settle_15 : decode cX11_settle 15 = .ok (.invokevirtual 226, 3) := by decide +kernel
theorem dX11_settle_18 : decode cX11_settle 18 = .ok (.goto 4, 3) := by decide +kernel
theorem dX11_settle_21 : decode cX11_settle 21 = .ok (.iconst 0, 1) := by decide +kernel
theorem dX11_settle_22 : decode cX11_settle 22 = .ok (.istore_n 2, 1) := by decide +kernel
theorem dX11_settle_23 : decode cX11_settle 23 = .ok (.iload_n 2, 1) := by decide +kernel
theorem dX11_settle_24 : decode cX11_settle 24 = .ok (.sipush 200, 3) := by decide +kernel
theorem dX11_settle_27 : decode cX11_settle 27 = .ok (.if_icmp .gt 13, 3) := by decide +kernel
theorem dX11_settle_30 : decode cX11_settle 30 = .ok (.aload_n 0, 1) := by decide +kernel
theorem dX11_settle_31 : decode cX11_settle 31 = .ok (.getfield 34, 3) := by decide +kernel
theorem dX11_settle_34 : decode cX11_settle 34 = .ok (.invokevirtual 228, 3) := by decide +kernel
theorem dX11_settle_37 : decode cX11_settle 37 = .ok (.ifCond .eq 7, 3) := by decide +kernel
theorem dX11_settle_40 : decode cX11_settle 40 = .ok (.iconst 1, 1) := by decide +kernel
theorem dX11_settle_41 : decode cX11_settle 41 = .ok (.goto 4, 3) := by decide +kernel
theorem dX11_settle_44 : decode cX11_settle 44 = .ok (.iconst 0, 1) := by decide +kernel
theorem dX11_settle_45 : decode cX11_settle 45 = .ok (.istore_n 3, 1) := by decide +kernel
theorem dX11_settle_46 : decode cX11_settle 46 = .ok (.iload_n 1, 1) := by decide +kernel
theorem dX11_settle_47 : decode cX11_settle 47 = .ok (.ifCond .eq 7, 3) := by decide +kernel
theorem dX11_settle_50 : decode cX11_settle 50 = .ok (.iload_n 3, 1) := by decide +kernel
theorem dX11_settle_51 : decode cX11_settle 51 = .ok (.ifCond .eq 10, 3) := by decide +kernel
theorem dX11_settle_54 : decode cX11_settle 54 = .ok (.aload_n 0, 1) := by decide +kernel
theorem dX11_settle_55 : decode cX11_settle 55 = .ok (.getfield 34, 3) := by decide +kernel
theorem dX11_settle_58 : decode cX11_settle 58 = .ok (.invokevirtual 92, 3) := by decide +kernel
theorem dX11_settle_61 : decode cX11_settle 61 = .ok (.iload_n 1, 1) := by decide +kernel
theorem dX11_settle_62 : decode cX11_settle 62 = .ok (.ifCond .ne 13, 3) := by decide +kernel
theorem dX11_settle_65 : decode cX11_settle 65 = .ok (.new 67, 3) := by decide +kernel
theorem dX11_settle_68 : decode cX11_settle 68 = .ok (.dup, 1) := by decide +kernel
theorem dX11_settle_69 : decode cX11_settle 69 = .ok (.ldc 229, 2) := by decide +kernel
theorem dX11_settle_71 : decode cX11_settle 71 = .ok (.invokespecial 71, 3) := by decide +kernel
theorem dX11_settle_74 : decode cX11_settle 74 = .ok (.athrow, 1) := by decide +kernel
theorem dX11_settle_75 : decode cX11_settle 75 = .ok (.iload_n 3, 1) := by decide +kernel
theorem dX11_settle_76 : decode cX11_settle 76 = .ok (.ifCond .eq 13, 3) := by decide +kernel
theorem dX11_settle_79 : decode cX11_settle 79 = .ok (.new 78, 3) := by decide +kernel
theorem dX11_settle_82 : decode cX11_settle 82 = .ok (.dup, 1) := by decide +kernel
theorem dX11_settle_83 : decode cX11_settle 83 = .ok (.ldc 231, 2) := by decide +kernel
theorem dX11_settle_85 : decode cX11_settle 85 = .ok (.invokespecial 82, 3) := by decide +kernel
theorem dX11_settle_88 : decode cX11_settle 88 = .ok (.athrow, 1) := by decide +kernel
theorem dX11_settle_89 : decode cX11_settle 89 = .ok (.iload_n 2, 1) := by decide +kernel
theorem dX11_settle_90 : decode cX11_settle 90 = .ok (.ireturn, 1) := by decide +kernel
theorem dX11_decode_0 : decode cX11_decode 0 = .ok (.aload_n 0, 1) := by decide +kernel
theorem dX11_decode_1 : decode cX11_decode 1 = .ok (.aload_n 0, 1) := by decide +kernel
theorem dX11_decode_2 : decode cX11_decode 2 = .ok (.iload_n 1, 1) := by decide +kernel
theorem dX11_decode_3 : decode cX11_decode 3 = .ok (.iload_n 2, 1) := by decide +kernel
theorem dX11_decode_4 : decode cX11_decode 4 = .ok (.iload_n 3, 1) := by decide +kernel
theorem dX11_decode_5 : decode cX11_decode 5 = .ok (.invokevirtual 162, 3) := by decide +kernel
theorem dX11_decode_8 : decode cX11_decode 8 = .ok (.ifCond .eq 18, 3) := by decide +kernel
theorem dX11_decode_11 : decode cX11_decode 11 = .ok (.aload_n 0, 1) := by decide +kernel
theorem dX11_decode_12 : decode cX11_decode 12 = .ok (.getfield 43, 3) := by decide +kernel
theorem dX11_decode_15 : decode cX11_decode 15 = .ok (.iload_n 3, 1) := by decide +kernel
theorem dX11_decode_16 : decode cX11_decode 16 = .ok (.invokevirtual 166, 3) := by decide +kernel
theorem dX11_decode_19 : decode cX11_decode 19 = .ok (.ifCond .eq 7, 3) := by decide +kernel
theorem dX11_decode_22 : decode cX11_decode 22 = .ok (.iconst 1, 1) := by decide +kernel
theorem dX11_decode_23 : decode cX11_decode 23 = .ok (.goto 4, 3) := by decide +kernel
theorem dX11_decode_26 : decode cX11_decode 26 = .ok (.iconst 0, 1) := by decide +kernel
theorem dX11_decode_27 : decode cX11_decode 27 = .ok (.invokevirtual 170, 3) := by decide +kernel
theorem dX11_decode_30 : decode cX11_decode 30 = .ok (.ireturn, 1) := by decide +kernel
theorem dX8_isThere_0 : decode cX8_isThere 0 = .ok (.aload_n 0, 1) := by decide +kernel
theorem dX8_isThere_1 : decode cX8_isThere 1 = .ok (.getfield 33, 3) := by decide +kernel
theorem dX8_isThere_4 : decode cX8_isThere 4 = .ok (.ifnull 14, 3) := by decide +kernel
theorem dX8_isThere_7 : decode cX8_isThere 7 = .ok (.aload_n 0, 1) := by decide +kernel
theorem dX8_isThere_8 : decode cX8_isThere 8 = .ok (.getfield 37, 3) := by decide +kernel
theorem dX8_isThere_11 : decode cX8_isThere 11 = .ok (.ifnull 7, 3) := by decide +kernel
theorem dX8_isThere_14 : decode cX8_isThere 14 = .ok (.iconst 1, 1) := by decide +kernel
theorem dX8_isThere_15 : decode cX8_isThere 15 = .ok (.goto 4, 3) := by decide +kernel
theorem dX8_isThere_18 : decode cX8_isThere 18 = .ok (.iconst 0, 1) := by decide +kernel
theorem dX8_isThere_19 : decode cX8_isThere 19 = .ok (.ireturn, 1) := by decide +kernel
theorem dX9_writeNumber_0 : decode cX9_writeNumber 0 = .ok (.iload_n 1, 1) := by decide +kernel
theorem dX9_writeNumber_1 : decode cX9_writeNumber 1 = .ok (.invokestatic 77, 3) := by decide +kernel
theorem dX9_writeNumber_4 : decode cX9_writeNumber 4 = .ok (.istore 4, 2) := by decide +kernel
theorem dX9_writeNumber_6 : decode cX9_writeNumber 6 = .ok (.iload 4, 2) := by decide +kernel
theorem dX9_writeNumber_8 : decode cX9_writeNumber 8 = .ok (.iconst 1, 1) := by decide +kernel
theorem dX9_writeNumber_9 : decode cX9_writeNumber 9 = .ok (.if_icmp .ne 16, 3) := by decide +kernel
theorem dX9_writeNumber_12 : decode cX9_writeNumber 12 = .ok (.aload_n 0, 1) := by decide +kernel
theorem dX9_writeNumber_13 : decode cX9_writeNumber 13 = .ok (.getfield 19, 3) := by decide +kernel
theorem dX9_writeNumber_16 : decode cX9_writeNumber 16 = .ok (.lload_n 2, 1) := by decide +kernel
theorem dX9_writeNumber_17 : decode cX9_writeNumber 17 = .ok (.bipush 8, 2) := by decide +kernel
theorem dX9_writeNumber_19 : decode cX9_writeNumber 19 = .ok (.invokevirtual 185, 3) := by decide +kernel
theorem dX9_writeNumber_22 : decode cX9_writeNumber 22 = .ok (.goto 57, 3) := by decide +kernel
theorem dX9_writeNumber_25 : decode cX9_writeNumber 25 = .ok (.iload 4, 2) := by decide +kernel
theorem dX9_writeNumber_27 : decode cX9_writeNumber 27 = .ok (.iconst 5, 1) := by decide +kernel
theorem dX9_writeNumber_28 : decode cX9_writeNumber 28 = .ok (.if_icmp .ne 15, 3) := by decide +kernel
theorem dX9_writeNumber_31 : decode cX9_writeNumber 31 = .ok (.aload_n 0, 1) := by decide +kernel
theorem dX9_writeNumber_32 : decode cX9_writeNumber 32 = .ok (.getfield 19, 3) := by decide +kernel
theorem dX9_writeNumber_35 : decode cX9_writeNumber 35 = .ok (.lload_n 2, 1) := by decide +kernel
theorem dX9_writeNumber_36 : decode cX9_writeNumber 36 = .ok (.iconst 4, 1) := by decide +kernel
theorem dX9_writeNumber_37 : decode cX9_writeNumber 37 = .ok (.invokevirtual 185, 3) := by decide +kernel
theorem dX9_writeNumber_40 : decode cX9_writeNumber 40 = .ok (.goto 39, 3) := by decide +kernel
theorem dX9_writeNumber_43 : decode cX9_writeNumber 43 = .ok (.iload_n 1, 1) := by decide +kernel
theorem dX9_writeNumber_44 : decode cX9_writeNumber 44 = .ok (.iconst 4, 1) := by decide +kernel
theorem dX9_writeNumber_45 : decode cX9_writeNumber 45 = .ok (.if_icmp .eq 8, 3) := by decide +kernel
theorem dX9_writeNumber_48 : decode cX9_writeNumber 48 = .ok (.iload_n 1, 1) := by decide +kernel
theorem dX9_writeNumber_49 : decode cX9_writeNumber 49 = .ok (.iconst 5, 1) := by decide +kernel
theorem dX9_writeNumber_50 : decode cX9_writeNumber 50 = .ok (.if_icmp .ne 21, 3) := by decide +kernel
theorem dX9_writeNumber_53 : decode cX9_writeNumber 53 = .ok (.aload_n 0, 1) := by decide +kernel
theorem dX9_writeNumber_54 : decode cX9_writeNumber 54 = .ok (.getfield 19, 3) := by decide +kernel
theorem dX9_writeNumber_57 : decode cX9_writeNumber 57 = .ok (.lload_n 2, 1) := by decide +kernel
theorem dX9_writeNumber_58 : decode cX9_writeNumber 58 = .ok (.iconst 1, 1) := by decide +kernel
theorem dX9_writeNumber_59 : decode cX9_writeNumber 59 = .ok (.lshl, 1) := by decide +kernel
theorem dX9_writeNumber_60 : decode cX9_writeNumber 60 = .ok (.lload_n 2, 1) := by decide +kernel
theorem dX9_writeNumber_61 : decode cX9_writeNumber 61 = .ok (.bipush 63, 2) := by decide +kernel
theorem dX9_writeNumber_63 : decode cX9_writeNumber 63 = .ok (.lshr, 1) := by decide +kernel
theorem dX9_writeNumber_64 : decode cX9_writeNumber 64 = .ok (.lxor, 1) := by decide +kernel
theorem dX9_writeNumber_65 : decode cX9_writeNumber 65 = .ok (.invokevirtual 173, 3) := by decide +kernel
theorem dX9_writeNumber_68 : decode cX9_writeNumber 68 = .ok (.goto 11, 3) := by decide +kernel
theorem dX9_writeNumber_71 : decode cX9_writeNumber 71 = .ok (.aload_n 0, 1) := by decide +kernel
theorem dX9_writeNumber_72 : decode cX9_writeNumber 72 = .ok (.getfield 19, 3) := by decide +kernel
theorem dX9_writeNumber_75 : decode cX9_writeNumber 75 = .ok (.lload_n 2, 1) := by decide +kernel
theorem dX9_writeNumber_76 : decode cX9_writeNumber 76 = .ok (.invokevirtual 173, 3) := by decide +kernel
theorem dX9_writeNumber_79 : decode cX9_writeNumber 79 = .ok (.return_, 1) := by decide +kernel
theorem dX9_writeRow_0 : decode cX9_writeRow 0 = .ok (.aload_n 0, 1) := by decide +kernel
theorem dX9_writeRow_1 : decode cX9_writeRow 1 = .ok (.getfield 19, 3) := by decide +kernel
theorem dX9_writeRow_4 : decode cX9_writeRow 4 = .ok (.aload_n 2, 1) := by decide +kernel
theorem dX9_writeRow_5 : decode cX9_writeRow 5 = .ok (.getfield 170, 3) := by decide +kernel
theorem dX9_writeRow_8 : decode cX9_writeRow 8 = .ok (.iconst 3, 1) := by decide +kernel
theorem dX9_writeRow_9 : decode cX9_writeRow 9 = .ok (.lshl, 1) := by decide +kernel
theorem dX9_writeRow_10 : decode cX9_writeRow 10 = .ok (.ldc2_w 171, 3) := by decide +kernel
theorem dX9_writeRow_13 : decode cX9_writeRow 13 = .ok (.lor, 1) := by decide +kernel
theorem dX9_writeRow_14 : decode cX9_writeRow 14 = .ok (.invokevirtual 173, 3) := by decide +kernel
theorem dX9_writeRow_17 : decode cX9_writeRow 17 = .ok (.aload_n 0, 1) := by decide +kernel
theorem dX9_writeRow_18 : decode cX9_writeRow 18 = .ok (.getfield 19, 3) := by decide +kernel
theorem dX9_writeRow_21 : decode cX9_writeRow 21 = .ok (.invokevirtual 39, 3) := by decide +kernel
theorem dX9_writeRow_24 : decode cX9_writeRow 24 = .ok (.istore_n 3, 1) := by decide +kernel
theorem dX9_writeRow_25 : decode cX9_writeRow 25 = .ok (.aload_n 1, 1) := by decide +kernel
theorem dX9_writeRow_26 : decode cX9_writeRow 26 = .ok (.astore 4, 2) := by decide +kernel
theorem dX9_writeRow_28 : decode cX9_writeRow 28 = .ok (.aload_n 1, 1) := by decide +kernel
theorem dX9_writeRow_29 : decode cX9_writeRow 29 = .ok (.astore 5, 2) := by decide +kernel
theorem dX9_writeRow_31 : decode cX9_writeRow 31 = .ok (.aload 5, 2) := by decide +kernel
theorem dX9_writeRow_33 : decode cX9_writeRow 33 = .ok (.ifnull 39, 3) := by decide +kernel
theorem dX9_writeRow_36 : decode cX9_writeRow 36 = .ok (.aload 5, 2) := by decide +kernel
theorem dX9_writeRow_38 : decode cX9_writeRow 38 = .ok (.getfield 150, 3) := by decide +kernel
theorem dX9_writeRow_41 : decode cX9_writeRow 41 = .ok (.aload_n 2, 1) := by decide +kernel
theorem dX9_writeRow_42 : decode cX9_writeRow 42 = .ok (.if_acmp .ne 30, 3) := by decide +kernel
theorem dX9_writeRow_45 : decode cX9_writeRow 45 = .ok (.aload_n 0, 1) := by decide +kernel
theorem dX9_writeRow_46 : decode cX9_writeRow 46 = .ok (.aload_n 2, 1) := by decide +kernel
theorem dX9_writeRow_47 : decode cX9_writeRow 47 = .ok (.getfield 74, 3) := by decide +kernel
theorem dX9_writeRow_50 : decode cX9_writeRow 50 = .ok (.aload 5, 2) := by decide +kernel
theorem dX9_writeRow_52 : decode cX9_writeRow 52 = .ok (.getfield 119, 3) := by decide +kernel
theorem dX9_writeRow_55 : decode cX9_writeRow 55 = .ok (.invokevirtual 177, 3) := by decide +kernel
theorem dX9_writeRow_58 : decode cX9_writeRow 58 = .ok (.aload 5, 2) := by decide +kernel
theorem dX9_writeRow_60 : decode cX9_writeRow 60 = .ok (.astore 4, 2) := by decide +kernel
theorem dX9_writeRow_62 : decode cX9_writeRow 62 = .ok (.aload 5, 2) := by decide +kernel
theorem dX9_writeRow_64 : decode cX9_writeRow 64 = .ok (.getfield 167, 3) := by decide +kernel
theorem dX9_writeRow_67 : decode cX9_writeRow 67 = .ok (.astore 5, 2) := by decide +kernel
theorem dX9_writeRow_69 : decode cX9_writeRow 69 = .ok (.goto (-38), 3) := by decide +kernel
theorem dX9_writeRow_72 : decode cX9_writeRow 72 = .ok (.aload_n 0, 1) := by decide +kernel
theorem dX9_writeRow_73 : decode cX9_writeRow 73 = .ok (.getfield 19, 3) := by decide +kernel
theorem dX9_writeRow_76 : decode cX9_writeRow 76 = .ok (.iload_n 3, 1) := by decide +kernel
theorem dX9_writeRow_77 : decode cX9_writeRow 77 = .ok (.invokevirtual 181, 3) := by decide +kernel
theorem dX9_writeRow_80 : decode cX9_writeRow 80 = .ok (.aload 4, 2) := by decide +kernel
theorem dX9_writeRow_82 : decode cX9_writeRow 82 = .ok (.areturn, 1) := by decide +kernel
theorem dX9_writeField_0 : decode cX9_writeField 0 = .ok (.aload_n 2, 1) := by decide +kernel
theorem dX9_writeField_1 : decode cX9_writeField 1 = .ok (.getfield 74, 3) := by decide +kernel
theorem dX9_writeField_4 : decode cX9_writeField 4 = .ok (.invokestatic 77, 3) := by decide +kernel
theorem dX9_writeField_7 : decode cX9_writeField 7 = .ok (.istore 4, 2) := by decide +kernel
theorem dX9_writeField_9 : decode cX9_writeField 9 = .ok (.aload_n 0, 1) := by decide +kernel
theorem dX9_writeField_10 : decode cX9_writeField 10 = .ok (.getfield 19, 3) := by decide +kernel
theorem dX9_writeField_13 : decode cX9_writeField 13 = .ok (.aload_n 2, 1) := by decide +kernel
theorem dX9_writeField_14 : decode cX9_writeField 14 = .ok (.getfield 170, 3) := by decide +kernel
theorem dX9_writeField_17 : decode cX9_writeField 17 = .ok (.iconst 3, 1) := by decide +kernel
theorem dX9_writeField_18 : decode cX9_writeField 18 = .ok (.lshl, 1) := by decide +kernel
theorem dX9_writeField_19 : decode cX9_writeField 19 = .ok (.iload 4, 2) := by decide +kernel
theorem dX9_writeField_21 : decode cX9_writeField 21 = .ok (.i2l, 1) := by decide +kernel
theorem dX9_writeField_22 : decode cX9_writeField 22 = .ok (.lor, 1) := by decide +kernel
theorem dX9_writeField_23 : decode cX9_writeField 23 = .ok (.invokevirtual 173, 3) := by decide +kernel
theorem dX9_writeField_26 : decode cX9_writeField 26 = .ok (.iload 4, 2) := by decide +kernel
theorem dX9_writeField_28 : decode cX9_writeField 28 = .ok (.iconst 2, 1) := by decide +kernel
theorem dX9_writeField_29 : decode cX9_writeField 29 = .ok (.if_icmp .eq 16, 3) := by decide +kernel
theorem dX9_writeField_32 : decode cX9_writeField 32 = .ok (.aload_n 0, 1) := by decide +kernel
theorem dX9_writeField_33 : decode cX9_writeField 33 = .ok (.aload_n 2, 1) := by decide +kernel
theorem dX9_writeField_34 : decode cX9_writeField 34 = .ok (.getfield 74, 3) := by decide +kernel
theorem dX9_writeField_37 : decode cX9_writeField 37 = .ok (.aload_n 1, 1) := by decide +kernel
theorem dX9_writeField_38 : decode cX9_writeField 38 = .ok (.getfield 119, 3) := by decide +kernel
theorem dX9_writeField_41 : decode cX9_writeField 41 = .ok (.invokevirtual 177, 3) := by decide +kernel
theorem dX9_writeField_44 : decode cX9_writeField 44 = .ok (.return_, 1) := by decide +kernel
theorem dX9_writeField_45 : decode cX9_writeField 45 = .ok (.aload_n 0, 1) := by decide +kernel
theorem dX9_writeField_46 : decode cX9_writeField 46 = .ok (.getfield 19, 3) := by decide +kernel
theorem dX9_writeField_49 : decode cX9_writeField 49 = .ok (.invokevirtual 39, 3) := by decide +kernel
theorem dX9_writeField_52 : decode cX9_writeField 52 = .ok (.istore 5, 2) := by decide +kernel
theorem dX9_writeField_54 : decode cX9_writeField 54 = .ok (.aload_n 2, 1) := by decide +kernel
theorem dX9_writeField_55 : decode cX9_writeField 55 = .ok (.getfield 74, 3) := by decide +kernel
theorem dX9_writeField_58 : decode cX9_writeField 58 = .ok (.bipush 13, 2) := by decide +kernel
theorem dX9_writeField_60 : decode cX9_writeField 60 = .ok (.if_icmp .ne 14, 3) := by decide +kernel
theorem dX9_writeField_63 : decode cX9_writeField 63 = .ok (.aload_n 0, 1) := by decide +kernel
theorem dX9_writeField_64 : decode cX9_writeField 64 = .ok (.aload_n 1, 1) := by decide +kernel
theorem dX9_writeField_65 : decode cX9_writeField 65 = .ok (.iload_n 3, 1) := by decide +kernel
theorem dX9_writeField_66 : decode cX9_writeField 66 = .ok (.iconst 1, 1) := by decide +kernel
theorem dX9_writeField_67 : decode cX9_writeField 67 = .ok (.iadd, 1) := by decide +kernel
theorem dX9_writeField_68 : decode cX9_writeField 68 = .ok (.invokevirtual 143, 3) := by decide +kernel
theorem dX9_writeField_71 : decode cX9_writeField 71 = .ok (.goto 25, 3) := by decide +kernel
theorem dX9_writeField_74 : decode cX9_writeField 74 = .ok (.aload_n 0, 1) := by decide +kernel
theorem dX9_writeField_75 : decode cX9_writeField 75 = .ok (.getfield 19, 3) := by decide +kernel
theorem dX9_writeField_78 : decode cX9_writeField 78 = .ok (.aload_n 0, 1) := by decide +kernel
theorem dX9_writeField_79 : decode cX9_writeField 79 = .ok (.getfield 15, 3) := by decide +kernel
theorem dX9_writeField_82 : decode cX9_writeField 82 = .ok (.getfield 122, 3) := by decide +kernel
theorem dX9_writeField_85 : decode cX9_writeField 85 = .ok (.aload_n 1, 1) := by decide +kernel
theorem dX9_writeField_86 : decode cX9_writeField 86 = .ok (.getfield 125, 3) := by decide +kernel
theorem dX9_writeField_89 : decode cX9_writeField 89 = .ok (.aload_n 1, 1) := by decide +kernel
theorem dX9_writeField_90 : decode cX9_writeField 90 = .ok (.getfield 132, 3) := by decide +kernel
theorem dX9_writeField_93 : decode cX9_writeField 93 = .ok (.invokevirtual 128, 3) := by decide +kernel
theorem dX9_writeField_96 : decode cX9_writeField 96 = .ok (.aload_n 0, 1) := by decide +kernel
theorem dX9_writeField_97 : decode cX9_writeField 97 = .ok (.getfield 19, 3) := by decide +kernel
theorem dX9_writeField_100 : decode cX9_writeField 100 = .ok (.iload 5, 2) := by decide +kernel
theorem dX9_writeField_102 : decode cX9_writeField 102 = .ok (.invokevirtual 181, 3) := by decide +kernel
theorem dX9_writeField_105 : decode cX9_writeField 105 = .ok (.return_, 1) := by decide +kernel
theorem dX9_writeMessage_0 : decode cX9_writeMessage 0 = .ok (.aload_n 1, 1) := by decide +kernel
theorem dX9_writeMessage_1 : decode cX9_writeMessage 1 = .ok (.getfield 147, 3) := by decide +kernel
theorem dX9_writeMessage_4 : decode cX9_writeMessage 4 = .ok (.astore_n 3, 1) := by decide +kernel
theorem dX9_writeMessage_5 : decode cX9_writeMessage 5 = .ok (.aload_n 3, 1) := by decide +kernel
theorem dX9_writeMessage_6 : decode cX9_writeMessage 6 = .ok (.ifnull 94, 3) := by decide +kernel
theorem dX9_writeMessage_9 : decode cX9_writeMessage 9 = .ok (.iload_n 2, 1) := by decide +kernel
theorem dX9_writeMessage_10 : decode cX9_writeMessage 10 = .ok (.bipush 20, 2) := by decide +kernel
theorem dX9_writeMessage_12 : decode cX9_writeMessage 12 = .ok (.if_icmp .gt 88, 3) := by decide +kernel
theorem dX9_writeMessage_15 : decode cX9_writeMessage 15 = .ok (.aload_n 3, 1) := by decide +kernel
theorem dX9_writeMessage_16 : decode cX9_writeMessage 16 = .ok (.astore 4, 2) := by decide +kernel
theorem dX9_writeMessage_18 : decode cX9_writeMessage 18 = .ok (.aload_n 3, 1) := by decide +kernel
theorem dX9_writeMessage_19 : decode cX9_writeMessage 19 = .ok (.getfield 150, 3) := by decide +kernel
theorem dX9_writeMessage_22 : decode cX9_writeMessage 22 = .ok (.ifnonnull 28, 3) := by decide +kernel
theorem dX9_writeMessage_25 : decode cX9_writeMessage 25 = .ok (.aload_n 0, 1) := by decide +kernel
theorem dX9_writeMessage_26 : decode cX9_writeMessage 26 = .ok (.getfield 19, 3) := by decide +kernel
theorem dX9_writeMessage_29 : decode cX9_writeMessage 29 = .ok (.aload_n 0, 1) := by decide +kernel
theorem dX9_writeMessage_30 : decode cX9_writeMessage 30 = .ok (.getfield 15, 3) := by decide +kernel
theorem dX9_writeMessage_33 : decode cX9_writeMessage 33 = .ok (.getfield 122, 3) := by decide +kernel
theorem dX9_writeMessage_36 : decode cX9_writeMessage 36 = .ok (.aload_n 3, 1) := by decide +kernel
theorem dX9_writeMessage_37 : decode cX9_writeMessage 37 = .ok (.getfield 125, 3) := by decide +kernel
theorem dX9_writeMessage_40 : decode cX9_writeMessage 40 = .ok (.aload_n 3, 1) := by decide +kernel
theorem dX9_writeMessage_41 : decode cX9_writeMessage 41 = .ok (.getfield 132, 3) := by decide +kernel
theorem dX9_writeMessage_44 : decode cX9_writeMessage 44 = .ok (.invokevirtual 128, 3) := by decide +kernel
theorem dX9_writeMessage_47 : decode cX9_writeMessage 47 = .ok (.goto 44, 3) := by decide +kernel
theorem dX9_writeMessage_50 : decode cX9_writeMessage 50 = .ok (.aload_n 3, 1) := by decide +kernel
theorem dX9_writeMessage_51 : decode cX9_writeMessage 51 = .ok (.getfield 150, 3) := by decide +kernel
theorem dX9_writeMessage_54 : decode cX9_writeMessage 54 = .ok (.getfield 153, 3) := by decide +kernel
theorem dX9_writeMessage_57 : decode cX9_writeMessage 57 = .ok (.ifCond .eq 17, 3) := by decide +kernel
theorem dX9_writeMessage_60 : decode cX9_writeMessage 60 = .ok (.aload_n 0, 1) := by decide +kernel
theorem dX9_writeMessage_61 : decode cX9_writeMessage 61 = .ok (.aload_n 3, 1) := by decide +kernel
theorem dX9_writeMessage_62 : decode cX9_writeMessage 62 = .ok (.aload_n 3, 1) := by decide +kernel
theorem dX9_writeMessage_63 : decode cX9_writeMessage 63 = .ok (.getfield 150, 3) := by decide +kernel
theorem dX9_writeMessage_66 : decode cX9_writeMessage 66 = .ok (.invokevirtual 156, 3) := by decide +kernel
theorem dX9_writeMessage_69 : decode cX9_writeMessage 69 = .ok (.astore 4, 2) := by decide +kernel
theorem dX9_writeMessage_71 : decode cX9_writeMessage 71 = .ok (.goto 20, 3) := by decide +kernel
theorem dX9_writeMessage_74 : decode cX9_writeMessage 74 = .ok (.aload_n 3, 1) := by decide +kernel
theorem dX9_writeMessage_75 : decode cX9_writeMessage 75 = .ok (.invokevirtual 159, 3) := by decide +kernel
theorem dX9_writeMessage_78 : decode cX9_writeMessage 78 = .ok (.ifCond .ne 13, 3) := by decide +kernel
theorem dX9_writeMessage_81 : decode cX9_writeMessage 81 = .ok (.aload_n 0, 1) := by decide +kernel
theorem dX9_writeMessage_82 : decode cX9_writeMessage 82 = .ok (.aload_n 3, 1) := by decide +kernel
theorem dX9_writeMessage_83 : decode cX9_writeMessage 83 = .ok (.aload_n 3, 1) := by decide +kernel
theorem dX9_writeMessage_84 : decode cX9_writeMessage 84 = .ok (.getfield 150, 3) := by decide +kernel
theorem dX9_writeMessage_87 : decode cX9_writeMessage 87 = .ok (.iload_n 2, 1) := by decide +kernel
theorem dX9_writeMessage_88 : decode cX9_writeMessage 88 = .ok (.invokevirtual 163, 3) := by decide +kernel
theorem dX9_writeMessage_91 : decode cX9_writeMessage 91 = .ok (.aload 4, 2) := by decide +kernel
theorem dX9_writeMessage_93 : decode cX9_writeMessage 93 = .ok (.getfield 167, 3) := by decide +kernel
theorem dX9_writeMessage_96 : decode cX9_writeMessage 96 = .ok (.astore_n 3, 1) := by decide +kernel
theorem dX9_writeMessage_97 : decode cX9_writeMessage 97 = .ok (.goto (-92), 3) := by decide +kernel
theorem dX9_writeMessage_100 : decode cX9_writeMessage 100 = .ok (.return_, 1) := by decide +kernel
theorem dX9_write_0 : decode cX9_write 0 = .ok (.aload_n 0, 1) := by decide +kernel
theorem dX9_write_1 : decode cX9_write 1 = .ok (.aload_n 0, 1) := by decide +kernel
theorem dX9_write_2 : decode cX9_write 2 = .ok (.getfield 15, 3) := by decide +kernel
theorem dX9_write_5 : decode cX9_write 5 = .ok (.getfield 29, 3) := by decide +kernel
theorem dX9_write_8 : decode cX9_write 8 = .ok (.iconst 1, 1) := by decide +kernel
theorem dX9_write_9 : decode cX9_write 9 = .ok (.invokevirtual 143, 3) := by decide +kernel
theorem dX9_write_12 : decode cX9_write 12 = .ok (.return_, 1) := by decide +kernel
theorem dX11_encode_0 : decode cX11_encode 0 = .ok (.aload_n 0, 1) := by decide +kernel
theorem dX11_encode_1 : decode cX11_encode 1 = .ok (.getfield 18, 3) := by decide +kernel
theorem dX11_encode_4 : decode cX11_encode 4 = .ok (.invokevirtual 99, 3) := by decide +kernel
theorem dX11_encode_7 : decode cX11_encode 7 = .ok (.aload_n 0, 1) := by decide +kernel
theorem dX11_encode_8 : decode cX11_encode 8 = .ok (.getfield 34, 3) := by decide +kernel
theorem dX11_encode_11 : decode cX11_encode 11 = .ok (.invokevirtual 175, 3) := by decide +kernel
theorem dX11_encode_14 : decode cX11_encode 14 = .ok (.ifCond .ne 13, 3) := by decide +kernel
theorem dX11_encode_17 : decode cX11_encode 17 = .ok (.new 78, 3) := by decide +kernel
theorem dX11_encode_20 : decode cX11_encode 20 = .ok (.dup, 1) := by decide +kernel
theorem dX11_encode_21 : decode cX11_encode 21 = .ok (.ldc 179, 2) := by decide +kernel
theorem dX11_encode_23 : decode cX11_encode 23 = .ok (.invokespecial 82, 3) := by decide +kernel
theorem dX11_encode_26 : decode cX11_encode 26 = .ok (.athrow, 1) := by decide +kernel
theorem dX11_encode_27 : decode cX11_encode 27 = .ok (.aload_n 0, 1) := by decide +kernel
theorem dX11_encode_28 : decode cX11_encode 28 = .ok (.getfield 43, 3) := by decide +kernel
theorem dX11_encode_31 : decode cX11_encode 31 = .ok (.invokevirtual 181, 3) := by decide +kernel
theorem dX11_encode_34 : decode cX11_encode 34 = .ok (.aload_n 0, 1) := by decide +kernel
theorem dX11_encode_35 : decode cX11_encode 35 = .ok (.getfield 18, 3) := by decide +kernel
theorem dX11_encode_38 : decode cX11_encode 38 = .ok (.invokevirtual 74, 3) := by decide +kernel
theorem dX11_encode_41 : decode cX11_encode 41 = .ok (.ireturn, 1) := by decide +kernel
theorem dX11_feed_0 : decode cX11_feed 0 = .ok (.iload_n 3, 1) := by decide +kernel
theorem dX11_feed_1 : decode cX11_feed 1 = .ok (.iconst 1, 1) := by decide +kernel
theorem dX11_feed_2 : decode cX11_feed 2 = .ok (.if_icmp .lt 9, 3) := by decide +kernel
theorem dX11_feed_5 : decode cX11_feed 5 = .ok (.iload_n 3, 1) := by decide +kernel
theorem dX11_feed_6 : decode cX11_feed 6 = .ok (.bipush 8, 2) := by decide +kernel
theorem dX11_feed_8 : decode cX11_feed 8 = .ok (.if_icmp .le 13, 3) := by decide +kernel
theorem dX11_feed_11 : decode cX11_feed 11 = .ok (.new 67, 3) := by decide +kernel
theorem dX11_feed_14 : decode cX11_feed 14 = .ok (.dup, 1) := by decide +kernel
theorem dX11_feed_15 : decode cX11_feed 15 = .ok (.ldc 69, 2) := by decide +kernel
theorem dX11_feed_17 : decode cX11_feed 17 = .ok (.invokespecial 71, 3) := by decide +kernel
theorem dX11_feed_20 : decode cX11_feed 20 = .ok (.athrow, 1) := by decide +kernel
theorem dX11_feed_21 : decode cX11_feed 21 = .ok (.aload_n 0, 1) := by decide +kernel
theorem dX11_feed_22 : decode cX11_feed 22 = .ok (.getfield 14, 3) := by decide +kernel
theorem dX11_feed_25 : decode cX11_feed 25 = .ok (.invokevirtual 74, 3) := by decide +kernel
theorem dX11_feed_28 : decode cX11_feed 28 = .ok (.iload_n 3, 1) := by decide +kernel
theorem dX11_feed_29 : decode cX11_feed 29 = .ok (.iadd, 1) := by decide +kernel
theorem dX11_feed_30 : decode cX11_feed 30 = .ok (.sipush 700, 3) := by decide +kernel
theorem dX11_feed_33 : decode cX11_feed 33 = .ok (.if_icmp .le 13, 3) := by decide +kernel
theorem dX11_feed_36 : decode cX11_feed 36 = .ok (.new 78, 3) := by decide +kernel
theorem dX11_feed_39 : decode cX11_feed 39 = .ok (.dup, 1) := by decide +kernel
theorem dX11_feed_40 : decode cX11_feed 40 = .ok (.ldc 80, 2) := by decide +kernel
theorem dX11_feed_42 : decode cX11_feed 42 = .ok (.invokespecial 82, 3) := by decide +kernel
theorem dX11_feed_45 : decode cX11_feed 45 = .ok (.athrow, 1) := by decide +kernel
theorem dX11_feed_46 : decode cX11_feed 46 = .ok (.iload_n 3, 1) := by decide +kernel
theorem dX11_feed_47 : decode cX11_feed 47 = .ok (.iconst 1, 1) := by decide +kernel
theorem dX11_feed_48 : decode cX11_feed 48 = .ok (.isub, 1) := by decide +kernel
theorem dX11_feed_49 : decode cX11_feed 49 = .ok (.istore 4, 2) := by decide +kernel
theorem dX11_feed_51 : decode cX11_feed 51 = .ok (.iload 4, 2) := by decide +kernel
theorem dX11_feed_53 : decode cX11_feed 53 = .ok (.ifCond .lt 24, 3) := by decide +kernel
theorem dX11_feed_56 : decode cX11_feed 56 = .ok (.aload_n 0, 1) := by decide +kernel
theorem dX11_feed_57 : decode cX11_feed 57 = .ok (.getfield 14, 3) := by decide +kernel
theorem dX11_feed_60 : decode cX11_feed 60 = .ok (.lload_n 1, 1) := by decide +kernel
theorem dX11_feed_61 : decode cX11_feed 61 = .ok (.bipush 8, 2) := by decide +kernel
theorem dX11_feed_63 : decode cX11_feed 63 = .ok (.iload 4, 2) := by decide +kernel
theorem dX11_feed_65 : decode cX11_feed 65 = .ok (.imul, 1) := by decide +kernel
theorem dX11_feed_66 : decode cX11_feed 66 = .ok (.lushr, 1) := by decide +kernel
theorem dX11_feed_67 : decode cX11_feed 67 = .ok (.l2i, 1) := by decide +kernel
theorem dX11_feed_68 : decode cX11_feed 68 = .ok (.invokevirtual 83, 3) := by decide +kernel
theorem dX11_feed_71 : decode cX11_feed 71 = .ok (.iinc 4 (-1), 3) := by decide +kernel
theorem dX11_feed_74 : decode cX11_feed 74 = .ok (.goto (-23), 3) := by decide +kernel
theorem dX11_feed_77 : decode cX11_feed 77 = .ok (.aload_n 0, 1) := by decide +kernel
theorem dX11_feed_78 : decode cX11_feed 78 = .ok (.getfield 14, 3) := by decide +kernel
theorem dX11_feed_81 : decode cX11_feed 81 = .ok (.invokevirtual 74, 3) := by decide +kernel
theorem dX11_feed_84 : decode cX11_feed 84 = .ok (.ireturn, 1) := by decide +kernel
theorem dX3_memberAt_0 : decode cX3_memberAt 0 = .ok (.iload_n 1, 1) := by decide +kernel
theorem dX3_memberAt_1 : decode cX3_memberAt 1 = .ok (.ifCond .ge 7, 3) := by decide +kernel
theorem dX3_memberAt_4 : decode cX3_memberAt 4 = .ok (.aconst_null, 1) := by decide +kernel
theorem dX3_memberAt_5 : decode cX3_memberAt 5 = .ok (.goto 7, 3) := by decide +kernel
theorem dX3_memberAt_8 : decode cX3_memberAt 8 = .ok (.aload_n 0, 1) := by decide +kernel
theorem dX3_memberAt_9 : decode cX3_memberAt 9 = .ok (.getfield 60, 3) := by decide +kernel
theorem dX3_memberAt_12 : decode cX3_memberAt 12 = .ok (.astore_n 2, 1) := by decide +kernel
theorem dX3_memberAt_13 : decode cX3_memberAt 13 = .ok (.iconst 0, 1) := by decide +kernel
theorem dX3_memberAt_14 : decode cX3_memberAt 14 = .ok (.istore_n 3, 1) := by decide +kernel
theorem dX3_memberAt_15 : decode cX3_memberAt 15 = .ok (.iload_n 3, 1) := by decide +kernel
theorem dX3_memberAt_16 : decode cX3_memberAt 16 = .ok (.iload_n 1, 1) := by decide +kernel
theorem dX3_memberAt_17 : decode cX3_memberAt 17 = .ok (.if_icmp .ge 18, 3) := by decide +kernel
theorem dX3_memberAt_20 : decode cX3_memberAt 20 = .ok (.aload_n 2, 1) := by decide +kernel
theorem dX3_memberAt_21 : decode cX3_memberAt 21 = .ok (.ifnull 14, 3) := by decide +kernel
theorem dX3_memberAt_24 : decode cX3_memberAt 24 = .ok (.aload_n 2, 1) := by decide +kernel
theorem dX3_memberAt_25 : decode cX3_memberAt 25 = .ok (.getfield 63, 3) := by decide +kernel
theorem dX3_memberAt_28 : decode cX3_memberAt 28 = .ok (.astore_n 2, 1) := by decide +kernel
theorem dX3_memberAt_29 : decode cX3_memberAt 29 = .ok (.iinc 3 1, 3) := by decide +kernel
theorem dX3_memberAt_32 : decode cX3_memberAt 32 = .ok (.goto (-17), 3) := by decide +kernel
theorem dX3_memberAt_35 : decode cX3_memberAt 35 = .ok (.aload_n 2, 1) := by decide +kernel
theorem dX3_memberAt_36 : decode cX3_memberAt 36 = .ok (.areturn, 1) := by decide +kernel
theorem dX11_field_0 : decode cX11_field 0 = .ok (.aload_n 0, 1) := by decide +kernel
theorem dX11_field_1 : decode cX11_field 1 = .ok (.iload_n 1, 1) := by decide +kernel
theorem dX11_field_2 : decode cX11_field 2 = .ok (.iload_n 2, 1) := by decide +kernel
theorem dX11_field_3 : decode cX11_field 3 = .ok (.invokevirtual 119, 3) := by decide +kernel
theorem dX11_field_6 : decode cX11_field 6 = .ok (.astore 5, 2) := by decide +kernel
theorem dX11_field_8 : decode cX11_field 8 = .ok (.aload 5, 2) := by decide +kernel
theorem dX11_field_10 : decode cX11_field 10 = .ok (.ifnonnull 7, 3) := by decide +kernel
theorem dX11_field_13 : decode cX11_field 13 = .ok (.aconst_null, 1) := by decide +kernel
theorem dX11_field_14 : decode cX11_field 14 = .ok (.goto 9, 3) := by decide +kernel
theorem dX11_field_17 : decode cX11_field 17 = .ok (.aload 5, 2) := by decide +kernel
theorem dX11_field_19 : decode cX11_field 19 = .ok (.iload_n 3, 1) := by decide +kernel
theorem dX11_field_20 : decode cX11_field 20 = .ok (.invokevirtual 123, 3) := by decide +kernel
theorem dX11_field_23 : decode cX11_field 23 = .ok (.astore 6, 2) := by decide +kernel
theorem dX11_field_25 : decode cX11_field 25 = .ok (.aload 6, 2) := by decide +kernel
theorem dX11_field_27 : decode cX11_field 27 = .ok (.ifnull 14, 3) := by decide +kernel
theorem dX11_field_30 : decode cX11_field 30 = .ok (.iload 4, 2) := by decide +kernel
theorem dX11_field_32 : decode cX11_field 32 = .ok (.ifCond .lt 9, 3) := by decide +kernel
theorem dX11_field_35 : decode cX11_field 35 = .ok (.iload 4, 2) := by decide +kernel
theorem dX11_field_37 : decode cX11_field 37 = .ok (.iconst 5, 1) := by decide +kernel
theorem dX11_field_38 : decode cX11_field 38 = .ok (.if_icmp .le 13, 3) := by decide +kernel
theorem dX11_field_41 : decode cX11_field 41 = .ok (.new 67, 3) := by decide +kernel
theorem dX11_field_44 : decode cX11_field 44 = .ok (.dup, 1) := by decide +kernel
theorem dX11_field_45 : decode cX11_field 45 = .ok (.ldc 127, 2) := by decide +kernel
theorem dX11_field_47 : decode cX11_field 47 = .ok (.invokespecial 71, 3) := by decide +kernel
theorem dX11_field_50 : decode cX11_field 50 = .ok (.athrow, 1) := by decide +kernel
theorem dX11_field_51 : decode cX11_field 51 = .ok (.iload 4, 2) := by decide +kernel
theorem dX11_field_53 : decode cX11_field 53 = .ok (.tableswitch 116 0 4 #[35, 42, 48, 69, 95], 35) := by decide +kernel
theorem dX11_field_88 : decode cX11_field 88 = .ok (.aload 6, 2) := by decide +kernel
theorem dX11_field_90 : decode cX11_field 90 = .ok (.getfield 129, 3) := by decide +kernel
theorem dX11_field_93 : decode cX11_field 93 = .ok (.l2i, 1) := by decide +kernel
theorem dX11_field_94 : decode cX11_field 94 = .ok (.ireturn, 1) := by decide +kernel
theorem dX11_field_95 : decode cX11_field 95 = .ok (.aload 6, 2) := by decide +kernel
theorem dX11_field_97 : decode cX11_field 97 = .ok (.getfield 133, 3) := by decide +kernel
theorem dX11_field_100 : decode cX11_field 100 = .ok (.ireturn, 1) := by decide +kernel
theorem dX11_field_101 : decode cX11_field 101 = .ok (.aload 6, 2) := by decide +kernel
theorem dX11_field_103 : decode cX11_field 103 = .ok (.getfield 136, 3) := by decide +kernel
theorem dX11_field_106 : decode cX11_field 106 = .ok (.ifnonnull 7, 3) := by decide +kernel
theorem dX11_field_109 : decode cX11_field 109 = .ok (.iconst (-1), 1) := by decide +kernel
theorem dX11_field_110 : decode cX11_field 110 = .ok (.goto 11, 3) := by decide +kernel
theorem dX11_field_113 : decode cX11_field 113 = .ok (.aload 6, 2) := by decide +kernel
theorem dX11_field_115 : decode cX11_field 115 = .ok (.getfield 136, 3) := by decide +kernel
theorem dX11_field_118 : decode cX11_field 118 = .ok (.getfield 140, 3) := by decide +kernel
theorem dX11_field_121 : decode cX11_field 121 = .ok (.ireturn, 1) := by decide +kernel
theorem dX11_field_122 : decode cX11_field 122 = .ok (.aload 6, 2) := by decide +kernel
theorem dX11_field_124 : decode cX11_field 124 = .ok (.getfield 143, 3) := by decide +kernel
theorem dX11_field_127 : decode cX11_field 127 = .ok (.ifCond .eq 7, 3) := by decide +kernel
theorem dX11_field_130 : decode cX11_field 130 = .ok (.iconst 2, 1) := by decide +kernel
theorem dX11_field_131 : decode cX11_field 131 = .ok (.goto 16, 3) := by decide +kernel
theorem dX11_field_134 : decode cX11_field 134 = .ok (.aload 6, 2) := by decide +kernel
theorem dX11_field_136 : decode cX11_field 136 = .ok (.getfield 147, 3) := by decide +kernel
theorem dX11_field_139 : decode cX11_field 139 = .ok (.ifCond .eq 7, 3) := by decide +kernel
theorem dX11_field_142 : decode cX11_field 142 = .ok (.iconst 1, 1) := by decide +kernel
theorem dX11_field_143 : decode cX11_field 143 = .ok (.goto 4, 3) := by decide +kernel
theorem dX11_field_146 : decode cX11_field 146 = .ok (.iconst 0, 1) := by decide +kernel
theorem dX11_field_147 : decode cX11_field 147 = .ok (.ireturn, 1) := by decide +kernel
theorem dX11_field_148 : decode cX11_field 148 = .ok (.aload 6, 2) := by decide +kernel
theorem dX11_field_150 : decode cX11_field 150 = .ok (.getfield 150, 3) := by decide +kernel
theorem dX11_field_153 : decode cX11_field 153 = .ok (.ifnonnull 7, 3) := by decide +kernel
theorem dX11_field_156 : decode cX11_field 156 = .ok (.iconst (-1), 1) := by decide +kernel
theorem dX11_field_157 : decode cX11_field 157 = .ok (.goto 11, 3) := by decide +kernel
theorem dX11_field_160 : decode cX11_field 160 = .ok (.aload 6, 2) := by decide +kernel
theorem dX11_field_162 : decode cX11_field 162 = .ok (.getfield 150, 3) := by decide +kernel
theorem dX11_field_165 : decode cX11_field 165 = .ok (.getfield 140, 3) := by decide +kernel
theorem dX11_field_168 : decode cX11_field 168 = .ok (.ireturn, 1) := by decide +kernel
theorem dX11_field_169 : decode cX11_field 169 = .ok (.aload 6, 2) := by decide +kernel
theorem dX11_field_171 : decode cX11_field 171 = .ok (.getfield 153, 3) := by decide +kernel
theorem dX11_field_174 : decode cX11_field 174 = .ok (.aload 6, 2) := by decide +kernel
theorem dX11_field_176 : decode cX11_field 176 = .ok (.getfield 156, 3) := by decide +kernel
theorem dX11_field_179 : decode cX11_field 179 = .ok (.isub, 1) := by decide +kernel
theorem dX11_field_180 : decode cX11_field 180 = .ok (.ireturn, 1) := by decide +kernel
theorem dX6_isFullName_0 : decode cX6_isFullName 0 = .ok (.aload_n 2, 1) := by decide +kernel
theorem dX6_isFullName_1 : decode cX6_isFullName 1 = .ok (.invokevirtual 91, 3) := by decide +kernel
theorem dX6_isFullName_4 : decode cX6_isFullName 4 = .ok (.istore_n 3, 1) := by decide +kernel
theorem dX6_isFullName_5 : decode cX6_isFullName 5 = .ok (.aload_n 1, 1) := by decide +kernel
theorem dX6_isFullName_6 : decode cX6_isFullName 6 = .ok (.astore 4, 2) := by decide +kernel
theorem dX6_isFullName_8 : decode cX6_isFullName 8 = .ok (.aload 4, 2) := by decide +kernel
theorem dX6_isFullName_10 : decode cX6_isFullName 10 = .ok (.ifnull 94, 3) := by decide +kernel
theorem dX6_isFullName_13 : decode cX6_isFullName 13 = .ok (.iload_n 3, 1) := by decide +kernel
theorem dX6_isFullName_14 : decode cX6_isFullName 14 = .ok (.aload 4, 2) := by decide +kernel
theorem dX6_isFullName_16 : decode cX6_isFullName 16 = .ok (.getfield 55, 3) := by decide +kernel
theorem dX6_isFullName_19 : decode cX6_isFullName 19 = .ok (.aload 4, 2) := by decide +kernel
theorem dX6_isFullName_21 : decode cX6_isFullName 21 = .ok (.getfield 58, 3) := by decide +kernel
theorem dX6_isFullName_24 : decode cX6_isFullName 24 = .ok (.isub, 1) := by decide +kernel
theorem dX6_isFullName_25 : decode cX6_isFullName 25 = .ok (.isub, 1) := by decide +kernel
theorem dX6_isFullName_26 : decode cX6_isFullName 26 = .ok (.istore 5, 2) := by decide +kernel
theorem dX6_isFullName_28 : decode cX6_isFullName 28 = .ok (.iload 5, 2) := by decide +kernel
theorem dX6_isFullName_30 : decode cX6_isFullName 30 = .ok (.ifCond .lt 26, 3) := by decide +kernel
theorem dX6_isFullName_33 : decode cX6_isFullName 33 = .ok (.aload_n 2, 1) := by decide +kernel
theorem dX6_isFullName_34 : decode cX6_isFullName 34 = .ok (.iload 5, 2) := by decide +kernel
theorem dX6_isFullName_36 : decode cX6_isFullName 36 = .ok (.aload_n 0, 1) := by decide +kernel
theorem dX6_isFullName_37 : decode cX6_isFullName 37 = .ok (.getfield 14, 3) := by decide +kernel
theorem dX6_isFullName_40 : decode cX6_isFullName 40 = .ok (.aload 4, 2) := by decide +kernel
theorem dX6_isFullName_42 : decode cX6_isFullName 42 = .ok (.getfield 58, 3) := by decide +kernel
theorem dX6_isFullName_45 : decode cX6_isFullName 45 = .ok (.aload 4, 2) := by decide +kernel
theorem dX6_isFullName_47 : decode cX6_isFullName 47 = .ok (.getfield 55, 3) := by decide +kernel
theorem dX6_isFullName_50 : decode cX6_isFullName 50 = .ok (.invokevirtual 61, 3) := by decide +kernel
theorem dX6_isFullName_53 : decode cX6_isFullName 53 = .ok (.ifCond .ne 5, 3) := by decide +kernel
theorem dX6_isFullName_56 : decode cX6_isFullName 56 = .ok (.iconst 0, 1) := by decide +kernel
theorem dX6_isFullName_57 : decode cX6_isFullName 57 = .ok (.ireturn, 1) := by decide +kernel
theorem dX6_isFullName_58 : decode cX6_isFullName 58 = .ok (.aload 4, 2) := by decide +kernel
theorem dX6_isFullName_60 : decode cX6_isFullName 60 = .ok (.getfield 65, 3) := by decide +kernel
theorem dX6_isFullName_63 : decode cX6_isFullName 63 = .ok (.ifnonnull 14, 3) := by decide +kernel
theorem dX6_isFullName_66 : decode cX6_isFullName 66 = .ok (.iload 5, 2) := by decide +kernel
theorem dX6_isFullName_68 : decode cX6_isFullName 68 = .ok (.ifCond .ne 7, 3) := by decide +kernel
theorem dX6_isFullName_71 : decode cX6_isFullName 71 = .ok (.iconst 1, 1) := by decide +kernel
theorem dX6_isFullName_72 : decode cX6_isFullName 72 = .ok (.goto 4, 3) := by decide +kernel
theorem dX6_isFullName_75 : decode cX6_isFullName 75 = .ok (.iconst 0, 1) := by decide +kernel
theorem dX6_isFullName_76 : decode cX6_isFullName 76 = .ok (.ireturn, 1) := by decide +kernel
theorem dX6_isFullName_77 : decode cX6_isFullName 77 = .ok (.iload 5, 2) := by decide +kernel
theorem dX6_isFullName_79 : decode cX6_isFullName 79 = .ok (.iconst 1, 1) := by decide +kernel
theorem dX6_isFullName_80 : decode cX6_isFullName 80 = .ok (.isub, 1) := by decide +kernel
theorem dX6_isFullName_81 : decode cX6_isFullName 81 = .ok (.istore_n 3, 1) := by decide +kernel
theorem dX6_isFullName_82 : decode cX6_isFullName 82 = .ok (.aload_n 2, 1) := by decide +kernel
theorem dX6_isFullName_83 : decode cX6_isFullName 83 = .ok (.iload_n 3, 1) := by decide +kernel
theorem dX6_isFullName_84 : decode cX6_isFullName 84 = .ok (.invokevirtual 95, 3) := by decide +kernel
theorem dX6_isFullName_87 : decode cX6_isFullName 87 = .ok (.bipush 46, 2) := by decide +kernel
theorem dX6_isFullName_89 : decode cX6_isFullName 89 = .ok (.if_icmp .eq 5, 3) := by decide +kernel
theorem dX6_isFullName_92 : decode cX6_isFullName 92 = .ok (.iconst 0, 1) := by decide +kernel
theorem dX6_isFullName_93 : decode cX6_isFullName 93 = .ok (.ireturn, 1) := by decide +kernel
theorem dX6_isFullName_94 : decode cX6_isFullName 94 = .ok (.aload 4, 2) := by decide +kernel
theorem dX6_isFullName_96 : decode cX6_isFullName 96 = .ok (.getfield 65, 3) := by decide +kernel
theorem dX6_isFullName_99 : decode cX6_isFullName 99 = .ok (.astore 4, 2) := by decide +kernel
theorem dX6_isFullName_101 : decode cX6_isFullName 101 = .ok (.goto (-93), 3) := by decide +kernel
theorem dX6_isFullName_104 : decode cX6_isFullName 104 = .ok (.iconst 0, 1) := by decide +kernel
theorem dX6_isFullName_105 : decode cX6_isFullName 105 = .ok (.ireturn, 1) := by decide +kernel
theorem dX6_numberOf_0 : decode cX6_numberOf 0 = .ok (.iconst 0, 1) := by decide +kernel
theorem dX6_numberOf_1 : decode cX6_numberOf 1 = .ok (.istore_n 2, 1) := by decide +kernel
theorem dX6_numberOf_2 : decode cX6_numberOf 2 = .ok (.iload_n 2, 1) := by decide +kernel
theorem dX6_numberOf_3 : decode cX6_numberOf 3 = .ok (.aload_n 0, 1) := by decide +kernel
theorem dX6_numberOf_4 : decode cX6_numberOf 4 = .ok (.getfield 34, 3) := by decide +kernel
theorem dX6_numberOf_7 : decode cX6_numberOf 7 = .ok (.if_icmp .ge 60, 3) := by decide +kernel
theorem dX6_numberOf_10 : decode cX6_numberOf 10 = .ok (.aload_n 0, 1) := by decide +kernel
theorem dX6_numberOf_11 : decode cX6_numberOf 11 = .ok (.iload_n 2, 1) := by decide +kernel
theorem dX6_numberOf_12 : decode cX6_numberOf 12 = .ok (.invokevirtual 45, 3) := by decide +kernel
theorem dX6_numberOf_15 : decode cX6_numberOf 15 = .ok (.astore_n 3, 1) := by decide +kernel
theorem dX6_numberOf_16 : decode cX6_numberOf 16 = .ok (.aload_n 3, 1) := by decide +kernel
theorem dX6_numberOf_17 : decode cX6_numberOf 17 = .ok (.ifnull 44, 3) := by decide +kernel
theorem dX6_numberOf_20 : decode cX6_numberOf 20 = .ok (.aload_n 3, 1) := by decide +kernel
theorem dX6_numberOf_21 : decode cX6_numberOf 21 = .ok (.invokevirtual 69, 3) := by decide +kernel
theorem dX6_numberOf_24 : decode cX6_numberOf 24 = .ok (.ifCond .eq 37, 3) := by decide +kernel
theorem dX6_numberOf_27 : decode cX6_numberOf 27 = .ok (.aload_n 0, 1) := by decide +kernel
theorem dX6_numberOf_28 : decode cX6_numberOf 28 = .ok (.aload_n 3, 1) := by decide +kernel
theorem dX6_numberOf_29 : decode cX6_numberOf 29 = .ok (.aload_n 1, 1) := by decide +kernel
theorem dX6_numberOf_30 : decode cX6_numberOf 30 = .ok (.invokevirtual 83, 3) := by decide +kernel
theorem dX6_numberOf_33 : decode cX6_numberOf 33 = .ok (.ifCond .eq 28, 3) := by decide +kernel
theorem dX6_numberOf_36 : decode cX6_numberOf 36 = .ok (.aload_n 3, 1) := by decide +kernel
theorem dX6_numberOf_37 : decode cX6_numberOf 37 = .ok (.getfield 49, 3) := by decide +kernel
theorem dX6_numberOf_40 : decode cX6_numberOf 40 = .ok (.ifCond .ne 10, 3) := by decide +kernel
theorem dX6_numberOf_43 : decode cX6_numberOf 43 = .ok (.aload_n 3, 1) := by decide +kernel
theorem dX6_numberOf_44 : decode cX6_numberOf 44 = .ok (.getfield 52, 3) := by decide +kernel
theorem dX6_numberOf_47 : decode cX6_numberOf 47 = .ok (.goto 13, 3) := by decide +kernel
theorem dX6_numberOf_50 : decode cX6_numberOf 50 = .ok (.aload_n 0, 1) := by decide +kernel
theorem dX6_numberOf_51 : decode cX6_numberOf 51 = .ok (.iconst 0, 1) := by decide +kernel
theorem dX6_numberOf_52 : decode cX6_numberOf 52 = .ok (.invokevirtual 87, 3) := by decide +kernel
theorem dX6_numberOf_55 : decode cX6_numberOf 55 = .ok (.aload_n 3, 1) := by decide +kernel
theorem dX6_numberOf_56 : decode cX6_numberOf 56 = .ok (.getfield 52, 3) := by decide +kernel
theorem dX6_numberOf_59 : decode cX6_numberOf 59 = .ok (.iadd, 1) := by decide +kernel
theorem dX6_numberOf_60 : decode cX6_numberOf 60 = .ok (.ireturn, 1) := by decide +kernel
theorem dX6_numberOf_61 : decode cX6_numberOf 61 = .ok (.iinc 2 1, 3) := by decide +kernel
theorem dX6_numberOf_64 : decode cX6_numberOf 64 = .ok (.goto (-62), 3) := by decide +kernel
theorem dX6_numberOf_67 : decode cX6_numberOf 67 = .ok (.iconst (-1), 1) := by decide +kernel
theorem dX6_numberOf_68 : decode cX6_numberOf 68 = .ok (.ireturn, 1) := by decide +kernel
theorem dX11_find_0 : decode cX11_find 0 = .ok (.aload_n 0, 1) := by decide +kernel
theorem dX11_find_1 : decode cX11_find 1 = .ok (.iload_n 1, 1) := by decide +kernel
theorem dX11_find_2 : decode cX11_find 2 = .ok (.invokevirtual 86, 3) := by decide +kernel
theorem dX11_find_5 : decode cX11_find 5 = .ok (.astore_n 2, 1) := by decide +kernel
theorem dX11_find_6 : decode cX11_find 6 = .ok (.aload_n 2, 1) := by decide +kernel
theorem dX11_find_7 : decode cX11_find 7 = .ok (.ifnonnull 7, 3) := by decide +kernel
theorem dX11_find_10 : decode cX11_find 10 = .ok (.iconst (-1), 1) := by decide +kernel
theorem dX11_find_11 : decode cX11_find 11 = .ok (.goto 14, 3) := by decide +kernel
theorem dX11_find_14 : decode cX11_find 14 = .ok (.aload_n 2, 1) := by decide +kernel
theorem dX11_find_15 : decode cX11_find 15 = .ok (.invokevirtual 109, 3) := by decide +kernel
theorem dX11_find_18 : decode cX11_find 18 = .ok (.aload_n 0, 1) := by decide +kernel
theorem dX11_find_19 : decode cX11_find 19 = .ok (.getfield 14, 3) := by decide +kernel
theorem dX11_find_22 : decode cX11_find 22 = .ok (.invokevirtual 159, 3) := by decide +kernel
theorem dX11_find_25 : decode cX11_find 25 = .ok (.istore_n 3, 1) := by decide +kernel
theorem dX11_find_26 : decode cX11_find 26 = .ok (.aload_n 0, 1) := by decide +kernel
theorem dX11_find_27 : decode cX11_find 27 = .ok (.getfield 14, 3) := by decide +kernel
theorem dX11_find_30 : decode cX11_find 30 = .ok (.invokevirtual 99, 3) := by decide +kernel
theorem dX11_find_33 : decode cX11_find 33 = .ok (.aload_n 2, 1) := by decide +kernel
theorem dX11_find_34 : decode cX11_find 34 = .ok (.ifnonnull 13, 3) := by decide +kernel
theorem dX11_find_37 : decode cX11_find 37 = .ok (.new 67, 3) := by decide +kernel
theorem dX11_find_40 : decode cX11_find 40 = .ok (.dup, 1) := by decide +kernel
theorem dX11_find_41 : decode cX11_find 41 = .ok (.ldc 90, 2) := by decide +kernel
theorem dX11_find_43 : decode cX11_find 43 = .ok (.invokespecial 71, 3) := by decide +kernel
theorem dX11_find_46 : decode cX11_find 46 = .ok (.athrow, 1) := by decide +kernel
theorem dX11_find_47 : decode cX11_find 47 = .ok (.iload_n 3, 1) := by decide +kernel
theorem dX11_find_48 : decode cX11_find 48 = .ok (.ireturn, 1) := by decide +kernel
theorem dX11_many_0 : decode cX11_many 0 = .ok (.aload_n 0, 1) := by decide +kernel
theorem dX11_many_1 : decode cX11_many 1 = .ok (.iload_n 1, 1) := by decide +kernel
theorem dX11_many_2 : decode cX11_many 2 = .ok (.invokevirtual 86, 3) := by decide +kernel
theorem dX11_many_5 : decode cX11_many 5 = .ok (.astore_n 3, 1) := by decide +kernel
theorem dX11_many_6 : decode cX11_many 6 = .ok (.aload_n 3, 1) := by decide +kernel
theorem dX11_many_7 : decode cX11_many 7 = .ok (.ifnull 12, 3) := by decide +kernel
theorem dX11_many_10 : decode cX11_many 10 = .ok (.iload_n 2, 1) := by decide +kernel
theorem dX11_many_11 : decode cX11_many 11 = .ok (.ifCond .lt 8, 3) := by decide +kernel
theorem dX11_many_14 : decode cX11_many 14 = .ok (.iload_n 2, 1) := by decide +kernel
theorem dX11_many_15 : decode cX11_many 15 = .ok (.iconst 2, 1) := by decide +kernel
theorem dX11_many_16 : decode cX11_many 16 = .ok (.if_icmp .le 13, 3) := by decide +kernel
theorem dX11_many_19 : decode cX11_many 19 = .ok (.new 67, 3) := by decide +kernel
theorem dX11_many_22 : decode cX11_many 22 = .ok (.dup, 1) := by decide +kernel
theorem dX11_many_23 : decode cX11_many 23 = .ok (.ldc 105, 2) := by decide +kernel
theorem dX11_many_25 : decode cX11_many 25 = .ok (.invokespecial 71, 3) := by decide +kernel
theorem dX11_many_28 : decode cX11_many 28 = .ok (.athrow, 1) := by decide +kernel
theorem dX11_many_29 : decode cX11_many 29 = .ok (.iload_n 2, 1) := by decide +kernel
theorem dX11_many_30 : decode cX11_many 30 = .ok (.ifCond .ne 7, 3) := by decide +kernel
theorem dX11_many_33 : decode cX11_many 33 = .ok (.iconst 0, 1) := by decide +kernel
theorem dX11_many_34 : decode cX11_many 34 = .ok (.goto 13, 3) := by decide +kernel
theorem dX11_many_37 : decode cX11_many 37 = .ok (.iload_n 2, 1) := by decide +kernel
theorem dX11_many_38 : decode cX11_many 38 = .ok (.iconst 1, 1) := by decide +kernel
theorem dX11_many_39 : decode cX11_many 39 = .ok (.if_icmp .ne 7, 3) := by decide +kernel
theorem dX11_many_42 : decode cX11_many 42 = .ok (.iconst 1, 1) := by decide +kernel
theorem dX11_many_43 : decode cX11_many 43 = .ok (.goto 4, 3) := by decide +kernel
theorem dX11_many_46 : decode cX11_many 46 = .ok (.iconst 2, 1) := by decide +kernel
theorem dX11_many_47 : decode cX11_many 47 = .ok (.istore 4, 2) := by decide +kernel
theorem dX11_many_49 : decode cX11_many 49 = .ok (.aload_n 3, 1) := by decide +kernel
theorem dX11_many_50 : decode cX11_many 50 = .ok (.invokevirtual 109, 3) := by decide +kernel
theorem dX11_many_53 : decode cX11_many 53 = .ok (.iload 4, 2) := by decide +kernel
theorem dX11_many_55 : decode cX11_many 55 = .ok (.invokevirtual 113, 3) := by decide +kernel
theorem dX11_many_58 : decode cX11_many 58 = .ok (.ireturn, 1) := by decide +kernel
theorem dX11_out_0 : decode cX11_out 0 = .ok (.iload_n 1, 1) := by decide +kernel
theorem dX11_out_1 : decode cX11_out 1 = .ok (.ifCond .lt 14, 3) := by decide +kernel
theorem dX11_out_4 : decode cX11_out 4 = .ok (.iload_n 1, 1) := by decide +kernel
theorem dX11_out_5 : decode cX11_out 5 = .ok (.aload_n 0, 1) := by decide +kernel
theorem dX11_out_6 : decode cX11_out 6 = .ok (.getfield 18, 3) := by decide +kernel
theorem dX11_out_9 : decode cX11_out 9 = .ok (.invokevirtual 74, 3) := by decide +kernel
theorem dX11_out_12 : decode cX11_out 12 = .ok (.if_icmp .lt 13, 3) := by decide +kernel
theorem dX11_out_15 : decode cX11_out 15 = .ok (.new 202, 3) := by decide +kernel
theorem dX11_out_18 : decode cX11_out 18 = .ok (.dup, 1) := by decide +kernel
theorem dX11_out_19 : decode cX11_out 19 = .ok (.ldc 204, 2) := by decide +kernel
theorem dX11_out_21 : decode cX11_out 21 = .ok (.invokespecial 206, 3) := by decide +kernel
theorem dX11_out_24 : decode cX11_out 24 = .ok (.athrow, 1) := by decide +kernel
theorem dX11_out_25 : decode cX11_out 25 = .ok (.lconst 0, 1) := by decide +kernel
theorem dX11_out_26 : decode cX11_out 26 = .ok (.lstore_n 2, 1) := by decide +kernel
theorem dX11_out_27 : decode cX11_out 27 = .ok (.iload_n 1, 1) := by decide +kernel
theorem dX11_out_28 : decode cX11_out 28 = .ok (.istore 4, 2) := by decide +kernel
theorem dX11_out_30 : decode cX11_out 30 = .ok (.iload 4, 2) := by decide +kernel
theorem dX11_out_32 : decode cX11_out 32 = .ok (.iload_n 1, 1) := by decide +kernel
theorem dX11_out_33 : decode cX11_out 33 = .ok (.bipush 8, 2) := by decide +kernel
theorem dX11_out_35 : decode cX11_out 35 = .ok (.iadd, 1) := by decide +kernel
theorem dX11_out_36 : decode cX11_out 36 = .ok (.if_icmp .ge 29, 3) := by decide +kernel
theorem dX11_out_39 : decode cX11_out 39 = .ok (.lload_n 2, 1) := by decide +kernel
theorem dX11_out_40 : decode cX11_out 40 = .ok (.bipush 8, 2) := by decide +kernel
theorem dX11_out_42 : decode cX11_out 42 = .ok (.lshl, 1) := by decide +kernel
theorem dX11_out_43 : decode cX11_out 43 = .ok (.aload_n 0, 1) := by decide +kernel
theorem dX11_out_44 : decode cX11_out 44 = .ok (.getfield 18, 3) := by decide +kernel
theorem dX11_out_47 : decode cX11_out 47 = .ok (.iload 4, 2) := by decide +kernel
theorem dX11_out_49 : decode cX11_out 49 = .ok (.invokevirtual 207, 3) := by decide +kernel
theorem dX11_out_52 : decode cX11_out 52 = .ok (.iconst 0, 1) := by decide +kernel
theorem dX11_out_53 : decode cX11_out 53 = .ok (.invokestatic 210, 3) := by decide +kernel
theorem dX11_out_56 : decode cX11_out 56 = .ok (.i2l, 1) := by decide +kernel
theorem dX11_out_57 : decode cX11_out 57 = .ok (.lor, 1) := by decide +kernel
theorem dX11_out_58 : decode cX11_out 58 = .ok (.lstore_n 2, 1) := by decide +kernel
theorem dX11_out_59 : decode cX11_out 59 = .ok (.iinc 4 1, 3) := by decide +kernel
theorem dX11_out_62 : decode cX11_out 62 = .ok (.goto (-32), 3) := by decide +kernel
theorem dX11_out_65 : decode cX11_out 65 = .ok (.lload_n 2, 1) := by decide +kernel
theorem dX11_out_66 : decode cX11_out 66 = .ok (.lreturn, 1) := by decide +kernel
theorem dX7_skipBlanks_0 : decode cX7_skipBlanks 0 = .ok (.iconst 0, 1) := by decide +kernel
theorem dX7_skipBlanks_1 : decode cX7_skipBlanks 1 = .ok (.istore_n 1, 1) := by decide +kernel
theorem dX7_skipBlanks_2 : decode cX7_skipBlanks 2 = .ok (.aload_n 0, 1) := by decide +kernel
theorem dX7_skipBlanks_3 : decode cX7_skipBlanks 3 = .ok (.getfield 26, 3) := by decide +kernel
theorem dX7_skipBlanks_6 : decode cX7_skipBlanks 6 = .ok (.aload_n 0, 1) := by decide +kernel
theorem dX7_skipBlanks_7 : decode cX7_skipBlanks 7 = .ok (.getfield 9, 3) := by decide +kernel
theorem dX7_skipBlanks_10 : decode cX7_skipBlanks 10 = .ok (.invokevirtual 58, 3) := by decide +kernel
theorem dX7_skipBlanks_13 : decode cX7_skipBlanks 13 = .ok (.if_icmp .ge 68, 3) := by decide +kernel
theorem dX7_skipBlanks_16 : decode cX7_skipBlanks 16 = .ok (.aload_n 0, 1) := by decide +kernel
theorem dX7_skipBlanks_17 : decode cX7_skipBlanks 17 = .ok (.getfield 9, 3) := by decide +kernel
theorem dX7_skipBlanks_20 : decode cX7_skipBlanks 20 = .ok (.aload_n 0, 1) := by decide +kernel
theorem dX7_skipBlanks_21 : decode cX7_skipBlanks 21 = .ok (.getfield 26, 3) := by decide +kernel
theorem dX7_skipBlanks_24 : decode cX7_skipBlanks 24 = .ok (.invokevirtual 50, 3) := by decide +kernel
theorem dX7_skipBlanks_27 : decode cX7_skipBlanks 27 = .ok (.istore_n 2, 1) := by decide +kernel
theorem dX7_skipBlanks_28 : decode cX7_skipBlanks 28 = .ok (.iload_n 1, 1) := by decide +kernel
theorem dX7_skipBlanks_29 : decode cX7_skipBlanks 29 = .ok (.ifCond .ne 17, 3) := by decide +kernel
theorem dX7_skipBlanks_32 : decode cX7_skipBlanks 32 = .ok (.iload_n 2, 1) := by decide +kernel
theorem dX7_skipBlanks_33 : decode cX7_skipBlanks 33 = .ok (.invokestatic 62, 3) := by decide +kernel
theorem dX7_skipBlanks_36 : decode cX7_skipBlanks 36 = .ok (.ifCond .ne 10, 3) := by decide +kernel
theorem dX7_skipBlanks_39 : decode cX7_skipBlanks 39 = .ok (.iload_n 2, 1) := by decide +kernel
theorem dX7_skipBlanks_40 : decode cX7_skipBlanks 40 = .ok (.bipush 35, 2) := by decide +kernel
theorem dX7_skipBlanks_42 : decode cX7_skipBlanks 42 = .ok (.if_icmp .eq 4, 3) := by decide +kernel
theorem dX7_skipBlanks_45 : decode cX7_skipBlanks 45 = .ok (.return_, 1) := by decide +kernel
theorem dX7_skipBlanks_46 : decode cX7_skipBlanks 46 = .ok (.iload_n 2, 1) := by decide +kernel
theorem dX7_skipBlanks_47 : decode cX7_skipBlanks 47 = .ok (.bipush 10, 2) := by decide +kernel
theorem dX7_skipBlanks_49 : decode cX7_skipBlanks 49 = .ok (.if_icmp .eq 17, 3) := by decide +kernel
theorem dX7_skipBlanks_52 : decode cX7_skipBlanks 52 = .ok (.iload_n 1, 1) := by decide +kernel
theorem dX7_skipBlanks_53 : decode cX7_skipBlanks 53 = .ok (.ifCond .ne 9, 3) := by decide +kernel
theorem dX7_skipBlanks_56 : decode cX7_skipBlanks 56 = .ok (.iload_n 2, 1) := by decide +kernel
theorem dX7_skipBlanks_57 : decode cX7_skipBlanks 57 = .ok (.bipush 35, 2) := by decide +kernel
theorem dX7_skipBlanks_59 : decode cX7_skipBlanks 59 = .ok (.if_icmp .ne 7, 3) := by decide +kernel
theorem dX7_skipBlanks_62 : decode cX7_skipBlanks 62 = .ok (.iconst 1, 1) := by decide +kernel
theorem dX7_skipBlanks_63 : decode cX7_skipBlanks 63 = .ok (.goto 4, 3) := by decide +kernel
theorem dX7_skipBlanks_66 : decode cX7_skipBlanks 66 = .ok (.iconst 0, 1) := by decide +kernel
theorem dX7_skipBlanks_67 : decode cX7_skipBlanks 67 = .ok (.istore_n 1, 1) := by decide +kernel
theorem dX7_skipBlanks_68 : decode cX7_skipBlanks 68 = .ok (.aload_n 0, 1) := by decide +kernel
theorem dX7_skipBlanks_69 : decode cX7_skipBlanks 69 = .ok (.dup, 1) := by decide +kernel
theorem dX7_skipBlanks_70 : decode cX7_skipBlanks 70 = .ok (.getfield 26, 3) := by decide +kernel
theorem dX7_skipBlanks_73 : decode cX7_skipBlanks 73 = .ok (.iconst 1, 1) := by decide +kernel
theorem dX7_skipBlanks_74 : decode cX7_skipBlanks 74 = .ok (.iadd, 1) := by decide +kernel
theorem dX7_skipBlanks_75 : decode cX7_skipBlanks 75 = .ok (.putfield 26, 3) := by decide +kernel
theorem dX7_skipBlanks_78 : decode cX7_skipBlanks 78 = .ok (.goto (-76), 3) := by decide +kernel
theorem dX7_skipBlanks_81 : decode cX7_skipBlanks 81 = .ok (.return_, 1) := by decide +kernel
theorem dX7_skipWord_0 : decode cX7_skipWord 0 = .ok (.aload_n 0, 1) := by decide +kernel
theorem dX7_skipWord_1 : decode cX7_skipWord 1 = .ok (.getfield 26, 3) := by decide +kernel
theorem dX7_skipWord_4 : decode cX7_skipWord 4 = .ok (.aload_n 0, 1) := by decide +kernel
theorem dX7_skipWord_5 : decode cX7_skipWord 5 = .ok (.getfield 9, 3) := by decide +kernel
theorem dX7_skipWord_8 : decode cX7_skipWord 8 = .ok (.invokevirtual 58, 3) := by decide +kernel
theorem dX7_skipWord_11 : decode cX7_skipWord 11 = .ok (.if_icmp .ge 33, 3) := by decide +kernel
theorem dX7_skipWord_14 : decode cX7_skipWord 14 = .ok (.aload_n 0, 1) := by decide +kernel
theorem dX7_skipWord_15 : decode cX7_skipWord 15 = .ok (.getfield 9, 3) := by decide +kernel
theorem dX7_skipWord_18 : decode cX7_skipWord 18 = .ok (.aload_n 0, 1) := by decide +kernel
theorem dX7_skipWord_19 : decode cX7_skipWord 19 = .ok (.getfield 26, 3) := by decide +kernel
theorem dX7_skipWord_22 : decode cX7_skipWord 22 = .ok (.invokevirtual 50, 3) := by decide +kernel
theorem dX7_skipWord_25 : decode cX7_skipWord 25 = .ok (.invokestatic 66, 3) := by decide +kernel
theorem dX7_skipWord_28 : decode cX7_skipWord 28 = .ok (.ifCond .eq 16, 3) := by decide +kernel
theorem dX7_skipWord_31 : decode cX7_skipWord 31 = .ok (.aload_n 0, 1) := by decide +kernel
theorem dX7_skipWord_32 : decode cX7_skipWord 32 = .ok (.dup, 1) := by decide +kernel
theorem dX7_skipWord_33 : decode cX7_skipWord 33 = .ok (.getfield 26, 3) := by decide +kernel
theorem dX7_skipWord_36 : decode cX7_skipWord 36 = .ok (.iconst 1, 1) := by decide +kernel
theorem dX7_skipWord_37 : decode cX7_skipWord 37 = .ok (.iadd, 1) := by decide +kernel
theorem dX7_skipWord_38 : decode cX7_skipWord 38 = .ok (.putfield 26, 3) := by decide +kernel
theorem dX7_skipWord_41 : decode cX7_skipWord 41 = .ok (.goto (-41), 3) := by decide +kernel
theorem dX7_skipWord_44 : decode cX7_skipWord 44 = .ok (.return_, 1) := by decide +kernel
theorem dX6_memberCalled_0 : decode cX6_memberCalled 0 = .ok (.aload_n 1, 1) := by decide +kernel
theorem dX6_memberCalled_1 : decode cX6_memberCalled 1 = .ok (.getfield 77, 3) := by decide +kernel
theorem dX6_memberCalled_4 : decode cX6_memberCalled 4 = .ok (.astore 5, 2) := by decide +kernel
theorem dX6_memberCalled_6 : decode cX6_memberCalled 6 = .ok (.aload 5, 2) := by decide +kernel
theorem dX6_memberCalled_8 : decode cX6_memberCalled 8 = .ok (.ifnull 50, 3) := by decide +kernel
theorem dX6_memberCalled_11 : decode cX6_memberCalled 11 = .ok (.aload 5, 2) := by decide +kernel
theorem dX6_memberCalled_13 : decode cX6_memberCalled 13 = .ok (.getfield 55, 3) := by decide +kernel
theorem dX6_memberCalled_16 : decode cX6_memberCalled 16 = .ok (.aload 5, 2) := by decide +kernel
theorem dX6_memberCalled_18 : decode cX6_memberCalled 18 = .ok (.getfield 58, 3) := by decide +kernel
theorem dX6_memberCalled_21 : decode cX6_memberCalled 21 = .ok (.isub, 1) := by decide +kernel
theorem dX6_memberCalled_22 : decode cX6_memberCalled 22 = .ok (.iload 4, 2) := by decide +kernel
theorem dX6_memberCalled_24 : decode cX6_memberCalled 24 = .ok (.iload_n 3, 1) := by decide +kernel
theorem dX6_memberCalled_25 : decode cX6_memberCalled 25 = .ok (.isub, 1) := by decide +kernel
theorem dX6_memberCalled_26 : decode cX6_memberCalled 26 = .ok (.if_icmp .ne 22, 3) := by decide +kernel
theorem dX6_memberCalled_29 : decode cX6_memberCalled 29 = .ok (.aload_n 0, 1) := by decide +kernel
theorem dX6_memberCalled_30 : decode cX6_memberCalled 30 = .ok (.getfield 14, 3) := by decide +kernel
theorem dX6_memberCalled_33 : decode cX6_memberCalled 33 = .ok (.aload 5, 2) := by decide +kernel
theorem dX6_memberCalled_35 : decode cX6_memberCalled 35 = .ok (.getfield 58, 3) := by decide +kernel
theorem dX6_memberCalled_38 : decode cX6_memberCalled 38 = .ok (.aload_n 2, 1) := by decide +kernel
theorem dX6_memberCalled_39 : decode cX6_memberCalled 39 = .ok (.iload_n 3, 1) := by decide +kernel
theorem dX6_memberCalled_40 : decode cX6_memberCalled 40 = .ok (.iload 4, 2) := by decide +kernel
theorem dX6_memberCalled_42 : decode cX6_memberCalled 42 = .ok (.invokevirtual 61, 3) := by decide +kernel
theorem dX6_memberCalled_45 : decode cX6_memberCalled 45 = .ok (.ifCond .ne 13, 3) := by decide +kernel
theorem dX6_memberCalled_48 : decode cX6_memberCalled 48 = .ok (.aload 5, 2) := by decide +kernel
theorem dX6_memberCalled_50 : decode cX6_memberCalled 50 = .ok (.getfield 80, 3) := by decide +kernel
theorem dX6_memberCalled_53 : decode cX6_memberCalled 53 = .ok (.astore 5, 2) := by decide +kernel
theorem dX6_memberCalled_55 : decode cX6_memberCalled 55 = .ok (.goto (-49), 3) := by decide +kernel
theorem dX6_memberCalled_58 : decode cX6_memberCalled 58 = .ok (.aload 5, 2) := by decide +kernel
theorem dX6_memberCalled_60 : decode cX6_memberCalled 60 = .ok (.areturn, 1) := by decide +kernel
theorem dX8_isTaken_0 : decode cX8_isTaken 0 = .ok (.aload_n 2, 1) := by decide +kernel
theorem dX8_isTaken_1 : decode cX8_isTaken 1 = .ok (.getfield 94, 3) := by decide +kernel
theorem dX8_isTaken_4 : decode cX8_isTaken 4 = .ok (.ifCond .eq 5, 3) := by decide +kernel
theorem dX8_isTaken_7 : decode cX8_isTaken 7 = .ok (.iconst 0, 1) := by decide +kernel
theorem dX8_isTaken_8 : decode cX8_isTaken 8 = .ok (.ireturn, 1) := by decide +kernel
theorem dX8_isTaken_9 : decode cX8_isTaken 9 = .ok (.aload_n 1, 1) := by decide +kernel
theorem dX8_isTaken_10 : decode cX8_isTaken 10 = .ok (.getfield 63, 3) := by decide +kernel
theorem dX8_isTaken_13 : decode cX8_isTaken 13 = .ok (.astore_n 3, 1) := by decide +kernel
theorem dX8_isTaken_14 : decode cX8_isTaken 14 = .ok (.aload_n 3, 1) := by decide +kernel
theorem dX8_isTaken_15 : decode cX8_isTaken 15 = .ok (.ifnull 61, 3) := by decide +kernel
theorem dX8_isTaken_18 : decode cX8_isTaken 18 = .ok (.aload_n 3, 1) := by decide +kernel
theorem dX8_isTaken_19 : decode cX8_isTaken 19 = .ok (.getfield 66, 3) := by decide +kernel
theorem dX8_isTaken_22 : decode cX8_isTaken 22 = .ok (.ifnull 28, 3) := by decide +kernel
theorem dX8_isTaken_25 : decode cX8_isTaken 25 = .ok (.aload_n 2, 1) := by decide +kernel
theorem dX8_isTaken_26 : decode cX8_isTaken 26 = .ok (.getfield 75, 3) := by decide +kernel
theorem dX8_isTaken_29 : decode cX8_isTaken 29 = .ok (.ifnull 21, 3) := by decide +kernel
theorem dX8_isTaken_32 : decode cX8_isTaken 32 = .ok (.aload_n 3, 1) := by decide +kernel
theorem dX8_isTaken_33 : decode cX8_isTaken 33 = .ok (.getfield 66, 3) := by decide +kernel
theorem dX8_isTaken_36 : decode cX8_isTaken 36 = .ok (.getfield 75, 3) := by decide +kernel
theorem dX8_isTaken_39 : decode cX8_isTaken 39 = .ok (.aload_n 2, 1) := by decide +kernel
theorem dX8_isTaken_40 : decode cX8_isTaken 40 = .ok (.getfield 75, 3) := by decide +kernel
theorem dX8_isTaken_43 : decode cX8_isTaken 43 = .ok (.if_acmp .ne 7, 3) := by decide +kernel
theorem dX8_isTaken_46 : decode cX8_isTaken 46 = .ok (.iconst 1, 1) := by decide +kernel
theorem dX8_isTaken_47 : decode cX8_isTaken 47 = .ok (.goto 4, 3) := by decide +kernel
theorem dX8_isTaken_50 : decode cX8_isTaken 50 = .ok (.iconst 0, 1) := by decide +kernel
theorem dX8_isTaken_51 : decode cX8_isTaken 51 = .ok (.istore 4, 2) := by decide +kernel
theorem dX8_isTaken_53 : decode cX8_isTaken 53 = .ok (.aload_n 3, 1) := by decide +kernel
theorem dX8_isTaken_54 : decode cX8_isTaken 54 = .ok (.getfield 66, 3) := by decide +kernel
theorem dX8_isTaken_57 : decode cX8_isTaken 57 = .ok (.aload_n 2, 1) := by decide +kernel
theorem dX8_isTaken_58 : decode cX8_isTaken 58 = .ok (.if_acmp .eq 8, 3) := by decide +kernel
theorem dX8_isTaken_61 : decode cX8_isTaken 61 = .ok (.iload 4, 2) := by decide +kernel
theorem dX8_isTaken_63 : decode cX8_isTaken 63 = .ok (.ifCond .eq 5, 3) := by decide +kernel
theorem dX8_isTaken_66 : decode cX8_isTaken 66 = .ok (.iconst 1, 1) := by decide +kernel
theorem dX8_isTaken_67 : decode cX8_isTaken 67 = .ok (.ireturn, 1) := by decide +kernel
theorem dX8_isTaken_68 : decode cX8_isTaken 68 = .ok (.aload_n 3, 1) := by decide +kernel
theorem dX8_isTaken_69 : decode cX8_isTaken 69 = .ok (.getfield 72, 3) := by decide +kernel
theorem dX8_isTaken_72 : decode cX8_isTaken 72 = .ok (.astore_n 3, 1) := by decide +kernel
theorem dX8_isTaken_73 : decode cX8_isTaken 73 = .ok (.goto (-59), 3) := by decide +kernel
theorem dX8_isTaken_76 : decode cX8_isTaken 76 = .ok (.iconst 0, 1) := by decide +kernel
theorem dX8_isTaken_77 : decode cX8_isTaken 77 = .ok (.ireturn, 1) := by decide +kernel
theorem dX7_readEscape_0 : decode cX7_readEscape 0 = .ok (.aload_n 0, 1) := by decide +kernel
theorem dX7_readEscape_1 : decode cX7_readEscape 1 = .ok (.getfield 9, 3) := by decide +kernel
theorem dX7_readEscape_4 : decode cX7_readEscape 4 = .ok (.aload_n 0, 1) := by decide +kernel
theorem dX7_readEscape_5 : decode cX7_readEscape 5 = .ok (.getfield 26, 3) := by decide +kernel
theorem dX7_readEscape_8 : decode cX7_readEscape 8 = .ok (.invokevirtual 50, 3) := by decide +kernel
theorem dX7_readEscape_11 : decode cX7_readEscape 11 = .ok (.istore_n 1, 1) := by decide +kernel
theorem dX7_readEscape_12 : decode cX7_readEscape 12 = .ok (.iconst 0, 1) := by decide +kernel
theorem dX7_readEscape_13 : decode cX7_readEscape 13 = .ok (.istore_n 2, 1) := by decide +kernel
theorem dX7_readEscape_14 : decode cX7_readEscape 14 = .ok (.iload_n 2, 1) := by decide +kernel
theorem dX7_readEscape_15 : decode cX7_readEscape 15 = .ok (.ldc 174, 2) := by decide +kernel
theorem dX7_readEscape_17 : decode cX7_readEscape 17 = .ok (.invokevirtual 176, 3) := by decide +kernel
theorem dX7_readEscape_20 : decode cX7_readEscape 20 = .ok (.if_icmp .ge 45, 3) := by decide +kernel
theorem dX7_readEscape_23 : decode cX7_readEscape 23 = .ok (.iload_n 2, 1) := by decide +kernel
theorem dX7_readEscape_24 : decode cX7_readEscape 24 = .ok (.ldc 181, 2) := by decide +kernel
theorem dX7_readEscape_26 : decode cX7_readEscape 26 = .ok (.invokevirtual 176, 3) := by decide +kernel
theorem dX7_readEscape_29 : decode cX7_readEscape 29 = .ok (.if_icmp .ge 36, 3) := by decide +kernel
theorem dX7_readEscape_32 : decode cX7_readEscape 32 = .ok (.ldc 174, 2) := by decide +kernel
theorem dX7_readEscape_34 : decode cX7_readEscape 34 = .ok (.iload_n 2, 1) := by decide +kernel
theorem dX7_readEscape_35 : decode cX7_readEscape 35 = .ok (.invokevirtual 183, 3) := by decide +kernel
theorem dX7_readEscape_38 : decode cX7_readEscape 38 = .ok (.iload_n 1, 1) := by decide +kernel
theorem dX7_readEscape_39 : decode cX7_readEscape 39 = .ok (.if_icmp .ne 20, 3) := by decide +kernel
theorem dX7_readEscape_42 : decode cX7_readEscape 42 = .ok (.aload_n 0, 1) := by decide +kernel
theorem dX7_readEscape_43 : decode cX7_readEscape 43 = .ok (.dup, 1) := by decide +kernel
theorem dX7_readEscape_44 : decode cX7_readEscape 44 = .ok (.getfield 26, 3) := by decide +kernel
theorem dX7_readEscape_47 : decode cX7_readEscape 47 = .ok (.iconst 1, 1) := by decide +kernel
theorem dX7_readEscape_48 : decode cX7_readEscape 48 = .ok (.iadd, 1) := by decide +kernel
theorem dX7_readEscape_49 : decode cX7_readEscape 49 = .ok (.putfield 26, 3) := by decide +kernel
theorem dX7_readEscape_52 : decode cX7_readEscape 52 = .ok (.ldc 181, 2) := by decide +kernel
theorem dX7_readEscape_54 : decode cX7_readEscape 54 = .ok (.iload_n 2, 1) := by decide +kernel
theorem dX7_readEscape_55 : decode cX7_readEscape 55 = .ok (.invokevirtual 183, 3) := by decide +kernel
theorem dX7_readEscape_58 : decode cX7_readEscape 58 = .ok (.ireturn, 1) := by decide +kernel
theorem dX7_readEscape_59 : decode cX7_readEscape 59 = .ok (.iinc 2 1, 3) := by decide +kernel
theorem dX7_readEscape_62 : decode cX7_readEscape 62 = .ok (.goto (-48), 3) := by decide +kernel
theorem dX7_readEscape_65 : decode cX7_readEscape 65 = .ok (.iconst 0, 1) := by decide +kernel
theorem dX7_readEscape_66 : decode cX7_readEscape 66 = .ok (.istore_n 2, 1) := by decide +kernel
theorem dX7_readEscape_67 : decode cX7_readEscape 67 = .ok (.iconst 0, 1) := by decide +kernel
theorem dX7_readEscape_68 : decode cX7_readEscape 68 = .ok (.istore_n 3, 1) := by decide +kernel
theorem dX7_readEscape_69 : decode cX7_readEscape 69 = .ok (.iload_n 3, 1) := by decide +kernel
theorem dX7_readEscape_70 : decode cX7_readEscape 70 = .ok (.iconst 3, 1) := by decide +kernel
theorem dX7_readEscape_71 : decode cX7_readEscape 71 = .ok (.if_icmp .ge 57, 3) := by decide +kernel
theorem dX7_readEscape_74 : decode cX7_readEscape 74 = .ok (.aload_n 0, 1) := by decide +kernel
theorem dX7_readEscape_75 : decode cX7_readEscape 75 = .ok (.getfield 9, 3) := by decide +kernel
theorem dX7_readEscape_78 : decode cX7_readEscape 78 = .ok (.aload_n 0, 1) := by decide +kernel
theorem dX7_readEscape_79 : decode cX7_readEscape 79 = .ok (.getfield 26, 3) := by decide +kernel
theorem dX7_readEscape_82 : decode cX7_readEscape 82 = .ok (.invokevirtual 50, 3) := by decide +kernel
theorem dX7_readEscape_85 : decode cX7_readEscape 85 = .ok (.bipush 48, 2) := by decide +kernel
theorem dX7_readEscape_87 : decode cX7_readEscape 87 = .ok (.isub, 1) := by decide +kernel
theorem dX7_readEscape_88 : decode cX7_readEscape 88 = .ok (.istore 4, 2) := by decide +kernel
theorem dX7_readEscape_90 : decode cX7_readEscape 90 = .ok (.iload 4, 2) := by decide +kernel
theorem dX7_readEscape_92 : decode cX7_readEscape 92 = .ok (.ifCond .lt 10, 3) := by decide +kernel
theorem dX7_readEscape_95 : decode cX7_readEscape 95 = .ok (.iload 4, 2) := by decide +kernel
theorem dX7_readEscape_97 : decode cX7_readEscape 97 = .ok (.bipush 7, 2) := by decide +kernel
theorem dX7_readEscape_99 : decode cX7_readEscape 99 = .ok (.if_icmp .le 5, 3) := by decide +kernel
theorem dX7_readEscape_102 : decode cX7_readEscape 102 = .ok (.iconst (-1), 1) := by decide +kernel
theorem dX7_readEscape_103 : decode cX7_readEscape 103 = .ok (.ireturn, 1) := by decide +kernel
theorem dX7_readEscape_104 : decode cX7_readEscape 104 = .ok (.iload_n 2, 1) := by decide +kernel
theorem dX7_readEscape_105 : decode cX7_readEscape 105 = .ok (.bipush 8, 2) := by decide +kernel
theorem dX7_readEscape_107 : decode cX7_readEscape 107 = .ok (.imul, 1) := by decide +kernel
theorem dX7_readEscape_108 : decode cX7_readEscape 108 = .ok (.iload 4, 2) := by decide +kernel
theorem dX7_readEscape_110 : decode cX7_readEscape 110 = .ok (.iadd, 1) := by decide +kernel
theorem dX7_readEscape_111 : decode cX7_readEscape 111 = .ok (.istore_n 2, 1) := by decide +kernel
theorem dX7_readEscape_112 : decode cX7_readEscape 112 = .ok (.aload_n 0, 1) := by decide +kernel
theorem dX7_readEscape_113 : decode cX7_readEscape 113 = .ok (.dup, 1) := by decide +kernel
theorem dX7_readEscape_114 : decode cX7_readEscape 114 = .ok (.getfield 26, 3) := by decide +kernel
theorem dX7_readEscape_117 : decode cX7_readEscape 117 = .ok (.iconst 1, 1) := by decide +kernel
theorem dX7_readEscape_118 : decode cX7_readEscape 118 = .ok (.iadd, 1) := by decide +kernel
theorem dX7_readEscape_119 : decode cX7_readEscape 119 = .ok (.putfield 26, 3) := by decide +kernel
theorem dX7_readEscape_122 : decode cX7_readEscape 122 = .ok (.iinc 3 1, 3) := by decide +kernel
theorem dX7_readEscape_125 : decode cX7_readEscape 125 = .ok (.goto (-56), 3) := by decide +kernel
theorem dX7_readEscape_128 : decode cX7_readEscape 128 = .ok (.iload_n 2, 1) := by decide +kernel
theorem dX7_readEscape_129 : decode cX7_readEscape 129 = .ok (.sipush 255, 3) := by decide +kernel
theorem dX7_readEscape_132 : decode cX7_readEscape 132 = .ok (.if_icmp .gt 7, 3) := by decide +kernel
theorem dX7_readEscape_135 : decode cX7_readEscape 135 = .ok (.iload_n 2, 1) := by decide +kernel
theorem dX7_readEscape_136 : decode cX7_readEscape 136 = .ok (.goto 4, 3) := by decide +kernel
theorem dX7_readEscape_139 : decode cX7_readEscape 139 = .ok (.iconst (-1), 1) := by decide +kernel
theorem dX7_readEscape_140 : decode cX7_readEscape 140 = .ok (.ireturn, 1) := by decide +kernel
theorem dX7_readText_0 : decode cX7_readText 0 = .ok (.aload_n 0, 1) := by decide +kernel
theorem dX7_readText_1 : decode cX7_readText 1 = .ok (.getfield 9, 3) := by decide +kernel
theorem dX7_readText_4 : decode cX7_readText 4 = .ok (.aload_n 0, 1) := by decide +kernel
theorem dX7_readText_5 : decode cX7_readText 5 = .ok (.getfield 26, 3) := by decide +kernel
theorem dX7_readText_8 : decode cX7_readText 8 = .ok (.invokevirtual 50, 3) := by decide +kernel
theorem dX7_readText_11 : decode cX7_readText 11 = .ok (.istore_n 3, 1) := by decide +kernel
theorem dX7_readText_12 : decode cX7_readText 12 = .ok (.iload_n 3, 1) := by decide +kernel
theorem dX7_readText_13 : decode cX7_readText 13 = .ok (.bipush 34, 2) := by decide +kernel
theorem dX7_readText_15 : decode cX7_readText 15 = .ok (.if_icmp .eq 11, 3) := by decide +kernel
theorem dX7_readText_18 : decode cX7_readText 18 = .ok (.iload_n 3, 1) := by decide +kernel
theorem dX7_readText_19 : decode cX7_readText 19 = .ok (.bipush 39, 2) := by decide +kernel
theorem dX7_readText_21 : decode cX7_readText 21 = .ok (.if_icmp .eq 5, 3) := by decide +kernel
theorem dX7_readText_24 : decode cX7_readText 24 = .ok (.iconst 0, 1) := by decide +kernel
theorem dX7_readText_25 : decode cX7_readText 25 = .ok (.ireturn, 1) := by decide +kernel
theorem dX7_readText_26 : decode cX7_readText 26 = .ok (.aload_n 0, 1) := by decide +kernel
theorem dX7_readText_27 : decode cX7_readText 27 = .ok (.dup, 1) := by decide +kernel
theorem dX7_readText_28 : decode cX7_readText 28 = .ok (.getfield 26, 3) := by decide +kernel
theorem dX7_readText_31 : decode cX7_readText 31 = .ok (.iconst 1, 1) := by decide +kernel
theorem dX7_readText_32 : decode cX7_readText 32 = .ok (.iadd, 1) := by decide +kernel
theorem dX7_readText_33 : decode cX7_readText 33 = .ok (.putfield 26, 3) := by decide +kernel
theorem dX7_readText_36 : decode cX7_readText 36 = .ok (.aload_n 1, 1) := by decide +kernel
theorem dX7_readText_37 : decode cX7_readText 37 = .ok (.aload_n 0, 1) := by decide +kernel
theorem dX7_readText_38 : decode cX7_readText 38 = .ok (.getfield 15, 3) := by decide +kernel
theorem dX7_readText_41 : decode cX7_readText 41 = .ok (.getfield 154, 3) := by decide +kernel
theorem dX7_readText_44 : decode cX7_readText 44 = .ok (.invokevirtual 58, 3) := by decide +kernel
theorem dX7_readText_47 : decode cX7_readText 47 = .ok (.putfield 157, 3) := by decide +kernel
theorem dX7_readText_50 : decode cX7_readText 50 = .ok (.aload_n 0, 1) := by decide +kernel
theorem dX7_readText_51 : decode cX7_readText 51 = .ok (.getfield 26, 3) := by decide +kernel
theorem dX7_readText_54 : decode cX7_readText 54 = .ok (.aload_n 0, 1) := by decide +kernel
theorem dX7_readText_55 : decode cX7_readText 55 = .ok (.getfield 9, 3) := by decide +kernel
theorem dX7_readText_58 : decode cX7_readText 58 = .ok (.invokevirtual 58, 3) := by decide +kernel
theorem dX7_readText_61 : decode cX7_readText 61 = .ok (.if_icmp .ge 99, 3) := by decide +kernel
theorem dX7_readText_64 : decode cX7_readText 64 = .ok (.aload_n 0, 1) := by decide +kernel
theorem dX7_readText_65 : decode cX7_readText 65 = .ok (.getfield 9, 3) := by decide +kernel
theorem dX7_readText_68 : decode cX7_readText 68 = .ok (.aload_n 0, 1) := by decide +kernel
theorem dX7_readText_69 : decode cX7_readText 69 = .ok (.getfield 26, 3) := by decide +kernel
theorem dX7_readText_72 : decode cX7_readText 72 = .ok (.invokevirtual 50, 3) := by decide +kernel
theorem dX7_readText_75 : decode cX7_readText 75 = .ok (.iload_n 3, 1) := by decide +kernel
theorem dX7_readText_76 : decode cX7_readText 76 = .ok (.if_icmp .eq 84, 3) := by decide +kernel
theorem dX7_readText_79 : decode cX7_readText 79 = .ok (.aload_n 0, 1) := by decide +kernel
theorem dX7_readText_80 : decode cX7_readText 80 = .ok (.getfield 9, 3) := by decide +kernel
theorem dX7_readText_83 : decode cX7_readText 83 = .ok (.aload_n 0, 1) := by decide +kernel
theorem dX7_readText_84 : decode cX7_readText 84 = .ok (.getfield 26, 3) := by decide +kernel
theorem dX7_readText_87 : decode cX7_readText 87 = .ok (.invokevirtual 50, 3) := by decide +kernel
theorem dX7_readText_90 : decode cX7_readText 90 = .ok (.istore 4, 2) := by decide +kernel
theorem dX7_readText_92 : decode cX7_readText 92 = .ok (.aload_n 0, 1) := by decide +kernel
theorem dX7_readText_93 : decode cX7_readText 93 = .ok (.dup, 1) := by decide +kernel
theorem dX7_readText_94 : decode cX7_readText 94 = .ok (.getfield 26, 3) := by decide +kernel
theorem dX7_readText_97 : decode cX7_readText 97 = .ok (.iconst 1, 1) := by decide +kernel
theorem dX7_readText_98 : decode cX7_readText 98 = .ok (.iadd, 1) := by decide +kernel
theorem dX7_readText_99 : decode cX7_readText 99 = .ok (.putfield 26, 3) := by decide +kernel
theorem dX7_readText_102 : decode cX7_readText 102 = .ok (.iload 4, 2) := by decide +kernel
theorem dX7_readText_104 : decode cX7_readText 104 = .ok (.bipush 92, 2) := by decide +kernel
theorem dX7_readText_106 : decode cX7_readText 106 = .ok (.if_icmp .ne 10, 3) := by decide +kernel
theorem dX7_readText_109 : decode cX7_readText 109 = .ok (.aload_n 0, 1) := by decide +kernel
theorem dX7_readText_110 : decode cX7_readText 110 = .ok (.invokevirtual 160, 3) := by decide +kernel
theorem dX7_readText_113 : decode cX7_readText 113 = .ok (.goto 23, 3) := by decide +kernel
theorem dX7_readText_116 : decode cX7_readText 116 = .ok (.iload 4, 2) := by decide +kernel
theorem dX7_readText_118 : decode cX7_readText 118 = .ok (.bipush 32, 2) := by decide +kernel
theorem dX7_readText_120 : decode cX7_readText 120 = .ok (.if_icmp .lt 15, 3) := by decide +kernel
theorem dX7_readText_123 : decode cX7_readText 123 = .ok (.iload 4, 2) := by decide +kernel
theorem dX7_readText_125 : decode cX7_readText 125 = .ok (.bipush 126, 2) := by decide +kernel
theorem dX7_readText_127 : decode cX7_readText 127 = .ok (.if_icmp .gt 8, 3) := by decide +kernel
theorem dX7_readText_130 : decode cX7_readText 130 = .ok (.iload 4, 2) := by decide +kernel
theorem dX7_readText_132 : decode cX7_readText 132 = .ok (.goto 4, 3) := by decide +kernel
theorem dX7_readText_135 : decode cX7_readText 135 = .ok (.iconst (-1), 1) := by decide +kernel
theorem dX7_readText_136 : decode cX7_readText 136 = .ok (.istore 5, 2) := by decide +kernel
theorem dX7_readText_138 : decode cX7_readText 138 = .ok (.iload 5, 2) := by decide +kernel
theorem dX7_readText_140 : decode cX7_readText 140 = .ok (.ifCond .ge 5, 3) := by decide +kernel
theorem dX7_readText_143 : decode cX7_readText 143 = .ok (.iconst 0, 1) := by decide +kernel
theorem dX7_readText_144 : decode cX7_readText 144 = .ok (.ireturn, 1) := by decide +kernel
theorem dX7_readText_145 : decode cX7_readText 145 = .ok (.aload_n 0, 1) := by decide +kernel
theorem dX7_readText_146 : decode cX7_readText 146 = .ok (.getfield 15, 3) := by decide +kernel
theorem dX7_readText_149 : decode cX7_readText 149 = .ok (.getfield 154, 3) := by decide +kernel
theorem dX7_readText_152 : decode cX7_readText 152 = .ok (.iload 5, 2) := by decide +kernel
theorem dX7_readText_154 : decode cX7_readText 154 = .ok (.invokevirtual 163, 3) := by decide +kernel
theorem dX7_readText_157 : decode cX7_readText 157 = .ok (.goto (-107), 3) := by decide +kernel
theorem dX7_readText_160 : decode cX7_readText 160 = .ok (.aload_n 1, 1) := by decide +kernel
theorem dX7_readText_161 : decode cX7_readText 161 = .ok (.aload_n 0, 1) := by decide +kernel
theorem dX7_readText_162 : decode cX7_readText 162 = .ok (.getfield 15, 3) := by decide +kernel
theorem dX7_readText_165 : decode cX7_readText 165 = .ok (.getfield 154, 3) := by decide +kernel
theorem dX7_readText_168 : decode cX7_readText 168 = .ok (.invokevirtual 58, 3) := by decide +kernel
theorem dX7_readText_171 : decode cX7_readText 171 = .ok (.putfield 167, 3) := by decide +kernel
theorem dX7_readText_174 : decode cX7_readText 174 = .ok (.aload_n 0, 1) := by decide +kernel
theorem dX7_readText_175 : decode cX7_readText 175 = .ok (.getfield 26, 3) := by decide +kernel
theorem dX7_readText_178 : decode cX7_readText 178 = .ok (.aload_n 0, 1) := by decide +kernel
theorem dX7_readText_179 : decode cX7_readText 179 = .ok (.getfield 9, 3) := by decide +kernel
theorem dX7_readText_182 : decode cX7_readText 182 = .ok (.invokevirtual 58, 3) := by decide +kernel
theorem dX7_readText_185 : decode cX7_readText 185 = .ok (.if_icmp .ge 7, 3) := by decide +kernel
theorem dX7_readText_188 : decode cX7_readText 188 = .ok (.iconst 1, 1) := by decide +kernel
theorem dX7_readText_189 : decode cX7_readText 189 = .ok (.goto 4, 3) := by decide +kernel
theorem dX7_readText_192 : decode cX7_readText 192 = .ok (.iconst 0, 1) := by decide +kernel
theorem dX7_readText_193 : decode cX7_readText 193 = .ok (.istore 4, 2) := by decide +kernel
theorem dX7_readText_195 : decode cX7_readText 195 = .ok (.aload_n 0, 1) := by decide +kernel
theorem dX7_readText_196 : decode cX7_readText 196 = .ok (.dup, 1) := by decide +kernel
theorem dX7_readText_197 : decode cX7_readText 197 = .ok (.getfield 26, 3) := by decide +kernel
theorem dX7_readText_200 : decode cX7_readText 200 = .ok (.iconst 1, 1) := by decide +kernel
theorem dX7_readText_201 : decode cX7_readText 201 = .ok (.iadd, 1) := by decide +kernel
theorem dX7_readText_202 : decode cX7_readText 202 = .ok (.putfield 26, 3) := by decide +kernel
theorem dX7_readText_205 : decode cX7_readText 205 = .ok (.iload 4, 2) := by decide +kernel
theorem dX7_readText_207 : decode cX7_readText 207 = .ok (.ifCond .eq 34, 3) := by decide +kernel
theorem dX7_readText_210 : decode cX7_readText 210 = .ok (.iload_n 2, 1) := by decide +kernel
theorem dX7_readText_211 : decode cX7_readText 211 = .ok (.bipush 11, 2) := by decide +kernel
theorem dX7_readText_213 : decode cX7_readText 213 = .ok (.if_icmp .ne 24, 3) := by decide +kernel
theorem dX7_readText_216 : decode cX7_readText 216 = .ok (.aload_n 0, 1) := by decide +kernel
theorem dX7_readText_217 : decode cX7_readText 217 = .ok (.getfield 15, 3) := by decide +kernel
theorem dX7_readText_220 : decode cX7_readText 220 = .ok (.getfield 154, 3) := by decide +kernel
theorem dX7_readText_223 : decode cX7_readText 223 = .ok (.aload_n 1, 1) := by decide +kernel
theorem dX7_readText_224 : decode cX7_readText 224 = .ok (.getfield 157, 3) := by decide +kernel
theorem dX7_readText_227 : decode cX7_readText 227 = .ok (.aload_n 1, 1) := by decide +kernel
theorem dX7_readText_228 : decode cX7_readText 228 = .ok (.getfield 167, 3) := by decide +kernel
theorem dX7_readText_231 : decode cX7_readText 231 = .ok (.invokevirtual 170, 3) := by decide +kernel
theorem dX7_readText_234 : decode cX7_readText 234 = .ok (.ifCond .eq 7, 3) := by decide +kernel
theorem dX7_readText_237 : decode cX7_readText 237 = .ok (.iconst 1, 1) := by decide +kernel
theorem dX7_readText_238 : decode cX7_readText 238 = .ok (.goto 4, 3) := by decide +kernel
theorem dX7_readText_241 : decode cX7_readText 241 = .ok (.iconst 0, 1) := by decide +kernel
theorem dX7_readText_242 : decode cX7_readText 242 = .ok (.ireturn, 1) := by decide +kernel
theorem dX7_readBool_0 : decode cX7_readBool 0 = .ok (.aload_n 0, 1) := by decide +kernel
theorem dX7_readBool_1 : decode cX7_readBool 1 = .ok (.getfield 26, 3) := by decide +kernel
theorem dX7_readBool_4 : decode cX7_readBool 4 = .ok (.istore_n 1, 1) := by decide +kernel
theorem dX7_readBool_5 : decode cX7_readBool 5 = .ok (.aload_n 0, 1) := by decide +kernel
theorem dX7_readBool_6 : decode cX7_readBool 6 = .ok (.invokevirtual 69, 3) := by decide +kernel
theorem dX7_readBool_9 : decode cX7_readBool 9 = .ok (.aload_n 0, 1) := by decide +kernel
theorem dX7_readBool_10 : decode cX7_readBool 10 = .ok (.aload_n 0, 1) := by decide +kernel
theorem dX7_readBool_11 : decode cX7_readBool 11 = .ok (.getfield 9, 3) := by decide +kernel
theorem dX7_readBool_14 : decode cX7_readBool 14 = .ok (.ldc 129, 2) := by decide +kernel
theorem dX7_readBool_16 : decode cX7_readBool 16 = .ok (.iload_n 1, 1) := by decide +kernel
theorem dX7_readBool_17 : decode cX7_readBool 17 = .ok (.aload_n 0, 1) := by decide +kernel
theorem dX7_readBool_18 : decode cX7_readBool 18 = .ok (.getfield 26, 3) := by decide +kernel
theorem dX7_readBool_21 : decode cX7_readBool 21 = .ok (.invokevirtual 131, 3) := by decide +kernel
theorem dX7_readBool_24 : decode cX7_readBool 24 = .ok (.i2l, 1) := by decide +kernel
theorem dX7_readBool_25 : decode cX7_readBool 25 = .ok (.putfield 122, 3) := by decide +kernel
theorem dX7_readBool_28 : decode cX7_readBool 28 = .ok (.aload_n 0, 1) := by decide +kernel
theorem dX7_readBool_29 : decode cX7_readBool 29 = .ok (.getfield 122, 3) := by decide +kernel
theorem dX7_readBool_32 : decode cX7_readBool 32 = .ok (.lconst 0, 1) := by decide +kernel
theorem dX7_readBool_33 : decode cX7_readBool 33 = .ok (.lcmp, 1) := by decide +kernel
theorem dX7_readBool_34 : decode cX7_readBool 34 = .ok (.ifCond .lt 7, 3) := by decide +kernel
theorem dX7_readBool_37 : decode cX7_readBool 37 = .ok (.iconst 1, 1) := by decide +kernel
theorem dX7_readBool_38 : decode cX7_readBool 38 = .ok (.goto 4, 3) := by decide +kernel
theorem dX7_readBool_41 : decode cX7_readBool 41 = .ok (.iconst 0, 1) := by decide +kernel
theorem dX7_readBool_42 : decode cX7_readBool 42 = .ok (.ireturn, 1) := by decide +kernel
theorem dX7_readEnumName_0 : decode cX7_readEnumName 0 = .ok (.aload_n 0, 1) := by decide +kernel
theorem dX7_readEnumName_1 : decode cX7_readEnumName 1 = .ok (.getfield 26, 3) := by decide +kernel
theorem dX7_readEnumName_4 : decode cX7_readEnumName 4 = .ok (.istore_n 2, 1) := by decide +kernel
theorem dX7_readEnumName_5 : decode cX7_readEnumName 5 = .ok (.aload_n 0, 1) := by decide +kernel
theorem dX7_readEnumName_6 : decode cX7_readEnumName 6 = .ok (.invokevirtual 69, 3) := by decide +kernel
theorem dX7_readEnumName_9 : decode cX7_readEnumName 9 = .ok (.aload_n 1, 1) := by decide +kernel
theorem dX7_readEnumName_10 : decode cX7_readEnumName 10 = .ok (.ifnull 13, 3) := by decide +kernel
theorem dX7_readEnumName_13 : decode cX7_readEnumName 13 = .ok (.aload_n 0, 1) := by decide +kernel
theorem dX7_readEnumName_14 : decode cX7_readEnumName 14 = .ok (.getfield 15, 3) := by decide +kernel
theorem dX7_readEnumName_17 : decode cX7_readEnumName 17 = .ok (.getfield 72, 3) := by decide +kernel
theorem dX7_readEnumName_20 : decode cX7_readEnumName 20 = .ok (.ifnonnull 5, 3) := by decide +kernel
theorem dX7_readEnumName_23 : decode cX7_readEnumName 23 = .ok (.iconst 0, 1) := by decide +kernel
theorem dX7_readEnumName_24 : decode cX7_readEnumName 24 = .ok (.ireturn, 1) := by decide +kernel
theorem dX7_readEnumName_25 : decode cX7_readEnumName 25 = .ok (.aload_n 0, 1) := by decide +kernel
theorem dX7_readEnumName_26 : decode cX7_readEnumName 26 = .ok (.getfield 15, 3) := by decide +kernel
theorem dX7_readEnumName_29 : decode cX7_readEnumName 29 = .ok (.getfield 72, 3) := by decide +kernel
theorem dX7_readEnumName_32 : decode cX7_readEnumName 32 = .ok (.aload_n 1, 1) := by decide +kernel
theorem dX7_readEnumName_33 : decode cX7_readEnumName 33 = .ok (.aload_n 0, 1) := by decide +kernel
theorem dX7_readEnumName_34 : decode cX7_readEnumName 34 = .ok (.getfield 9, 3) := by decide +kernel
theorem dX7_readEnumName_37 : decode cX7_readEnumName 37 = .ok (.iload_n 2, 1) := by decide +kernel
theorem dX7_readEnumName_38 : decode cX7_readEnumName 38 = .ok (.aload_n 0, 1) := by decide +kernel
theorem dX7_readEnumName_39 : decode cX7_readEnumName 39 = .ok (.getfield 26, 3) := by decide +kernel
theorem dX7_readEnumName_42 : decode cX7_readEnumName 42 = .ok (.invokevirtual 76, 3) := by decide +kernel
theorem dX7_readEnumName_45 : decode cX7_readEnumName 45 = .ok (.astore_n 3, 1) := by decide +kernel
theorem dX7_readEnumName_46 : decode cX7_readEnumName 46 = .ok (.aload_n 3, 1) := by decide +kernel
theorem dX7_readEnumName_47 : decode cX7_readEnumName 47 = .ok (.ifnonnull 5, 3) := by decide +kernel
theorem dX7_readEnumName_50 : decode cX7_readEnumName 50 = .ok (.iconst 0, 1) := by decide +kernel
theorem dX7_readEnumName_51 : decode cX7_readEnumName 51 = .ok (.ireturn, 1) := by decide +kernel
theorem dX7_readEnumName_52 : decode cX7_readEnumName 52 = .ok (.aload_n 0, 1) := by decide +kernel
theorem dX7_readEnumName_53 : decode cX7_readEnumName 53 = .ok (.aload_n 3, 1) := by decide +kernel
theorem dX7_readEnumName_54 : decode cX7_readEnumName 54 = .ok (.getfield 135, 3) := by decide +kernel
theorem dX7_readEnumName_57 : decode cX7_readEnumName 57 = .ok (.putfield 122, 3) := by decide +kernel
theorem dX7_readEnumName_60 : decode cX7_readEnumName 60 = .ok (.iconst 1, 1) := by decide +kernel
theorem dX7_readEnumName_61 : decode cX7_readEnumName 61 = .ok (.ireturn, 1) := by decide +kernel
theorem dX7_isInRange_0 : decode cX7_isInRange 0 = .ok (.lload_n 2, 1) := by decide +kernel
theorem dX7_isInRange_1 : decode cX7_isInRange 1 = .ok (.lconst 0, 1) := by decide +kernel
theorem dX7_isInRange_2 : decode cX7_isInRange 2 = .ok (.lcmp, 1) := by decide +kernel
theorem dX7_isInRange_3 : decode cX7_isInRange 3 = .ok (.ifCond .lt 7, 3) := by decide +kernel
theorem dX7_isInRange_6 : decode cX7_isInRange 6 = .ok (.iconst 1, 1) := by decide +kernel
theorem dX7_isInRange_7 : decode cX7_isInRange 7 = .ok (.goto 4, 3) := by decide +kernel
theorem dX7_isInRange_10 : decode cX7_isInRange 10 = .ok (.iconst 0, 1) := by decide +kernel
theorem dX7_isInRange_11 : decode cX7_isInRange 11 = .ok (.istore 4, 2) := by decide +kernel
theorem dX7_isInRange_13 : decode cX7_isInRange 13 = .ok (.iload_n 0, 1) := by decide +kernel
theorem dX7_isInRange_14 : decode cX7_isInRange 14 = .ok (.tableswitch 116 1 9 #[93, 66, 50, 116, 93, 66, 50, 116, 93], 50) := by decide +kernel
theorem dX7_isInRange_64 : decode cX7_isInRange 64 = .ok (.iload_n 1, 1) := by decide +kernel
theorem dX7_isInRange_65 : decode cX7_isInRange 65 = .ok (.ifCond .eq 9, 3) := by decide +kernel
theorem dX7_isInRange_68 : decode cX7_isInRange 68 = .ok (.lload_n 2, 1) := by decide +kernel
theorem dX7_isInRange_69 : decode cX7_isInRange 69 = .ok (.lconst 0, 1) := by decide +kernel
theorem dX7_isInRange_70 : decode cX7_isInRange 70 = .ok (.lcmp, 1) := by decide +kernel
theorem dX7_isInRange_71 : decode cX7_isInRange 71 = .ok (.ifCond .ne 7, 3) := by decide +kernel
theorem dX7_isInRange_74 : decode cX7_isInRange 74 = .ok (.iconst 1, 1) := by decide +kernel
theorem dX7_isInRange_75 : decode cX7_isInRange 75 = .ok (.goto 4, 3) := by decide +kernel
theorem dX7_isInRange_78 : decode cX7_isInRange 78 = .ok (.iconst 0, 1) := by decide +kernel
theorem dX7_isInRange_79 : decode cX7_isInRange 79 = .ok (.ireturn, 1) := by decide +kernel
theorem dX7_isInRange_80 : decode cX7_isInRange 80 = .ok (.iload 4, 2) := by decide +kernel
theorem dX7_isInRange_82 : decode cX7_isInRange 82 = .ok (.ifCond .eq 23, 3) := by decide +kernel
theorem dX7_isInRange_85 : decode cX7_isInRange 85 = .ok (.lload_n 2, 1) := by decide +kernel
theorem dX7_isInRange_86 : decode cX7_isInRange 86 = .ok (.iload_n 1, 1) := by decide +kernel
theorem dX7_isInRange_87 : decode cX7_isInRange 87 = .ok (.ifCond .eq 7, 3) := by decide +kernel
theorem dX7_isInRange_90 : decode cX7_isInRange 90 = .ok (.lconst 0, 1) := by decide +kernel
theorem dX7_isInRange_91 : decode cX7_isInRange 91 = .ok (.goto 6, 3) := by decide +kernel
theorem dX7_isInRange_94 : decode cX7_isInRange 94 = .ok (.ldc2_w 144, 3) := by decide +kernel
theorem dX7_isInRange_97 : decode cX7_isInRange 97 = .ok (.lcmp, 1) := by decide +kernel
theorem dX7_isInRange_98 : decode cX7_isInRange 98 = .ok (.ifCond .gt 7, 3) := by decide +kernel
theorem dX7_isInRange_101 : decode cX7_isInRange 101 = .ok (.iconst 1, 1) := by decide +kernel
theorem dX7_isInRange_102 : decode cX7_isInRange 102 = .ok (.goto 4, 3) := by decide +kernel
theorem dX7_isInRange_105 : decode cX7_isInRange 105 = .ok (.iconst 0, 1) := by decide +kernel
theorem dX7_isInRange_106 : decode cX7_isInRange 106 = .ok (.ireturn, 1) := by decide +kernel
theorem dX7_isInRange_107 : decode cX7_isInRange 107 = .ok (.iload 4, 2) := by decide +kernel
theorem dX7_isInRange_109 : decode cX7_isInRange 109 = .ok (.ifCond .ne 15, 3) := by decide +kernel
theorem dX7_isInRange_112 : decode cX7_isInRange 112 = .ok (.iload_n 1, 1) := by decide +kernel
theorem dX7_isInRange_113 : decode cX7_isInRange 113 = .ok (.ifCond .eq 15, 3) := by decide +kernel
theorem dX7_isInRange_116 : decode cX7_isInRange 116 = .ok (.lload_n 2, 1) := by decide +kernel
theorem dX7_isInRange_117 : decode cX7_isInRange 117 = .ok (.ldc2_w 148, 3) := by decide +kernel
theorem dX7_isInRange_120 : decode cX7_isInRange 120 = .ok (.lcmp, 1) := by decide +kernel
theorem dX7_isInRange_121 : decode cX7_isInRange 121 = .ok (.ifCond .ne 7, 3) := by decide +kernel
theorem dX7_isInRange_124 : decode cX7_isInRange 124 = .ok (.iconst 1, 1) := by decide +kernel
theorem dX7_isInRange_125 : decode cX7_isInRange 125 = .ok (.goto 4, 3) := by decide +kernel
theorem dX7_isInRange_128 : decode cX7_isInRange 128 = .ok (.iconst 0, 1) := by decide +kernel
theorem dX7_isInRange_129 : decode cX7_isInRange 129 = .ok (.ireturn, 1) := by decide +kernel
theorem dX7_isInRange_130 : decode cX7_isInRange 130 = .ok (.iload 4, 2) := by decide +kernel
theorem dX7_isInRange_132 : decode cX7_isInRange 132 = .ok (.ifCond .eq 25, 3) := by decide +kernel
theorem dX7_isInRange_135 : decode cX7_isInRange 135 = .ok (.lload_n 2, 1) := by decide +kernel
theorem dX7_isInRange_136 : decode cX7_isInRange 136 = .ok (.iload_n 1, 1) := by decide +kernel
theorem dX7_isInRange_137 : decode cX7_isInRange 137 = .ok (.ifCond .eq 9, 3) := by decide +kernel
theorem dX7_isInRange_140 : decode cX7_isInRange 140 = .ok (.ldc2_w 150, 3) := by decide +kernel
theorem dX7_isInRange_143 : decode cX7_isInRange 143 = .ok (.goto 6, 3) := by decide +kernel
theorem dX7_isInRange_146 : decode cX7_isInRange 146 = .ok (.ldc2_w 152, 3) := by decide +kernel
theorem dX7_isInRange_149 : decode cX7_isInRange 149 = .ok (.lcmp, 1) := by decide +kernel
theorem dX7_isInRange_150 : decode cX7_isInRange 150 = .ok (.ifCond .gt 7, 3) := by decide +kernel
theorem dX7_isInRange_153 : decode cX7_isInRange 153 = .ok (.iconst 1, 1) := by decide +kernel
theorem dX7_isInRange_154 : decode cX7_isInRange 154 = .ok (.goto 4, 3) := by decide +kernel
theorem dX7_isInRange_157 : decode cX7_isInRange 157 = .ok (.iconst 0, 1) := by decide +kernel
theorem dX7_isInRange_158 : decode cX7_isInRange 158 = .ok (.ireturn, 1) := by decide +kernel
theorem dX7_readNumber_0 : decode cX7_readNumber 0 = .ok (.aload_n 0, 1) := by decide +kernel
theorem dX7_readNumber_1 : decode cX7_readNumber 1 = .ok (.getfield 9, 3) := by decide +kernel
theorem dX7_readNumber_4 : decode cX7_readNumber 4 = .ok (.aload_n 0, 1) := by decide +kernel
theorem dX7_readNumber_5 : decode cX7_readNumber 5 = .ok (.getfield 26, 3) := by decide +kernel
theorem dX7_readNumber_8 : decode cX7_readNumber 8 = .ok (.invokevirtual 50, 3) := by decide +kernel
theorem dX7_readNumber_11 : decode cX7_readNumber 11 = .ok (.bipush 45, 2) := by decide +kernel
theorem dX7_readNumber_13 : decode cX7_readNumber 13 = .ok (.if_icmp .ne 7, 3) := by decide +kernel
theorem dX7_readNumber_16 : decode cX7_readNumber 16 = .ok (.iconst 1, 1) := by decide +kernel
theorem dX7_readNumber_17 : decode cX7_readNumber 17 = .ok (.goto 4, 3) := by decide +kernel
theorem dX7_readNumber_20 : decode cX7_readNumber 20 = .ok (.iconst 0, 1) := by decide +kernel
theorem dX7_readNumber_21 : decode cX7_readNumber 21 = .ok (.istore_n 2, 1) := by decide +kernel
theorem dX7_readNumber_22 : decode cX7_readNumber 22 = .ok (.iload_n 2, 1) := by decide +kernel
theorem dX7_readNumber_23 : decode cX7_readNumber 23 = .ok (.ifCond .eq 13, 3) := by decide +kernel
theorem dX7_readNumber_26 : decode cX7_readNumber 26 = .ok (.aload_n 0, 1) := by decide +kernel
theorem dX7_readNumber_27 : decode cX7_readNumber 27 = .ok (.dup, 1) := by decide +kernel
theorem dX7_readNumber_28 : decode cX7_readNumber 28 = .ok (.getfield 26, 3) := by decide +kernel
theorem dX7_readNumber_31 : decode cX7_readNumber 31 = .ok (.iconst 1, 1) := by decide +kernel
theorem dX7_readNumber_32 : decode cX7_readNumber 32 = .ok (.iadd, 1) := by decide +kernel
theorem dX7_readNumber_33 : decode cX7_readNumber 33 = .ok (.putfield 26, 3) := by decide +kernel
theorem dX7_readNumber_36 : decode cX7_readNumber 36 = .ok (.aload_n 0, 1) := by decide +kernel
theorem dX7_readNumber_37 : decode cX7_readNumber 37 = .ok (.getfield 26, 3) := by decide +kernel
theorem dX7_readNumber_40 : decode cX7_readNumber 40 = .ok (.istore_n 3, 1) := by decide +kernel
theorem dX7_readNumber_41 : decode cX7_readNumber 41 = .ok (.lconst 0, 1) := by decide +kernel
theorem dX7_readNumber_42 : decode cX7_readNumber 42 = .ok (.lstore 4, 2) := by decide +kernel
theorem dX7_readNumber_44 : decode cX7_readNumber 44 = .ok (.aload_n 0, 1) := by decide +kernel
theorem dX7_readNumber_45 : decode cX7_readNumber 45 = .ok (.getfield 26, 3) := by decide +kernel
theorem dX7_readNumber_48 : decode cX7_readNumber 48 = .ok (.aload_n 0, 1) := by decide +kernel
theorem dX7_readNumber_49 : decode cX7_readNumber 49 = .ok (.getfield 9, 3) := by decide +kernel
theorem dX7_readNumber_52 : decode cX7_readNumber 52 = .ok (.invokevirtual 58, 3) := by decide +kernel
theorem dX7_readNumber_55 : decode cX7_readNumber 55 = .ok (.if_icmp .ge 109, 3) := by decide +kernel
theorem dX7_readNumber_58 : decode cX7_readNumber 58 = .ok (.aload_n 0, 1) := by decide +kernel
theorem dX7_readNumber_59 : decode cX7_readNumber 59 = .ok (.getfield 9, 3) := by decide +kernel
theorem dX7_readNumber_62 : decode cX7_readNumber 62 = .ok (.aload_n 0, 1) := by decide +kernel
theorem dX7_readNumber_63 : decode cX7_readNumber 63 = .ok (.getfield 26, 3) := by decide +kernel
theorem dX7_readNumber_66 : decode cX7_readNumber 66 = .ok (.invokevirtual 50, 3) := by decide +kernel
theorem dX7_readNumber_69 : decode cX7_readNumber 69 = .ok (.bipush 48, 2) := by decide +kernel
theorem dX7_readNumber_71 : decode cX7_readNumber 71 = .ok (.if_icmp .lt 93, 3) := by decide +kernel
theorem dX7_readNumber_74 : decode cX7_readNumber 74 = .ok (.aload_n 0, 1) := by decide +kernel
theorem dX7_readNumber_75 : decode cX7_readNumber 75 = .ok (.getfield 9, 3) := by decide +kernel
theorem dX7_readNumber_78 : decode cX7_readNumber 78 = .ok (.aload_n 0, 1) := by decide +kernel
theorem dX7_readNumber_79 : decode cX7_readNumber 79 = .ok (.getfield 26, 3) := by decide +kernel
theorem dX7_readNumber_82 : decode cX7_readNumber 82 = .ok (.invokevirtual 50, 3) := by decide +kernel
theorem dX7_readNumber_85 : decode cX7_readNumber 85 = .ok (.bipush 57, 2) := by decide +kernel
theorem dX7_readNumber_87 : decode cX7_readNumber 87 = .ok (.if_icmp .gt 77, 3) := by decide +kernel
theorem dX7_readNumber_90 : decode cX7_readNumber 90 = .ok (.aload_n 0, 1) := by decide +kernel
theorem dX7_readNumber_91 : decode cX7_readNumber 91 = .ok (.getfield 9, 3) := by decide +kernel
theorem dX7_readNumber_94 : decode cX7_readNumber 94 = .ok (.aload_n 0, 1) := by decide +kernel
theorem dX7_readNumber_95 : decode cX7_readNumber 95 = .ok (.getfield 26, 3) := by decide +kernel
theorem dX7_readNumber_98 : decode cX7_readNumber 98 = .ok (.invokevirtual 50, 3) := by decide +kernel
theorem dX7_readNumber_101 : decode cX7_readNumber 101 = .ok (.bipush 48, 2) := by decide +kernel
theorem dX7_readNumber_103 : decode cX7_readNumber 103 = .ok (.isub, 1) := by decide +kernel
theorem dX7_readNumber_104 : decode cX7_readNumber 104 = .ok (.istore 6, 2) := by decide +kernel
theorem dX7_readNumber_106 : decode cX7_readNumber 106 = .ok (.lload 4, 2) := by decide +kernel
theorem dX7_readNumber_108 : decode cX7_readNumber 108 = .ok (.lconst 0, 1) := by decide +kernel
theorem dX7_readNumber_109 : decode cX7_readNumber 109 = .ok (.lcmp, 1) := by decide +kernel
theorem dX7_readNumber_110 : decode cX7_readNumber 110 = .ok (.ifCond .lt 27, 3) := by decide +kernel
theorem dX7_readNumber_113 : decode cX7_readNumber 113 = .ok (.lload 4, 2) := by decide +kernel
theorem dX7_readNumber_115 : decode cX7_readNumber 115 = .ok (.ldc2_w 136, 3) := by decide +kernel
theorem dX7_readNumber_118 : decode cX7_readNumber 118 = .ok (.lcmp, 1) := by decide +kernel
theorem dX7_readNumber_119 : decode cX7_readNumber 119 = .ok (.ifCond .gt 18, 3) := by decide +kernel
theorem dX7_readNumber_122 : decode cX7_readNumber 122 = .ok (.lload 4, 2) := by decide +kernel
theorem dX7_readNumber_124 : decode cX7_readNumber 124 = .ok (.ldc2_w 136, 3) := by decide +kernel
theorem dX7_readNumber_127 : decode cX7_readNumber 127 = .ok (.lcmp, 1) := by decide +kernel
theorem dX7_readNumber_128 : decode cX7_readNumber 128 = .ok (.ifCond .ne 11, 3) := by decide +kernel
theorem dX7_readNumber_131 : decode cX7_readNumber 131 = .ok (.iload 6, 2) := by decide +kernel
theorem dX7_readNumber_133 : decode cX7_readNumber 133 = .ok (.iconst 5, 1) := by decide +kernel
theorem dX7_readNumber_134 : decode cX7_readNumber 134 = .ok (.if_icmp .le 5, 3) := by decide +kernel
theorem dX7_readNumber_137 : decode cX7_readNumber 137 = .ok (.iconst 0, 1) := by decide +kernel
theorem dX7_readNumber_138 : decode cX7_readNumber 138 = .ok (.ireturn, 1) := by decide +kernel
theorem dX7_readNumber_139 : decode cX7_readNumber 139 = .ok (.lload 4, 2) := by decide +kernel
theorem dX7_readNumber_141 : decode cX7_readNumber 141 = .ok (.ldc2_w 138, 3) := by decide +kernel
theorem dX7_readNumber_144 : decode cX7_readNumber 144 = .ok (.lmul, 1) := by decide +kernel
theorem dX7_readNumber_145 : decode cX7_readNumber 145 = .ok (.iload 6, 2) := by decide +kernel
theorem dX7_readNumber_147 : decode cX7_readNumber 147 = .ok (.i2l, 1) := by decide +kernel
theorem dX7_readNumber_148 : decode cX7_readNumber 148 = .ok (.ladd, 1) := by decide +kernel
theorem dX7_readNumber_149 : decode cX7_readNumber 149 = .ok (.lstore 4, 2) := by decide +kernel
theorem dX7_readNumber_151 : decode cX7_readNumber 151 = .ok (.aload_n 0, 1) := by decide +kernel
theorem dX7_readNumber_152 : decode cX7_readNumber 152 = .ok (.dup, 1) := by decide +kernel
theorem dX7_readNumber_153 : decode cX7_readNumber 153 = .ok (.getfield 26, 3) := by decide +kernel
theorem dX7_readNumber_156 : decode cX7_readNumber 156 = .ok (.iconst 1, 1) := by decide +kernel
theorem dX7_readNumber_157 : decode cX7_readNumber 157 = .ok (.iadd, 1) := by decide +kernel
theorem dX7_readNumber_158 : decode cX7_readNumber 158 = .ok (.putfield 26, 3) := by decide +kernel
theorem dX7_readNumber_161 : decode cX7_readNumber 161 = .ok (.goto (-117), 3) := by decide +kernel
theorem dX7_readNumber_164 : decode cX7_readNumber 164 = .ok (.aload_n 0, 1) := by decide +kernel
theorem dX7_readNumber_165 : decode cX7_readNumber 165 = .ok (.getfield 26, 3) := by decide +kernel
theorem dX7_readNumber_168 : decode cX7_readNumber 168 = .ok (.iload_n 3, 1) := by decide +kernel
theorem dX7_readNumber_169 : decode cX7_readNumber 169 = .ok (.if_icmp .eq 30, 3) := by decide +kernel
theorem dX7_readNumber_172 : decode cX7_readNumber 172 = .ok (.aload_n 0, 1) := by decide +kernel
theorem dX7_readNumber_173 : decode cX7_readNumber 173 = .ok (.getfield 9, 3) := by decide +kernel
theorem dX7_readNumber_176 : decode cX7_readNumber 176 = .ok (.aload_n 0, 1) := by decide +kernel
theorem dX7_readNumber_177 : decode cX7_readNumber 177 = .ok (.getfield 26, 3) := by decide +kernel
theorem dX7_readNumber_180 : decode cX7_readNumber 180 = .ok (.invokevirtual 50, 3) := by decide +kernel
theorem dX7_readNumber_183 : decode cX7_readNumber 183 = .ok (.invokestatic 66, 3) := by decide +kernel
theorem dX7_readNumber_186 : decode cX7_readNumber 186 = .ok (.ifCond .ne 13, 3) := by decide +kernel
theorem dX7_readNumber_189 : decode cX7_readNumber 189 = .ok (.iload_n 1, 1) := by decide +kernel
theorem dX7_readNumber_190 : decode cX7_readNumber 190 = .ok (.iload_n 2, 1) := by decide +kernel
theorem dX7_readNumber_191 : decode cX7_readNumber 191 = .ok (.lload 4, 2) := by decide +kernel
theorem dX7_readNumber_193 : decode cX7_readNumber 193 = .ok (.invokestatic 140, 3) := by decide +kernel
theorem dX7_readNumber_196 : decode cX7_readNumber 196 = .ok (.ifCond .ne 5, 3) := by decide +kernel
theorem dX7_readNumber_199 : decode cX7_readNumber 199 = .ok (.iconst 0, 1) := by decide +kernel
theorem dX7_readNumber_200 : decode cX7_readNumber 200 = .ok (.ireturn, 1) := by decide +kernel
theorem dX7_readNumber_201 : decode cX7_readNumber 201 = .ok (.aload_n 0, 1) := by decide +kernel
theorem dX7_readNumber_202 : decode cX7_readNumber 202 = .ok (.iload_n 2, 1) := by decide +kernel
theorem dX7_readNumber_203 : decode cX7_readNumber 203 = .ok (.ifCond .eq 9, 3) := by decide +kernel
theorem dX7_readNumber_206 : decode cX7_readNumber 206 = .ok (.lload 4, 2) := by decide +kernel
theorem dX7_readNumber_208 : decode cX7_readNumber 208 = .ok (.lneg, 1) := by decide +kernel
theorem dX7_readNumber_209 : decode cX7_readNumber 209 = .ok (.goto 5, 3) := by decide +kernel
theorem dX7_readNumber_212 : decode cX7_readNumber 212 = .ok (.lload 4, 2) := by decide +kernel
theorem dX7_readNumber_214 : decode cX7_readNumber 214 = .ok (.putfield 122, 3) := by decide +kernel
theorem dX7_readNumber_217 : decode cX7_readNumber 217 = .ok (.iconst 1, 1) := by decide +kernel
theorem dX7_readNumber_218 : decode cX7_readNumber 218 = .ok (.ireturn, 1) := by decide +kernel
theorem dX7_readValue_0 : decode cX7_readValue 0 = .ok (.aload_n 2, 1) := by decide +kernel
theorem dX7_readValue_1 : decode cX7_readValue 1 = .ok (.getfield 86, 3) := by decide +kernel
theorem dX7_readValue_4 : decode cX7_readValue 4 = .ok (.invokestatic 101, 3) := by decide +kernel
theorem dX7_readValue_7 : decode cX7_readValue 7 = .ok (.ifCond .ne 13, 3) := by decide +kernel
theorem dX7_readValue_10 : decode cX7_readValue 10 = .ok (.aload_n 0, 1) := by decide +kernel
theorem dX7_readValue_11 : decode cX7_readValue 11 = .ok (.aload_n 1, 1) := by decide +kernel
theorem dX7_readValue_12 : decode cX7_readValue 12 = .ok (.aload_n 2, 1) := by decide +kernel
theorem dX7_readValue_13 : decode cX7_readValue 13 = .ok (.getfield 86, 3) := by decide +kernel
theorem dX7_readValue_16 : decode cX7_readValue 16 = .ok (.invokevirtual 104, 3) := by decide +kernel
theorem dX7_readValue_19 : decode cX7_readValue 19 = .ok (.ireturn, 1) := by decide +kernel
theorem dX7_readValue_20 : decode cX7_readValue 20 = .ok (.aload_n 2, 1) := by decide +kernel
theorem dX7_readValue_21 : decode cX7_readValue 21 = .ok (.getfield 86, 3) := by decide +kernel
theorem dX7_readValue_24 : decode cX7_readValue 24 = .ok (.bipush 10, 2) := by decide +kernel
theorem dX7_readValue_26 : decode cX7_readValue 26 = .ok (.if_icmp .ne 11, 3) := by decide +kernel
theorem dX7_readValue_29 : decode cX7_readValue 29 = .ok (.aload_n 0, 1) := by decide +kernel
theorem dX7_readValue_30 : decode cX7_readValue 30 = .ok (.invokevirtual 108, 3) := by decide +kernel
theorem dX7_readValue_33 : decode cX7_readValue 33 = .ok (.istore_n 3, 1) := by decide +kernel
theorem dX7_readValue_34 : decode cX7_readValue 34 = .ok (.goto 50, 3) := by decide +kernel
theorem dX7_readValue_37 : decode cX7_readValue 37 = .ok (.aload_n 2, 1) := by decide +kernel
theorem dX7_readValue_38 : decode cX7_readValue 38 = .ok (.getfield 86, 3) := by decide +kernel
theorem dX7_readValue_41 : decode cX7_readValue 41 = .ok (.bipush 14, 2) := by decide +kernel
theorem dX7_readValue_43 : decode cX7_readValue 43 = .ok (.if_icmp .ne 32, 3) := by decide +kernel
theorem dX7_readValue_46 : decode cX7_readValue 46 = .ok (.aload_n 0, 1) := by decide +kernel
theorem dX7_readValue_47 : decode cX7_readValue 47 = .ok (.getfield 9, 3) := by decide +kernel
theorem dX7_readValue_50 : decode cX7_readValue 50 = .ok (.aload_n 0, 1) := by decide +kernel
theorem dX7_readValue_51 : decode cX7_readValue 51 = .ok (.getfield 26, 3) := by decide +kernel
theorem dX7_readValue_54 : decode cX7_readValue 54 = .ok (.invokevirtual 50, 3) := by decide +kernel
theorem dX7_readValue_57 : decode cX7_readValue 57 = .ok (.invokestatic 112, 3) := by decide +kernel
theorem dX7_readValue_60 : decode cX7_readValue 60 = .ok (.ifCond .eq 15, 3) := by decide +kernel
theorem dX7_readValue_63 : decode cX7_readValue 63 = .ok (.aload_n 0, 1) := by decide +kernel
theorem dX7_readValue_64 : decode cX7_readValue 64 = .ok (.aload_n 2, 1) := by decide +kernel
theorem dX7_readValue_65 : decode cX7_readValue 65 = .ok (.getfield 95, 3) := by decide +kernel
theorem dX7_readValue_68 : decode cX7_readValue 68 = .ok (.invokevirtual 115, 3) := by decide +kernel
theorem dX7_readValue_71 : decode cX7_readValue 71 = .ok (.istore_n 3, 1) := by decide +kernel
theorem dX7_readValue_72 : decode cX7_readValue 72 = .ok (.goto 12, 3) := by decide +kernel
theorem dX7_readValue_75 : decode cX7_readValue 75 = .ok (.aload_n 0, 1) := by decide +kernel
theorem dX7_readValue_76 : decode cX7_readValue 76 = .ok (.aload_n 2, 1) := by decide +kernel
theorem dX7_readValue_77 : decode cX7_readValue 77 = .ok (.getfield 86, 3) := by decide +kernel
theorem dX7_readValue_80 : decode cX7_readValue 80 = .ok (.invokevirtual 119, 3) := by decide +kernel
theorem dX7_readValue_83 : decode cX7_readValue 83 = .ok (.istore_n 3, 1) := by decide +kernel
theorem dX7_readValue_84 : decode cX7_readValue 84 = .ok (.aload_n 1, 1) := by decide +kernel
theorem dX7_readValue_85 : decode cX7_readValue 85 = .ok (.aload_n 0, 1) := by decide +kernel
theorem dX7_readValue_86 : decode cX7_readValue 86 = .ok (.getfield 122, 3) := by decide +kernel
theorem dX7_readValue_89 : decode cX7_readValue 89 = .ok (.putfield 126, 3) := by decide +kernel
theorem dX7_readValue_92 : decode cX7_readValue 92 = .ok (.iload_n 3, 1) := by decide +kernel
theorem dX7_readValue_93 : decode cX7_readValue 93 = .ok (.ireturn, 1) := by decide +kernel
theorem dX7_readField_0 : decode cX7_readField 0 = .ok (.aload_n 0, 1) := by decide +kernel
theorem dX7_readField_1 : decode cX7_readField 1 = .ok (.getfield 26, 3) := by decide +kernel
theorem dX7_readField_4 : decode cX7_readField 4 = .ok (.istore 4, 2) := by decide +kernel
theorem dX7_readField_6 : decode cX7_readField 6 = .ok (.aload_n 0, 1) := by decide +kernel
theorem dX7_readField_7 : decode cX7_readField 7 = .ok (.invokevirtual 69, 3) := by decide +kernel
theorem dX7_readField_10 : decode cX7_readField 10 = .ok (.aload_n 0, 1) := by decide +kernel
theorem dX7_readField_11 : decode cX7_readField 11 = .ok (.getfield 15, 3) := by decide +kernel
theorem dX7_readField_14 : decode cX7_readField 14 = .ok (.getfield 72, 3) := by decide +kernel
theorem dX7_readField_17 : decode cX7_readField 17 = .ok (.ifnonnull 7, 3) := by decide +kernel
theorem dX7_readField_20 : decode cX7_readField 20 = .ok (.aconst_null, 1) := by decide +kernel
theorem dX7_readField_21 : decode cX7_readField 21 = .ok (.goto 24, 3) := by decide +kernel
theorem dX7_readField_24 : decode cX7_readField 24 = .ok (.aload_n 0, 1) := by decide +kernel
theorem dX7_readField_25 : decode cX7_readField 25 = .ok (.getfield 15, 3) := by decide +kernel
theorem dX7_readField_28 : decode cX7_readField 28 = .ok (.getfield 72, 3) := by decide +kernel
theorem dX7_readField_31 : decode cX7_readField 31 = .ok (.aload_n 2, 1) := by decide +kernel
theorem dX7_readField_32 : decode cX7_readField 32 = .ok (.aload_n 0, 1) := by decide +kernel
theorem dX7_readField_33 : decode cX7_readField 33 = .ok (.getfield 9, 3) := by decide +kernel
theorem dX7_readField_36 : decode cX7_readField 36 = .ok (.iload 4, 2) := by decide +kernel
theorem dX7_readField_38 : decode cX7_readField 38 = .ok (.aload_n 0, 1) := by decide +kernel
theorem dX7_readField_39 : decode cX7_readField 39 = .ok (.getfield 26, 3) := by decide +kernel
theorem dX7_readField_42 : decode cX7_readField 42 = .ok (.invokevirtual 76, 3) := by decide +kernel
theorem dX7_readField_45 : decode cX7_readField 45 = .ok (.astore 5, 2) := by decide +kernel
theorem dX7_readField_47 : decode cX7_readField 47 = .ok (.aload 5, 2) := by decide +kernel
theorem dX7_readField_49 : decode cX7_readField 49 = .ok (.ifnull 16, 3) := by decide +kernel
theorem dX7_readField_52 : decode cX7_readField 52 = .ok (.aload_n 0, 1) := by decide +kernel
theorem dX7_readField_53 : decode cX7_readField 53 = .ok (.getfield 15, 3) := by decide +kernel
theorem dX7_readField_56 : decode cX7_readField 56 = .ok (.aload_n 1, 1) := by decide +kernel
theorem dX7_readField_57 : decode cX7_readField 57 = .ok (.aload 5, 2) := by decide +kernel
theorem dX7_readField_59 : decode cX7_readField 59 = .ok (.invokevirtual 82, 3) := by decide +kernel
theorem dX7_readField_62 : decode cX7_readField 62 = .ok (.ifCond .eq 5, 3) := by decide +kernel
theorem dX7_readField_65 : decode cX7_readField 65 = .ok (.iconst 0, 1) := by decide +kernel
theorem dX7_readField_66 : decode cX7_readField 66 = .ok (.ireturn, 1) := by decide +kernel
theorem dX7_readField_67 : decode cX7_readField 67 = .ok (.aload_n 0, 1) := by decide +kernel
theorem dX7_readField_68 : decode cX7_readField 68 = .ok (.invokevirtual 47, 3) := by decide +kernel
theorem dX7_readField_71 : decode cX7_readField 71 = .ok (.aload_n 0, 1) := by decide +kernel
theorem dX7_readField_72 : decode cX7_readField 72 = .ok (.getfield 9, 3) := by decide +kernel
theorem dX7_readField_75 : decode cX7_readField 75 = .ok (.aload_n 0, 1) := by decide +kernel
theorem dX7_readField_76 : decode cX7_readField 76 = .ok (.getfield 26, 3) := by decide +kernel
theorem dX7_readField_79 : decode cX7_readField 79 = .ok (.invokevirtual 50, 3) := by decide +kernel
theorem dX7_readField_82 : decode cX7_readField 82 = .ok (.aload 5, 2) := by decide +kernel
theorem dX7_readField_84 : decode cX7_readField 84 = .ok (.getfield 86, 3) := by decide +kernel
theorem dX7_readField_87 : decode cX7_readField 87 = .ok (.bipush 13, 2) := by decide +kernel
theorem dX7_readField_89 : decode cX7_readField 89 = .ok (.if_icmp .ne 8, 3) := by decide +kernel
theorem dX7_readField_92 : decode cX7_readField 92 = .ok (.bipush 123, 2) := by decide +kernel
theorem dX7_readField_94 : decode cX7_readField 94 = .ok (.goto 5, 3) := by decide +kernel
theorem dX7_readField_97 : decode cX7_readField 97 = .ok (.bipush 58, 2) := by decide +kernel
theorem dX7_readField_99 : decode cX7_readField 99 = .ok (.if_icmp .eq 5, 3) := by decide +kernel
theorem dX7_readField_102 : decode cX7_readField 102 = .ok (.iconst 0, 1) := by decide +kernel
theorem dX7_readField_103 : decode cX7_readField 103 = .ok (.ireturn, 1) := by decide +kernel
theorem dX7_readField_104 : decode cX7_readField 104 = .ok (.aload_n 0, 1) := by decide +kernel
theorem dX7_readField_105 : decode cX7_readField 105 = .ok (.dup, 1) := by decide +kernel
theorem dX7_readField_106 : decode cX7_readField 106 = .ok (.getfield 26, 3) := by decide +kernel
theorem dX7_readField_109 : decode cX7_readField 109 = .ok (.iconst 1, 1) := by decide +kernel
theorem dX7_readField_110 : decode cX7_readField 110 = .ok (.iadd, 1) := by decide +kernel
theorem dX7_readField_111 : decode cX7_readField 111 = .ok (.putfield 26, 3) := by decide +kernel
theorem dX7_readField_114 : decode cX7_readField 114 = .ok (.aload_n 0, 1) := by decide +kernel
theorem dX7_readField_115 : decode cX7_readField 115 = .ok (.getfield 15, 3) := by decide +kernel
theorem dX7_readField_118 : decode cX7_readField 118 = .ok (.aload_n 1, 1) := by decide +kernel
theorem dX7_readField_119 : decode cX7_readField 119 = .ok (.aload 5, 2) := by decide +kernel
theorem dX7_readField_121 : decode cX7_readField 121 = .ok (.invokevirtual 91, 3) := by decide +kernel
theorem dX7_readField_124 : decode cX7_readField 124 = .ok (.astore 6, 2) := by decide +kernel
theorem dX7_readField_126 : decode cX7_readField 126 = .ok (.aload 6, 2) := by decide +kernel
theorem dX7_readField_128 : decode cX7_readField 128 = .ok (.ifnonnull 5, 3) := by decide +kernel
theorem dX7_readField_131 : decode cX7_readField 131 = .ok (.iconst 0, 1) := by decide +kernel
theorem dX7_readField_132 : decode cX7_readField 132 = .ok (.ireturn, 1) := by decide +kernel
theorem dX7_readField_133 : decode cX7_readField 133 = .ok (.aload 5, 2) := by decide +kernel
theorem dX7_readField_135 : decode cX7_readField 135 = .ok (.getfield 86, 3) := by decide +kernel
theorem dX7_readField_138 : decode cX7_readField 138 = .ok (.bipush 13, 2) := by decide +kernel
theorem dX7_readField_140 : decode cX7_readField 140 = .ok (.if_icmp .ne 18, 3) := by decide +kernel
theorem dX7_readField_143 : decode cX7_readField 143 = .ok (.aload_n 0, 1) := by decide +kernel
theorem dX7_readField_144 : decode cX7_readField 144 = .ok (.aload 6, 2) := by decide +kernel
theorem dX7_readField_146 : decode cX7_readField 146 = .ok (.aload 5, 2) := by decide +kernel
theorem dX7_readField_148 : decode cX7_readField 148 = .ok (.getfield 95, 3) := by decide +kernel
theorem dX7_readField_151 : decode cX7_readField 151 = .ok (.iload_n 3, 1) := by decide +kernel
theorem dX7_readField_152 : decode cX7_readField 152 = .ok (.iconst 1, 1) := by decide +kernel
theorem dX7_readField_153 : decode cX7_readField 153 = .ok (.iadd, 1) := by decide +kernel
theorem dX7_readField_154 : decode cX7_readField 154 = .ok (.invokevirtual 43, 3) := by decide +kernel
theorem dX7_readField_157 : decode cX7_readField 157 = .ok (.ireturn, 1) := by decide +kernel
theorem dX7_readField_158 : decode cX7_readField 158 = .ok (.aload_n 0, 1) := by decide +kernel
theorem dX7_readField_159 : decode cX7_readField 159 = .ok (.invokevirtual 47, 3) := by decide +kernel
theorem dX7_readField_162 : decode cX7_readField 162 = .ok (.aload_n 0, 1) := by decide +kernel
theorem dX7_readField_163 : decode cX7_readField 163 = .ok (.aload 6, 2) := by decide +kernel
theorem dX7_readField_165 : decode cX7_readField 165 = .ok (.aload 5, 2) := by decide +kernel
theorem dX7_readField_167 : decode cX7_readField 167 = .ok (.invokevirtual 98, 3) := by decide +kernel
theorem dX7_readField_170 : decode cX7_readField 170 = .ok (.ireturn, 1) := by decide +kernel
theorem dX7_readMessage_0 : decode cX7_readMessage 0 = .ok (.aload_n 2, 1) := by decide +kernel
theorem dX7_readMessage_1 : decode cX7_readMessage 1 = .ok (.ifnull 11, 3) := by decide +kernel
theorem dX7_readMessage_4 : decode cX7_readMessage 4 = .ok (.iload_n 3, 1) := by decide +kernel
theorem dX7_readMessage_5 : decode cX7_readMessage 5 = .ok (.aload_n 0, 1) := by decide +kernel
theorem dX7_readMessage_6 : decode cX7_readMessage 6 = .ok (.getfield 30, 3) := by decide +kernel
theorem dX7_readMessage_9 : decode cX7_readMessage 9 = .ok (.if_icmp .le 5, 3) := by decide +kernel
theorem dX7_readMessage_12 : decode cX7_readMessage 12 = .ok (.iconst 0, 1) := by decide +kernel
theorem dX7_readMessage_13 : decode cX7_readMessage 13 = .ok (.ireturn, 1) := by decide +kernel
theorem dX7_readMessage_14 : decode cX7_readMessage 14 = .ok (.iconst 0, 1) := by decide +kernel
theorem dX7_readMessage_15 : decode cX7_readMessage 15 = .ok (.istore 4, 2) := by decide +kernel
theorem dX7_readMessage_17 : decode cX7_readMessage 17 = .ok (.iload 4, 2) := by decide +kernel
theorem dX7_readMessage_19 : decode cX7_readMessage 19 = .ok (.sipush 700, 3) := by decide +kernel
theorem dX7_readMessage_22 : decode cX7_readMessage 22 = .ok (.if_icmp .gt 82, 3) := by decide +kernel
theorem dX7_readMessage_25 : decode cX7_readMessage 25 = .ok (.aload_n 0, 1) := by decide +kernel
theorem dX7_readMessage_26 : decode cX7_readMessage 26 = .ok (.invokevirtual 47, 3) := by decide +kernel
theorem dX7_readMessage_29 : decode cX7_readMessage 29 = .ok (.aload_n 0, 1) := by decide +kernel
theorem dX7_readMessage_30 : decode cX7_readMessage 30 = .ok (.getfield 9, 3) := by decide +kernel
theorem dX7_readMessage_33 : decode cX7_readMessage 33 = .ok (.aload_n 0, 1) := by decide +kernel
theorem dX7_readMessage_34 : decode cX7_readMessage 34 = .ok (.getfield 26, 3) := by decide +kernel
theorem dX7_readMessage_37 : decode cX7_readMessage 37 = .ok (.invokevirtual 50, 3) := by decide +kernel
theorem dX7_readMessage_40 : decode cX7_readMessage 40 = .ok (.istore 5, 2) := by decide +kernel
theorem dX7_readMessage_42 : decode cX7_readMessage 42 = .ok (.iload 5, 2) := by decide +kernel
theorem dX7_readMessage_44 : decode cX7_readMessage 44 = .ok (.ifCond .ge 14, 3) := by decide +kernel
theorem dX7_readMessage_47 : decode cX7_readMessage 47 = .ok (.iload_n 3, 1) := by decide +kernel
theorem dX7_readMessage_48 : decode cX7_readMessage 48 = .ok (.iconst 1, 1) := by decide +kernel
theorem dX7_readMessage_49 : decode cX7_readMessage 49 = .ok (.if_icmp .ne 7, 3) := by decide +kernel
theorem dX7_readMessage_52 : decode cX7_readMessage 52 = .ok (.iconst 1, 1) := by decide +kernel
theorem dX7_readMessage_53 : decode cX7_readMessage 53 = .ok (.goto 4, 3) := by decide +kernel
theorem dX7_readMessage_56 : decode cX7_readMessage 56 = .ok (.iconst 0, 1) := by decide +kernel
theorem dX7_readMessage_57 : decode cX7_readMessage 57 = .ok (.ireturn, 1) := by decide +kernel
theorem dX7_readMessage_58 : decode cX7_readMessage 58 = .ok (.iload 5, 2) := by decide +kernel
theorem dX7_readMessage_60 : decode cX7_readMessage 60 = .ok (.bipush 125, 2) := by decide +kernel
theorem dX7_readMessage_62 : decode cX7_readMessage 62 = .ok (.if_icmp .ne 24, 3) := by decide +kernel
theorem dX7_readMessage_65 : decode cX7_readMessage 65 = .ok (.aload_n 0, 1) := by decide +kernel
theorem dX7_readMessage_66 : decode cX7_readMessage 66 = .ok (.dup, 1) := by decide +kernel
theorem dX7_readMessage_67 : decode cX7_readMessage 67 = .ok (.getfield 26, 3) := by decide +kernel
theorem dX7_readMessage_70 : decode cX7_readMessage 70 = .ok (.iconst 1, 1) := by decide +kernel
theorem dX7_readMessage_71 : decode cX7_readMessage 71 = .ok (.iadd, 1) := by decide +kernel
theorem dX7_readMessage_72 : decode cX7_readMessage 72 = .ok (.putfield 26, 3) := by decide +kernel
theorem dX7_readMessage_75 : decode cX7_readMessage 75 = .ok (.iload_n 3, 1) := by decide +kernel
theorem dX7_readMessage_76 : decode cX7_readMessage 76 = .ok (.iconst 1, 1) := by decide +kernel
theorem dX7_readMessage_77 : decode cX7_readMessage 77 = .ok (.if_icmp .le 7, 3) := by decide +kernel
theorem dX7_readMessage_80 : decode cX7_readMessage 80 = .ok (.iconst 1, 1) := by decide +kernel
theorem dX7_readMessage_81 : decode cX7_readMessage 81 = .ok (.goto 4, 3) := by decide +kernel
theorem dX7_readMessage_84 : decode cX7_readMessage 84 = .ok (.iconst 0, 1) := by decide +kernel
theorem dX7_readMessage_85 : decode cX7_readMessage 85 = .ok (.ireturn, 1) := by decide +kernel
theorem dX7_readMessage_86 : decode cX7_readMessage 86 = .ok (.aload_n 0, 1) := by decide +kernel
theorem dX7_readMessage_87 : decode cX7_readMessage 87 = .ok (.aload_n 1, 1) := by decide +kernel
theorem dX7_readMessage_88 : decode cX7_readMessage 88 = .ok (.aload_n 2, 1) := by decide +kernel
theorem dX7_readMessage_89 : decode cX7_readMessage 89 = .ok (.iload_n 3, 1) := by decide +kernel
theorem dX7_readMessage_90 : decode cX7_readMessage 90 = .ok (.invokevirtual 55, 3) := by decide +kernel
theorem dX7_readMessage_93 : decode cX7_readMessage 93 = .ok (.ifCond .ne 5, 3) := by decide +kernel
theorem dX7_readMessage_96 : decode cX7_readMessage 96 = .ok (.iconst 0, 1) := by decide +kernel
theorem dX7_readMessage_97 : decode cX7_readMessage 97 = .ok (.ireturn, 1) := by decide +kernel
theorem dX7_readMessage_98 : decode cX7_readMessage 98 = .ok (.iinc 4 1, 3) := by decide +kernel
theorem dX7_readMessage_101 : decode cX7_readMessage 101 = .ok (.goto (-84), 3) := by decide +kernel
theorem dX7_readMessage_104 : decode cX7_readMessage 104 = .ok (.iconst 0, 1) := by decide +kernel
theorem dX7_readMessage_105 : decode cX7_readMessage 105 = .ok (.ireturn, 1) := by decide +kernel
theorem dX7_read_0 : decode cX7_read 0 = .ok (.aload_n 0, 1) := by decide +kernel
theorem dX7_read_1 : decode cX7_read 1 = .ok (.iconst 0, 1) := by decide +kernel
theorem dX7_read_2 : decode cX7_read 2 = .ok (.putfield 26, 3) := by decide +kernel
theorem dX7_read_5 : decode cX7_read 5 = .ok (.aload_n 0, 1) := by decide +kernel
theorem dX7_read_6 : decode cX7_read 6 = .ok (.iload_n 1, 1) := by decide +kernel
theorem dX7_read_7 : decode cX7_read 7 = .ok (.putfield 30, 3) := by decide +kernel
theorem dX7_read_10 : decode cX7_read 10 = .ok (.aload_n 0, 1) := by decide +kernel
theorem dX7_read_11 : decode cX7_read 11 = .ok (.aload_n 0, 1) := by decide +kernel
theorem dX7_read_12 : decode cX7_read 12 = .ok (.getfield 15, 3) := by decide +kernel
theorem dX7_read_15 : decode cX7_read 15 = .ok (.getfield 33, 3) := by decide +kernel
theorem dX7_read_18 : decode cX7_read 18 = .ok (.aload_n 0, 1) := by decide +kernel
theorem dX7_read_19 : decode cX7_read 19 = .ok (.getfield 15, 3) := by decide +kernel
theorem dX7_read_22 : decode cX7_read 22 = .ok (.getfield 39, 3) := by decide +kernel
theorem dX7_read_25 : decode cX7_read 25 = .ok (.iconst 1, 1) := by decide +kernel
theorem dX7_read_26 : decode cX7_read 26 = .ok (.invokevirtual 43, 3) := by decide +kernel
theorem dX7_read_29 : decode cX7_read 29 = .ok (.ireturn, 1) := by decide +kernel
theorem dX11_parse_0 : decode cX11_parse 0 = .ok (.aload_n 0, 1) := by decide +kernel
theorem dX11_parse_1 : decode cX11_parse 1 = .ok (.aload_n 0, 1) := by decide +kernel
theorem dX11_parse_2 : decode cX11_parse 2 = .ok (.iload_n 1, 1) := by decide +kernel
theorem dX11_parse_3 : decode cX11_parse 3 = .ok (.iload_n 2, 1) := by decide +kernel
theorem dX11_parse_4 : decode cX11_parse 4 = .ok (.iload_n 3, 1) := by decide +kernel
theorem dX11_parse_5 : decode cX11_parse 5 = .ok (.invokevirtual 162, 3) := by decide +kernel
theorem dX11_parse_8 : decode cX11_parse 8 = .ok (.ifCond .eq 18, 3) := by decide +kernel
theorem dX11_parse_11 : decode cX11_parse 11 = .ok (.aload_n 0, 1) := by decide +kernel
theorem dX11_parse_12 : decode cX11_parse 12 = .ok (.getfield 50, 3) := by decide +kernel
theorem dX11_parse_15 : decode cX11_parse 15 = .ok (.iload_n 3, 1) := by decide +kernel
theorem dX11_parse_16 : decode cX11_parse 16 = .ok (.invokevirtual 174, 3) := by decide +kernel
theorem dX11_parse_19 : decode cX11_parse 19 = .ok (.ifCond .eq 7, 3) := by decide +kernel
theorem dX11_parse_22 : decode cX11_parse 22 = .ok (.iconst 1, 1) := by decide +kernel
theorem dX11_parse_23 : decode cX11_parse 23 = .ok (.goto 4, 3) := by decide +kernel
theorem dX11_parse_26 : decode cX11_parse 26 = .ok (.iconst 0, 1) := by decide +kernel
theorem dX11_parse_27 : decode cX11_parse 27 = .ok (.invokevirtual 170, 3) := by decide +kernel
theorem dX11_parse_30 : decode cX11_parse 30 = .ok (.ireturn, 1) := by decide +kernel
theorem dX11_place_0 : decode cX11_place 0 = .ok (.aload_n 0, 1) := by decide +kernel
theorem dX11_place_1 : decode cX11_place 1 = .ok (.getfield 63, 3) := by decide +kernel
theorem dX11_place_4 : decode cX11_place 4 = .ok (.ireturn, 1) := by decide +kernel
theorem dX7_writeIndent_0 : decode cX7_writeIndent 0 = .ok (.iconst 1, 1) := by decide +kernel
theorem dX7_writeIndent_1 : decode cX7_writeIndent 1 = .ok (.istore_n 2, 1) := by decide +kernel
theorem dX7_writeIndent_2 : decode cX7_writeIndent 2 = .ok (.iload_n 2, 1) := by decide +kernel
theorem dX7_writeIndent_3 : decode cX7_writeIndent 3 = .ok (.iload_n 1, 1) := by decide +kernel
theorem dX7_writeIndent_4 : decode cX7_writeIndent 4 = .ok (.if_icmp .ge 18, 3) := by decide +kernel
theorem dX7_writeIndent_7 : decode cX7_writeIndent 7 = .ok (.aload_n 0, 1) := by decide +kernel
theorem dX7_writeIndent_8 : decode cX7_writeIndent 8 = .ok (.getfield 19, 3) := by decide +kernel
theorem dX7_writeIndent_11 : decode cX7_writeIndent 11 = .ok (.ldc 242, 2) := by decide +kernel
theorem dX7_writeIndent_13 : decode cX7_writeIndent 13 = .ok (.invokevirtual 226, 3) := by decide +kernel
theorem dX7_writeIndent_16 : decode cX7_writeIndent 16 = .ok (.iinc 2 1, 3) := by decide +kernel
theorem dX7_writeIndent_19 : decode cX7_writeIndent 19 = .ok (.goto (-17), 3) := by decide +kernel
theorem dX7_writeIndent_22 : decode cX7_writeIndent 22 = .ok (.return_, 1) := by decide +kernel
theorem dX7_writeDecimal_0 : decode cX7_writeDecimal 0 = .ok (.lload_n 1, 1) := by decide +kernel
theorem dX7_writeDecimal_1 : decode cX7_writeDecimal 1 = .ok (.lstore_n 3, 1) := by decide +kernel
theorem dX7_writeDecimal_2 : decode cX7_writeDecimal 2 = .ok (.iconst 0, 1) := by decide +kernel
theorem dX7_writeDecimal_3 : decode cX7_writeDecimal 3 = .ok (.istore 5, 2) := by decide +kernel
theorem dX7_writeDecimal_5 : decode cX7_writeDecimal 5 = .ok (.lload_n 3, 1) := by decide +kernel
theorem dX7_writeDecimal_6 : decode cX7_writeDecimal 6 = .ok (.iconst 1, 1) := by decide +kernel
theorem dX7_writeDecimal_7 : decode cX7_writeDecimal 7 = .ok (.lushr, 1) := by decide +kernel
theorem dX7_writeDecimal_8 : decode cX7_writeDecimal 8 = .ok (.ldc2_w 256, 3) := by decide +kernel
theorem dX7_writeDecimal_11 : decode cX7_writeDecimal 11 = .ok (.ldiv, 1) := by decide +kernel
theorem dX7_writeDecimal_12 : decode cX7_writeDecimal 12 = .ok (.lstore 6, 2) := by decide +kernel
theorem dX7_writeDecimal_14 : decode cX7_writeDecimal 14 = .ok (.iload 5, 2) := by decide +kernel
theorem dX7_writeDecimal_16 : decode cX7_writeDecimal 16 = .ok (.aload_n 0, 1) := by decide +kernel
theorem dX7_writeDecimal_17 : decode cX7_writeDecimal 17 = .ok (.getfield 22, 3) := by decide +kernel
theorem dX7_writeDecimal_20 : decode cX7_writeDecimal 20 = .ok (.arraylength, 1) := by decide +kernel
theorem dX7_writeDecimal_21 : decode cX7_writeDecimal 21 = .ok (.if_icmp .ge 23, 3) := by decide +kernel
theorem dX7_writeDecimal_24 : decode cX7_writeDecimal 24 = .ok (.aload_n 0, 1) := by decide +kernel
theorem dX7_writeDecimal_25 : decode cX7_writeDecimal 25 = .ok (.getfield 22, 3) := by decide +kernel
theorem dX7_writeDecimal_28 : decode cX7_writeDecimal 28 = .ok (.iload 5, 2) := by decide +kernel
theorem dX7_writeDecimal_30 : decode cX7_writeDecimal 30 = .ok (.lload_n 3, 1) := by decide +kernel
theorem dX7_writeDecimal_31 : decode cX7_writeDecimal 31 = .ok (.lload 6, 2) := by decide +kernel
theorem dX7_writeDecimal_33 : decode cX7_writeDecimal 33 = .ok (.ldc2_w 138, 3) := by decide +kernel
theorem dX7_writeDecimal_36 : decode cX7_writeDecimal 36 = .ok (.lmul, 1) := by decide +kernel
theorem dX7_writeDecimal_37 : decode cX7_writeDecimal 37 = .ok (.lsub, 1) := by decide +kernel
theorem dX7_writeDecimal_38 : decode cX7_writeDecimal 38 = .ok (.l2i, 1) := by decide +kernel
theorem dX7_writeDecimal_39 : decode cX7_writeDecimal 39 = .ok (.i2b, 1) := by decide +kernel
theorem dX7_writeDecimal_40 : decode cX7_writeDecimal 40 = .ok (.bastore, 1) := by decide +kernel
theorem dX7_writeDecimal_41 : decode cX7_writeDecimal 41 = .ok (.iinc 5 1, 3) := by decide +kernel
theorem dX7_writeDecimal_44 : decode cX7_writeDecimal 44 = .ok (.lload 6, 2) := by decide +kernel
theorem dX7_writeDecimal_46 : decode cX7_writeDecimal 46 = .ok (.lstore_n 3, 1) := by decide +kernel
theorem dX7_writeDecimal_47 : decode cX7_writeDecimal 47 = .ok (.lload_n 3, 1) := by decide +kernel
theorem dX7_writeDecimal_48 : decode cX7_writeDecimal 48 = .ok (.lconst 0, 1) := by decide +kernel
theorem dX7_writeDecimal_49 : decode cX7_writeDecimal 49 = .ok (.lcmp, 1) := by decide +kernel
theorem dX7_writeDecimal_50 : decode cX7_writeDecimal 50 = .ok (.ifCond .eq 13, 3) := by decide +kernel
theorem dX7_writeDecimal_53 : decode cX7_writeDecimal 53 = .ok (.iload 5, 2) := by decide +kernel
theorem dX7_writeDecimal_55 : decode cX7_writeDecimal 55 = .ok (.aload_n 0, 1) := by decide +kernel
theorem dX7_writeDecimal_56 : decode cX7_writeDecimal 56 = .ok (.getfield 22, 3) := by decide +kernel
theorem dX7_writeDecimal_59 : decode cX7_writeDecimal 59 = .ok (.arraylength, 1) := by decide +kernel
theorem dX7_writeDecimal_60 : decode cX7_writeDecimal 60 = .ok (.if_icmp .lt (-55), 3) := by decide +kernel
theorem dX7_writeDecimal_63 : decode cX7_writeDecimal 63 = .ok (.iload 5, 2) := by decide +kernel
theorem dX7_writeDecimal_65 : decode cX7_writeDecimal 65 = .ok (.iconst 1, 1) := by decide +kernel
theorem dX7_writeDecimal_66 : decode cX7_writeDecimal 66 = .ok (.isub, 1) := by decide +kernel
theorem dX7_writeDecimal_67 : decode cX7_writeDecimal 67 = .ok (.istore 6, 2) := by decide +kernel
theorem dX7_writeDecimal_69 : decode cX7_writeDecimal 69 = .ok (.iload 6, 2) := by decide +kernel
theorem dX7_writeDecimal_71 : decode cX7_writeDecimal 71 = .ok (.ifCond .lt 36, 3) := by decide +kernel
theorem dX7_writeDecimal_74 : decode cX7_writeDecimal 74 = .ok (.iload 6, 2) := by decide +kernel
theorem dX7_writeDecimal_76 : decode cX7_writeDecimal 76 = .ok (.aload_n 0, 1) := by decide +kernel
theorem dX7_writeDecimal_77 : decode cX7_writeDecimal 77 = .ok (.getfield 22, 3) := by decide +kernel
theorem dX7_writeDecimal_80 : decode cX7_writeDecimal 80 = .ok (.arraylength, 1) := by decide +kernel
theorem dX7_writeDecimal_81 : decode cX7_writeDecimal 81 = .ok (.if_icmp .ge 26, 3) := by decide +kernel
theorem dX7_writeDecimal_84 : decode cX7_writeDecimal 84 = .ok (.aload_n 0, 1) := by decide +kernel
theorem dX7_writeDecimal_85 : decode cX7_writeDecimal 85 = .ok (.getfield 19, 3) := by decide +kernel
theorem dX7_writeDecimal_88 : decode cX7_writeDecimal 88 = .ok (.bipush 48, 2) := by decide +kernel
theorem dX7_writeDecimal_90 : decode cX7_writeDecimal 90 = .ok (.aload_n 0, 1) := by decide +kernel
theorem dX7_writeDecimal_91 : decode cX7_writeDecimal 91 = .ok (.getfield 22, 3) := by decide +kernel
theorem dX7_writeDecimal_94 : decode cX7_writeDecimal 94 = .ok (.iload 6, 2) := by decide +kernel
theorem dX7_writeDecimal_96 : decode cX7_writeDecimal 96 = .ok (.baload, 1) := by decide +kernel
theorem dX7_writeDecimal_97 : decode cX7_writeDecimal 97 = .ok (.iadd, 1) := by decide +kernel
theorem dX7_writeDecimal_98 : decode cX7_writeDecimal 98 = .ok (.invokevirtual 163, 3) := by decide +kernel
theorem dX7_writeDecimal_101 : decode cX7_writeDecimal 101 = .ok (.iinc 6 (-1), 3) := by decide +kernel
theorem dX7_writeDecimal_104 : decode cX7_writeDecimal 104 = .ok (.goto (-35), 3) := by decide +kernel
theorem dX7_writeDecimal_107 : decode cX7_writeDecimal 107 = .ok (.return_, 1) := by decide +kernel
theorem dX7_writeNumber_0 : decode cX7_writeNumber 0 = .ok (.aload_n 1, 1) := by decide +kernel
theorem dX7_writeNumber_1 : decode cX7_writeNumber 1 = .ok (.getfield 86, 3) := by decide +kernel
theorem dX7_writeNumber_4 : decode cX7_writeNumber 4 = .ok (.bipush 14, 2) := by decide +kernel
theorem dX7_writeNumber_6 : decode cX7_writeNumber 6 = .ok (.if_icmp .ne 21, 3) := by decide +kernel
theorem dX7_writeNumber_9 : decode cX7_writeNumber 9 = .ok (.aload_n 1, 1) := by decide +kernel
theorem dX7_writeNumber_10 : decode cX7_writeNumber 10 = .ok (.getfield 95, 3) := by decide +kernel
theorem dX7_writeNumber_13 : decode cX7_writeNumber 13 = .ok (.ifnull 14, 3) := by decide +kernel
theorem dX7_writeNumber_16 : decode cX7_writeNumber 16 = .ok (.aload_n 1, 1) := by decide +kernel
theorem dX7_writeNumber_17 : decode cX7_writeNumber 17 = .ok (.getfield 95, 3) := by decide +kernel
theorem dX7_writeNumber_20 : decode cX7_writeNumber 20 = .ok (.lload_n 2, 1) := by decide +kernel
theorem dX7_writeNumber_21 : decode cX7_writeNumber 21 = .ok (.invokevirtual 244, 3) := by decide +kernel
theorem dX7_writeNumber_24 : decode cX7_writeNumber 24 = .ok (.goto 4, 3) := by decide +kernel
theorem dX7_writeNumber_27 : decode cX7_writeNumber 27 = .ok (.aconst_null, 1) := by decide +kernel
theorem dX7_writeNumber_28 : decode cX7_writeNumber 28 = .ok (.astore 5, 2) := by decide +kernel
theorem dX7_writeNumber_30 : decode cX7_writeNumber 30 = .ok (.aload 5, 2) := by decide +kernel
theorem dX7_writeNumber_32 : decode cX7_writeNumber 32 = .ok (.ifnull 25, 3) := by decide +kernel
theorem dX7_writeNumber_35 : decode cX7_writeNumber 35 = .ok (.aload_n 0, 1) := by decide +kernel
theorem dX7_writeNumber_36 : decode cX7_writeNumber 36 = .ok (.getfield 19, 3) := by decide +kernel
theorem dX7_writeNumber_39 : decode cX7_writeNumber 39 = .ok (.aload 4, 2) := by decide +kernel
theorem dX7_writeNumber_41 : decode cX7_writeNumber 41 = .ok (.aload 5, 2) := by decide +kernel
theorem dX7_writeNumber_43 : decode cX7_writeNumber 43 = .ok (.getfield 214, 3) := by decide +kernel
theorem dX7_writeNumber_46 : decode cX7_writeNumber 46 = .ok (.aload 5, 2) := by decide +kernel
theorem dX7_writeNumber_48 : decode cX7_writeNumber 48 = .ok (.getfield 217, 3) := by decide +kernel
theorem dX7_writeNumber_51 : decode cX7_writeNumber 51 = .ok (.invokevirtual 220, 3) := by decide +kernel
theorem dX7_writeNumber_54 : decode cX7_writeNumber 54 = .ok (.goto 81, 3) := by decide +kernel
theorem dX7_writeNumber_57 : decode cX7_writeNumber 57 = .ok (.aload_n 1, 1) := by decide +kernel
theorem dX7_writeNumber_58 : decode cX7_writeNumber 58 = .ok (.getfield 86, 3) := by decide +kernel
theorem dX7_writeNumber_61 : decode cX7_writeNumber 61 = .ok (.bipush 10, 2) := by decide +kernel
theorem dX7_writeNumber_63 : decode cX7_writeNumber 63 = .ok (.if_icmp .ne 26, 3) := by decide +kernel
theorem dX7_writeNumber_66 : decode cX7_writeNumber 66 = .ok (.aload_n 0, 1) := by decide +kernel
theorem dX7_writeNumber_67 : decode cX7_writeNumber 67 = .ok (.getfield 19, 3) := by decide +kernel
theorem dX7_writeNumber_70 : decode cX7_writeNumber 70 = .ok (.lload_n 2, 1) := by decide +kernel
theorem dX7_writeNumber_71 : decode cX7_writeNumber 71 = .ok (.lconst 0, 1) := by decide +kernel
theorem dX7_writeNumber_72 : decode cX7_writeNumber 72 = .ok (.lcmp, 1) := by decide +kernel
theorem dX7_writeNumber_73 : decode cX7_writeNumber 73 = .ok (.ifCond .eq 8, 3) := by decide +kernel
theorem dX7_writeNumber_76 : decode cX7_writeNumber 76 = .ok (.ldc 248, 2) := by decide +kernel
theorem dX7_writeNumber_78 : decode cX7_writeNumber 78 = .ok (.goto 5, 3) := by decide +kernel
theorem dX7_writeNumber_81 : decode cX7_writeNumber 81 = .ok (.ldc 250, 2) := by decide +kernel
theorem dX7_writeNumber_83 : decode cX7_writeNumber 83 = .ok (.invokevirtual 226, 3) := by decide +kernel
theorem dX7_writeNumber_86 : decode cX7_writeNumber 86 = .ok (.goto 49, 3) := by decide +kernel
theorem dX7_writeNumber_89 : decode cX7_writeNumber 89 = .ok (.lload_n 2, 1) := by decide +kernel
theorem dX7_writeNumber_90 : decode cX7_writeNumber 90 = .ok (.lconst 0, 1) := by decide +kernel
theorem dX7_writeNumber_91 : decode cX7_writeNumber 91 = .ok (.lcmp, 1) := by decide +kernel
theorem dX7_writeNumber_92 : decode cX7_writeNumber 92 = .ok (.ifCond .ge 38, 3) := by decide +kernel
theorem dX7_writeNumber_95 : decode cX7_writeNumber 95 = .ok (.aload_n 1, 1) := by decide +kernel
theorem dX7_writeNumber_96 : decode cX7_writeNumber 96 = .ok (.getfield 86, 3) := by decide +kernel
theorem dX7_writeNumber_99 : decode cX7_writeNumber 99 = .ok (.iconst 3, 1) := by decide +kernel
theorem dX7_writeNumber_100 : decode cX7_writeNumber 100 = .ok (.if_icmp .eq 30, 3) := by decide +kernel
theorem dX7_writeNumber_103 : decode cX7_writeNumber 103 = .ok (.aload_n 1, 1) := by decide +kernel
theorem dX7_writeNumber_104 : decode cX7_writeNumber 104 = .ok (.getfield 86, 3) := by decide +kernel
theorem dX7_writeNumber_107 : decode cX7_writeNumber 107 = .ok (.bipush 7, 2) := by decide +kernel
theorem dX7_writeNumber_109 : decode cX7_writeNumber 109 = .ok (.if_icmp .eq 21, 3) := by decide +kernel
theorem dX7_writeNumber_112 : decode cX7_writeNumber 112 = .ok (.aload_n 0, 1) := by decide +kernel
theorem dX7_writeNumber_113 : decode cX7_writeNumber 113 = .ok (.getfield 19, 3) := by decide +kernel
theorem dX7_writeNumber_116 : decode cX7_writeNumber 116 = .ok (.bipush 45, 2) := by decide +kernel
theorem dX7_writeNumber_118 : decode cX7_writeNumber 118 = .ok (.invokevirtual 163, 3) := by decide +kernel
theorem dX7_writeNumber_121 : decode cX7_writeNumber 121 = .ok (.aload_n 0, 1) := by decide +kernel
theorem dX7_writeNumber_122 : decode cX7_writeNumber 122 = .ok (.lload_n 2, 1) := by decide +kernel
theorem dX7_writeNumber_123 : decode cX7_writeNumber 123 = .ok (.lneg, 1) := by decide +kernel
theorem dX7_writeNumber_124 : decode cX7_writeNumber 124 = .ok (.invokevirtual 252, 3) := by decide +kernel
theorem dX7_writeNumber_127 : decode cX7_writeNumber 127 = .ok (.goto 8, 3) := by decide +kernel
theorem dX7_writeNumber_130 : decode cX7_writeNumber 130 = .ok (.aload_n 0, 1) := by decide +kernel
theorem dX7_writeNumber_131 : decode cX7_writeNumber 131 = .ok (.lload_n 2, 1) := by decide +kernel
theorem dX7_writeNumber_132 : decode cX7_writeNumber 132 = .ok (.invokevirtual 252, 3) := by decide +kernel
theorem dX7_writeNumber_135 : decode cX7_writeNumber 135 = .ok (.return_, 1) := by decide +kernel
theorem dX7_writeTextByte_0 : decode cX7_writeTextByte 0 = .ok (.iconst 0, 1) := by decide +kernel
theorem dX7_writeTextByte_1 : decode cX7_writeTextByte 1 = .ok (.istore_n 2, 1) := by decide +kernel
theorem dX7_writeTextByte_2 : decode cX7_writeTextByte 2 = .ok (.iload_n 2, 1) := by decide +kernel
theorem dX7_writeTextByte_3 : decode cX7_writeTextByte 3 = .ok (.iconst 5, 1) := by decide +kernel
theorem dX7_writeTextByte_4 : decode cX7_writeTextByte 4 = .ok (.if_icmp .ge 60, 3) := by decide +kernel
theorem dX7_writeTextByte_7 : decode cX7_writeTextByte 7 = .ok (.iload_n 2, 1) := by decide +kernel
theorem dX7_writeTextByte_8 : decode cX7_writeTextByte 8 = .ok (.ldc 181, 2) := by decide +kernel
theorem dX7_writeTextByte_10 : decode cX7_writeTextByte 10 = .ok (.invokevirtual 176, 3) := by decide +kernel
theorem dX7_writeTextByte_13 : decode cX7_writeTextByte 13 = .ok (.if_icmp .ge 51, 3) := by decide +kernel
theorem dX7_writeTextByte_16 : decode cX7_writeTextByte 16 = .ok (.iload_n 2, 1) := by decide +kernel
theorem dX7_writeTextByte_17 : decode cX7_writeTextByte 17 = .ok (.ldc 174, 2) := by decide +kernel
theorem dX7_writeTextByte_19 : decode cX7_writeTextByte 19 = .ok (.invokevirtual 176, 3) := by decide +kernel
theorem dX7_writeTextByte_22 : decode cX7_writeTextByte 22 = .ok (.if_icmp .ge 42, 3) := by decide +kernel
theorem dX7_writeTextByte_25 : decode cX7_writeTextByte 25 = .ok (.ldc 181, 2) := by decide +kernel
theorem dX7_writeTextByte_27 : decode cX7_writeTextByte 27 = .ok (.iload_n 2, 1) := by decide +kernel
theorem dX7_writeTextByte_28 : decode cX7_writeTextByte 28 = .ok (.invokevirtual 183, 3) := by decide +kernel
theorem dX7_writeTextByte_31 : decode cX7_writeTextByte 31 = .ok (.iload_n 1, 1) := by decide +kernel
theorem dX7_writeTextByte_32 : decode cX7_writeTextByte 32 = .ok (.if_icmp .ne 26, 3) := by decide +kernel
theorem dX7_writeTextByte_35 : decode cX7_writeTextByte 35 = .ok (.aload_n 0, 1) := by decide +kernel
theorem dX7_writeTextByte_36 : decode cX7_writeTextByte 36 = .ok (.getfield 19, 3) := by decide +kernel
theorem dX7_writeTextByte_39 : decode cX7_writeTextByte 39 = .ok (.bipush 92, 2) := by decide +kernel
theorem dX7_writeTextByte_41 : decode cX7_writeTextByte 41 = .ok (.invokevirtual 163, 3) := by decide +kernel
theorem dX7_writeTextByte_44 : decode cX7_writeTextByte 44 = .ok (.aload_n 0, 1) := by decide +kernel
theorem dX7_writeTextByte_45 : decode cX7_writeTextByte 45 = .ok (.getfield 19, 3) := by decide +kernel
theorem dX7_writeTextByte_48 : decode cX7_writeTextByte 48 = .ok (.ldc 174, 2) := by decide +kernel
theorem dX7_writeTextByte_50 : decode cX7_writeTextByte 50 = .ok (.iload_n 2, 1) := by decide +kernel
theorem dX7_writeTextByte_51 : decode cX7_writeTextByte 51 = .ok (.invokevirtual 183, 3) := by decide +kernel
theorem dX7_writeTextByte_54 : decode cX7_writeTextByte 54 = .ok (.invokevirtual 163, 3) := by decide +kernel
theorem dX7_writeTextByte_57 : decode cX7_writeTextByte 57 = .ok (.return_, 1) := by decide +kernel
theorem dX7_writeTextByte_58 : decode cX7_writeTextByte 58 = .ok (.iinc 2 1, 3) := by decide +kernel
theorem dX7_writeTextByte_61 : decode cX7_writeTextByte 61 = .ok (.goto (-59), 3) := by decide +kernel
theorem dX7_writeTextByte_64 : decode cX7_writeTextByte 64 = .ok (.iload_n 1, 1) := by decide +kernel
theorem dX7_writeTextByte_65 : decode cX7_writeTextByte 65 = .ok (.bipush 32, 2) := by decide +kernel
theorem dX7_writeTextByte_67 : decode cX7_writeTextByte 67 = .ok (.if_icmp .lt 18, 3) := by decide +kernel
theorem dX7_writeTextByte_70 : decode cX7_writeTextByte 70 = .ok (.iload_n 1, 1) := by decide +kernel
theorem dX7_writeTextByte_71 : decode cX7_writeTextByte 71 = .ok (.bipush 126, 2) := by decide +kernel
theorem dX7_writeTextByte_73 : decode cX7_writeTextByte 73 = .ok (.if_icmp .gt 12, 3) := by decide +kernel
theorem dX7_writeTextByte_76 : decode cX7_writeTextByte 76 = .ok (.aload_n 0, 1) := by decide +kernel
theorem dX7_writeTextByte_77 : decode cX7_writeTextByte 77 = .ok (.getfield 19, 3) := by decide +kernel
theorem dX7_writeTextByte_80 : decode cX7_writeTextByte 80 = .ok (.iload_n 1, 1) := by decide +kernel
theorem dX7_writeTextByte_81 : decode cX7_writeTextByte 81 = .ok (.invokevirtual 163, 3) := by decide +kernel
theorem dX7_writeTextByte_84 : decode cX7_writeTextByte 84 = .ok (.return_, 1) := by decide +kernel
theorem dX7_writeTextByte_85 : decode cX7_writeTextByte 85 = .ok (.aload_n 0, 1) := by decide +kernel
theorem dX7_writeTextByte_86 : decode cX7_writeTextByte 86 = .ok (.getfield 19, 3) := by decide +kernel
theorem dX7_writeTextByte_89 : decode cX7_writeTextByte 89 = .ok (.bipush 92, 2) := by decide +kernel
theorem dX7_writeTextByte_91 : decode cX7_writeTextByte 91 = .ok (.invokevirtual 163, 3) := by decide +kernel
theorem dX7_writeTextByte_94 : decode cX7_writeTextByte 94 = .ok (.aload_n 0, 1) := by decide +kernel
theorem dX7_writeTextByte_95 : decode cX7_writeTextByte 95 = .ok (.getfield 19, 3) := by decide +kernel
theorem dX7_writeTextByte_98 : decode cX7_writeTextByte 98 = .ok (.bipush 48, 2) := by decide +kernel
theorem dX7_writeTextByte_100 : decode cX7_writeTextByte 100 = .ok (.iload_n 1, 1) := by decide +kernel
theorem dX7_writeTextByte_101 : decode cX7_writeTextByte 101 = .ok (.bipush 6, 2) := by decide +kernel
theorem dX7_writeTextByte_103 : decode cX7_writeTextByte 103 = .ok (.iushr, 1) := by decide +kernel
theorem dX7_writeTextByte_104 : decode cX7_writeTextByte 104 = .ok (.bipush 7, 2) := by decide +kernel
theorem dX7_writeTextByte_106 : decode cX7_writeTextByte 106 = .ok (.iand, 1) := by decide +kernel
theorem dX7_writeTextByte_107 : decode cX7_writeTextByte 107 = .ok (.iadd, 1) := by decide +kernel
theorem dX7_writeTextByte_108 : decode cX7_writeTextByte 108 = .ok (.invokevirtual 163, 3) := by decide +kernel
theorem dX7_writeTextByte_111 : decode cX7_writeTextByte 111 = .ok (.aload_n 0, 1) := by decide +kernel
theorem dX7_writeTextByte_112 : decode cX7_writeTextByte 112 = .ok (.getfield 19, 3) := by decide +kernel
theorem dX7_writeTextByte_115 : decode cX7_writeTextByte 115 = .ok (.bipush 48, 2) := by decide +kernel
theorem dX7_writeTextByte_117 : decode cX7_writeTextByte 117 = .ok (.iload_n 1, 1) := by decide +kernel
theorem dX7_writeTextByte_118 : decode cX7_writeTextByte 118 = .ok (.iconst 3, 1) := by decide +kernel
theorem dX7_writeTextByte_119 : decode cX7_writeTextByte 119 = .ok (.iushr, 1) := by decide +kernel
theorem dX7_writeTextByte_120 : decode cX7_writeTextByte 120 = .ok (.bipush 7, 2) := by decide +kernel
theorem dX7_writeTextByte_122 : decode cX7_writeTextByte 122 = .ok (.iand, 1) := by decide +kernel
theorem dX7_writeTextByte_123 : decode cX7_writeTextByte 123 = .ok (.iadd, 1) := by decide +kernel
theorem dX7_writeTextByte_124 : decode cX7_writeTextByte 124 = .ok (.invokevirtual 163, 3) := by decide +kernel
theorem dX7_writeTextByte_127 : decode cX7_writeTextByte 127 = .ok (.aload_n 0, 1) := by decide +kernel
theorem dX7_writeTextByte_128 : decode cX7_writeTextByte 128 = .ok (.getfield 19, 3) := by decide +kernel
theorem dX7_writeTextByte_131 : decode cX7_writeTextByte 131 = .ok (.bipush 48, 2) := by decide +kernel
theorem dX7_writeTextByte_133 : decode cX7_writeTextByte 133 = .ok (.iload_n 1, 1) := by decide +kernel
theorem dX7_writeTextByte_134 : decode cX7_writeTextByte 134 = .ok (.bipush 7, 2) := by decide +kernel
theorem dX7_writeTextByte_136 : decode cX7_writeTextByte 136 = .ok (.iand, 1) := by decide +kernel
theorem dX7_writeTextByte_137 : decode cX7_writeTextByte 137 = .ok (.iadd, 1) := by decide +kernel
theorem dX7_writeTextByte_138 : decode cX7_writeTextByte 138 = .ok (.invokevirtual 163, 3) := by decide +kernel
theorem dX7_writeTextByte_141 : decode cX7_writeTextByte 141 = .ok (.return_, 1) := by decide +kernel
theorem dX7_writeText_0 : decode cX7_writeText 0 = .ok (.aload_n 0, 1) := by decide +kernel
theorem dX7_writeText_1 : decode cX7_writeText 1 = .ok (.getfield 19, 3) := by decide +kernel
theorem dX7_writeText_4 : decode cX7_writeText 4 = .ok (.bipush 34, 2) := by decide +kernel
theorem dX7_writeText_6 : decode cX7_writeText 6 = .ok (.invokevirtual 163, 3) := by decide +kernel
theorem dX7_writeText_9 : decode cX7_writeText 9 = .ok (.aload_n 1, 1) := by decide +kernel
theorem dX7_writeText_10 : decode cX7_writeText 10 = .ok (.getfield 157, 3) := by decide +kernel
theorem dX7_writeText_13 : decode cX7_writeText 13 = .ok (.istore_n 2, 1) := by decide +kernel
theorem dX7_writeText_14 : decode cX7_writeText 14 = .ok (.iload_n 2, 1) := by decide +kernel
theorem dX7_writeText_15 : decode cX7_writeText 15 = .ok (.aload_n 1, 1) := by decide +kernel
theorem dX7_writeText_16 : decode cX7_writeText 16 = .ok (.getfield 167, 3) := by decide +kernel
theorem dX7_writeText_19 : decode cX7_writeText 19 = .ok (.if_icmp .ge 24, 3) := by decide +kernel
theorem dX7_writeText_22 : decode cX7_writeText 22 = .ok (.aload_n 0, 1) := by decide +kernel
theorem dX7_writeText_23 : decode cX7_writeText 23 = .ok (.aload_n 0, 1) := by decide +kernel
theorem dX7_writeText_24 : decode cX7_writeText 24 = .ok (.getfield 15, 3) := by decide +kernel
theorem dX7_writeText_27 : decode cX7_writeText 27 = .ok (.getfield 154, 3) := by decide +kernel
theorem dX7_writeText_30 : decode cX7_writeText 30 = .ok (.iload_n 2, 1) := by decide +kernel
theorem dX7_writeText_31 : decode cX7_writeText 31 = .ok (.invokevirtual 50, 3) := by decide +kernel
theorem dX7_writeText_34 : decode cX7_writeText 34 = .ok (.invokevirtual 258, 3) := by decide +kernel
theorem dX7_writeText_37 : decode cX7_writeText 37 = .ok (.iinc 2 1, 3) := by decide +kernel
theorem dX7_writeText_40 : decode cX7_writeText 40 = .ok (.goto (-26), 3) := by decide +kernel
theorem dX7_writeText_43 : decode cX7_writeText 43 = .ok (.aload_n 0, 1) := by decide +kernel
theorem dX7_writeText_44 : decode cX7_writeText 44 = .ok (.getfield 19, 3) := by decide +kernel
theorem dX7_writeText_47 : decode cX7_writeText 47 = .ok (.bipush 34, 2) := by decide +kernel
theorem dX7_writeText_49 : decode cX7_writeText 49 = .ok (.invokevirtual 163, 3) := by decide +kernel
theorem dX7_writeText_52 : decode cX7_writeText 52 = .ok (.return_, 1) := by decide +kernel
theorem dX7_writeField_0 : decode cX7_writeField 0 = .ok (.aload_n 0, 1) := by decide +kernel
theorem dX7_writeField_1 : decode cX7_writeField 1 = .ok (.iload 4, 2) := by decide +kernel
theorem dX7_writeField_3 : decode cX7_writeField 3 = .ok (.invokevirtual 211, 3) := by decide +kernel
theorem dX7_writeField_6 : decode cX7_writeField 6 = .ok (.aload_n 0, 1) := by decide +kernel
theorem dX7_writeField_7 : decode cX7_writeField 7 = .ok (.getfield 19, 3) := by decide +kernel
theorem dX7_writeField_10 : decode cX7_writeField 10 = .ok (.aload_n 3, 1) := by decide +kernel
theorem dX7_writeField_11 : decode cX7_writeField 11 = .ok (.aload_n 2, 1) := by decide +kernel
theorem dX7_writeField_12 : decode cX7_writeField 12 = .ok (.getfield 214, 3) := by decide +kernel
theorem dX7_writeField_15 : decode cX7_writeField 15 = .ok (.aload_n 2, 1) := by decide +kernel
theorem dX7_writeField_16 : decode cX7_writeField 16 = .ok (.getfield 217, 3) := by decide +kernel
theorem dX7_writeField_19 : decode cX7_writeField 19 = .ok (.invokevirtual 220, 3) := by decide +kernel
theorem dX7_writeField_22 : decode cX7_writeField 22 = .ok (.aload_n 2, 1) := by decide +kernel
theorem dX7_writeField_23 : decode cX7_writeField 23 = .ok (.getfield 86, 3) := by decide +kernel
theorem dX7_writeField_26 : decode cX7_writeField 26 = .ok (.bipush 13, 2) := by decide +kernel
theorem dX7_writeField_28 : decode cX7_writeField 28 = .ok (.if_icmp .ne 38, 3) := by decide +kernel
theorem dX7_writeField_31 : decode cX7_writeField 31 = .ok (.aload_n 0, 1) := by decide +kernel
theorem dX7_writeField_32 : decode cX7_writeField 32 = .ok (.getfield 19, 3) := by decide +kernel
theorem dX7_writeField_35 : decode cX7_writeField 35 = .ok (.ldc 224, 2) := by decide +kernel
theorem dX7_writeField_37 : decode cX7_writeField 37 = .ok (.invokevirtual 226, 3) := by decide +kernel
theorem dX7_writeField_40 : decode cX7_writeField 40 = .ok (.aload_n 0, 1) := by decide +kernel
theorem dX7_writeField_41 : decode cX7_writeField 41 = .ok (.aload_n 1, 1) := by decide +kernel
theorem dX7_writeField_42 : decode cX7_writeField 42 = .ok (.aload_n 3, 1) := by decide +kernel
theorem dX7_writeField_43 : decode cX7_writeField 43 = .ok (.iload 4, 2) := by decide +kernel
theorem dX7_writeField_45 : decode cX7_writeField 45 = .ok (.iconst 1, 1) := by decide +kernel
theorem dX7_writeField_46 : decode cX7_writeField 46 = .ok (.iadd, 1) := by decide +kernel
theorem dX7_writeField_47 : decode cX7_writeField 47 = .ok (.invokevirtual 191, 3) := by decide +kernel
theorem dX7_writeField_50 : decode cX7_writeField 50 = .ok (.aload_n 0, 1) := by decide +kernel
theorem dX7_writeField_51 : decode cX7_writeField 51 = .ok (.iload 4, 2) := by decide +kernel
theorem dX7_writeField_53 : decode cX7_writeField 53 = .ok (.invokevirtual 211, 3) := by decide +kernel
theorem dX7_writeField_56 : decode cX7_writeField 56 = .ok (.aload_n 0, 1) := by decide +kernel
theorem dX7_writeField_57 : decode cX7_writeField 57 = .ok (.getfield 19, 3) := by decide +kernel
theorem dX7_writeField_60 : decode cX7_writeField 60 = .ok (.ldc 230, 2) := by decide +kernel
theorem dX7_writeField_62 : decode cX7_writeField 62 = .ok (.invokevirtual 226, 3) := by decide +kernel
theorem dX7_writeField_65 : decode cX7_writeField 65 = .ok (.return_, 1) := by decide +kernel
theorem dX7_writeField_66 : decode cX7_writeField 66 = .ok (.aload_n 0, 1) := by decide +kernel
theorem dX7_writeField_67 : decode cX7_writeField 67 = .ok (.getfield 19, 3) := by decide +kernel
theorem dX7_writeField_70 : decode cX7_writeField 70 = .ok (.ldc 232, 2) := by decide +kernel
theorem dX7_writeField_72 : decode cX7_writeField 72 = .ok (.invokevirtual 226, 3) := by decide +kernel
theorem dX7_writeField_75 : decode cX7_writeField 75 = .ok (.aload_n 2, 1) := by decide +kernel
theorem dX7_writeField_76 : decode cX7_writeField 76 = .ok (.getfield 86, 3) := by decide +kernel
theorem dX7_writeField_79 : decode cX7_writeField 79 = .ok (.invokestatic 101, 3) := by decide +kernel
theorem dX7_writeField_82 : decode cX7_writeField 82 = .ok (.ifCond .eq 16, 3) := by decide +kernel
theorem dX7_writeField_85 : decode cX7_writeField 85 = .ok (.aload_n 0, 1) := by decide +kernel
theorem dX7_writeField_86 : decode cX7_writeField 86 = .ok (.aload_n 2, 1) := by decide +kernel
theorem dX7_writeField_87 : decode cX7_writeField 87 = .ok (.aload_n 1, 1) := by decide +kernel
theorem dX7_writeField_88 : decode cX7_writeField 88 = .ok (.getfield 126, 3) := by decide +kernel
theorem dX7_writeField_91 : decode cX7_writeField 91 = .ok (.aload_n 3, 1) := by decide +kernel
theorem dX7_writeField_92 : decode cX7_writeField 92 = .ok (.invokevirtual 234, 3) := by decide +kernel
theorem dX7_writeField_95 : decode cX7_writeField 95 = .ok (.goto 8, 3) := by decide +kernel
theorem dX7_writeField_98 : decode cX7_writeField 98 = .ok (.aload_n 0, 1) := by decide +kernel
theorem dX7_writeField_99 : decode cX7_writeField 99 = .ok (.aload_n 1, 1) := by decide +kernel
theorem dX7_writeField_100 : decode cX7_writeField 100 = .ok (.invokevirtual 238, 3) := by decide +kernel
theorem dX7_writeField_103 : decode cX7_writeField 103 = .ok (.aload_n 0, 1) := by decide +kernel
theorem dX7_writeField_104 : decode cX7_writeField 104 = .ok (.getfield 19, 3) := by decide +kernel
theorem dX7_writeField_107 : decode cX7_writeField 107 = .ok (.bipush 10, 2) := by decide +kernel
theorem dX7_writeField_109 : decode cX7_writeField 109 = .ok (.invokevirtual 163, 3) := by decide +kernel
theorem dX7_writeField_112 : decode cX7_writeField 112 = .ok (.return_, 1) := by decide +kernel
theorem dX7_writeMessage_0 : decode cX7_writeMessage 0 = .ok (.aload_n 1, 1) := by decide +kernel
theorem dX7_writeMessage_1 : decode cX7_writeMessage 1 = .ok (.getfield 195, 3) := by decide +kernel
theorem dX7_writeMessage_4 : decode cX7_writeMessage 4 = .ok (.astore 4, 2) := by decide +kernel
theorem dX7_writeMessage_6 : decode cX7_writeMessage 6 = .ok (.aload 4, 2) := by decide +kernel
theorem dX7_writeMessage_8 : decode cX7_writeMessage 8 = .ok (.ifnull 48, 3) := by decide +kernel
theorem dX7_writeMessage_11 : decode cX7_writeMessage 11 = .ok (.iload_n 3, 1) := by decide +kernel
theorem dX7_writeMessage_12 : decode cX7_writeMessage 12 = .ok (.bipush 20, 2) := by decide +kernel
theorem dX7_writeMessage_14 : decode cX7_writeMessage 14 = .ok (.if_icmp .gt 42, 3) := by decide +kernel
theorem dX7_writeMessage_17 : decode cX7_writeMessage 17 = .ok (.aload 4, 2) := by decide +kernel
theorem dX7_writeMessage_19 : decode cX7_writeMessage 19 = .ok (.getfield 198, 3) := by decide +kernel
theorem dX7_writeMessage_22 : decode cX7_writeMessage 22 = .ok (.ifnull 24, 3) := by decide +kernel
theorem dX7_writeMessage_25 : decode cX7_writeMessage 25 = .ok (.aload 4, 2) := by decide +kernel
theorem dX7_writeMessage_27 : decode cX7_writeMessage 27 = .ok (.invokevirtual 201, 3) := by decide +kernel
theorem dX7_writeMessage_30 : decode cX7_writeMessage 30 = .ok (.ifCond .ne 16, 3) := by decide +kernel
theorem dX7_writeMessage_33 : decode cX7_writeMessage 33 = .ok (.aload_n 0, 1) := by decide +kernel
theorem dX7_writeMessage_34 : decode cX7_writeMessage 34 = .ok (.aload 4, 2) := by decide +kernel
theorem dX7_writeMessage_36 : decode cX7_writeMessage 36 = .ok (.aload 4, 2) := by decide +kernel
theorem dX7_writeMessage_38 : decode cX7_writeMessage 38 = .ok (.getfield 198, 3) := by decide +kernel
theorem dX7_writeMessage_41 : decode cX7_writeMessage 41 = .ok (.aload_n 2, 1) := by decide +kernel
theorem dX7_writeMessage_42 : decode cX7_writeMessage 42 = .ok (.iload_n 3, 1) := by decide +kernel
theorem dX7_writeMessage_43 : decode cX7_writeMessage 43 = .ok (.invokevirtual 204, 3) := by decide +kernel
theorem dX7_writeMessage_46 : decode cX7_writeMessage 46 = .ok (.aload 4, 2) := by decide +kernel
theorem dX7_writeMessage_48 : decode cX7_writeMessage 48 = .ok (.getfield 208, 3) := by decide +kernel
theorem dX7_writeMessage_51 : decode cX7_writeMessage 51 = .ok (.astore 4, 2) := by decide +kernel
theorem dX7_writeMessage_53 : decode cX7_writeMessage 53 = .ok (.goto (-47), 3) := by decide +kernel
theorem dX7_writeMessage_56 : decode cX7_writeMessage 56 = .ok (.return_, 1) := by decide +kernel
theorem dX7_write_0 : decode cX7_write 0 = .ok (.aload_n 0, 1) := by decide +kernel
theorem dX7_write_1 : decode cX7_write 1 = .ok (.getfield 15, 3) := by decide +kernel
theorem dX7_write_4 : decode cX7_write 4 = .ok (.getfield 72, 3) := by decide +kernel
theorem dX7_write_7 : decode cX7_write 7 = .ok (.ifnull 25, 3) := by decide +kernel
theorem dX7_write_10 : decode cX7_write 10 = .ok (.aload_n 0, 1) := by decide +kernel
theorem dX7_write_11 : decode cX7_write 11 = .ok (.aload_n 0, 1) := by decide +kernel
theorem dX7_write_12 : decode cX7_write 12 = .ok (.getfield 15, 3) := by decide +kernel
theorem dX7_write_15 : decode cX7_write 15 = .ok (.getfield 33, 3) := by decide +kernel
theorem dX7_write_18 : decode cX7_write 18 = .ok (.aload_n 0, 1) := by decide +kernel
theorem dX7_write_19 : decode cX7_write 19 = .ok (.getfield 15, 3) := by decide +kernel
theorem dX7_write_22 : decode cX7_write 22 = .ok (.getfield 72, 3) := by decide +kernel
theorem dX7_write_25 : decode cX7_write 25 = .ok (.invokevirtual 187, 3) := by decide +kernel
theorem dX7_write_28 : decode cX7_write 28 = .ok (.iconst 1, 1) := by decide +kernel
theorem dX7_write_29 : decode cX7_write 29 = .ok (.invokevirtual 191, 3) := by decide +kernel
theorem dX7_write_32 : decode cX7_write 32 = .ok (.return_, 1) := by decide +kernel
theorem dX11_print_0 : decode cX11_print 0 = .ok (.aload_n 0, 1) := by decide +kernel
theorem dX11_print_1 : decode cX11_print 1 = .ok (.getfield 18, 3) := by decide +kernel
theorem dX11_print_4 : decode cX11_print 4 = .ok (.invokevirtual 99, 3) := by decide +kernel
theorem dX11_print_7 : decode cX11_print 7 = .ok (.aload_n 0, 1) := by decide +kernel
theorem dX11_print_8 : decode cX11_print 8 = .ok (.getfield 34, 3) := by decide +kernel
theorem dX11_print_11 : decode cX11_print 11 = .ok (.invokevirtual 175, 3) := by decide +kernel
theorem dX11_print_14 : decode cX11_print 14 = .ok (.ifCond .ne 13, 3) := by decide +kernel
theorem dX11_print_17 : decode cX11_print 17 = .ok (.new 78, 3) := by decide +kernel
theorem dX11_print_20 : decode cX11_print 20 = .ok (.dup, 1) := by decide +kernel
theorem dX11_print_21 : decode cX11_print 21 = .ok (.ldc 179, 2) := by decide +kernel
theorem dX11_print_23 : decode cX11_print 23 = .ok (.invokespecial 82, 3) := by decide +kernel
theorem dX11_print_26 : decode cX11_print 26 = .ok (.athrow, 1) := by decide +kernel
theorem dX11_print_27 : decode cX11_print 27 = .ok (.aload_n 0, 1) := by decide +kernel
theorem dX11_print_28 : decode cX11_print 28 = .ok (.getfield 50, 3) := by decide +kernel
theorem dX11_print_31 : decode cX11_print 31 = .ok (.invokevirtual 184, 3) := by decide +kernel
theorem dX11_print_34 : decode cX11_print 34 = .ok (.aload_n 0, 1) := by decide +kernel
theorem dX11_print_35 : decode cX11_print 35 = .ok (.getfield 18, 3) := by decide +kernel
theorem dX11_print_38 : decode cX11_print 38 = .ok (.invokevirtual 185, 3) := by decide +kernel
theorem dX11_print_41 : decode cX11_print 41 = .ok (.ifCond .eq 20, 3) := by decide +kernel
theorem dX11_print_44 : decode cX11_print 44 = .ok (.aload_n 0, 1) := by decide +kernel
theorem dX11_print_45 : decode cX11_print 45 = .ok (.getfield 18, 3) := by decide +kernel
theorem dX11_print_48 : decode cX11_print 48 = .ok (.invokevirtual 99, 3) := by decide +kernel
theorem dX11_print_51 : decode cX11_print 51 = .ok (.new 188, 3) := by decide +kernel
theorem dX11_print_54 : decode cX11_print 54 = .ok (.dup, 1) := by decide +kernel
theorem dX11_print_55 : decode cX11_print 55 = .ok (.ldc 190, 2) := by decide +kernel
theorem dX11_print_57 : decode cX11_print 57 = .ok (.invokespecial 192, 3) := by decide +kernel
theorem dX11_print_60 : decode cX11_print 60 = .ok (.athrow, 1) := by decide +kernel
theorem dX11_print_61 : decode cX11_print 61 = .ok (.aload_n 0, 1) := by decide +kernel
theorem dX11_print_62 : decode cX11_print 62 = .ok (.getfield 18, 3) := by decide +kernel
theorem dX11_print_65 : decode cX11_print 65 = .ok (.invokevirtual 74, 3) := by decide +kernel
theorem dX11_print_68 : decode cX11_print 68 = .ok (.ireturn, 1) := by decide +kernel
theorem dX11_turn_0 : decode cX11_turn 0 = .ok (.aload_n 0, 1) := by decide +kernel
theorem dX11_turn_1 : decode cX11_turn 1 = .ok (.getfield 18, 3) := by decide +kernel
theorem dX11_turn_4 : decode cX11_turn 4 = .ok (.invokevirtual 74, 3) := by decide +kernel
theorem dX11_turn_7 : decode cX11_turn 7 = .ok (.sipush 700, 3) := by decide +kernel
theorem dX11_turn_10 : decode cX11_turn 10 = .ok (.if_icmp .le 13, 3) := by decide +kernel
theorem dX11_turn_13 : decode cX11_turn 13 = .ok (.new 78, 3) := by decide +kernel
theorem dX11_turn_16 : decode cX11_turn 16 = .ok (.dup, 1) := by decide +kernel
theorem dX11_turn_17 : decode cX11_turn 17 = .ok (.ldc 216, 2) := by decide +kernel
theorem dX11_turn_19 : decode cX11_turn 19 = .ok (.invokespecial 82, 3) := by decide +kernel
theorem dX11_turn_22 : decode cX11_turn 22 = .ok (.athrow, 1) := by decide +kernel
theorem dX11_turn_23 : decode cX11_turn 23 = .ok (.aload_n 0, 1) := by decide +kernel
theorem dX11_turn_24 : decode cX11_turn 24 = .ok (.getfield 14, 3) := by decide +kernel
theorem dX11_turn_27 : decode cX11_turn 27 = .ok (.invokevirtual 99, 3) := by decide +kernel
theorem dX11_turn_30 : decode cX11_turn 30 = .ok (.aload_n 0, 1) := by decide +kernel
theorem dX11_turn_31 : decode cX11_turn 31 = .ok (.getfield 14, 3) := by decide +kernel
theorem dX11_turn_34 : decode cX11_turn 34 = .ok (.aload_n 0, 1) := by decide +kernel
theorem dX11_turn_35 : decode cX11_turn 35 = .ok (.getfield 18, 3) := by decide +kernel
theorem dX11_turn_38 : decode cX11_turn 38 = .ok (.iconst 0, 1) := by decide +kernel
theorem dX11_turn_39 : decode cX11_turn 39 = .ok (.aload_n 0, 1) := by decide +kernel
theorem dX11_turn_40 : decode cX11_turn 40 = .ok (.getfield 18, 3) := by decide +kernel
theorem dX11_turn_43 : decode cX11_turn 43 = .ok (.invokevirtual 74, 3) := by decide +kernel
theorem dX11_turn_46 : decode cX11_turn 46 = .ok (.invokevirtual 218, 3) := by decide +kernel
theorem dX11_turn_49 : decode cX11_turn 49 = .ok (.aload_n 0, 1) := by decide +kernel
theorem dX11_turn_50 : decode cX11_turn 50 = .ok (.getfield 14, 3) := by decide +kernel
theorem dX11_turn_53 : decode cX11_turn 53 = .ok (.invokevirtual 74, 3) := by decide +kernel
theorem dX11_turn_56 : decode cX11_turn 56 = .ok (.ireturn, 1) := by decide +kernel
