theorem dX6_clear_0 : decode cX6_clear 0 = .ok (.aload_n 0, 1) := by decide +kernel
theorem dX6_clear_1 : decode cX6_clear 1 = .ok (.getfield 14, 3) := by decide +kernel
theorem dX6_clear_4 : decode cX6_clear 4 = .ok (.invokevirtual 31, 3) := by decide +kernel
theorem dX6_clear_7 : decode cX6_clear 7 = .ok (.aload_n 0, 1) := by decide +kernel
theorem dX6_clear_8 : decode cX6_clear 8 = .ok (.iconst 0, 1) := by decide +kernel
theorem dX6_clear_9 : decode cX6_clear 9 = .ok (.putfield 34, 3) := by decide +kernel
theorem dX6_clear_12 : decode cX6_clear 12 = .ok (.aload_n 0, 1) := by decide +kernel
theorem dX6_clear_13 : decode cX6_clear 13 = .ok (.iconst 0, 1) := by decide +kernel
theorem dX6_clear_14 : decode cX6_clear 14 = .ok (.putfield 38, 3) := by decide +kernel
theorem dX6_clear_17 : decode cX6_clear 17 = .ok (.iconst 0, 1) := by decide +kernel
theorem dX6_clear_18 : decode cX6_clear 18 = .ok (.istore_n 1, 1) := by decide +kernel
theorem dX6_clear_19 : decode cX6_clear 19 = .ok (.iload_n 1, 1) := by decide +kernel
theorem dX6_clear_20 : decode cX6_clear 20 = .ok (.aload_n 0, 1) := by decide +kernel
theorem dX6_clear_21 : decode cX6_clear 21 = .ok (.getfield 27, 3) := by decide +kernel
theorem dX6_clear_24 : decode cX6_clear 24 = .ok (.arraylength, 1) := by decide +kernel
theorem dX6_clear_25 : decode cX6_clear 25 = .ok (.if_icmp .ge 16, 3) := by decide +kernel
theorem dX6_clear_28 : decode cX6_clear 28 = .ok (.aload_n 0, 1) := by decide +kernel
theorem dX6_clear_29 : decode cX6_clear 29 = .ok (.getfield 27, 3) := by decide +kernel
theorem dX6_clear_32 : decode cX6_clear 32 = .ok (.iload_n 1, 1) := by decide +kernel
theorem dX6_clear_33 : decode cX6_clear 33 = .ok (.iconst 0, 1) := by decide +kernel
theorem dX6_clear_34 : decode cX6_clear 34 = .ok (.iastore, 1) := by decide +kernel
theorem dX6_clear_35 : decode cX6_clear 35 = .ok (.iinc 1 1, 3) := by decide +kernel
theorem dX6_clear_38 : decode cX6_clear 38 = .ok (.goto (-19), 3) := by decide +kernel
theorem dX6_clear_41 : decode cX6_clear 41 = .ok (.return_, 1) := by decide +kernel
theorem dX10_behindBlanks_0 : decode cX10_behindBlanks 0 = .ok (.iload_n 1, 1) := by decide +kernel
theorem dX10_behindBlanks_1 : decode cX10_behindBlanks 1 = .ok (.istore_n 2, 1) := by decide +kernel
theorem dX10_behindBlanks_2 : decode cX10_behindBlanks 2 = .ok (.iload_n 2, 1) := by decide +kernel
theorem dX10_behindBlanks_3 : decode cX10_behindBlanks 3 = .ok (.aload_n 0, 1) := by decide +kernel
theorem dX10_behindBlanks_4 : decode cX10_behindBlanks 4 = .ok (.getfield 33, 3) := by decide +kernel
theorem dX10_behindBlanks_7 : decode cX10_behindBlanks 7 = .ok (.if_icmp .ge 85, 3) := by decide +kernel
theorem dX10_behindBlanks_10 : decode cX10_behindBlanks 10 = .ok (.aload_n 0, 1) := by decide +kernel
theorem dX10_behindBlanks_11 : decode cX10_behindBlanks 11 = .ok (.getfield 9, 3) := by decide +kernel
theorem dX10_behindBlanks_14 : decode cX10_behindBlanks 14 = .ok (.iload_n 2, 1) := by decide +kernel
theorem dX10_behindBlanks_15 : decode cX10_behindBlanks 15 = .ok (.invokevirtual 55, 3) := by decide +kernel
theorem dX10_behindBlanks_18 : decode cX10_behindBlanks 18 = .ok (.istore_n 3, 1) := by decide +kernel
theorem dX10_behindBlanks_19 : decode cX10_behindBlanks 19 = .ok (.iload_n 3, 1) := by decide +kernel
theorem dX10_behindBlanks_20 : decode cX10_behindBlanks 20 = .ok (.bipush 47, 2) := by decide +kernel
theorem dX10_behindBlanks_22 : decode cX10_behindBlanks 22 = .ok (.if_icmp .ne 16, 3) := by decide +kernel
theorem dX10_behindBlanks_25 : decode cX10_behindBlanks 25 = .ok (.aload_n 0, 1) := by decide +kernel
theorem dX10_behindBlanks_26 : decode cX10_behindBlanks 26 = .ok (.getfield 9, 3) := by decide +kernel
theorem dX10_behindBlanks_29 : decode cX10_behindBlanks 29 = .ok (.iload_n 2, 1) := by decide +kernel
theorem dX10_behindBlanks_30 : decode cX10_behindBlanks 30 = .ok (.iconst 1, 1) := by decide +kernel
theorem dX10_behindBlanks_31 : decode cX10_behindBlanks 31 = .ok (.iadd, 1) := by decide +kernel
theorem dX10_behindBlanks_32 : decode cX10_behindBlanks 32 = .ok (.invokevirtual 55, 3) := by decide +kernel
theorem dX10_behindBlanks_35 : decode cX10_behindBlanks 35 = .ok (.goto 4, 3) := by decide +kernel
theorem dX10_behindBlanks_38 : decode cX10_behindBlanks 38 = .ok (.iconst (-1), 1) := by decide +kernel
theorem dX10_behindBlanks_39 : decode cX10_behindBlanks 39 = .ok (.istore 4, 2) := by decide +kernel
theorem dX10_behindBlanks_41 : decode cX10_behindBlanks 41 = .ok (.iload 4, 2) := by decide +kernel
theorem dX10_behindBlanks_43 : decode cX10_behindBlanks 43 = .ok (.bipush 47, 2) := by decide +kernel
theorem dX10_behindBlanks_45 : decode cX10_behindBlanks 45 = .ok (.if_icmp .ne 14, 3) := by decide +kernel
theorem dX10_behindBlanks_48 : decode cX10_behindBlanks 48 = .ok (.aload_n 0, 1) := by decide +kernel
theorem dX10_behindBlanks_49 : decode cX10_behindBlanks 49 = .ok (.iload_n 2, 1) := by decide +kernel
theorem dX10_behindBlanks_50 : decode cX10_behindBlanks 50 = .ok (.iconst 2, 1) := by decide +kernel
theorem dX10_behindBlanks_51 : decode cX10_behindBlanks 51 = .ok (.iadd, 1) := by decide +kernel
theorem dX10_behindBlanks_52 : decode cX10_behindBlanks 52 = .ok (.invokevirtual 103, 3) := by decide +kernel
theorem dX10_behindBlanks_55 : decode cX10_behindBlanks 55 = .ok (.istore_n 2, 1) := by decide +kernel
theorem dX10_behindBlanks_56 : decode cX10_behindBlanks 56 = .ok (.goto 30, 3) := by decide +kernel
theorem dX10_behindBlanks_59 : decode cX10_behindBlanks 59 = .ok (.iload 4, 2) := by decide +kernel
theorem dX10_behindBlanks_61 : decode cX10_behindBlanks 61 = .ok (.bipush 42, 2) := by decide +kernel
theorem dX10_behindBlanks_63 : decode cX10_behindBlanks 63 = .ok (.if_icmp .ne 14, 3) := by decide +kernel
theorem dX10_behindBlanks_66 : decode cX10_behindBlanks 66 = .ok (.aload_n 0, 1) := by decide +kernel
theorem dX10_behindBlanks_67 : decode cX10_behindBlanks 67 = .ok (.iload_n 2, 1) := by decide +kernel
theorem dX10_behindBlanks_68 : decode cX10_behindBlanks 68 = .ok (.iconst 2, 1) := by decide +kernel
theorem dX10_behindBlanks_69 : decode cX10_behindBlanks 69 = .ok (.iadd, 1) := by decide +kernel
theorem dX10_behindBlanks_70 : decode cX10_behindBlanks 70 = .ok (.invokevirtual 106, 3) := by decide +kernel
theorem dX10_behindBlanks_73 : decode cX10_behindBlanks 73 = .ok (.istore_n 2, 1) := by decide +kernel
theorem dX10_behindBlanks_74 : decode cX10_behindBlanks 74 = .ok (.goto 12, 3) := by decide +kernel
theorem dX10_behindBlanks_77 : decode cX10_behindBlanks 77 = .ok (.iload_n 3, 1) := by decide +kernel
theorem dX10_behindBlanks_78 : decode cX10_behindBlanks 78 = .ok (.invokestatic 109, 3) := by decide +kernel
theorem dX10_behindBlanks_81 : decode cX10_behindBlanks 81 = .ok (.ifCond .ne 5, 3) := by decide +kernel
theorem dX10_behindBlanks_84 : decode cX10_behindBlanks 84 = .ok (.iload_n 2, 1) := by decide +kernel
theorem dX10_behindBlanks_85 : decode cX10_behindBlanks 85 = .ok (.ireturn, 1) := by decide +kernel
theorem dX10_behindBlanks_86 : decode cX10_behindBlanks 86 = .ok (.iinc 2 1, 3) := by decide +kernel
theorem dX10_behindBlanks_89 : decode cX10_behindBlanks 89 = .ok (.goto (-87), 3) := by decide +kernel
theorem dX10_behindBlanks_92 : decode cX10_behindBlanks 92 = .ok (.aload_n 0, 1) := by decide +kernel
theorem dX10_behindBlanks_93 : decode cX10_behindBlanks 93 = .ok (.getfield 33, 3) := by decide +kernel
theorem dX10_behindBlanks_96 : decode cX10_behindBlanks 96 = .ok (.ireturn, 1) := by decide +kernel
theorem dX10_push_0 : decode cX10_push 0 = .ok (.aload_n 0, 1) := by decide +kernel
theorem dX10_push_1 : decode cX10_push 1 = .ok (.getfield 29, 3) := by decide +kernel
theorem dX10_push_4 : decode cX10_push 4 = .ok (.ifCond .lt 51, 3) := by decide +kernel
theorem dX10_push_7 : decode cX10_push 7 = .ok (.aload_n 0, 1) := by decide +kernel
theorem dX10_push_8 : decode cX10_push 8 = .ok (.getfield 29, 3) := by decide +kernel
theorem dX10_push_11 : decode cX10_push 11 = .ok (.aload_n 0, 1) := by decide +kernel
theorem dX10_push_12 : decode cX10_push 12 = .ok (.getfield 15, 3) := by decide +kernel
theorem dX10_push_15 : decode cX10_push 15 = .ok (.arraylength, 1) := by decide +kernel
theorem dX10_push_16 : decode cX10_push 16 = .ok (.if_icmp .ge 39, 3) := by decide +kernel
theorem dX10_push_19 : decode cX10_push 19 = .ok (.aload_n 0, 1) := by decide +kernel
theorem dX10_push_20 : decode cX10_push 20 = .ok (.getfield 29, 3) := by decide +kernel
theorem dX10_push_23 : decode cX10_push 23 = .ok (.aload_n 0, 1) := by decide +kernel
theorem dX10_push_24 : decode cX10_push 24 = .ok (.getfield 19, 3) := by decide +kernel
theorem dX10_push_27 : decode cX10_push 27 = .ok (.arraylength, 1) := by decide +kernel
theorem dX10_push_28 : decode cX10_push 28 = .ok (.if_icmp .ge 27, 3) := by decide +kernel
theorem dX10_push_31 : decode cX10_push 31 = .ok (.aload_n 0, 1) := by decide +kernel
theorem dX10_push_32 : decode cX10_push 32 = .ok (.getfield 29, 3) := by decide +kernel
theorem dX10_push_35 : decode cX10_push 35 = .ok (.aload_n 0, 1) := by decide +kernel
theorem dX10_push_36 : decode cX10_push 36 = .ok (.getfield 22, 3) := by decide +kernel
theorem dX10_push_39 : decode cX10_push 39 = .ok (.arraylength, 1) := by decide +kernel
theorem dX10_push_40 : decode cX10_push 40 = .ok (.if_icmp .ge 15, 3) := by decide +kernel
theorem dX10_push_43 : decode cX10_push 43 = .ok (.aload_n 0, 1) := by decide +kernel
theorem dX10_push_44 : decode cX10_push 44 = .ok (.getfield 29, 3) := by decide +kernel
theorem dX10_push_47 : decode cX10_push 47 = .ok (.aload_n 0, 1) := by decide +kernel
theorem dX10_push_48 : decode cX10_push 48 = .ok (.getfield 25, 3) := by decide +kernel
theorem dX10_push_51 : decode cX10_push 51 = .ok (.arraylength, 1) := by decide +kernel
theorem dX10_push_52 : decode cX10_push 52 = .ok (.if_icmp .lt 5, 3) := by decide +kernel
theorem dX10_push_55 : decode cX10_push 55 = .ok (.iload_n 2, 1) := by decide +kernel
theorem dX10_push_56 : decode cX10_push 56 = .ok (.ireturn, 1) := by decide +kernel
theorem dX10_push_57 : decode cX10_push 57 = .ok (.aload_n 0, 1) := by decide +kernel
theorem dX10_push_58 : decode cX10_push 58 = .ok (.getfield 15, 3) := by decide +kernel
theorem dX10_push_61 : decode cX10_push 61 = .ok (.aload_n 0, 1) := by decide +kernel
theorem dX10_push_62 : decode cX10_push 62 = .ok (.getfield 29, 3) := by decide +kernel
theorem dX10_push_65 : decode cX10_push 65 = .ok (.iload_n 1, 1) := by decide +kernel
theorem dX10_push_66 : decode cX10_push 66 = .ok (.iastore, 1) := by decide +kernel
theorem dX10_push_67 : decode cX10_push 67 = .ok (.aload_n 0, 1) := by decide +kernel
theorem dX10_push_68 : decode cX10_push 68 = .ok (.getfield 19, 3) := by decide +kernel
theorem dX10_push_71 : decode cX10_push 71 = .ok (.aload_n 0, 1) := by decide +kernel
theorem dX10_push_72 : decode cX10_push 72 = .ok (.getfield 29, 3) := by decide +kernel
theorem dX10_push_75 : decode cX10_push 75 = .ok (.iload_n 2, 1) := by decide +kernel
theorem dX10_push_76 : decode cX10_push 76 = .ok (.iastore, 1) := by decide +kernel
theorem dX10_push_77 : decode cX10_push 77 = .ok (.aload_n 0, 1) := by decide +kernel
theorem dX10_push_78 : decode cX10_push 78 = .ok (.getfield 22, 3) := by decide +kernel
theorem dX10_push_81 : decode cX10_push 81 = .ok (.aload_n 0, 1) := by decide +kernel
theorem dX10_push_82 : decode cX10_push 82 = .ok (.getfield 29, 3) := by decide +kernel
theorem dX10_push_85 : decode cX10_push 85 = .ok (.iload_n 3, 1) := by decide +kernel
theorem dX10_push_86 : decode cX10_push 86 = .ok (.iastore, 1) := by decide +kernel
theorem dX10_push_87 : decode cX10_push 87 = .ok (.aload_n 0, 1) := by decide +kernel
theorem dX10_push_88 : decode cX10_push 88 = .ok (.getfield 25, 3) := by decide +kernel
theorem dX10_push_91 : decode cX10_push 91 = .ok (.aload_n 0, 1) := by decide +kernel
theorem dX10_push_92 : decode cX10_push 92 = .ok (.getfield 29, 3) := by decide +kernel
theorem dX10_push_95 : decode cX10_push 95 = .ok (.lload 4, 2) := by decide +kernel
theorem dX10_push_97 : decode cX10_push 97 = .ok (.lastore, 1) := by decide +kernel
theorem dX10_push_98 : decode cX10_push 98 = .ok (.aload_n 0, 1) := by decide +kernel
theorem dX10_push_99 : decode cX10_push 99 = .ok (.dup, 1) := by decide +kernel
theorem dX10_push_100 : decode cX10_push 100 = .ok (.getfield 29, 3) := by decide +kernel
theorem dX10_push_103 : decode cX10_push 103 = .ok (.iconst 1, 1) := by decide +kernel
theorem dX10_push_104 : decode cX10_push 104 = .ok (.iadd, 1) := by decide +kernel
theorem dX10_push_105 : decode cX10_push 105 = .ok (.putfield 29, 3) := by decide +kernel
theorem dX10_push_108 : decode cX10_push 108 = .ok (.iload_n 1, 1) := by decide +kernel
theorem dX10_push_109 : decode cX10_push 109 = .ok (.iconst 5, 1) := by decide +kernel
theorem dX10_push_110 : decode cX10_push 110 = .ok (.if_icmp .ne 7, 3) := by decide +kernel
theorem dX10_push_113 : decode cX10_push 113 = .ok (.iload_n 2, 1) := by decide +kernel
theorem dX10_push_114 : decode cX10_push 114 = .ok (.goto 4, 3) := by decide +kernel
theorem dX10_push_117 : decode cX10_push 117 = .ok (.iload_n 3, 1) := by decide +kernel
theorem dX10_push_118 : decode cX10_push 118 = .ok (.ireturn, 1) := by decide +kernel
theorem dX10_addWord_0 : decode cX10_addWord 0 = .ok (.aload_n 0, 1) := by decide +kernel
theorem dX10_addWord_1 : decode cX10_addWord 1 = .ok (.getfield 9, 3) := by decide +kernel
theorem dX10_addWord_4 : decode cX10_addWord 4 = .ok (.iload_n 1, 1) := by decide +kernel
theorem dX10_addWord_5 : decode cX10_addWord 5 = .ok (.invokevirtual 55, 3) := by decide +kernel
theorem dX10_addWord_8 : decode cX10_addWord 8 = .ok (.istore_n 2, 1) := by decide +kernel
theorem dX10_addWord_9 : decode cX10_addWord 9 = .ok (.iload_n 2, 1) := by decide +kernel
theorem dX10_addWord_10 : decode cX10_addWord 10 = .ok (.ifCond .ge 25, 3) := by decide +kernel
theorem dX10_addWord_13 : decode cX10_addWord 13 = .ok (.aload_n 0, 1) := by decide +kernel
theorem dX10_addWord_14 : decode cX10_addWord 14 = .ok (.aload_n 0, 1) := by decide +kernel
theorem dX10_addWord_15 : decode cX10_addWord 15 = .ok (.getfield 44, 3) := by decide +kernel
theorem dX10_addWord_18 : decode cX10_addWord 18 = .ok (.ifCond .eq 7, 3) := by decide +kernel
theorem dX10_addWord_21 : decode cX10_addWord 21 = .ok (.iconst 5, 1) := by decide +kernel
theorem dX10_addWord_22 : decode cX10_addWord 22 = .ok (.goto 4, 3) := by decide +kernel
theorem dX10_addWord_25 : decode cX10_addWord 25 = .ok (.iconst 0, 1) := by decide +kernel
theorem dX10_addWord_26 : decode cX10_addWord 26 = .ok (.iload_n 1, 1) := by decide +kernel
theorem dX10_addWord_27 : decode cX10_addWord 27 = .ok (.iload_n 1, 1) := by decide +kernel
theorem dX10_addWord_28 : decode cX10_addWord 28 = .ok (.ldc2_w 36, 3) := by decide +kernel
theorem dX10_addWord_31 : decode cX10_addWord 31 = .ok (.invokevirtual 58, 3) := by decide +kernel
theorem dX10_addWord_34 : decode cX10_addWord 34 = .ok (.ireturn, 1) := by decide +kernel
theorem dX10_addWord_35 : decode cX10_addWord 35 = .ok (.iload_n 2, 1) := by decide +kernel
theorem dX10_addWord_36 : decode cX10_addWord 36 = .ok (.invokestatic 62, 3) := by decide +kernel
theorem dX10_addWord_39 : decode cX10_addWord 39 = .ok (.ifCond .eq 24, 3) := by decide +kernel
theorem dX10_addWord_42 : decode cX10_addWord 42 = .ok (.aload_n 0, 1) := by decide +kernel
theorem dX10_addWord_43 : decode cX10_addWord 43 = .ok (.iload_n 1, 1) := by decide +kernel
theorem dX10_addWord_44 : decode cX10_addWord 44 = .ok (.invokevirtual 66, 3) := by decide +kernel
theorem dX10_addWord_47 : decode cX10_addWord 47 = .ok (.istore_n 3, 1) := by decide +kernel
theorem dX10_addWord_48 : decode cX10_addWord 48 = .ok (.aload_n 0, 1) := by decide +kernel
theorem dX10_addWord_49 : decode cX10_addWord 49 = .ok (.iconst 1, 1) := by decide +kernel
theorem dX10_addWord_50 : decode cX10_addWord 50 = .ok (.iload_n 1, 1) := by decide +kernel
theorem dX10_addWord_51 : decode cX10_addWord 51 = .ok (.iload_n 3, 1) := by decide +kernel
theorem dX10_addWord_52 : decode cX10_addWord 52 = .ok (.aload_n 0, 1) := by decide +kernel
theorem dX10_addWord_53 : decode cX10_addWord 53 = .ok (.iload_n 1, 1) := by decide +kernel
theorem dX10_addWord_54 : decode cX10_addWord 54 = .ok (.iload_n 3, 1) := by decide +kernel
theorem dX10_addWord_55 : decode cX10_addWord 55 = .ok (.invokevirtual 69, 3) := by decide +kernel
theorem dX10_addWord_58 : decode cX10_addWord 58 = .ok (.i2l, 1) := by decide +kernel
theorem dX10_addWord_59 : decode cX10_addWord 59 = .ok (.invokevirtual 58, 3) := by decide +kernel
theorem dX10_addWord_62 : decode cX10_addWord 62 = .ok (.ireturn, 1) := by decide +kernel
theorem dX10_addWord_63 : decode cX10_addWord 63 = .ok (.iload_n 2, 1) := by decide +kernel
theorem dX10_addWord_64 : decode cX10_addWord 64 = .ok (.bipush 48, 2) := by decide +kernel
theorem dX10_addWord_66 : decode cX10_addWord 66 = .ok (.if_icmp .lt 15, 3) := by decide +kernel
theorem dX10_addWord_69 : decode cX10_addWord 69 = .ok (.iload_n 2, 1) := by decide +kernel
theorem dX10_addWord_70 : decode cX10_addWord 70 = .ok (.bipush 57, 2) := by decide +kernel
theorem dX10_addWord_72 : decode cX10_addWord 72 = .ok (.if_icmp .gt 9, 3) := by decide +kernel
theorem dX10_addWord_75 : decode cX10_addWord 75 = .ok (.aload_n 0, 1) := by decide +kernel
theorem dX10_addWord_76 : decode cX10_addWord 76 = .ok (.iload_n 1, 1) := by decide +kernel
theorem dX10_addWord_77 : decode cX10_addWord 77 = .ok (.invokevirtual 73, 3) := by decide +kernel
theorem dX10_addWord_80 : decode cX10_addWord 80 = .ok (.ireturn, 1) := by decide +kernel
theorem dX10_addWord_81 : decode cX10_addWord 81 = .ok (.iload_n 2, 1) := by decide +kernel
theorem dX10_addWord_82 : decode cX10_addWord 82 = .ok (.bipush 34, 2) := by decide +kernel
theorem dX10_addWord_84 : decode cX10_addWord 84 = .ok (.if_icmp .ne 9, 3) := by decide +kernel
theorem dX10_addWord_87 : decode cX10_addWord 87 = .ok (.aload_n 0, 1) := by decide +kernel
theorem dX10_addWord_88 : decode cX10_addWord 88 = .ok (.iload_n 1, 1) := by decide +kernel
theorem dX10_addWord_89 : decode cX10_addWord 89 = .ok (.invokevirtual 76, 3) := by decide +kernel
theorem dX10_addWord_92 : decode cX10_addWord 92 = .ok (.ireturn, 1) := by decide +kernel
theorem dX10_addWord_93 : decode cX10_addWord 93 = .ok (.aload_n 0, 1) := by decide +kernel
theorem dX10_addWord_94 : decode cX10_addWord 94 = .ok (.iconst 4, 1) := by decide +kernel
theorem dX10_addWord_95 : decode cX10_addWord 95 = .ok (.iload_n 1, 1) := by decide +kernel
theorem dX10_addWord_96 : decode cX10_addWord 96 = .ok (.iload_n 1, 1) := by decide +kernel
theorem dX10_addWord_97 : decode cX10_addWord 97 = .ok (.iconst 1, 1) := by decide +kernel
theorem dX10_addWord_98 : decode cX10_addWord 98 = .ok (.iadd, 1) := by decide +kernel
theorem dX10_addWord_99 : decode cX10_addWord 99 = .ok (.iload_n 2, 1) := by decide +kernel
theorem dX10_addWord_100 : decode cX10_addWord 100 = .ok (.i2l, 1) := by decide +kernel
theorem dX10_addWord_101 : decode cX10_addWord 101 = .ok (.invokevirtual 58, 3) := by decide +kernel
theorem dX10_addWord_104 : decode cX10_addWord 104 = .ok (.ireturn, 1) := by decide +kernel
theorem dX10_split_0 : decode cX10_split 0 = .ok (.aload_n 0, 1) := by decide +kernel
theorem dX10_split_1 : decode cX10_split 1 = .ok (.iconst 0, 1) := by decide +kernel
theorem dX10_split_2 : decode cX10_split 2 = .ok (.putfield 29, 3) := by decide +kernel
theorem dX10_split_5 : decode cX10_split 5 = .ok (.aload_n 0, 1) := by decide +kernel
theorem dX10_split_6 : decode cX10_split 6 = .ok (.aload_n 0, 1) := by decide +kernel
theorem dX10_split_7 : decode cX10_split 7 = .ok (.getfield 9, 3) := by decide +kernel
theorem dX10_split_10 : decode cX10_split 10 = .ok (.invokevirtual 38, 3) := by decide +kernel
theorem dX10_split_13 : decode cX10_split 13 = .ok (.putfield 33, 3) := by decide +kernel
theorem dX10_split_16 : decode cX10_split 16 = .ok (.aload_n 0, 1) := by decide +kernel
theorem dX10_split_17 : decode cX10_split 17 = .ok (.iconst 0, 1) := by decide +kernel
theorem dX10_split_18 : decode cX10_split 18 = .ok (.putfield 44, 3) := by decide +kernel
theorem dX10_split_21 : decode cX10_split 21 = .ok (.iconst 0, 1) := by decide +kernel
theorem dX10_split_22 : decode cX10_split 22 = .ok (.istore_n 1, 1) := by decide +kernel
theorem dX10_split_23 : decode cX10_split 23 = .ok (.iconst 0, 1) := by decide +kernel
theorem dX10_split_24 : decode cX10_split 24 = .ok (.istore_n 2, 1) := by decide +kernel
theorem dX10_split_25 : decode cX10_split 25 = .ok (.iload_n 2, 1) := by decide +kernel
theorem dX10_split_26 : decode cX10_split 26 = .ok (.sipush 700, 3) := by decide +kernel
theorem dX10_split_29 : decode cX10_split 29 = .ok (.if_icmp .gt 27, 3) := by decide +kernel
theorem dX10_split_32 : decode cX10_split 32 = .ok (.aload_n 0, 1) := by decide +kernel
theorem dX10_split_33 : decode cX10_split 33 = .ok (.iload_n 1, 1) := by decide +kernel
theorem dX10_split_34 : decode cX10_split 34 = .ok (.invokevirtual 48, 3) := by decide +kernel
theorem dX10_split_37 : decode cX10_split 37 = .ok (.istore_n 3, 1) := by decide +kernel
theorem dX10_split_38 : decode cX10_split 38 = .ok (.aload_n 0, 1) := by decide +kernel
theorem dX10_split_39 : decode cX10_split 39 = .ok (.iload_n 3, 1) := by decide +kernel
theorem dX10_split_40 : decode cX10_split 40 = .ok (.invokevirtual 52, 3) := by decide +kernel
theorem dX10_split_43 : decode cX10_split 43 = .ok (.istore_n 1, 1) := by decide +kernel
theorem dX10_split_44 : decode cX10_split 44 = .ok (.iload_n 1, 1) := by decide +kernel
theorem dX10_split_45 : decode cX10_split 45 = .ok (.iload_n 3, 1) := by decide +kernel
theorem dX10_split_46 : decode cX10_split 46 = .ok (.if_icmp .gt 4, 3) := by decide +kernel
theorem dX10_split_49 : decode cX10_split 49 = .ok (.return_, 1) := by decide +kernel
theorem dX10_split_50 : decode cX10_split 50 = .ok (.iinc 2 1, 3) := by decide +kernel
theorem dX10_split_53 : decode cX10_split 53 = .ok (.goto (-28), 3) := by decide +kernel
theorem dX10_split_56 : decode cX10_split 56 = .ok (.return_, 1) := by decide +kernel
theorem dX10_codeOf_0 : decode cX10_codeOf 0 = .ok (.iload_n 1, 1) := by decide +kernel
theorem dX10_codeOf_1 : decode cX10_codeOf 1 = .ok (.ifCond .lt 43, 3) := by decide +kernel
theorem dX10_codeOf_4 : decode cX10_codeOf 4 = .ok (.iload_n 1, 1) := by decide +kernel
theorem dX10_codeOf_5 : decode cX10_codeOf 5 = .ok (.aload_n 0, 1) := by decide +kernel
theorem dX10_codeOf_6 : decode cX10_codeOf 6 = .ok (.getfield 29, 3) := by decide +kernel
theorem dX10_codeOf_9 : decode cX10_codeOf 9 = .ok (.if_icmp .ge 35, 3) := by decide +kernel
theorem dX10_codeOf_12 : decode cX10_codeOf 12 = .ok (.iload_n 1, 1) := by decide +kernel
theorem dX10_codeOf_13 : decode cX10_codeOf 13 = .ok (.aload_n 0, 1) := by decide +kernel
theorem dX10_codeOf_14 : decode cX10_codeOf 14 = .ok (.getfield 15, 3) := by decide +kernel
theorem dX10_codeOf_17 : decode cX10_codeOf 17 = .ok (.arraylength, 1) := by decide +kernel
theorem dX10_codeOf_18 : decode cX10_codeOf 18 = .ok (.if_icmp .ge 26, 3) := by decide +kernel
theorem dX10_codeOf_21 : decode cX10_codeOf 21 = .ok (.iload_n 1, 1) := by decide +kernel
theorem dX10_codeOf_22 : decode cX10_codeOf 22 = .ok (.aload_n 0, 1) := by decide +kernel
theorem dX10_codeOf_23 : decode cX10_codeOf 23 = .ok (.getfield 25, 3) := by decide +kernel
theorem dX10_codeOf_26 : decode cX10_codeOf 26 = .ok (.arraylength, 1) := by decide +kernel
theorem dX10_codeOf_27 : decode cX10_codeOf 27 = .ok (.if_icmp .ge 17, 3) := by decide +kernel
theorem dX10_codeOf_30 : decode cX10_codeOf 30 = .ok (.aload_n 0, 1) := by decide +kernel
theorem dX10_codeOf_31 : decode cX10_codeOf 31 = .ok (.getfield 15, 3) := by decide +kernel
theorem dX10_codeOf_34 : decode cX10_codeOf 34 = .ok (.iload_n 1, 1) := by decide +kernel
theorem dX10_codeOf_35 : decode cX10_codeOf 35 = .ok (.iaload, 1) := by decide +kernel
theorem dX10_codeOf_36 : decode cX10_codeOf 36 = .ok (.iconst 1, 1) := by decide +kernel
theorem dX10_codeOf_37 : decode cX10_codeOf 37 = .ok (.if_icmp .ne 7, 3) := by decide +kernel
theorem dX10_codeOf_40 : decode cX10_codeOf 40 = .ok (.iconst 1, 1) := by decide +kernel
theorem dX10_codeOf_41 : decode cX10_codeOf 41 = .ok (.goto 4, 3) := by decide +kernel
theorem dX10_codeOf_44 : decode cX10_codeOf 44 = .ok (.iconst 0, 1) := by decide +kernel
theorem dX10_codeOf_45 : decode cX10_codeOf 45 = .ok (.istore_n 2, 1) := by decide +kernel
theorem dX10_codeOf_46 : decode cX10_codeOf 46 = .ok (.iload_n 2, 1) := by decide +kernel
theorem dX10_codeOf_47 : decode cX10_codeOf 47 = .ok (.ifCond .eq 13, 3) := by decide +kernel
theorem dX10_codeOf_50 : decode cX10_codeOf 50 = .ok (.aload_n 0, 1) := by decide +kernel
theorem dX10_codeOf_51 : decode cX10_codeOf 51 = .ok (.getfield 25, 3) := by decide +kernel
theorem dX10_codeOf_54 : decode cX10_codeOf 54 = .ok (.iload_n 1, 1) := by decide +kernel
theorem dX10_codeOf_55 : decode cX10_codeOf 55 = .ok (.laload, 1) := by decide +kernel
theorem dX10_codeOf_56 : decode cX10_codeOf 56 = .ok (.l2i, 1) := by decide +kernel
theorem dX10_codeOf_57 : decode cX10_codeOf 57 = .ok (.goto 4, 3) := by decide +kernel
theorem dX10_codeOf_60 : decode cX10_codeOf 60 = .ok (.iconst (-1), 1) := by decide +kernel
theorem dX10_codeOf_61 : decode cX10_codeOf 61 = .ok (.ireturn, 1) := by decide +kernel
theorem dX5_takesWord_0 : decode cX5_takesWord 0 = .ok (.aload_n 0, 1) := by decide +kernel
theorem dX5_takesWord_1 : decode cX5_takesWord 1 = .ok (.getfield 15, 3) := by decide +kernel
theorem dX5_takesWord_4 : decode cX5_takesWord 4 = .ok (.aload_n 0, 1) := by decide +kernel
theorem dX5_takesWord_5 : decode cX5_takesWord 5 = .ok (.getfield 29, 3) := by decide +kernel
theorem dX5_takesWord_8 : decode cX5_takesWord 8 = .ok (.invokevirtual 69, 3) := by decide +kernel
theorem dX5_takesWord_11 : decode cX5_takesWord 11 = .ok (.iload_n 1, 1) := by decide +kernel
theorem dX5_takesWord_12 : decode cX5_takesWord 12 = .ok (.if_icmp .eq 5, 3) := by decide +kernel
theorem dX5_takesWord_15 : decode cX5_takesWord 15 = .ok (.iconst 0, 1) := by decide +kernel
theorem dX5_takesWord_16 : decode cX5_takesWord 16 = .ok (.ireturn, 1) := by decide +kernel
theorem dX5_takesWord_17 : decode cX5_takesWord 17 = .ok (.aload_n 0, 1) := by decide +kernel
theorem dX5_takesWord_18 : decode cX5_takesWord 18 = .ok (.dup, 1) := by decide +kernel
theorem dX5_takesWord_19 : decode cX5_takesWord 19 = .ok (.getfield 29, 3) := by decide +kernel
theorem dX5_takesWord_22 : decode cX5_takesWord 22 = .ok (.iconst 1, 1) := by decide +kernel
theorem dX5_takesWord_23 : decode cX5_takesWord 23 = .ok (.iadd, 1) := by decide +kernel
theorem dX5_takesWord_24 : decode cX5_takesWord 24 = .ok (.putfield 29, 3) := by decide +kernel
theorem dX5_takesWord_27 : decode cX5_takesWord 27 = .ok (.iconst 1, 1) := by decide +kernel
theorem dX5_takesWord_28 : decode cX5_takesWord 28 = .ok (.ireturn, 1) := by decide +kernel
theorem dX5_readSyntax_0 : decode cX5_readSyntax 0 = .ok (.aload_n 0, 1) := by decide +kernel
theorem dX5_readSyntax_1 : decode cX5_readSyntax 1 = .ok (.bipush 24, 2) := by decide +kernel
theorem dX5_readSyntax_3 : decode cX5_readSyntax 3 = .ok (.invokevirtual 72, 3) := by decide +kernel
theorem dX5_readSyntax_6 : decode cX5_readSyntax 6 = .ok (.ifCond .eq 12, 3) := by decide +kernel
theorem dX5_readSyntax_9 : decode cX5_readSyntax 9 = .ok (.aload_n 0, 1) := by decide +kernel
theorem dX5_readSyntax_10 : decode cX5_readSyntax 10 = .ok (.bipush 61, 2) := by decide +kernel
theorem dX5_readSyntax_12 : decode cX5_readSyntax 12 = .ok (.invokevirtual 76, 3) := by decide +kernel
theorem dX5_readSyntax_15 : decode cX5_readSyntax 15 = .ok (.ifCond .ne 5, 3) := by decide +kernel
theorem dX5_readSyntax_18 : decode cX5_readSyntax 18 = .ok (.iconst 0, 1) := by decide +kernel
theorem dX5_readSyntax_19 : decode cX5_readSyntax 19 = .ok (.ireturn, 1) := by decide +kernel
theorem dX5_readSyntax_20 : decode cX5_readSyntax 20 = .ok (.aload_n 0, 1) := by decide +kernel
theorem dX5_readSyntax_21 : decode cX5_readSyntax 21 = .ok (.getfield 15, 3) := by decide +kernel
theorem dX5_readSyntax_24 : decode cX5_readSyntax 24 = .ok (.aload_n 0, 1) := by decide +kernel
theorem dX5_readSyntax_25 : decode cX5_readSyntax 25 = .ok (.getfield 29, 3) := by decide +kernel
theorem dX5_readSyntax_28 : decode cX5_readSyntax 28 = .ok (.invokevirtual 62, 3) := by decide +kernel
theorem dX5_readSyntax_31 : decode cX5_readSyntax 31 = .ok (.iconst 3, 1) := by decide +kernel
theorem dX5_readSyntax_32 : decode cX5_readSyntax 32 = .ok (.if_icmp .ne 21, 3) := by decide +kernel
theorem dX5_readSyntax_35 : decode cX5_readSyntax 35 = .ok (.aload_n 0, 1) := by decide +kernel
theorem dX5_readSyntax_36 : decode cX5_readSyntax 36 = .ok (.getfield 15, 3) := by decide +kernel
theorem dX5_readSyntax_39 : decode cX5_readSyntax 39 = .ok (.aload_n 0, 1) := by decide +kernel
theorem dX5_readSyntax_40 : decode cX5_readSyntax 40 = .ok (.getfield 29, 3) := by decide +kernel
theorem dX5_readSyntax_43 : decode cX5_readSyntax 43 = .ok (.invokevirtual 79, 3) := by decide +kernel
theorem dX5_readSyntax_46 : decode cX5_readSyntax 46 = .ok (.ldc2_w 83, 3) := by decide +kernel
theorem dX5_readSyntax_49 : decode cX5_readSyntax 49 = .ok (.lcmp, 1) := by decide +kernel
theorem dX5_readSyntax_50 : decode cX5_readSyntax 50 = .ok (.ifCond .eq 5, 3) := by decide +kernel
theorem dX5_readSyntax_53 : decode cX5_readSyntax 53 = .ok (.iconst 0, 1) := by decide +kernel
theorem dX5_readSyntax_54 : decode cX5_readSyntax 54 = .ok (.ireturn, 1) := by decide +kernel
theorem dX5_readSyntax_55 : decode cX5_readSyntax 55 = .ok (.aload_n 0, 1) := by decide +kernel
theorem dX5_readSyntax_56 : decode cX5_readSyntax 56 = .ok (.dup, 1) := by decide +kernel
theorem dX5_readSyntax_57 : decode cX5_readSyntax 57 = .ok (.getfield 29, 3) := by decide +kernel
theorem dX5_readSyntax_60 : decode cX5_readSyntax 60 = .ok (.iconst 1, 1) := by decide +kernel
theorem dX5_readSyntax_61 : decode cX5_readSyntax 61 = .ok (.iadd, 1) := by decide +kernel
theorem dX5_readSyntax_62 : decode cX5_readSyntax 62 = .ok (.putfield 29, 3) := by decide +kernel
theorem dX5_readSyntax_65 : decode cX5_readSyntax 65 = .ok (.aload_n 0, 1) := by decide +kernel
theorem dX5_readSyntax_66 : decode cX5_readSyntax 66 = .ok (.bipush 59, 2) := by decide +kernel
theorem dX5_readSyntax_68 : decode cX5_readSyntax 68 = .ok (.invokevirtual 76, 3) := by decide +kernel
theorem dX5_readSyntax_71 : decode cX5_readSyntax 71 = .ok (.ireturn, 1) := by decide +kernel
theorem dX10_count_0 : decode cX10_count 0 = .ok (.aload_n 0, 1) := by decide +kernel
theorem dX10_count_1 : decode cX10_count 1 = .ok (.getfield 29, 3) := by decide +kernel
theorem dX10_count_4 : decode cX10_count 4 = .ok (.ireturn, 1) := by decide +kernel
theorem dX5_read_0 : decode cX5_read 0 = .ok (.aload_n 0, 1) := by decide +kernel
theorem dX5_read_1 : decode cX5_read 1 = .ok (.aconst_null, 1) := by decide +kernel
theorem dX5_read_2 : decode cX5_read 2 = .ok (.putfield 19, 3) := by decide +kernel
theorem dX5_read_5 : decode cX5_read 5 = .ok (.aload_n 0, 1) := by decide +kernel
theorem dX5_read_6 : decode cX5_read 6 = .ok (.aconst_null, 1) := by decide +kernel
theorem dX5_read_7 : decode cX5_read 7 = .ok (.putfield 23, 3) := by decide +kernel
theorem dX5_read_10 : decode cX5_read 10 = .ok (.aload_n 0, 1) := by decide +kernel
theorem dX5_read_11 : decode cX5_read 11 = .ok (.aconst_null, 1) := by decide +kernel
theorem dX5_read_12 : decode cX5_read 12 = .ok (.putfield 26, 3) := by decide +kernel
theorem dX5_read_15 : decode cX5_read 15 = .ok (.aload_n 0, 1) := by decide +kernel
theorem dX5_read_16 : decode cX5_read 16 = .ok (.iconst 0, 1) := by decide +kernel
theorem dX5_read_17 : decode cX5_read 17 = .ok (.putfield 29, 3) := by decide +kernel
theorem dX5_read_20 : decode cX5_read 20 = .ok (.aload_n 0, 1) := by decide +kernel
theorem dX5_read_21 : decode cX5_read 21 = .ok (.iconst 1, 1) := by decide +kernel
theorem dX5_read_22 : decode cX5_read 22 = .ok (.putfield 33, 3) := by decide +kernel
theorem dX5_read_25 : decode cX5_read 25 = .ok (.aload_n 0, 1) := by decide +kernel
theorem dX5_read_26 : decode cX5_read 26 = .ok (.invokevirtual 36, 3) := by decide +kernel
theorem dX5_read_29 : decode cX5_read 29 = .ok (.istore_n 1, 1) := by decide +kernel
theorem dX5_read_30 : decode cX5_read 30 = .ok (.iconst 0, 1) := by decide +kernel
theorem dX5_read_31 : decode cX5_read 31 = .ok (.istore_n 2, 1) := by decide +kernel
theorem dX5_read_32 : decode cX5_read 32 = .ok (.iload_n 2, 1) := by decide +kernel
theorem dX5_read_33 : decode cX5_read 33 = .ok (.aload_n 0, 1) := by decide +kernel
theorem dX5_read_34 : decode cX5_read 34 = .ok (.getfield 15, 3) := by decide +kernel
theorem dX5_read_37 : decode cX5_read 37 = .ok (.invokevirtual 40, 3) := by decide +kernel
theorem dX5_read_40 : decode cX5_read 40 = .ok (.if_icmp .ge 53, 3) := by decide +kernel
theorem dX5_read_43 : decode cX5_read 43 = .ok (.iload_n 1, 1) := by decide +kernel
theorem dX5_read_44 : decode cX5_read 44 = .ok (.ifCond .eq 49, 3) := by decide +kernel
theorem dX5_read_47 : decode cX5_read 47 = .ok (.aload_n 0, 1) := by decide +kernel
theorem dX5_read_48 : decode cX5_read 48 = .ok (.invokevirtual 46, 3) := by decide +kernel
theorem dX5_read_51 : decode cX5_read 51 = .ok (.ifCond .ne 42, 3) := by decide +kernel
theorem dX5_read_54 : decode cX5_read 54 = .ok (.aload_n 0, 1) := by decide +kernel
theorem dX5_read_55 : decode cX5_read 55 = .ok (.getfield 26, 3) := by decide +kernel
theorem dX5_read_58 : decode cX5_read 58 = .ok (.ifnull 10, 3) := by decide +kernel
theorem dX5_read_61 : decode cX5_read 61 = .ok (.aload_n 0, 1) := by decide +kernel
theorem dX5_read_62 : decode cX5_read 62 = .ok (.invokevirtual 49, 3) := by decide +kernel
theorem dX5_read_65 : decode cX5_read 65 = .ok (.goto 21, 3) := by decide +kernel
theorem dX5_read_68 : decode cX5_read 68 = .ok (.aload_n 0, 1) := by decide +kernel
theorem dX5_read_69 : decode cX5_read 69 = .ok (.getfield 23, 3) := by decide +kernel
theorem dX5_read_72 : decode cX5_read 72 = .ok (.ifnull 10, 3) := by decide +kernel
theorem dX5_read_75 : decode cX5_read 75 = .ok (.aload_n 0, 1) := by decide +kernel
theorem dX5_read_76 : decode cX5_read 76 = .ok (.invokevirtual 52, 3) := by decide +kernel
theorem dX5_read_79 : decode cX5_read 79 = .ok (.goto 7, 3) := by decide +kernel
theorem dX5_read_82 : decode cX5_read 82 = .ok (.aload_n 0, 1) := by decide +kernel
theorem dX5_read_83 : decode cX5_read 83 = .ok (.invokevirtual 55, 3) := by decide +kernel
theorem dX5_read_86 : decode cX5_read 86 = .ok (.istore_n 1, 1) := by decide +kernel
theorem dX5_read_87 : decode cX5_read 87 = .ok (.iinc 2 1, 3) := by decide +kernel
theorem dX5_read_90 : decode cX5_read 90 = .ok (.goto (-58), 3) := by decide +kernel
theorem dX5_read_93 : decode cX5_read 93 = .ok (.iload_n 1, 1) := by decide +kernel
theorem dX5_read_94 : decode cX5_read 94 = .ok (.ifCond .eq 14, 3) := by decide +kernel
theorem dX5_read_97 : decode cX5_read 97 = .ok (.aload_n 0, 1) := by decide +kernel
theorem dX5_read_98 : decode cX5_read 98 = .ok (.invokevirtual 46, 3) := by decide +kernel
theorem dX5_read_101 : decode cX5_read 101 = .ok (.ifCond .eq 7, 3) := by decide +kernel
theorem dX5_read_104 : decode cX5_read 104 = .ok (.iconst 0, 1) := by decide +kernel
theorem dX5_read_105 : decode cX5_read 105 = .ok (.goto 7, 3) := by decide +kernel
theorem dX5_read_108 : decode cX5_read 108 = .ok (.aload_n 0, 1) := by decide +kernel
theorem dX5_read_109 : decode cX5_read 109 = .ok (.getfield 33, 3) := by decide +kernel
theorem dX5_read_112 : decode cX5_read 112 = .ok (.ireturn, 1) := by decide +kernel
theorem dX10_startOf_0 : decode cX10_startOf 0 = .ok (.iload_n 1, 1) := by decide +kernel
theorem dX10_startOf_1 : decode cX10_startOf 1 = .ok (.ifCond .lt 29, 3) := by decide +kernel
theorem dX10_startOf_4 : decode cX10_startOf 4 = .ok (.iload_n 1, 1) := by decide +kernel
theorem dX10_startOf_5 : decode cX10_startOf 5 = .ok (.aload_n 0, 1) := by decide +kernel
theorem dX10_startOf_6 : decode cX10_startOf 6 = .ok (.getfield 29, 3) := by decide +kernel
theorem dX10_startOf_9 : decode cX10_startOf 9 = .ok (.if_icmp .ge 21, 3) := by decide +kernel
theorem dX10_startOf_12 : decode cX10_startOf 12 = .ok (.iload_n 1, 1) := by decide +kernel
theorem dX10_startOf_13 : decode cX10_startOf 13 = .ok (.aload_n 0, 1) := by decide +kernel
theorem dX10_startOf_14 : decode cX10_startOf 14 = .ok (.getfield 19, 3) := by decide +kernel
theorem dX10_startOf_17 : decode cX10_startOf 17 = .ok (.arraylength, 1) := by decide +kernel
theorem dX10_startOf_18 : decode cX10_startOf 18 = .ok (.if_icmp .ge 12, 3) := by decide +kernel
theorem dX10_startOf_21 : decode cX10_startOf 21 = .ok (.aload_n 0, 1) := by decide +kernel
theorem dX10_startOf_22 : decode cX10_startOf 22 = .ok (.getfield 19, 3) := by decide +kernel
theorem dX10_startOf_25 : decode cX10_startOf 25 = .ok (.iload_n 1, 1) := by decide +kernel
theorem dX10_startOf_26 : decode cX10_startOf 26 = .ok (.iaload, 1) := by decide +kernel
theorem dX10_startOf_27 : decode cX10_startOf 27 = .ok (.goto 7, 3) := by decide +kernel
theorem dX10_startOf_30 : decode cX10_startOf 30 = .ok (.aload_n 0, 1) := by decide +kernel
theorem dX10_startOf_31 : decode cX10_startOf 31 = .ok (.getfield 33, 3) := by decide +kernel
theorem dX10_startOf_34 : decode cX10_startOf 34 = .ok (.ireturn, 1) := by decide +kernel
theorem dX5_endPlace_0 : decode cX5_endPlace 0 = .ok (.aload_n 0, 1) := by decide +kernel
theorem dX5_endPlace_1 : decode cX5_endPlace 1 = .ok (.getfield 15, 3) := by decide +kernel
theorem dX5_endPlace_4 : decode cX5_endPlace 4 = .ok (.aload_n 0, 1) := by decide +kernel
theorem dX5_endPlace_5 : decode cX5_endPlace 5 = .ok (.getfield 29, 3) := by decide +kernel
theorem dX5_endPlace_8 : decode cX5_endPlace 8 = .ok (.invokevirtual 58, 3) := by decide +kernel
theorem dX5_endPlace_11 : decode cX5_endPlace 11 = .ok (.ireturn, 1) := by decide +kernel
theorem dX6_used_0 : decode cX6_used 0 = .ok (.aload_n 0, 1) := by decide +kernel
theorem dX6_used_1 : decode cX6_used 1 = .ok (.getfield 34, 3) := by decide +kernel
theorem dX6_used_4 : decode cX6_used 4 = .ok (.ireturn, 1) := by decide +kernel
theorem dX2_run_0 : decode cX2_run 0 = .ok (.aload_n 0, 1) := by decide +kernel
theorem dX2_run_1 : decode cX2_run 1 = .ok (.getfield 12, 3) := by decide +kernel
theorem dX2_run_4 : decode cX2_run 4 = .ok (.invokevirtual 44, 3) := by decide +kernel
theorem dX2_run_7 : decode cX2_run 7 = .ok (.aload_n 0, 1) := by decide +kernel
theorem dX2_run_8 : decode cX2_run 8 = .ok (.getfield 12, 3) := by decide +kernel
theorem dX2_run_11 : decode cX2_run 11 = .ok (.invokevirtual 20, 3) := by decide +kernel
theorem dX2_run_14 : decode cX2_run 14 = .ok (.aload_n 1, 1) := by decide +kernel
theorem dX2_run_15 : decode cX2_run 15 = .ok (.iconst 0, 1) := by decide +kernel
theorem dX2_run_16 : decode cX2_run 16 = .ok (.aload_n 1, 1) := by decide +kernel
theorem dX2_run_17 : decode cX2_run 17 = .ok (.invokevirtual 47, 3) := by decide +kernel
theorem dX2_run_20 : decode cX2_run 20 = .ok (.invokevirtual 53, 3) := by decide +kernel
theorem dX2_run_23 : decode cX2_run 23 = .ok (.aload_n 0, 1) := by decide +kernel
theorem dX2_run_24 : decode cX2_run 24 = .ok (.getfield 27, 3) := by decide +kernel
theorem dX2_run_27 : decode cX2_run 27 = .ok (.invokevirtual 57, 3) := by decide +kernel
theorem dX2_run_30 : decode cX2_run 30 = .ok (.aload_n 0, 1) := by decide +kernel
theorem dX2_run_31 : decode cX2_run 31 = .ok (.aload_n 0, 1) := by decide +kernel
theorem dX2_run_32 : decode cX2_run 32 = .ok (.getfield 36, 3) := by decide +kernel
theorem dX2_run_35 : decode cX2_run 35 = .ok (.invokevirtual 60, 3) := by decide +kernel
theorem dX2_run_38 : decode cX2_run 38 = .ok (.putfield 63, 3) := by decide +kernel
theorem dX2_run_41 : decode cX2_run 41 = .ok (.aload_n 0, 1) := by decide +kernel
theorem dX2_run_42 : decode cX2_run 42 = .ok (.aload_n 0, 1) := by decide +kernel
theorem dX2_run_43 : decode cX2_run 43 = .ok (.getfield 63, 3) := by decide +kernel
theorem dX2_run_46 : decode cX2_run 46 = .ok (.ifCond .ne 7, 3) := by decide +kernel
theorem dX2_run_49 : decode cX2_run 49 = .ok (.iconst (-1), 1) := by decide +kernel
theorem dX2_run_50 : decode cX2_run 50 = .ok (.goto 10, 3) := by decide +kernel
theorem dX2_run_53 : decode cX2_run 53 = .ok (.aload_n 0, 1) := by decide +kernel
theorem dX2_run_54 : decode cX2_run 54 = .ok (.getfield 36, 3) := by decide +kernel
theorem dX2_run_57 : decode cX2_run 57 = .ok (.invokevirtual 66, 3) := by decide +kernel
theorem dX2_run_60 : decode cX2_run 60 = .ok (.putfield 40, 3) := by decide +kernel
theorem dX2_run_63 : decode cX2_run 63 = .ok (.iconst 0, 1) := by decide +kernel
theorem dX2_run_64 : decode cX2_run 64 = .ok (.istore_n 2, 1) := by decide +kernel
theorem dX2_run_65 : decode cX2_run 65 = .ok (.iload_n 2, 1) := by decide +kernel
theorem dX2_run_66 : decode cX2_run 66 = .ok (.aload_n 0, 1) := by decide +kernel
theorem dX2_run_67 : decode cX2_run 67 = .ok (.getfield 12, 3) := by decide +kernel
theorem dX2_run_70 : decode cX2_run 70 = .ok (.invokevirtual 69, 3) := by decide +kernel
theorem dX2_run_73 : decode cX2_run 73 = .ok (.if_icmp .ge 29, 3) := by decide +kernel
theorem dX2_run_76 : decode cX2_run 76 = .ok (.aload_n 0, 1) := by decide +kernel
theorem dX2_run_77 : decode cX2_run 77 = .ok (.getfield 63, 3) := by decide +kernel
theorem dX2_run_80 : decode cX2_run 80 = .ok (.ifCond .ne 22, 3) := by decide +kernel
theorem dX2_run_83 : decode cX2_run 83 = .ok (.aload_n 0, 1) := by decide +kernel
theorem dX2_run_84 : decode cX2_run 84 = .ok (.aload_n 0, 1) := by decide +kernel
theorem dX2_run_85 : decode cX2_run 85 = .ok (.getfield 12, 3) := by decide +kernel
theorem dX2_run_88 : decode cX2_run 88 = .ok (.iload_n 2, 1) := by decide +kernel
theorem dX2_run_89 : decode cX2_run 89 = .ok (.invokevirtual 72, 3) := by decide +kernel
theorem dX2_run_92 : decode cX2_run 92 = .ok (.iload_n 2, 1) := by decide +kernel
theorem dX2_run_93 : decode cX2_run 93 = .ok (.invokevirtual 76, 3) := by decide +kernel
theorem dX2_run_96 : decode cX2_run 96 = .ok (.iinc 2 1, 3) := by decide +kernel
theorem dX2_run_99 : decode cX2_run 99 = .ok (.goto (-34), 3) := by decide +kernel
theorem dX2_run_102 : decode cX2_run 102 = .ok (.aload_n 0, 1) := by decide +kernel
theorem dX2_run_103 : decode cX2_run 103 = .ok (.getfield 63, 3) := by decide +kernel
theorem dX2_run_106 : decode cX2_run 106 = .ok (.ifCond .ne 20, 3) := by decide +kernel
theorem dX2_run_109 : decode cX2_run 109 = .ok (.aload_n 0, 1) := by decide +kernel
theorem dX2_run_110 : decode cX2_run 110 = .ok (.invokevirtual 80, 3) := by decide +kernel
theorem dX2_run_113 : decode cX2_run 113 = .ok (.ifCond .eq 13, 3) := by decide +kernel
theorem dX2_run_116 : decode cX2_run 116 = .ok (.aload_n 0, 1) := by decide +kernel
theorem dX2_run_117 : decode cX2_run 117 = .ok (.bipush 7, 2) := by decide +kernel
theorem dX2_run_119 : decode cX2_run 119 = .ok (.aload_n 1, 1) := by decide +kernel
theorem dX2_run_120 : decode cX2_run 120 = .ok (.invokevirtual 47, 3) := by decide +kernel
theorem dX2_run_123 : decode cX2_run 123 = .ok (.invokevirtual 84, 3) := by decide +kernel
theorem dX2_run_126 : decode cX2_run 126 = .ok (.aload_n 0, 1) := by decide +kernel
theorem dX2_run_127 : decode cX2_run 127 = .ok (.getfield 63, 3) := by decide +kernel
theorem dX2_run_130 : decode cX2_run 130 = .ok (.ifCond .eq 10, 3) := by decide +kernel
theorem dX2_run_133 : decode cX2_run 133 = .ok (.aload_n 0, 1) := by decide +kernel
theorem dX2_run_134 : decode cX2_run 134 = .ok (.getfield 12, 3) := by decide +kernel
theorem dX2_run_137 : decode cX2_run 137 = .ok (.invokevirtual 44, 3) := by decide +kernel
theorem dX2_run_140 : decode cX2_run 140 = .ok (.aload_n 0, 1) := by decide +kernel
theorem dX2_run_141 : decode cX2_run 141 = .ok (.getfield 63, 3) := by decide +kernel
theorem dX2_run_144 : decode cX2_run 144 = .ok (.ireturn, 1) := by decide +kernel
