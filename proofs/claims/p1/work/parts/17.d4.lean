theorem dX11_compilerOf_0 : decode cX11_compilerOf 0 = .ok (.iload_n 1, 1) := by decide +kernel
theorem dX11_compilerOf_1 : decode cX11_compilerOf 1 = .ok (.ifCond .ne 10, 3) := by decide +kernel
theorem dX11_compilerOf_4 : decode cX11_compilerOf 4 = .ok (.aload_n 0, 1) := by decide +kernel
theorem dX11_compilerOf_5 : decode cX11_compilerOf 5 = .ok (.getfield 24, 3) := by decide +kernel
theorem dX11_compilerOf_8 : decode cX11_compilerOf 8 = .ok (.goto 16, 3) := by decide +kernel
theorem dX11_compilerOf_11 : decode cX11_compilerOf 11 = .ok (.iload_n 1, 1) := by decide +kernel
theorem dX11_compilerOf_12 : decode cX11_compilerOf 12 = .ok (.iconst 1, 1) := by decide +kernel
theorem dX11_compilerOf_13 : decode cX11_compilerOf 13 = .ok (.if_icmp .ne 10, 3) := by decide +kernel
theorem dX11_compilerOf_16 : decode cX11_compilerOf 16 = .ok (.aload_n 0, 1) := by decide +kernel
theorem dX11_compilerOf_17 : decode cX11_compilerOf 17 = .ok (.getfield 28, 3) := by decide +kernel
theorem dX11_compilerOf_20 : decode cX11_compilerOf 20 = .ok (.goto 4, 3) := by decide +kernel
theorem dX11_compilerOf_23 : decode cX11_compilerOf 23 = .ok (.aconst_null, 1) := by decide +kernel
theorem dX11_compilerOf_24 : decode cX11_compilerOf 24 = .ok (.areturn, 1) := by decide +kernel
theorem dX8_drop_0 : decode cX8_drop 0 = .ok (.aload_n 0, 1) := by decide +kernel
theorem dX8_drop_1 : decode cX8_drop 1 = .ok (.aconst_null, 1) := by decide +kernel
theorem dX8_drop_2 : decode cX8_drop 2 = .ok (.putfield 37, 3) := by decide +kernel
theorem dX8_drop_5 : decode cX8_drop 5 = .ok (.aload_n 0, 1) := by decide +kernel
theorem dX8_drop_6 : decode cX8_drop 6 = .ok (.aconst_null, 1) := by decide +kernel
theorem dX8_drop_7 : decode cX8_drop 7 = .ok (.putfield 33, 3) := by decide +kernel
theorem dX8_drop_10 : decode cX8_drop 10 = .ok (.aload_n 0, 1) := by decide +kernel
theorem dX8_drop_11 : decode cX8_drop 11 = .ok (.getfield 29, 3) := by decide +kernel
theorem dX8_drop_14 : decode cX8_drop 14 = .ok (.invokevirtual 45, 3) := by decide +kernel
theorem dX8_drop_17 : decode cX8_drop 17 = .ok (.aload_n 0, 1) := by decide +kernel
theorem dX8_drop_18 : decode cX8_drop 18 = .ok (.iconst 0, 1) := by decide +kernel
theorem dX8_drop_19 : decode cX8_drop 19 = .ok (.putfield 48, 3) := by decide +kernel
theorem dX8_drop_22 : decode cX8_drop 22 = .ok (.aload_n 0, 1) := by decide +kernel
theorem dX8_drop_23 : decode cX8_drop 23 = .ok (.getfield 20, 3) := by decide +kernel
theorem dX8_drop_26 : decode cX8_drop 26 = .ok (.aconst_null, 1) := by decide +kernel
theorem dX8_drop_27 : decode cX8_drop 27 = .ok (.invokevirtual 52, 3) := by decide +kernel
theorem dX8_drop_30 : decode cX8_drop 30 = .ok (.return_, 1) := by decide +kernel
theorem dX6_clear_0 : decode cX6_clear 0 = .ok (.aload_n 0, 1) := by decide +kernel
theorem dX6_clear_1 : decode cX6_clear 1 = .ok (.getfield 14, 3) := by decide +kernel
theorem dX6_clear_4 : decode cX6_clear 4 = .ok (.invokevirtual 31, 3) := by decide +kernel
theorem dX6_clear_7 : decode cX6_clear 7 = .ok (.aload_n 0, 1) := by decide +kernel
theorem dX6_clear_8 : decode cX6_clear 8 = .ok (.iconst 0, 1) := by decide +kernel
theorem dX6_clear_9 : decode cX6_clear 9 = .ok (.putfield 34, 3) := by decide +kernel
theorem dX6_clear_12 : decode cX6_clear 12 = .ok (.aload_n 0, 1) := by decide +kernel
theorem dX6_clear_13 : decode cX6_clear 13 = .ok (.iconst 0, 1) := by decide +kernel
theorem dX6_clear_14 : decode cX6_clear 14 = .ok (.putfield 38, 3) := by decide +kernel
theorem dX6_clear_17 : decode cX6_clear 17 = .ok (.iconst 0, 1) := by decide +kernel
theorem dX6_clear_18 : decode cX6_clear 18 = .ok (.istore_n 1, 1) := by decide +kernel
theorem dX6_clear_19 : decode cX6_clear 19 = .ok (.iload_n 1, 1) := by decide +kernel
theorem dX6_clear_20 : decode cX6_clear 20 = .ok (.aload_n 0, 1) := by decide +kernel
theorem dX6_clear_21 : decode cX6_clear 21 = .ok (.getfield 27, 3) := by decide +kernel
theorem dX6_clear_24 : decode cX6_clear 24 = .ok (.arraylength, 1) := by decide +kernel
theorem dX6_clear_25 : decode cX6_clear 25 = .ok (.if_icmp .ge 16, 3) := by decide +kernel
theorem dX6_clear_28 : decode cX6_clear 28 = .ok (.aload_n 0, 1) := by decide +kernel
theorem dX6_clear_29 : decode cX6_clear 29 = .ok (.getfield 27, 3) := by decide +kernel
theorem dX6_clear_32 : decode cX6_clear 32 = .ok (.iload_n 1, 1) := by decide +kernel
theorem dX6_clear_33 : decode cX6_clear 33 = .ok (.iconst 0, 1) := by decide +kernel
theorem dX6_clear_34 : decode cX6_clear 34 = .ok (.iastore, 1) := by decide +kernel
theorem dX6_clear_35 : decode cX6_clear 35 = .ok (.iinc 1 1, 3) := by decide +kernel
theorem dX6_clear_38 : decode cX6_clear 38 = .ok (.goto (-19), 3) := by decide +kernel
theorem dX6_clear_41 : decode cX6_clear 41 = .ok (.return_, 1) := by decide +kernel
theorem dX10_behindBlanks_0 : decode cX10_behindBlanks 0 = .ok (.iload_n 1, 1) := by decide +kernel
theorem dX10_behindBlanks_1 : decode cX10_behindBlanks 1 = .ok (.istore_n 2, 1) := by decide +kernel
theorem dX10_behindBlanks_2 : decode cX10_behindBlanks 2 = .ok (.iload_n 2, 1) := by decide +kernel
theorem dX10_behindBlanks_3 : decode cX10_behindBlanks 3 = .ok (.aload_n 0, 1) := by decide +kernel
theorem dX10_behindBlanks_4 : decode cX10_behindBlanks 4 = .ok (.getfield 33, 3) := by decide +kernel
theorem dX10_behindBlanks_7 : decode cX10_behindBlanks 7 = .ok (.if_icmp .ge 85, 3) := by decide +kernel
theorem dX10_behindBlanks_10 : decode cX10_behindBlanks 10 = .ok (.aload_n 0, 1) := by decide +kernel
theorem dX10_behindBlanks_11 : decode cX10_behindBlanks 11 = .ok (.getfield 9, 3) := by decide +kernel
theorem dX10_behindBlanks_14 : decode cX10_behindBlanks 14 = .ok (.iload_n 2, 1) := by decide +kernel
theorem dX10_behindBlanks_15 : decode cX10_behindBlanks 15 = .ok (.invokevirtual 55, 3) := by decide +kernel
theorem dX10_behindBlanks_18 : decode cX10_behindBlanks 18 = .ok (.istore_n 3, 1) := by decide +kernel
theorem dX10_behindBlanks_19 : decode cX10_behindBlanks 19 = .ok (.iload_n 3, 1) := by decide +kernel
theorem dX10_behindBlanks_20 : decode cX10_behindBlanks 20 = .ok (.bipush 47, 2) := by decide +kernel
theorem dX10_behindBlanks_22 : decode cX10_behindBlanks 22 = .ok (.if_icmp .ne 16, 3) := by decide +kernel
theorem dX10_behindBlanks_25 : decode cX10_behindBlanks 25 = .ok (.aload_n 0, 1) := by decide +kernel
theorem dX10_behindBlanks_26 : decode cX10_behindBlanks 26 = .ok (.getfield 9, 3) := by decide +kernel
theorem dX10_behindBlanks_29 : decode cX10_behindBlanks 29 = .ok (.iload_n 2, 1) := by decide +kernel
theorem dX10_behindBlanks_30 : decode cX10_behindBlanks 30 = .ok (.iconst 1, 1) := by decide +kernel
theorem dX10_behindBlanks_31 : decode cX10_behindBlanks 31 = .ok (.iadd, 1) := by decide +kernel
theorem dX10_behindBlanks_32 : decode cX10_behindBlanks 32 = .ok (.invokevirtual 55, 3) := by decide +kernel
theorem dX10_behindBlanks_35 : decode cX10_behindBlanks 35 = .ok (.goto 4, 3) := by decide +kernel
theorem dX10_behindBlanks_38 : decode cX10_behindBlanks 38 = .ok (.iconst (-1), 1) := by decide +kernel
theorem dX10_behindBlanks_39 : decode cX10_behindBlanks 39 = .ok (.istore 4, 2) := by decide +kernel
theorem dX10_behindBlanks_41 : decode cX10_behindBlanks 41 = .ok (.iload 4, 2) := by decide +kernel
theorem dX10_behindBlanks_43 : decode cX10_behindBlanks 43 = .ok (.bipush 47, 2) := by decide +kernel
theorem dX10_behindBlanks_45 : decode cX10_behindBlanks 45 = .ok (.if_icmp .ne 14, 3) := by decide +kernel
theorem dX10_behindBlanks_48 : decode cX10_behindBlanks 48 = .ok (.aload_n 0, 1) := by decide +kernel
theorem dX10_behindBlanks_49 : decode cX10_behindBlanks 49 = .ok (.iload_n 2, 1) := by decide +kernel
theorem dX10_behindBlanks_50 : decode cX10_behindBlanks 50 = .ok (.iconst 2, 1) := by decide +kernel
theorem dX10_behindBlanks_51 : decode cX10_behindBlanks 51 = .ok (.iadd, 1) := by decide +kernel
theorem dX10_behindBlanks_52 : decode cX10_behindBlanks 52 = .ok (.invokevirtual 103, 3) := by decide +kernel
theorem dX10_behindBlanks_55 : decode cX10_behindBlanks 55 = .ok (.istore_n 2, 1) := by decide +kernel
theorem dX10_behindBlanks_56 : decode cX10_behindBlanks 56 = .ok (.goto 30, 3) := by decide +kernel
theorem dX10_behindBlanks_59 : decode cX10_behindBlanks 59 = .ok (.iload 4, 2) := by decide +kernel
theorem dX10_behindBlanks_61 : decode cX10_behindBlanks 61 = .ok (.bipush 42, 2) := by decide +kernel
theorem dX10_behindBlanks_63 : decode cX10_behindBlanks 63 = .ok (.if_icmp .ne 14, 3) := by decide +kernel
theorem dX10_behindBlanks_66 : decode cX10_behindBlanks 66 = .ok (.aload_n 0, 1) := by decide +kernel
theorem dX10_behindBlanks_67 : decode cX10_behindBlanks 67 = .ok (.iload_n 2, 1) := by decide +kernel
theorem dX10_behindBlanks_68 : decode cX10_behindBlanks 68 = .ok (.iconst 2, 1) := by decide +kernel
theorem dX10_behindBlanks_69 : decode cX10_behindBlanks 69 = .ok (.iadd, 1) := by decide +kernel
theorem dX10_behindBlanks_70 : decode cX10_behindBlanks 70 = .ok (.invokevirtual 106, 3) := by decide +kernel
theorem dX10_behindBlanks_73 : decode cX10_behindBlanks 73 = .ok (.istore_n 2, 1) := by decide +kernel
theorem dX10_behindBlanks_74 : decode cX10_behindBlanks 74 = .ok (.goto 12, 3) := by decide +kernel
theorem dX10_behindBlanks_77 : decode cX10_behindBlanks 77 = .ok (.iload_n 3, 1) := by decide +kernel
theorem dX10_behindBlanks_78 : decode cX10_behindBlanks 78 = .ok (.invokestatic 109, 3) := by decide +kernel
theorem dX10_behindBlanks_81 : decode cX10_behindBlanks 81 = .ok (.ifCond .ne 5, 3) := by decide +kernel
theorem dX10_behindBlanks_84 : decode cX10_behindBlanks 84 = .ok (.iload_n 2, 1) := by decide +kernel
theorem dX10_behindBlanks_85 : decode cX10_behindBlanks 85 = .ok (.ireturn, 1) := by decide +kernel
theorem dX10_behindBlanks_86 : decode cX10_behindBlanks 86 = .ok (.iinc 2 1, 3) := by decide +kernel
theorem dX10_behindBlanks_89 : decode cX10_behindBlanks 89 = .ok (.goto (-87), 3) := by decide +kernel
theorem dX10_behindBlanks_92 : decode cX10_behindBlanks 92 = .ok (.aload_n 0, 1) := by decide +kernel
theorem dX10_behindBlanks_93 : decode cX10_behindBlanks 93 = .ok (.getfield 33, 3) := by decide +kernel
theorem dX10_behindBlanks_96 : decode cX10_behindBlanks 96 = .ok (.ireturn, 1) := by decide +kernel
theorem dX10_push_0 : decode cX10_push 0 = .ok (.aload_n 0, 1) := by decide +kernel
theorem dX10_push_1 : decode cX10_push 1 = .ok (.getfield 29, 3) := by decide +kernel
theorem dX10_push_4 : decode cX10_push 4 = .ok (.ifCond .lt 51, 3) := by decide +kernel
theorem dX10_push_7 : decode cX10_push 7 = .ok (.aload_n 0, 1) := by decide +kernel
theorem dX10_push_8 : decode cX10_push 8 = .ok (.getfield 29, 3) := by decide +kernel
theorem dX10_push_11 : decode cX10_push 11 = .ok (.aload_n 0, 1) := by decide +kernel
theorem dX10_push_12 : decode cX10_push 12 = .ok (.getfield 15, 3) := by decide +kernel
theorem dX10_push_15 : decode cX10_push 15 = .ok (.arraylength, 1) := by decide +kernel
theorem dX10_push_16 : decode cX10_push 16 = .ok (.if_icmp .ge 39, 3) := by decide +kernel
theorem dX10_push_19 : decode cX10_push 19 = .ok (.aload_n 0, 1) := by decide +kernel
theorem dX10_push_20 : decode cX10_push 20 = .ok (.getfield 29, 3) := by decide +kernel
theorem dX10_push_23 : decode cX10_push 23 = .ok (.aload_n 0, 1) := by decide +kernel
theorem dX10_push_24 : decode cX10_push 24 = .ok (.getfield 19, 3) := by decide +kernel
theorem dX10_push_27 : decode cX10_push 27 = .ok (.arraylength, 1) := by decide +kernel
theorem dX10_push_28 : decode cX10_push 28 = .ok (.if_icmp .ge 27, 3) := by decide +kernel
theorem dX10_push_31 : decode cX10_push 31 = .ok (.aload_n 0, 1) := by decide +kernel
theorem dX10_push_32 : decode cX10_push 32 = .ok (.getfield 29, 3) := by decide +kernel
theorem dX10_push_35 : decode cX10_push 35 = .ok (.aload_n 0, 1) := by decide +kernel
theorem dX10_push_36 : decode cX10_push 36 = .ok (.getfield 22, 3) := by decide +kernel
theorem dX10_push_39 : decode cX10_push 39 = .ok (.arraylength, 1) := by decide +kernel
theorem dX10_push_40 : decode cX10_push 40 = .ok (.if_icmp .ge 15, 3) := by decide +kernel
theorem dX10_push_43 : decode cX10_push 43 = .ok (.aload_n 0, 1) := by decide +kernel
theorem dX10_push_44 : decode cX10_push 44 = .ok (.getfield 29, 3) := by decide +kernel
theorem dX10_push_47 : decode cX10_push 47 = .ok (.aload_n 0, 1) := by decide +kernel
theorem dX10_push_48 : decode cX10_push 48 = .ok (.getfield 25, 3) := by decide +kernel
theorem dX10_push_51 : decode cX10_push 51 = .ok (.arraylength, 1) := by decide +kernel
theorem dX10_push_52 : decode cX10_push 52 = .ok (.if_icmp .lt 5, 3) := by decide +kernel
theorem dX10_push_55 : decode cX10_push 55 = .ok (.iload_n 2, 1) := by decide +kernel
theorem dX10_push_56 : decode cX10_push 56 = .ok (.ireturn, 1) := by decide +kernel
theorem dX10_push_57 : decode cX10_push 57 = .ok (.aload_n 0, 1) := by decide +kernel
theorem dX10_push_58 : decode cX10_push 58 = .ok (.getfield 15, 3) := by decide +kernel
theorem dX10_push_61 : decode cX10_push 61 = .ok (.aload_n 0, 1) := by decide +kernel
theorem dX10_push_62 : decode cX10_push 62 = .ok (.getfield 29, 3) := by decide +kernel
theorem dX10_push_65 : decode cX10_push 65 = .ok (.iload_n 1, 1) := by decide +kernel
theorem dX10_push_66 : decode cX10_push 66 = .ok (.iastore, 1) := by decide +kernel
theorem dX10_push_67 : decode cX10_push 67 = .ok (.aload_n 0, 1) := by decide +kernel
theorem dX10_push_68 : decode cX10_push 68 = .ok (.getfield 19, 3) := by decide +kernel
theorem dX10_push_71 : decode cX10_push 71 = .ok (.aload_n 0, 1) := by decide +kernel
theorem dX10_push_72 : decode cX10_push 72 = .ok (.getfield 29, 3) := by decide +kernel
theorem dX10_push_75 : decode cX10_push 75 = .ok (.iload_n 2, 1) := by decide +kernel
theorem dX10_push_76 : decode cX10_push 76 = .ok (.iastore, 1) := by decide +kernel
theorem dX10_push_77 : decode cX10_push 77 = .ok (.aload_n 0, 1) := by decide +kernel
theorem dX10_push_78 : decode cX10_push 78 = .ok (.getfield 22, 3) := by decide +kernel
theorem dX10_push_81 : decode cX10_push 81 = .ok (.aload_n 0, 1) := by decide +kernel
theorem dX10_push_82 : decode cX10_push 82 = .ok (.getfield 29, 3) := by decide +kernel
theorem dX10_push_85 : decode cX10_push 85 = .ok (.iload_n 3, 1) := by decide +kernel
theorem dX10_push_86 : decode cX10_push 86 = .ok (.iastore, 1) := by decide +kernel
theorem dX10_push_87 : decode cX10_push 87 = .ok (.aload_n 0, 1) := by decide +kernel
theorem dX10_push_88 : decode cX10_push 88 = .ok (.getfield 25, 3) := by decide +kernel
theorem dX10_push_91 : decode cX10_push 91 = .ok (.aload_n 0, 1) := by decide +kernel
theorem dX10_push_92 : decode cX10_push 92 = .ok (.getfield 29, 3) := by decide +kernel
theorem dX10_push_95 : decode cX10_push 95 = .ok (.lload 4, 2) := by decide +kernel
theorem dX10_push_97 : decode cX10_push 97 = .ok (.lastore, 1) := by decide +kernel
theorem dX10_push_98 : decode cX10_push 98 = .ok (.aload_n 0, 1) := by decide +kernel
theorem dX10_push_99 : decode cX10_push 99 = .ok (.dup, 1) := by decide +kernel
theorem dX10_push_100 : decode cX10_push 100 = .ok (.getfield 29, 3) := by decide +kernel
theorem dX10_push_103 : decode cX10_push 103 = .ok (.iconst 1, 1) := by decide +kernel
theorem dX10_push_104 : decode cX10_push 104 = .ok (.iadd, 1) := by decide +kernel
theorem dX10_push_105 : decode cX10_push 105 = .ok (.putfield 29, 3) := by decide +kernel
theorem dX10_push_108 : decode cX10_push 108 = .ok (.iload_n 1, 1) := by decide +kernel
theorem dX10_push_109 : decode cX10_push 109 = .ok (.iconst 5, 1) := by decide +kernel
theorem dX10_push_110 : decode cX10_push 110 = .ok (.if_icmp .ne 7, 3) := by decide +kernel
theorem dX10_push_113 : decode cX10_push 113 = .ok (.iload_n 2, 1) := by decide +kernel
theorem dX10_push_114 : decode cX10_push 114 = .ok (.goto 4, 3) := by decide +kernel
theorem dX10_push_117 : decode cX10_push 117 = .ok (.iload_n 3, 1) := by decide +kernel
theorem dX10_push_118 : decode cX10_push 118 = .ok (.ireturn, 1) := by decide +kernel
theorem dX10_addWord_0 : decode cX10_addWord 0 = .ok (.aload_n 0, 1) := by decide +kernel
theorem dX10_addWord_1 : decode cX10_addWord 1 = .ok (.getfield 9, 3) := by decide +kernel
theorem dX10_addWord_4 : decode cX10_addWord 4 = .ok (.iload_n 1, 1) := by decide +kernel
theorem dX10_addWord_5 : decode cX10_addWord 5 = .ok (.invokevirtual 55, 3) := by decide +kernel
theorem dX10_addWord_8 : decode cX10_addWord 8 = .ok (.istore_n 2, 1) := by decide +kernel
theorem dX10_addWord_9 : decode cX10_addWord 9 = .ok (.iload_n 2, 1) := by decide +kernel
theorem dX10_addWord_10 : decode cX10_addWord 10 = .ok (.ifCond .ge 25, 3) := by decide +kernel
theorem dX10_addWord_13 : decode cX10_addWord 13 = .ok (.aload_n 0, 1) := by decide +kernel
theorem dX10_addWord_14 : decode cX10_addWord 14 = .ok (.aload_n 0, 1) := by decide +kernel
theorem dX10_addWord_15 : decode cX10_addWord 15 = .ok (.getfield 44, 3) := by decide +kernel
theorem dX10_addWord_18 : decode cX10_addWord 18 = .ok (.ifCond .eq 7, 3) := by decide +kernel
theorem dX10_addWord_21 : decode cX10_addWord 21 = .ok (.iconst 5, 1) := by decide +kernel
theorem dX10_addWord_22 : decode cX10_addWord 22 = .ok (.goto 4, 3) := by decide +kernel
theorem dX10_addWord_25 : decode cX10_addWord 25 = .ok (.iconst 0, 1) := by decide +kernel
theorem dX10_addWord_26 : decode cX10_addWord 26 = .ok (.iload_n 1, 1) := by decide +kernel
theorem dX10_addWord_27 : decode cX10_addWord 27 = .ok (.iload_n 1, 1) := by decide +kernel
theorem dX10_addWord_28 : decode cX10_addWord 28 = .ok (.ldc2_w 36, 3) := by decide +kernel
theorem dX10_addWord_31 : decode cX10_addWord 31 = .ok (.invokevirtual 58, 3) := by decide +kernel
theorem dX10_addWord_34 : decode cX10_addWord 34 = .ok (.ireturn, 1) := by decide +kernel
theorem dX10_addWord_35 : decode cX10_addWord 35 = .ok (.iload_n 2, 1) := by decide +kernel
theorem dX10_addWord_36 : decode cX10_addWord 36 = .ok (.invokestatic 62, 3) := by decide +kernel
theorem dX10_addWord_39 : decode cX10_addWord 39 = .ok (.ifCond .eq 24, 3) := by decide +kernel
theorem dX10_addWord_42 : decode cX10_addWord 42 = .ok (.aload_n 0, 1) := by decide +kernel
theorem dX10_addWord_43 : decode cX10_addWord 43 = .ok (.iload_n 1, 1) := by decide +kernel
theorem dX10_addWord_44 : decode cX10_addWord 44 = .ok (.invokevirtual 66, 3) := by decide +kernel
theorem dX10_addWord_47 : decode cX10_addWord 47 = .ok (.istore_n 3, 1) := by decide +kernel
theorem dX10_addWord_48 : decode cX10_addWord 48 = .ok (.aload_n 0, 1) := by decide +kernel
theorem dX10_addWord_49 : decode cX10_addWord 49 = .ok (.iconst 1, 1) := by decide +kernel
theorem dX10_addWord_50 : decode cX10_addWord 50 = .ok (.iload_n 1, 1) := by decide +kernel
theorem dX10_addWord_51 : decode cX10_addWord 51 = .ok (.iload_n 3, 1) := by decide +kernel
theorem dX10_addWord_52 : decode cX10_addWord 52 = .ok (.aload_n 0, 1) := by decide +kernel
theorem dX10_addWord_53 : decode cX10_addWord 53 = .ok (.iload_n 1, 1) := by decide +kernel
theorem dX10_addWord_54 : decode cX10_addWord 54 = .ok (.iload_n 3, 1) := by decide +kernel
theorem dX10_addWord_55 : decode cX10_addWord 55 = .ok (.invokevirtual 69, 3) := by decide +kernel
theorem dX10_addWord_58 : decode cX10_addWord 58 = .ok (.i2l, 1) := by decide +kernel
theorem dX10_addWord_59 : decode cX10_addWord 59 = .ok (.invokevirtual 58, 3) := by decide +kernel
theorem dX10_addWord_62 : decode cX10_addWord 62 = .ok (.ireturn, 1) := by decide +kernel
theorem dX10_addWord_63 : decode cX10_addWord 63 = .ok (.iload_n 2, 1) := by decide +kernel
theorem dX10_addWord_64 : decode cX10_addWord 64 = .ok (.bipush 48, 2) := by decide +kernel
theorem dX10_addWord_66 : decode cX10_addWord 66 = .ok (.if_icmp .lt 15, 3) := by decide +kernel
theorem dX10_addWord_69 : decode cX10_addWord 69 = .ok (.iload_n 2, 1) := by decide +kernel
theorem dX10_addWord_70 : decode cX10_addWord 70 = .ok (.bipush 57, 2) := by decide +kernel
theorem dX10_addWord_72 : decode cX10_addWord 72 = .ok (.if_icmp .gt 9, 3) := by decide +kernel
theorem dX10_addWord_75 : decode cX10_addWord 75 = .ok (.aload_n 0, 1) := by decide +kernel
theorem dX10_addWord_76 : decode cX10_addWord 76 = .ok (.iload_n 1, 1) := by decide +kernel
theorem dX10_addWord_77 : decode cX10_addWord 77 = .ok (.invokevirtual 73, 3) := by decide +kernel
theorem dX10_addWord_80 : decode cX10_addWord 80 = .ok (.ireturn, 1) := by decide +kernel
theorem dX10_addWord_81 : decode cX10_addWord 81 = .ok (.iload_n 2, 1) := by decide +kernel
theorem dX10_addWord_82 : decode cX10_addWord 82 = .ok (.bipush 34, 2) := by decide +kernel
theorem dX10_addWord_84 : decode cX10_addWord 84 = .ok (.if_icmp .ne 9, 3) := by decide +kernel
theorem dX10_addWord_87 : decode cX10_addWord 87 = .ok (.aload_n 0, 1) := by decide +kernel
theorem dX10_addWord_88 : decode cX10_addWord 88 = .ok (.iload_n 1, 1) := by decide +kernel
theorem dX10_addWord_89 : decode cX10_addWord 89 = .ok (.invokevirtual 76, 3) := by decide +kernel
theorem dX10_addWord_92 : decode cX10_addWord 92 = .ok (.ireturn, 1) := by decide +kernel
theorem dX10_addWord_93 : decode cX10_addWord 93 = .ok (.aload_n 0, 1) := by decide +kernel
theorem dX10_addWord_94 : decode cX10_addWord 94 = .ok (.iconst 4, 1) := by decide +kernel
theorem dX10_addWord_95 : decode cX10_addWord 95 = .ok (.iload_n 1, 1) := by decide +kernel
theorem dX10_addWord_96 : decode cX10_addWord 96 = .ok (.iload_n 1, 1) := by decide +kernel
theorem dX10_addWord_97 : decode cX10_addWord 97 = .ok (.iconst 1, 1) := by decide +kernel
theorem dX10_addWord_98 : decode cX10_addWord 98 = .ok (.iadd, 1) := by decide +kernel
theorem dX10_addWord_99 : decode cX10_addWord 99 = .ok (.iload_n 2, 1) := by decide +kernel
theorem dX10_addWord_100 : decode cX10_addWord 100 = .ok (.i2l, 1) := by decide +kernel
theorem dX10_addWord_101 : decode cX10_addWord 101 = .ok (.invokevirtual 58, 3) := by decide +kernel
theorem dX10_addWord_104 : decode cX10_addWord 104 = .ok (.ireturn, 1) := by decide +kernel
theorem dX10_split_0 : decode cX10_split 0 = .ok (.aload_n 0, 1) := by decide +kernel
theorem dX10_split_1 : decode cX10_split 1 = .ok (.iconst 0, 1) := by decide +kernel
theorem dX10_split_2 : decode cX10_split 2 = .ok (.putfield 29, 3) := by decide +kernel
theorem dX10_split_5 : decode cX10_split 5 = .ok (.aload_n 0, 1) := by decide +kernel
theorem dX10_split_6 : decode cX10_split 6 = .ok (.aload_n 0, 1) := by decide +kernel
theorem dX10_split_7 : decode cX10_split 7 = .ok (.getfield 9, 3) := by decide +kernel
theorem dX10_split_10 : decode cX10_split 10 = .ok (.invokevirtual 38, 3) := by decide +kernel
theorem dX10_split_13 : decode cX10_split 13 = .ok (.putfield 33, 3) := by decide +kernel
theorem dX10_split_16 : decode cX10_split 16 = .ok (.aload_n 0, 1) := by decide +kernel
theorem dX10_split_17 : decode cX10_split 17 = .ok (.iconst 0, 1) := by decide +kernel
theorem dX10_split_18 : decode cX10_split 18 = .ok (.putfield 44, 3) := by decide +kernel
theorem dX10_split_21 : decode cX10_split 21 = .ok (.iconst 0, 1) := by decide +kernel
theorem dX10_split_22 : decode cX10_split 22 = .ok (.istore_n 1, 1) := by decide +kernel
theorem dX10_split_23 : decode cX10_split 23 = .ok (.iconst 0, 1) := by decide +kernel
theorem dX10_split_24 : decode cX10_split 24 = .ok (.istore_n 2, 1) := by decide +kernel
theorem dX10_split_25 : decode cX10_split 25 = .ok (.iload_n 2, 1) := by decide +kernel
theorem dX10_split_26 : decode cX10_split 26 = .ok (.sipush 700, 3) := by decide +kernel
theorem dX10_split_29 : decode cX10_split 29 = .ok (.if_icmp .gt 27, 3) := by decide +kernel
theorem dX10_split_32 : decode cX10_split 32 = .ok (.aload_n 0, 1) := by decide +kernel
theorem dX10_split_33 : decode cX10_split 33 = .ok (.iload_n 1, 1) := by decide +kernel
theorem dX10_split_34 : decode cX10_split 34 = .ok (.invokevirtual 48, 3) := by decide +kernel
theorem dX10_split_37 : decode cX10_split 37 = .ok (.istore_n 3, 1) := by decide +kernel
theorem dX10_split_38 : decode cX10_split 38 = .ok (.aload_n 0, 1) := by decide +kernel
theorem dX10_split_39 : decode cX10_split 39 = .ok (.iload_n 3, 1) := by decide +kernel
theorem dX10_split_40 : decode cX10_split 40 = .ok (.invokevirtual 52, 3) := by decide +kernel
theorem dX10_split_43 : decode cX10_split 43 = .ok (.istore_n 1, 1) := by decide +kernel
theorem dX10_split_44 : decode cX10_split 44 = .ok (.iload_n 1, 1) := by decide +kernel
theorem dX10_split_45 : decode cX10_split 45 = .ok (.iload_n 3, 1) := by decide +kernel
theorem dX10_split_46 : decode cX10_split 46 = .ok (.if_icmp .gt 4, 3) := by decide +kernel
theorem dX10_split_49 : decode cX10_split 49 = .ok (.return_, 1) := by decide +kernel
theorem dX10_split_50 : decode cX10_split 50 = .ok (.iinc 2 1, 3) := by decide +kernel
theorem dX10_split_53 : decode cX10_split 53 = .ok (.goto (-28), 3) := by decide +kernel
theorem dX10_split_56 : decode cX10_split 56 = .ok (.return_, 1) := by decide +kernel
theorem dX10_codeOf_0 : decode cX10_codeOf 0 = .ok (.iload_n 1, 1) := by decide +kernel
theorem dX10_codeOf_1 : decode cX10_codeOf 1 = .ok (.ifCond .lt 43, 3) := by decide +kernel
theorem dX10_codeOf_4 : decode cX10_codeOf 4 = .ok (.iload_n 1, 1) := by decide +kernel
theorem dX10_codeOf_5 : decode cX10_codeOf 5 = .ok (.aload_n 0, 1) := by decide +kernel
theorem dX10_codeOf_6 : decode cX10_codeOf 6 = .ok (.getfield 29, 3) := by decide +kernel
theorem dX10_codeOf_9 : decode cX10_codeOf 9 = .ok (.if_icmp .ge 35, 3) := by decide +kernel
theorem dX10_codeOf_12 : decode cX10_codeOf 12 = .ok (.iload_n 1, 1) := by decide +kernel
theorem dX10_codeOf_13 : decode cX10_codeOf 13 = .ok (.aload_n 0, 1) := by decide +kernel
theorem dX10_codeOf_14 : decode cX10_codeOf 14 = .ok (.getfield 15, 3) := by decide +kernel
theorem dX10_codeOf_17 : decode cX10_codeOf 17 = .ok (.arraylength, 1) := by decide +kernel
theorem dX10_codeOf_18 : decode cX10_codeOf 18 = .ok (.if_icmp .ge 26, 3) := by decide +kernel
theorem dX10_codeOf_21 : decode cX10_codeOf 21 = .ok (.iload_n 1, 1) := by decide +kernel
theorem dX10_codeOf_22 : decode cX10_codeOf 22 = .ok (.aload_n 0, 1) := by decide +kernel
theorem dX10_codeOf_23 : decode cX10_codeOf 23 = .ok (.getfield 25, 3) := by decide +kernel
theorem dX10_codeOf_26 : decode cX10_codeOf 26 = .ok (.arraylength, 1) := by decide +kernel
theorem dX10_codeOf_27 : decode cX10_codeOf 27 = .ok (.if_icmp .ge 17, 3) := by decide +kernel
theorem dX10_codeOf_30 : decode cX10_codeOf 30 = .ok (.aload_n 0, 1) := by decide +kernel
theorem dX10_codeOf_31 : decode cX10_codeOf 31 = .ok (.getfield 15, 3) := by decide +kernel
theorem dX10_codeOf_34 : decode cX10_codeOf 34 = .ok (.iload_n 1, 1) := by decide +kernel
theorem dX10_codeOf_35 : decode cX10_codeOf 35 = .ok (.iaload, 1) := by decide +kernel
theorem dX10_codeOf_36 : decode cX10_codeOf 36 = .ok (.iconst 1, 1) := by decide +kernel
theorem dX10_codeOf_37 : decode cX10_codeOf 37 = .ok (.if_icmp .ne 7, 3) := by decide +kernel
theorem dX10_codeOf_40 : decode cX10_codeOf 40 = .ok (.iconst 1, 1) := by decide +kernel
theorem dX10_codeOf_41 : decode cX10_codeOf 41 = .ok (.goto 4, 3) := by decide +kernel
theorem dX10_codeOf_44 : decode cX10_codeOf 44 = .ok (.iconst 0, 1) := by decide +kernel
theorem dX10_codeOf_45 : decode cX10_codeOf 45 = .ok (.istore_n 2, 1) := by decide +kernel
theorem dX10_codeOf_46 : decode cX10_codeOf 46 = .ok (.iload_n 2, 1) := by decide +kernel
theorem dX10_codeOf_47 : decode cX10_codeOf 47 = .ok (.ifCond .eq 13, 3) := by decide +kernel
theorem dX10_codeOf_50 : decode cX10_codeOf 50 = .ok (.aload_n 0, 1) := by decide +kernel
theorem dX10_codeOf_51 : decode cX10_codeOf 51 = .ok (.getfield 25, 3) := by decide +kernel
theorem dX10_codeOf_54 : decode cX10_codeOf 54 = .ok (.iload_n 1, 1) := by decide +kernel
theorem dX10_codeOf_55 : decode cX10_codeOf 55 = .ok (.laload, 1) := by decide +kernel
theorem dX10_codeOf_56 : decode cX10_codeOf 56 = .ok (.l2i, 1) := by decide +kernel
theorem dX10_codeOf_57 : decode cX10_codeOf 57 = .ok (.goto 4, 3) := by decide +kernel
theorem dX10_codeOf_60 : decode cX10_codeOf 60 = .ok (.iconst (-1), 1) := by decide +kernel
theorem dX10_codeOf_61 : decode cX10_codeOf 61 = .ok (.ireturn, 1) := by decide +kernel
theorem dX5_takesWord_0 : decode cX5_takesWord 0 = .ok (.aload_n 0, 1) := by decide +kernel
theorem dX5_takesWord_1 : decode cX5_takesWord 1 = .ok (.getfield 15, 3) := by decide +kernel
theorem dX5_takesWord_4 : decode cX5_takesWord 4 = .ok (.aload_n 0, 1) := by decide +kernel
theorem dX5_takesWord_5 : decode cX5_takesWord 5 = .ok (.getfield 29, 3) := by decide +kernel
theorem dX5_takesWord_8 : decode cX5_takesWord 8 = .ok (.invokevirtual 69, 3) := by decide +kernel
theorem dX5_takesWord_11 : decode cX5_takesWord 11 = .ok (.iload_n 1, 1) := by decide +kernel
theorem dX5_takesWord_12 : decode cX5_takesWord 12 = .ok (.if_icmp .eq 5, 3) := by decide +kernel
theorem dX5_takesWord_15 : decode cX5_takesWord 15 = .ok (.iconst 0, 1) := by decide +kernel
theorem dX5_takesWord_16 : decode cX5_takesWord 16 = .ok (.ireturn, 1) := by decide +kernel
theorem dX5_takesWord_17 : decode cX5_takesWord 17 = .ok (.aload_n 0, 1) := by decide +kernel
theorem dX5_takesWord_18 : decode cX5_takesWord 18 = .ok (.dup, 1) := by decide +kernel
theorem dX5_takesWord_19 : decode cX5_takesWord 19 = .ok (.getfield 29, 3) := by decide +kernel
theorem dX5_takesWord_22 : decode cX5_takesWord 22 = .ok (.iconst 1, 1) := by decide +kernel
theorem dX5_takesWord_23 : decode cX5_takesWord 23 = .ok (.iadd, 1) := by decide +kernel
theorem dX5_takesWord_24 : decode cX5_takesWord 24 = .ok (.putfield 29, 3) := by decide +kernel
theorem dX5_takesWord_27 : decode cX5_takesWord 27 = .ok (.iconst 1, 1) := by decide +kernel
theorem dX5_takesWord_28 : decode cX5_takesWord 28 = .ok (.ireturn, 1) := by decide +kernel
theorem dX5_readSyntax_0 : decode cX5_readSyntax 0 = .ok (.aload_n 0, 1) := by decide +kernel
theorem dX5_readSyntax_1 : decode cX5_readSyntax 1 = .ok (.bipush 24, 2) := by decide +kernel
theorem dX5_readSyntax_3 : decode cX5_readSyntax 3 = .ok (.invokevirtual 72, 3) := by decide +kernel
theorem dX5_readSyntax_6 : decode cX5_readSyntax 6 = .ok (.ifCond .eq 12, 3) := by decide +kernel
theorem dX5_readSyntax_9 : decode cX5_readSyntax 9 = .ok (.aload_n 0, 1) := by decide +kernel
theorem dX5_readSyntax_10 : decode cX5_readSyntax 10 = .ok (.bipush 61, 2) := by decide +kernel
theorem dX5_readSyntax_12 : decode cX5_readSyntax 12 = .ok (.invokevirtual 76, 3) := by decide +kernel
theorem dX5_readSyntax_15 : decode cX5_readSyntax 15 = .ok (.ifCond .ne 5, 3) := by decide +kernel
theorem dX5_readSyntax_18 : decode cX5_readSyntax 18 = .ok (.iconst 0, 1) := by decide +kernel
theorem dX5_readSyntax_19 : decode cX5_readSyntax 19 = .ok (.ireturn, 1) := by decide +kernel
theorem dX5_readSyntax_20 : decode cX5_readSyntax 20 = .ok (.aload_n 0, 1) := by decide +kernel
theorem dX5_readSyntax_21 : decode cX5_readSyntax 21 = .ok (.getfield 15, 3) := by decide +kernel
theorem dX5_readSyntax_24 : decode cX5_readSyntax 24 = .ok (.aload_n 0, 1) := by decide +kernel
theorem dX5_readSyntax_25 : decode cX5_readSyntax 25 = .ok (.getfield 29, 3) := by decide +kernel
theorem dX5_readSyntax_28 : decode cX5_readSyntax 28 = .ok (.invokevirtual 62, 3) := by decide +kernel
theorem dX5_readSyntax_31 : decode cX5_readSyntax 31 = .ok (.iconst 3, 1) := by decide +kernel
theorem dX5_readSyntax_32 : decode cX5_readSyntax 32 = .ok (.if_icmp .ne 21, 3) := by decide +kernel
theorem dX5_readSyntax_35 : decode cX5_readSyntax 35 = .ok (.aload_n 0, 1) := by decide +kernel
theorem dX5_readSyntax_36 : decode cX5_readSyntax 36 = .ok (.getfield 15, 3) := by decide +kernel
theorem dX5_readSyntax_39 : decode cX5_readSyntax 39 = .ok (.aload_n 0, 1) := by decide +kernel
theorem dX5_readSyntax_40 : decode cX5_readSyntax 40 = .ok (.getfield 29, 3) := by decide +kernel
theorem dX5_readSyntax_43 : decode cX5_readSyntax 43 = .ok (.invokevirtual 79, 3) := by decide +kernel
theorem dX5_readSyntax_46 : decode cX5_readSyntax 46 = .ok (.ldc2_w 83, 3) := by decide +kernel
theorem dX5_readSyntax_49 : decode cX5_readSyntax 49 = .ok (.lcmp, 1) := by decide +kernel
theorem dX5_readSyntax_50 : decode cX5_readSyntax 50 = .ok (.ifCond .eq 5, 3) := by decide +kernel
theorem dX5_readSyntax_53 : decode cX5_readSyntax 53 = .ok (.iconst 0, 1) := by decide +kernel
theorem dX5_readSyntax_54 : decode cX5_readSyntax 54 = .ok (.ireturn, 1) := by decide +kernel
theorem dX5_readSyntax_55 : decode cX5_readSyntax 55 = .ok (.aload_n 0, 1) := by decide +kernel
theorem dX5_readSyntax_56 : decode cX5_readSyntax 56 = .ok (.dup, 1) := by decide +kernel
theorem dX5_readSyntax_57 : decode cX5_readSyntax 57 = .ok (.getfield 29, 3) := by decide +kernel
theorem dX5_readSyntax_60 : decode cX5_readSyntax 60 = .ok (.iconst 1, 1) := by decide +kernel
theorem dX5_readSyntax_61 : decode cX5_readSyntax 61 = .ok (.iadd, 1) := by decide +kernel
theorem dX5_readSyntax_62 : decode cX5_readSyntax 62 = .ok (.putfield 29, 3) := by decide +kernel
theorem dX5_readSyntax_65 : decode cX5_readSyntax 65 = .ok (.aload_n 0, 1) := by decide +kernel
theorem dX5_readSyntax_66 : decode cX5_readSyntax 66 = .ok (.bipush 59, 2) := by decide +kernel
theorem dX5_readSyntax_68 : decode cX5_readSyntax 68 = .ok (.invokevirtual 76, 3) := by decide +kernel
theorem dX5_readSyntax_71 : decode cX5_readSyntax 71 = .ok (.ireturn, 1) := by decide +kernel
theorem dX10_count_0 : decode cX10_count 0 = .ok (.aload_n 0, 1) := by decide +kernel
theorem dX10_count_1 : decode cX10_count 1 = .ok (.getfield 29, 3) := by decide +kernel
theorem dX10_count_4 : decode cX10_count 4 = .ok (.ireturn, 1) := by decide +kernel
theorem dX5_read_0 : decode cX5_read 0 = .ok (.aload_n 0, 1) := by decide +kernel
theorem dX5_read_1 : decode cX5_read 1 = .ok (.aconst_null, 1) := by decide +kernel
theorem dX5_read_2 : decode cX5_read 2 = .ok (.putfield 19, 3) := by decide +kernel
theorem dX5_read_5 : decode cX5_read 5 = .ok (.aload_n 0, 1) := by decide +kernel
theorem dX5_read_6 : decode cX5_read 6 = .ok (.aconst_null, 1) := by decide +kernel
theorem dX5_read_7 : decode cX5_read 7 = .ok (.putfield 23, 3) := by decide +kernel
theorem dX5_read_10 : decode cX5_read 10 = .ok (.aload_n 0, 1) := by decide +kernel
theorem dX5_read_11 : decode cX5_read 11 = .ok (.aconst_null, 1) := by decide +kernel
theorem dX5_read_12 : decode cX5_read 12 = .ok (.putfield 26, 3) := by decide +kernel
theorem dX5_read_15 : decode cX5_read 15 = .ok (.aload_n 0, 1) := by decide +kernel
theorem dX5_read_16 : decode cX5_read 16 = .ok (.iconst 0, 1) := by decide +kernel
theorem dX5_read_17 : decode cX5_read 17 = .ok (.putfield 29, 3) := by decide +kernel
theorem dX5_read_20 : decode cX5_read 20 = .ok (.aload_n 0, 1) := by decide +kernel
theorem dX5_read_21 : decode cX5_read 21 = .ok (.iconst 1, 1) := by decide +kernel
theorem dX5_read_22 : decode cX5_read 22 = .ok (.putfield 33, 3) := by decide +kernel
theorem dX5_read_25 : decode cX5_read 25 = .ok (.aload_n 0, 1) := by decide +kernel
theorem dX5_read_26 : decode cX5_read 26 = .ok (.invokevirtual 36, 3) := by decide +kernel
theorem dX5_read_29 : decode cX5_read 29 = .ok (.istore_n 1, 1) := by decide +kernel
theorem dX5_read_30 : decode cX5_read 30 = .ok (.iconst 0, 1) := by decide +kernel
theorem dX5_read_31 : decode cX5_read 31 = .ok (.istore_n 2, 1) := by decide +kernel
theorem dX5_read_32 : decode cX5_read 32 = .ok (.iload_n 2, 1) := by decide +kernel
theorem dX5_read_33 : decode cX5_read 33 = .ok (.aload_n 0, 1) := by decide +kernel
theorem dX5_read_34 : decode cX5_read 34 = .ok (.getfield 15, 3) := by decide +kernel
theorem dX5_read_37 : decode cX5_read 37 = .ok (.invokevirtual 40, 3) := by decide +kernel
theorem dX5_read_40 : decode cX5_read 40 = .ok (.if_icmp .ge 53, 3) := by decide +kernel
theorem dX5_read_43 : decode cX5_read 43 = .ok (.iload_n 1, 1) := by decide +kernel
theorem dX5_read_44 : decode cX5_read 44 = .ok (.ifCond .eq 49, 3) := by decide +kernel
theorem dX5_read_47 : decode cX5_read 47 = .ok (.aload_n 0, 1) := by decide +kernel
theorem dX5_read_48 : decode cX5_read 48 = .ok (.invokevirtual 46, 3) := by decide +kernel
theorem dX5_read_51 : decode cX5_read 51 = .ok (.ifCond .ne 42, 3) := by decide +kernel
theorem dX5_read_54 : decode cX5_read 54 = .ok (.aload_n 0, 1) := by decide +kernel
theorem dX5_read_55 : decode cX5_read 55 = .ok (.getfield 26, 3) := by decide +kernel
theorem dX5_read_58 : decode cX5_read 58 = .ok (.ifnull 10, 3) := by decide +kernel
theorem dX5_read_61 : decode cX5_read 61 = .ok (.aload_n 0, 1) := by decide +kernel
theorem dX5_read_62 : decode cX5_read 62 = .ok (.invokevirtual 49, 3) := by decide +kernel
theorem dX5_read_65 : decode cX5_read 65 = .ok (.goto 21, 3) := by decide +kernel
theorem dX5_read_68 : decode cX5_read 68 = .ok (.aload_n 0, 1) := by decide +kernel
theorem dX5_read_69 : decode cX5_read 69 = .ok (.getfield 23, 3) := by decide +kernel
theorem dX5_read_72 : decode cX5_read 72 = .ok (.ifnull 10, 3) := by decide +kernel
theorem dX5_read_75 : decode cX5_read 75 = .ok (.aload_n 0, 1) := by decide +kernel
theorem dX5_read_76 : decode cX5_read 76 = .ok (.invokevirtual 52, 3) := by decide +kernel
theorem dX5_read_79 : decode cX5_read 79 = .ok (.goto 7, 3) := by decide +kernel
theorem dX5_read_82 : decode cX5_read 82 = .ok (.aload_n 0, 1) := by decide +kernel
theorem dX5_read_83 : decode cX5_read 83 = .ok (.invokevirtual 55, 3) := by decide +kernel
theorem dX5_read_86 : decode cX5_read 86 = .ok (.istore_n 1, 1) := by decide +kernel
theorem dX5_read_87 : decode cX5_read 87 = .ok (.iinc 2 1, 3) := by decide +kernel
theorem dX5_read_90 : decode cX5_read 90 = .ok (.goto (-58), 3) := by decide +kernel
theorem dX5_read_93 : decode cX5_read 93 = .ok (.iload_n 1, 1) := by decide +kernel
theorem dX5_read_94 : decode cX5_read 94 = .ok (.ifCond .eq 14, 3) := by decide +kernel
theorem dX5_read_97 : decode cX5_read 97 = .ok (.aload_n 0, 1) := by decide +kernel
theorem dX5_read_98 : decode cX5_read 98 = .ok (.invokevirtual 46, 3) := by decide +kernel
theorem dX5_read_101 : decode cX5_read 101 = .ok (.ifCond .eq 7, 3) := by decide +kernel
theorem dX5_read_104 : decode cX5_read 104 = .ok (.iconst 0, 1) := by decide +kernel
theorem dX5_read_105 : decode cX5_read 105 = .ok (.goto 7, 3) := by decide +kernel
theorem dX5_read_108 : decode cX5_read 108 = .ok (.aload_n 0, 1) := by decide +kernel
theorem dX5_read_109 : decode cX5_read 109 = .ok (.getfield 33, 3) := by decide +kernel
theorem dX5_read_112 : decode cX5_read 112 = .ok (.ireturn, 1) := by decide +kernel
theorem dX10_startOf_0 : decode cX10_startOf 0 = .ok (.iload_n 1, 1) := by decide +kernel
theorem dX10_startOf_1 : decode cX10_startOf 1 = .ok (.ifCond .lt 29, 3) := by decide +kernel
theorem dX10_startOf_4 : decode cX10_startOf 4 = .ok (.iload_n 1, 1) := by decide +kernel
theorem dX10_startOf_5 : decode cX10_startOf 5 = .ok (.aload_n 0, 1) := by decide +kernel
theorem dX10_startOf_6 : decode cX10_startOf 6 = .ok (.getfield 29, 3) := by decide +kernel
theorem dX10_startOf_9 : decode cX10_startOf 9 = .ok (.if_icmp .ge 21, 3) := by decide +kernel
theorem dX10_startOf_12 : decode cX10_startOf 12 = .ok (.iload_n 1, 1) := by decide +kernel
theorem dX10_startOf_13 : decode cX10_startOf 13 = .ok (.aload_n 0, 1) := by decide +kernel
theorem dX10_startOf_14 : decode cX10_startOf 14 = .ok (.getfield 19, 3) := by decide +kernel
theorem dX10_startOf_17 : decode cX10_startOf 17 = .ok (.arraylength, 1) := by decide +kernel
theorem dX10_startOf_18 : decode cX10_startOf 18 = .ok (.if_icmp .ge 12, 3) := by decide +kernel
theorem dX10_startOf_21 : decode cX10_startOf 21 = .ok (.aload_n 0, 1) := by decide +kernel
theorem dX10_startOf_22 : decode cX10_startOf 22 = .ok (.getfield 19, 3) := by decide +kernel
theorem dX10_startOf_25 : decode cX10_startOf 25 = .ok (.iload_n 1, 1) := by decide +kernel
theorem dX10_startOf_26 : decode cX10_startOf 26 = .ok (.iaload, 1) := by decide +kernel
theorem dX10_startOf_27 : decode cX10_startOf 27 = .ok (.goto 7, 3) := by decide +kernel
theorem dX10_startOf_30 : decode cX10_startOf 30 = .ok (.aload_n 0, 1) := by decide +kernel
theorem dX10_startOf_31 : decode cX10_startOf 31 = .ok (.getfield 33, 3) := by decide +kernel
theorem dX10_startOf_34 : decode cX10_startOf 34 = .ok (.ireturn, 1) := by decide +kernel
theorem dX5_endPlace_0 : decode cX5_endPlace 0 = .ok (.aload_n 0, 1) := by decide +kernel
theorem dX5_endPlace_1 : decode cX5_endPlace 1 = .ok (.getfield 15, 3) := by decide +kernel
theorem dX5_endPlace_4 : decode cX5_endPlace 4 = .ok (.aload_n 0, 1) := by decide +kernel
theorem dX5_endPlace_5 : decode cX5_endPlace 5 = .ok (.getfield 29, 3) := by decide +kernel
theorem dX5_endPlace_8 : decode cX5_endPlace 8 = .ok (.invokevirtual 58, 3) := by decide +kernel
theorem dX5_endPlace_11 : decode cX5_endPlace 11 = .ok (.ireturn, 1) := by decide +kernel
theorem dX6_used_0 : decode cX6_used 0 = .ok (.aload_n 0, 1) := by decide +kernel
theorem dX6_used_1 : decode cX6_used 1 = .ok (.getfield 34, 3) := by decide +kernel
theorem dX6_used_4 : decode cX6_used 4 = .ok (.ireturn, 1) := by decide +kernel
theorem dX2_run_0 : decode cX2_run 0 = .ok (.aload_n 0, 1) := by decide +kernel
theorem dX2_run_1 : decode cX2_run 1 = .ok (.getfield 12, 3) := by decide +kernel
theorem dX2_run_4 : decode cX2_run 4 = .ok (.invokevirtual 44, 3) := by decide +kernel
theorem dX2_run_7 : decode cX2_run 7 = .ok (.aload_n 0, 1) := by decide +kernel
theorem dX2_run_8 : decode cX2_run 8 = .ok (.getfield 12, 3) := by decide +kernel
theorem dX2_run_11 : decode cX2_run 11 = .ok (.invokevirtual 20, 3) := by decide +kernel
theorem dX2_run_14 : decode cX2_run 14 = .ok (.aload_n 1, 1) := by decide +kernel
theorem dX2_run_15 : decode cX2_run 15 = .ok (.iconst 0, 1) := by decide +kernel
theorem dX2_run_16 : decode cX2_run 16 = .ok (.aload_n 1, 1) := by decide +kernel
theorem dX2_run_17 : decode cX2_run 17 = .ok (.invokevirtual 47, 3) := by decide +kernel
theorem dX2_run_20 : decode cX2_run 20 = .ok (.invokevirtual 53, 3) := by decide +kernel
theorem dX2_run_23 : decode cX2_run 23 = .ok (.aload_n 0, 1) := by decide +kernel
theorem dX2_run_24 : decode cX2_run 24 = .ok (.getfield 27, 3) := by decide +kernel
theorem dX2_run_27 : decode cX2_run 27 = .ok (.invokevirtual 57, 3) := by decide +kernel
theorem dX2_run_30 : decode cX2_run 30 = .ok (.aload_n 0, 1) := by decide +kernel
theorem dX2_run_31 : decode cX2_run 31 = .ok (.aload_n 0, 1) := by decide +kernel
theorem dX2_run_32 : decode cX2_run 32 = .ok (.getfield 36, 3) := by decide +kernel
theorem dX2_run_35 : decode cX2_run 35 = .ok (.invokevirtual 60, 3) := by decide +kernel
theorem dX2_run_38 : decode cX2_run 38 = .ok (.putfield 63, 3) := by decide +kernel
theorem dX2_run_41 : decode cX2_run 41 = .ok (.aload_n 0, 1) := by decide +kernel
theorem dX2_run_42 : decode cX2_run 42 = .ok (.aload_n 0, 1) := by decide +kernel
theorem dX2_run_43 : decode cX2_run 43 = .ok (.getfield 63, 3) := by decide +kernel
theorem dX2_run_46 : decode cX2_run 46 = .ok (.ifCond .ne 7, 3) := by decide +kernel
theorem dX2_run_49 : decode cX2_run 49 = .ok (.iconst (-1), 1) := by decide +kernel
theorem dX2_run_50 : decode cX2_run 50 = .ok (.goto 10, 3) := by decide +kernel
theorem dX2_run_53 : decode cX2_run 53 = .ok (.aload_n 0, 1) := by decide +kernel
theorem dX2_run_54 : decode cX2_run 54 = .ok (.getfield 36, 3) := by decide +kernel
theorem dX2_run_57 : decode cX2_run 57 = .ok (.invokevirtual 66, 3) := by decide +kernel
theorem dX2_run_60 : decode cX2_run 60 = .ok (.putfield 40, 3) := by decide +kernel
theorem dX2_run_63 : decode cX2_run 63 = .ok (.iconst 0, 1) := by decide +kernel
theorem dX2_run_64 : decode cX2_run 64 = .ok (.istore_n 2, 1) := by decide +kernel
theorem dX2_run_65 : decode cX2_run 65 = .ok (.iload_n 2, 1) := by decide +kernel
theorem dX2_run_66 : decode cX2_run 66 = .ok (.aload_n 0, 1) := by decide +kernel
theorem dX2_run_67 : decode cX2_run 67 = .ok (.getfield 12, 3) := by decide +kernel
theorem dX2_run_70 : decode cX2_run 70 = .ok (.invokevirtual 69, 3) := by decide +kernel
theorem dX2_run_73 : decode cX2_run 73 = .ok (.if_icmp .ge 29, 3) := by decide +kernel
theorem dX2_run_76 : decode cX2_run 76 = .ok (.aload_n 0, 1) := by decide +kernel
theorem dX2_run_77 : decode cX2_run 77 = .ok (.getfield 63, 3) := by decide +kernel
theorem dX2_run_80 : decode cX2_run 80 = .ok (.ifCond .ne 22, 3) := by decide +kernel
theorem dX2_run_83 : decode cX2_run 83 = .ok (.aload_n 0, 1) := by decide +kernel
theorem dX2_run_84 : decode cX2_run 84 = .ok (.aload_n 0, 1) := by decide +kernel
theorem dX2_run_85 : decode cX2_run 85 = .ok (.getfield 12, 3) := by decide +kernel
theorem dX2_run_88 : decode cX2_run 88 = .ok (.iload_n 2, 1) := by decide +kernel
theorem dX2_run_89 : decode cX2_run 89 = .ok (.invokevirtual 72, 3) := by decide +kernel
theorem dX2_run_92 : decode cX2_run 92 = .ok (.iload_n 2, 1) := by decide +kernel
theorem dX2_run_93 : decode cX2_run 93 = .ok (.invokevirtual 76, 3) := by decide +kernel
theorem dX2_run_96 : decode cX2_run 96 = .ok (.iinc 2 1, 3) := by decide +kernel
theorem dX2_run_99 : decode cX2_run 99 = .ok (.goto (-34), 3) := by decide +kernel
theorem dX2_run_102 : decode cX2_run 102 = .ok (.aload_n 0, 1) := by decide +kernel
theorem dX2_run_103 : decode cX2_run 103 = .ok (.getfield 63, 3) := by decide +kernel
theorem dX2_run_106 : decode cX2_run 106 = .ok (.ifCond .ne 20, 3) := by decide +kernel
theorem dX2_run_109 : decode cX2_run 109 = .ok (.aload_n 0, 1) := by decide +kernel
theorem dX2_run_110 : decode cX2_run 110 = .ok (.invokevirtual 80, 3) := by decide +kernel
theorem dX2_run_113 : decode cX2_run 113 = .ok (.ifCond .eq 13, 3) := by decide +kernel
theorem dX2_run_116 : decode cX2_run 116 = .ok (.aload_n 0, 1) := by decide +kernel
theorem dX2_run_117 : decode cX2_run 117 = .ok (.bipush 7, 2) := by decide +kernel
theorem dX2_run_119 : decode cX2_run 119 = .ok (.aload_n 1, 1) := by decide +kernel
theorem dX2_run_120 : decode cX2_run 120 = .ok (.invokevirtual 47, 3) := by decide +kernel
theorem dX2_run_123 : decode cX2_run 123 = .ok (.invokevirtual 84, 3) := by decide +kernel
theorem dX2_run_126 : decode cX2_run 126 = .ok (.aload_n 0, 1) := by decide +kernel
theorem dX2_run_127 : decode cX2_run 127 = .ok (.getfield 63, 3) := by decide +kernel
theorem dX2_run_130 : decode cX2_run 130 = .ok (.ifCond .eq 10, 3) := by decide +kernel
theorem dX2_run_133 : decode cX2_run 133 = .ok (.aload_n 0, 1) := by decide +kernel
theorem dX2_run_134 : decode cX2_run 134 = .ok (.getfield 12, 3) := by decide +kernel
theorem dX2_run_137 : decode cX2_run 137 = .ok (.invokevirtual 44, 3) := by decide +kernel
theorem dX2_run_140 : decode cX2_run 140 = .ok (.aload_n 0, 1) := by decide +kernel
theorem dX2_run_141 : decode cX2_run 141 = .ok (.getfield 63, 3) := by decide +kernel
theorem dX2_run_144 : decode cX2_run 144 = .ok (.ireturn, 1) := by decide +kernel
theorem dX2_faultAt_0 : decode cX2_faultAt 0 = .ok (.aload_n 0, 1) := by decide +kernel
theorem dX2_faultAt_1 : decode cX2_faultAt 1 = .ok (.getfield 40, 3) := by decide +kernel
theorem dX2_faultAt_4 : decode cX2_faultAt 4 = .ok (.ireturn, 1) := by decide +kernel
theorem dX11_compile_0 : decode cX11_compile 0 = .ok (.aload_n 0, 1) := by decide +kernel
theorem dX11_compile_1 : decode cX11_compile 1 = .ok (.iload_n 1, 1) := by decide +kernel
theorem dX11_compile_2 : decode cX11_compile 2 = .ok (.invokevirtual 86, 3) := by decide +kernel
theorem dX11_compile_5 : decode cX11_compile 5 = .ok (.astore_n 2, 1) := by decide +kernel
theorem dX11_compile_6 : decode cX11_compile 6 = .ok (.aload_n 2, 1) := by decide +kernel
theorem dX11_compile_7 : decode cX11_compile 7 = .ok (.ifnonnull 13, 3) := by decide +kernel
theorem dX11_compile_10 : decode cX11_compile 10 = .ok (.new 67, 3) := by decide +kernel
theorem dX11_compile_13 : decode cX11_compile 13 = .ok (.dup, 1) := by decide +kernel
theorem dX11_compile_14 : decode cX11_compile 14 = .ok (.ldc 90, 2) := by decide +kernel
theorem dX11_compile_16 : decode cX11_compile 16 = .ok (.invokespecial 71, 3) := by decide +kernel
theorem dX11_compile_19 : decode cX11_compile 19 = .ok (.athrow, 1) := by decide +kernel
theorem dX11_compile_20 : decode cX11_compile 20 = .ok (.aload_n 0, 1) := by decide +kernel
theorem dX11_compile_21 : decode cX11_compile 21 = .ok (.getfield 34, 3) := by decide +kernel
theorem dX11_compile_24 : decode cX11_compile 24 = .ok (.invokevirtual 92, 3) := by decide +kernel
theorem dX11_compile_27 : decode cX11_compile 27 = .ok (.aload_n 2, 1) := by decide +kernel
theorem dX11_compile_28 : decode cX11_compile 28 = .ok (.aload_n 0, 1) := by decide +kernel
theorem dX11_compile_29 : decode cX11_compile 29 = .ok (.getfield 14, 3) := by decide +kernel
theorem dX11_compile_32 : decode cX11_compile 32 = .ok (.invokevirtual 95, 3) := by decide +kernel
theorem dX11_compile_35 : decode cX11_compile 35 = .ok (.istore_n 3, 1) := by decide +kernel
theorem dX11_compile_36 : decode cX11_compile 36 = .ok (.aload_n 0, 1) := by decide +kernel
theorem dX11_compile_37 : decode cX11_compile 37 = .ok (.getfield 14, 3) := by decide +kernel
theorem dX11_compile_40 : decode cX11_compile 40 = .ok (.invokevirtual 99, 3) := by decide +kernel
theorem dX11_compile_43 : decode cX11_compile 43 = .ok (.aload_n 0, 1) := by decide +kernel
theorem dX11_compile_44 : decode cX11_compile 44 = .ok (.aload_n 2, 1) := by decide +kernel
theorem dX11_compile_45 : decode cX11_compile 45 = .ok (.invokevirtual 102, 3) := by decide +kernel
theorem dX11_compile_48 : decode cX11_compile 48 = .ok (.putfield 63, 3) := by decide +kernel
theorem dX11_compile_51 : decode cX11_compile 51 = .ok (.iload_n 3, 1) := by decide +kernel
theorem dX11_compile_52 : decode cX11_compile 52 = .ok (.ireturn, 1) := by decide +kernel
theorem dX11_place_0 : decode cX11_place 0 = .ok (.aload_n 0, 1) := by decide +kernel
theorem dX11_place_1 : decode cX11_place 1 = .ok (.getfield 63, 3) := by decide +kernel
theorem dX11_place_4 : decode cX11_place 4 = .ok (.ireturn, 1) := by decide +kernel
theorem dX2_schema_0 : decode cX2_schema 0 = .ok (.aload_n 0, 1) := by decide +kernel
theorem dX2_schema_1 : decode cX2_schema 1 = .ok (.getfield 12, 3) := by decide +kernel
theorem dX2_schema_4 : decode cX2_schema 4 = .ok (.areturn, 1) := by decide +kernel
theorem dX6_count_0 : decode cX6_count 0 = .ok (.iload_n 1, 1) := by decide +kernel
theorem dX6_count_1 : decode cX6_count 1 = .ok (.ifCond .lt 21, 3) := by decide +kernel
theorem dX6_count_4 : decode cX6_count 4 = .ok (.iload_n 1, 1) := by decide +kernel
theorem dX6_count_5 : decode cX6_count 5 = .ok (.aload_n 0, 1) := by decide +kernel
theorem dX6_count_6 : decode cX6_count 6 = .ok (.getfield 27, 3) := by decide +kernel
theorem dX6_count_9 : decode cX6_count 9 = .ok (.arraylength, 1) := by decide +kernel
theorem dX6_count_10 : decode cX6_count 10 = .ok (.if_icmp .ge 12, 3) := by decide +kernel
theorem dX6_count_13 : decode cX6_count 13 = .ok (.aload_n 0, 1) := by decide +kernel
theorem dX6_count_14 : decode cX6_count 14 = .ok (.getfield 27, 3) := by decide +kernel
theorem dX6_count_17 : decode cX6_count 17 = .ok (.iload_n 1, 1) := by decide +kernel
theorem dX6_count_18 : decode cX6_count 18 = .ok (.iaload, 1) := by decide +kernel
theorem dX6_count_19 : decode cX6_count 19 = .ok (.goto 4, 3) := by decide +kernel
theorem dX6_count_22 : decode cX6_count 22 = .ok (.iconst 0, 1) := by decide +kernel
theorem dX6_count_23 : decode cX6_count 23 = .ok (.ireturn, 1) := by decide +kernel
theorem dX11_many_0 : decode cX11_many 0 = .ok (.aload_n 0, 1) := by decide +kernel
theorem dX11_many_1 : decode cX11_many 1 = .ok (.iload_n 1, 1) := by decide +kernel
theorem dX11_many_2 : decode cX11_many 2 = .ok (.invokevirtual 86, 3) := by decide +kernel
theorem dX11_many_5 : decode cX11_many 5 = .ok (.astore_n 3, 1) := by decide +kernel
theorem dX11_many_6 : decode cX11_many 6 = .ok (.aload_n 3, 1) := by decide +kernel
theorem dX11_many_7 : decode cX11_many 7 = .ok (.ifnull 12, 3) := by decide +kernel
theorem dX11_many_10 : decode cX11_many 10 = .ok (.iload_n 2, 1) := by decide +kernel
theorem dX11_many_11 : decode cX11_many 11 = .ok (.ifCond .lt 8, 3) := by decide +kernel
theorem dX11_many_14 : decode cX11_many 14 = .ok (.iload_n 2, 1) := by decide +kernel
theorem dX11_many_15 : decode cX11_many 15 = .ok (.iconst 2, 1) := by decide +kernel
theorem dX11_many_16 : decode cX11_many 16 = .ok (.if_icmp .le 13, 3) := by decide +kernel
theorem dX11_many_19 : decode cX11_many 19 = .ok (.new 67, 3) := by decide +kernel
theorem dX11_many_22 : decode cX11_many 22 = .ok (.dup, 1) := by decide +kernel
theorem dX11_many_23 : decode cX11_many 23 = .ok (.ldc 105, 2) := by decide +kernel
theorem dX11_many_25 : decode cX11_many 25 = .ok (.invokespecial 71, 3) := by decide +kernel
theorem dX11_many_28 : decode cX11_many 28 = .ok (.athrow, 1) := by decide +kernel
theorem dX11_many_29 : decode cX11_many 29 = .ok (.iload_n 2, 1) := by decide +kernel
theorem dX11_many_30 : decode cX11_many 30 = .ok (.ifCond .ne 7, 3) := by decide +kernel
theorem dX11_many_33 : decode cX11_many 33 = .ok (.iconst 0, 1) := by decide +kernel
theorem dX11_many_34 : decode cX11_many 34 = .ok (.goto 13, 3) := by decide +kernel
theorem dX11_many_37 : decode cX11_many 37 = .ok (.iload_n 2, 1) := by decide +kernel
theorem dX11_many_38 : decode cX11_many 38 = .ok (.iconst 1, 1) := by decide +kernel
theorem dX11_many_39 : decode cX11_many 39 = .ok (.if_icmp .ne 7, 3) := by decide +kernel
theorem dX11_many_42 : decode cX11_many 42 = .ok (.iconst 1, 1) := by decide +kernel
theorem dX11_many_43 : decode cX11_many 43 = .ok (.goto 4, 3) := by decide +kernel
theorem dX11_many_46 : decode cX11_many 46 = .ok (.iconst 2, 1) := by decide +kernel
theorem dX11_many_47 : decode cX11_many 47 = .ok (.istore 4, 2) := by decide +kernel
theorem dX11_many_49 : decode cX11_many 49 = .ok (.aload_n 3, 1) := by decide +kernel
theorem dX11_many_50 : decode cX11_many 50 = .ok (.invokevirtual 109, 3) := by decide +kernel
theorem dX11_many_53 : decode cX11_many 53 = .ok (.iload 4, 2) := by decide +kernel
theorem dX11_many_55 : decode cX11_many 55 = .ok (.invokevirtual 113, 3) := by decide +kernel
theorem dX11_many_58 : decode cX11_many 58 = .ok (.ireturn, 1) := by decide +kernel
theorem dX6_message_0 : decode cX6_message 0 = .ok (.iconst 0, 1) := by decide +kernel
theorem dX6_message_1 : decode cX6_message 1 = .ok (.istore_n 2, 1) := by decide +kernel
theorem dX6_message_2 : decode cX6_message 2 = .ok (.iload_n 2, 1) := by decide +kernel
theorem dX6_message_3 : decode cX6_message 3 = .ok (.aload_n 0, 1) := by decide +kernel
theorem dX6_message_4 : decode cX6_message 4 = .ok (.getfield 34, 3) := by decide +kernel
theorem dX6_message_7 : decode cX6_message 7 = .ok (.if_icmp .ge 36, 3) := by decide +kernel
theorem dX6_message_10 : decode cX6_message 10 = .ok (.aload_n 0, 1) := by decide +kernel
theorem dX6_message_11 : decode cX6_message 11 = .ok (.iload_n 2, 1) := by decide +kernel
theorem dX6_message_12 : decode cX6_message 12 = .ok (.invokevirtual 45, 3) := by decide +kernel
theorem dX6_message_15 : decode cX6_message 15 = .ok (.astore_n 3, 1) := by decide +kernel
theorem dX6_message_16 : decode cX6_message 16 = .ok (.aload_n 3, 1) := by decide +kernel
theorem dX6_message_17 : decode cX6_message 17 = .ok (.ifnull 20, 3) := by decide +kernel
theorem dX6_message_20 : decode cX6_message 20 = .ok (.aload_n 3, 1) := by decide +kernel
theorem dX6_message_21 : decode cX6_message 21 = .ok (.getfield 49, 3) := by decide +kernel
theorem dX6_message_24 : decode cX6_message 24 = .ok (.ifCond .ne 13, 3) := by decide +kernel
theorem dX6_message_27 : decode cX6_message 27 = .ok (.aload_n 3, 1) := by decide +kernel
theorem dX6_message_28 : decode cX6_message 28 = .ok (.getfield 52, 3) := by decide +kernel
theorem dX6_message_31 : decode cX6_message 31 = .ok (.iload_n 1, 1) := by decide +kernel
theorem dX6_message_32 : decode cX6_message 32 = .ok (.if_icmp .ne 5, 3) := by decide +kernel
theorem dX6_message_35 : decode cX6_message 35 = .ok (.aload_n 3, 1) := by decide +kernel
theorem dX6_message_36 : decode cX6_message 36 = .ok (.areturn, 1) := by decide +kernel
theorem dX6_message_37 : decode cX6_message 37 = .ok (.iinc 2 1, 3) := by decide +kernel
theorem dX6_message_40 : decode cX6_message 40 = .ok (.goto (-38), 3) := by decide +kernel
theorem dX6_message_43 : decode cX6_message 43 = .ok (.aconst_null, 1) := by decide +kernel
theorem dX6_message_44 : decode cX6_message 44 = .ok (.areturn, 1) := by decide +kernel
theorem dX11_messageOf_0 : decode cX11_messageOf 0 = .ok (.aload_n 0, 1) := by decide +kernel
theorem dX11_messageOf_1 : decode cX11_messageOf 1 = .ok (.iload_n 1, 1) := by decide +kernel
theorem dX11_messageOf_2 : decode cX11_messageOf 2 = .ok (.invokevirtual 86, 3) := by decide +kernel
theorem dX11_messageOf_5 : decode cX11_messageOf 5 = .ok (.astore_n 3, 1) := by decide +kernel
theorem dX11_messageOf_6 : decode cX11_messageOf 6 = .ok (.aload_n 3, 1) := by decide +kernel
theorem dX11_messageOf_7 : decode cX11_messageOf 7 = .ok (.ifnonnull 7, 3) := by decide +kernel
theorem dX11_messageOf_10 : decode cX11_messageOf 10 = .ok (.aconst_null, 1) := by decide +kernel
theorem dX11_messageOf_11 : decode cX11_messageOf 11 = .ok (.goto 11, 3) := by decide +kernel
theorem dX11_messageOf_14 : decode cX11_messageOf 14 = .ok (.aload_n 3, 1) := by decide +kernel
theorem dX11_messageOf_15 : decode cX11_messageOf 15 = .ok (.invokevirtual 109, 3) := by decide +kernel
theorem dX11_messageOf_18 : decode cX11_messageOf 18 = .ok (.iload_n 2, 1) := by decide +kernel
theorem dX11_messageOf_19 : decode cX11_messageOf 19 = .ok (.invokevirtual 193, 3) := by decide +kernel
theorem dX11_messageOf_22 : decode cX11_messageOf 22 = .ok (.areturn, 1) := by decide +kernel
theorem dX11_field_0 : decode cX11_field 0 = .ok (.aload_n 0, 1) := by decide +kernel
theorem dX11_field_1 : decode cX11_field 1 = .ok (.iload_n 1, 1) := by decide +kernel
theorem dX11_field_2 : decode cX11_field 2 = .ok (.iload_n 2, 1) := by decide +kernel
theorem dX11_field_3 : decode cX11_field 3 = .ok (.invokevirtual 119, 3) := by decide +kernel
theorem dX11_field_6 : decode cX11_field 6 = .ok (.astore 5, 2) := by decide +kernel
theorem dX11_field_8 : decode cX11_field 8 = .ok (.aload 5, 2) := by decide +kernel
theorem dX11_field_10 : decode cX11_field 10 = .ok (.ifnonnull 7, 3) := by decide +kernel
theorem dX11_field_13 : decode cX11_field 13 = .ok (.aconst_null, 1) := by decide +kernel
theorem dX11_field_14 : decode cX11_field 14 = .ok (.goto 9, 3) := by decide +kernel
theorem dX11_field_17 : decode cX11_field 17 = .ok (.aload 5, 2) := by decide +kernel
theorem dX11_field_19 : decode cX11_field 19 = .ok (.iload_n 3, 1) := by decide +kernel
theorem dX11_field_20 : decode cX11_field 20 = .ok (.invokevirtual 123, 3) := by decide +kernel
theorem dX11_field_23 : decode cX11_field 23 = .ok (.astore 6, 2) := by decide +kernel
theorem dX11_field_25 : decode cX11_field 25 = .ok (.aload 6, 2) := by decide +kernel
theorem dX11_field_27 : decode cX11_field 27 = .ok (.ifnull 14, 3) := by decide +kernel
theorem dX11_field_30 : decode cX11_field 30 = .ok (.iload 4, 2) := by decide +kernel
theorem dX11_field_32 : decode cX11_field 32 = .ok (.ifCond .lt 9, 3) := by decide +kernel
theorem dX11_field_35 : decode cX11_field 35 = .ok (.iload 4, 2) := by decide +kernel
theorem dX11_field_37 : decode cX11_field 37 = .ok (.iconst 5, 1) := by decide +kernel
theorem dX11_field_38 : decode cX11_field 38 = .ok (.if_icmp .le 13, 3) := by decide +kernel
theorem dX11_field_41 : decode cX11_field 41 = .ok (.new 67, 3) := by decide +kernel
theorem dX11_field_44 : decode cX11_field 44 = .ok (.dup, 1) := by decide +kernel
theorem dX11_field_45 : decode cX11_field 45 = .ok (.ldc 127, 2) := by decide +kernel
theorem dX11_field_47 : decode cX11_field 47 = .ok (.invokespecial 71, 3) := by decide +kernel
theorem dX11_field_50 : decode cX11_field 50 = .ok (.athrow, 1) := by decide +kernel
theorem dX11_field_51 : decode cX11_field 51 = .ok (.iload 4, 2) := by decide +kernel
theorem dX11_field_53 : decode cX11_field 53 = .ok (.tableswitch 116 0 4 #[35, 42, 48, 69, 95], 35) := by decide +kernel
theorem dX11_field_88 : decode cX11_field 88 = .ok (.aload 6, 2) := by decide +kernel
theorem dX11_field_90 : decode cX11_field 90 = .ok (.getfield 129, 3) := by decide +kernel
theorem dX11_field_93 : decode cX11_field 93 = .ok (.l2i, 1) := by decide +kernel
theorem dX11_field_94 : decode cX11_field 94 = .ok (.ireturn, 1) := by decide +kernel
theorem dX11_field_95 : decode cX11_field 95 = .ok (.aload 6, 2) := by decide +kernel
theorem dX11_field_97 : decode cX11_field 97 = .ok (.getfield 133, 3) := by decide +kernel
theorem dX11_field_100 : decode cX11_field 100 = .ok (.ireturn, 1) := by decide +kernel
theorem dX11_field_101 : decode cX11_field 101 = .ok (.aload 6, 2) := by decide +kernel
theorem dX11_field_103 : decode cX11_field 103 = .ok (.getfield 136, 3) := by decide +kernel
theorem dX11_field_106 : decode cX11_field 106 = .ok (.ifnonnull 7, 3) := by decide +kernel
theorem dX11_field_109 : decode cX11_field 109 = .ok (.iconst (-1), 1) := by decide +kernel
theorem dX11_field_110 : decode cX11_field 110 = .ok (.goto 11, 3) := by decide +kernel
theorem dX11_field_113 : decode cX11_field 113 = .ok (.aload 6, 2) := by decide +kernel
theorem dX11_field_115 : decode cX11_field 115 = .ok (.getfield 136, 3) := by decide +kernel
theorem dX11_field_118 : decode cX11_field 118 = .ok (.getfield 140, 3) := by decide +kernel
theorem dX11_field_121 : decode cX11_field 121 = .ok (.ireturn, 1) := by decide +kernel
theorem dX11_field_122 : decode cX11_field 122 = .ok (.aload 6, 2) := by decide +kernel
theorem dX11_field_124 : decode cX11_field 124 = .ok (.getfield 143, 3) := by decide +kernel
theorem dX11_field_127 : decode cX11_field 127 = .ok (.ifCond .eq 7, 3) := by decide +kernel
theorem dX11_field_130 : decode cX11_field 130 = .ok (.iconst 2, 1) := by decide +kernel
theorem dX11_field_131 : decode cX11_field 131 = .ok (.goto 16, 3) := by decide +kernel
theorem dX11_field_134 : decode cX11_field 134 = .ok (.aload 6, 2) := by decide +kernel
theorem dX11_field_136 : decode cX11_field 136 = .ok (.getfield 147, 3) := by decide +kernel
theorem dX11_field_139 : decode cX11_field 139 = .ok (.ifCond .eq 7, 3) := by decide +kernel
theorem dX11_field_142 : decode cX11_field 142 = .ok (.iconst 1, 1) := by decide +kernel
theorem dX11_field_143 : decode cX11_field 143 = .ok (.goto 4, 3) := by decide +kernel
theorem dX11_field_146 : decode cX11_field 146 = .ok (.iconst 0, 1) := by decide +kernel
theorem dX11_field_147 : decode cX11_field 147 = .ok (.ireturn, 1) := by decide +kernel
theorem dX11_field_148 : decode cX11_field 148 = .ok (.aload 6, 2) := by decide +kernel
theorem dX11_field_150 : decode cX11_field 150 = .ok (.getfield 150, 3) := by decide +kernel
theorem dX11_field_153 : decode cX11_field 153 = .ok (.ifnonnull 7, 3) := by decide +kernel
theorem dX11_field_156 : decode cX11_field 156 = .ok (.iconst (-1), 1) := by decide +kernel
theorem dX11_field_157 : decode cX11_field 157 = .ok (.goto 11, 3) := by decide +kernel
theorem dX11_field_160 : decode cX11_field 160 = .ok (.aload 6, 2) := by decide +kernel
theorem dX11_field_162 : decode cX11_field 162 = .ok (.getfield 150, 3) := by decide +kernel
theorem dX11_field_165 : decode cX11_field 165 = .ok (.getfield 140, 3) := by decide +kernel
theorem dX11_field_168 : decode cX11_field 168 = .ok (.ireturn, 1) := by decide +kernel
theorem dX11_field_169 : decode cX11_field 169 = .ok (.aload 6, 2) := by decide +kernel
theorem dX11_field_171 : decode cX11_field 171 = .ok (.getfield 153, 3) := by decide +kernel
theorem dX11_field_174 : decode cX11_field 174 = .ok (.aload 6, 2) := by decide +kernel
theorem dX11_field_176 : decode cX11_field 176 = .ok (.getfield 156, 3) := by decide +kernel
theorem dX11_field_179 : decode cX11_field 179 = .ok (.isub, 1) := by decide +kernel
theorem dX11_field_180 : decode cX11_field 180 = .ok (.ireturn, 1) := by decide +kernel
theorem dX6_numberOf_0 : decode cX6_numberOf 0 = .ok (.iconst 0, 1) := by decide +kernel
theorem dX6_numberOf_1 : decode cX6_numberOf 1 = .ok (.istore_n 2, 1) := by decide +kernel
theorem dX6_numberOf_2 : decode cX6_numberOf 2 = .ok (.iload_n 2, 1) := by decide +kernel
theorem dX6_numberOf_3 : decode cX6_numberOf 3 = .ok (.aload_n 0, 1) := by decide +kernel
theorem dX6_numberOf_4 : decode cX6_numberOf 4 = .ok (.getfield 34, 3) := by decide +kernel
theorem dX6_numberOf_7 : decode cX6_numberOf 7 = .ok (.if_icmp .ge 60, 3) := by decide +kernel
theorem dX6_numberOf_10 : decode cX6_numberOf 10 = .ok (.aload_n 0, 1) := by decide +kernel
theorem dX6_numberOf_11 : decode cX6_numberOf 11 = .ok (.iload_n 2, 1) := by decide +kernel
theorem dX6_numberOf_12 : decode cX6_numberOf 12 = .ok (.invokevirtual 45, 3) := by decide +kernel
theorem dX6_numberOf_15 : decode cX6_numberOf 15 = .ok (.astore_n 3, 1) := by decide +kernel
theorem dX6_numberOf_16 : decode cX6_numberOf 16 = .ok (.aload_n 3, 1) := by decide +kernel
theorem dX6_numberOf_17 : decode cX6_numberOf 17 = .ok (.ifnull 44, 3) := by decide +kernel
theorem dX6_numberOf_20 : decode cX6_numberOf 20 = .ok (.aload_n 3, 1) := by decide +kernel
theorem dX6_numberOf_21 : decode cX6_numberOf 21 = .ok (.invokevirtual 69, 3) := by decide +kernel
theorem dX6_numberOf_24 : decode cX6_numberOf 24 = .ok (.ifCond .eq 37, 3) := by decide +kernel
theorem dX6_numberOf_27 : decode cX6_numberOf 27 = .ok (.aload_n 0, 1) := by decide +kernel
theorem dX6_numberOf_28 : decode cX6_numberOf 28 = .ok (.aload_n 3, 1) := by decide +kernel
theorem dX6_numberOf_29 : decode cX6_numberOf 29 = .ok (.aload_n 1, 1) := by decide +kernel
theorem dX6_numberOf_30 : decode cX6_numberOf 30 = .ok (.invokevirtual 83, 3) := by decide +kernel
theorem dX6_numberOf_33 : decode cX6_numberOf 33 = .ok (.ifCond .eq 28, 3) := by decide +kernel
theorem dX6_numberOf_36 : decode cX6_numberOf 36 = .ok (.aload_n 3, 1) := by decide +kernel
theorem dX6_numberOf_37 : decode cX6_numberOf 37 = .ok (.getfield 49, 3) := by decide +kernel
theorem dX6_numberOf_40 : decode cX6_numberOf 40 = .ok (.ifCond .ne 10, 3) := by decide +kernel
theorem dX6_numberOf_43 : decode cX6_numberOf 43 = .ok (.aload_n 3, 1) := by decide +kernel
theorem dX6_numberOf_44 : decode cX6_numberOf 44 = .ok (.getfield 52, 3) := by decide +kernel
theorem dX6_numberOf_47 : decode cX6_numberOf 47 = .ok (.goto 13, 3) := by decide +kernel
theorem dX6_numberOf_50 : decode cX6_numberOf 50 = .ok (.aload_n 0, 1) := by decide +kernel
theorem dX6_numberOf_51 : decode cX6_numberOf 51 = .ok (.iconst 0, 1) := by decide +kernel
theorem dX6_numberOf_52 : decode cX6_numberOf 52 = .ok (.invokevirtual 87, 3) := by decide +kernel
theorem dX6_numberOf_55 : decode cX6_numberOf 55 = .ok (.aload_n 3, 1) := by decide +kernel
theorem dX6_numberOf_56 : decode cX6_numberOf 56 = .ok (.getfield 52, 3) := by decide +kernel
theorem dX6_numberOf_59 : decode cX6_numberOf 59 = .ok (.iadd, 1) := by decide +kernel
theorem dX6_numberOf_60 : decode cX6_numberOf 60 = .ok (.ireturn, 1) := by decide +kernel
theorem dX6_numberOf_61 : decode cX6_numberOf 61 = .ok (.iinc 2 1, 3) := by decide +kernel
theorem dX6_numberOf_64 : decode cX6_numberOf 64 = .ok (.goto (-62), 3) := by decide +kernel
theorem dX6_numberOf_67 : decode cX6_numberOf 67 = .ok (.iconst (-1), 1) := by decide +kernel
theorem dX6_numberOf_68 : decode cX6_numberOf 68 = .ok (.ireturn, 1) := by decide +kernel
theorem dX11_find_0 : decode cX11_find 0 = .ok (.aload_n 0, 1) := by decide +kernel
theorem dX11_find_1 : decode cX11_find 1 = .ok (.iload_n 1, 1) := by decide +kernel
theorem dX11_find_2 : decode cX11_find 2 = .ok (.invokevirtual 86, 3) := by decide +kernel
theorem dX11_find_5 : decode cX11_find 5 = .ok (.astore_n 2, 1) := by decide +kernel
theorem dX11_find_6 : decode cX11_find 6 = .ok (.aload_n 2, 1) := by decide +kernel
theorem dX11_find_7 : decode cX11_find 7 = .ok (.ifnonnull 7, 3) := by decide +kernel
theorem dX11_find_10 : decode cX11_find 10 = .ok (.iconst (-1), 1) := by decide +kernel
theorem dX11_find_11 : decode cX11_find 11 = .ok (.goto 14, 3) := by decide +kernel
theorem dX11_find_14 : decode cX11_find 14 = .ok (.aload_n 2, 1) := by decide +kernel
theorem dX11_find_15 : decode cX11_find 15 = .ok (.invokevirtual 109, 3) := by decide +kernel
theorem dX11_find_18 : decode cX11_find 18 = .ok (.aload_n 0, 1) := by decide +kernel
theorem dX11_find_19 : decode cX11_find 19 = .ok (.getfield 14, 3) := by decide +kernel
theorem dX11_find_22 : decode cX11_find 22 = .ok (.invokevirtual 159, 3) := by decide +kernel
theorem dX11_find_25 : decode cX11_find 25 = .ok (.istore_n 3, 1) := by decide +kernel
theorem dX11_find_26 : decode cX11_find 26 = .ok (.aload_n 0, 1) := by decide +kernel
theorem dX11_find_27 : decode cX11_find 27 = .ok (.getfield 14, 3) := by decide +kernel
theorem dX11_find_30 : decode cX11_find 30 = .ok (.invokevirtual 99, 3) := by decide +kernel
theorem dX11_find_33 : decode cX11_find 33 = .ok (.aload_n 2, 1) := by decide +kernel
theorem dX11_find_34 : decode cX11_find 34 = .ok (.ifnonnull 13, 3) := by decide +kernel
theorem dX11_find_37 : decode cX11_find 37 = .ok (.new 67, 3) := by decide +kernel
theorem dX11_find_40 : decode cX11_find 40 = .ok (.dup, 1) := by decide +kernel
theorem dX11_find_41 : decode cX11_find 41 = .ok (.ldc 90, 2) := by decide +kernel
theorem dX11_find_43 : decode cX11_find 43 = .ok (.invokespecial 71, 3) := by decide +kernel
theorem dX11_find_46 : decode cX11_find 46 = .ok (.athrow, 1) := by decide +kernel
theorem dX11_find_47 : decode cX11_find 47 = .ok (.iload_n 3, 1) := by decide +kernel
theorem dX11_find_48 : decode cX11_find 48 = .ok (.ireturn, 1) := by decide +kernel
theorem dX11_opens_0 : decode cX11_opens 0 = .ok (.aload_n 0, 1) := by decide +kernel
theorem dX11_opens_1 : decode cX11_opens 1 = .ok (.iload_n 1, 1) := by decide +kernel
theorem dX11_opens_2 : decode cX11_opens 2 = .ok (.invokevirtual 86, 3) := by decide +kernel
theorem dX11_opens_5 : decode cX11_opens 5 = .ok (.astore 4, 2) := by decide +kernel
theorem dX11_opens_7 : decode cX11_opens 7 = .ok (.aload_n 0, 1) := by decide +kernel
theorem dX11_opens_8 : decode cX11_opens 8 = .ok (.iload_n 1, 1) := by decide +kernel
theorem dX11_opens_9 : decode cX11_opens 9 = .ok (.iload_n 2, 1) := by decide +kernel
theorem dX11_opens_10 : decode cX11_opens 10 = .ok (.invokevirtual 119, 3) := by decide +kernel
theorem dX11_opens_13 : decode cX11_opens 13 = .ok (.astore 5, 2) := by decide +kernel
theorem dX11_opens_15 : decode cX11_opens 15 = .ok (.aload 4, 2) := by decide +kernel
theorem dX11_opens_17 : decode cX11_opens 17 = .ok (.ifnull 19, 3) := by decide +kernel
theorem dX11_opens_20 : decode cX11_opens 20 = .ok (.aload 5, 2) := by decide +kernel
theorem dX11_opens_22 : decode cX11_opens 22 = .ok (.ifnull 14, 3) := by decide +kernel
theorem dX11_opens_25 : decode cX11_opens 25 = .ok (.iload_n 3, 1) := by decide +kernel
theorem dX11_opens_26 : decode cX11_opens 26 = .ok (.iconst 1, 1) := by decide +kernel
theorem dX11_opens_27 : decode cX11_opens 27 = .ok (.if_icmp .lt 9, 3) := by decide +kernel
theorem dX11_opens_30 : decode cX11_opens 30 = .ok (.iload_n 3, 1) := by decide +kernel
theorem dX11_opens_31 : decode cX11_opens 31 = .ok (.bipush 20, 2) := by decide +kernel
theorem dX11_opens_33 : decode cX11_opens 33 = .ok (.if_icmp .le 5, 3) := by decide +kernel
theorem dX11_opens_36 : decode cX11_opens 36 = .ok (.iconst 0, 1) := by decide +kernel
theorem dX11_opens_37 : decode cX11_opens 37 = .ok (.ireturn, 1) := by decide +kernel
theorem dX11_opens_38 : decode cX11_opens 38 = .ok (.aload_n 0, 1) := by decide +kernel
theorem dX11_opens_39 : decode cX11_opens 39 = .ok (.getfield 34, 3) := by decide +kernel
theorem dX11_opens_42 : decode cX11_opens 42 = .ok (.aload 4, 2) := by decide +kernel
theorem dX11_opens_44 : decode cX11_opens 44 = .ok (.invokevirtual 109, 3) := by decide +kernel
theorem dX11_opens_47 : decode cX11_opens 47 = .ok (.aload 5, 2) := by decide +kernel
theorem dX11_opens_49 : decode cX11_opens 49 = .ok (.invokevirtual 222, 3) := by decide +kernel
theorem dX11_opens_52 : decode cX11_opens 52 = .ok (.iconst 1, 1) := by decide +kernel
theorem dX11_opens_53 : decode cX11_opens 53 = .ok (.ireturn, 1) := by decide +kernel
theorem dX8_isSpilt_0 : decode cX8_isSpilt 0 = .ok (.aload_n 0, 1) := by decide +kernel
theorem dX8_isSpilt_1 : decode cX8_isSpilt 1 = .ok (.getfield 29, 3) := by decide +kernel
theorem dX8_isSpilt_4 : decode cX8_isSpilt 4 = .ok (.invokevirtual 41, 3) := by decide +kernel
theorem dX8_isSpilt_7 : decode cX8_isSpilt 7 = .ok (.ireturn, 1) := by decide +kernel
theorem dX11_settle_0 : decode cX11_settle 0 = .ok (.aload_n 0, 1) := by decide +kernel
theorem dX11_settle_1 : decode cX11_settle 1 = .ok (.getfield 14, 3) := by decide +kernel
theorem dX11_settle_4 : decode cX11_settle 4 = .ok (.invokevirtual 99, 3) := by decide +kernel
theorem dX11_settle_7 : decode cX11_settle 7 = .ok (.iload_n 1, 1) := by decide +kernel
theorem dX11_settle_8 : decode cX11_settle 8 = .ok (.ifCond .eq 13, 3) := by decide +kernel
theorem dX11_settle_11 : decode cX11_settle 11 = .ok (.aload_n 0, 1) := by decide +kernel
theorem dX11_settle_12 : decode cX11_settle 12 = .ok (.getfield 34, 3) := by decide +kernel
theorem dX11_settle_15 : decode cX11_settle 15 = .ok (.invokevirtual 226, 3) := by decide +kernel
theorem dX11_settle_18 : decode cX11_settle 18 = .ok (.goto 4, 3) := by decide +kernel
theorem dX11_settle_21 : decode cX11_settle 21 = .ok (.iconst 0, 1) := by decide +kernel
theorem dX11_settle_22 : decode cX11_settle 22 = .ok (.istore_n 2, 1) := by decide +kernel
theorem dX11_settle_23 : decode cX11_settle 23 = .ok (.iload_n 2, 1) := by decide +kernel
theorem dX11_settle_24 : decode cX11_settle 24 = .ok (.sipush 200, 3) := by decide +kernel
theorem dX11_settle_27 : decode cX11_settle 27 = .ok (.if_icmp .gt 13, 3) := by decide +kernel
theorem dX11_settle_30 : decode cX11_settle 30 = .ok (.aload_n 0, 1) := by decide +kernel
theorem dX11_settle_31 : decode cX11_settle 31 = .ok (.getfield 34, 3) := by decide +kernel
theorem dX11_settle_34 : decode cX11_settle 34 = .ok (.invokevirtual 228, 3) := by decide +kernel
theorem dX11_settle_37 : decode cX11_settle 37 = .ok (.ifCond .eq 7, 3) := by decide +kernel
theorem dX11_settle_40 : decode cX11_settle 40 = .ok (.iconst 1, 1) := by decide +kernel
theorem dX11_settle_41 : decode cX11_settle 41 = .ok (.goto 4, 3) := by decide +kernel
theorem dX11_settle_44 : decode cX11_settle 44 = .ok (.iconst 0, 1) := by decide +kernel
theorem dX11_settle_45 : decode cX11_settle 45 = .ok (.istore_n 3, 1) := by decide +kernel
theorem dX11_settle_46 : decode cX11_settle 46 = .ok (.iload_n 1, 1) := by decide +kernel
theorem dX11_settle_47 : decode cX11_settle 47 = .ok (.ifCond .eq 7, 3) := by decide +kernel
theorem dX11_settle_50 : decode cX11_settle 50 = .ok (.iload_n 3, 1) := by decide +kernel
theorem dX11_settle_51 : decode cX11_settle 51 = .ok (.ifCond .eq 10, 3) := by decide +kernel
theorem dX11_settle_54 : decode cX11_settle 54 = .ok (.aload_n 0, 1) := by decide +kernel
theorem dX11_settle_55 : decode cX11_settle 55 = .ok (.getfield 34, 3) := by decide +kernel
theorem dX11_settle_58 : decode cX11_settle 58 = .ok (.invokevirtual 92, 3) := by decide +kernel
theorem dX11_settle_61 : decode cX11_settle 61 = .ok (.iload_n 1, 1) := by decide +kernel
theorem dX11_settle_62 : decode cX11_settle 62 = .ok (.ifCond .ne 13, 3) := by decide +kernel
theorem dX11_settle_65 : decode cX11_settle 65 = .ok (.new 67, 3) := by decide +kernel
theorem dX11_settle_68 : decode cX11_settle 68 = .ok (.dup, 1) := by decide +kernel
theorem dX11_settle_69 : decode cX11_settle 69 = .ok (.ldc 229, 2) := by decide +kernel
theorem dX11_settle_71 : decode cX11_settle 71 = .ok (.invokespecial 71, 3) := by decide +kernel
theorem dX11_settle_74 : decode cX11_settle 74 = .ok (.athrow, 1) := by decide +kernel
theorem dX11_settle_75 : decode cX11_settle 75 = .ok (.iload_n 3, 1) := by decide +kernel
theorem dX11_settle_76 : decode cX11_settle 76 = .ok (.ifCond .eq 13, 3) := by decide +kernel
theorem dX11_settle_79 : decode cX11_settle 79 = .ok (.new 78, 3) := by decide +kernel
theorem dX11_settle_82 : decode cX11_settle 82 = .ok (.dup, 1) := by decide +kernel
theorem dX11_settle_83 : decode cX11_settle 83 = .ok (.ldc 231, 2) := by decide +kernel
theorem dX11_settle_85 : decode cX11_settle 85 = .ok (.invokespecial 82, 3) := by decide +kernel
theorem dX11_settle_88 : decode cX11_settle 88 = .ok (.athrow, 1) := by decide +kernel
theorem dX11_settle_89 : decode cX11_settle 89 = .ok (.iload_n 2, 1) := by decide +kernel
theorem dX11_settle_90 : decode cX11_settle 90 = .ok (.ireturn, 1) := by decide +kernel
theorem dX11_decode_0 : decode cX11_decode 0 = .ok (.aload_n 0, 1) := by decide +kernel
theorem dX11_decode_1 : decode cX11_decode 1 = .ok (.aload_n 0, 1) := by decide +kernel
theorem dX11_decode_2 : decode cX11_decode 2 = .ok (.iload_n 1, 1) := by decide +kernel
theorem dX11_decode_3 : decode cX11_decode 3 = .ok (.iload_n 2, 1) := by decide +kernel
theorem dX11_decode_4 : decode cX11_decode 4 = .ok (.iload_n 3, 1) := by decide +kernel
theorem dX11_decode_5 : decode cX11_decode 5 = .ok (.invokevirtual 162, 3) := by decide +kernel
theorem dX11_decode_8 : decode cX11_decode 8 = .ok (.ifCond .eq 18, 3) := by decide +kernel
theorem dX11_decode_11 : decode cX11_decode 11 = .ok (.aload_n 0, 1) := by decide +kernel
theorem dX11_decode_12 : decode cX11_decode 12 = .ok (.getfield 43, 3) := by decide +kernel
theorem dX11_decode_15 : decode cX11_decode 15 = .ok (.iload_n 3, 1) := by decide +kernel
theorem dX11_decode_16 : decode cX11_decode 16 = .ok (.invokevirtual 166, 3) := by decide +kernel
theorem dX11_decode_19 : decode cX11_decode 19 = .ok (.ifCond .eq 7, 3) := by decide +kernel
theorem dX11_decode_22 : decode cX11_decode 22 = .ok (.iconst 1, 1) := by decide +kernel
theorem dX11_decode_23 : decode cX11_decode 23 = .ok (.goto 4, 3) := by decide +kernel
theorem dX11_decode_26 : decode cX11_decode 26 = .ok (.iconst 0, 1) := by decide +kernel
theorem dX11_decode_27 : decode cX11_decode 27 = .ok (.invokevirtual 170, 3) := by decide +kernel
theorem dX11_decode_30 : decode cX11_decode 30 = .ok (.ireturn, 1) := by decide +kernel
theorem dX11_parse_0 : decode cX11_parse 0 = .ok (.aload_n 0, 1) := by decide +kernel
theorem dX11_parse_1 : decode cX11_parse 1 = .ok (.aload_n 0, 1) := by decide +kernel
theorem dX11_parse_2 : decode cX11_parse 2 = .ok (.iload_n 1, 1) := by decide +kernel
theorem dX11_parse_3 : decode cX11_parse 3 = .ok (.iload_n 2, 1) := by decide +kernel
theorem dX11_parse_4 : decode cX11_parse 4 = .ok (.iload_n 3, 1) := by decide +kernel
theorem dX11_parse_5 : decode cX11_parse 5 = .ok (.invokevirtual 162, 3) := by decide +kernel
theorem dX11_parse_8 : decode cX11_parse 8 = .ok (.ifCond .eq 18, 3) := by decide +kernel
theorem dX11_parse_11 : decode cX11_parse 11 = .ok (.aload_n 0, 1) := by decide +kernel
theorem dX11_parse_12 : decode cX11_parse 12 = .ok (.getfield 50, 3) := by decide +kernel
theorem dX11_parse_15 : decode cX11_parse 15 = .ok (.iload_n 3, 1) := by decide +kernel
theorem dX11_parse_16 : decode cX11_parse 16 = .ok (.invokevirtual 174, 3) := by decide +kernel
theorem dX11_parse_19 : decode cX11_parse 19 = .ok (.ifCond .eq 7, 3) := by decide +kernel
theorem dX11_parse_22 : decode cX11_parse 22 = .ok (.iconst 1, 1) := by decide +kernel
theorem dX11_parse_23 : decode cX11_parse 23 = .ok (.goto 4, 3) := by decide +kernel
theorem dX11_parse_26 : decode cX11_parse 26 = .ok (.iconst 0, 1) := by decide +kernel
theorem dX11_parse_27 : decode cX11_parse 27 = .ok (.invokevirtual 170, 3) := by decide +kernel
theorem dX11_parse_30 : decode cX11_parse 30 = .ok (.ireturn, 1) := by decide +kernel
theorem dX8_isThere_0 : decode cX8_isThere 0 = .ok (.aload_n 0, 1) := by decide +kernel
theorem dX8_isThere_1 : decode cX8_isThere 1 = .ok (.getfield 33, 3) := by decide +kernel
theorem dX8_isThere_4 : decode cX8_isThere 4 = .ok (.ifnull 14, 3) := by decide +kernel
theorem dX8_isThere_7 : decode cX8_isThere 7 = .ok (.aload_n 0, 1) := by decide +kernel
theorem dX8_isThere_8 : decode cX8_isThere 8 = .ok (.getfield 37, 3) := by decide +kernel
theorem dX8_isThere_11 : decode cX8_isThere 11 = .ok (.ifnull 7, 3) := by decide +kernel
theorem dX8_isThere_14 : decode cX8_isThere 14 = .ok (.iconst 1, 1) := by decide +kernel
theorem dX8_isThere_15 : decode cX8_isThere 15 = .ok (.goto 4, 3) := by decide +kernel
theorem dX8_isThere_18 : decode cX8_isThere 18 = .ok (.iconst 0, 1) := by decide +kernel
theorem dX8_isThere_19 : decode cX8_isThere 19 = .ok (.ireturn, 1) := by decide +kernel
theorem dX11_encode_0 : decode cX11_encode 0 = .ok (.aload_n 0, 1) := by decide +kernel
theorem dX11_encode_1 : decode cX11_encode 1 = .ok (.getfield 18, 3) := by decide +kernel
theorem dX11_encode_4 : decode cX11_encode 4 = .ok (.invokevirtual 99, 3) := by decide +kernel
theorem dX11_encode_7 : decode cX11_encode 7 = .ok (.aload_n 0, 1) := by decide +kernel
theorem dX11_encode_8 : decode cX11_encode 8 = .ok (.getfield 34, 3) := by decide +kernel
theorem dX11_encode_11 : decode cX11_encode 11 = .ok (.invokevirtual 175, 3) := by decide +kernel
theorem dX11_encode_14 : decode cX11_encode 14 = .ok (.ifCond .ne 13, 3) := by decide +kernel
theorem dX11_encode_17 : decode cX11_encode 17 = .ok (.new 78, 3) := by decide +kernel
theorem dX11_encode_20 : decode cX11_encode 20 = .ok (.dup, 1) := by decide +kernel
theorem dX11_encode_21 : decode cX11_encode 21 = .ok (.ldc 179, 2) := by decide +kernel
theorem dX11_encode_23 : decode cX11_encode 23 = .ok (.invokespecial 82, 3) := by decide +kernel
theorem dX11_encode_26 : decode cX11_encode 26 = .ok (.athrow, 1) := by decide +kernel
theorem dX11_encode_27 : decode cX11_encode 27 = .ok (.aload_n 0, 1) := by decide +kernel
theorem dX11_encode_28 : decode cX11_encode 28 = .ok (.getfield 43, 3) := by decide +kernel
theorem dX11_encode_31 : decode cX11_encode 31 = .ok (.invokevirtual 181, 3) := by decide +kernel
theorem dX11_encode_34 : decode cX11_encode 34 = .ok (.aload_n 0, 1) := by decide +kernel
theorem dX11_encode_35 : decode cX11_encode 35 = .ok (.getfield 18, 3) := by decide +kernel
theorem dX11_encode_38 : decode cX11_encode 38 = .ok (.invokevirtual 74, 3) := by decide +kernel
theorem dX11_encode_41 : decode cX11_encode 41 = .ok (.ireturn, 1) := by decide +kernel
theorem dX11_print_0 : decode cX11_print 0 = .ok (.aload_n 0, 1) := by decide +kernel
theorem dX11_print_1 : decode cX11_print 1 = .ok (.getfield 18, 3) := by decide +kernel
theorem dX11_print_4 : decode cX11_print 4 = .ok (.invokevirtual 99, 3) := by decide +kernel
theorem dX11_print_7 : decode cX11_print 7 = .ok (.aload_n 0, 1) := by decide +kernel
theorem dX11_print_8 : decode cX11_print 8 = .ok (.getfield 34, 3) := by decide +kernel
theorem dX11_print_11 : decode cX11_print 11 = .ok (.invokevirtual 175, 3) := by decide +kernel
theorem dX11_print_14 : decode cX11_print 14 = .ok (.ifCond .ne 13, 3) := by decide +kernel
theorem dX11_print_17 : decode cX11_print 17 = .ok (.new 78, 3) := by decide +kernel
theorem dX11_print_20 : decode cX11_print 20 = .ok (.dup, 1) := by decide +kernel
theorem dX11_print_21 : decode cX11_print 21 = .ok (.ldc 179, 2) := by decide +kernel
theorem dX11_print_23 : decode cX11_print 23 = .ok (.invokespecial 82, 3) := by decide +kernel
theorem dX11_print_26 : decode cX11_print 26 = .ok (.athrow, 1) := by decide +kernel
theorem dX11_print_27 : decode cX11_print 27 = .ok (.aload_n 0, 1) := by decide +kernel
theorem dX11_print_28 : decode cX11_print 28 = .ok (.getfield 50, 3) := by decide +kernel
theorem dX11_print_31 : decode cX11_print 31 = .ok (.invokevirtual 184, 3) := by decide +kernel
theorem dX11_print_34 : decode cX11_print 34 = .ok (.aload_n 0, 1) := by decide +kernel
theorem dX11_print_35 : decode cX11_print 35 = .ok (.getfield 18, 3) := by decide +kernel
theorem dX11_print_38 : decode cX11_print 38 = .ok (.invokevirtual 185, 3) := by decide +kernel
theorem dX11_print_41 : decode cX11_print 41 = .ok (.ifCond .eq 20, 3) := by decide +kernel
theorem dX11_print_44 : decode cX11_print 44 = .ok (.aload_n 0, 1) := by decide +kernel
theorem dX11_print_45 : decode cX11_print 45 = .ok (.getfield 18, 3) := by decide +kernel
theorem dX11_print_48 : decode cX11_print 48 = .ok (.invokevirtual 99, 3) := by decide +kernel
theorem dX11_print_51 : decode cX11_print 51 = .ok (.new 188, 3) := by decide +kernel
theorem dX11_print_54 : decode cX11_print 54 = .ok (.dup, 1) := by decide +kernel
theorem dX11_print_55 : decode cX11_print 55 = .ok (.ldc 190, 2) := by decide +kernel
theorem dX11_print_57 : decode cX11_print 57 = .ok (.invokespecial 192, 3) := by decide +kernel
theorem dX11_print_60 : decode cX11_print 60 = .ok (.athrow, 1) := by decide +kernel
theorem dX11_print_61 : decode cX11_print 61 = .ok (.aload_n 0, 1) := by decide +kernel
theorem dX11_print_62 : decode cX11_print 62 = .ok (.getfield 18, 3) := by decide +kernel
theorem dX11_print_65 : decode cX11_print 65 = .ok (.invokevirtual 74, 3) := by decide +kernel
theorem dX11_print_68 : decode cX11_print 68 = .ok (.ireturn, 1) := by decide +kernel
theorem dX11_check_0 : decode cX11_check 0 = .ok (.aload_n 0, 1) := by decide +kernel
theorem dX11_check_1 : decode cX11_check 1 = .ok (.getfield 18, 3) := by decide +kernel
theorem dX11_check_4 : decode cX11_check 4 = .ok (.invokevirtual 99, 3) := by decide +kernel
theorem dX11_check_7 : decode cX11_check 7 = .ok (.aload_n 0, 1) := by decide +kernel
theorem dX11_check_8 : decode cX11_check 8 = .ok (.getfield 24, 3) := by decide +kernel
theorem dX11_check_11 : decode cX11_check 11 = .ok (.invokevirtual 109, 3) := by decide +kernel
theorem dX11_check_14 : decode cX11_check 14 = .ok (.iload_n 1, 1) := by decide +kernel
theorem dX11_check_15 : decode cX11_check 15 = .ok (.invokevirtual 193, 3) := by decide +kernel
theorem dX11_check_18 : decode cX11_check 18 = .ok (.astore_n 3, 1) := by decide +kernel
theorem dX11_check_19 : decode cX11_check 19 = .ok (.aload_n 0, 1) := by decide +kernel
theorem dX11_check_20 : decode cX11_check 20 = .ok (.getfield 28, 3) := by decide +kernel
theorem dX11_check_23 : decode cX11_check 23 = .ok (.invokevirtual 109, 3) := by decide +kernel
theorem dX11_check_26 : decode cX11_check 26 = .ok (.iload_n 2, 1) := by decide +kernel
theorem dX11_check_27 : decode cX11_check 27 = .ok (.invokevirtual 193, 3) := by decide +kernel
theorem dX11_check_30 : decode cX11_check 30 = .ok (.astore 4, 2) := by decide +kernel
theorem dX11_check_32 : decode cX11_check 32 = .ok (.aload_n 3, 1) := by decide +kernel
theorem dX11_check_33 : decode cX11_check 33 = .ok (.ifnull 8, 3) := by decide +kernel
theorem dX11_check_36 : decode cX11_check 36 = .ok (.aload 4, 2) := by decide +kernel
theorem dX11_check_38 : decode cX11_check 38 = .ok (.ifnonnull 13, 3) := by decide +kernel
theorem dX11_check_41 : decode cX11_check 41 = .ok (.new 67, 3) := by decide +kernel
theorem dX11_check_44 : decode cX11_check 44 = .ok (.dup, 1) := by decide +kernel
theorem dX11_check_45 : decode cX11_check 45 = .ok (.ldc 196, 2) := by decide +kernel
theorem dX11_check_47 : decode cX11_check 47 = .ok (.invokespecial 71, 3) := by decide +kernel
theorem dX11_check_50 : decode cX11_check 50 = .ok (.athrow, 1) := by decide +kernel
theorem dX11_check_51 : decode cX11_check 51 = .ok (.aload_n 0, 1) := by decide +kernel
theorem dX11_check_52 : decode cX11_check 52 = .ok (.getfield 59, 3) := by decide +kernel
theorem dX11_check_55 : decode cX11_check 55 = .ok (.aload_n 3, 1) := by decide +kernel
theorem dX11_check_56 : decode cX11_check 56 = .ok (.aload 4, 2) := by decide +kernel
theorem dX11_check_58 : decode cX11_check 58 = .ok (.invokevirtual 198, 3) := by decide +kernel
theorem dX11_check_61 : decode cX11_check 61 = .ok (.ireturn, 1) := by decide +kernel
theorem dX11_out_0 : decode cX11_out 0 = .ok (.iload_n 1, 1) := by decide +kernel
theorem dX11_out_1 : decode cX11_out 1 = .ok (.ifCond .lt 14, 3) := by decide +kernel
theorem dX11_out_4 : decode cX11_out 4 = .ok (.iload_n 1, 1) := by decide +kernel
theorem dX11_out_5 : decode cX11_out 5 = .ok (.aload_n 0, 1) := by decide +kernel
theorem dX11_out_6 : decode cX11_out 6 = .ok (.getfield 18, 3) := by decide +kernel
theorem dX11_out_9 : decode cX11_out 9 = .ok (.invokevirtual 74, 3) := by decide +kernel
theorem dX11_out_12 : decode cX11_out 12 = .ok (.if_icmp .lt 13, 3) := by decide +kernel
theorem dX11_out_15 : decode cX11_out 15 = .ok (.new 202, 3) := by decide +kernel
theorem dX11_out_18 : decode cX11_out 18 = .ok (.dup, 1) := by decide +kernel
theorem dX11_out_19 : decode cX11_out 19 = .ok (.ldc 204, 2) := by decide +kernel
theorem dX11_out_21 : decode cX11_out 21 = .ok (.invokespecial 206, 3) := by decide +kernel
theorem dX11_out_24 : decode cX11_out 24 = .ok (.athrow, 1) := by decide +kernel
theorem dX11_out_25 : decode cX11_out 25 = .ok (.lconst 0, 1) := by decide +kernel
theorem dX11_out_26 : decode cX11_out 26 = .ok (.lstore_n 2, 1) := by decide +kernel
theorem dX11_out_27 : decode cX11_out 27 = .ok (.iload_n 1, 1) := by decide +kernel
theorem dX11_out_28 : decode cX11_out 28 = .ok (.istore 4, 2) := by decide +kernel
theorem dX11_out_30 : decode cX11_out 30 = .ok (.iload 4, 2) := by decide +kernel
theorem dX11_out_32 : decode cX11_out 32 = .ok (.iload_n 1, 1) := by decide +kernel
theorem dX11_out_33 : decode cX11_out 33 = .ok (.bipush 8, 2) := by decide +kernel
theorem dX11_out_35 : decode cX11_out 35 = .ok (.iadd, 1) := by decide +kernel
theorem dX11_out_36 : decode cX11_out 36 = .ok (.if_icmp .ge 29, 3) := by decide +kernel
theorem dX11_out_39 : decode cX11_out 39 = .ok (.lload_n 2, 1) := by decide +kernel
theorem dX11_out_40 : decode cX11_out 40 = .ok (.bipush 8, 2) := by decide +kernel
theorem dX11_out_42 : decode cX11_out 42 = .ok (.lshl, 1) := by decide +kernel
theorem dX11_out_43 : decode cX11_out 43 = .ok (.aload_n 0, 1) := by decide +kernel
theorem dX11_out_44 : decode cX11_out 44 = .ok (.getfield 18, 3) := by decide +kernel
theorem dX11_out_47 : decode cX11_out 47 = .ok (.iload 4, 2) := by decide +kernel
theorem dX11_out_49 : decode cX11_out 49 = .ok (.invokevirtual 207, 3) := by decide +kernel
theorem dX11_out_52 : decode cX11_out 52 = .ok (.iconst 0, 1) := by decide +kernel
theorem dX11_out_53 : decode cX11_out 53 = .ok (.invokestatic 210, 3) := by decide +kernel
theorem dX11_out_56 : decode cX11_out 56 = .ok (.i2l, 1) := by decide +kernel
theorem dX11_out_57 : decode cX11_out 57 = .ok (.lor, 1) := by decide +kernel
theorem dX11_out_58 : decode cX11_out 58 = .ok (.lstore_n 2, 1) := by decide +kernel
theorem dX11_out_59 : decode cX11_out 59 = .ok (.iinc 4 1, 3) := by decide +kernel
theorem dX11_out_62 : decode cX11_out 62 = .ok (.goto (-32), 3) := by decide +kernel
theorem dX11_out_65 : decode cX11_out 65 = .ok (.lload_n 2, 1) := by decide +kernel
theorem dX11_out_66 : decode cX11_out 66 = .ok (.lreturn, 1) := by decide +kernel
theorem dX11_turn_0 : decode cX11_turn 0 = .ok (.aload_n 0, 1) := by decide +kernel
theorem dX11_turn_1 : decode cX11_turn 1 = .ok (.getfield 18, 3) := by decide +kernel
theorem dX11_turn_4 : decode cX11_turn 4 = .ok (.invokevirtual 74, 3) := by decide +kernel
theorem dX11_turn_7 : decode cX11_turn 7 = .ok (.sipush 700, 3) := by decide +kernel
theorem dX11_turn_10 : decode cX11_turn 10 = .ok (.if_icmp .le 13, 3) := by decide +kernel
theorem dX11_turn_13 : decode cX11_turn 13 = .ok (.new 78, 3) := by decide +kernel
theorem dX11_turn_16 : decode cX11_turn 16 = .ok (.dup, 1) := by decide +kernel
theorem dX11_turn_17 : decode cX11_turn 17 = .ok (.ldc 216, 2) := by decide +kernel
theorem dX11_turn_19 : decode cX11_turn 19 = .ok (.invokespecial 82, 3) := by decide +kernel
theorem dX11_turn_22 : decode cX11_turn 22 = .ok (.athrow, 1) := by decide +kernel
theorem dX11_turn_23 : decode cX11_turn 23 = .ok (.aload_n 0, 1) := by decide +kernel
theorem dX11_turn_24 : decode cX11_turn 24 = .ok (.getfield 14, 3) := by decide +kernel
theorem dX11_turn_27 : decode cX11_turn 27 = .ok (.invokevirtual 99, 3) := by decide +kernel
theorem dX11_turn_30 : decode cX11_turn 30 = .ok (.aload_n 0, 1) := by decide +kernel
theorem dX11_turn_31 : decode cX11_turn 31 = .ok (.getfield 14, 3) := by decide +kernel
theorem dX11_turn_34 : decode cX11_turn 34 = .ok (.aload_n 0, 1) := by decide +kernel
theorem dX11_turn_35 : decode cX11_turn 35 = .ok (.getfield 18, 3) := by decide +kernel
theorem dX11_turn_38 : decode cX11_turn 38 = .ok (.iconst 0, 1) := by decide +kernel
theorem dX11_turn_39 : decode cX11_turn 39 = .ok (.aload_n 0, 1) := by decide +kernel
theorem dX11_turn_40 : decode cX11_turn 40 = .ok (.getfield 18, 3) := by decide +kernel
theorem dX11_turn_43 : decode cX11_turn 43 = .ok (.invokevirtual 74, 3) := by decide +kernel
theorem dX11_turn_46 : decode cX11_turn 46 = .ok (.invokevirtual 218, 3) := by decide +kernel
theorem dX11_turn_49 : decode cX11_turn 49 = .ok (.aload_n 0, 1) := by decide +kernel
theorem dX11_turn_50 : decode cX11_turn 50 = .ok (.getfield 14, 3) := by decide +kernel
theorem dX11_turn_53 : decode cX11_turn 53 = .ok (.invokevirtual 74, 3) := by decide +kernel
theorem dX11_turn_56 : decode cX11_turn 56 = .ok (.ireturn, 1) := by decide +kernel
theorem dX11_feed_0 : decode cX11_feed 0 = .ok (.iload_n 3, 1) := by decide +kernel
theorem dX11_feed_1 : decode cX11_feed 1 = .ok (.iconst 1, 1) := by decide +kernel
theorem dX11_feed_2 : decode cX11_feed 2 = .ok (.if_icmp .lt 9, 3) := by decide +kernel
theorem dX11_feed_5 : decode cX11_feed 5 = .ok (.iload_n 3, 1) := by decide +kernel
theorem dX11_feed_6 : decode cX11_feed 6 = .ok (.bipush 8, 2) := by decide +kernel
theorem dX11_feed_8 : decode cX11_feed 8 = .ok (.if_icmp .le 13, 3) := by decide +kernel
theorem dX11_feed_11 : decode cX11_feed 11 = .ok (.new 67, 3) := by decide +kernel
theorem dX11_feed_14 : decode cX11_feed 14 = .ok (.dup, 1) := by decide +kernel
theorem dX11_feed_15 : decode cX11_feed 15 = .ok (.ldc 69, 2) := by decide +kernel
theorem dX11_feed_17 : decode cX11_feed 17 = .ok (.invokespecial 71, 3) := by decide +kernel
theorem dX11_feed_20 : decode cX11_feed 20 = .ok (.athrow, 1) := by decide +kernel
theorem dX11_feed_21 : decode cX11_feed 21 = .ok (.aload_n 0, 1) := by decide +kernel
theorem dX11_feed_22 : decode cX11_feed 22 = .ok (.getfield 14, 3) := by decide +kernel
theorem dX11_feed_25 : decode cX11_feed 25 = .ok (.invokevirtual 74, 3) := by decide +kernel
theorem dX11_feed_28 : decode cX11_feed 28 = .ok (.iload_n 3, 1) := by decide +kernel
theorem dX11_feed_29 : decode cX11_feed 29 = .ok (.iadd, 1) := by decide +kernel
theorem dX11_feed_30 : decode cX11_feed 30 = .ok (.sipush 700, 3) := by decide +kernel
theorem dX11_feed_33 : decode cX11_feed 33 = .ok (.if_icmp .le 13, 3) := by decide +kernel
theorem dX11_feed_36 : decode cX11_feed 36 = .ok (.new 78, 3) := by decide +kernel
theorem dX11_feed_39 : decode cX11_feed 39 = .ok (.dup, 1) := by decide +kernel
theorem dX11_feed_40 : decode cX11_feed 40 = .ok (.ldc 80, 2) := by decide +kernel
theorem dX11_feed_42 : decode cX11_feed 42 = .ok (.invokespecial 82, 3) := by decide +kernel
theorem dX11_feed_45 : decode cX11_feed 45 = .ok (.athrow, 1) := by decide +kernel
theorem dX11_feed_46 : decode cX11_feed 46 = .ok (.iload_n 3, 1) := by decide +kernel
theorem dX11_feed_47 : decode cX11_feed 47 = .ok (.iconst 1, 1) := by decide +kernel
theorem dX11_feed_48 : decode cX11_feed 48 = .ok (.isub, 1) := by decide +kernel
theorem dX11_feed_49 : decode cX11_feed 49 = .ok (.istore 4, 2) := by decide +kernel
theorem dX11_feed_51 : decode cX11_feed 51 = .ok (.iload 4, 2) := by decide +kernel
theorem dX11_feed_53 : decode cX11_feed 53 = .ok (.ifCond .lt 24, 3) := by decide +kernel
theorem dX11_feed_56 : decode cX11_feed 56 = .ok (.aload_n 0, 1) := by decide +kernel
theorem dX11_feed_57 : decode cX11_feed 57 = .ok (.getfield 14, 3) := by decide +kernel
theorem dX11_feed_60 : decode cX11_feed 60 = .ok (.lload_n 1, 1) := by decide +kernel
theorem dX11_feed_61 : decode cX11_feed 61 = .ok (.bipush 8, 2) := by decide +kernel
theorem dX11_feed_63 : decode cX11_feed 63 = .ok (.iload 4, 2) := by decide +kernel
theorem dX11_feed_65 : decode cX11_feed 65 = .ok (.imul, 1) := by decide +kernel
theorem dX11_feed_66 : decode cX11_feed 66 = .ok (.lushr, 1) := by decide +kernel
theorem dX11_feed_67 : decode cX11_feed 67 = .ok (.l2i, 1) := by decide +kernel
theorem dX11_feed_68 : decode cX11_feed 68 = .ok (.invokevirtual 83, 3) := by decide +kernel
theorem dX11_feed_71 : decode cX11_feed 71 = .ok (.iinc 4 (-1), 3) := by decide +kernel
theorem dX11_feed_74 : decode cX11_feed 74 = .ok (.goto (-23), 3) := by decide +kernel
theorem dX11_feed_77 : decode cX11_feed 77 = .ok (.aload_n 0, 1) := by decide +kernel
theorem dX11_feed_78 : decode cX11_feed 78 = .ok (.getfield 14, 3) := by decide +kernel
theorem dX11_feed_81 : decode cX11_feed 81 = .ok (.invokevirtual 74, 3) := by decide +kernel
theorem dX11_feed_84 : decode cX11_feed 84 = .ok (.ireturn, 1) := by decide +kernel
