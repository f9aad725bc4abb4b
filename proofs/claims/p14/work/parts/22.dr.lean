theorem dX12_above_0 : decode cX12_above 0 = .ok (.lload_n 0, 1) := by decide +kernel
theorem dX12_above_1 : decode cX12_above 1 = .ok (.lconst 0, 1) := by decide +kernel
theorem dX12_above_2 : decode cX12_above 2 = .ok (.lcmp, 1) := by decide +kernel
theorem dX12_above_3 : decode cX12_above 3 = .ok (.ifCond .ge 7, 3) := by decide +kernel
theorem dX12_above_6 : decode cX12_above 6 = .ok (.iconst 1, 1) := by decide +kernel
theorem dX12_above_7 : decode cX12_above 7 = .ok (.goto 4, 3) := by decide +kernel
theorem dX12_above_10 : decode cX12_above 10 = .ok (.iconst 0, 1) := by decide +kernel
theorem dX12_above_11 : decode cX12_above 11 = .ok (.lload_n 2, 1) := by decide +kernel
theorem dX12_above_12 : decode cX12_above 12 = .ok (.lconst 0, 1) := by decide +kernel
theorem dX12_above_13 : decode cX12_above 13 = .ok (.lcmp, 1) := by decide +kernel
theorem dX12_above_14 : decode cX12_above 14 = .ok (.ifCond .ge 7, 3) := by decide +kernel
theorem dX12_above_17 : decode cX12_above 17 = .ok (.iconst 1, 1) := by decide +kernel
theorem dX12_above_18 : decode cX12_above 18 = .ok (.goto 4, 3) := by decide +kernel
theorem dX12_above_21 : decode cX12_above 21 = .ok (.iconst 0, 1) := by decide +kernel
theorem dX12_above_22 : decode cX12_above 22 = .ok (.if_icmp .ne 17, 3) := by decide +kernel
theorem dX12_above_25 : decode cX12_above 25 = .ok (.lload_n 0, 1) := by decide +kernel
theorem dX12_above_26 : decode cX12_above 26 = .ok (.lload_n 2, 1) := by decide +kernel
theorem dX12_above_27 : decode cX12_above 27 = .ok (.lcmp, 1) := by decide +kernel
theorem dX12_above_28 : decode cX12_above 28 = .ok (.ifCond .le 7, 3) := by decide +kernel
theorem dX12_above_31 : decode cX12_above 31 = .ok (.iconst 1, 1) := by decide +kernel
theorem dX12_above_32 : decode cX12_above 32 = .ok (.goto 18, 3) := by decide +kernel
theorem dX12_above_35 : decode cX12_above 35 = .ok (.iconst 0, 1) := by decide +kernel
theorem dX12_above_36 : decode cX12_above 36 = .ok (.goto 14, 3) := by decide +kernel
theorem dX12_above_39 : decode cX12_above 39 = .ok (.lload_n 0, 1) := by decide +kernel
theorem dX12_above_40 : decode cX12_above 40 = .ok (.lconst 0, 1) := by decide +kernel
theorem dX12_above_41 : decode cX12_above 41 = .ok (.lcmp, 1) := by decide +kernel
theorem dX12_above_42 : decode cX12_above 42 = .ok (.ifCond .ge 7, 3) := by decide +kernel
theorem dX12_above_45 : decode cX12_above 45 = .ok (.iconst 1, 1) := by decide +kernel
theorem dX12_above_46 : decode cX12_above 46 = .ok (.goto 4, 3) := by decide +kernel
theorem dX12_above_49 : decode cX12_above 49 = .ok (.iconst 0, 1) := by decide +kernel
theorem dX12_above_50 : decode cX12_above 50 = .ok (.ireturn, 1) := by decide +kernel
theorem dX12_addNode_0 : decode cX12_addNode 0 = .ok (.aload_n 0, 1) := by decide +kernel
theorem dX12_addNode_1 : decode cX12_addNode 1 = .ok (.getfield 593, 3) := by decide +kernel
theorem dX12_addNode_4 : decode cX12_addNode 4 = .ok (.istore 4, 2) := by decide +kernel
theorem dX12_addNode_6 : decode cX12_addNode 6 = .ok (.aload_n 0, 1) := by decide +kernel
theorem dX12_addNode_7 : decode cX12_addNode 7 = .ok (.dup, 1) := by decide +kernel
theorem dX12_addNode_8 : decode cX12_addNode 8 = .ok (.getfield 593, 3) := by decide +kernel
theorem dX12_addNode_11 : decode cX12_addNode 11 = .ok (.iconst 1, 1) := by decide +kernel
theorem dX12_addNode_12 : decode cX12_addNode 12 = .ok (.iadd, 1) := by decide +kernel
theorem dX12_addNode_13 : decode cX12_addNode 13 = .ok (.putfield 593, 3) := by decide +kernel
theorem dX12_addNode_16 : decode cX12_addNode 16 = .ok (.aload_n 0, 1) := by decide +kernel
theorem dX12_addNode_17 : decode cX12_addNode 17 = .ok (.getfield 190, 3) := by decide +kernel
theorem dX12_addNode_20 : decode cX12_addNode 20 = .ok (.iload 4, 2) := by decide +kernel
theorem dX12_addNode_22 : decode cX12_addNode 22 = .ok (.iload_n 1, 1) := by decide +kernel
theorem dX12_addNode_23 : decode cX12_addNode 23 = .ok (.iastore, 1) := by decide +kernel
theorem dX12_addNode_24 : decode cX12_addNode 24 = .ok (.aload_n 0, 1) := by decide +kernel
theorem dX12_addNode_25 : decode cX12_addNode 25 = .ok (.getfield 193, 3) := by decide +kernel
theorem dX12_addNode_28 : decode cX12_addNode 28 = .ok (.iload 4, 2) := by decide +kernel
theorem dX12_addNode_30 : decode cX12_addNode 30 = .ok (.iload_n 2, 1) := by decide +kernel
theorem dX12_addNode_31 : decode cX12_addNode 31 = .ok (.iastore, 1) := by decide +kernel
theorem dX12_addNode_32 : decode cX12_addNode 32 = .ok (.aload_n 0, 1) := by decide +kernel
theorem dX12_addNode_33 : decode cX12_addNode 33 = .ok (.getfield 196, 3) := by decide +kernel
theorem dX12_addNode_36 : decode cX12_addNode 36 = .ok (.iload 4, 2) := by decide +kernel
theorem dX12_addNode_38 : decode cX12_addNode 38 = .ok (.iload_n 3, 1) := by decide +kernel
theorem dX12_addNode_39 : decode cX12_addNode 39 = .ok (.iastore, 1) := by decide +kernel
theorem dX12_addNode_40 : decode cX12_addNode 40 = .ok (.iload_n 3, 1) := by decide +kernel
theorem dX12_addNode_41 : decode cX12_addNode 41 = .ok (.aload_n 0, 1) := by decide +kernel
theorem dX12_addNode_42 : decode cX12_addNode 42 = .ok (.getfield 605, 3) := by decide +kernel
theorem dX12_addNode_45 : decode cX12_addNode 45 = .ok (.if_icmp .le 8, 3) := by decide +kernel
theorem dX12_addNode_48 : decode cX12_addNode 48 = .ok (.aload_n 0, 1) := by decide +kernel
theorem dX12_addNode_49 : decode cX12_addNode 49 = .ok (.iconst 1, 1) := by decide +kernel
theorem dX12_addNode_50 : decode cX12_addNode 50 = .ok (.putfield 590, 3) := by decide +kernel
theorem dX12_addNode_53 : decode cX12_addNode 53 = .ok (.iload 4, 2) := by decide +kernel
theorem dX12_addNode_55 : decode cX12_addNode 55 = .ok (.ireturn, 1) := by decide +kernel
theorem dX12_addRow_0 : decode cX12_addRow 0 = .ok (.aload_n 0, 1) := by decide +kernel
theorem dX12_addRow_1 : decode cX12_addRow 1 = .ok (.getfield 596, 3) := by decide +kernel
theorem dX12_addRow_4 : decode cX12_addRow 4 = .ok (.istore_n 3, 1) := by decide +kernel
theorem dX12_addRow_5 : decode cX12_addRow 5 = .ok (.aload_n 0, 1) := by decide +kernel
theorem dX12_addRow_6 : decode cX12_addRow 6 = .ok (.dup, 1) := by decide +kernel
theorem dX12_addRow_7 : decode cX12_addRow 7 = .ok (.getfield 596, 3) := by decide +kernel
theorem dX12_addRow_10 : decode cX12_addRow 10 = .ok (.iconst 1, 1) := by decide +kernel
theorem dX12_addRow_11 : decode cX12_addRow 11 = .ok (.iadd, 1) := by decide +kernel
theorem dX12_addRow_12 : decode cX12_addRow 12 = .ok (.putfield 596, 3) := by decide +kernel
theorem dX12_addRow_15 : decode cX12_addRow 15 = .ok (.aload_n 0, 1) := by decide +kernel
theorem dX12_addRow_16 : decode cX12_addRow 16 = .ok (.getfield 205, 3) := by decide +kernel
theorem dX12_addRow_19 : decode cX12_addRow 19 = .ok (.iload_n 3, 1) := by decide +kernel
theorem dX12_addRow_20 : decode cX12_addRow 20 = .ok (.iload_n 1, 1) := by decide +kernel
theorem dX12_addRow_21 : decode cX12_addRow 21 = .ok (.iastore, 1) := by decide +kernel
theorem dX12_addRow_22 : decode cX12_addRow 22 = .ok (.aload_n 0, 1) := by decide +kernel
theorem dX12_addRow_23 : decode cX12_addRow 23 = .ok (.getfield 208, 3) := by decide +kernel
theorem dX12_addRow_26 : decode cX12_addRow 26 = .ok (.iload_n 3, 1) := by decide +kernel
theorem dX12_addRow_27 : decode cX12_addRow 27 = .ok (.iload_n 2, 1) := by decide +kernel
theorem dX12_addRow_28 : decode cX12_addRow 28 = .ok (.iastore, 1) := by decide +kernel
theorem dX12_addRow_29 : decode cX12_addRow 29 = .ok (.aload_n 0, 1) := by decide +kernel
theorem dX12_addRow_30 : decode cX12_addRow 30 = .ok (.getfield 211, 3) := by decide +kernel
theorem dX12_addRow_33 : decode cX12_addRow 33 = .ok (.iload_n 3, 1) := by decide +kernel
theorem dX12_addRow_34 : decode cX12_addRow 34 = .ok (.lconst 0, 1) := by decide +kernel
theorem dX12_addRow_35 : decode cX12_addRow 35 = .ok (.lastore, 1) := by decide +kernel
theorem dX12_addRow_36 : decode cX12_addRow 36 = .ok (.aload_n 0, 1) := by decide +kernel
theorem dX12_addRow_37 : decode cX12_addRow 37 = .ok (.getfield 214, 3) := by decide +kernel
theorem dX12_addRow_40 : decode cX12_addRow 40 = .ok (.iload_n 3, 1) := by decide +kernel
theorem dX12_addRow_41 : decode cX12_addRow 41 = .ok (.iconst 0, 1) := by decide +kernel
theorem dX12_addRow_42 : decode cX12_addRow 42 = .ok (.iastore, 1) := by decide +kernel
theorem dX12_addRow_43 : decode cX12_addRow 43 = .ok (.aload_n 0, 1) := by decide +kernel
theorem dX12_addRow_44 : decode cX12_addRow 44 = .ok (.getfield 217, 3) := by decide +kernel
theorem dX12_addRow_47 : decode cX12_addRow 47 = .ok (.iload_n 3, 1) := by decide +kernel
theorem dX12_addRow_48 : decode cX12_addRow 48 = .ok (.iconst 0, 1) := by decide +kernel
theorem dX12_addRow_49 : decode cX12_addRow 49 = .ok (.iastore, 1) := by decide +kernel
theorem dX12_addRow_50 : decode cX12_addRow 50 = .ok (.aload_n 0, 1) := by decide +kernel
theorem dX12_addRow_51 : decode cX12_addRow 51 = .ok (.getfield 220, 3) := by decide +kernel
theorem dX12_addRow_54 : decode cX12_addRow 54 = .ok (.iload_n 3, 1) := by decide +kernel
theorem dX12_addRow_55 : decode cX12_addRow 55 = .ok (.iconst (-1), 1) := by decide +kernel
theorem dX12_addRow_56 : decode cX12_addRow 56 = .ok (.iastore, 1) := by decide +kernel
theorem dX12_addRow_57 : decode cX12_addRow 57 = .ok (.aload_n 0, 1) := by decide +kernel
theorem dX12_addRow_58 : decode cX12_addRow 58 = .ok (.getfield 223, 3) := by decide +kernel
theorem dX12_addRow_61 : decode cX12_addRow 61 = .ok (.iload_n 3, 1) := by decide +kernel
theorem dX12_addRow_62 : decode cX12_addRow 62 = .ok (.iconst 1, 1) := by decide +kernel
theorem dX12_addRow_63 : decode cX12_addRow 63 = .ok (.bastore, 1) := by decide +kernel
theorem dX12_addRow_64 : decode cX12_addRow 64 = .ok (.iload_n 3, 1) := by decide +kernel
theorem dX12_addRow_65 : decode cX12_addRow 65 = .ok (.ireturn, 1) := by decide +kernel
theorem dX12_addUnknown_0 : decode cX12_addUnknown 0 = .ok (.aload_n 0, 1) := by decide +kernel
theorem dX12_addUnknown_1 : decode cX12_addUnknown 1 = .ok (.getfield 226, 3) := by decide +kernel
theorem dX12_addUnknown_4 : decode cX12_addUnknown 4 = .ok (.aload_n 0, 1) := by decide +kernel
theorem dX12_addUnknown_5 : decode cX12_addUnknown 5 = .ok (.getfield 599, 3) := by decide +kernel
theorem dX12_addUnknown_8 : decode cX12_addUnknown 8 = .ok (.iload_n 1, 1) := by decide +kernel
theorem dX12_addUnknown_9 : decode cX12_addUnknown 9 = .ok (.iastore, 1) := by decide +kernel
theorem dX12_addUnknown_10 : decode cX12_addUnknown 10 = .ok (.aload_n 0, 1) := by decide +kernel
theorem dX12_addUnknown_11 : decode cX12_addUnknown 11 = .ok (.getfield 229, 3) := by decide +kernel
theorem dX12_addUnknown_14 : decode cX12_addUnknown 14 = .ok (.aload_n 0, 1) := by decide +kernel
theorem dX12_addUnknown_15 : decode cX12_addUnknown 15 = .ok (.getfield 599, 3) := by decide +kernel
theorem dX12_addUnknown_18 : decode cX12_addUnknown 18 = .ok (.aload_n 0, 1) := by decide +kernel
theorem dX12_addUnknown_19 : decode cX12_addUnknown 19 = .ok (.getfield 602, 3) := by decide +kernel
theorem dX12_addUnknown_22 : decode cX12_addUnknown 22 = .ok (.iastore, 1) := by decide +kernel
theorem dX12_addUnknown_23 : decode cX12_addUnknown 23 = .ok (.aload_n 0, 1) := by decide +kernel
theorem dX12_addUnknown_24 : decode cX12_addUnknown 24 = .ok (.getfield 232, 3) := by decide +kernel
theorem dX12_addUnknown_27 : decode cX12_addUnknown 27 = .ok (.aload_n 0, 1) := by decide +kernel
theorem dX12_addUnknown_28 : decode cX12_addUnknown 28 = .ok (.getfield 599, 3) := by decide +kernel
theorem dX12_addUnknown_31 : decode cX12_addUnknown 31 = .ok (.iload_n 3, 1) := by decide +kernel
theorem dX12_addUnknown_32 : decode cX12_addUnknown 32 = .ok (.iload_n 2, 1) := by decide +kernel
theorem dX12_addUnknown_33 : decode cX12_addUnknown 33 = .ok (.isub, 1) := by decide +kernel
theorem dX12_addUnknown_34 : decode cX12_addUnknown 34 = .ok (.iastore, 1) := by decide +kernel
theorem dX12_addUnknown_35 : decode cX12_addUnknown 35 = .ok (.aload_n 0, 1) := by decide +kernel
theorem dX12_addUnknown_36 : decode cX12_addUnknown 36 = .ok (.dup, 1) := by decide +kernel
theorem dX12_addUnknown_37 : decode cX12_addUnknown 37 = .ok (.getfield 599, 3) := by decide +kernel
theorem dX12_addUnknown_40 : decode cX12_addUnknown 40 = .ok (.iconst 1, 1) := by decide +kernel
theorem dX12_addUnknown_41 : decode cX12_addUnknown 41 = .ok (.iadd, 1) := by decide +kernel
theorem dX12_addUnknown_42 : decode cX12_addUnknown 42 = .ok (.putfield 599, 3) := by decide +kernel
theorem dX12_addUnknown_45 : decode cX12_addUnknown 45 = .ok (.iload_n 2, 1) := by decide +kernel
theorem dX12_addUnknown_46 : decode cX12_addUnknown 46 = .ok (.istore 4, 2) := by decide +kernel
theorem dX12_addUnknown_48 : decode cX12_addUnknown 48 = .ok (.iload 4, 2) := by decide +kernel
theorem dX12_addUnknown_50 : decode cX12_addUnknown 50 = .ok (.iload_n 3, 1) := by decide +kernel
theorem dX12_addUnknown_51 : decode cX12_addUnknown 51 = .ok (.if_icmp .ge 35, 3) := by decide +kernel
theorem dX12_addUnknown_54 : decode cX12_addUnknown 54 = .ok (.aload_n 0, 1) := by decide +kernel
theorem dX12_addUnknown_55 : decode cX12_addUnknown 55 = .ok (.getfield 235, 3) := by decide +kernel
theorem dX12_addUnknown_58 : decode cX12_addUnknown 58 = .ok (.aload_n 0, 1) := by decide +kernel
theorem dX12_addUnknown_59 : decode cX12_addUnknown 59 = .ok (.getfield 602, 3) := by decide +kernel
theorem dX12_addUnknown_62 : decode cX12_addUnknown 62 = .ok (.aload_n 0, 1) := by decide +kernel
theorem dX12_addUnknown_63 : decode cX12_addUnknown 63 = .ok (.getfield 7, 3) := by decide +kernel
theorem dX12_addUnknown_66 : decode cX12_addUnknown 66 = .ok (.iload 4, 2) := by decide +kernel
theorem dX12_addUnknown_68 : decode cX12_addUnknown 68 = .ok (.iaload, 1) := by decide +kernel
theorem dX12_addUnknown_69 : decode cX12_addUnknown 69 = .ok (.iastore, 1) := by decide +kernel
theorem dX12_addUnknown_70 : decode cX12_addUnknown 70 = .ok (.aload_n 0, 1) := by decide +kernel
theorem dX12_addUnknown_71 : decode cX12_addUnknown 71 = .ok (.dup, 1) := by decide +kernel
theorem dX12_addUnknown_72 : decode cX12_addUnknown 72 = .ok (.getfield 602, 3) := by decide +kernel
theorem dX12_addUnknown_75 : decode cX12_addUnknown 75 = .ok (.iconst 1, 1) := by decide +kernel
theorem dX12_addUnknown_76 : decode cX12_addUnknown 76 = .ok (.iadd, 1) := by decide +kernel
theorem dX12_addUnknown_77 : decode cX12_addUnknown 77 = .ok (.putfield 602, 3) := by decide +kernel
theorem dX12_addUnknown_80 : decode cX12_addUnknown 80 = .ok (.iinc 4 1, 3) := by decide +kernel
theorem dX12_addUnknown_83 : decode cX12_addUnknown 83 = .ok (.goto (-35), 3) := by decide +kernel
theorem dX12_addUnknown_86 : decode cX12_addUnknown 86 = .ok (.return_, 1) := by decide +kernel
theorem dX12_byteAt_0 : decode cX12_byteAt 0 = .ok (.iload_n 1, 1) := by decide +kernel
theorem dX12_byteAt_1 : decode cX12_byteAt 1 = .ok (.aload_n 0, 1) := by decide +kernel
theorem dX12_byteAt_2 : decode cX12_byteAt 2 = .ok (.getfield 274, 3) := by decide +kernel
theorem dX12_byteAt_5 : decode cX12_byteAt 5 = .ok (.if_icmp .ge 12, 3) := by decide +kernel
theorem dX12_byteAt_8 : decode cX12_byteAt 8 = .ok (.aload_n 0, 1) := by decide +kernel
theorem dX12_byteAt_9 : decode cX12_byteAt 9 = .ok (.getfield 7, 3) := by decide +kernel
theorem dX12_byteAt_12 : decode cX12_byteAt 12 = .ok (.iload_n 1, 1) := by decide +kernel
theorem dX12_byteAt_13 : decode cX12_byteAt 13 = .ok (.iaload, 1) := by decide +kernel
theorem dX12_byteAt_14 : decode cX12_byteAt 14 = .ok (.goto 4, 3) := by decide +kernel
theorem dX12_byteAt_17 : decode cX12_byteAt 17 = .ok (.iconst (-1), 1) := by decide +kernel
theorem dX12_byteAt_18 : decode cX12_byteAt 18 = .ok (.ireturn, 1) := by decide +kernel
theorem dX12_isBlank_0 : decode cX12_isBlank 0 = .ok (.iload_n 0, 1) := by decide +kernel
theorem dX12_isBlank_1 : decode cX12_isBlank 1 = .ok (.bipush 9, 2) := by decide +kernel
theorem dX12_isBlank_3 : decode cX12_isBlank 3 = .ok (.if_icmp .eq 21, 3) := by decide +kernel
theorem dX12_isBlank_6 : decode cX12_isBlank 6 = .ok (.iload_n 0, 1) := by decide +kernel
theorem dX12_isBlank_7 : decode cX12_isBlank 7 = .ok (.bipush 10, 2) := by decide +kernel
theorem dX12_isBlank_9 : decode cX12_isBlank 9 = .ok (.if_icmp .eq 15, 3) := by decide +kernel
theorem dX12_isBlank_12 : decode cX12_isBlank 12 = .ok (.iload_n 0, 1) := by decide +kernel
theorem dX12_isBlank_13 : decode cX12_isBlank 13 = .ok (.bipush 13, 2) := by decide +kernel
theorem dX12_isBlank_15 : decode cX12_isBlank 15 = .ok (.if_icmp .eq 9, 3) := by decide +kernel
theorem dX12_isBlank_18 : decode cX12_isBlank 18 = .ok (.iload_n 0, 1) := by decide +kernel
theorem dX12_isBlank_19 : decode cX12_isBlank 19 = .ok (.bipush 32, 2) := by decide +kernel
theorem dX12_isBlank_21 : decode cX12_isBlank 21 = .ok (.if_icmp .ne 7, 3) := by decide +kernel
theorem dX12_isBlank_24 : decode cX12_isBlank 24 = .ok (.iconst 1, 1) := by decide +kernel
theorem dX12_isBlank_25 : decode cX12_isBlank 25 = .ok (.goto 4, 3) := by decide +kernel
theorem dX12_isBlank_28 : decode cX12_isBlank 28 = .ok (.iconst 0, 1) := by decide +kernel
theorem dX12_isBlank_29 : decode cX12_isBlank 29 = .ok (.ireturn, 1) := by decide +kernel
theorem dX12_behindComment_0 : decode cX12_behindComment 0 = .ok (.aload_n 0, 1) := by decide +kernel
theorem dX12_behindComment_1 : decode cX12_behindComment 1 = .ok (.iload_n 1, 1) := by decide +kernel
theorem dX12_behindComment_2 : decode cX12_behindComment 2 = .ok (.invokevirtual 284, 3) := by decide +kernel
theorem dX12_behindComment_5 : decode cX12_behindComment 5 = .ok (.bipush 47, 2) := by decide +kernel
theorem dX12_behindComment_7 : decode cX12_behindComment 7 = .ok (.if_icmp .eq 5, 3) := by decide +kernel
theorem dX12_behindComment_10 : decode cX12_behindComment 10 = .ok (.iload_n 1, 1) := by decide +kernel
theorem dX12_behindComment_11 : decode cX12_behindComment 11 = .ok (.ireturn, 1) := by decide +kernel
theorem dX12_behindComment_12 : decode cX12_behindComment 12 = .ok (.iload_n 1, 1) := by decide +kernel
theorem dX12_behindComment_13 : decode cX12_behindComment 13 = .ok (.iconst 2, 1) := by decide +kernel
theorem dX12_behindComment_14 : decode cX12_behindComment 14 = .ok (.iadd, 1) := by decide +kernel
theorem dX12_behindComment_15 : decode cX12_behindComment 15 = .ok (.istore_n 2, 1) := by decide +kernel
theorem dX12_behindComment_16 : decode cX12_behindComment 16 = .ok (.aload_n 0, 1) := by decide +kernel
theorem dX12_behindComment_17 : decode cX12_behindComment 17 = .ok (.iload_n 1, 1) := by decide +kernel
theorem dX12_behindComment_18 : decode cX12_behindComment 18 = .ok (.iconst 1, 1) := by decide +kernel
theorem dX12_behindComment_19 : decode cX12_behindComment 19 = .ok (.iadd, 1) := by decide +kernel
theorem dX12_behindComment_20 : decode cX12_behindComment 20 = .ok (.invokevirtual 284, 3) := by decide +kernel
theorem dX12_behindComment_23 : decode cX12_behindComment 23 = .ok (.bipush 47, 2) := by decide +kernel
theorem dX12_behindComment_25 : decode cX12_behindComment 25 = .ok (.if_icmp .ne 29, 3) := by decide +kernel
theorem dX12_behindComment_28 : decode cX12_behindComment 28 = .ok (.iload_n 2, 1) := by decide +kernel
theorem dX12_behindComment_29 : decode cX12_behindComment 29 = .ok (.aload_n 0, 1) := by decide +kernel
theorem dX12_behindComment_30 : decode cX12_behindComment 30 = .ok (.getfield 274, 3) := by decide +kernel
theorem dX12_behindComment_33 : decode cX12_behindComment 33 = .ok (.if_icmp .ge 19, 3) := by decide +kernel
theorem dX12_behindComment_36 : decode cX12_behindComment 36 = .ok (.aload_n 0, 1) := by decide +kernel
theorem dX12_behindComment_37 : decode cX12_behindComment 37 = .ok (.iload_n 2, 1) := by decide +kernel
theorem dX12_behindComment_38 : decode cX12_behindComment 38 = .ok (.invokevirtual 284, 3) := by decide +kernel
theorem dX12_behindComment_41 : decode cX12_behindComment 41 = .ok (.bipush 10, 2) := by decide +kernel
theorem dX12_behindComment_43 : decode cX12_behindComment 43 = .ok (.if_icmp .eq 9, 3) := by decide +kernel
theorem dX12_behindComment_46 : decode cX12_behindComment 46 = .ok (.iinc 2 1, 3) := by decide +kernel
theorem dX12_behindComment_49 : decode cX12_behindComment 49 = .ok (.goto (-21), 3) := by decide +kernel
theorem dX12_behindComment_52 : decode cX12_behindComment 52 = .ok (.iload_n 2, 1) := by decide +kernel
theorem dX12_behindComment_53 : decode cX12_behindComment 53 = .ok (.ireturn, 1) := by decide +kernel
theorem dX12_behindComment_54 : decode cX12_behindComment 54 = .ok (.aload_n 0, 1) := by decide +kernel
theorem dX12_behindComment_55 : decode cX12_behindComment 55 = .ok (.iload_n 1, 1) := by decide +kernel
theorem dX12_behindComment_56 : decode cX12_behindComment 56 = .ok (.iconst 1, 1) := by decide +kernel
theorem dX12_behindComment_57 : decode cX12_behindComment 57 = .ok (.iadd, 1) := by decide +kernel
theorem dX12_behindComment_58 : decode cX12_behindComment 58 = .ok (.invokevirtual 284, 3) := by decide +kernel
theorem dX12_behindComment_61 : decode cX12_behindComment 61 = .ok (.bipush 42, 2) := by decide +kernel
theorem dX12_behindComment_63 : decode cX12_behindComment 63 = .ok (.if_icmp .eq 5, 3) := by decide +kernel
theorem dX12_behindComment_66 : decode cX12_behindComment 66 = .ok (.iload_n 1, 1) := by decide +kernel
theorem dX12_behindComment_67 : decode cX12_behindComment 67 = .ok (.ireturn, 1) := by decide +kernel
theorem dX12_behindComment_68 : decode cX12_behindComment 68 = .ok (.iload_n 2, 1) := by decide +kernel
theorem dX12_behindComment_69 : decode cX12_behindComment 69 = .ok (.iconst 1, 1) := by decide +kernel
theorem dX12_behindComment_70 : decode cX12_behindComment 70 = .ok (.iadd, 1) := by decide +kernel
theorem dX12_behindComment_71 : decode cX12_behindComment 71 = .ok (.aload_n 0, 1) := by decide +kernel
theorem dX12_behindComment_72 : decode cX12_behindComment 72 = .ok (.getfield 274, 3) := by decide +kernel
theorem dX12_behindComment_75 : decode cX12_behindComment 75 = .ok (.if_icmp .ge 31, 3) := by decide +kernel
theorem dX12_behindComment_78 : decode cX12_behindComment 78 = .ok (.aload_n 0, 1) := by decide +kernel
theorem dX12_behindComment_79 : decode cX12_behindComment 79 = .ok (.iload_n 2, 1) := by decide +kernel
theorem dX12_behindComment_80 : decode cX12_behindComment 80 = .ok (.invokevirtual 284, 3) := by decide +kernel
theorem dX12_behindComment_83 : decode cX12_behindComment 83 = .ok (.bipush 42, 2) := by decide +kernel
theorem dX12_behindComment_85 : decode cX12_behindComment 85 = .ok (.if_icmp .ne 15, 3) := by decide +kernel
theorem dX12_behindComment_88 : decode cX12_behindComment 88 = .ok (.aload_n 0, 1) := by decide +kernel
theorem dX12_behindComment_89 : decode cX12_behindComment 89 = .ok (.iload_n 2, 1) := by decide +kernel
theorem dX12_behindComment_90 : decode cX12_behindComment 90 = .ok (.iconst 1, 1) := by decide +kernel
theorem dX12_behindComment_91 : decode cX12_behindComment 91 = .ok (.iadd, 1) := by decide +kernel
theorem dX12_behindComment_92 : decode cX12_behindComment 92 = .ok (.invokevirtual 284, 3) := by decide +kernel
theorem dX12_behindComment_95 : decode cX12_behindComment 95 = .ok (.bipush 47, 2) := by decide +kernel
theorem dX12_behindComment_97 : decode cX12_behindComment 97 = .ok (.if_icmp .eq 9, 3) := by decide +kernel
theorem dX12_behindComment_100 : decode cX12_behindComment 100 = .ok (.iinc 2 1, 3) := by decide +kernel
theorem dX12_behindComment_103 : decode cX12_behindComment 103 = .ok (.goto (-35), 3) := by decide +kernel
theorem dX12_behindComment_106 : decode cX12_behindComment 106 = .ok (.iload_n 2, 1) := by decide +kernel
theorem dX12_behindComment_107 : decode cX12_behindComment 107 = .ok (.iconst 1, 1) := by decide +kernel
theorem dX12_behindComment_108 : decode cX12_behindComment 108 = .ok (.iadd, 1) := by decide +kernel
theorem dX12_behindComment_109 : decode cX12_behindComment 109 = .ok (.aload_n 0, 1) := by decide +kernel
theorem dX12_behindComment_110 : decode cX12_behindComment 110 = .ok (.getfield 274, 3) := by decide +kernel
theorem dX12_behindComment_113 : decode cX12_behindComment 113 = .ok (.if_icmp .lt 8, 3) := by decide +kernel
theorem dX12_behindComment_116 : decode cX12_behindComment 116 = .ok (.aload_n 0, 1) := by decide +kernel
theorem dX12_behindComment_117 : decode cX12_behindComment 117 = .ok (.iconst 1, 1) := by decide +kernel
theorem dX12_behindComment_118 : decode cX12_behindComment 118 = .ok (.putfield 288, 3) := by decide +kernel
theorem dX12_behindComment_121 : decode cX12_behindComment 121 = .ok (.iload_n 2, 1) := by decide +kernel
theorem dX12_behindComment_122 : decode cX12_behindComment 122 = .ok (.iconst 1, 1) := by decide +kernel
theorem dX12_behindComment_123 : decode cX12_behindComment 123 = .ok (.iadd, 1) := by decide +kernel
theorem dX12_behindComment_124 : decode cX12_behindComment 124 = .ok (.aload_n 0, 1) := by decide +kernel
theorem dX12_behindComment_125 : decode cX12_behindComment 125 = .ok (.getfield 274, 3) := by decide +kernel
theorem dX12_behindComment_128 : decode cX12_behindComment 128 = .ok (.if_icmp .ge 9, 3) := by decide +kernel
theorem dX12_behindComment_131 : decode cX12_behindComment 131 = .ok (.iload_n 2, 1) := by decide +kernel
theorem dX12_behindComment_132 : decode cX12_behindComment 132 = .ok (.iconst 2, 1) := by decide +kernel
theorem dX12_behindComment_133 : decode cX12_behindComment 133 = .ok (.iadd, 1) := by decide +kernel
theorem dX12_behindComment_134 : decode cX12_behindComment 134 = .ok (.goto 7, 3) := by decide +kernel
theorem dX12_behindComment_137 : decode cX12_behindComment 137 = .ok (.aload_n 0, 1) := by decide +kernel
theorem dX12_behindComment_138 : decode cX12_behindComment 138 = .ok (.getfield 274, 3) := by decide +kernel
theorem dX12_behindComment_141 : decode cX12_behindComment 141 = .ok (.ireturn, 1) := by decide +kernel
theorem dX12_behindBlanks_0 : decode cX12_behindBlanks 0 = .ok (.iload_n 1, 1) := by decide +kernel
theorem dX12_behindBlanks_1 : decode cX12_behindBlanks 1 = .ok (.istore_n 2, 1) := by decide +kernel
theorem dX12_behindBlanks_2 : decode cX12_behindBlanks 2 = .ok (.iconst 1, 1) := by decide +kernel
theorem dX12_behindBlanks_3 : decode cX12_behindBlanks 3 = .ok (.istore_n 3, 1) := by decide +kernel
theorem dX12_behindBlanks_4 : decode cX12_behindBlanks 4 = .ok (.iload_n 3, 1) := by decide +kernel
theorem dX12_behindBlanks_5 : decode cX12_behindBlanks 5 = .ok (.ifCond .eq 45, 3) := by decide +kernel
theorem dX12_behindBlanks_8 : decode cX12_behindBlanks 8 = .ok (.aload_n 0, 1) := by decide +kernel
theorem dX12_behindBlanks_9 : decode cX12_behindBlanks 9 = .ok (.iload_n 2, 1) := by decide +kernel
theorem dX12_behindBlanks_10 : decode cX12_behindBlanks 10 = .ok (.invokevirtual 284, 3) := by decide +kernel
theorem dX12_behindBlanks_13 : decode cX12_behindBlanks 13 = .ok (.invokestatic 292, 3) := by decide +kernel
theorem dX12_behindBlanks_16 : decode cX12_behindBlanks 16 = .ok (.ifCond .eq 9, 3) := by decide +kernel
theorem dX12_behindBlanks_19 : decode cX12_behindBlanks 19 = .ok (.iload_n 2, 1) := by decide +kernel
theorem dX12_behindBlanks_20 : decode cX12_behindBlanks 20 = .ok (.iconst 1, 1) := by decide +kernel
theorem dX12_behindBlanks_21 : decode cX12_behindBlanks 21 = .ok (.iadd, 1) := by decide +kernel
theorem dX12_behindBlanks_22 : decode cX12_behindBlanks 22 = .ok (.goto 8, 3) := by decide +kernel
theorem dX12_behindBlanks_25 : decode cX12_behindBlanks 25 = .ok (.aload_n 0, 1) := by decide +kernel
theorem dX12_behindBlanks_26 : decode cX12_behindBlanks 26 = .ok (.iload_n 2, 1) := by decide +kernel
theorem dX12_behindBlanks_27 : decode cX12_behindBlanks 27 = .ok (.invokevirtual 295, 3) := by decide +kernel
theorem dX12_behindBlanks_30 : decode cX12_behindBlanks 30 = .ok (.istore 4, 2) := by decide +kernel
theorem dX12_behindBlanks_32 : decode cX12_behindBlanks 32 = .ok (.iload 4, 2) := by decide +kernel
theorem dX12_behindBlanks_34 : decode cX12_behindBlanks 34 = .ok (.iload_n 2, 1) := by decide +kernel
theorem dX12_behindBlanks_35 : decode cX12_behindBlanks 35 = .ok (.if_icmp .le 7, 3) := by decide +kernel
theorem dX12_behindBlanks_38 : decode cX12_behindBlanks 38 = .ok (.iconst 1, 1) := by decide +kernel
theorem dX12_behindBlanks_39 : decode cX12_behindBlanks 39 = .ok (.goto 4, 3) := by decide +kernel
theorem dX12_behindBlanks_42 : decode cX12_behindBlanks 42 = .ok (.iconst 0, 1) := by decide +kernel
theorem dX12_behindBlanks_43 : decode cX12_behindBlanks 43 = .ok (.istore_n 3, 1) := by decide +kernel
theorem dX12_behindBlanks_44 : decode cX12_behindBlanks 44 = .ok (.iload 4, 2) := by decide +kernel
theorem dX12_behindBlanks_46 : decode cX12_behindBlanks 46 = .ok (.istore_n 2, 1) := by decide +kernel
theorem dX12_behindBlanks_47 : decode cX12_behindBlanks 47 = .ok (.goto (-43), 3) := by decide +kernel
theorem dX12_behindBlanks_50 : decode cX12_behindBlanks 50 = .ok (.iload_n 2, 1) := by decide +kernel
theorem dX12_behindBlanks_51 : decode cX12_behindBlanks 51 = .ok (.ireturn, 1) := by decide +kernel
theorem dX12_isLetter_0 : decode cX12_isLetter 0 = .ok (.iload_n 0, 1) := by decide +kernel
theorem dX12_isLetter_1 : decode cX12_isLetter 1 = .ok (.bipush 97, 2) := by decide +kernel
theorem dX12_isLetter_3 : decode cX12_isLetter 3 = .ok (.if_icmp .lt 9, 3) := by decide +kernel
theorem dX12_isLetter_6 : decode cX12_isLetter 6 = .ok (.iload_n 0, 1) := by decide +kernel
theorem dX12_isLetter_7 : decode cX12_isLetter 7 = .ok (.bipush 122, 2) := by decide +kernel
theorem dX12_isLetter_9 : decode cX12_isLetter 9 = .ok (.if_icmp .le 15, 3) := by decide +kernel
theorem dX12_isLetter_12 : decode cX12_isLetter 12 = .ok (.iload_n 0, 1) := by decide +kernel
theorem dX12_isLetter_13 : decode cX12_isLetter 13 = .ok (.bipush 65, 2) := by decide +kernel
theorem dX12_isLetter_15 : decode cX12_isLetter 15 = .ok (.if_icmp .lt 13, 3) := by decide +kernel
theorem dX12_isLetter_18 : decode cX12_isLetter 18 = .ok (.iload_n 0, 1) := by decide +kernel
theorem dX12_isLetter_19 : decode cX12_isLetter 19 = .ok (.bipush 90, 2) := by decide +kernel
theorem dX12_isLetter_21 : decode cX12_isLetter 21 = .ok (.if_icmp .gt 7, 3) := by decide +kernel
theorem dX12_isLetter_24 : decode cX12_isLetter 24 = .ok (.iconst 1, 1) := by decide +kernel
theorem dX12_isLetter_25 : decode cX12_isLetter 25 = .ok (.goto 4, 3) := by decide +kernel
theorem dX12_isLetter_28 : decode cX12_isLetter 28 = .ok (.iconst 0, 1) := by decide +kernel
theorem dX12_isLetter_29 : decode cX12_isLetter 29 = .ok (.ireturn, 1) := by decide +kernel
theorem dX12_isDigit_0 : decode cX12_isDigit 0 = .ok (.iload_n 0, 1) := by decide +kernel
theorem dX12_isDigit_1 : decode cX12_isDigit 1 = .ok (.bipush 48, 2) := by decide +kernel
theorem dX12_isDigit_3 : decode cX12_isDigit 3 = .ok (.if_icmp .lt 13, 3) := by decide +kernel
theorem dX12_isDigit_6 : decode cX12_isDigit 6 = .ok (.iload_n 0, 1) := by decide +kernel
theorem dX12_isDigit_7 : decode cX12_isDigit 7 = .ok (.bipush 57, 2) := by decide +kernel
theorem dX12_isDigit_9 : decode cX12_isDigit 9 = .ok (.if_icmp .gt 7, 3) := by decide +kernel
theorem dX12_isDigit_12 : decode cX12_isDigit 12 = .ok (.iconst 1, 1) := by decide +kernel
theorem dX12_isDigit_13 : decode cX12_isDigit 13 = .ok (.goto 4, 3) := by decide +kernel
theorem dX12_isDigit_16 : decode cX12_isDigit 16 = .ok (.iconst 0, 1) := by decide +kernel
theorem dX12_isDigit_17 : decode cX12_isDigit 17 = .ok (.ireturn, 1) := by decide +kernel
theorem dX12_isPart_0 : decode cX12_isPart 0 = .ok (.iload_n 0, 1) := by decide +kernel
theorem dX12_isPart_1 : decode cX12_isPart 1 = .ok (.invokestatic 277, 3) := by decide +kernel
theorem dX12_isPart_4 : decode cX12_isPart 4 = .ok (.ifCond .ne 16, 3) := by decide +kernel
theorem dX12_isPart_7 : decode cX12_isPart 7 = .ok (.iload_n 0, 1) := by decide +kernel
theorem dX12_isPart_8 : decode cX12_isPart 8 = .ok (.invokestatic 281, 3) := by decide +kernel
theorem dX12_isPart_11 : decode cX12_isPart 11 = .ok (.ifCond .ne 9, 3) := by decide +kernel
theorem dX12_isPart_14 : decode cX12_isPart 14 = .ok (.iload_n 0, 1) := by decide +kernel
theorem dX12_isPart_15 : decode cX12_isPart 15 = .ok (.bipush 95, 2) := by decide +kernel
theorem dX12_isPart_17 : decode cX12_isPart 17 = .ok (.if_icmp .ne 7, 3) := by decide +kernel
theorem dX12_isPart_20 : decode cX12_isPart 20 = .ok (.iconst 1, 1) := by decide +kernel
theorem dX12_isPart_21 : decode cX12_isPart 21 = .ok (.goto 4, 3) := by decide +kernel
theorem dX12_isPart_24 : decode cX12_isPart 24 = .ok (.iconst 0, 1) := by decide +kernel
theorem dX12_isPart_25 : decode cX12_isPart 25 = .ok (.ireturn, 1) := by decide +kernel
theorem dX12_sixteenth_0 : decode cX12_sixteenth 0 = .ok (.iload_n 0, 1) := by decide +kernel
theorem dX12_sixteenth_1 : decode cX12_sixteenth 1 = .ok (.invokestatic 281, 3) := by decide +kernel
theorem dX12_sixteenth_4 : decode cX12_sixteenth 4 = .ok (.ifCond .eq 10, 3) := by decide +kernel
theorem dX12_sixteenth_7 : decode cX12_sixteenth 7 = .ok (.iload_n 0, 1) := by decide +kernel
theorem dX12_sixteenth_8 : decode cX12_sixteenth 8 = .ok (.bipush 48, 2) := by decide +kernel
theorem dX12_sixteenth_10 : decode cX12_sixteenth 10 = .ok (.isub, 1) := by decide +kernel
theorem dX12_sixteenth_11 : decode cX12_sixteenth 11 = .ok (.goto 48, 3) := by decide +kernel
theorem dX12_sixteenth_14 : decode cX12_sixteenth 14 = .ok (.iload_n 0, 1) := by decide +kernel
theorem dX12_sixteenth_15 : decode cX12_sixteenth 15 = .ok (.bipush 97, 2) := by decide +kernel
theorem dX12_sixteenth_17 : decode cX12_sixteenth 17 = .ok (.if_icmp .lt 19, 3) := by decide +kernel
theorem dX12_sixteenth_20 : decode cX12_sixteenth 20 = .ok (.iload_n 0, 1) := by decide +kernel
theorem dX12_sixteenth_21 : decode cX12_sixteenth 21 = .ok (.bipush 102, 2) := by decide +kernel
theorem dX12_sixteenth_23 : decode cX12_sixteenth 23 = .ok (.if_icmp .gt 13, 3) := by decide +kernel
theorem dX12_sixteenth_26 : decode cX12_sixteenth 26 = .ok (.iload_n 0, 1) := by decide +kernel
theorem dX12_sixteenth_27 : decode cX12_sixteenth 27 = .ok (.bipush 97, 2) := by decide +kernel
theorem dX12_sixteenth_29 : decode cX12_sixteenth 29 = .ok (.isub, 1) := by decide +kernel
theorem dX12_sixteenth_30 : decode cX12_sixteenth 30 = .ok (.bipush 10, 2) := by decide +kernel
theorem dX12_sixteenth_32 : decode cX12_sixteenth 32 = .ok (.iadd, 1) := by decide +kernel
theorem dX12_sixteenth_33 : decode cX12_sixteenth 33 = .ok (.goto 26, 3) := by decide +kernel
theorem dX12_sixteenth_36 : decode cX12_sixteenth 36 = .ok (.iload_n 0, 1) := by decide +kernel
theorem dX12_sixteenth_37 : decode cX12_sixteenth 37 = .ok (.bipush 65, 2) := by decide +kernel
theorem dX12_sixteenth_39 : decode cX12_sixteenth 39 = .ok (.if_icmp .lt 19, 3) := by decide +kernel
theorem dX12_sixteenth_42 : decode cX12_sixteenth 42 = .ok (.iload_n 0, 1) := by decide +kernel
theorem dX12_sixteenth_43 : decode cX12_sixteenth 43 = .ok (.bipush 70, 2) := by decide +kernel
theorem dX12_sixteenth_45 : decode cX12_sixteenth 45 = .ok (.if_icmp .gt 13, 3) := by decide +kernel
theorem dX12_sixteenth_48 : decode cX12_sixteenth 48 = .ok (.iload_n 0, 1) := by decide +kernel
theorem dX12_sixteenth_49 : decode cX12_sixteenth 49 = .ok (.bipush 65, 2) := by decide +kernel
theorem dX12_sixteenth_51 : decode cX12_sixteenth 51 = .ok (.isub, 1) := by decide +kernel
theorem dX12_sixteenth_52 : decode cX12_sixteenth 52 = .ok (.bipush 10, 2) := by decide +kernel
theorem dX12_sixteenth_54 : decode cX12_sixteenth 54 = .ok (.iadd, 1) := by decide +kernel
theorem dX12_sixteenth_55 : decode cX12_sixteenth 55 = .ok (.goto 4, 3) := by decide +kernel
theorem dX12_sixteenth_58 : decode cX12_sixteenth 58 = .ok (.iconst (-1), 1) := by decide +kernel
theorem dX12_sixteenth_59 : decode cX12_sixteenth 59 = .ok (.ireturn, 1) := by decide +kernel
theorem dX12_readNumber_0 : decode cX12_readNumber 0 = .ok (.aload_n 0, 1) := by decide +kernel
theorem dX12_readNumber_1 : decode cX12_readNumber 1 = .ok (.iconst 2, 1) := by decide +kernel
theorem dX12_readNumber_2 : decode cX12_readNumber 2 = .ok (.putfield 298, 3) := by decide +kernel
theorem dX12_readNumber_5 : decode cX12_readNumber 5 = .ok (.aload_n 0, 1) := by decide +kernel
theorem dX12_readNumber_6 : decode cX12_readNumber 6 = .ok (.lconst 0, 1) := by decide +kernel
theorem dX12_readNumber_7 : decode cX12_readNumber 7 = .ok (.putfield 301, 3) := by decide +kernel
theorem dX12_readNumber_10 : decode cX12_readNumber 10 = .ok (.aload_n 0, 1) := by decide +kernel
theorem dX12_readNumber_11 : decode cX12_readNumber 11 = .ok (.getfield 305, 3) := by decide +kernel
theorem dX12_readNumber_14 : decode cX12_readNumber 14 = .ok (.istore_n 1, 1) := by decide +kernel
theorem dX12_readNumber_15 : decode cX12_readNumber 15 = .ok (.aload_n 0, 1) := by decide +kernel
theorem dX12_readNumber_16 : decode cX12_readNumber 16 = .ok (.iload_n 1, 1) := by decide +kernel
theorem dX12_readNumber_17 : decode cX12_readNumber 17 = .ok (.invokevirtual 284, 3) := by decide +kernel
theorem dX12_readNumber_20 : decode cX12_readNumber 20 = .ok (.bipush 48, 2) := by decide +kernel
theorem dX12_readNumber_22 : decode cX12_readNumber 22 = .ok (.if_icmp .ne 19, 3) := by decide +kernel
theorem dX12_readNumber_25 : decode cX12_readNumber 25 = .ok (.aload_n 0, 1) := by decide +kernel
theorem dX12_readNumber_26 : decode cX12_readNumber 26 = .ok (.iload_n 1, 1) := by decide +kernel
theorem dX12_readNumber_27 : decode cX12_readNumber 27 = .ok (.iconst 1, 1) := by decide +kernel
theorem dX12_readNumber_28 : decode cX12_readNumber 28 = .ok (.iadd, 1) := by decide +kernel
theorem dX12_readNumber_29 : decode cX12_readNumber 29 = .ok (.invokevirtual 284, 3) := by decide +kernel
theorem dX12_readNumber_32 : decode cX12_readNumber 32 = .ok (.bipush 120, 2) := by decide +kernel
theorem dX12_readNumber_34 : decode cX12_readNumber 34 = .ok (.if_icmp .ne 7, 3) := by decide +kernel
theorem dX12_readNumber_37 : decode cX12_readNumber 37 = .ok (.iconst 1, 1) := by decide +kernel
theorem dX12_readNumber_38 : decode cX12_readNumber 38 = .ok (.goto 4, 3) := by decide +kernel
theorem dX12_readNumber_41 : decode cX12_readNumber 41 = .ok (.iconst 0, 1) := by decide +kernel
theorem dX12_readNumber_42 : decode cX12_readNumber 42 = .ok (.istore_n 2, 1) := by decide +kernel
theorem dX12_readNumber_43 : decode cX12_readNumber 43 = .ok (.iload_n 2, 1) := by decide +kernel
theorem dX12_readNumber_44 : decode cX12_readNumber 44 = .ok (.ifCond .eq 6, 3) := by decide +kernel
theorem dX12_readNumber_47 : decode cX12_readNumber 47 = .ok (.iinc 1 2, 3) := by decide +kernel
theorem dX12_readNumber_50 : decode cX12_readNumber 50 = .ok (.iload_n 1, 1) := by decide +kernel
theorem dX12_readNumber_51 : decode cX12_readNumber 51 = .ok (.istore_n 3, 1) := by decide +kernel
theorem dX12_readNumber_52 : decode cX12_readNumber 52 = .ok (.iload_n 2, 1) := by decide +kernel
theorem dX12_readNumber_53 : decode cX12_readNumber 53 = .ok (.ifCond .eq 17, 3) := by decide +kernel
theorem dX12_readNumber_56 : decode cX12_readNumber 56 = .ok (.aload_n 0, 1) := by decide +kernel
theorem dX12_readNumber_57 : decode cX12_readNumber 57 = .ok (.iload_n 1, 1) := by decide +kernel
theorem dX12_readNumber_58 : decode cX12_readNumber 58 = .ok (.invokevirtual 284, 3) := by decide +kernel
theorem dX12_readNumber_61 : decode cX12_readNumber 61 = .ok (.invokestatic 308, 3) := by decide +kernel
theorem dX12_readNumber_64 : decode cX12_readNumber 64 = .ok (.ifCond .lt 65, 3) := by decide +kernel
theorem dX12_readNumber_67 : decode cX12_readNumber 67 = .ok (.goto 14, 3) := by decide +kernel
theorem dX12_readNumber_70 : decode cX12_readNumber 70 = .ok (.aload_n 0, 1) := by decide +kernel
theorem dX12_readNumber_71 : decode cX12_readNumber 71 = .ok (.iload_n 1, 1) := by decide +kernel
theorem dX12_readNumber_72 : decode cX12_readNumber 72 = .ok (.invokevirtual 284, 3) := by decide +kernel
theorem dX12_readNumber_75 : decode cX12_readNumber 75 = .ok (.invokestatic 281, 3) := by decide +kernel
theorem dX12_readNumber_78 : decode cX12_readNumber 78 = .ok (.ifCond .eq 51, 3) := by decide +kernel
theorem dX12_readNumber_81 : decode cX12_readNumber 81 = .ok (.aload_n 0, 1) := by decide +kernel
theorem dX12_readNumber_82 : decode cX12_readNumber 82 = .ok (.getfield 301, 3) := by decide +kernel
theorem dX12_readNumber_85 : decode cX12_readNumber 85 = .ok (.ldc2_w 311, 3) := by decide +kernel
theorem dX12_readNumber_88 : decode cX12_readNumber 88 = .ok (.lcmp, 1) := by decide +kernel
theorem dX12_readNumber_89 : decode cX12_readNumber 89 = .ok (.ifCond .ge 34, 3) := by decide +kernel
theorem dX12_readNumber_92 : decode cX12_readNumber 92 = .ok (.aload_n 0, 1) := by decide +kernel
theorem dX12_readNumber_93 : decode cX12_readNumber 93 = .ok (.aload_n 0, 1) := by decide +kernel
theorem dX12_readNumber_94 : decode cX12_readNumber 94 = .ok (.getfield 301, 3) := by decide +kernel
theorem dX12_readNumber_97 : decode cX12_readNumber 97 = .ok (.iload_n 2, 1) := by decide +kernel
theorem dX12_readNumber_98 : decode cX12_readNumber 98 = .ok (.ifCond .eq 8, 3) := by decide +kernel
theorem dX12_readNumber_101 : decode cX12_readNumber 101 = .ok (.bipush 16, 2) := by decide +kernel
theorem dX12_readNumber_103 : decode cX12_readNumber 103 = .ok (.goto 5, 3) := by decide +kernel
theorem dX12_readNumber_106 : decode cX12_readNumber 106 = .ok (.bipush 10, 2) := by decide +kernel
theorem dX12_readNumber_108 : decode cX12_readNumber 108 = .ok (.i2l, 1) := by decide +kernel
theorem dX12_readNumber_109 : decode cX12_readNumber 109 = .ok (.lmul, 1) := by decide +kernel
theorem dX12_readNumber_110 : decode cX12_readNumber 110 = .ok (.aload_n 0, 1) := by decide +kernel
theorem dX12_readNumber_111 : decode cX12_readNumber 111 = .ok (.iload_n 1, 1) := by decide +kernel
theorem dX12_readNumber_112 : decode cX12_readNumber 112 = .ok (.invokevirtual 284, 3) := by decide +kernel
theorem dX12_readNumber_115 : decode cX12_readNumber 115 = .ok (.invokestatic 308, 3) := by decide +kernel
theorem dX12_readNumber_118 : decode cX12_readNumber 118 = .ok (.i2l, 1) := by decide +kernel
theorem dX12_readNumber_119 : decode cX12_readNumber 119 = .ok (.ladd, 1) := by decide +kernel
theorem dX12_readNumber_120 : decode cX12_readNumber 120 = .ok (.putfield 301, 3) := by decide +kernel
theorem dX12_readNumber_123 : decode cX12_readNumber 123 = .ok (.iinc 1 1, 3) := by decide +kernel
theorem dX12_readNumber_126 : decode cX12_readNumber 126 = .ok (.goto (-74), 3) := by decide +kernel
theorem dX12_readNumber_129 : decode cX12_readNumber 129 = .ok (.iload_n 1, 1) := by decide +kernel
theorem dX12_readNumber_130 : decode cX12_readNumber 130 = .ok (.iload_n 3, 1) := by decide +kernel
theorem dX12_readNumber_131 : decode cX12_readNumber 131 = .ok (.if_icmp .eq 41, 3) := by decide +kernel
theorem dX12_readNumber_134 : decode cX12_readNumber 134 = .ok (.aload_n 0, 1) := by decide +kernel
theorem dX12_readNumber_135 : decode cX12_readNumber 135 = .ok (.iload_n 1, 1) := by decide +kernel
theorem dX12_readNumber_136 : decode cX12_readNumber 136 = .ok (.invokevirtual 284, 3) := by decide +kernel
theorem dX12_readNumber_139 : decode cX12_readNumber 139 = .ok (.invokestatic 313, 3) := by decide +kernel
theorem dX12_readNumber_142 : decode cX12_readNumber 142 = .ok (.ifCond .ne 30, 3) := by decide +kernel
theorem dX12_readNumber_145 : decode cX12_readNumber 145 = .ok (.iload_n 2, 1) := by decide +kernel
theorem dX12_readNumber_146 : decode cX12_readNumber 146 = .ok (.ifCond .ne 31, 3) := by decide +kernel
theorem dX12_readNumber_149 : decode cX12_readNumber 149 = .ok (.aload_n 0, 1) := by decide +kernel
theorem dX12_readNumber_150 : decode cX12_readNumber 150 = .ok (.aload_n 0, 1) := by decide +kernel
theorem dX12_readNumber_151 : decode cX12_readNumber 151 = .ok (.getfield 305, 3) := by decide +kernel
theorem dX12_readNumber_154 : decode cX12_readNumber 154 = .ok (.invokevirtual 284, 3) := by decide +kernel
theorem dX12_readNumber_157 : decode cX12_readNumber 157 = .ok (.bipush 48, 2) := by decide +kernel
theorem dX12_readNumber_159 : decode cX12_readNumber 159 = .ok (.if_icmp .ne 18, 3) := by decide +kernel
theorem dX12_readNumber_162 : decode cX12_readNumber 162 = .ok (.iload_n 1, 1) := by decide +kernel
theorem dX12_readNumber_163 : decode cX12_readNumber 163 = .ok (.aload_n 0, 1) := by decide +kernel
theorem dX12_readNumber_164 : decode cX12_readNumber 164 = .ok (.getfield 305, 3) := by decide +kernel
theorem dX12_readNumber_167 : decode cX12_readNumber 167 = .ok (.iconst 1, 1) := by decide +kernel
theorem dX12_readNumber_168 : decode cX12_readNumber 168 = .ok (.iadd, 1) := by decide +kernel
theorem dX12_readNumber_169 : decode cX12_readNumber 169 = .ok (.if_icmp .le 8, 3) := by decide +kernel
theorem dX12_readNumber_172 : decode cX12_readNumber 172 = .ok (.aload_n 0, 1) := by decide +kernel
theorem dX12_readNumber_173 : decode cX12_readNumber 173 = .ok (.iconst 5, 1) := by decide +kernel
theorem dX12_readNumber_174 : decode cX12_readNumber 174 = .ok (.putfield 298, 3) := by decide +kernel
theorem dX12_readNumber_177 : decode cX12_readNumber 177 = .ok (.aload_n 0, 1) := by decide +kernel
theorem dX12_readNumber_178 : decode cX12_readNumber 178 = .ok (.iload_n 1, 1) := by decide +kernel
theorem dX12_readNumber_179 : decode cX12_readNumber 179 = .ok (.putfield 316, 3) := by decide +kernel
theorem dX12_readNumber_182 : decode cX12_readNumber 182 = .ok (.return_, 1) := by decide +kernel
theorem dX12_readText_0 : decode cX12_readText 0 = .ok (.aload_n 0, 1) := by decide +kernel
theorem dX12_readText_1 : decode cX12_readText 1 = .ok (.getfield 305, 3) := by decide +kernel
theorem dX12_readText_4 : decode cX12_readText 4 = .ok (.iconst 1, 1) := by decide +kernel
theorem dX12_readText_5 : decode cX12_readText 5 = .ok (.iadd, 1) := by decide +kernel
theorem dX12_readText_6 : decode cX12_readText 6 = .ok (.istore_n 1, 1) := by decide +kernel
theorem dX12_readText_7 : decode cX12_readText 7 = .ok (.aload_n 0, 1) := by decide +kernel
theorem dX12_readText_8 : decode cX12_readText 8 = .ok (.iload_n 1, 1) := by decide +kernel
theorem dX12_readText_9 : decode cX12_readText 9 = .ok (.invokevirtual 284, 3) := by decide +kernel
theorem dX12_readText_12 : decode cX12_readText 12 = .ok (.bipush 32, 2) := by decide +kernel
theorem dX12_readText_14 : decode cX12_readText 14 = .ok (.if_icmp .lt 39, 3) := by decide +kernel
theorem dX12_readText_17 : decode cX12_readText 17 = .ok (.aload_n 0, 1) := by decide +kernel
theorem dX12_readText_18 : decode cX12_readText 18 = .ok (.iload_n 1, 1) := by decide +kernel
theorem dX12_readText_19 : decode cX12_readText 19 = .ok (.invokevirtual 284, 3) := by decide +kernel
theorem dX12_readText_22 : decode cX12_readText 22 = .ok (.bipush 126, 2) := by decide +kernel
theorem dX12_readText_24 : decode cX12_readText 24 = .ok (.if_icmp .gt 29, 3) := by decide +kernel
theorem dX12_readText_27 : decode cX12_readText 27 = .ok (.aload_n 0, 1) := by decide +kernel
theorem dX12_readText_28 : decode cX12_readText 28 = .ok (.iload_n 1, 1) := by decide +kernel
theorem dX12_readText_29 : decode cX12_readText 29 = .ok (.invokevirtual 284, 3) := by decide +kernel
theorem dX12_readText_32 : decode cX12_readText 32 = .ok (.bipush 34, 2) := by decide +kernel
theorem dX12_readText_34 : decode cX12_readText 34 = .ok (.if_icmp .eq 19, 3) := by decide +kernel
theorem dX12_readText_37 : decode cX12_readText 37 = .ok (.aload_n 0, 1) := by decide +kernel
theorem dX12_readText_38 : decode cX12_readText 38 = .ok (.iload_n 1, 1) := by decide +kernel
theorem dX12_readText_39 : decode cX12_readText 39 = .ok (.invokevirtual 284, 3) := by decide +kernel
theorem dX12_readText_42 : decode cX12_readText 42 = .ok (.bipush 92, 2) := by decide +kernel
theorem dX12_readText_44 : decode cX12_readText 44 = .ok (.if_icmp .eq 9, 3) := by decide +kernel
theorem dX12_readText_47 : decode cX12_readText 47 = .ok (.iinc 1 1, 3) := by decide +kernel
theorem dX12_readText_50 : decode cX12_readText 50 = .ok (.goto (-43), 3) := by decide +kernel
theorem dX12_readText_53 : decode cX12_readText 53 = .ok (.aload_n 0, 1) := by decide +kernel
theorem dX12_readText_54 : decode cX12_readText 54 = .ok (.aload_n 0, 1) := by decide +kernel
theorem dX12_readText_55 : decode cX12_readText 55 = .ok (.iload_n 1, 1) := by decide +kernel
theorem dX12_readText_56 : decode cX12_readText 56 = .ok (.invokevirtual 284, 3) := by decide +kernel
theorem dX12_readText_59 : decode cX12_readText 59 = .ok (.bipush 34, 2) := by decide +kernel
theorem dX12_readText_61 : decode cX12_readText 61 = .ok (.if_icmp .ne 7, 3) := by decide +kernel
theorem dX12_readText_64 : decode cX12_readText 64 = .ok (.iconst 3, 1) := by decide +kernel
theorem dX12_readText_65 : decode cX12_readText 65 = .ok (.goto 4, 3) := by decide +kernel
theorem dX12_readText_68 : decode cX12_readText 68 = .ok (.iconst 5, 1) := by decide +kernel
theorem dX12_readText_69 : decode cX12_readText 69 = .ok (.putfield 298, 3) := by decide +kernel
theorem dX12_readText_72 : decode cX12_readText 72 = .ok (.aload_n 0, 1) := by decide +kernel
theorem dX12_readText_73 : decode cX12_readText 73 = .ok (.iload_n 1, 1) := by decide +kernel
theorem dX12_readText_74 : decode cX12_readText 74 = .ok (.iconst 1, 1) := by decide +kernel
theorem dX12_readText_75 : decode cX12_readText 75 = .ok (.iadd, 1) := by decide +kernel
theorem dX12_readText_76 : decode cX12_readText 76 = .ok (.putfield 316, 3) := by decide +kernel
theorem dX12_readText_79 : decode cX12_readText 79 = .ok (.return_, 1) := by decide +kernel
theorem dX12_look_0 : decode cX12_look 0 = .ok (.aload_n 0, 1) := by decide +kernel
theorem dX12_look_1 : decode cX12_look 1 = .ok (.aload_n 0, 1) := by decide +kernel
theorem dX12_look_2 : decode cX12_look 2 = .ok (.iload_n 1, 1) := by decide +kernel
theorem dX12_look_3 : decode cX12_look 3 = .ok (.invokevirtual 319, 3) := by decide +kernel
theorem dX12_look_6 : decode cX12_look 6 = .ok (.putfield 305, 3) := by decide +kernel
theorem dX12_look_9 : decode cX12_look 9 = .ok (.aload_n 0, 1) := by decide +kernel
theorem dX12_look_10 : decode cX12_look 10 = .ok (.aload_n 0, 1) := by decide +kernel
theorem dX12_look_11 : decode cX12_look 11 = .ok (.getfield 305, 3) := by decide +kernel
theorem dX12_look_14 : decode cX12_look 14 = .ok (.invokevirtual 284, 3) := by decide +kernel
theorem dX12_look_17 : decode cX12_look 17 = .ok (.istore_n 2, 1) := by decide +kernel
theorem dX12_look_18 : decode cX12_look 18 = .ok (.aload_n 0, 1) := by decide +kernel
theorem dX12_look_19 : decode cX12_look 19 = .ok (.aload_n 0, 1) := by decide +kernel
theorem dX12_look_20 : decode cX12_look 20 = .ok (.getfield 305, 3) := by decide +kernel
theorem dX12_look_23 : decode cX12_look 23 = .ok (.iconst 1, 1) := by decide +kernel
theorem dX12_look_24 : decode cX12_look 24 = .ok (.iadd, 1) := by decide +kernel
theorem dX12_look_25 : decode cX12_look 25 = .ok (.putfield 316, 3) := by decide +kernel
theorem dX12_look_28 : decode cX12_look 28 = .ok (.aload_n 0, 1) := by decide +kernel
theorem dX12_look_29 : decode cX12_look 29 = .ok (.iload_n 2, 1) := by decide +kernel
theorem dX12_look_30 : decode cX12_look 30 = .ok (.iconst (-1), 1) := by decide +kernel
theorem dX12_look_31 : decode cX12_look 31 = .ok (.if_icmp .eq 7, 3) := by decide +kernel
theorem dX12_look_34 : decode cX12_look 34 = .ok (.iconst 4, 1) := by decide +kernel
theorem dX12_look_35 : decode cX12_look 35 = .ok (.goto 15, 3) := by decide +kernel
theorem dX12_look_38 : decode cX12_look 38 = .ok (.aload_n 0, 1) := by decide +kernel
theorem dX12_look_39 : decode cX12_look 39 = .ok (.getfield 288, 3) := by decide +kernel
theorem dX12_look_42 : decode cX12_look 42 = .ok (.ifCond .eq 7, 3) := by decide +kernel
theorem dX12_look_45 : decode cX12_look 45 = .ok (.iconst 5, 1) := by decide +kernel
theorem dX12_look_46 : decode cX12_look 46 = .ok (.goto 4, 3) := by decide +kernel
theorem dX12_look_49 : decode cX12_look 49 = .ok (.iconst 0, 1) := by decide +kernel
theorem dX12_look_50 : decode cX12_look 50 = .ok (.putfield 298, 3) := by decide +kernel
theorem dX12_look_53 : decode cX12_look 53 = .ok (.iload_n 2, 1) := by decide +kernel
theorem dX12_look_54 : decode cX12_look 54 = .ok (.invokestatic 277, 3) := by decide +kernel
theorem dX12_look_57 : decode cX12_look 57 = .ok (.ifCond .eq 35, 3) := by decide +kernel
theorem dX12_look_60 : decode cX12_look 60 = .ok (.aload_n 0, 1) := by decide +kernel
theorem dX12_look_61 : decode cX12_look 61 = .ok (.iconst 1, 1) := by decide +kernel
theorem dX12_look_62 : decode cX12_look 62 = .ok (.putfield 298, 3) := by decide +kernel
theorem dX12_look_65 : decode cX12_look 65 = .ok (.aload_n 0, 1) := by decide +kernel
theorem dX12_look_66 : decode cX12_look 66 = .ok (.aload_n 0, 1) := by decide +kernel
theorem dX12_look_67 : decode cX12_look 67 = .ok (.getfield 316, 3) := by decide +kernel
theorem dX12_look_70 : decode cX12_look 70 = .ok (.invokevirtual 284, 3) := by decide +kernel
theorem dX12_look_73 : decode cX12_look 73 = .ok (.invokestatic 313, 3) := by decide +kernel
theorem dX12_look_76 : decode cX12_look 76 = .ok (.ifCond .eq 40, 3) := by decide +kernel
theorem dX12_look_79 : decode cX12_look 79 = .ok (.aload_n 0, 1) := by decide +kernel
theorem dX12_look_80 : decode cX12_look 80 = .ok (.dup, 1) := by decide +kernel
theorem dX12_look_81 : decode cX12_look 81 = .ok (.getfield 316, 3) := by decide +kernel
theorem dX12_look_84 : decode cX12_look 84 = .ok (.iconst 1, 1) := by decide +kernel
theorem dX12_look_85 : decode cX12_look 85 = .ok (.iadd, 1) := by decide +kernel
theorem dX12_look_86 : decode cX12_look 86 = .ok (.putfield 316, 3) := by decide +kernel
theorem dX12_look_89 : decode cX12_look 89 = .ok (.goto (-24), 3) := by decide +kernel
theorem dX12_look_92 : decode cX12_look 92 = .ok (.iload_n 2, 1) := by decide +kernel
theorem dX12_look_93 : decode cX12_look 93 = .ok (.invokestatic 281, 3) := by decide +kernel
theorem dX12_look_96 : decode cX12_look 96 = .ok (.ifCond .eq 10, 3) := by decide +kernel
theorem dX12_look_99 : decode cX12_look 99 = .ok (.aload_n 0, 1) := by decide +kernel
theorem dX12_look_100 : decode cX12_look 100 = .ok (.invokevirtual 322, 3) := by decide +kernel
theorem dX12_look_103 : decode cX12_look 103 = .ok (.goto 13, 3) := by decide +kernel
theorem dX12_look_106 : decode cX12_look 106 = .ok (.iload_n 2, 1) := by decide +kernel
theorem dX12_look_107 : decode cX12_look 107 = .ok (.bipush 34, 2) := by decide +kernel
theorem dX12_look_109 : decode cX12_look 109 = .ok (.if_icmp .ne 7, 3) := by decide +kernel
theorem dX12_look_112 : decode cX12_look 112 = .ok (.aload_n 0, 1) := by decide +kernel
theorem dX12_look_113 : decode cX12_look 113 = .ok (.invokevirtual 325, 3) := by decide +kernel
theorem dX12_look_116 : decode cX12_look 116 = .ok (.return_, 1) := by decide +kernel
theorem dX12_next_0 : decode cX12_next 0 = .ok (.aload_n 0, 1) := by decide +kernel
theorem dX12_next_1 : decode cX12_next 1 = .ok (.aload_n 0, 1) := by decide +kernel
theorem dX12_next_2 : decode cX12_next 2 = .ok (.getfield 316, 3) := by decide +kernel
theorem dX12_next_5 : decode cX12_next 5 = .ok (.invokevirtual 350, 3) := by decide +kernel
theorem dX12_next_8 : decode cX12_next 8 = .ok (.return_, 1) := by decide +kernel
theorem dX12_fail_0 : decode cX12_fail 0 = .ok (.aload_n 0, 1) := by decide +kernel
theorem dX12_fail_1 : decode cX12_fail 1 = .ok (.getfield 328, 3) := by decide +kernel
theorem dX12_fail_4 : decode cX12_fail 4 = .ok (.ifCond .eq 4, 3) := by decide +kernel
theorem dX12_fail_7 : decode cX12_fail 7 = .ok (.return_, 1) := by decide +kernel
theorem dX12_fail_8 : decode cX12_fail 8 = .ok (.aload_n 0, 1) := by decide +kernel
theorem dX12_fail_9 : decode cX12_fail 9 = .ok (.iload_n 1, 1) := by decide +kernel
theorem dX12_fail_10 : decode cX12_fail 10 = .ok (.putfield 328, 3) := by decide +kernel
theorem dX12_fail_13 : decode cX12_fail 13 = .ok (.aload_n 0, 1) := by decide +kernel
theorem dX12_fail_14 : decode cX12_fail 14 = .ok (.iload_n 2, 1) := by decide +kernel
theorem dX12_fail_15 : decode cX12_fail 15 = .ok (.putfield 331, 3) := by decide +kernel
theorem dX12_fail_18 : decode cX12_fail 18 = .ok (.return_, 1) := by decide +kernel
theorem dX12_declare_0 : decode cX12_declare 0 = .ok (.aload_n 0, 1) := by decide +kernel
theorem dX12_declare_1 : decode cX12_declare 1 = .ok (.getfield 328, 3) := by decide +kernel
theorem dX12_declare_4 : decode cX12_declare 4 = .ok (.ifCond .eq 4, 3) := by decide +kernel
theorem dX12_declare_7 : decode cX12_declare 7 = .ok (.return_, 1) := by decide +kernel
theorem dX12_declare_8 : decode cX12_declare 8 = .ok (.aload_n 0, 1) := by decide +kernel
theorem dX12_declare_9 : decode cX12_declare 9 = .ok (.getfield 298, 3) := by decide +kernel
theorem dX12_declare_12 : decode cX12_declare 12 = .ok (.iconst 1, 1) := by decide +kernel
theorem dX12_declare_13 : decode cX12_declare 13 = .ok (.if_icmp .eq 13, 3) := by decide +kernel
theorem dX12_declare_16 : decode cX12_declare 16 = .ok (.aload_n 0, 1) := by decide +kernel
theorem dX12_declare_17 : decode cX12_declare 17 = .ok (.iconst 1, 1) := by decide +kernel
theorem dX12_declare_18 : decode cX12_declare 18 = .ok (.aload_n 0, 1) := by decide +kernel
theorem dX12_declare_19 : decode cX12_declare 19 = .ok (.getfield 305, 3) := by decide +kernel
theorem dX12_declare_22 : decode cX12_declare 22 = .ok (.invokevirtual 360, 3) := by decide +kernel
theorem dX12_declare_25 : decode cX12_declare 25 = .ok (.return_, 1) := by decide +kernel
theorem dX12_declare_26 : decode cX12_declare 26 = .ok (.aload_n 0, 1) := by decide +kernel
theorem dX12_declare_27 : decode cX12_declare 27 = .ok (.getfield 178, 3) := by decide +kernel
theorem dX12_declare_30 : decode cX12_declare 30 = .ok (.aload_n 0, 1) := by decide +kernel
theorem dX12_declare_31 : decode cX12_declare 31 = .ok (.getfield 394, 3) := by decide +kernel
theorem dX12_declare_34 : decode cX12_declare 34 = .ok (.iload_n 1, 1) := by decide +kernel
theorem dX12_declare_35 : decode cX12_declare 35 = .ok (.iastore, 1) := by decide +kernel
theorem dX12_declare_36 : decode cX12_declare 36 = .ok (.aload_n 0, 1) := by decide +kernel
theorem dX12_declare_37 : decode cX12_declare 37 = .ok (.getfield 181, 3) := by decide +kernel
theorem dX12_declare_40 : decode cX12_declare 40 = .ok (.aload_n 0, 1) := by decide +kernel
theorem dX12_declare_41 : decode cX12_declare 41 = .ok (.getfield 394, 3) := by decide +kernel
theorem dX12_declare_44 : decode cX12_declare 44 = .ok (.aload_n 0, 1) := by decide +kernel
theorem dX12_declare_45 : decode cX12_declare 45 = .ok (.getfield 305, 3) := by decide +kernel
theorem dX12_declare_48 : decode cX12_declare 48 = .ok (.iastore, 1) := by decide +kernel
theorem dX12_declare_49 : decode cX12_declare 49 = .ok (.aload_n 0, 1) := by decide +kernel
theorem dX12_declare_50 : decode cX12_declare 50 = .ok (.getfield 184, 3) := by decide +kernel
theorem dX12_declare_53 : decode cX12_declare 53 = .ok (.aload_n 0, 1) := by decide +kernel
theorem dX12_declare_54 : decode cX12_declare 54 = .ok (.getfield 394, 3) := by decide +kernel
theorem dX12_declare_57 : decode cX12_declare 57 = .ok (.aload_n 0, 1) := by decide +kernel
theorem dX12_declare_58 : decode cX12_declare 58 = .ok (.getfield 316, 3) := by decide +kernel
theorem dX12_declare_61 : decode cX12_declare 61 = .ok (.aload_n 0, 1) := by decide +kernel
theorem dX12_declare_62 : decode cX12_declare 62 = .ok (.getfield 305, 3) := by decide +kernel
theorem dX12_declare_65 : decode cX12_declare 65 = .ok (.isub, 1) := by decide +kernel
theorem dX12_declare_66 : decode cX12_declare 66 = .ok (.iastore, 1) := by decide +kernel
theorem dX12_declare_67 : decode cX12_declare 67 = .ok (.aload_n 0, 1) := by decide +kernel
theorem dX12_declare_68 : decode cX12_declare 68 = .ok (.dup, 1) := by decide +kernel
theorem dX12_declare_69 : decode cX12_declare 69 = .ok (.getfield 394, 3) := by decide +kernel
theorem dX12_declare_72 : decode cX12_declare 72 = .ok (.iconst 1, 1) := by decide +kernel
theorem dX12_declare_73 : decode cX12_declare 73 = .ok (.iadd, 1) := by decide +kernel
theorem dX12_declare_74 : decode cX12_declare 74 = .ok (.putfield 394, 3) := by decide +kernel
theorem dX12_declare_77 : decode cX12_declare 77 = .ok (.aload_n 0, 1) := by decide +kernel
theorem dX12_declare_78 : decode cX12_declare 78 = .ok (.invokevirtual 357, 3) := by decide +kernel
theorem dX12_declare_81 : decode cX12_declare 81 = .ok (.return_, 1) := by decide +kernel
theorem dX12_lastAt_0 : decode cX12_lastAt 0 = .ok (.aload_n 0, 1) := by decide +kernel
theorem dX12_lastAt_1 : decode cX12_lastAt 1 = .ok (.getfield 394, 3) := by decide +kernel
theorem dX12_lastAt_4 : decode cX12_lastAt 4 = .ok (.ifCond .ne 7, 3) := by decide +kernel
theorem dX12_lastAt_7 : decode cX12_lastAt 7 = .ok (.iconst 0, 1) := by decide +kernel
theorem dX12_lastAt_8 : decode cX12_lastAt 8 = .ok (.goto 14, 3) := by decide +kernel
theorem dX12_lastAt_11 : decode cX12_lastAt 11 = .ok (.aload_n 0, 1) := by decide +kernel
theorem dX12_lastAt_12 : decode cX12_lastAt 12 = .ok (.getfield 181, 3) := by decide +kernel
theorem dX12_lastAt_15 : decode cX12_lastAt 15 = .ok (.aload_n 0, 1) := by decide +kernel
theorem dX12_lastAt_16 : decode cX12_lastAt 16 = .ok (.getfield 394, 3) := by decide +kernel
theorem dX12_lastAt_19 : decode cX12_lastAt 19 = .ok (.iconst 1, 1) := by decide +kernel
theorem dX12_lastAt_20 : decode cX12_lastAt 20 = .ok (.isub, 1) := by decide +kernel
theorem dX12_lastAt_21 : decode cX12_lastAt 21 = .ok (.iaload, 1) := by decide +kernel
theorem dX12_lastAt_22 : decode cX12_lastAt 22 = .ok (.ireturn, 1) := by decide +kernel
theorem dX12_lastLong_0 : decode cX12_lastLong 0 = .ok (.aload_n 0, 1) := by decide +kernel
theorem dX12_lastLong_1 : decode cX12_lastLong 1 = .ok (.getfield 394, 3) := by decide +kernel
theorem dX12_lastLong_4 : decode cX12_lastLong 4 = .ok (.ifCond .ne 7, 3) := by decide +kernel
theorem dX12_lastLong_7 : decode cX12_lastLong 7 = .ok (.iconst 0, 1) := by decide +kernel
theorem dX12_lastLong_8 : decode cX12_lastLong 8 = .ok (.goto 14, 3) := by decide +kernel
theorem dX12_lastLong_11 : decode cX12_lastLong 11 = .ok (.aload_n 0, 1) := by decide +kernel
theorem dX12_lastLong_12 : decode cX12_lastLong 12 = .ok (.getfield 184, 3) := by decide +kernel
theorem dX12_lastLong_15 : decode cX12_lastLong 15 = .ok (.aload_n 0, 1) := by decide +kernel
theorem dX12_lastLong_16 : decode cX12_lastLong 16 = .ok (.getfield 394, 3) := by decide +kernel
theorem dX12_lastLong_19 : decode cX12_lastLong 19 = .ok (.iconst 1, 1) := by decide +kernel
theorem dX12_lastLong_20 : decode cX12_lastLong 20 = .ok (.isub, 1) := by decide +kernel
theorem dX12_lastLong_21 : decode cX12_lastLong 21 = .ok (.iaload, 1) := by decide +kernel
theorem dX12_lastLong_22 : decode cX12_lastLong 22 = .ok (.ireturn, 1) := by decide +kernel
theorem dX12_isSign_0 : decode cX12_isSign 0 = .ok (.aload_n 0, 1) := by decide +kernel
theorem dX12_isSign_1 : decode cX12_isSign 1 = .ok (.getfield 298, 3) := by decide +kernel
theorem dX12_isSign_4 : decode cX12_isSign 4 = .ok (.iconst 4, 1) := by decide +kernel
theorem dX12_isSign_5 : decode cX12_isSign 5 = .ok (.if_icmp .ne 20, 3) := by decide +kernel
theorem dX12_isSign_8 : decode cX12_isSign 8 = .ok (.aload_n 0, 1) := by decide +kernel
theorem dX12_isSign_9 : decode cX12_isSign 9 = .ok (.getfield 7, 3) := by decide +kernel
theorem dX12_isSign_12 : decode cX12_isSign 12 = .ok (.aload_n 0, 1) := by decide +kernel
theorem dX12_isSign_13 : decode cX12_isSign 13 = .ok (.getfield 305, 3) := by decide +kernel
theorem dX12_isSign_16 : decode cX12_isSign 16 = .ok (.iaload, 1) := by decide +kernel
theorem dX12_isSign_17 : decode cX12_isSign 17 = .ok (.iload_n 1, 1) := by decide +kernel
theorem dX12_isSign_18 : decode cX12_isSign 18 = .ok (.if_icmp .ne 7, 3) := by decide +kernel
theorem dX12_isSign_21 : decode cX12_isSign 21 = .ok (.iconst 1, 1) := by decide +kernel
theorem dX12_isSign_22 : decode cX12_isSign 22 = .ok (.goto 4, 3) := by decide +kernel
theorem dX12_isSign_25 : decode cX12_isSign 25 = .ok (.iconst 0, 1) := by decide +kernel
theorem dX12_isSign_26 : decode cX12_isSign 26 = .ok (.ireturn, 1) := by decide +kernel
theorem dX12_takeSign_0 : decode cX12_takeSign 0 = .ok (.aload_n 0, 1) := by decide +kernel
theorem dX12_takeSign_1 : decode cX12_takeSign 1 = .ok (.getfield 328, 3) := by decide +kernel
theorem dX12_takeSign_4 : decode cX12_takeSign 4 = .ok (.ifCond .eq 4, 3) := by decide +kernel
theorem dX12_takeSign_7 : decode cX12_takeSign 7 = .ok (.return_, 1) := by decide +kernel
theorem dX12_takeSign_8 : decode cX12_takeSign 8 = .ok (.aload_n 0, 1) := by decide +kernel
theorem dX12_takeSign_9 : decode cX12_takeSign 9 = .ok (.iload_n 1, 1) := by decide +kernel
theorem dX12_takeSign_10 : decode cX12_takeSign 10 = .ok (.invokevirtual 354, 3) := by decide +kernel
theorem dX12_takeSign_13 : decode cX12_takeSign 13 = .ok (.ifCond .eq 10, 3) := by decide +kernel
theorem dX12_takeSign_16 : decode cX12_takeSign 16 = .ok (.aload_n 0, 1) := by decide +kernel
theorem dX12_takeSign_17 : decode cX12_takeSign 17 = .ok (.invokevirtual 357, 3) := by decide +kernel
theorem dX12_takeSign_20 : decode cX12_takeSign 20 = .ok (.goto 12, 3) := by decide +kernel
theorem dX12_takeSign_23 : decode cX12_takeSign 23 = .ok (.aload_n 0, 1) := by decide +kernel
theorem dX12_takeSign_24 : decode cX12_takeSign 24 = .ok (.iconst 1, 1) := by decide +kernel
theorem dX12_takeSign_25 : decode cX12_takeSign 25 = .ok (.aload_n 0, 1) := by decide +kernel
theorem dX12_takeSign_26 : decode cX12_takeSign 26 = .ok (.getfield 305, 3) := by decide +kernel
theorem dX12_takeSign_29 : decode cX12_takeSign 29 = .ok (.invokevirtual 360, 3) := by decide +kernel
theorem dX12_takeSign_32 : decode cX12_takeSign 32 = .ok (.return_, 1) := by decide +kernel
theorem dX12_beginMessage_0 : decode cX12_beginMessage 0 = .ok (.iload_n 1, 1) := by decide +kernel
theorem dX12_beginMessage_1 : decode cX12_beginMessage 1 = .ok (.ifCond .ne 7, 3) := by decide +kernel
theorem dX12_beginMessage_4 : decode cX12_beginMessage 4 = .ok (.iconst (-1), 1) := by decide +kernel
theorem dX12_beginMessage_5 : decode cX12_beginMessage 5 = .ok (.goto 11, 3) := by decide +kernel
theorem dX12_beginMessage_8 : decode cX12_beginMessage 8 = .ok (.aload_n 0, 1) := by decide +kernel
theorem dX12_beginMessage_9 : decode cX12_beginMessage 9 = .ok (.getfield 187, 3) := by decide +kernel
theorem dX12_beginMessage_12 : decode cX12_beginMessage 12 = .ok (.iload_n 1, 1) := by decide +kernel
theorem dX12_beginMessage_13 : decode cX12_beginMessage 13 = .ok (.iconst 1, 1) := by decide +kernel
theorem dX12_beginMessage_14 : decode cX12_beginMessage 14 = .ok (.isub, 1) := by decide +kernel
theorem dX12_beginMessage_15 : decode cX12_beginMessage 15 = .ok (.iaload, 1) := by decide +kernel
theorem dX12_beginMessage_16 : decode cX12_beginMessage 16 = .ok (.istore_n 2, 1) := by decide +kernel
theorem dX12_beginMessage_17 : decode cX12_beginMessage 17 = .ok (.aload_n 0, 1) := by decide +kernel
theorem dX12_beginMessage_18 : decode cX12_beginMessage 18 = .ok (.invokevirtual 357, 3) := by decide +kernel
theorem dX12_beginMessage_21 : decode cX12_beginMessage 21 = .ok (.aload_n 0, 1) := by decide +kernel
theorem dX12_beginMessage_22 : decode cX12_beginMessage 22 = .ok (.iload_n 2, 1) := by decide +kernel
theorem dX12_beginMessage_23 : decode cX12_beginMessage 23 = .ok (.invokevirtual 463, 3) := by decide +kernel
theorem dX12_beginMessage_26 : decode cX12_beginMessage 26 = .ok (.aload_n 0, 1) := by decide +kernel
theorem dX12_beginMessage_27 : decode cX12_beginMessage 27 = .ok (.getfield 93, 3) := by decide +kernel
theorem dX12_beginMessage_30 : decode cX12_beginMessage 30 = .ok (.aload_n 0, 1) := by decide +kernel
theorem dX12_beginMessage_31 : decode cX12_beginMessage 31 = .ok (.getfield 493, 3) := by decide +kernel
theorem dX12_beginMessage_34 : decode cX12_beginMessage 34 = .ok (.iload_n 2, 1) := by decide +kernel
theorem dX12_beginMessage_35 : decode cX12_beginMessage 35 = .ok (.iastore, 1) := by decide +kernel
theorem dX12_beginMessage_36 : decode cX12_beginMessage 36 = .ok (.aload_n 0, 1) := by decide +kernel
theorem dX12_beginMessage_37 : decode cX12_beginMessage 37 = .ok (.getfield 96, 3) := by decide +kernel
theorem dX12_beginMessage_40 : decode cX12_beginMessage 40 = .ok (.aload_n 0, 1) := by decide +kernel
theorem dX12_beginMessage_41 : decode cX12_beginMessage 41 = .ok (.getfield 493, 3) := by decide +kernel
theorem dX12_beginMessage_44 : decode cX12_beginMessage 44 = .ok (.aload_n 0, 1) := by decide +kernel
theorem dX12_beginMessage_45 : decode cX12_beginMessage 45 = .ok (.invokevirtual 466, 3) := by decide +kernel
theorem dX12_beginMessage_48 : decode cX12_beginMessage 48 = .ok (.iastore, 1) := by decide +kernel
theorem dX12_beginMessage_49 : decode cX12_beginMessage 49 = .ok (.aload_n 0, 1) := by decide +kernel
theorem dX12_beginMessage_50 : decode cX12_beginMessage 50 = .ok (.getfield 99, 3) := by decide +kernel
theorem dX12_beginMessage_53 : decode cX12_beginMessage 53 = .ok (.aload_n 0, 1) := by decide +kernel
theorem dX12_beginMessage_54 : decode cX12_beginMessage 54 = .ok (.getfield 493, 3) := by decide +kernel
theorem dX12_beginMessage_57 : decode cX12_beginMessage 57 = .ok (.aload_n 0, 1) := by decide +kernel
theorem dX12_beginMessage_58 : decode cX12_beginMessage 58 = .ok (.invokevirtual 469, 3) := by decide +kernel
theorem dX12_beginMessage_61 : decode cX12_beginMessage 61 = .ok (.iastore, 1) := by decide +kernel
theorem dX12_beginMessage_62 : decode cX12_beginMessage 62 = .ok (.aload_n 0, 1) := by decide +kernel
theorem dX12_beginMessage_63 : decode cX12_beginMessage 63 = .ok (.getfield 187, 3) := by decide +kernel
theorem dX12_beginMessage_66 : decode cX12_beginMessage 66 = .ok (.iload_n 1, 1) := by decide +kernel
theorem dX12_beginMessage_67 : decode cX12_beginMessage 67 = .ok (.aload_n 0, 1) := by decide +kernel
theorem dX12_beginMessage_68 : decode cX12_beginMessage 68 = .ok (.getfield 493, 3) := by decide +kernel
theorem dX12_beginMessage_71 : decode cX12_beginMessage 71 = .ok (.iastore, 1) := by decide +kernel
theorem dX12_beginMessage_72 : decode cX12_beginMessage 72 = .ok (.aload_n 0, 1) := by decide +kernel
theorem dX12_beginMessage_73 : decode cX12_beginMessage 73 = .ok (.dup, 1) := by decide +kernel
theorem dX12_beginMessage_74 : decode cX12_beginMessage 74 = .ok (.getfield 493, 3) := by decide +kernel
theorem dX12_beginMessage_77 : decode cX12_beginMessage 77 = .ok (.iconst 1, 1) := by decide +kernel
theorem dX12_beginMessage_78 : decode cX12_beginMessage 78 = .ok (.iadd, 1) := by decide +kernel
theorem dX12_beginMessage_79 : decode cX12_beginMessage 79 = .ok (.putfield 493, 3) := by decide +kernel
theorem dX12_beginMessage_82 : decode cX12_beginMessage 82 = .ok (.aload_n 0, 1) := by decide +kernel
theorem dX12_beginMessage_83 : decode cX12_beginMessage 83 = .ok (.bipush 123, 2) := by decide +kernel
theorem dX12_beginMessage_85 : decode cX12_beginMessage 85 = .ok (.invokevirtual 450, 3) := by decide +kernel
theorem dX12_beginMessage_88 : decode cX12_beginMessage 88 = .ok (.iload_n 1, 1) := by decide +kernel
theorem dX12_beginMessage_89 : decode cX12_beginMessage 89 = .ok (.iconst 1, 1) := by decide +kernel
theorem dX12_beginMessage_90 : decode cX12_beginMessage 90 = .ok (.iadd, 1) := by decide +kernel
theorem dX12_beginMessage_91 : decode cX12_beginMessage 91 = .ok (.ireturn, 1) := by decide +kernel
theorem dX12_beginValue_0 : decode cX12_beginValue 0 = .ok (.aload_n 0, 1) := by decide +kernel
theorem dX12_beginValue_1 : decode cX12_beginValue 1 = .ok (.iload_n 1, 1) := by decide +kernel
theorem dX12_beginValue_2 : decode cX12_beginValue 2 = .ok (.putfield 587, 3) := by decide +kernel
theorem dX12_beginValue_5 : decode cX12_beginValue 5 = .ok (.aload_n 0, 1) := by decide +kernel
theorem dX12_beginValue_6 : decode cX12_beginValue 6 = .ok (.iconst 0, 1) := by decide +kernel
theorem dX12_beginValue_7 : decode cX12_beginValue 7 = .ok (.putfield 551, 3) := by decide +kernel
theorem dX12_beginValue_10 : decode cX12_beginValue 10 = .ok (.aload_n 0, 1) := by decide +kernel
theorem dX12_beginValue_11 : decode cX12_beginValue 11 = .ok (.iconst 0, 1) := by decide +kernel
theorem dX12_beginValue_12 : decode cX12_beginValue 12 = .ok (.putfield 590, 3) := by decide +kernel
theorem dX12_beginValue_15 : decode cX12_beginValue 15 = .ok (.aload_n 0, 1) := by decide +kernel
theorem dX12_beginValue_16 : decode cX12_beginValue 16 = .ok (.iconst 0, 1) := by decide +kernel
theorem dX12_beginValue_17 : decode cX12_beginValue 17 = .ok (.putfield 593, 3) := by decide +kernel
theorem dX12_beginValue_20 : decode cX12_beginValue 20 = .ok (.aload_n 0, 1) := by decide +kernel
theorem dX12_beginValue_21 : decode cX12_beginValue 21 = .ok (.iconst 0, 1) := by decide +kernel
theorem dX12_beginValue_22 : decode cX12_beginValue 22 = .ok (.putfield 596, 3) := by decide +kernel
theorem dX12_beginValue_25 : decode cX12_beginValue 25 = .ok (.aload_n 0, 1) := by decide +kernel
theorem dX12_beginValue_26 : decode cX12_beginValue 26 = .ok (.iconst 0, 1) := by decide +kernel
theorem dX12_beginValue_27 : decode cX12_beginValue 27 = .ok (.putfield 599, 3) := by decide +kernel
theorem dX12_beginValue_30 : decode cX12_beginValue 30 = .ok (.aload_n 0, 1) := by decide +kernel
theorem dX12_beginValue_31 : decode cX12_beginValue 31 = .ok (.iconst 0, 1) := by decide +kernel
theorem dX12_beginValue_32 : decode cX12_beginValue 32 = .ok (.putfield 602, 3) := by decide +kernel
theorem dX12_beginValue_35 : decode cX12_beginValue 35 = .ok (.aload_n 0, 1) := by decide +kernel
theorem dX12_beginValue_36 : decode cX12_beginValue 36 = .ok (.iload_n 3, 1) := by decide +kernel
theorem dX12_beginValue_37 : decode cX12_beginValue 37 = .ok (.putfield 605, 3) := by decide +kernel
theorem dX12_beginValue_40 : decode cX12_beginValue 40 = .ok (.aload_n 0, 1) := by decide +kernel
theorem dX12_beginValue_41 : decode cX12_beginValue 41 = .ok (.iload_n 2, 1) := by decide +kernel
theorem dX12_beginValue_42 : decode cX12_beginValue 42 = .ok (.iconst (-1), 1) := by decide +kernel
theorem dX12_beginValue_43 : decode cX12_beginValue 43 = .ok (.iconst 1, 1) := by decide +kernel
theorem dX12_beginValue_44 : decode cX12_beginValue 44 = .ok (.invokevirtual 608, 3) := by decide +kernel
theorem dX12_beginValue_47 : decode cX12_beginValue 47 = .ok (.pop, 1) := by decide +kernel
theorem dX12_beginValue_48 : decode cX12_beginValue 48 = .ok (.return_, 1) := by decide +kernel
theorem dX12_isSchema_0 : decode cX12_isSchema 0 = .ok (.iload_n 0, 1) := by decide +kernel
theorem dX12_isSchema_1 : decode cX12_isSchema 1 = .ok (.ifCond .eq 8, 3) := by decide +kernel
theorem dX12_isSchema_4 : decode cX12_isSchema 4 = .ok (.iload_n 0, 1) := by decide +kernel
theorem dX12_isSchema_5 : decode cX12_isSchema 5 = .ok (.iconst 1, 1) := by decide +kernel
theorem dX12_isSchema_6 : decode cX12_isSchema 6 = .ok (.if_icmp .ne 7, 3) := by decide +kernel
theorem dX12_isSchema_9 : decode cX12_isSchema 9 = .ok (.iconst 1, 1) := by decide +kernel
theorem dX12_isSchema_10 : decode cX12_isSchema 10 = .ok (.goto 4, 3) := by decide +kernel
theorem dX12_isSchema_13 : decode cX12_isSchema 13 = .ok (.iconst 0, 1) := by decide +kernel
theorem dX12_isSchema_14 : decode cX12_isSchema 14 = .ok (.ireturn, 1) := by decide +kernel
theorem dX12_isMessage_0 : decode cX12_isMessage 0 = .ok (.iload_n 1, 1) := by decide +kernel
theorem dX12_isMessage_1 : decode cX12_isMessage 1 = .ok (.invokestatic 548, 3) := by decide +kernel
theorem dX12_isMessage_4 : decode cX12_isMessage 4 = .ok (.ifCond .eq 21, 3) := by decide +kernel
theorem dX12_isMessage_7 : decode cX12_isMessage 7 = .ok (.iload_n 2, 1) := by decide +kernel
theorem dX12_isMessage_8 : decode cX12_isMessage 8 = .ok (.ifCond .lt 17, 3) := by decide +kernel
theorem dX12_isMessage_11 : decode cX12_isMessage 11 = .ok (.iload_n 2, 1) := by decide +kernel
theorem dX12_isMessage_12 : decode cX12_isMessage 12 = .ok (.aload_n 0, 1) := by decide +kernel
theorem dX12_isMessage_13 : decode cX12_isMessage 13 = .ok (.getfield 20, 3) := by decide +kernel
theorem dX12_isMessage_16 : decode cX12_isMessage 16 = .ok (.iload_n 1, 1) := by decide +kernel
theorem dX12_isMessage_17 : decode cX12_isMessage 17 = .ok (.iaload, 1) := by decide +kernel
theorem dX12_isMessage_18 : decode cX12_isMessage 18 = .ok (.if_icmp .ge 7, 3) := by decide +kernel
theorem dX12_isMessage_21 : decode cX12_isMessage 21 = .ok (.iconst 1, 1) := by decide +kernel
theorem dX12_isMessage_22 : decode cX12_isMessage 22 = .ok (.goto 4, 3) := by decide +kernel
theorem dX12_isMessage_25 : decode cX12_isMessage 25 = .ok (.iconst 0, 1) := by decide +kernel
theorem dX12_isMessage_26 : decode cX12_isMessage 26 = .ok (.ireturn, 1) := by decide +kernel
theorem dX12_begins_0 : decode cX12_begins 0 = .ok (.aload_n 0, 1) := by decide +kernel
theorem dX12_begins_1 : decode cX12_begins 1 = .ok (.aload_n 0, 1) := by decide +kernel
theorem dX12_begins_2 : decode cX12_begins 2 = .ok (.getfield 268, 3) := by decide +kernel
theorem dX12_begins_5 : decode cX12_begins 5 = .ok (.putfield 274, 3) := by decide +kernel
theorem dX12_begins_8 : decode cX12_begins 8 = .ok (.aload_n 0, 1) := by decide +kernel
theorem dX12_begins_9 : decode cX12_begins 9 = .ok (.iconst 0, 1) := by decide +kernel
theorem dX12_begins_10 : decode cX12_begins 10 = .ok (.putfield 268, 3) := by decide +kernel
theorem dX12_begins_13 : decode cX12_begins 13 = .ok (.aload_n 0, 1) := by decide +kernel
theorem dX12_begins_14 : decode cX12_begins 14 = .ok (.iconst 0, 1) := by decide +kernel
theorem dX12_begins_15 : decode cX12_begins 15 = .ok (.putfield 551, 3) := by decide +kernel
theorem dX12_begins_18 : decode cX12_begins 18 = .ok (.aload_n 0, 1) := by decide +kernel
theorem dX12_begins_19 : decode cX12_begins 19 = .ok (.aload_n 0, 1) := by decide +kernel
theorem dX12_begins_20 : decode cX12_begins 20 = .ok (.iload_n 1, 1) := by decide +kernel
theorem dX12_begins_21 : decode cX12_begins 21 = .ok (.iload_n 2, 1) := by decide +kernel
theorem dX12_begins_22 : decode cX12_begins 22 = .ok (.invokevirtual 572, 3) := by decide +kernel
theorem dX12_begins_25 : decode cX12_begins 25 = .ok (.ifCond .eq 18, 3) := by decide +kernel
theorem dX12_begins_28 : decode cX12_begins 28 = .ok (.iload_n 3, 1) := by decide +kernel
theorem dX12_begins_29 : decode cX12_begins 29 = .ok (.iconst 1, 1) := by decide +kernel
theorem dX12_begins_30 : decode cX12_begins 30 = .ok (.if_icmp .lt 13, 3) := by decide +kernel
theorem dX12_begins_33 : decode cX12_begins 33 = .ok (.iload_n 3, 1) := by decide +kernel
theorem dX12_begins_34 : decode cX12_begins 34 = .ok (.bipush 20, 2) := by decide +kernel
theorem dX12_begins_36 : decode cX12_begins 36 = .ok (.if_icmp .gt 7, 3) := by decide +kernel
theorem dX12_begins_39 : decode cX12_begins 39 = .ok (.iconst 0, 1) := by decide +kernel
theorem dX12_begins_40 : decode cX12_begins 40 = .ok (.goto 4, 3) := by decide +kernel
theorem dX12_begins_43 : decode cX12_begins 43 = .ok (.iconst 1, 1) := by decide +kernel
theorem dX12_begins_44 : decode cX12_begins 44 = .ok (.putfield 265, 3) := by decide +kernel
theorem dX12_begins_47 : decode cX12_begins 47 = .ok (.aload_n 0, 1) := by decide +kernel
theorem dX12_begins_48 : decode cX12_begins 48 = .ok (.getfield 265, 3) := by decide +kernel
theorem dX12_begins_51 : decode cX12_begins 51 = .ok (.ifCond .eq 5, 3) := by decide +kernel
theorem dX12_begins_54 : decode cX12_begins 54 = .ok (.iconst 0, 1) := by decide +kernel
theorem dX12_begins_55 : decode cX12_begins 55 = .ok (.ireturn, 1) := by decide +kernel
theorem dX12_begins_56 : decode cX12_begins 56 = .ok (.aload_n 0, 1) := by decide +kernel
theorem dX12_begins_57 : decode cX12_begins 57 = .ok (.iload_n 1, 1) := by decide +kernel
theorem dX12_begins_58 : decode cX12_begins 58 = .ok (.iload_n 2, 1) := by decide +kernel
theorem dX12_begins_59 : decode cX12_begins 59 = .ok (.iload_n 3, 1) := by decide +kernel
theorem dX12_begins_60 : decode cX12_begins 60 = .ok (.invokevirtual 685, 3) := by decide +kernel
theorem dX12_begins_63 : decode cX12_begins 63 = .ok (.iconst 1, 1) := by decide +kernel
theorem dX12_begins_64 : decode cX12_begins 64 = .ok (.ireturn, 1) := by decide +kernel
theorem dX12_put_0 : decode cX12_put 0 = .ok (.aload_n 0, 1) := by decide +kernel
theorem dX12_put_1 : decode cX12_put 1 = .ok (.getfield 271, 3) := by decide +kernel
theorem dX12_put_4 : decode cX12_put 4 = .ok (.sipush 4000, 3) := by decide +kernel
theorem dX12_put_7 : decode cX12_put 7 = .ok (.if_icmp .ne 11, 3) := by decide +kernel
theorem dX12_put_10 : decode cX12_put 10 = .ok (.aload_n 0, 1) := by decide +kernel
theorem dX12_put_11 : decode cX12_put 11 = .ok (.iconst 1, 1) := by decide +kernel
theorem dX12_put_12 : decode cX12_put 12 = .ok (.putfield 697, 3) := by decide +kernel
theorem dX12_put_15 : decode cX12_put 15 = .ok (.goto 23, 3) := by decide +kernel
theorem dX12_put_18 : decode cX12_put 18 = .ok (.aload_n 0, 1) := by decide +kernel
theorem dX12_put_19 : decode cX12_put 19 = .ok (.getfield 13, 3) := by decide +kernel
theorem dX12_put_22 : decode cX12_put 22 = .ok (.aload_n 0, 1) := by decide +kernel
theorem dX12_put_23 : decode cX12_put 23 = .ok (.getfield 271, 3) := by decide +kernel
theorem dX12_put_26 : decode cX12_put 26 = .ok (.iload_n 1, 1) := by decide +kernel
theorem dX12_put_27 : decode cX12_put 27 = .ok (.iastore, 1) := by decide +kernel
theorem dX12_put_28 : decode cX12_put 28 = .ok (.aload_n 0, 1) := by decide +kernel
theorem dX12_put_29 : decode cX12_put 29 = .ok (.dup, 1) := by decide +kernel
theorem dX12_put_30 : decode cX12_put 30 = .ok (.getfield 271, 3) := by decide +kernel
theorem dX12_put_33 : decode cX12_put 33 = .ok (.iconst 1, 1) := by decide +kernel
theorem dX12_put_34 : decode cX12_put 34 = .ok (.iadd, 1) := by decide +kernel
theorem dX12_put_35 : decode cX12_put 35 = .ok (.putfield 271, 3) := by decide +kernel
theorem dX12_put_38 : decode cX12_put 38 = .ok (.return_, 1) := by decide +kernel
theorem dX12_blanks_0 : decode cX12_blanks 0 = .ok (.iconst 0, 1) := by decide +kernel
theorem dX12_blanks_1 : decode cX12_blanks 1 = .ok (.istore_n 2, 1) := by decide +kernel
theorem dX12_blanks_2 : decode cX12_blanks 2 = .ok (.iload_n 2, 1) := by decide +kernel
theorem dX12_blanks_3 : decode cX12_blanks 3 = .ok (.iload_n 1, 1) := by decide +kernel
theorem dX12_blanks_4 : decode cX12_blanks 4 = .ok (.if_icmp .ge 15, 3) := by decide +kernel
theorem dX12_blanks_7 : decode cX12_blanks 7 = .ok (.aload_n 0, 1) := by decide +kernel
theorem dX12_blanks_8 : decode cX12_blanks 8 = .ok (.bipush 32, 2) := by decide +kernel
theorem dX12_blanks_10 : decode cX12_blanks 10 = .ok (.invokevirtual 704, 3) := by decide +kernel
theorem dX12_blanks_13 : decode cX12_blanks 13 = .ok (.iinc 2 1, 3) := by decide +kernel
theorem dX12_blanks_16 : decode cX12_blanks 16 = .ok (.goto (-14), 3) := by decide +kernel
theorem dX12_blanks_19 : decode cX12_blanks 19 = .ok (.return_, 1) := by decide +kernel
theorem dX12_emptyOut_0 : decode cX12_emptyOut 0 = .ok (.aload_n 0, 1) := by decide +kernel
theorem dX12_emptyOut_1 : decode cX12_emptyOut 1 = .ok (.iconst 0, 1) := by decide +kernel
theorem dX12_emptyOut_2 : decode cX12_emptyOut 2 = .ok (.putfield 271, 3) := by decide +kernel
theorem dX12_emptyOut_5 : decode cX12_emptyOut 5 = .ok (.aload_n 0, 1) := by decide +kernel
theorem dX12_emptyOut_6 : decode cX12_emptyOut 6 = .ok (.iconst 0, 1) := by decide +kernel
theorem dX12_emptyOut_7 : decode cX12_emptyOut 7 = .ok (.putfield 697, 3) := by decide +kernel
theorem dX12_emptyOut_10 : decode cX12_emptyOut 10 = .ok (.return_, 1) := by decide +kernel
theorem dX12_open_0 : decode cX12_open 0 = .ok (.aload_n 0, 1) := by decide +kernel
theorem dX12_open_1 : decode cX12_open 1 = .ok (.getfield 253, 3) := by decide +kernel
theorem dX12_open_4 : decode cX12_open 4 = .ok (.bipush 16, 2) := by decide +kernel
theorem dX12_open_6 : decode cX12_open 6 = .ok (.iload_n 1, 1) := by decide +kernel
theorem dX12_open_7 : decode cX12_open 7 = .ok (.imul, 1) := by decide +kernel
theorem dX12_open_8 : decode cX12_open 8 = .ok (.iload_n 2, 1) := by decide +kernel
theorem dX12_open_9 : decode cX12_open 9 = .ok (.iadd, 1) := by decide +kernel
theorem dX12_open_10 : decode cX12_open 10 = .ok (.iconst 1, 1) := by decide +kernel
theorem dX12_open_11 : decode cX12_open 11 = .ok (.bastore, 1) := by decide +kernel
theorem dX12_open_12 : decode cX12_open 12 = .ok (.aload_n 0, 1) := by decide +kernel
theorem dX12_open_13 : decode cX12_open 13 = .ok (.getfield 256, 3) := by decide +kernel
theorem dX12_open_16 : decode cX12_open 16 = .ok (.aload_n 0, 1) := by decide +kernel
theorem dX12_open_17 : decode cX12_open 17 = .ok (.getfield 650, 3) := by decide +kernel
theorem dX12_open_20 : decode cX12_open 20 = .ok (.iload_n 1, 1) := by decide +kernel
theorem dX12_open_21 : decode cX12_open 21 = .ok (.iastore, 1) := by decide +kernel
theorem dX12_open_22 : decode cX12_open 22 = .ok (.aload_n 0, 1) := by decide +kernel
theorem dX12_open_23 : decode cX12_open 23 = .ok (.getfield 259, 3) := by decide +kernel
theorem dX12_open_26 : decode cX12_open 26 = .ok (.aload_n 0, 1) := by decide +kernel
theorem dX12_open_27 : decode cX12_open 27 = .ok (.getfield 650, 3) := by decide +kernel
theorem dX12_open_30 : decode cX12_open 30 = .ok (.iload_n 2, 1) := by decide +kernel
theorem dX12_open_31 : decode cX12_open 31 = .ok (.iastore, 1) := by decide +kernel
theorem dX12_open_32 : decode cX12_open 32 = .ok (.aload_n 0, 1) := by decide +kernel
theorem dX12_open_33 : decode cX12_open 33 = .ok (.getfield 262, 3) := by decide +kernel
theorem dX12_open_36 : decode cX12_open 36 = .ok (.aload_n 0, 1) := by decide +kernel
theorem dX12_open_37 : decode cX12_open 37 = .ok (.getfield 650, 3) := by decide +kernel
theorem dX12_open_40 : decode cX12_open 40 = .ok (.iconst 0, 1) := by decide +kernel
theorem dX12_open_41 : decode cX12_open 41 = .ok (.iastore, 1) := by decide +kernel
theorem dX12_open_42 : decode cX12_open 42 = .ok (.aload_n 0, 1) := by decide +kernel
theorem dX12_open_43 : decode cX12_open 43 = .ok (.dup, 1) := by decide +kernel
theorem dX12_open_44 : decode cX12_open 44 = .ok (.getfield 650, 3) := by decide +kernel
theorem dX12_open_47 : decode cX12_open 47 = .ok (.iconst 1, 1) := by decide +kernel
theorem dX12_open_48 : decode cX12_open 48 = .ok (.iadd, 1) := by decide +kernel
theorem dX12_open_49 : decode cX12_open 49 = .ok (.putfield 650, 3) := by decide +kernel
theorem dX12_open_52 : decode cX12_open 52 = .ok (.return_, 1) := by decide +kernel
theorem dX12_fieldAt_0 : decode cX12_fieldAt 0 = .ok (.bipush 60, 2) := by decide +kernel
theorem dX12_fieldAt_2 : decode cX12_fieldAt 2 = .ok (.iload_n 1, 1) := by decide +kernel
theorem dX12_fieldAt_3 : decode cX12_fieldAt 3 = .ok (.imul, 1) := by decide +kernel
theorem dX12_fieldAt_4 : decode cX12_fieldAt 4 = .ok (.istore 4, 2) := by decide +kernel
theorem dX12_fieldAt_6 : decode cX12_fieldAt 6 = .ok (.iload 4, 2) := by decide +kernel
theorem dX12_fieldAt_8 : decode cX12_fieldAt 8 = .ok (.bipush 60, 2) := by decide +kernel
theorem dX12_fieldAt_10 : decode cX12_fieldAt 10 = .ok (.iload_n 1, 1) := by decide +kernel
theorem dX12_fieldAt_11 : decode cX12_fieldAt 11 = .ok (.imul, 1) := by decide +kernel
theorem dX12_fieldAt_12 : decode cX12_fieldAt 12 = .ok (.aload_n 0, 1) := by decide +kernel
theorem dX12_fieldAt_13 : decode cX12_fieldAt 13 = .ok (.getfield 26, 3) := by decide +kernel
theorem dX12_fieldAt_16 : decode cX12_fieldAt 16 = .ok (.iload_n 1, 1) := by decide +kernel
theorem dX12_fieldAt_17 : decode cX12_fieldAt 17 = .ok (.iaload, 1) := by decide +kernel
theorem dX12_fieldAt_18 : decode cX12_fieldAt 18 = .ok (.iadd, 1) := by decide +kernel
theorem dX12_fieldAt_19 : decode cX12_fieldAt 19 = .ok (.if_icmp .ge 91, 3) := by decide +kernel
theorem dX12_fieldAt_22 : decode cX12_fieldAt 22 = .ok (.aload_n 0, 1) := by decide +kernel
theorem dX12_fieldAt_23 : decode cX12_fieldAt 23 = .ok (.getfield 50, 3) := by decide +kernel
theorem dX12_fieldAt_26 : decode cX12_fieldAt 26 = .ok (.iload 4, 2) := by decide +kernel
theorem dX12_fieldAt_28 : decode cX12_fieldAt 28 = .ok (.iaload, 1) := by decide +kernel
theorem dX12_fieldAt_29 : decode cX12_fieldAt 29 = .ok (.iload_n 2, 1) := by decide +kernel
theorem dX12_fieldAt_30 : decode cX12_fieldAt 30 = .ok (.if_icmp .ne 74, 3) := by decide +kernel
theorem dX12_fieldAt_33 : decode cX12_fieldAt 33 = .ok (.iconst 0, 1) := by decide +kernel
theorem dX12_fieldAt_34 : decode cX12_fieldAt 34 = .ok (.istore 5, 2) := by decide +kernel
theorem dX12_fieldAt_36 : decode cX12_fieldAt 36 = .ok (.bipush 60, 2) := by decide +kernel
theorem dX12_fieldAt_38 : decode cX12_fieldAt 38 = .ok (.iload_n 1, 1) := by decide +kernel
theorem dX12_fieldAt_39 : decode cX12_fieldAt 39 = .ok (.imul, 1) := by decide +kernel
theorem dX12_fieldAt_40 : decode cX12_fieldAt 40 = .ok (.istore 6, 2) := by decide +kernel
theorem dX12_fieldAt_42 : decode cX12_fieldAt 42 = .ok (.iload 6, 2) := by decide +kernel
theorem dX12_fieldAt_44 : decode cX12_fieldAt 44 = .ok (.bipush 60, 2) := by decide +kernel
theorem dX12_fieldAt_46 : decode cX12_fieldAt 46 = .ok (.iload_n 1, 1) := by decide +kernel
theorem dX12_fieldAt_47 : decode cX12_fieldAt 47 = .ok (.imul, 1) := by decide +kernel
theorem dX12_fieldAt_48 : decode cX12_fieldAt 48 = .ok (.aload_n 0, 1) := by decide +kernel
theorem dX12_fieldAt_49 : decode cX12_fieldAt 49 = .ok (.getfield 26, 3) := by decide +kernel
theorem dX12_fieldAt_52 : decode cX12_fieldAt 52 = .ok (.iload_n 1, 1) := by decide +kernel
theorem dX12_fieldAt_53 : decode cX12_fieldAt 53 = .ok (.iaload, 1) := by decide +kernel
theorem dX12_fieldAt_54 : decode cX12_fieldAt 54 = .ok (.iadd, 1) := by decide +kernel
theorem dX12_fieldAt_55 : decode cX12_fieldAt 55 = .ok (.if_icmp .ge 40, 3) := by decide +kernel
theorem dX12_fieldAt_58 : decode cX12_fieldAt 58 = .ok (.aload_n 0, 1) := by decide +kernel
theorem dX12_fieldAt_59 : decode cX12_fieldAt 59 = .ok (.getfield 50, 3) := by decide +kernel
theorem dX12_fieldAt_62 : decode cX12_fieldAt 62 = .ok (.iload 6, 2) := by decide +kernel
theorem dX12_fieldAt_64 : decode cX12_fieldAt 64 = .ok (.iaload, 1) := by decide +kernel
theorem dX12_fieldAt_65 : decode cX12_fieldAt 65 = .ok (.iload_n 2, 1) := by decide +kernel
theorem dX12_fieldAt_66 : decode cX12_fieldAt 66 = .ok (.if_icmp .ne 23, 3) := by decide +kernel
theorem dX12_fieldAt_69 : decode cX12_fieldAt 69 = .ok (.aload_n 0, 1) := by decide +kernel
theorem dX12_fieldAt_70 : decode cX12_fieldAt 70 = .ok (.getfield 59, 3) := by decide +kernel
theorem dX12_fieldAt_73 : decode cX12_fieldAt 73 = .ok (.iload 6, 2) := by decide +kernel
theorem dX12_fieldAt_75 : decode cX12_fieldAt 75 = .ok (.iaload, 1) := by decide +kernel
theorem dX12_fieldAt_76 : decode cX12_fieldAt 76 = .ok (.aload_n 0, 1) := by decide +kernel
theorem dX12_fieldAt_77 : decode cX12_fieldAt 77 = .ok (.getfield 59, 3) := by decide +kernel
theorem dX12_fieldAt_80 : decode cX12_fieldAt 80 = .ok (.iload 4, 2) := by decide +kernel
theorem dX12_fieldAt_82 : decode cX12_fieldAt 82 = .ok (.iaload, 1) := by decide +kernel
theorem dX12_fieldAt_83 : decode cX12_fieldAt 83 = .ok (.if_icmp .ge 6, 3) := by decide +kernel
theorem dX12_fieldAt_86 : decode cX12_fieldAt 86 = .ok (.iinc 5 1, 3) := by decide +kernel
theorem dX12_fieldAt_89 : decode cX12_fieldAt 89 = .ok (.iinc 6 1, 3) := by decide +kernel
theorem dX12_fieldAt_92 : decode cX12_fieldAt 92 = .ok (.goto (-50), 3) := by decide +kernel
theorem dX12_fieldAt_95 : decode cX12_fieldAt 95 = .ok (.iload 5, 2) := by decide +kernel
theorem dX12_fieldAt_97 : decode cX12_fieldAt 97 = .ok (.iload_n 3, 1) := by decide +kernel
theorem dX12_fieldAt_98 : decode cX12_fieldAt 98 = .ok (.if_icmp .ne 6, 3) := by decide +kernel
theorem dX12_fieldAt_101 : decode cX12_fieldAt 101 = .ok (.iload 4, 2) := by decide +kernel
theorem dX12_fieldAt_103 : decode cX12_fieldAt 103 = .ok (.ireturn, 1) := by decide +kernel
theorem dX12_fieldAt_104 : decode cX12_fieldAt 104 = .ok (.iinc 4 1, 3) := by decide +kernel
theorem dX12_fieldAt_107 : decode cX12_fieldAt 107 = .ok (.goto (-101), 3) := by decide +kernel
theorem dX12_fieldAt_110 : decode cX12_fieldAt 110 = .ok (.iconst (-1), 1) := by decide +kernel
theorem dX12_fieldAt_111 : decode cX12_fieldAt 111 = .ok (.ireturn, 1) := by decide +kernel
theorem dX12_freshNumbered_0 : decode cX12_freshNumbered 0 = .ok (.bipush 60, 2) := by decide +kernel
theorem dX12_freshNumbered_2 : decode cX12_freshNumbered 2 = .ok (.istore_n 3, 1) := by decide +kernel
theorem dX12_freshNumbered_3 : decode cX12_freshNumbered 3 = .ok (.iload_n 3, 1) := by decide +kernel
theorem dX12_freshNumbered_4 : decode cX12_freshNumbered 4 = .ok (.bipush 60, 2) := by decide +kernel
theorem dX12_freshNumbered_6 : decode cX12_freshNumbered 6 = .ok (.aload_n 0, 1) := by decide +kernel
theorem dX12_freshNumbered_7 : decode cX12_freshNumbered 7 = .ok (.getfield 26, 3) := by decide +kernel
theorem dX12_freshNumbered_10 : decode cX12_freshNumbered 10 = .ok (.iconst 1, 1) := by decide +kernel
theorem dX12_freshNumbered_11 : decode cX12_freshNumbered 11 = .ok (.iaload, 1) := by decide +kernel
theorem dX12_freshNumbered_12 : decode cX12_freshNumbered 12 = .ok (.iadd, 1) := by decide +kernel
theorem dX12_freshNumbered_13 : decode cX12_freshNumbered 13 = .ok (.if_icmp .ge 31, 3) := by decide +kernel
theorem dX12_freshNumbered_16 : decode cX12_freshNumbered 16 = .ok (.aload_n 0, 1) := by decide +kernel
theorem dX12_freshNumbered_17 : decode cX12_freshNumbered 17 = .ok (.getfield 50, 3) := by decide +kernel
theorem dX12_freshNumbered_20 : decode cX12_freshNumbered 20 = .ok (.iload_n 3, 1) := by decide +kernel
theorem dX12_freshNumbered_21 : decode cX12_freshNumbered 21 = .ok (.iaload, 1) := by decide +kernel
theorem dX12_freshNumbered_22 : decode cX12_freshNumbered 22 = .ok (.iload_n 1, 1) := by decide +kernel
theorem dX12_freshNumbered_23 : decode cX12_freshNumbered 23 = .ok (.if_icmp .ne 15, 3) := by decide +kernel
theorem dX12_freshNumbered_26 : decode cX12_freshNumbered 26 = .ok (.aload_n 0, 1) := by decide +kernel
theorem dX12_freshNumbered_27 : decode cX12_freshNumbered 27 = .ok (.getfield 59, 3) := by decide +kernel
theorem dX12_freshNumbered_30 : decode cX12_freshNumbered 30 = .ok (.iload_n 3, 1) := by decide +kernel
theorem dX12_freshNumbered_31 : decode cX12_freshNumbered 31 = .ok (.iaload, 1) := by decide +kernel
theorem dX12_freshNumbered_32 : decode cX12_freshNumbered 32 = .ok (.iload_n 2, 1) := by decide +kernel
theorem dX12_freshNumbered_33 : decode cX12_freshNumbered 33 = .ok (.if_icmp .ne 5, 3) := by decide +kernel
theorem dX12_freshNumbered_36 : decode cX12_freshNumbered 36 = .ok (.iload_n 3, 1) := by decide +kernel
theorem dX12_freshNumbered_37 : decode cX12_freshNumbered 37 = .ok (.ireturn, 1) := by decide +kernel
theorem dX12_freshNumbered_38 : decode cX12_freshNumbered 38 = .ok (.iinc 3 1, 3) := by decide +kernel
theorem dX12_freshNumbered_41 : decode cX12_freshNumbered 41 = .ok (.goto (-38), 3) := by decide +kernel
theorem dX12_freshNumbered_44 : decode cX12_freshNumbered 44 = .ok (.iconst (-1), 1) := by decide +kernel
theorem dX12_freshNumbered_45 : decode cX12_freshNumbered 45 = .ok (.ireturn, 1) := by decide +kernel
theorem dX12_joined_0 : decode cX12_joined 0 = .ok (.iconst 0, 1) := by decide +kernel
theorem dX12_joined_1 : decode cX12_joined 1 = .ok (.istore 5, 2) := by decide +kernel
theorem dX12_joined_3 : decode cX12_joined 3 = .ok (.iload 5, 2) := by decide +kernel
theorem dX12_joined_5 : decode cX12_joined 5 = .ok (.aload_n 0, 1) := by decide +kernel
theorem dX12_joined_6 : decode cX12_joined 6 = .ok (.getfield 26, 3) := by decide +kernel
theorem dX12_joined_9 : decode cX12_joined 9 = .ok (.iconst 0, 1) := by decide +kernel
theorem dX12_joined_10 : decode cX12_joined 10 = .ok (.iaload, 1) := by decide +kernel
theorem dX12_joined_11 : decode cX12_joined 11 = .ok (.if_icmp .ge 128, 3) := by decide +kernel
theorem dX12_joined_14 : decode cX12_joined 14 = .ok (.aload_n 0, 1) := by decide +kernel
theorem dX12_joined_15 : decode cX12_joined 15 = .ok (.getfield 50, 3) := by decide +kernel
theorem dX12_joined_18 : decode cX12_joined 18 = .ok (.iload 5, 2) := by decide +kernel
theorem dX12_joined_20 : decode cX12_joined 20 = .ok (.iaload, 1) := by decide +kernel
theorem dX12_joined_21 : decode cX12_joined 21 = .ok (.iload_n 1, 1) := by decide +kernel
theorem dX12_joined_22 : decode cX12_joined 22 = .ok (.if_icmp .ne 34, 3) := by decide +kernel
theorem dX12_joined_25 : decode cX12_joined 25 = .ok (.aload_n 0, 1) := by decide +kernel
theorem dX12_joined_26 : decode cX12_joined 26 = .ok (.getfield 59, 3) := by decide +kernel
theorem dX12_joined_29 : decode cX12_joined 29 = .ok (.iload 5, 2) := by decide +kernel
theorem dX12_joined_31 : decode cX12_joined 31 = .ok (.iaload, 1) := by decide +kernel
theorem dX12_joined_32 : decode cX12_joined 32 = .ok (.aload_n 0, 1) := by decide +kernel
theorem dX12_joined_33 : decode cX12_joined 33 = .ok (.getfield 59, 3) := by decide +kernel
theorem dX12_joined_36 : decode cX12_joined 36 = .ok (.iload_n 3, 1) := by decide +kernel
theorem dX12_joined_37 : decode cX12_joined 37 = .ok (.iaload, 1) := by decide +kernel
theorem dX12_joined_38 : decode cX12_joined 38 = .ok (.if_icmp .ge 18, 3) := by decide +kernel
theorem dX12_joined_41 : decode cX12_joined 41 = .ok (.aload_n 0, 1) := by decide +kernel
theorem dX12_joined_42 : decode cX12_joined 42 = .ok (.iload_n 2, 1) := by decide +kernel
theorem dX12_joined_43 : decode cX12_joined 43 = .ok (.aload_n 0, 1) := by decide +kernel
theorem dX12_joined_44 : decode cX12_joined 44 = .ok (.getfield 59, 3) := by decide +kernel
theorem dX12_joined_47 : decode cX12_joined 47 = .ok (.iload 5, 2) := by decide +kernel
theorem dX12_joined_49 : decode cX12_joined 49 = .ok (.iaload, 1) := by decide +kernel
theorem dX12_joined_50 : decode cX12_joined 50 = .ok (.invokevirtual 844, 3) := by decide +kernel
theorem dX12_joined_53 : decode cX12_joined 53 = .ok (.goto 4, 3) := by decide +kernel
theorem dX12_joined_56 : decode cX12_joined 56 = .ok (.iconst (-1), 1) := by decide +kernel
theorem dX12_joined_57 : decode cX12_joined 57 = .ok (.istore 6, 2) := by decide +kernel
theorem dX12_joined_59 : decode cX12_joined 59 = .ok (.aload_n 0, 1) := by decide +kernel
theorem dX12_joined_60 : decode cX12_joined 60 = .ok (.getfield 75, 3) := by decide +kernel
theorem dX12_joined_63 : decode cX12_joined 63 = .ok (.iload_n 3, 1) := by decide +kernel
theorem dX12_joined_64 : decode cX12_joined 64 = .ok (.iaload, 1) := by decide +kernel
theorem dX12_joined_65 : decode cX12_joined 65 = .ok (.iconst (-1), 1) := by decide +kernel
theorem dX12_joined_66 : decode cX12_joined 66 = .ok (.if_icmp .eq 23, 3) := by decide +kernel
theorem dX12_joined_69 : decode cX12_joined 69 = .ok (.aload_n 0, 1) := by decide +kernel
theorem dX12_joined_70 : decode cX12_joined 70 = .ok (.getfield 75, 3) := by decide +kernel
theorem dX12_joined_73 : decode cX12_joined 73 = .ok (.iload 5, 2) := by decide +kernel
theorem dX12_joined_75 : decode cX12_joined 75 = .ok (.iaload, 1) := by decide +kernel
theorem dX12_joined_76 : decode cX12_joined 76 = .ok (.aload_n 0, 1) := by decide +kernel
theorem dX12_joined_77 : decode cX12_joined 77 = .ok (.getfield 75, 3) := by decide +kernel
theorem dX12_joined_80 : decode cX12_joined 80 = .ok (.iload_n 3, 1) := by decide +kernel
theorem dX12_joined_81 : decode cX12_joined 81 = .ok (.iaload, 1) := by decide +kernel
theorem dX12_joined_82 : decode cX12_joined 82 = .ok (.if_icmp .ne 7, 3) := by decide +kernel
theorem dX12_joined_85 : decode cX12_joined 85 = .ok (.iconst 1, 1) := by decide +kernel
theorem dX12_joined_86 : decode cX12_joined 86 = .ok (.goto 4, 3) := by decide +kernel
theorem dX12_joined_89 : decode cX12_joined 89 = .ok (.iconst 0, 1) := by decide +kernel
theorem dX12_joined_90 : decode cX12_joined 90 = .ok (.istore 7, 2) := by decide +kernel
theorem dX12_joined_92 : decode cX12_joined 92 = .ok (.iload 6, 2) := by decide +kernel
theorem dX12_joined_94 : decode cX12_joined 94 = .ok (.iconst (-1), 1) := by decide +kernel
theorem dX12_joined_95 : decode cX12_joined 95 = .ok (.if_icmp .eq 38, 3) := by decide +kernel
theorem dX12_joined_98 : decode cX12_joined 98 = .ok (.iload 7, 2) := by decide +kernel
theorem dX12_joined_100 : decode cX12_joined 100 = .ok (.ifCond .ne 33, 3) := by decide +kernel
theorem dX12_joined_103 : decode cX12_joined 103 = .ok (.aload_n 0, 1) := by decide +kernel
theorem dX12_joined_104 : decode cX12_joined 104 = .ok (.getfield 75, 3) := by decide +kernel
theorem dX12_joined_107 : decode cX12_joined 107 = .ok (.iload 4, 2) := by decide +kernel
theorem dX12_joined_109 : decode cX12_joined 109 = .ok (.iaload, 1) := by decide +kernel
theorem dX12_joined_110 : decode cX12_joined 110 = .ok (.iconst (-1), 1) := by decide +kernel
theorem dX12_joined_111 : decode cX12_joined 111 = .ok (.if_icmp .eq 22, 3) := by decide +kernel
theorem dX12_joined_114 : decode cX12_joined 114 = .ok (.aload_n 0, 1) := by decide +kernel
theorem dX12_joined_115 : decode cX12_joined 115 = .ok (.getfield 75, 3) := by decide +kernel
theorem dX12_joined_118 : decode cX12_joined 118 = .ok (.iload 6, 2) := by decide +kernel
theorem dX12_joined_120 : decode cX12_joined 120 = .ok (.iaload, 1) := by decide +kernel
theorem dX12_joined_121 : decode cX12_joined 121 = .ok (.aload_n 0, 1) := by decide +kernel
theorem dX12_joined_122 : decode cX12_joined 122 = .ok (.getfield 75, 3) := by decide +kernel
theorem dX12_joined_125 : decode cX12_joined 125 = .ok (.iload 4, 2) := by decide +kernel
theorem dX12_joined_127 : decode cX12_joined 127 = .ok (.iaload, 1) := by decide +kernel
theorem dX12_joined_128 : decode cX12_joined 128 = .ok (.if_icmp .ne 5, 3) := by decide +kernel
theorem dX12_joined_131 : decode cX12_joined 131 = .ok (.iconst 1, 1) := by decide +kernel
theorem dX12_joined_132 : decode cX12_joined 132 = .ok (.ireturn, 1) := by decide +kernel
theorem dX12_joined_133 : decode cX12_joined 133 = .ok (.iinc 5 1, 3) := by decide +kernel
theorem dX12_joined_136 : decode cX12_joined 136 = .ok (.goto (-133), 3) := by decide +kernel
theorem dX12_joined_139 : decode cX12_joined 139 = .ok (.iconst 0, 1) := by decide +kernel
theorem dX12_joined_140 : decode cX12_joined 140 = .ok (.ireturn, 1) := by decide +kernel
theorem dX12_widens_0 : decode cX12_widens 0 = .ok (.iload_n 0, 1) := by decide +kernel
theorem dX12_widens_1 : decode cX12_widens 1 = .ok (.ifCond .ne 20, 3) := by decide +kernel
theorem dX12_widens_4 : decode cX12_widens 4 = .ok (.iload_n 1, 1) := by decide +kernel
theorem dX12_widens_5 : decode cX12_widens 5 = .ok (.iconst 1, 1) := by decide +kernel
theorem dX12_widens_6 : decode cX12_widens 6 = .ok (.if_icmp .eq 9, 3) := by decide +kernel
theorem dX12_widens_9 : decode cX12_widens 9 = .ok (.iload_n 1, 1) := by decide +kernel
theorem dX12_widens_10 : decode cX12_widens 10 = .ok (.bipush 14, 2) := by decide +kernel
theorem dX12_widens_12 : decode cX12_widens 12 = .ok (.if_icmp .ne 7, 3) := by decide +kernel
theorem dX12_widens_15 : decode cX12_widens 15 = .ok (.iconst 1, 1) := by decide +kernel
theorem dX12_widens_16 : decode cX12_widens 16 = .ok (.goto 4, 3) := by decide +kernel
theorem dX12_widens_19 : decode cX12_widens 19 = .ok (.iconst 0, 1) := by decide +kernel
theorem dX12_widens_20 : decode cX12_widens 20 = .ok (.ireturn, 1) := by decide +kernel
theorem dX12_widens_21 : decode cX12_widens 21 = .ok (.iload_n 0, 1) := by decide +kernel
theorem dX12_widens_22 : decode cX12_widens 22 = .ok (.iconst 2, 1) := by decide +kernel
theorem dX12_widens_23 : decode cX12_widens 23 = .ok (.if_icmp .ne 19, 3) := by decide +kernel
theorem dX12_widens_26 : decode cX12_widens 26 = .ok (.iload_n 1, 1) := by decide +kernel
theorem dX12_widens_27 : decode cX12_widens 27 = .ok (.iconst 3, 1) := by decide +kernel
theorem dX12_widens_28 : decode cX12_widens 28 = .ok (.if_icmp .eq 8, 3) := by decide +kernel
theorem dX12_widens_31 : decode cX12_widens 31 = .ok (.iload_n 1, 1) := by decide +kernel
theorem dX12_widens_32 : decode cX12_widens 32 = .ok (.iconst 1, 1) := by decide +kernel
theorem dX12_widens_33 : decode cX12_widens 33 = .ok (.if_icmp .ne 7, 3) := by decide +kernel
theorem dX12_widens_36 : decode cX12_widens 36 = .ok (.iconst 1, 1) := by decide +kernel
theorem dX12_widens_37 : decode cX12_widens 37 = .ok (.goto 4, 3) := by decide +kernel
theorem dX12_widens_40 : decode cX12_widens 40 = .ok (.iconst 0, 1) := by decide +kernel
theorem dX12_widens_41 : decode cX12_widens 41 = .ok (.ireturn, 1) := by decide +kernel
theorem dX12_widens_42 : decode cX12_widens 42 = .ok (.iload_n 0, 1) := by decide +kernel
theorem dX12_widens_43 : decode cX12_widens 43 = .ok (.iconst 4, 1) := by decide +kernel
theorem dX12_widens_44 : decode cX12_widens 44 = .ok (.if_icmp .ne 14, 3) := by decide +kernel
theorem dX12_widens_47 : decode cX12_widens 47 = .ok (.iload_n 1, 1) := by decide +kernel
theorem dX12_widens_48 : decode cX12_widens 48 = .ok (.iconst 5, 1) := by decide +kernel
theorem dX12_widens_49 : decode cX12_widens 49 = .ok (.if_icmp .ne 7, 3) := by decide +kernel
theorem dX12_widens_52 : decode cX12_widens 52 = .ok (.iconst 1, 1) := by decide +kernel
theorem dX12_widens_53 : decode cX12_widens 53 = .ok (.goto 4, 3) := by decide +kernel
theorem dX12_widens_56 : decode cX12_widens 56 = .ok (.iconst 0, 1) := by decide +kernel
theorem dX12_widens_57 : decode cX12_widens 57 = .ok (.ireturn, 1) := by decide +kernel
theorem dX12_widens_58 : decode cX12_widens 58 = .ok (.iload_n 0, 1) := by decide +kernel
theorem dX12_widens_59 : decode cX12_widens 59 = .ok (.bipush 10, 2) := by decide +kernel
theorem dX12_widens_61 : decode cX12_widens 61 = .ok (.if_icmp .ne 34, 3) := by decide +kernel
theorem dX12_widens_64 : decode cX12_widens 64 = .ok (.iload_n 1, 1) := by decide +kernel
theorem dX12_widens_65 : decode cX12_widens 65 = .ok (.ifCond .eq 24, 3) := by decide +kernel
theorem dX12_widens_68 : decode cX12_widens 68 = .ok (.iload_n 1, 1) := by decide +kernel
theorem dX12_widens_69 : decode cX12_widens 69 = .ok (.iconst 1, 1) := by decide +kernel
theorem dX12_widens_70 : decode cX12_widens 70 = .ok (.if_icmp .eq 19, 3) := by decide +kernel
theorem dX12_widens_73 : decode cX12_widens 73 = .ok (.iload_n 1, 1) := by decide +kernel
theorem dX12_widens_74 : decode cX12_widens 74 = .ok (.iconst 2, 1) := by decide +kernel
theorem dX12_widens_75 : decode cX12_widens 75 = .ok (.if_icmp .eq 14, 3) := by decide +kernel
theorem dX12_widens_78 : decode cX12_widens 78 = .ok (.iload_n 1, 1) := by decide +kernel
theorem dX12_widens_79 : decode cX12_widens 79 = .ok (.iconst 3, 1) := by decide +kernel
theorem dX12_widens_80 : decode cX12_widens 80 = .ok (.if_icmp .eq 9, 3) := by decide +kernel
theorem dX12_widens_83 : decode cX12_widens 83 = .ok (.iload_n 1, 1) := by decide +kernel
theorem dX12_widens_84 : decode cX12_widens 84 = .ok (.bipush 14, 2) := by decide +kernel
theorem dX12_widens_86 : decode cX12_widens 86 = .ok (.if_icmp .ne 7, 3) := by decide +kernel
theorem dX12_widens_89 : decode cX12_widens 89 = .ok (.iconst 1, 1) := by decide +kernel
theorem dX12_widens_90 : decode cX12_widens 90 = .ok (.goto 4, 3) := by decide +kernel
theorem dX12_widens_93 : decode cX12_widens 93 = .ok (.iconst 0, 1) := by decide +kernel
theorem dX12_widens_94 : decode cX12_widens 94 = .ok (.ireturn, 1) := by decide +kernel
theorem dX12_widens_95 : decode cX12_widens 95 = .ok (.iload_n 0, 1) := by decide +kernel
theorem dX12_widens_96 : decode cX12_widens 96 = .ok (.bipush 14, 2) := by decide +kernel
theorem dX12_widens_98 : decode cX12_widens 98 = .ok (.if_icmp .ne 18, 3) := by decide +kernel
theorem dX12_widens_101 : decode cX12_widens 101 = .ok (.iload_n 1, 1) := by decide +kernel
theorem dX12_widens_102 : decode cX12_widens 102 = .ok (.ifCond .eq 8, 3) := by decide +kernel
theorem dX12_widens_105 : decode cX12_widens 105 = .ok (.iload_n 1, 1) := by decide +kernel
theorem dX12_widens_106 : decode cX12_widens 106 = .ok (.iconst 1, 1) := by decide +kernel
theorem dX12_widens_107 : decode cX12_widens 107 = .ok (.if_icmp .ne 7, 3) := by decide +kernel
theorem dX12_widens_110 : decode cX12_widens 110 = .ok (.iconst 1, 1) := by decide +kernel
theorem dX12_widens_111 : decode cX12_widens 111 = .ok (.goto 4, 3) := by decide +kernel
theorem dX12_widens_114 : decode cX12_widens 114 = .ok (.iconst 0, 1) := by decide +kernel
theorem dX12_widens_115 : decode cX12_widens 115 = .ok (.ireturn, 1) := by decide +kernel
theorem dX12_widens_116 : decode cX12_widens 116 = .ok (.iload_n 0, 1) := by decide +kernel
theorem dX12_widens_117 : decode cX12_widens 117 = .ok (.bipush 11, 2) := by decide +kernel
theorem dX12_widens_119 : decode cX12_widens 119 = .ok (.if_icmp .ne 13, 3) := by decide +kernel
theorem dX12_widens_122 : decode cX12_widens 122 = .ok (.iload_n 1, 1) := by decide +kernel
theorem dX12_widens_123 : decode cX12_widens 123 = .ok (.bipush 12, 2) := by decide +kernel
theorem dX12_widens_125 : decode cX12_widens 125 = .ok (.if_icmp .ne 7, 3) := by decide +kernel
theorem dX12_widens_128 : decode cX12_widens 128 = .ok (.iconst 1, 1) := by decide +kernel
theorem dX12_widens_129 : decode cX12_widens 129 = .ok (.goto 4, 3) := by decide +kernel
theorem dX12_widens_132 : decode cX12_widens 132 = .ok (.iconst 0, 1) := by decide +kernel
theorem dX12_widens_133 : decode cX12_widens 133 = .ok (.ireturn, 1) := by decide +kernel
theorem dX12_checkStep_0 : decode cX12_checkStep 0 = .ok (.aload_n 0, 1) := by decide +kernel
theorem dX12_checkStep_1 : decode cX12_checkStep 1 = .ok (.getfield 650, 3) := by decide +kernel
theorem dX12_checkStep_4 : decode cX12_checkStep 4 = .ok (.iconst 1, 1) := by decide +kernel
theorem dX12_checkStep_5 : decode cX12_checkStep 5 = .ok (.isub, 1) := by decide +kernel
theorem dX12_checkStep_6 : decode cX12_checkStep 6 = .ok (.istore_n 1, 1) := by decide +kernel
theorem dX12_checkStep_7 : decode cX12_checkStep 7 = .ok (.aload_n 0, 1) := by decide +kernel
theorem dX12_checkStep_8 : decode cX12_checkStep 8 = .ok (.iconst 0, 1) := by decide +kernel
theorem dX12_checkStep_9 : decode cX12_checkStep 9 = .ok (.aload_n 0, 1) := by decide +kernel
theorem dX12_checkStep_10 : decode cX12_checkStep 10 = .ok (.getfield 256, 3) := by decide +kernel
theorem dX12_checkStep_13 : decode cX12_checkStep 13 = .ok (.iload_n 1, 1) := by decide +kernel
theorem dX12_checkStep_14 : decode cX12_checkStep 14 = .ok (.iaload, 1) := by decide +kernel
theorem dX12_checkStep_15 : decode cX12_checkStep 15 = .ok (.aload_n 0, 1) := by decide +kernel
theorem dX12_checkStep_16 : decode cX12_checkStep 16 = .ok (.getfield 262, 3) := by decide +kernel
theorem dX12_checkStep_19 : decode cX12_checkStep 19 = .ok (.iload_n 1, 1) := by decide +kernel
theorem dX12_checkStep_20 : decode cX12_checkStep 20 = .ok (.iaload, 1) := by decide +kernel
theorem dX12_checkStep_21 : decode cX12_checkStep 21 = .ok (.iconst 2, 1) := by decide +kernel
theorem dX12_checkStep_22 : decode cX12_checkStep 22 = .ok (.idiv, 1) := by decide +kernel
theorem dX12_checkStep_23 : decode cX12_checkStep 23 = .ok (.invokevirtual 576, 3) := by decide +kernel
theorem dX12_checkStep_26 : decode cX12_checkStep 26 = .ok (.istore_n 2, 1) := by decide +kernel
theorem dX12_checkStep_27 : decode cX12_checkStep 27 = .ok (.iload_n 2, 1) := by decide +kernel
theorem dX12_checkStep_28 : decode cX12_checkStep 28 = .ok (.iconst (-1), 1) := by decide +kernel
theorem dX12_checkStep_29 : decode cX12_checkStep 29 = .ok (.if_icmp .ne 15, 3) := by decide +kernel
theorem dX12_checkStep_32 : decode cX12_checkStep 32 = .ok (.aload_n 0, 1) := by decide +kernel
theorem dX12_checkStep_33 : decode cX12_checkStep 33 = .ok (.dup, 1) := by decide +kernel
theorem dX12_checkStep_34 : decode cX12_checkStep 34 = .ok (.getfield 650, 3) := by decide +kernel
theorem dX12_checkStep_37 : decode cX12_checkStep 37 = .ok (.iconst 1, 1) := by decide +kernel
theorem dX12_checkStep_38 : decode cX12_checkStep 38 = .ok (.isub, 1) := by decide +kernel
theorem dX12_checkStep_39 : decode cX12_checkStep 39 = .ok (.putfield 650, 3) := by decide +kernel
theorem dX12_checkStep_42 : decode cX12_checkStep 42 = .ok (.iconst 0, 1) := by decide +kernel
theorem dX12_checkStep_43 : decode cX12_checkStep 43 = .ok (.ireturn, 1) := by decide +kernel
theorem dX12_checkStep_44 : decode cX12_checkStep 44 = .ok (.aload_n 0, 1) := by decide +kernel
theorem dX12_checkStep_45 : decode cX12_checkStep 45 = .ok (.aload_n 0, 1) := by decide +kernel
theorem dX12_checkStep_46 : decode cX12_checkStep 46 = .ok (.getfield 259, 3) := by decide +kernel
theorem dX12_checkStep_49 : decode cX12_checkStep 49 = .ok (.iload_n 1, 1) := by decide +kernel
theorem dX12_checkStep_50 : decode cX12_checkStep 50 = .ok (.iaload, 1) := by decide +kernel
theorem dX12_checkStep_51 : decode cX12_checkStep 51 = .ok (.aload_n 0, 1) := by decide +kernel
theorem dX12_checkStep_52 : decode cX12_checkStep 52 = .ok (.getfield 59, 3) := by decide +kernel
theorem dX12_checkStep_55 : decode cX12_checkStep 55 = .ok (.iload_n 2, 1) := by decide +kernel
theorem dX12_checkStep_56 : decode cX12_checkStep 56 = .ok (.iaload, 1) := by decide +kernel
theorem dX12_checkStep_57 : decode cX12_checkStep 57 = .ok (.invokevirtual 844, 3) := by decide +kernel
theorem dX12_checkStep_60 : decode cX12_checkStep 60 = .ok (.istore_n 3, 1) := by decide +kernel
theorem dX12_checkStep_61 : decode cX12_checkStep 61 = .ok (.aload_n 0, 1) := by decide +kernel
theorem dX12_checkStep_62 : decode cX12_checkStep 62 = .ok (.getfield 262, 3) := by decide +kernel
theorem dX12_checkStep_65 : decode cX12_checkStep 65 = .ok (.iload_n 1, 1) := by decide +kernel
theorem dX12_checkStep_66 : decode cX12_checkStep 66 = .ok (.iaload, 1) := by decide +kernel
theorem dX12_checkStep_67 : decode cX12_checkStep 67 = .ok (.iconst 2, 1) := by decide +kernel
theorem dX12_checkStep_68 : decode cX12_checkStep 68 = .ok (.irem, 1) := by decide +kernel
theorem dX12_checkStep_69 : decode cX12_checkStep 69 = .ok (.ifCond .ne 7, 3) := by decide +kernel
theorem dX12_checkStep_72 : decode cX12_checkStep 72 = .ok (.iconst 1, 1) := by decide +kernel
theorem dX12_checkStep_73 : decode cX12_checkStep 73 = .ok (.goto 4, 3) := by decide +kernel
theorem dX12_checkStep_76 : decode cX12_checkStep 76 = .ok (.iconst 0, 1) := by decide +kernel
theorem dX12_checkStep_77 : decode cX12_checkStep 77 = .ok (.istore 4, 2) := by decide +kernel
theorem dX12_checkStep_79 : decode cX12_checkStep 79 = .ok (.aload_n 0, 1) := by decide +kernel
theorem dX12_checkStep_80 : decode cX12_checkStep 80 = .ok (.getfield 262, 3) := by decide +kernel
theorem dX12_checkStep_83 : decode cX12_checkStep 83 = .ok (.iload_n 1, 1) := by decide +kernel
theorem dX12_checkStep_84 : decode cX12_checkStep 84 = .ok (.dup2, 1) := by decide +kernel
theorem dX12_checkStep_85 : decode cX12_checkStep 85 = .ok (.iaload, 1) := by decide +kernel
theorem dX12_checkStep_86 : decode cX12_checkStep 86 = .ok (.iconst 1, 1) := by decide +kernel
theorem dX12_checkStep_87 : decode cX12_checkStep 87 = .ok (.iadd, 1) := by decide +kernel
theorem dX12_checkStep_88 : decode cX12_checkStep 88 = .ok (.iastore, 1) := by decide +kernel
theorem dX12_checkStep_89 : decode cX12_checkStep 89 = .ok (.iload_n 3, 1) := by decide +kernel
theorem dX12_checkStep_90 : decode cX12_checkStep 90 = .ok (.iconst (-1), 1) := by decide +kernel
theorem dX12_checkStep_91 : decode cX12_checkStep 91 = .ok (.if_icmp .ne 5, 3) := by decide +kernel
theorem dX12_checkStep_94 : decode cX12_checkStep 94 = .ok (.iconst 0, 1) := by decide +kernel
theorem dX12_checkStep_95 : decode cX12_checkStep 95 = .ok (.ireturn, 1) := by decide +kernel
theorem dX12_checkStep_96 : decode cX12_checkStep 96 = .ok (.iload 4, 2) := by decide +kernel
theorem dX12_checkStep_98 : decode cX12_checkStep 98 = .ok (.ifCond .ne 30, 3) := by decide +kernel
theorem dX12_checkStep_101 : decode cX12_checkStep 101 = .ok (.aload_n 0, 1) := by decide +kernel
theorem dX12_checkStep_102 : decode cX12_checkStep 102 = .ok (.aload_n 0, 1) := by decide +kernel
theorem dX12_checkStep_103 : decode cX12_checkStep 103 = .ok (.getfield 256, 3) := by decide +kernel
theorem dX12_checkStep_106 : decode cX12_checkStep 106 = .ok (.iload_n 1, 1) := by decide +kernel
theorem dX12_checkStep_107 : decode cX12_checkStep 107 = .ok (.iaload, 1) := by decide +kernel
theorem dX12_checkStep_108 : decode cX12_checkStep 108 = .ok (.aload_n 0, 1) := by decide +kernel
theorem dX12_checkStep_109 : decode cX12_checkStep 109 = .ok (.getfield 259, 3) := by decide +kernel
theorem dX12_checkStep_112 : decode cX12_checkStep 112 = .ok (.iload_n 1, 1) := by decide +kernel
theorem dX12_checkStep_113 : decode cX12_checkStep 113 = .ok (.iaload, 1) := by decide +kernel
theorem dX12_checkStep_114 : decode cX12_checkStep 114 = .ok (.iload_n 2, 1) := by decide +kernel
theorem dX12_checkStep_115 : decode cX12_checkStep 115 = .ok (.iload_n 3, 1) := by decide +kernel
theorem dX12_checkStep_116 : decode cX12_checkStep 116 = .ok (.invokevirtual 847, 3) := by decide +kernel
theorem dX12_checkStep_119 : decode cX12_checkStep 119 = .ok (.ifCond .eq 7, 3) := by decide +kernel
theorem dX12_checkStep_122 : decode cX12_checkStep 122 = .ok (.iconst 3, 1) := by decide +kernel
theorem dX12_checkStep_123 : decode cX12_checkStep 123 = .ok (.goto 4, 3) := by decide +kernel
theorem dX12_checkStep_126 : decode cX12_checkStep 126 = .ok (.iconst 0, 1) := by decide +kernel
theorem dX12_checkStep_127 : decode cX12_checkStep 127 = .ok (.ireturn, 1) := by decide +kernel
theorem dX12_checkStep_128 : decode cX12_checkStep 128 = .ok (.aload_n 0, 1) := by decide +kernel
theorem dX12_checkStep_129 : decode cX12_checkStep 129 = .ok (.getfield 68, 3) := by decide +kernel
theorem dX12_checkStep_132 : decode cX12_checkStep 132 = .ok (.iload_n 2, 1) := by decide +kernel
theorem dX12_checkStep_133 : decode cX12_checkStep 133 = .ok (.baload, 1) := by decide +kernel
theorem dX12_checkStep_134 : decode cX12_checkStep 134 = .ok (.aload_n 0, 1) := by decide +kernel
theorem dX12_checkStep_135 : decode cX12_checkStep 135 = .ok (.getfield 68, 3) := by decide +kernel
theorem dX12_checkStep_138 : decode cX12_checkStep 138 = .ok (.iload_n 3, 1) := by decide +kernel
theorem dX12_checkStep_139 : decode cX12_checkStep 139 = .ok (.baload, 1) := by decide +kernel
theorem dX12_checkStep_140 : decode cX12_checkStep 140 = .ok (.if_icmp .eq 5, 3) := by decide +kernel
theorem dX12_checkStep_143 : decode cX12_checkStep 143 = .ok (.iconst 1, 1) := by decide +kernel
theorem dX12_checkStep_144 : decode cX12_checkStep 144 = .ok (.ireturn, 1) := by decide +kernel
theorem dX12_checkStep_145 : decode cX12_checkStep 145 = .ok (.aload_n 0, 1) := by decide +kernel
theorem dX12_checkStep_146 : decode cX12_checkStep 146 = .ok (.getfield 62, 3) := by decide +kernel
theorem dX12_checkStep_149 : decode cX12_checkStep 149 = .ok (.iload_n 2, 1) := by decide +kernel
theorem dX12_checkStep_150 : decode cX12_checkStep 150 = .ok (.iaload, 1) := by decide +kernel
theorem dX12_checkStep_151 : decode cX12_checkStep 151 = .ok (.aload_n 0, 1) := by decide +kernel
theorem dX12_checkStep_152 : decode cX12_checkStep 152 = .ok (.getfield 62, 3) := by decide +kernel
theorem dX12_checkStep_155 : decode cX12_checkStep 155 = .ok (.iload_n 3, 1) := by decide +kernel
theorem dX12_checkStep_156 : decode cX12_checkStep 156 = .ok (.iaload, 1) := by decide +kernel
theorem dX12_checkStep_157 : decode cX12_checkStep 157 = .ok (.if_icmp .eq 23, 3) := by decide +kernel
theorem dX12_checkStep_160 : decode cX12_checkStep 160 = .ok (.aload_n 0, 1) := by decide +kernel
theorem dX12_checkStep_161 : decode cX12_checkStep 161 = .ok (.getfield 62, 3) := by decide +kernel
theorem dX12_checkStep_164 : decode cX12_checkStep 164 = .ok (.iload_n 2, 1) := by decide +kernel
theorem dX12_checkStep_165 : decode cX12_checkStep 165 = .ok (.iaload, 1) := by decide +kernel
theorem dX12_checkStep_166 : decode cX12_checkStep 166 = .ok (.aload_n 0, 1) := by decide +kernel
theorem dX12_checkStep_167 : decode cX12_checkStep 167 = .ok (.getfield 62, 3) := by decide +kernel
theorem dX12_checkStep_170 : decode cX12_checkStep 170 = .ok (.iload_n 3, 1) := by decide +kernel
theorem dX12_checkStep_171 : decode cX12_checkStep 171 = .ok (.iaload, 1) := by decide +kernel
theorem dX12_checkStep_172 : decode cX12_checkStep 172 = .ok (.invokestatic 850, 3) := by decide +kernel
theorem dX12_checkStep_175 : decode cX12_checkStep 175 = .ok (.ifCond .ne 5, 3) := by decide +kernel
theorem dX12_checkStep_178 : decode cX12_checkStep 178 = .ok (.iconst 2, 1) := by decide +kernel
theorem dX12_checkStep_179 : decode cX12_checkStep 179 = .ok (.ireturn, 1) := by decide +kernel
theorem dX12_checkStep_180 : decode cX12_checkStep 180 = .ok (.aload_n 0, 1) := by decide +kernel
theorem dX12_checkStep_181 : decode cX12_checkStep 181 = .ok (.getfield 62, 3) := by decide +kernel
theorem dX12_checkStep_184 : decode cX12_checkStep 184 = .ok (.iload_n 2, 1) := by decide +kernel
theorem dX12_checkStep_185 : decode cX12_checkStep 185 = .ok (.iaload, 1) := by decide +kernel
theorem dX12_checkStep_186 : decode cX12_checkStep 186 = .ok (.bipush 13, 2) := by decide +kernel
theorem dX12_checkStep_188 : decode cX12_checkStep 188 = .ok (.if_icmp .ne 43, 3) := by decide +kernel
theorem dX12_checkStep_191 : decode cX12_checkStep 191 = .ok (.aload_n 0, 1) := by decide +kernel
theorem dX12_checkStep_192 : decode cX12_checkStep 192 = .ok (.getfield 253, 3) := by decide +kernel
theorem dX12_checkStep_195 : decode cX12_checkStep 195 = .ok (.bipush 16, 2) := by decide +kernel
theorem dX12_checkStep_197 : decode cX12_checkStep 197 = .ok (.aload_n 0, 1) := by decide +kernel
theorem dX12_checkStep_198 : decode cX12_checkStep 198 = .ok (.getfield 65, 3) := by decide +kernel
theorem dX12_checkStep_201 : decode cX12_checkStep 201 = .ok (.iload_n 2, 1) := by decide +kernel
theorem dX12_checkStep_202 : decode cX12_checkStep 202 = .ok (.iaload, 1) := by decide +kernel
theorem dX12_checkStep_203 : decode cX12_checkStep 203 = .ok (.imul, 1) := by decide +kernel
theorem dX12_checkStep_204 : decode cX12_checkStep 204 = .ok (.aload_n 0, 1) := by decide +kernel
theorem dX12_checkStep_205 : decode cX12_checkStep 205 = .ok (.getfield 65, 3) := by decide +kernel
theorem dX12_checkStep_208 : decode cX12_checkStep 208 = .ok (.iload_n 3, 1) := by decide +kernel
theorem dX12_checkStep_209 : decode cX12_checkStep 209 = .ok (.iaload, 1) := by decide +kernel
theorem dX12_checkStep_210 : decode cX12_checkStep 210 = .ok (.iadd, 1) := by decide +kernel
theorem dX12_checkStep_211 : decode cX12_checkStep 211 = .ok (.baload, 1) := by decide +kernel
theorem dX12_checkStep_212 : decode cX12_checkStep 212 = .ok (.ifCond .ne 19, 3) := by decide +kernel
theorem dX12_checkStep_215 : decode cX12_checkStep 215 = .ok (.aload_n 0, 1) := by decide +kernel
theorem dX12_checkStep_216 : decode cX12_checkStep 216 = .ok (.aload_n 0, 1) := by decide +kernel
theorem dX12_checkStep_217 : decode cX12_checkStep 217 = .ok (.getfield 65, 3) := by decide +kernel
theorem dX12_checkStep_220 : decode cX12_checkStep 220 = .ok (.iload_n 2, 1) := by decide +kernel
theorem dX12_checkStep_221 : decode cX12_checkStep 221 = .ok (.iaload, 1) := by decide +kernel
theorem dX12_checkStep_222 : decode cX12_checkStep 222 = .ok (.aload_n 0, 1) := by decide +kernel
theorem dX12_checkStep_223 : decode cX12_checkStep 223 = .ok (.getfield 65, 3) := by decide +kernel
theorem dX12_checkStep_226 : decode cX12_checkStep 226 = .ok (.iload_n 3, 1) := by decide +kernel
theorem dX12_checkStep_227 : decode cX12_checkStep 227 = .ok (.iaload, 1) := by decide +kernel
theorem dX12_checkStep_228 : decode cX12_checkStep 228 = .ok (.invokevirtual 853, 3) := by decide +kernel
theorem dX12_checkStep_231 : decode cX12_checkStep 231 = .ok (.iconst 0, 1) := by decide +kernel
theorem dX12_checkStep_232 : decode cX12_checkStep 232 = .ok (.ireturn, 1) := by decide +kernel
theorem dX12_putVarint_0 : decode cX12_putVarint 0 = .ok (.lload_n 1, 1) := by decide +kernel
theorem dX12_putVarint_1 : decode cX12_putVarint 1 = .ok (.lstore_n 3, 1) := by decide +kernel
theorem dX12_putVarint_2 : decode cX12_putVarint 2 = .ok (.lload_n 3, 1) := by decide +kernel
theorem dX12_putVarint_3 : decode cX12_putVarint 3 = .ok (.ldc2_w 700, 3) := by decide +kernel
theorem dX12_putVarint_6 : decode cX12_putVarint 6 = .ok (.land, 1) := by decide +kernel
theorem dX12_putVarint_7 : decode cX12_putVarint 7 = .ok (.lconst 0, 1) := by decide +kernel
theorem dX12_putVarint_8 : decode cX12_putVarint 8 = .ok (.lcmp, 1) := by decide +kernel
theorem dX12_putVarint_9 : decode cX12_putVarint 9 = .ok (.ifCond .eq 25, 3) := by decide +kernel
theorem dX12_putVarint_12 : decode cX12_putVarint 12 = .ok (.aload_n 0, 1) := by decide +kernel
theorem dX12_putVarint_13 : decode cX12_putVarint 13 = .ok (.lload_n 3, 1) := by decide +kernel
theorem dX12_putVarint_14 : decode cX12_putVarint 14 = .ok (.ldc2_w 702, 3) := by decide +kernel
theorem dX12_putVarint_17 : decode cX12_putVarint 17 = .ok (.land, 1) := by decide +kernel
theorem dX12_putVarint_18 : decode cX12_putVarint 18 = .ok (.l2i, 1) := by decide +kernel
theorem dX12_putVarint_19 : decode cX12_putVarint 19 = .ok (.sipush 128, 3) := by decide +kernel
theorem dX12_putVarint_22 : decode cX12_putVarint 22 = .ok (.ior, 1) := by decide +kernel
theorem dX12_putVarint_23 : decode cX12_putVarint 23 = .ok (.invokevirtual 704, 3) := by decide +kernel
theorem dX12_putVarint_26 : decode cX12_putVarint 26 = .ok (.lload_n 3, 1) := by decide +kernel
theorem dX12_putVarint_27 : decode cX12_putVarint 27 = .ok (.bipush 7, 2) := by decide +kernel
theorem dX12_putVarint_29 : decode cX12_putVarint 29 = .ok (.lushr, 1) := by decide +kernel
theorem dX12_putVarint_30 : decode cX12_putVarint 30 = .ok (.lstore_n 3, 1) := by decide +kernel
theorem dX12_putVarint_31 : decode cX12_putVarint 31 = .ok (.goto (-29), 3) := by decide +kernel
theorem dX12_putVarint_34 : decode cX12_putVarint 34 = .ok (.aload_n 0, 1) := by decide +kernel
theorem dX12_putVarint_35 : decode cX12_putVarint 35 = .ok (.lload_n 3, 1) := by decide +kernel
theorem dX12_putVarint_36 : decode cX12_putVarint 36 = .ok (.l2i, 1) := by decide +kernel
theorem dX12_putVarint_37 : decode cX12_putVarint 37 = .ok (.invokevirtual 704, 3) := by decide +kernel
theorem dX12_putVarint_40 : decode cX12_putVarint 40 = .ok (.return_, 1) := by decide +kernel
theorem dX12_check_0 : decode cX12_check 0 = .ok (.aload_n 0, 1) := by decide +kernel
theorem dX12_check_1 : decode cX12_check 1 = .ok (.invokevirtual 746, 3) := by decide +kernel
theorem dX12_check_4 : decode cX12_check 4 = .ok (.aload_n 0, 1) := by decide +kernel
theorem dX12_check_5 : decode cX12_check 5 = .ok (.aload_n 0, 1) := by decide +kernel
theorem dX12_check_6 : decode cX12_check 6 = .ok (.iconst 0, 1) := by decide +kernel
theorem dX12_check_7 : decode cX12_check 7 = .ok (.iload_n 1, 1) := by decide +kernel
theorem dX12_check_8 : decode cX12_check 8 = .ok (.invokevirtual 572, 3) := by decide +kernel
theorem dX12_check_11 : decode cX12_check 11 = .ok (.ifCond .eq 16, 3) := by decide +kernel
theorem dX12_check_14 : decode cX12_check 14 = .ok (.aload_n 0, 1) := by decide +kernel
theorem dX12_check_15 : decode cX12_check 15 = .ok (.iconst 1, 1) := by decide +kernel
theorem dX12_check_16 : decode cX12_check 16 = .ok (.iload_n 2, 1) := by decide +kernel
theorem dX12_check_17 : decode cX12_check 17 = .ok (.invokevirtual 572, 3) := by decide +kernel
theorem dX12_check_20 : decode cX12_check 20 = .ok (.ifCond .eq 7, 3) := by decide +kernel
theorem dX12_check_23 : decode cX12_check 23 = .ok (.iconst 0, 1) := by decide +kernel
theorem dX12_check_24 : decode cX12_check 24 = .ok (.goto 4, 3) := by decide +kernel
theorem dX12_check_27 : decode cX12_check 27 = .ok (.iconst 1, 1) := by decide +kernel
theorem dX12_check_28 : decode cX12_check 28 = .ok (.putfield 265, 3) := by decide +kernel
theorem dX12_check_31 : decode cX12_check 31 = .ok (.aload_n 0, 1) := by decide +kernel
theorem dX12_check_32 : decode cX12_check 32 = .ok (.getfield 265, 3) := by decide +kernel
theorem dX12_check_35 : decode cX12_check 35 = .ok (.ifCond .eq 5, 3) := by decide +kernel
theorem dX12_check_38 : decode cX12_check 38 = .ok (.iconst 0, 1) := by decide +kernel
theorem dX12_check_39 : decode cX12_check 39 = .ok (.ireturn, 1) := by decide +kernel
theorem dX12_check_40 : decode cX12_check 40 = .ok (.iconst 0, 1) := by decide +kernel
theorem dX12_check_41 : decode cX12_check 41 = .ok (.istore_n 3, 1) := by decide +kernel
theorem dX12_check_42 : decode cX12_check 42 = .ok (.iload_n 3, 1) := by decide +kernel
theorem dX12_check_43 : decode cX12_check 43 = .ok (.sipush 256, 3) := by decide +kernel
theorem dX12_check_46 : decode cX12_check 46 = .ok (.if_icmp .ge 16, 3) := by decide +kernel
theorem dX12_check_49 : decode cX12_check 49 = .ok (.aload_n 0, 1) := by decide +kernel
theorem dX12_check_50 : decode cX12_check 50 = .ok (.getfield 253, 3) := by decide +kernel
theorem dX12_check_53 : decode cX12_check 53 = .ok (.iload_n 3, 1) := by decide +kernel
theorem dX12_check_54 : decode cX12_check 54 = .ok (.iconst 0, 1) := by decide +kernel
theorem dX12_check_55 : decode cX12_check 55 = .ok (.bastore, 1) := by decide +kernel
theorem dX12_check_56 : decode cX12_check 56 = .ok (.iinc 3 1, 3) := by decide +kernel
theorem dX12_check_59 : decode cX12_check 59 = .ok (.goto (-17), 3) := by decide +kernel
theorem dX12_check_62 : decode cX12_check 62 = .ok (.aload_n 0, 1) := by decide +kernel
theorem dX12_check_63 : decode cX12_check 63 = .ok (.iconst 0, 1) := by decide +kernel
theorem dX12_check_64 : decode cX12_check 64 = .ok (.putfield 650, 3) := by decide +kernel
theorem dX12_check_67 : decode cX12_check 67 = .ok (.aload_n 0, 1) := by decide +kernel
theorem dX12_check_68 : decode cX12_check 68 = .ok (.iload_n 1, 1) := by decide +kernel
theorem dX12_check_69 : decode cX12_check 69 = .ok (.iload_n 2, 1) := by decide +kernel
theorem dX12_check_70 : decode cX12_check 70 = .ok (.invokevirtual 853, 3) := by decide +kernel
theorem dX12_check_73 : decode cX12_check 73 = .ok (.iconst 0, 1) := by decide +kernel
theorem dX12_check_74 : decode cX12_check 74 = .ok (.istore_n 3, 1) := by decide +kernel
theorem dX12_check_75 : decode cX12_check 75 = .ok (.aload_n 0, 1) := by decide +kernel
theorem dX12_check_76 : decode cX12_check 76 = .ok (.getfield 650, 3) := by decide +kernel
theorem dX12_check_79 : decode cX12_check 79 = .ok (.ifCond .le 15, 3) := by decide +kernel
theorem dX12_check_82 : decode cX12_check 82 = .ok (.iload_n 3, 1) := by decide +kernel
theorem dX12_check_83 : decode cX12_check 83 = .ok (.ifCond .ne 11, 3) := by decide +kernel
theorem dX12_check_86 : decode cX12_check 86 = .ok (.aload_n 0, 1) := by decide +kernel
theorem dX12_check_87 : decode cX12_check 87 = .ok (.invokevirtual 855, 3) := by decide +kernel
theorem dX12_check_90 : decode cX12_check 90 = .ok (.istore_n 3, 1) := by decide +kernel
theorem dX12_check_91 : decode cX12_check 91 = .ok (.goto (-16), 3) := by decide +kernel
theorem dX12_check_94 : decode cX12_check 94 = .ok (.iconst 0, 1) := by decide +kernel
theorem dX12_check_95 : decode cX12_check 95 = .ok (.istore 4, 2) := by decide +kernel
theorem dX12_check_97 : decode cX12_check 97 = .ok (.iload 4, 2) := by decide +kernel
theorem dX12_check_99 : decode cX12_check 99 = .ok (.aload_n 0, 1) := by decide +kernel
theorem dX12_check_100 : decode cX12_check 100 = .ok (.getfield 650, 3) := by decide +kernel
theorem dX12_check_103 : decode cX12_check 103 = .ok (.if_icmp .ge 46, 3) := by decide +kernel
theorem dX12_check_106 : decode cX12_check 106 = .ok (.iload_n 3, 1) := by decide +kernel
theorem dX12_check_107 : decode cX12_check 107 = .ok (.ifCond .eq 42, 3) := by decide +kernel
theorem dX12_check_110 : decode cX12_check 110 = .ok (.aload_n 0, 1) := by decide +kernel
theorem dX12_check_111 : decode cX12_check 111 = .ok (.aload_n 0, 1) := by decide +kernel
theorem dX12_check_112 : decode cX12_check 112 = .ok (.getfield 59, 3) := by decide +kernel
theorem dX12_check_115 : decode cX12_check 115 = .ok (.aload_n 0, 1) := by decide +kernel
theorem dX12_check_116 : decode cX12_check 116 = .ok (.iconst 0, 1) := by decide +kernel
theorem dX12_check_117 : decode cX12_check 117 = .ok (.aload_n 0, 1) := by decide +kernel
theorem dX12_check_118 : decode cX12_check 118 = .ok (.getfield 256, 3) := by decide +kernel
theorem dX12_check_121 : decode cX12_check 121 = .ok (.iload 4, 2) := by decide +kernel
theorem dX12_check_123 : decode cX12_check 123 = .ok (.iaload, 1) := by decide +kernel
theorem dX12_check_124 : decode cX12_check 124 = .ok (.aload_n 0, 1) := by decide +kernel
theorem dX12_check_125 : decode cX12_check 125 = .ok (.getfield 262, 3) := by decide +kernel
theorem dX12_check_128 : decode cX12_check 128 = .ok (.iload 4, 2) := by decide +kernel
theorem dX12_check_130 : decode cX12_check 130 = .ok (.iaload, 1) := by decide +kernel
theorem dX12_check_131 : decode cX12_check 131 = .ok (.iconst 1, 1) := by decide +kernel
theorem dX12_check_132 : decode cX12_check 132 = .ok (.isub, 1) := by decide +kernel
theorem dX12_check_133 : decode cX12_check 133 = .ok (.iconst 2, 1) := by decide +kernel
theorem dX12_check_134 : decode cX12_check 134 = .ok (.idiv, 1) := by decide +kernel
theorem dX12_check_135 : decode cX12_check 135 = .ok (.invokevirtual 576, 3) := by decide +kernel
theorem dX12_check_138 : decode cX12_check 138 = .ok (.iaload, 1) := by decide +kernel
theorem dX12_check_139 : decode cX12_check 139 = .ok (.i2l, 1) := by decide +kernel
theorem dX12_check_140 : decode cX12_check 140 = .ok (.invokevirtual 713, 3) := by decide +kernel
theorem dX12_check_143 : decode cX12_check 143 = .ok (.iinc 4 1, 3) := by decide +kernel
theorem dX12_check_146 : decode cX12_check 146 = .ok (.goto (-49), 3) := by decide +kernel
theorem dX12_check_149 : decode cX12_check 149 = .ok (.iload_n 3, 1) := by decide +kernel
theorem dX12_check_150 : decode cX12_check 150 = .ok (.ireturn, 1) := by decide +kernel
theorem dX12_checkLimits_0 : decode cX12_checkLimits 0 = .ok (.iconst 0, 1) := by decide +kernel
theorem dX12_checkLimits_1 : decode cX12_checkLimits 1 = .ok (.istore_n 1, 1) := by decide +kernel
theorem dX12_checkLimits_2 : decode cX12_checkLimits 2 = .ok (.iconst 0, 1) := by decide +kernel
theorem dX12_checkLimits_3 : decode cX12_checkLimits 3 = .ok (.istore_n 2, 1) := by decide +kernel
theorem dX12_checkLimits_4 : decode cX12_checkLimits 4 = .ok (.iload_n 2, 1) := by decide +kernel
theorem dX12_checkLimits_5 : decode cX12_checkLimits 5 = .ok (.aload_n 0, 1) := by decide +kernel
theorem dX12_checkLimits_6 : decode cX12_checkLimits 6 = .ok (.getfield 394, 3) := by decide +kernel
theorem dX12_checkLimits_9 : decode cX12_checkLimits 9 = .ok (.if_icmp .ge 18, 3) := by decide +kernel
theorem dX12_checkLimits_12 : decode cX12_checkLimits 12 = .ok (.iload_n 1, 1) := by decide +kernel
theorem dX12_checkLimits_13 : decode cX12_checkLimits 13 = .ok (.aload_n 0, 1) := by decide +kernel
theorem dX12_checkLimits_14 : decode cX12_checkLimits 14 = .ok (.getfield 184, 3) := by decide +kernel
theorem dX12_checkLimits_17 : decode cX12_checkLimits 17 = .ok (.iload_n 2, 1) := by decide +kernel
theorem dX12_checkLimits_18 : decode cX12_checkLimits 18 = .ok (.iaload, 1) := by decide +kernel
theorem dX12_checkLimits_19 : decode cX12_checkLimits 19 = .ok (.iadd, 1) := by decide +kernel
theorem dX12_checkLimits_20 : decode cX12_checkLimits 20 = .ok (.istore_n 1, 1) := by decide +kernel
theorem dX12_checkLimits_21 : decode cX12_checkLimits 21 = .ok (.iinc 2 1, 3) := by decide +kernel
theorem dX12_checkLimits_24 : decode cX12_checkLimits 24 = .ok (.goto (-20), 3) := by decide +kernel
theorem dX12_checkLimits_27 : decode cX12_checkLimits 27 = .ok (.aload_n 0, 1) := by decide +kernel
theorem dX12_checkLimits_28 : decode cX12_checkLimits 28 = .ok (.getfield 493, 3) := by decide +kernel
theorem dX12_checkLimits_31 : decode cX12_checkLimits 31 = .ok (.bipush 16, 2) := by decide +kernel
theorem dX12_checkLimits_33 : decode cX12_checkLimits 33 = .ok (.if_icmp .gt 46, 3) := by decide +kernel
theorem dX12_checkLimits_36 : decode cX12_checkLimits 36 = .ok (.aload_n 0, 1) := by decide +kernel
theorem dX12_checkLimits_37 : decode cX12_checkLimits 37 = .ok (.getfield 487, 3) := by decide +kernel
theorem dX12_checkLimits_40 : decode cX12_checkLimits 40 = .ok (.bipush 8, 2) := by decide +kernel
theorem dX12_checkLimits_42 : decode cX12_checkLimits 42 = .ok (.if_icmp .gt 37, 3) := by decide +kernel
theorem dX12_checkLimits_45 : decode cX12_checkLimits 45 = .ok (.aload_n 0, 1) := by decide +kernel
theorem dX12_checkLimits_46 : decode cX12_checkLimits 46 = .ok (.getfield 457, 3) := by decide +kernel
theorem dX12_checkLimits_49 : decode cX12_checkLimits 49 = .ok (.bipush 60, 2) := by decide +kernel
theorem dX12_checkLimits_51 : decode cX12_checkLimits 51 = .ok (.if_icmp .gt 28, 3) := by decide +kernel
theorem dX12_checkLimits_54 : decode cX12_checkLimits 54 = .ok (.aload_n 0, 1) := by decide +kernel
theorem dX12_checkLimits_55 : decode cX12_checkLimits 55 = .ok (.getfield 484, 3) := by decide +kernel
theorem dX12_checkLimits_58 : decode cX12_checkLimits 58 = .ok (.bipush 40, 2) := by decide +kernel
theorem dX12_checkLimits_60 : decode cX12_checkLimits 60 = .ok (.if_icmp .gt 19, 3) := by decide +kernel
theorem dX12_checkLimits_63 : decode cX12_checkLimits 63 = .ok (.aload_n 0, 1) := by decide +kernel
theorem dX12_checkLimits_64 : decode cX12_checkLimits 64 = .ok (.getfield 475, 3) := by decide +kernel
theorem dX12_checkLimits_67 : decode cX12_checkLimits 67 = .ok (.bipush 16, 2) := by decide +kernel
theorem dX12_checkLimits_69 : decode cX12_checkLimits 69 = .ok (.if_icmp .gt 10, 3) := by decide +kernel
theorem dX12_checkLimits_72 : decode cX12_checkLimits 72 = .ok (.iload_n 1, 1) := by decide +kernel
theorem dX12_checkLimits_73 : decode cX12_checkLimits 73 = .ok (.sipush 600, 3) := by decide +kernel
theorem dX12_checkLimits_76 : decode cX12_checkLimits 76 = .ok (.if_icmp .le 13, 3) := by decide +kernel
theorem dX12_checkLimits_79 : decode cX12_checkLimits 79 = .ok (.aload_n 0, 1) := by decide +kernel
theorem dX12_checkLimits_80 : decode cX12_checkLimits 80 = .ok (.bipush 7, 2) := by decide +kernel
theorem dX12_checkLimits_82 : decode cX12_checkLimits 82 = .ok (.aload_n 0, 1) := by decide +kernel
theorem dX12_checkLimits_83 : decode cX12_checkLimits 83 = .ok (.getfield 274, 3) := by decide +kernel
theorem dX12_checkLimits_86 : decode cX12_checkLimits 86 = .ok (.invokevirtual 360, 3) := by decide +kernel
theorem dX12_checkLimits_89 : decode cX12_checkLimits 89 = .ok (.return_, 1) := by decide +kernel
theorem dX12_sameText_0 : decode cX12_sameText 0 = .ok (.iload_n 2, 1) := by decide +kernel
theorem dX12_sameText_1 : decode cX12_sameText 1 = .ok (.iload 4, 2) := by decide +kernel
theorem dX12_sameText_3 : decode cX12_sameText 3 = .ok (.if_icmp .eq 5, 3) := by decide +kernel
theorem dX12_sameText_6 : decode cX12_sameText 6 = .ok (.iconst 0, 1) := by decide +kernel
theorem dX12_sameText_7 : decode cX12_sameText 7 = .ok (.ireturn, 1) := by decide +kernel
theorem dX12_sameText_8 : decode cX12_sameText 8 = .ok (.iconst 0, 1) := by decide +kernel
theorem dX12_sameText_9 : decode cX12_sameText 9 = .ok (.istore 5, 2) := by decide +kernel
theorem dX12_sameText_11 : decode cX12_sameText 11 = .ok (.iload 5, 2) := by decide +kernel
theorem dX12_sameText_13 : decode cX12_sameText 13 = .ok (.iload_n 2, 1) := by decide +kernel
theorem dX12_sameText_14 : decode cX12_sameText 14 = .ok (.if_icmp .ge 32, 3) := by decide +kernel
theorem dX12_sameText_17 : decode cX12_sameText 17 = .ok (.aload_n 0, 1) := by decide +kernel
theorem dX12_sameText_18 : decode cX12_sameText 18 = .ok (.getfield 7, 3) := by decide +kernel
theorem dX12_sameText_21 : decode cX12_sameText 21 = .ok (.iload_n 1, 1) := by decide +kernel
theorem dX12_sameText_22 : decode cX12_sameText 22 = .ok (.iload 5, 2) := by decide +kernel
theorem dX12_sameText_24 : decode cX12_sameText 24 = .ok (.iadd, 1) := by decide +kernel
theorem dX12_sameText_25 : decode cX12_sameText 25 = .ok (.iaload, 1) := by decide +kernel
theorem dX12_sameText_26 : decode cX12_sameText 26 = .ok (.aload_n 0, 1) := by decide +kernel
theorem dX12_sameText_27 : decode cX12_sameText 27 = .ok (.getfield 7, 3) := by decide +kernel
theorem dX12_sameText_30 : decode cX12_sameText 30 = .ok (.iload_n 3, 1) := by decide +kernel
theorem dX12_sameText_31 : decode cX12_sameText 31 = .ok (.iload 5, 2) := by decide +kernel
theorem dX12_sameText_33 : decode cX12_sameText 33 = .ok (.iadd, 1) := by decide +kernel
theorem dX12_sameText_34 : decode cX12_sameText 34 = .ok (.iaload, 1) := by decide +kernel
theorem dX12_sameText_35 : decode cX12_sameText 35 = .ok (.if_icmp .eq 5, 3) := by decide +kernel
theorem dX12_sameText_38 : decode cX12_sameText 38 = .ok (.iconst 0, 1) := by decide +kernel
theorem dX12_sameText_39 : decode cX12_sameText 39 = .ok (.ireturn, 1) := by decide +kernel
theorem dX12_sameText_40 : decode cX12_sameText 40 = .ok (.iinc 5 1, 3) := by decide +kernel
theorem dX12_sameText_43 : decode cX12_sameText 43 = .ok (.goto (-32), 3) := by decide +kernel
theorem dX12_sameText_46 : decode cX12_sameText 46 = .ok (.iconst 1, 1) := by decide +kernel
theorem dX12_sameText_47 : decode cX12_sameText 47 = .ok (.ireturn, 1) := by decide +kernel
theorem dX12_earlier_0 : decode cX12_earlier 0 = .ok (.aload_n 0, 1) := by decide +kernel
theorem dX12_earlier_1 : decode cX12_earlier 1 = .ok (.getfield 328, 3) := by decide +kernel
theorem dX12_earlier_4 : decode cX12_earlier 4 = .ok (.ifCond .eq 12, 3) := by decide +kernel
theorem dX12_earlier_7 : decode cX12_earlier 7 = .ok (.aload_n 0, 1) := by decide +kernel
theorem dX12_earlier_8 : decode cX12_earlier 8 = .ok (.getfield 331, 3) := by decide +kernel
theorem dX12_earlier_11 : decode cX12_earlier 11 = .ok (.iload_n 2, 1) := by decide +kernel
theorem dX12_earlier_12 : decode cX12_earlier 12 = .ok (.if_icmp .gt 4, 3) := by decide +kernel
theorem dX12_earlier_15 : decode cX12_earlier 15 = .ok (.return_, 1) := by decide +kernel
theorem dX12_earlier_16 : decode cX12_earlier 16 = .ok (.aload_n 0, 1) := by decide +kernel
theorem dX12_earlier_17 : decode cX12_earlier 17 = .ok (.iload_n 1, 1) := by decide +kernel
theorem dX12_earlier_18 : decode cX12_earlier 18 = .ok (.putfield 328, 3) := by decide +kernel
theorem dX12_earlier_21 : decode cX12_earlier 21 = .ok (.aload_n 0, 1) := by decide +kernel
theorem dX12_earlier_22 : decode cX12_earlier 22 = .ok (.iload_n 2, 1) := by decide +kernel
theorem dX12_earlier_23 : decode cX12_earlier 23 = .ok (.putfield 331, 3) := by decide +kernel
theorem dX12_earlier_26 : decode cX12_earlier 26 = .ok (.return_, 1) := by decide +kernel
theorem dX12_checkNames_0 : decode cX12_checkNames 0 = .ok (.iconst 0, 1) := by decide +kernel
theorem dX12_checkNames_1 : decode cX12_checkNames 1 = .ok (.istore_n 1, 1) := by decide +kernel
theorem dX12_checkNames_2 : decode cX12_checkNames 2 = .ok (.iload_n 1, 1) := by decide +kernel
theorem dX12_checkNames_3 : decode cX12_checkNames 3 = .ok (.aload_n 0, 1) := by decide +kernel
theorem dX12_checkNames_4 : decode cX12_checkNames 4 = .ok (.getfield 394, 3) := by decide +kernel
theorem dX12_checkNames_7 : decode cX12_checkNames 7 = .ok (.if_icmp .ge 79, 3) := by decide +kernel
theorem dX12_checkNames_10 : decode cX12_checkNames 10 = .ok (.iconst 0, 1) := by decide +kernel
theorem dX12_checkNames_11 : decode cX12_checkNames 11 = .ok (.istore_n 2, 1) := by decide +kernel
theorem dX12_checkNames_12 : decode cX12_checkNames 12 = .ok (.iload_n 2, 1) := by decide +kernel
theorem dX12_checkNames_13 : decode cX12_checkNames 13 = .ok (.iload_n 1, 1) := by decide +kernel
theorem dX12_checkNames_14 : decode cX12_checkNames 14 = .ok (.if_icmp .ge 66, 3) := by decide +kernel
theorem dX12_checkNames_17 : decode cX12_checkNames 17 = .ok (.aload_n 0, 1) := by decide +kernel
theorem dX12_checkNames_18 : decode cX12_checkNames 18 = .ok (.getfield 178, 3) := by decide +kernel
theorem dX12_checkNames_21 : decode cX12_checkNames 21 = .ok (.iload_n 1, 1) := by decide +kernel
theorem dX12_checkNames_22 : decode cX12_checkNames 22 = .ok (.iaload, 1) := by decide +kernel
theorem dX12_checkNames_23 : decode cX12_checkNames 23 = .ok (.aload_n 0, 1) := by decide +kernel
theorem dX12_checkNames_24 : decode cX12_checkNames 24 = .ok (.getfield 178, 3) := by decide +kernel
theorem dX12_checkNames_27 : decode cX12_checkNames 27 = .ok (.iload_n 2, 1) := by decide +kernel
theorem dX12_checkNames_28 : decode cX12_checkNames 28 = .ok (.iaload, 1) := by decide +kernel
theorem dX12_checkNames_29 : decode cX12_checkNames 29 = .ok (.if_icmp .ne 45, 3) := by decide +kernel
theorem dX12_checkNames_32 : decode cX12_checkNames 32 = .ok (.aload_n 0, 1) := by decide +kernel
theorem dX12_checkNames_33 : decode cX12_checkNames 33 = .ok (.aload_n 0, 1) := by decide +kernel
theorem dX12_checkNames_34 : decode cX12_checkNames 34 = .ok (.getfield 181, 3) := by decide +kernel
theorem dX12_checkNames_37 : decode cX12_checkNames 37 = .ok (.iload_n 1, 1) := by decide +kernel
theorem dX12_checkNames_38 : decode cX12_checkNames 38 = .ok (.iaload, 1) := by decide +kernel
theorem dX12_checkNames_39 : decode cX12_checkNames 39 = .ok (.aload_n 0, 1) := by decide +kernel
theorem dX12_checkNames_40 : decode cX12_checkNames 40 = .ok (.getfield 184, 3) := by decide +kernel
theorem dX12_checkNames_43 : decode cX12_checkNames 43 = .ok (.iload_n 1, 1) := by decide +kernel
theorem dX12_checkNames_44 : decode cX12_checkNames 44 = .ok (.iaload, 1) := by decide +kernel
theorem dX12_checkNames_45 : decode cX12_checkNames 45 = .ok (.aload_n 0, 1) := by decide +kernel
theorem dX12_checkNames_46 : decode cX12_checkNames 46 = .ok (.getfield 181, 3) := by decide +kernel
theorem dX12_checkNames_49 : decode cX12_checkNames 49 = .ok (.iload_n 2, 1) := by decide +kernel
theorem dX12_checkNames_50 : decode cX12_checkNames 50 = .ok (.iaload, 1) := by decide +kernel
theorem dX12_checkNames_51 : decode cX12_checkNames 51 = .ok (.aload_n 0, 1) := by decide +kernel
theorem dX12_checkNames_52 : decode cX12_checkNames 52 = .ok (.getfield 184, 3) := by decide +kernel
theorem dX12_checkNames_55 : decode cX12_checkNames 55 = .ok (.iload_n 2, 1) := by decide +kernel
theorem dX12_checkNames_56 : decode cX12_checkNames 56 = .ok (.iaload, 1) := by decide +kernel
theorem dX12_checkNames_57 : decode cX12_checkNames 57 = .ok (.invokevirtual 515, 3) := by decide +kernel
theorem dX12_checkNames_60 : decode cX12_checkNames 60 = .ok (.ifCond .eq 14, 3) := by decide +kernel
theorem dX12_checkNames_63 : decode cX12_checkNames 63 = .ok (.aload_n 0, 1) := by decide +kernel
theorem dX12_checkNames_64 : decode cX12_checkNames 64 = .ok (.iconst 3, 1) := by decide +kernel
theorem dX12_checkNames_65 : decode cX12_checkNames 65 = .ok (.aload_n 0, 1) := by decide +kernel
theorem dX12_checkNames_66 : decode cX12_checkNames 66 = .ok (.getfield 181, 3) := by decide +kernel
theorem dX12_checkNames_69 : decode cX12_checkNames 69 = .ok (.iload_n 1, 1) := by decide +kernel
theorem dX12_checkNames_70 : decode cX12_checkNames 70 = .ok (.iaload, 1) := by decide +kernel
theorem dX12_checkNames_71 : decode cX12_checkNames 71 = .ok (.invokevirtual 519, 3) := by decide +kernel
theorem dX12_checkNames_74 : decode cX12_checkNames 74 = .ok (.iinc 2 1, 3) := by decide +kernel
theorem dX12_checkNames_77 : decode cX12_checkNames 77 = .ok (.goto (-65), 3) := by decide +kernel
theorem dX12_checkNames_80 : decode cX12_checkNames 80 = .ok (.iinc 1 1, 3) := by decide +kernel
theorem dX12_checkNames_83 : decode cX12_checkNames 83 = .ok (.goto (-81), 3) := by decide +kernel
theorem dX12_checkNames_86 : decode cX12_checkNames 86 = .ok (.return_, 1) := by decide +kernel
theorem dX12_checkNumbers_0 : decode cX12_checkNumbers 0 = .ok (.iconst 0, 1) := by decide +kernel
theorem dX12_checkNumbers_1 : decode cX12_checkNumbers 1 = .ok (.istore_n 1, 1) := by decide +kernel
theorem dX12_checkNumbers_2 : decode cX12_checkNumbers 2 = .ok (.iload_n 1, 1) := by decide +kernel
theorem dX12_checkNumbers_3 : decode cX12_checkNumbers 3 = .ok (.aload_n 0, 1) := by decide +kernel
theorem dX12_checkNumbers_4 : decode cX12_checkNumbers 4 = .ok (.getfield 457, 3) := by decide +kernel
theorem dX12_checkNumbers_7 : decode cX12_checkNumbers 7 = .ok (.if_icmp .ge 115, 3) := by decide +kernel
theorem dX12_checkNumbers_10 : decode cX12_checkNumbers 10 = .ok (.aload_n 0, 1) := by decide +kernel
theorem dX12_checkNumbers_11 : decode cX12_checkNumbers 11 = .ok (.getfield 120, 3) := by decide +kernel
theorem dX12_checkNumbers_14 : decode cX12_checkNumbers 14 = .ok (.iload_n 1, 1) := by decide +kernel
theorem dX12_checkNumbers_15 : decode cX12_checkNumbers 15 = .ok (.laload, 1) := by decide +kernel
theorem dX12_checkNumbers_16 : decode cX12_checkNumbers 16 = .ok (.lstore_n 2, 1) := by decide +kernel
theorem dX12_checkNumbers_17 : decode cX12_checkNumbers 17 = .ok (.lload_n 2, 1) := by decide +kernel
theorem dX12_checkNumbers_18 : decode cX12_checkNumbers 18 = .ok (.lconst 1, 1) := by decide +kernel
theorem dX12_checkNumbers_19 : decode cX12_checkNumbers 19 = .ok (.lcmp, 1) := by decide +kernel
theorem dX12_checkNumbers_20 : decode cX12_checkNumbers 20 = .ok (.ifCond .lt 31, 3) := by decide +kernel
theorem dX12_checkNumbers_23 : decode cX12_checkNumbers 23 = .ok (.lload_n 2, 1) := by decide +kernel
theorem dX12_checkNumbers_24 : decode cX12_checkNumbers 24 = .ok (.ldc2_w 522, 3) := by decide +kernel
theorem dX12_checkNumbers_27 : decode cX12_checkNumbers 27 = .ok (.lcmp, 1) := by decide +kernel
theorem dX12_checkNumbers_28 : decode cX12_checkNumbers 28 = .ok (.ifCond .gt 23, 3) := by decide +kernel
theorem dX12_checkNumbers_31 : decode cX12_checkNumbers 31 = .ok (.lload_n 2, 1) := by decide +kernel
theorem dX12_checkNumbers_32 : decode cX12_checkNumbers 32 = .ok (.ldc2_w 524, 3) := by decide +kernel
theorem dX12_checkNumbers_35 : decode cX12_checkNumbers 35 = .ok (.lcmp, 1) := by decide +kernel
theorem dX12_checkNumbers_36 : decode cX12_checkNumbers 36 = .ok (.ifCond .lt 11, 3) := by decide +kernel
theorem dX12_checkNumbers_39 : decode cX12_checkNumbers 39 = .ok (.lload_n 2, 1) := by decide +kernel
theorem dX12_checkNumbers_40 : decode cX12_checkNumbers 40 = .ok (.ldc2_w 526, 3) := by decide +kernel
theorem dX12_checkNumbers_43 : decode cX12_checkNumbers 43 = .ok (.lcmp, 1) := by decide +kernel
theorem dX12_checkNumbers_44 : decode cX12_checkNumbers 44 = .ok (.ifCond .le 7, 3) := by decide +kernel
theorem dX12_checkNumbers_47 : decode cX12_checkNumbers 47 = .ok (.iconst 1, 1) := by decide +kernel
theorem dX12_checkNumbers_48 : decode cX12_checkNumbers 48 = .ok (.goto 4, 3) := by decide +kernel
theorem dX12_checkNumbers_51 : decode cX12_checkNumbers 51 = .ok (.iconst 0, 1) := by decide +kernel
theorem dX12_checkNumbers_52 : decode cX12_checkNumbers 52 = .ok (.istore 4, 2) := by decide +kernel
theorem dX12_checkNumbers_54 : decode cX12_checkNumbers 54 = .ok (.iconst 0, 1) := by decide +kernel
theorem dX12_checkNumbers_55 : decode cX12_checkNumbers 55 = .ok (.istore 5, 2) := by decide +kernel
theorem dX12_checkNumbers_57 : decode cX12_checkNumbers 57 = .ok (.iload 5, 2) := by decide +kernel
theorem dX12_checkNumbers_59 : decode cX12_checkNumbers 59 = .ok (.iload_n 1, 1) := by decide +kernel
theorem dX12_checkNumbers_60 : decode cX12_checkNumbers 60 = .ok (.if_icmp .ge 40, 3) := by decide +kernel
theorem dX12_checkNumbers_63 : decode cX12_checkNumbers 63 = .ok (.aload_n 0, 1) := by decide +kernel
theorem dX12_checkNumbers_64 : decode cX12_checkNumbers 64 = .ok (.getfield 111, 3) := by decide +kernel
theorem dX12_checkNumbers_67 : decode cX12_checkNumbers 67 = .ok (.iload 5, 2) := by decide +kernel
theorem dX12_checkNumbers_69 : decode cX12_checkNumbers 69 = .ok (.iaload, 1) := by decide +kernel
theorem dX12_checkNumbers_70 : decode cX12_checkNumbers 70 = .ok (.aload_n 0, 1) := by decide +kernel
theorem dX12_checkNumbers_71 : decode cX12_checkNumbers 71 = .ok (.getfield 111, 3) := by decide +kernel
theorem dX12_checkNumbers_74 : decode cX12_checkNumbers 74 = .ok (.iload_n 1, 1) := by decide +kernel
theorem dX12_checkNumbers_75 : decode cX12_checkNumbers 75 = .ok (.iaload, 1) := by decide +kernel
theorem dX12_checkNumbers_76 : decode cX12_checkNumbers 76 = .ok (.if_icmp .ne 18, 3) := by decide +kernel
theorem dX12_checkNumbers_79 : decode cX12_checkNumbers 79 = .ok (.aload_n 0, 1) := by decide +kernel
theorem dX12_checkNumbers_80 : decode cX12_checkNumbers 80 = .ok (.getfield 120, 3) := by decide +kernel
theorem dX12_checkNumbers_83 : decode cX12_checkNumbers 83 = .ok (.iload 5, 2) := by decide +kernel
theorem dX12_checkNumbers_85 : decode cX12_checkNumbers 85 = .ok (.laload, 1) := by decide +kernel
theorem dX12_checkNumbers_86 : decode cX12_checkNumbers 86 = .ok (.lload_n 2, 1) := by decide +kernel
theorem dX12_checkNumbers_87 : decode cX12_checkNumbers 87 = .ok (.lcmp, 1) := by decide +kernel
theorem dX12_checkNumbers_88 : decode cX12_checkNumbers 88 = .ok (.ifCond .ne 6, 3) := by decide +kernel
theorem dX12_checkNumbers_91 : decode cX12_checkNumbers 91 = .ok (.iconst 0, 1) := by decide +kernel
theorem dX12_checkNumbers_92 : decode cX12_checkNumbers 92 = .ok (.istore 4, 2) := by decide +kernel
theorem dX12_checkNumbers_94 : decode cX12_checkNumbers 94 = .ok (.iinc 5 1, 3) := by decide +kernel
theorem dX12_checkNumbers_97 : decode cX12_checkNumbers 97 = .ok (.goto (-40), 3) := by decide +kernel
theorem dX12_checkNumbers_100 : decode cX12_checkNumbers 100 = .ok (.iload 4, 2) := by decide +kernel
theorem dX12_checkNumbers_102 : decode cX12_checkNumbers 102 = .ok (.ifCond .ne 14, 3) := by decide +kernel
theorem dX12_checkNumbers_105 : decode cX12_checkNumbers 105 = .ok (.aload_n 0, 1) := by decide +kernel
theorem dX12_checkNumbers_106 : decode cX12_checkNumbers 106 = .ok (.iconst 4, 1) := by decide +kernel
theorem dX12_checkNumbers_107 : decode cX12_checkNumbers 107 = .ok (.aload_n 0, 1) := by decide +kernel
theorem dX12_checkNumbers_108 : decode cX12_checkNumbers 108 = .ok (.getfield 124, 3) := by decide +kernel
theorem dX12_checkNumbers_111 : decode cX12_checkNumbers 111 = .ok (.iload_n 1, 1) := by decide +kernel
theorem dX12_checkNumbers_112 : decode cX12_checkNumbers 112 = .ok (.iaload, 1) := by decide +kernel
theorem dX12_checkNumbers_113 : decode cX12_checkNumbers 113 = .ok (.invokevirtual 519, 3) := by decide +kernel
theorem dX12_checkNumbers_116 : decode cX12_checkNumbers 116 = .ok (.iinc 1 1, 3) := by decide +kernel
theorem dX12_checkNumbers_119 : decode cX12_checkNumbers 119 = .ok (.goto (-117), 3) := by decide +kernel
theorem dX12_checkNumbers_122 : decode cX12_checkNumbers 122 = .ok (.iconst 0, 1) := by decide +kernel
theorem dX12_checkNumbers_123 : decode cX12_checkNumbers 123 = .ok (.istore_n 1, 1) := by decide +kernel
theorem dX12_checkNumbers_124 : decode cX12_checkNumbers 124 = .ok (.iload_n 1, 1) := by decide +kernel
theorem dX12_checkNumbers_125 : decode cX12_checkNumbers 125 = .ok (.aload_n 0, 1) := by decide +kernel
theorem dX12_checkNumbers_126 : decode cX12_checkNumbers 126 = .ok (.getfield 484, 3) := by decide +kernel
theorem dX12_checkNumbers_129 : decode cX12_checkNumbers 129 = .ok (.if_icmp .ge 89, 3) := by decide +kernel
theorem dX12_checkNumbers_132 : decode cX12_checkNumbers 132 = .ok (.iload_n 1, 1) := by decide +kernel
theorem dX12_checkNumbers_133 : decode cX12_checkNumbers 133 = .ok (.ifCond .eq 20, 3) := by decide +kernel
theorem dX12_checkNumbers_136 : decode cX12_checkNumbers 136 = .ok (.aload_n 0, 1) := by decide +kernel
theorem dX12_checkNumbers_137 : decode cX12_checkNumbers 137 = .ok (.getfield 157, 3) := by decide +kernel
theorem dX12_checkNumbers_140 : decode cX12_checkNumbers 140 = .ok (.iload_n 1, 1) := by decide +kernel
theorem dX12_checkNumbers_141 : decode cX12_checkNumbers 141 = .ok (.iconst 1, 1) := by decide +kernel
theorem dX12_checkNumbers_142 : decode cX12_checkNumbers 142 = .ok (.isub, 1) := by decide +kernel
theorem dX12_checkNumbers_143 : decode cX12_checkNumbers 143 = .ok (.iaload, 1) := by decide +kernel
theorem dX12_checkNumbers_144 : decode cX12_checkNumbers 144 = .ok (.aload_n 0, 1) := by decide +kernel
theorem dX12_checkNumbers_145 : decode cX12_checkNumbers 145 = .ok (.getfield 157, 3) := by decide +kernel
theorem dX12_checkNumbers_148 : decode cX12_checkNumbers 148 = .ok (.iload_n 1, 1) := by decide +kernel
theorem dX12_checkNumbers_149 : decode cX12_checkNumbers 149 = .ok (.iaload, 1) := by decide +kernel
theorem dX12_checkNumbers_150 : decode cX12_checkNumbers 150 = .ok (.if_icmp .eq 7, 3) := by decide +kernel
theorem dX12_checkNumbers_153 : decode cX12_checkNumbers 153 = .ok (.iconst 1, 1) := by decide +kernel
theorem dX12_checkNumbers_154 : decode cX12_checkNumbers 154 = .ok (.goto 4, 3) := by decide +kernel
theorem dX12_checkNumbers_157 : decode cX12_checkNumbers 157 = .ok (.iconst 0, 1) := by decide +kernel
theorem dX12_checkNumbers_158 : decode cX12_checkNumbers 158 = .ok (.istore_n 2, 1) := by decide +kernel
theorem dX12_checkNumbers_159 : decode cX12_checkNumbers 159 = .ok (.iload_n 2, 1) := by decide +kernel
theorem dX12_checkNumbers_160 : decode cX12_checkNumbers 160 = .ok (.ifCond .eq 14, 3) := by decide +kernel
theorem dX12_checkNumbers_163 : decode cX12_checkNumbers 163 = .ok (.aload_n 0, 1) := by decide +kernel
theorem dX12_checkNumbers_164 : decode cX12_checkNumbers 164 = .ok (.getfield 166, 3) := by decide +kernel
theorem dX12_checkNumbers_167 : decode cX12_checkNumbers 167 = .ok (.iload_n 1, 1) := by decide +kernel
theorem dX12_checkNumbers_168 : decode cX12_checkNumbers 168 = .ok (.laload, 1) := by decide +kernel
theorem dX12_checkNumbers_169 : decode cX12_checkNumbers 169 = .ok (.lconst 0, 1) := by decide +kernel
theorem dX12_checkNumbers_170 : decode cX12_checkNumbers 170 = .ok (.lcmp, 1) := by decide +kernel
theorem dX12_checkNumbers_171 : decode cX12_checkNumbers 171 = .ok (.ifCond .ne 29, 3) := by decide +kernel
theorem dX12_checkNumbers_174 : decode cX12_checkNumbers 174 = .ok (.aload_n 0, 1) := by decide +kernel
theorem dX12_checkNumbers_175 : decode cX12_checkNumbers 175 = .ok (.getfield 166, 3) := by decide +kernel
theorem dX12_checkNumbers_178 : decode cX12_checkNumbers 178 = .ok (.iload_n 1, 1) := by decide +kernel
theorem dX12_checkNumbers_179 : decode cX12_checkNumbers 179 = .ok (.laload, 1) := by decide +kernel
theorem dX12_checkNumbers_180 : decode cX12_checkNumbers 180 = .ok (.ldc2_w 528, 3) := by decide +kernel
theorem dX12_checkNumbers_183 : decode cX12_checkNumbers 183 = .ok (.lcmp, 1) := by decide +kernel
theorem dX12_checkNumbers_184 : decode cX12_checkNumbers 184 = .ok (.ifCond .lt 16, 3) := by decide +kernel
theorem dX12_checkNumbers_187 : decode cX12_checkNumbers 187 = .ok (.aload_n 0, 1) := by decide +kernel
theorem dX12_checkNumbers_188 : decode cX12_checkNumbers 188 = .ok (.getfield 166, 3) := by decide +kernel
theorem dX12_checkNumbers_191 : decode cX12_checkNumbers 191 = .ok (.iload_n 1, 1) := by decide +kernel
theorem dX12_checkNumbers_192 : decode cX12_checkNumbers 192 = .ok (.laload, 1) := by decide +kernel
theorem dX12_checkNumbers_193 : decode cX12_checkNumbers 193 = .ok (.ldc2_w 530, 3) := by decide +kernel
theorem dX12_checkNumbers_196 : decode cX12_checkNumbers 196 = .ok (.lcmp, 1) := by decide +kernel
theorem dX12_checkNumbers_197 : decode cX12_checkNumbers 197 = .ok (.ifCond .le 15, 3) := by decide +kernel
theorem dX12_checkNumbers_200 : decode cX12_checkNumbers 200 = .ok (.aload_n 0, 1) := by decide +kernel
theorem dX12_checkNumbers_201 : decode cX12_checkNumbers 201 = .ok (.bipush 6, 2) := by decide +kernel
theorem dX12_checkNumbers_203 : decode cX12_checkNumbers 203 = .ok (.aload_n 0, 1) := by decide +kernel
theorem dX12_checkNumbers_204 : decode cX12_checkNumbers 204 = .ok (.getfield 169, 3) := by decide +kernel
theorem dX12_checkNumbers_207 : decode cX12_checkNumbers 207 = .ok (.iload_n 1, 1) := by decide +kernel
theorem dX12_checkNumbers_208 : decode cX12_checkNumbers 208 = .ok (.iaload, 1) := by decide +kernel
theorem dX12_checkNumbers_209 : decode cX12_checkNumbers 209 = .ok (.invokevirtual 519, 3) := by decide +kernel
theorem dX12_checkNumbers_212 : decode cX12_checkNumbers 212 = .ok (.iinc 1 1, 3) := by decide +kernel
theorem dX12_checkNumbers_215 : decode cX12_checkNumbers 215 = .ok (.goto (-91), 3) := by decide +kernel
theorem dX12_checkNumbers_218 : decode cX12_checkNumbers 218 = .ok (.return_, 1) := by decide +kernel
theorem dX12_inScope_0 : decode cX12_inScope 0 = .ok (.iconst 0, 1) := by decide +kernel
theorem dX12_inScope_1 : decode cX12_inScope 1 = .ok (.istore_n 3, 1) := by decide +kernel
theorem dX12_inScope_2 : decode cX12_inScope 2 = .ok (.iload_n 3, 1) := by decide +kernel
theorem dX12_inScope_3 : decode cX12_inScope 3 = .ok (.aload_n 0, 1) := by decide +kernel
theorem dX12_inScope_4 : decode cX12_inScope 4 = .ok (.getfield 493, 3) := by decide +kernel
theorem dX12_inScope_7 : decode cX12_inScope 7 = .ok (.if_icmp .ge 52, 3) := by decide +kernel
theorem dX12_inScope_10 : decode cX12_inScope 10 = .ok (.aload_n 0, 1) := by decide +kernel
theorem dX12_inScope_11 : decode cX12_inScope 11 = .ok (.getfield 93, 3) := by decide +kernel
theorem dX12_inScope_14 : decode cX12_inScope 14 = .ok (.iload_n 3, 1) := by decide +kernel
theorem dX12_inScope_15 : decode cX12_inScope 15 = .ok (.iaload, 1) := by decide +kernel
theorem dX12_inScope_16 : decode cX12_inScope 16 = .ok (.iload_n 1, 1) := by decide +kernel
theorem dX12_inScope_17 : decode cX12_inScope 17 = .ok (.if_icmp .ne 36, 3) := by decide +kernel
theorem dX12_inScope_20 : decode cX12_inScope 20 = .ok (.aload_n 0, 1) := by decide +kernel
theorem dX12_inScope_21 : decode cX12_inScope 21 = .ok (.aload_n 0, 1) := by decide +kernel
theorem dX12_inScope_22 : decode cX12_inScope 22 = .ok (.getfield 172, 3) := by decide +kernel
theorem dX12_inScope_25 : decode cX12_inScope 25 = .ok (.iload_n 2, 1) := by decide +kernel
theorem dX12_inScope_26 : decode cX12_inScope 26 = .ok (.iaload, 1) := by decide +kernel
theorem dX12_inScope_27 : decode cX12_inScope 27 = .ok (.aload_n 0, 1) := by decide +kernel
theorem dX12_inScope_28 : decode cX12_inScope 28 = .ok (.getfield 175, 3) := by decide +kernel
theorem dX12_inScope_31 : decode cX12_inScope 31 = .ok (.iload_n 2, 1) := by decide +kernel
theorem dX12_inScope_32 : decode cX12_inScope 32 = .ok (.iaload, 1) := by decide +kernel
theorem dX12_inScope_33 : decode cX12_inScope 33 = .ok (.aload_n 0, 1) := by decide +kernel
theorem dX12_inScope_34 : decode cX12_inScope 34 = .ok (.getfield 96, 3) := by decide +kernel
theorem dX12_inScope_37 : decode cX12_inScope 37 = .ok (.iload_n 3, 1) := by decide +kernel
theorem dX12_inScope_38 : decode cX12_inScope 38 = .ok (.iaload, 1) := by decide +kernel
theorem dX12_inScope_39 : decode cX12_inScope 39 = .ok (.aload_n 0, 1) := by decide +kernel
theorem dX12_inScope_40 : decode cX12_inScope 40 = .ok (.getfield 99, 3) := by decide +kernel
theorem dX12_inScope_43 : decode cX12_inScope 43 = .ok (.iload_n 3, 1) := by decide +kernel
theorem dX12_inScope_44 : decode cX12_inScope 44 = .ok (.iaload, 1) := by decide +kernel
theorem dX12_inScope_45 : decode cX12_inScope 45 = .ok (.invokevirtual 515, 3) := by decide +kernel
theorem dX12_inScope_48 : decode cX12_inScope 48 = .ok (.ifCond .eq 5, 3) := by decide +kernel
theorem dX12_inScope_51 : decode cX12_inScope 51 = .ok (.iload_n 3, 1) := by decide +kernel
theorem dX12_inScope_52 : decode cX12_inScope 52 = .ok (.ireturn, 1) := by decide +kernel
theorem dX12_inScope_53 : decode cX12_inScope 53 = .ok (.iinc 3 1, 3) := by decide +kernel
theorem dX12_inScope_56 : decode cX12_inScope 56 = .ok (.goto (-54), 3) := by decide +kernel
theorem dX12_inScope_59 : decode cX12_inScope 59 = .ok (.iconst 0, 1) := by decide +kernel
theorem dX12_inScope_60 : decode cX12_inScope 60 = .ok (.istore_n 3, 1) := by decide +kernel
theorem dX12_inScope_61 : decode cX12_inScope 61 = .ok (.iload_n 3, 1) := by decide +kernel
theorem dX12_inScope_62 : decode cX12_inScope 62 = .ok (.aload_n 0, 1) := by decide +kernel
theorem dX12_inScope_63 : decode cX12_inScope 63 = .ok (.getfield 487, 3) := by decide +kernel
theorem dX12_inScope_66 : decode cX12_inScope 66 = .ok (.if_icmp .ge 56, 3) := by decide +kernel
theorem dX12_inScope_69 : decode cX12_inScope 69 = .ok (.aload_n 0, 1) := by decide +kernel
theorem dX12_inScope_70 : decode cX12_inScope 70 = .ok (.getfield 102, 3) := by decide +kernel
theorem dX12_inScope_73 : decode cX12_inScope 73 = .ok (.iload_n 3, 1) := by decide +kernel
theorem dX12_inScope_74 : decode cX12_inScope 74 = .ok (.iaload, 1) := by decide +kernel
theorem dX12_inScope_75 : decode cX12_inScope 75 = .ok (.iload_n 1, 1) := by decide +kernel
theorem dX12_inScope_76 : decode cX12_inScope 76 = .ok (.if_icmp .ne 40, 3) := by decide +kernel
theorem dX12_inScope_79 : decode cX12_inScope 79 = .ok (.aload_n 0, 1) := by decide +kernel
theorem dX12_inScope_80 : decode cX12_inScope 80 = .ok (.aload_n 0, 1) := by decide +kernel
theorem dX12_inScope_81 : decode cX12_inScope 81 = .ok (.getfield 172, 3) := by decide +kernel
theorem dX12_inScope_84 : decode cX12_inScope 84 = .ok (.iload_n 2, 1) := by decide +kernel
theorem dX12_inScope_85 : decode cX12_inScope 85 = .ok (.iaload, 1) := by decide +kernel
theorem dX12_inScope_86 : decode cX12_inScope 86 = .ok (.aload_n 0, 1) := by decide +kernel
theorem dX12_inScope_87 : decode cX12_inScope 87 = .ok (.getfield 175, 3) := by decide +kernel
theorem dX12_inScope_90 : decode cX12_inScope 90 = .ok (.iload_n 2, 1) := by decide +kernel
theorem dX12_inScope_91 : decode cX12_inScope 91 = .ok (.iaload, 1) := by decide +kernel
theorem dX12_inScope_92 : decode cX12_inScope 92 = .ok (.aload_n 0, 1) := by decide +kernel
theorem dX12_inScope_93 : decode cX12_inScope 93 = .ok (.getfield 105, 3) := by decide +kernel
theorem dX12_inScope_96 : decode cX12_inScope 96 = .ok (.iload_n 3, 1) := by decide +kernel
theorem dX12_inScope_97 : decode cX12_inScope 97 = .ok (.iaload, 1) := by decide +kernel
theorem dX12_inScope_98 : decode cX12_inScope 98 = .ok (.aload_n 0, 1) := by decide +kernel
theorem dX12_inScope_99 : decode cX12_inScope 99 = .ok (.getfield 108, 3) := by decide +kernel
theorem dX12_inScope_102 : decode cX12_inScope 102 = .ok (.iload_n 3, 1) := by decide +kernel
theorem dX12_inScope_103 : decode cX12_inScope 103 = .ok (.iaload, 1) := by decide +kernel
theorem dX12_inScope_104 : decode cX12_inScope 104 = .ok (.invokevirtual 515, 3) := by decide +kernel
theorem dX12_inScope_107 : decode cX12_inScope 107 = .ok (.ifCond .eq 9, 3) := by decide +kernel
theorem dX12_inScope_110 : decode cX12_inScope 110 = .ok (.sipush 1000, 3) := by decide +kernel
theorem dX12_inScope_113 : decode cX12_inScope 113 = .ok (.iload_n 3, 1) := by decide +kernel
theorem dX12_inScope_114 : decode cX12_inScope 114 = .ok (.iadd, 1) := by decide +kernel
theorem dX12_inScope_115 : decode cX12_inScope 115 = .ok (.ireturn, 1) := by decide +kernel
theorem dX12_inScope_116 : decode cX12_inScope 116 = .ok (.iinc 3 1, 3) := by decide +kernel
theorem dX12_inScope_119 : decode cX12_inScope 119 = .ok (.goto (-58), 3) := by decide +kernel
theorem dX12_inScope_122 : decode cX12_inScope 122 = .ok (.iconst (-1), 1) := by decide +kernel
theorem dX12_inScope_123 : decode cX12_inScope 123 = .ok (.ireturn, 1) := by decide +kernel
theorem dX12_resolve_0 : decode cX12_resolve 0 = .ok (.aload_n 0, 1) := by decide +kernel
theorem dX12_resolve_1 : decode cX12_resolve 1 = .ok (.getfield 136, 3) := by decide +kernel
theorem dX12_resolve_4 : decode cX12_resolve 4 = .ok (.iload_n 1, 1) := by decide +kernel
theorem dX12_resolve_5 : decode cX12_resolve 5 = .ok (.baload, 1) := by decide +kernel
theorem dX12_resolve_6 : decode cX12_resolve 6 = .ok (.ifCond .eq 7, 3) := by decide +kernel
theorem dX12_resolve_9 : decode cX12_resolve 9 = .ok (.iconst (-1), 1) := by decide +kernel
theorem dX12_resolve_10 : decode cX12_resolve 10 = .ok (.goto 9, 3) := by decide +kernel
theorem dX12_resolve_13 : decode cX12_resolve 13 = .ok (.aload_n 0, 1) := by decide +kernel
theorem dX12_resolve_14 : decode cX12_resolve 14 = .ok (.getfield 111, 3) := by decide +kernel
theorem dX12_resolve_17 : decode cX12_resolve 17 = .ok (.iload_n 1, 1) := by decide +kernel
theorem dX12_resolve_18 : decode cX12_resolve 18 = .ok (.iaload, 1) := by decide +kernel
theorem dX12_resolve_19 : decode cX12_resolve 19 = .ok (.istore_n 2, 1) := by decide +kernel
theorem dX12_resolve_20 : decode cX12_resolve 20 = .ok (.aload_n 0, 1) := by decide +kernel
theorem dX12_resolve_21 : decode cX12_resolve 21 = .ok (.iload_n 2, 1) := by decide +kernel
theorem dX12_resolve_22 : decode cX12_resolve 22 = .ok (.aload_n 0, 1) := by decide +kernel
theorem dX12_resolve_23 : decode cX12_resolve 23 = .ok (.getfield 139, 3) := by decide +kernel
theorem dX12_resolve_26 : decode cX12_resolve 26 = .ok (.iload_n 1, 1) := by decide +kernel
theorem dX12_resolve_27 : decode cX12_resolve 27 = .ok (.iaload, 1) := by decide +kernel
theorem dX12_resolve_28 : decode cX12_resolve 28 = .ok (.invokevirtual 532, 3) := by decide +kernel
theorem dX12_resolve_31 : decode cX12_resolve 31 = .ok (.istore_n 3, 1) := by decide +kernel
theorem dX12_resolve_32 : decode cX12_resolve 32 = .ok (.iload_n 3, 1) := by decide +kernel
theorem dX12_resolve_33 : decode cX12_resolve 33 = .ok (.iconst (-1), 1) := by decide +kernel
theorem dX12_resolve_34 : decode cX12_resolve 34 = .ok (.if_icmp .ne 30, 3) := by decide +kernel
theorem dX12_resolve_37 : decode cX12_resolve 37 = .ok (.iload_n 2, 1) := by decide +kernel
theorem dX12_resolve_38 : decode cX12_resolve 38 = .ok (.iconst (-1), 1) := by decide +kernel
theorem dX12_resolve_39 : decode cX12_resolve 39 = .ok (.if_icmp .eq 25, 3) := by decide +kernel
theorem dX12_resolve_42 : decode cX12_resolve 42 = .ok (.aload_n 0, 1) := by decide +kernel
theorem dX12_resolve_43 : decode cX12_resolve 43 = .ok (.getfield 93, 3) := by decide +kernel
theorem dX12_resolve_46 : decode cX12_resolve 46 = .ok (.iload_n 2, 1) := by decide +kernel
theorem dX12_resolve_47 : decode cX12_resolve 47 = .ok (.iaload, 1) := by decide +kernel
theorem dX12_resolve_48 : decode cX12_resolve 48 = .ok (.istore_n 2, 1) := by decide +kernel
theorem dX12_resolve_49 : decode cX12_resolve 49 = .ok (.aload_n 0, 1) := by decide +kernel
theorem dX12_resolve_50 : decode cX12_resolve 50 = .ok (.iload_n 2, 1) := by decide +kernel
theorem dX12_resolve_51 : decode cX12_resolve 51 = .ok (.aload_n 0, 1) := by decide +kernel
theorem dX12_resolve_52 : decode cX12_resolve 52 = .ok (.getfield 139, 3) := by decide +kernel
theorem dX12_resolve_55 : decode cX12_resolve 55 = .ok (.iload_n 1, 1) := by decide +kernel
theorem dX12_resolve_56 : decode cX12_resolve 56 = .ok (.iaload, 1) := by decide +kernel
theorem dX12_resolve_57 : decode cX12_resolve 57 = .ok (.invokevirtual 532, 3) := by decide +kernel
theorem dX12_resolve_60 : decode cX12_resolve 60 = .ok (.istore_n 3, 1) := by decide +kernel
theorem dX12_resolve_61 : decode cX12_resolve 61 = .ok (.goto (-29), 3) := by decide +kernel
theorem dX12_resolve_64 : decode cX12_resolve 64 = .ok (.iconst 1, 1) := by decide +kernel
theorem dX12_resolve_65 : decode cX12_resolve 65 = .ok (.istore 4, 2) := by decide +kernel
theorem dX12_resolve_67 : decode cX12_resolve 67 = .ok (.iload 4, 2) := by decide +kernel
theorem dX12_resolve_69 : decode cX12_resolve 69 = .ok (.aload_n 0, 1) := by decide +kernel
theorem dX12_resolve_70 : decode cX12_resolve 70 = .ok (.getfield 142, 3) := by decide +kernel
theorem dX12_resolve_73 : decode cX12_resolve 73 = .ok (.iload_n 1, 1) := by decide +kernel
theorem dX12_resolve_74 : decode cX12_resolve 74 = .ok (.iaload, 1) := by decide +kernel
theorem dX12_resolve_75 : decode cX12_resolve 75 = .ok (.if_icmp .ge 40, 3) := by decide +kernel
theorem dX12_resolve_78 : decode cX12_resolve 78 = .ok (.iload_n 3, 1) := by decide +kernel
theorem dX12_resolve_79 : decode cX12_resolve 79 = .ok (.iconst (-1), 1) := by decide +kernel
theorem dX12_resolve_80 : decode cX12_resolve 80 = .ok (.if_icmp .eq 35, 3) := by decide +kernel
theorem dX12_resolve_83 : decode cX12_resolve 83 = .ok (.iload_n 3, 1) := by decide +kernel
theorem dX12_resolve_84 : decode cX12_resolve 84 = .ok (.sipush 1000, 3) := by decide +kernel
theorem dX12_resolve_87 : decode cX12_resolve 87 = .ok (.if_icmp .lt 7, 3) := by decide +kernel
theorem dX12_resolve_90 : decode cX12_resolve 90 = .ok (.iconst (-1), 1) := by decide +kernel
theorem dX12_resolve_91 : decode cX12_resolve 91 = .ok (.goto 17, 3) := by decide +kernel
theorem dX12_resolve_94 : decode cX12_resolve 94 = .ok (.aload_n 0, 1) := by decide +kernel
theorem dX12_resolve_95 : decode cX12_resolve 95 = .ok (.iload_n 3, 1) := by decide +kernel
theorem dX12_resolve_96 : decode cX12_resolve 96 = .ok (.aload_n 0, 1) := by decide +kernel
theorem dX12_resolve_97 : decode cX12_resolve 97 = .ok (.getfield 139, 3) := by decide +kernel
theorem dX12_resolve_100 : decode cX12_resolve 100 = .ok (.iload_n 1, 1) := by decide +kernel
theorem dX12_resolve_101 : decode cX12_resolve 101 = .ok (.iaload, 1) := by decide +kernel
theorem dX12_resolve_102 : decode cX12_resolve 102 = .ok (.iload 4, 2) := by decide +kernel
theorem dX12_resolve_104 : decode cX12_resolve 104 = .ok (.iadd, 1) := by decide +kernel
theorem dX12_resolve_105 : decode cX12_resolve 105 = .ok (.invokevirtual 532, 3) := by decide +kernel
theorem dX12_resolve_108 : decode cX12_resolve 108 = .ok (.istore_n 3, 1) := by decide +kernel
theorem dX12_resolve_109 : decode cX12_resolve 109 = .ok (.iinc 4 1, 3) := by decide +kernel
theorem dX12_resolve_112 : decode cX12_resolve 112 = .ok (.goto (-45), 3) := by decide +kernel
theorem dX12_resolve_115 : decode cX12_resolve 115 = .ok (.iload_n 3, 1) := by decide +kernel
theorem dX12_resolve_116 : decode cX12_resolve 116 = .ok (.iconst (-1), 1) := by decide +kernel
theorem dX12_resolve_117 : decode cX12_resolve 117 = .ok (.if_icmp .ne 14, 3) := by decide +kernel
theorem dX12_resolve_120 : decode cX12_resolve 120 = .ok (.aload_n 0, 1) := by decide +kernel
theorem dX12_resolve_121 : decode cX12_resolve 121 = .ok (.iconst 5, 1) := by decide +kernel
theorem dX12_resolve_122 : decode cX12_resolve 122 = .ok (.aload_n 0, 1) := by decide +kernel
theorem dX12_resolve_123 : decode cX12_resolve 123 = .ok (.getfield 130, 3) := by decide +kernel
theorem dX12_resolve_126 : decode cX12_resolve 126 = .ok (.iload_n 1, 1) := by decide +kernel
theorem dX12_resolve_127 : decode cX12_resolve 127 = .ok (.iaload, 1) := by decide +kernel
theorem dX12_resolve_128 : decode cX12_resolve 128 = .ok (.invokevirtual 519, 3) := by decide +kernel
theorem dX12_resolve_131 : decode cX12_resolve 131 = .ok (.aload_n 0, 1) := by decide +kernel
theorem dX12_resolve_132 : decode cX12_resolve 132 = .ok (.getfield 127, 3) := by decide +kernel
theorem dX12_resolve_135 : decode cX12_resolve 135 = .ok (.iload_n 1, 1) := by decide +kernel
theorem dX12_resolve_136 : decode cX12_resolve 136 = .ok (.iload_n 3, 1) := by decide +kernel
theorem dX12_resolve_137 : decode cX12_resolve 137 = .ok (.sipush 1000, 3) := by decide +kernel
theorem dX12_resolve_140 : decode cX12_resolve 140 = .ok (.if_icmp .lt 8, 3) := by decide +kernel
theorem dX12_resolve_143 : decode cX12_resolve 143 = .ok (.bipush 14, 2) := by decide +kernel
theorem dX12_resolve_145 : decode cX12_resolve 145 = .ok (.goto 5, 3) := by decide +kernel
theorem dX12_resolve_148 : decode cX12_resolve 148 = .ok (.bipush 13, 2) := by decide +kernel
theorem dX12_resolve_150 : decode cX12_resolve 150 = .ok (.iastore, 1) := by decide +kernel
theorem dX12_resolve_151 : decode cX12_resolve 151 = .ok (.aload_n 0, 1) := by decide +kernel
theorem dX12_resolve_152 : decode cX12_resolve 152 = .ok (.getfield 133, 3) := by decide +kernel
theorem dX12_resolve_155 : decode cX12_resolve 155 = .ok (.iload_n 1, 1) := by decide +kernel
theorem dX12_resolve_156 : decode cX12_resolve 156 = .ok (.iload_n 3, 1) := by decide +kernel
theorem dX12_resolve_157 : decode cX12_resolve 157 = .ok (.sipush 1000, 3) := by decide +kernel
theorem dX12_resolve_160 : decode cX12_resolve 160 = .ok (.if_icmp .lt 11, 3) := by decide +kernel
theorem dX12_resolve_163 : decode cX12_resolve 163 = .ok (.iload_n 3, 1) := by decide +kernel
theorem dX12_resolve_164 : decode cX12_resolve 164 = .ok (.sipush 1000, 3) := by decide +kernel
theorem dX12_resolve_167 : decode cX12_resolve 167 = .ok (.isub, 1) := by decide +kernel
theorem dX12_resolve_168 : decode cX12_resolve 168 = .ok (.goto 4, 3) := by decide +kernel
theorem dX12_resolve_171 : decode cX12_resolve 171 = .ok (.iload_n 3, 1) := by decide +kernel
theorem dX12_resolve_172 : decode cX12_resolve 172 = .ok (.iastore, 1) := by decide +kernel
theorem dX12_resolve_173 : decode cX12_resolve 173 = .ok (.return_, 1) := by decide +kernel
theorem dX12_isNumbers_0 : decode cX12_isNumbers 0 = .ok (.iload_n 0, 1) := by decide +kernel
theorem dX12_isNumbers_1 : decode cX12_isNumbers 1 = .ok (.bipush 11, 2) := by decide +kernel
theorem dX12_isNumbers_3 : decode cX12_isNumbers 3 = .ok (.if_icmp .eq 19, 3) := by decide +kernel
theorem dX12_isNumbers_6 : decode cX12_isNumbers 6 = .ok (.iload_n 0, 1) := by decide +kernel
theorem dX12_isNumbers_7 : decode cX12_isNumbers 7 = .ok (.bipush 12, 2) := by decide +kernel
theorem dX12_isNumbers_9 : decode cX12_isNumbers 9 = .ok (.if_icmp .eq 13, 3) := by decide +kernel
theorem dX12_isNumbers_12 : decode cX12_isNumbers 12 = .ok (.iload_n 0, 1) := by decide +kernel
theorem dX12_isNumbers_13 : decode cX12_isNumbers 13 = .ok (.bipush 13, 2) := by decide +kernel
theorem dX12_isNumbers_15 : decode cX12_isNumbers 15 = .ok (.if_icmp .eq 7, 3) := by decide +kernel
theorem dX12_isNumbers_18 : decode cX12_isNumbers 18 = .ok (.iconst 1, 1) := by decide +kernel
theorem dX12_isNumbers_19 : decode cX12_isNumbers 19 = .ok (.goto 4, 3) := by decide +kernel
theorem dX12_isNumbers_22 : decode cX12_isNumbers 22 = .ok (.iconst 0, 1) := by decide +kernel
theorem dX12_isNumbers_23 : decode cX12_isNumbers 23 = .ok (.ireturn, 1) := by decide +kernel
theorem dX12_checkTypes_0 : decode cX12_checkTypes 0 = .ok (.iconst 0, 1) := by decide +kernel
theorem dX12_checkTypes_1 : decode cX12_checkTypes 1 = .ok (.istore_n 1, 1) := by decide +kernel
theorem dX12_checkTypes_2 : decode cX12_checkTypes 2 = .ok (.iload_n 1, 1) := by decide +kernel
theorem dX12_checkTypes_3 : decode cX12_checkTypes 3 = .ok (.aload_n 0, 1) := by decide +kernel
theorem dX12_checkTypes_4 : decode cX12_checkTypes 4 = .ok (.getfield 457, 3) := by decide +kernel
theorem dX12_checkTypes_7 : decode cX12_checkTypes 7 = .ok (.if_icmp .ge 73, 3) := by decide +kernel
theorem dX12_checkTypes_10 : decode cX12_checkTypes 10 = .ok (.aload_n 0, 1) := by decide +kernel
theorem dX12_checkTypes_11 : decode cX12_checkTypes 11 = .ok (.getfield 133, 3) := by decide +kernel
theorem dX12_checkTypes_14 : decode cX12_checkTypes 14 = .ok (.iload_n 1, 1) := by decide +kernel
theorem dX12_checkTypes_15 : decode cX12_checkTypes 15 = .ok (.iconst (-1), 1) := by decide +kernel
theorem dX12_checkTypes_16 : decode cX12_checkTypes 16 = .ok (.iastore, 1) := by decide +kernel
theorem dX12_checkTypes_17 : decode cX12_checkTypes 17 = .ok (.aload_n 0, 1) := by decide +kernel
theorem dX12_checkTypes_18 : decode cX12_checkTypes 18 = .ok (.getfield 127, 3) := by decide +kernel
theorem dX12_checkTypes_21 : decode cX12_checkTypes 21 = .ok (.iload_n 1, 1) := by decide +kernel
theorem dX12_checkTypes_22 : decode cX12_checkTypes 22 = .ok (.iaload, 1) := by decide +kernel
theorem dX12_checkTypes_23 : decode cX12_checkTypes 23 = .ok (.iconst (-1), 1) := by decide +kernel
theorem dX12_checkTypes_24 : decode cX12_checkTypes 24 = .ok (.if_icmp .ne 8, 3) := by decide +kernel
theorem dX12_checkTypes_27 : decode cX12_checkTypes 27 = .ok (.aload_n 0, 1) := by decide +kernel
theorem dX12_checkTypes_28 : decode cX12_checkTypes 28 = .ok (.iload_n 1, 1) := by decide +kernel
theorem dX12_checkTypes_29 : decode cX12_checkTypes 29 = .ok (.invokevirtual 536, 3) := by decide +kernel
theorem dX12_checkTypes_32 : decode cX12_checkTypes 32 = .ok (.aload_n 0, 1) := by decide +kernel
theorem dX12_checkTypes_33 : decode cX12_checkTypes 33 = .ok (.getfield 148, 3) := by decide +kernel
theorem dX12_checkTypes_36 : decode cX12_checkTypes 36 = .ok (.iload_n 1, 1) := by decide +kernel
theorem dX12_checkTypes_37 : decode cX12_checkTypes 37 = .ok (.iaload, 1) := by decide +kernel
theorem dX12_checkTypes_38 : decode cX12_checkTypes 38 = .ok (.ifCond .le 36, 3) := by decide +kernel
theorem dX12_checkTypes_41 : decode cX12_checkTypes 41 = .ok (.aload_n 0, 1) := by decide +kernel
theorem dX12_checkTypes_42 : decode cX12_checkTypes 42 = .ok (.getfield 145, 3) := by decide +kernel
theorem dX12_checkTypes_45 : decode cX12_checkTypes 45 = .ok (.iload_n 1, 1) := by decide +kernel
theorem dX12_checkTypes_46 : decode cX12_checkTypes 46 = .ok (.baload, 1) := by decide +kernel
theorem dX12_checkTypes_47 : decode cX12_checkTypes 47 = .ok (.ifCond .eq 15, 3) := by decide +kernel
theorem dX12_checkTypes_50 : decode cX12_checkTypes 50 = .ok (.aload_n 0, 1) := by decide +kernel
theorem dX12_checkTypes_51 : decode cX12_checkTypes 51 = .ok (.getfield 127, 3) := by decide +kernel
theorem dX12_checkTypes_54 : decode cX12_checkTypes 54 = .ok (.iload_n 1, 1) := by decide +kernel
theorem dX12_checkTypes_55 : decode cX12_checkTypes 55 = .ok (.iaload, 1) := by decide +kernel
theorem dX12_checkTypes_56 : decode cX12_checkTypes 56 = .ok (.invokestatic 539, 3) := by decide +kernel
theorem dX12_checkTypes_59 : decode cX12_checkTypes 59 = .ok (.ifCond .ne 15, 3) := by decide +kernel
theorem dX12_checkTypes_62 : decode cX12_checkTypes 62 = .ok (.aload_n 0, 1) := by decide +kernel
theorem dX12_checkTypes_63 : decode cX12_checkTypes 63 = .ok (.bipush 6, 2) := by decide +kernel
theorem dX12_checkTypes_65 : decode cX12_checkTypes 65 = .ok (.aload_n 0, 1) := by decide +kernel
theorem dX12_checkTypes_66 : decode cX12_checkTypes 66 = .ok (.getfield 151, 3) := by decide +kernel
theorem dX12_checkTypes_69 : decode cX12_checkTypes 69 = .ok (.iload_n 1, 1) := by decide +kernel
theorem dX12_checkTypes_70 : decode cX12_checkTypes 70 = .ok (.iaload, 1) := by decide +kernel
theorem dX12_checkTypes_71 : decode cX12_checkTypes 71 = .ok (.invokevirtual 519, 3) := by decide +kernel
theorem dX12_checkTypes_74 : decode cX12_checkTypes 74 = .ok (.iinc 1 1, 3) := by decide +kernel
theorem dX12_checkTypes_77 : decode cX12_checkTypes 77 = .ok (.goto (-75), 3) := by decide +kernel
theorem dX12_checkTypes_80 : decode cX12_checkTypes 80 = .ok (.return_, 1) := by decide +kernel
theorem dX12_letters_0 : decode cX12_letters 0 = .ok (.iconst 0, 1) := by decide +kernel
theorem dX12_letters_1 : decode cX12_letters 1 = .ok (.istore_n 2, 1) := by decide +kernel
theorem dX12_letters_2 : decode cX12_letters 2 = .ok (.iload_n 2, 1) := by decide +kernel
theorem dX12_letters_3 : decode cX12_letters 3 = .ok (.bipush 8, 2) := by decide +kernel
theorem dX12_letters_5 : decode cX12_letters 5 = .ok (.if_icmp .ge 20, 3) := by decide +kernel
theorem dX12_letters_8 : decode cX12_letters 8 = .ok (.lload_n 0, 1) := by decide +kernel
theorem dX12_letters_9 : decode cX12_letters 9 = .ok (.bipush 8, 2) := by decide +kernel
theorem dX12_letters_11 : decode cX12_letters 11 = .ok (.iload_n 2, 1) := by decide +kernel
theorem dX12_letters_12 : decode cX12_letters 12 = .ok (.imul, 1) := by decide +kernel
theorem dX12_letters_13 : decode cX12_letters 13 = .ok (.lushr, 1) := by decide +kernel
theorem dX12_letters_14 : decode cX12_letters 14 = .ok (.lconst 0, 1) := by decide +kernel
theorem dX12_letters_15 : decode cX12_letters 15 = .ok (.lcmp, 1) := by decide +kernel
theorem dX12_letters_16 : decode cX12_letters 16 = .ok (.ifCond .eq 9, 3) := by decide +kernel
theorem dX12_letters_19 : decode cX12_letters 19 = .ok (.iinc 2 1, 3) := by decide +kernel
theorem dX12_letters_22 : decode cX12_letters 22 = .ok (.goto (-20), 3) := by decide +kernel
theorem dX12_letters_25 : decode cX12_letters 25 = .ok (.iload_n 2, 1) := by decide +kernel
theorem dX12_letters_26 : decode cX12_letters 26 = .ok (.ireturn, 1) := by decide +kernel
theorem dX12_letter_0 : decode cX12_letter 0 = .ok (.lload_n 0, 1) := by decide +kernel
theorem dX12_letter_1 : decode cX12_letter 1 = .ok (.bipush 8, 2) := by decide +kernel
theorem dX12_letter_3 : decode cX12_letter 3 = .ok (.lload_n 0, 1) := by decide +kernel
theorem dX12_letter_4 : decode cX12_letter 4 = .ok (.invokestatic 334, 3) := by decide +kernel
theorem dX12_letter_7 : decode cX12_letter 7 = .ok (.iconst 1, 1) := by decide +kernel
theorem dX12_letter_8 : decode cX12_letter 8 = .ok (.isub, 1) := by decide +kernel
theorem dX12_letter_9 : decode cX12_letter 9 = .ok (.iload_n 2, 1) := by decide +kernel
theorem dX12_letter_10 : decode cX12_letter 10 = .ok (.isub, 1) := by decide +kernel
theorem dX12_letter_11 : decode cX12_letter 11 = .ok (.imul, 1) := by decide +kernel
theorem dX12_letter_12 : decode cX12_letter 12 = .ok (.lushr, 1) := by decide +kernel
theorem dX12_letter_13 : decode cX12_letter 13 = .ok (.l2i, 1) := by decide +kernel
theorem dX12_letter_14 : decode cX12_letter 14 = .ok (.sipush 255, 3) := by decide +kernel
theorem dX12_letter_17 : decode cX12_letter 17 = .ok (.iand, 1) := by decide +kernel
theorem dX12_letter_18 : decode cX12_letter 18 = .ok (.ireturn, 1) := by decide +kernel
theorem dX12_isPlain_0 : decode cX12_isPlain 0 = .ok (.iload_n 2, 1) := by decide +kernel
theorem dX12_isPlain_1 : decode cX12_isPlain 1 = .ok (.iload_n 1, 1) := by decide +kernel
theorem dX12_isPlain_2 : decode cX12_isPlain 2 = .ok (.isub, 1) := by decide +kernel
theorem dX12_isPlain_3 : decode cX12_isPlain 3 = .ok (.lload_n 3, 1) := by decide +kernel
theorem dX12_isPlain_4 : decode cX12_isPlain 4 = .ok (.invokestatic 334, 3) := by decide +kernel
theorem dX12_isPlain_7 : decode cX12_isPlain 7 = .ok (.if_icmp .eq 5, 3) := by decide +kernel
theorem dX12_isPlain_10 : decode cX12_isPlain 10 = .ok (.iconst 0, 1) := by decide +kernel
theorem dX12_isPlain_11 : decode cX12_isPlain 11 = .ok (.ireturn, 1) := by decide +kernel
theorem dX12_isPlain_12 : decode cX12_isPlain 12 = .ok (.iload_n 1, 1) := by decide +kernel
theorem dX12_isPlain_13 : decode cX12_isPlain 13 = .ok (.istore 5, 2) := by decide +kernel
theorem dX12_isPlain_15 : decode cX12_isPlain 15 = .ok (.iload 5, 2) := by decide +kernel
theorem dX12_isPlain_17 : decode cX12_isPlain 17 = .ok (.iload_n 2, 1) := by decide +kernel
theorem dX12_isPlain_18 : decode cX12_isPlain 18 = .ok (.if_icmp .ge 29, 3) := by decide +kernel
theorem dX12_isPlain_21 : decode cX12_isPlain 21 = .ok (.aload_n 0, 1) := by decide +kernel
theorem dX12_isPlain_22 : decode cX12_isPlain 22 = .ok (.getfield 7, 3) := by decide +kernel
theorem dX12_isPlain_25 : decode cX12_isPlain 25 = .ok (.iload 5, 2) := by decide +kernel
theorem dX12_isPlain_27 : decode cX12_isPlain 27 = .ok (.iaload, 1) := by decide +kernel
theorem dX12_isPlain_28 : decode cX12_isPlain 28 = .ok (.lload_n 3, 1) := by decide +kernel
theorem dX12_isPlain_29 : decode cX12_isPlain 29 = .ok (.iload 5, 2) := by decide +kernel
theorem dX12_isPlain_31 : decode cX12_isPlain 31 = .ok (.iload_n 1, 1) := by decide +kernel
theorem dX12_isPlain_32 : decode cX12_isPlain 32 = .ok (.isub, 1) := by decide +kernel
theorem dX12_isPlain_33 : decode cX12_isPlain 33 = .ok (.invokestatic 338, 3) := by decide +kernel
theorem dX12_isPlain_36 : decode cX12_isPlain 36 = .ok (.if_icmp .eq 5, 3) := by decide +kernel
theorem dX12_isPlain_39 : decode cX12_isPlain 39 = .ok (.iconst 0, 1) := by decide +kernel
theorem dX12_isPlain_40 : decode cX12_isPlain 40 = .ok (.ireturn, 1) := by decide +kernel
theorem dX12_isPlain_41 : decode cX12_isPlain 41 = .ok (.iinc 5 1, 3) := by decide +kernel
theorem dX12_isPlain_44 : decode cX12_isPlain 44 = .ok (.goto (-29), 3) := by decide +kernel
theorem dX12_isPlain_47 : decode cX12_isPlain 47 = .ok (.iconst 1, 1) := by decide +kernel
theorem dX12_isPlain_48 : decode cX12_isPlain 48 = .ok (.ireturn, 1) := by decide +kernel
theorem dX12_isWord_0 : decode cX12_isWord 0 = .ok (.aload_n 0, 1) := by decide +kernel
theorem dX12_isWord_1 : decode cX12_isWord 1 = .ok (.getfield 298, 3) := by decide +kernel
theorem dX12_isWord_4 : decode cX12_isWord 4 = .ok (.iconst 1, 1) := by decide +kernel
theorem dX12_isWord_5 : decode cX12_isWord 5 = .ok (.if_icmp .ne 23, 3) := by decide +kernel
theorem dX12_isWord_8 : decode cX12_isWord 8 = .ok (.aload_n 0, 1) := by decide +kernel
theorem dX12_isWord_9 : decode cX12_isWord 9 = .ok (.aload_n 0, 1) := by decide +kernel
theorem dX12_isWord_10 : decode cX12_isWord 10 = .ok (.getfield 305, 3) := by decide +kernel
theorem dX12_isWord_13 : decode cX12_isWord 13 = .ok (.aload_n 0, 1) := by decide +kernel
theorem dX12_isWord_14 : decode cX12_isWord 14 = .ok (.getfield 316, 3) := by decide +kernel
theorem dX12_isWord_17 : decode cX12_isWord 17 = .ok (.lload_n 1, 1) := by decide +kernel
theorem dX12_isWord_18 : decode cX12_isWord 18 = .ok (.invokevirtual 342, 3) := by decide +kernel
theorem dX12_isWord_21 : decode cX12_isWord 21 = .ok (.ifCond .eq 7, 3) := by decide +kernel
theorem dX12_isWord_24 : decode cX12_isWord 24 = .ok (.iconst 1, 1) := by decide +kernel
theorem dX12_isWord_25 : decode cX12_isWord 25 = .ok (.goto 4, 3) := by decide +kernel
theorem dX12_isWord_28 : decode cX12_isWord 28 = .ok (.iconst 0, 1) := by decide +kernel
theorem dX12_isWord_29 : decode cX12_isWord 29 = .ok (.ireturn, 1) := by decide +kernel
theorem dX12_takeWord_0 : decode cX12_takeWord 0 = .ok (.aload_n 0, 1) := by decide +kernel
theorem dX12_takeWord_1 : decode cX12_takeWord 1 = .ok (.getfield 328, 3) := by decide +kernel
theorem dX12_takeWord_4 : decode cX12_takeWord 4 = .ok (.ifCond .eq 4, 3) := by decide +kernel
theorem dX12_takeWord_7 : decode cX12_takeWord 7 = .ok (.return_, 1) := by decide +kernel
theorem dX12_takeWord_8 : decode cX12_takeWord 8 = .ok (.aload_n 0, 1) := by decide +kernel
theorem dX12_takeWord_9 : decode cX12_takeWord 9 = .ok (.lload_n 1, 1) := by decide +kernel
theorem dX12_takeWord_10 : decode cX12_takeWord 10 = .ok (.invokevirtual 364, 3) := by decide +kernel
theorem dX12_takeWord_13 : decode cX12_takeWord 13 = .ok (.ifCond .eq 10, 3) := by decide +kernel
theorem dX12_takeWord_16 : decode cX12_takeWord 16 = .ok (.aload_n 0, 1) := by decide +kernel
theorem dX12_takeWord_17 : decode cX12_takeWord 17 = .ok (.invokevirtual 357, 3) := by decide +kernel
theorem dX12_takeWord_20 : decode cX12_takeWord 20 = .ok (.goto 12, 3) := by decide +kernel
theorem dX12_takeWord_23 : decode cX12_takeWord 23 = .ok (.aload_n 0, 1) := by decide +kernel
theorem dX12_takeWord_24 : decode cX12_takeWord 24 = .ok (.iconst 1, 1) := by decide +kernel
theorem dX12_takeWord_25 : decode cX12_takeWord 25 = .ok (.aload_n 0, 1) := by decide +kernel
theorem dX12_takeWord_26 : decode cX12_takeWord 26 = .ok (.getfield 305, 3) := by decide +kernel
theorem dX12_takeWord_29 : decode cX12_takeWord 29 = .ok (.invokevirtual 360, 3) := by decide +kernel
theorem dX12_takeWord_32 : decode cX12_takeWord 32 = .ok (.return_, 1) := by decide +kernel
theorem dX12_isProto3_0 : decode cX12_isProto3 0 = .ok (.aload_n 0, 1) := by decide +kernel
theorem dX12_isProto3_1 : decode cX12_isProto3 1 = .ok (.getfield 298, 3) := by decide +kernel
theorem dX12_isProto3_4 : decode cX12_isProto3 4 = .ok (.iconst 3, 1) := by decide +kernel
theorem dX12_isProto3_5 : decode cX12_isProto3 5 = .ok (.if_icmp .ne 29, 3) := by decide +kernel
theorem dX12_isProto3_8 : decode cX12_isProto3 8 = .ok (.aload_n 0, 1) := by decide +kernel
theorem dX12_isProto3_9 : decode cX12_isProto3 9 = .ok (.aload_n 0, 1) := by decide +kernel
theorem dX12_isProto3_10 : decode cX12_isProto3 10 = .ok (.getfield 305, 3) := by decide +kernel
theorem dX12_isProto3_13 : decode cX12_isProto3 13 = .ok (.iconst 1, 1) := by decide +kernel
theorem dX12_isProto3_14 : decode cX12_isProto3 14 = .ok (.iadd, 1) := by decide +kernel
theorem dX12_isProto3_15 : decode cX12_isProto3 15 = .ok (.aload_n 0, 1) := by decide +kernel
theorem dX12_isProto3_16 : decode cX12_isProto3 16 = .ok (.getfield 316, 3) := by decide +kernel
theorem dX12_isProto3_19 : decode cX12_isProto3 19 = .ok (.iconst 1, 1) := by decide +kernel
theorem dX12_isProto3_20 : decode cX12_isProto3 20 = .ok (.isub, 1) := by decide +kernel
theorem dX12_isProto3_21 : decode cX12_isProto3 21 = .ok (.ldc2_w 505, 3) := by decide +kernel
theorem dX12_isProto3_24 : decode cX12_isProto3 24 = .ok (.invokevirtual 342, 3) := by decide +kernel
theorem dX12_isProto3_27 : decode cX12_isProto3 27 = .ok (.ifCond .eq 7, 3) := by decide +kernel
theorem dX12_isProto3_30 : decode cX12_isProto3 30 = .ok (.iconst 1, 1) := by decide +kernel
theorem dX12_isProto3_31 : decode cX12_isProto3 31 = .ok (.goto 4, 3) := by decide +kernel
theorem dX12_isProto3_34 : decode cX12_isProto3 34 = .ok (.iconst 0, 1) := by decide +kernel
theorem dX12_isProto3_35 : decode cX12_isProto3 35 = .ok (.ireturn, 1) := by decide +kernel
theorem dX12_isExtensions_0 : decode cX12_isExtensions 0 = .ok (.aload_n 0, 1) := by decide +kernel
theorem dX12_isExtensions_1 : decode cX12_isExtensions 1 = .ok (.getfield 298, 3) := by decide +kernel
theorem dX12_isExtensions_4 : decode cX12_isExtensions 4 = .ok (.iconst 1, 1) := by decide +kernel
theorem dX12_isExtensions_5 : decode cX12_isExtensions 5 = .ok (.if_icmp .ne 63, 3) := by decide +kernel
theorem dX12_isExtensions_8 : decode cX12_isExtensions 8 = .ok (.aload_n 0, 1) := by decide +kernel
theorem dX12_isExtensions_9 : decode cX12_isExtensions 9 = .ok (.getfield 316, 3) := by decide +kernel
theorem dX12_isExtensions_12 : decode cX12_isExtensions 12 = .ok (.aload_n 0, 1) := by decide +kernel
theorem dX12_isExtensions_13 : decode cX12_isExtensions 13 = .ok (.getfield 305, 3) := by decide +kernel
theorem dX12_isExtensions_16 : decode cX12_isExtensions 16 = .ok (.isub, 1) := by decide +kernel
theorem dX12_isExtensions_17 : decode cX12_isExtensions 17 = .ok (.bipush 10, 2) := by decide +kernel
theorem dX12_isExtensions_19 : decode cX12_isExtensions 19 = .ok (.if_icmp .ne 49, 3) := by decide +kernel
theorem dX12_isExtensions_22 : decode cX12_isExtensions 22 = .ok (.aload_n 0, 1) := by decide +kernel
theorem dX12_isExtensions_23 : decode cX12_isExtensions 23 = .ok (.aload_n 0, 1) := by decide +kernel
theorem dX12_isExtensions_24 : decode cX12_isExtensions 24 = .ok (.getfield 305, 3) := by decide +kernel
theorem dX12_isExtensions_27 : decode cX12_isExtensions 27 = .ok (.aload_n 0, 1) := by decide +kernel
theorem dX12_isExtensions_28 : decode cX12_isExtensions 28 = .ok (.getfield 305, 3) := by decide +kernel
theorem dX12_isExtensions_31 : decode cX12_isExtensions 31 = .ok (.bipush 8, 2) := by decide +kernel
theorem dX12_isExtensions_33 : decode cX12_isExtensions 33 = .ok (.iadd, 1) := by decide +kernel
theorem dX12_isExtensions_34 : decode cX12_isExtensions 34 = .ok (.ldc2_w 346, 3) := by decide +kernel
theorem dX12_isExtensions_37 : decode cX12_isExtensions 37 = .ok (.invokevirtual 342, 3) := by decide +kernel
theorem dX12_isExtensions_40 : decode cX12_isExtensions 40 = .ok (.ifCond .eq 28, 3) := by decide +kernel
theorem dX12_isExtensions_43 : decode cX12_isExtensions 43 = .ok (.aload_n 0, 1) := by decide +kernel
theorem dX12_isExtensions_44 : decode cX12_isExtensions 44 = .ok (.aload_n 0, 1) := by decide +kernel
theorem dX12_isExtensions_45 : decode cX12_isExtensions 45 = .ok (.getfield 305, 3) := by decide +kernel
theorem dX12_isExtensions_48 : decode cX12_isExtensions 48 = .ok (.bipush 8, 2) := by decide +kernel
theorem dX12_isExtensions_50 : decode cX12_isExtensions 50 = .ok (.iadd, 1) := by decide +kernel
theorem dX12_isExtensions_51 : decode cX12_isExtensions 51 = .ok (.aload_n 0, 1) := by decide +kernel
theorem dX12_isExtensions_52 : decode cX12_isExtensions 52 = .ok (.getfield 316, 3) := by decide +kernel
theorem dX12_isExtensions_55 : decode cX12_isExtensions 55 = .ok (.ldc2_w 348, 3) := by decide +kernel
theorem dX12_isExtensions_58 : decode cX12_isExtensions 58 = .ok (.invokevirtual 342, 3) := by decide +kernel
theorem dX12_isExtensions_61 : decode cX12_isExtensions 61 = .ok (.ifCond .eq 7, 3) := by decide +kernel
theorem dX12_isExtensions_64 : decode cX12_isExtensions 64 = .ok (.iconst 1, 1) := by decide +kernel
theorem dX12_isExtensions_65 : decode cX12_isExtensions 65 = .ok (.goto 4, 3) := by decide +kernel
theorem dX12_isExtensions_68 : decode cX12_isExtensions 68 = .ok (.iconst 0, 1) := by decide +kernel
theorem dX12_isExtensions_69 : decode cX12_isExtensions 69 = .ok (.ireturn, 1) := by decide +kernel
theorem dX12_isForeign_0 : decode cX12_isForeign 0 = .ok (.aload_n 0, 1) := by decide +kernel
theorem dX12_isForeign_1 : decode cX12_isForeign 1 = .ok (.ldc2_w 368, 3) := by decide +kernel
theorem dX12_isForeign_4 : decode cX12_isForeign 4 = .ok (.invokevirtual 364, 3) := by decide +kernel
theorem dX12_isForeign_7 : decode cX12_isForeign 7 = .ok (.ifCond .ne 110, 3) := by decide +kernel
theorem dX12_isForeign_10 : decode cX12_isForeign 10 = .ok (.aload_n 0, 1) := by decide +kernel
theorem dX12_isForeign_11 : decode cX12_isForeign 11 = .ok (.ldc2_w 370, 3) := by decide +kernel
theorem dX12_isForeign_14 : decode cX12_isForeign 14 = .ok (.invokevirtual 364, 3) := by decide +kernel
theorem dX12_isForeign_17 : decode cX12_isForeign 17 = .ok (.ifCond .ne 100, 3) := by decide +kernel
theorem dX12_isForeign_20 : decode cX12_isForeign 20 = .ok (.aload_n 0, 1) := by decide +kernel
theorem dX12_isForeign_21 : decode cX12_isForeign 21 = .ok (.ldc2_w 372, 3) := by decide +kernel
theorem dX12_isForeign_24 : decode cX12_isForeign 24 = .ok (.invokevirtual 364, 3) := by decide +kernel
theorem dX12_isForeign_27 : decode cX12_isForeign 27 = .ok (.ifCond .ne 90, 3) := by decide +kernel
theorem dX12_isForeign_30 : decode cX12_isForeign 30 = .ok (.aload_n 0, 1) := by decide +kernel
theorem dX12_isForeign_31 : decode cX12_isForeign 31 = .ok (.ldc2_w 374, 3) := by decide +kernel
theorem dX12_isForeign_34 : decode cX12_isForeign 34 = .ok (.invokevirtual 364, 3) := by decide +kernel
theorem dX12_isForeign_37 : decode cX12_isForeign 37 = .ok (.ifCond .ne 80, 3) := by decide +kernel
theorem dX12_isForeign_40 : decode cX12_isForeign 40 = .ok (.aload_n 0, 1) := by decide +kernel
theorem dX12_isForeign_41 : decode cX12_isForeign 41 = .ok (.ldc2_w 376, 3) := by decide +kernel
theorem dX12_isForeign_44 : decode cX12_isForeign 44 = .ok (.invokevirtual 364, 3) := by decide +kernel
theorem dX12_isForeign_47 : decode cX12_isForeign 47 = .ok (.ifCond .ne 70, 3) := by decide +kernel
theorem dX12_isForeign_50 : decode cX12_isForeign 50 = .ok (.aload_n 0, 1) := by decide +kernel
theorem dX12_isForeign_51 : decode cX12_isForeign 51 = .ok (.ldc2_w 378, 3) := by decide +kernel
theorem dX12_isForeign_54 : decode cX12_isForeign 54 = .ok (.invokevirtual 364, 3) := by decide +kernel
theorem dX12_isForeign_57 : decode cX12_isForeign 57 = .ok (.ifCond .ne 60, 3) := by decide +kernel
theorem dX12_isForeign_60 : decode cX12_isForeign 60 = .ok (.aload_n 0, 1) := by decide +kernel
theorem dX12_isForeign_61 : decode cX12_isForeign 61 = .ok (.ldc2_w 380, 3) := by decide +kernel
theorem dX12_isForeign_64 : decode cX12_isForeign 64 = .ok (.invokevirtual 364, 3) := by decide +kernel
theorem dX12_isForeign_67 : decode cX12_isForeign 67 = .ok (.ifCond .ne 50, 3) := by decide +kernel
theorem dX12_isForeign_70 : decode cX12_isForeign 70 = .ok (.aload_n 0, 1) := by decide +kernel
theorem dX12_isForeign_71 : decode cX12_isForeign 71 = .ok (.ldc2_w 382, 3) := by decide +kernel
theorem dX12_isForeign_74 : decode cX12_isForeign 74 = .ok (.invokevirtual 364, 3) := by decide +kernel
theorem dX12_isForeign_77 : decode cX12_isForeign 77 = .ok (.ifCond .ne 40, 3) := by decide +kernel
theorem dX12_isForeign_80 : decode cX12_isForeign 80 = .ok (.aload_n 0, 1) := by decide +kernel
theorem dX12_isForeign_81 : decode cX12_isForeign 81 = .ok (.ldc2_w 384, 3) := by decide +kernel
theorem dX12_isForeign_84 : decode cX12_isForeign 84 = .ok (.invokevirtual 364, 3) := by decide +kernel
theorem dX12_isForeign_87 : decode cX12_isForeign 87 = .ok (.ifCond .ne 30, 3) := by decide +kernel
theorem dX12_isForeign_90 : decode cX12_isForeign 90 = .ok (.aload_n 0, 1) := by decide +kernel
theorem dX12_isForeign_91 : decode cX12_isForeign 91 = .ok (.invokevirtual 386, 3) := by decide +kernel
theorem dX12_isForeign_94 : decode cX12_isForeign 94 = .ok (.ifCond .ne 23, 3) := by decide +kernel
theorem dX12_isForeign_97 : decode cX12_isForeign 97 = .ok (.aload_n 0, 1) := by decide +kernel
theorem dX12_isForeign_98 : decode cX12_isForeign 98 = .ok (.ldc2_w 390, 3) := by decide +kernel
theorem dX12_isForeign_101 : decode cX12_isForeign 101 = .ok (.invokevirtual 364, 3) := by decide +kernel
theorem dX12_isForeign_104 : decode cX12_isForeign 104 = .ok (.ifCond .ne 13, 3) := by decide +kernel
theorem dX12_isForeign_107 : decode cX12_isForeign 107 = .ok (.aload_n 0, 1) := by decide +kernel
theorem dX12_isForeign_108 : decode cX12_isForeign 108 = .ok (.ldc2_w 392, 3) := by decide +kernel
theorem dX12_isForeign_111 : decode cX12_isForeign 111 = .ok (.invokevirtual 364, 3) := by decide +kernel
theorem dX12_isForeign_114 : decode cX12_isForeign 114 = .ok (.ifCond .eq 7, 3) := by decide +kernel
theorem dX12_isForeign_117 : decode cX12_isForeign 117 = .ok (.iconst 1, 1) := by decide +kernel
theorem dX12_isForeign_118 : decode cX12_isForeign 118 = .ok (.goto 4, 3) := by decide +kernel
theorem dX12_isForeign_121 : decode cX12_isForeign 121 = .ok (.iconst 0, 1) := by decide +kernel
theorem dX12_isForeign_122 : decode cX12_isForeign 122 = .ok (.ireturn, 1) := by decide +kernel
theorem dX12_takeValue_0 : decode cX12_takeValue 0 = .ok (.aload_n 0, 1) := by decide +kernel
theorem dX12_takeValue_1 : decode cX12_takeValue 1 = .ok (.invokevirtual 478, 3) := by decide +kernel
theorem dX12_takeValue_4 : decode cX12_takeValue 4 = .ok (.ifCond .eq 12, 3) := by decide +kernel
theorem dX12_takeValue_7 : decode cX12_takeValue 7 = .ok (.aload_n 0, 1) := by decide +kernel
theorem dX12_takeValue_8 : decode cX12_takeValue 8 = .ok (.iconst 2, 1) := by decide +kernel
theorem dX12_takeValue_9 : decode cX12_takeValue 9 = .ok (.aload_n 0, 1) := by decide +kernel
theorem dX12_takeValue_10 : decode cX12_takeValue 10 = .ok (.getfield 305, 3) := by decide +kernel
theorem dX12_takeValue_13 : decode cX12_takeValue 13 = .ok (.invokevirtual 360, 3) := by decide +kernel
theorem dX12_takeValue_16 : decode cX12_takeValue 16 = .ok (.aload_n 0, 1) := by decide +kernel
theorem dX12_takeValue_17 : decode cX12_takeValue 17 = .ok (.iload_n 1, 1) := by decide +kernel
theorem dX12_takeValue_18 : decode cX12_takeValue 18 = .ok (.invokevirtual 463, 3) := by decide +kernel
theorem dX12_takeValue_21 : decode cX12_takeValue 21 = .ok (.aload_n 0, 1) := by decide +kernel
theorem dX12_takeValue_22 : decode cX12_takeValue 22 = .ok (.getfield 484, 3) := by decide +kernel
theorem dX12_takeValue_25 : decode cX12_takeValue 25 = .ok (.istore_n 2, 1) := by decide +kernel
theorem dX12_takeValue_26 : decode cX12_takeValue 26 = .ok (.aload_n 0, 1) := by decide +kernel
theorem dX12_takeValue_27 : decode cX12_takeValue 27 = .ok (.getfield 157, 3) := by decide +kernel
theorem dX12_takeValue_30 : decode cX12_takeValue 30 = .ok (.iload_n 2, 1) := by decide +kernel
theorem dX12_takeValue_31 : decode cX12_takeValue 31 = .ok (.aload_n 0, 1) := by decide +kernel
theorem dX12_takeValue_32 : decode cX12_takeValue 32 = .ok (.getfield 487, 3) := by decide +kernel
theorem dX12_takeValue_35 : decode cX12_takeValue 35 = .ok (.iconst 1, 1) := by decide +kernel
theorem dX12_takeValue_36 : decode cX12_takeValue 36 = .ok (.isub, 1) := by decide +kernel
theorem dX12_takeValue_37 : decode cX12_takeValue 37 = .ok (.iastore, 1) := by decide +kernel
theorem dX12_takeValue_38 : decode cX12_takeValue 38 = .ok (.aload_n 0, 1) := by decide +kernel
theorem dX12_takeValue_39 : decode cX12_takeValue 39 = .ok (.getfield 160, 3) := by decide +kernel
theorem dX12_takeValue_42 : decode cX12_takeValue 42 = .ok (.iload_n 2, 1) := by decide +kernel
theorem dX12_takeValue_43 : decode cX12_takeValue 43 = .ok (.aload_n 0, 1) := by decide +kernel
theorem dX12_takeValue_44 : decode cX12_takeValue 44 = .ok (.invokevirtual 466, 3) := by decide +kernel
theorem dX12_takeValue_47 : decode cX12_takeValue 47 = .ok (.iastore, 1) := by decide +kernel
theorem dX12_takeValue_48 : decode cX12_takeValue 48 = .ok (.aload_n 0, 1) := by decide +kernel
theorem dX12_takeValue_49 : decode cX12_takeValue 49 = .ok (.getfield 163, 3) := by decide +kernel
theorem dX12_takeValue_52 : decode cX12_takeValue 52 = .ok (.iload_n 2, 1) := by decide +kernel
theorem dX12_takeValue_53 : decode cX12_takeValue 53 = .ok (.aload_n 0, 1) := by decide +kernel
theorem dX12_takeValue_54 : decode cX12_takeValue 54 = .ok (.invokevirtual 469, 3) := by decide +kernel
theorem dX12_takeValue_57 : decode cX12_takeValue 57 = .ok (.iastore, 1) := by decide +kernel
theorem dX12_takeValue_58 : decode cX12_takeValue 58 = .ok (.aload_n 0, 1) := by decide +kernel
theorem dX12_takeValue_59 : decode cX12_takeValue 59 = .ok (.bipush 61, 2) := by decide +kernel
theorem dX12_takeValue_61 : decode cX12_takeValue 61 = .ok (.invokevirtual 450, 3) := by decide +kernel
theorem dX12_takeValue_64 : decode cX12_takeValue 64 = .ok (.aload_n 0, 1) := by decide +kernel
theorem dX12_takeValue_65 : decode cX12_takeValue 65 = .ok (.getfield 328, 3) := by decide +kernel
theorem dX12_takeValue_68 : decode cX12_takeValue 68 = .ok (.ifCond .eq 4, 3) := by decide +kernel
theorem dX12_takeValue_71 : decode cX12_takeValue 71 = .ok (.return_, 1) := by decide +kernel
theorem dX12_takeValue_72 : decode cX12_takeValue 72 = .ok (.aload_n 0, 1) := by decide +kernel
theorem dX12_takeValue_73 : decode cX12_takeValue 73 = .ok (.bipush 45, 2) := by decide +kernel
theorem dX12_takeValue_75 : decode cX12_takeValue 75 = .ok (.invokevirtual 354, 3) := by decide +kernel
theorem dX12_takeValue_78 : decode cX12_takeValue 78 = .ok (.istore_n 3, 1) := by decide +kernel
theorem dX12_takeValue_79 : decode cX12_takeValue 79 = .ok (.aload_n 0, 1) := by decide +kernel
theorem dX12_takeValue_80 : decode cX12_takeValue 80 = .ok (.getfield 169, 3) := by decide +kernel
theorem dX12_takeValue_83 : decode cX12_takeValue 83 = .ok (.iload_n 2, 1) := by decide +kernel
theorem dX12_takeValue_84 : decode cX12_takeValue 84 = .ok (.aload_n 0, 1) := by decide +kernel
theorem dX12_takeValue_85 : decode cX12_takeValue 85 = .ok (.getfield 305, 3) := by decide +kernel
theorem dX12_takeValue_88 : decode cX12_takeValue 88 = .ok (.iastore, 1) := by decide +kernel
theorem dX12_takeValue_89 : decode cX12_takeValue 89 = .ok (.iload_n 3, 1) := by decide +kernel
theorem dX12_takeValue_90 : decode cX12_takeValue 90 = .ok (.ifCond .eq 7, 3) := by decide +kernel
theorem dX12_takeValue_93 : decode cX12_takeValue 93 = .ok (.aload_n 0, 1) := by decide +kernel
theorem dX12_takeValue_94 : decode cX12_takeValue 94 = .ok (.invokevirtual 357, 3) := by decide +kernel
theorem dX12_takeValue_97 : decode cX12_takeValue 97 = .ok (.aload_n 0, 1) := by decide +kernel
theorem dX12_takeValue_98 : decode cX12_takeValue 98 = .ok (.getfield 298, 3) := by decide +kernel
theorem dX12_takeValue_101 : decode cX12_takeValue 101 = .ok (.iconst 2, 1) := by decide +kernel
theorem dX12_takeValue_102 : decode cX12_takeValue 102 = .ok (.if_icmp .eq 13, 3) := by decide +kernel
theorem dX12_takeValue_105 : decode cX12_takeValue 105 = .ok (.aload_n 0, 1) := by decide +kernel
theorem dX12_takeValue_106 : decode cX12_takeValue 106 = .ok (.iconst 1, 1) := by decide +kernel
theorem dX12_takeValue_107 : decode cX12_takeValue 107 = .ok (.aload_n 0, 1) := by decide +kernel
theorem dX12_takeValue_108 : decode cX12_takeValue 108 = .ok (.getfield 305, 3) := by decide +kernel
theorem dX12_takeValue_111 : decode cX12_takeValue 111 = .ok (.invokevirtual 360, 3) := by decide +kernel
theorem dX12_takeValue_114 : decode cX12_takeValue 114 = .ok (.return_, 1) := by decide +kernel
theorem dX12_takeValue_115 : decode cX12_takeValue 115 = .ok (.aload_n 0, 1) := by decide +kernel
theorem dX12_takeValue_116 : decode cX12_takeValue 116 = .ok (.getfield 166, 3) := by decide +kernel
theorem dX12_takeValue_119 : decode cX12_takeValue 119 = .ok (.iload_n 2, 1) := by decide +kernel
theorem dX12_takeValue_120 : decode cX12_takeValue 120 = .ok (.iload_n 3, 1) := by decide +kernel
theorem dX12_takeValue_121 : decode cX12_takeValue 121 = .ok (.ifCond .eq 11, 3) := by decide +kernel
theorem dX12_takeValue_124 : decode cX12_takeValue 124 = .ok (.aload_n 0, 1) := by decide +kernel
theorem dX12_takeValue_125 : decode cX12_takeValue 125 = .ok (.getfield 301, 3) := by decide +kernel
theorem dX12_takeValue_128 : decode cX12_takeValue 128 = .ok (.lneg, 1) := by decide +kernel
theorem dX12_takeValue_129 : decode cX12_takeValue 129 = .ok (.goto 7, 3) := by decide +kernel
theorem dX12_takeValue_132 : decode cX12_takeValue 132 = .ok (.aload_n 0, 1) := by decide +kernel
theorem dX12_takeValue_133 : decode cX12_takeValue 133 = .ok (.getfield 301, 3) := by decide +kernel
theorem dX12_takeValue_136 : decode cX12_takeValue 136 = .ok (.lastore, 1) := by decide +kernel
theorem dX12_takeValue_137 : decode cX12_takeValue 137 = .ok (.aload_n 0, 1) := by decide +kernel
theorem dX12_takeValue_138 : decode cX12_takeValue 138 = .ok (.dup, 1) := by decide +kernel
theorem dX12_takeValue_139 : decode cX12_takeValue 139 = .ok (.getfield 484, 3) := by decide +kernel
theorem dX12_takeValue_142 : decode cX12_takeValue 142 = .ok (.iconst 1, 1) := by decide +kernel
theorem dX12_takeValue_143 : decode cX12_takeValue 143 = .ok (.iadd, 1) := by decide +kernel
theorem dX12_takeValue_144 : decode cX12_takeValue 144 = .ok (.putfield 484, 3) := by decide +kernel
theorem dX12_takeValue_147 : decode cX12_takeValue 147 = .ok (.aload_n 0, 1) := by decide +kernel
theorem dX12_takeValue_148 : decode cX12_takeValue 148 = .ok (.invokevirtual 357, 3) := by decide +kernel
theorem dX12_takeValue_151 : decode cX12_takeValue 151 = .ok (.aload_n 0, 1) := by decide +kernel
theorem dX12_takeValue_152 : decode cX12_takeValue 152 = .ok (.bipush 59, 2) := by decide +kernel
theorem dX12_takeValue_154 : decode cX12_takeValue 154 = .ok (.invokevirtual 450, 3) := by decide +kernel
theorem dX12_takeValue_157 : decode cX12_takeValue 157 = .ok (.return_, 1) := by decide +kernel
theorem dX12_takeEnum_0 : decode cX12_takeEnum 0 = .ok (.aload_n 0, 1) := by decide +kernel
theorem dX12_takeEnum_1 : decode cX12_takeEnum 1 = .ok (.invokevirtual 357, 3) := by decide +kernel
theorem dX12_takeEnum_4 : decode cX12_takeEnum 4 = .ok (.aload_n 0, 1) := by decide +kernel
theorem dX12_takeEnum_5 : decode cX12_takeEnum 5 = .ok (.iload_n 1, 1) := by decide +kernel
theorem dX12_takeEnum_6 : decode cX12_takeEnum 6 = .ok (.invokevirtual 463, 3) := by decide +kernel
theorem dX12_takeEnum_9 : decode cX12_takeEnum 9 = .ok (.aload_n 0, 1) := by decide +kernel
theorem dX12_takeEnum_10 : decode cX12_takeEnum 10 = .ok (.getfield 102, 3) := by decide +kernel
theorem dX12_takeEnum_13 : decode cX12_takeEnum 13 = .ok (.aload_n 0, 1) := by decide +kernel
theorem dX12_takeEnum_14 : decode cX12_takeEnum 14 = .ok (.getfield 487, 3) := by decide +kernel
theorem dX12_takeEnum_17 : decode cX12_takeEnum 17 = .ok (.iload_n 1, 1) := by decide +kernel
theorem dX12_takeEnum_18 : decode cX12_takeEnum 18 = .ok (.iastore, 1) := by decide +kernel
theorem dX12_takeEnum_19 : decode cX12_takeEnum 19 = .ok (.aload_n 0, 1) := by decide +kernel
theorem dX12_takeEnum_20 : decode cX12_takeEnum 20 = .ok (.getfield 105, 3) := by decide +kernel
theorem dX12_takeEnum_23 : decode cX12_takeEnum 23 = .ok (.aload_n 0, 1) := by decide +kernel
theorem dX12_takeEnum_24 : decode cX12_takeEnum 24 = .ok (.getfield 487, 3) := by decide +kernel
theorem dX12_takeEnum_27 : decode cX12_takeEnum 27 = .ok (.aload_n 0, 1) := by decide +kernel
theorem dX12_takeEnum_28 : decode cX12_takeEnum 28 = .ok (.invokevirtual 466, 3) := by decide +kernel
theorem dX12_takeEnum_31 : decode cX12_takeEnum 31 = .ok (.iastore, 1) := by decide +kernel
theorem dX12_takeEnum_32 : decode cX12_takeEnum 32 = .ok (.aload_n 0, 1) := by decide +kernel
theorem dX12_takeEnum_33 : decode cX12_takeEnum 33 = .ok (.getfield 108, 3) := by decide +kernel
theorem dX12_takeEnum_36 : decode cX12_takeEnum 36 = .ok (.aload_n 0, 1) := by decide +kernel
theorem dX12_takeEnum_37 : decode cX12_takeEnum 37 = .ok (.getfield 487, 3) := by decide +kernel
theorem dX12_takeEnum_40 : decode cX12_takeEnum 40 = .ok (.aload_n 0, 1) := by decide +kernel
theorem dX12_takeEnum_41 : decode cX12_takeEnum 41 = .ok (.invokevirtual 469, 3) := by decide +kernel
theorem dX12_takeEnum_44 : decode cX12_takeEnum 44 = .ok (.iastore, 1) := by decide +kernel
theorem dX12_takeEnum_45 : decode cX12_takeEnum 45 = .ok (.aload_n 0, 1) := by decide +kernel
theorem dX12_takeEnum_46 : decode cX12_takeEnum 46 = .ok (.dup, 1) := by decide +kernel
theorem dX12_takeEnum_47 : decode cX12_takeEnum 47 = .ok (.getfield 487, 3) := by decide +kernel
theorem dX12_takeEnum_50 : decode cX12_takeEnum 50 = .ok (.iconst 1, 1) := by decide +kernel
theorem dX12_takeEnum_51 : decode cX12_takeEnum 51 = .ok (.iadd, 1) := by decide +kernel
theorem dX12_takeEnum_52 : decode cX12_takeEnum 52 = .ok (.putfield 487, 3) := by decide +kernel
theorem dX12_takeEnum_55 : decode cX12_takeEnum 55 = .ok (.aload_n 0, 1) := by decide +kernel
theorem dX12_takeEnum_56 : decode cX12_takeEnum 56 = .ok (.bipush 123, 2) := by decide +kernel
theorem dX12_takeEnum_58 : decode cX12_takeEnum 58 = .ok (.invokevirtual 450, 3) := by decide +kernel
theorem dX12_takeEnum_61 : decode cX12_takeEnum 61 = .ok (.iconst 1, 1) := by decide +kernel
theorem dX12_takeEnum_62 : decode cX12_takeEnum 62 = .ok (.istore_n 2, 1) := by decide +kernel
theorem dX12_takeEnum_63 : decode cX12_takeEnum 63 = .ok (.iload_n 2, 1) := by decide +kernel
theorem dX12_takeEnum_64 : decode cX12_takeEnum 64 = .ok (.ifCond .eq 40, 3) := by decide +kernel
theorem dX12_takeEnum_67 : decode cX12_takeEnum 67 = .ok (.aload_n 0, 1) := by decide +kernel
theorem dX12_takeEnum_68 : decode cX12_takeEnum 68 = .ok (.getfield 328, 3) := by decide +kernel
theorem dX12_takeEnum_71 : decode cX12_takeEnum 71 = .ok (.ifCond .ne 33, 3) := by decide +kernel
theorem dX12_takeEnum_74 : decode cX12_takeEnum 74 = .ok (.aload_n 0, 1) := by decide +kernel
theorem dX12_takeEnum_75 : decode cX12_takeEnum 75 = .ok (.iload_n 1, 1) := by decide +kernel
theorem dX12_takeEnum_76 : decode cX12_takeEnum 76 = .ok (.invokevirtual 490, 3) := by decide +kernel
theorem dX12_takeEnum_79 : decode cX12_takeEnum 79 = .ok (.aload_n 0, 1) := by decide +kernel
theorem dX12_takeEnum_80 : decode cX12_takeEnum 80 = .ok (.getfield 328, 3) := by decide +kernel
theorem dX12_takeEnum_83 : decode cX12_takeEnum 83 = .ok (.ifCond .ne 16, 3) := by decide +kernel
theorem dX12_takeEnum_86 : decode cX12_takeEnum 86 = .ok (.aload_n 0, 1) := by decide +kernel
theorem dX12_takeEnum_87 : decode cX12_takeEnum 87 = .ok (.bipush 125, 2) := by decide +kernel
theorem dX12_takeEnum_89 : decode cX12_takeEnum 89 = .ok (.invokevirtual 354, 3) := by decide +kernel
theorem dX12_takeEnum_92 : decode cX12_takeEnum 92 = .ok (.ifCond .ne 7, 3) := by decide +kernel
theorem dX12_takeEnum_95 : decode cX12_takeEnum 95 = .ok (.iconst 1, 1) := by decide +kernel
theorem dX12_takeEnum_96 : decode cX12_takeEnum 96 = .ok (.goto 4, 3) := by decide +kernel
theorem dX12_takeEnum_99 : decode cX12_takeEnum 99 = .ok (.iconst 0, 1) := by decide +kernel
theorem dX12_takeEnum_100 : decode cX12_takeEnum 100 = .ok (.istore_n 2, 1) := by decide +kernel
theorem dX12_takeEnum_101 : decode cX12_takeEnum 101 = .ok (.goto (-38), 3) := by decide +kernel
theorem dX12_takeEnum_104 : decode cX12_takeEnum 104 = .ok (.aload_n 0, 1) := by decide +kernel
theorem dX12_takeEnum_105 : decode cX12_takeEnum 105 = .ok (.bipush 125, 2) := by decide +kernel
theorem dX12_takeEnum_107 : decode cX12_takeEnum 107 = .ok (.invokevirtual 450, 3) := by decide +kernel
theorem dX12_takeEnum_110 : decode cX12_takeEnum 110 = .ok (.return_, 1) := by decide +kernel
theorem dX12_numberType_0 : decode cX12_numberType 0 = .ok (.aload_n 0, 1) := by decide +kernel
theorem dX12_numberType_1 : decode cX12_numberType 1 = .ok (.ldc2_w 397, 3) := by decide +kernel
theorem dX12_numberType_4 : decode cX12_numberType 4 = .ok (.invokevirtual 364, 3) := by decide +kernel
theorem dX12_numberType_7 : decode cX12_numberType 7 = .ok (.ifCond .eq 5, 3) := by decide +kernel
theorem dX12_numberType_10 : decode cX12_numberType 10 = .ok (.iconst 0, 1) := by decide +kernel
theorem dX12_numberType_11 : decode cX12_numberType 11 = .ok (.ireturn, 1) := by decide +kernel
theorem dX12_numberType_12 : decode cX12_numberType 12 = .ok (.aload_n 0, 1) := by decide +kernel
theorem dX12_numberType_13 : decode cX12_numberType 13 = .ok (.ldc2_w 399, 3) := by decide +kernel
theorem dX12_numberType_16 : decode cX12_numberType 16 = .ok (.invokevirtual 364, 3) := by decide +kernel
theorem dX12_numberType_19 : decode cX12_numberType 19 = .ok (.ifCond .eq 5, 3) := by decide +kernel
theorem dX12_numberType_22 : decode cX12_numberType 22 = .ok (.iconst 1, 1) := by decide +kernel
theorem dX12_numberType_23 : decode cX12_numberType 23 = .ok (.ireturn, 1) := by decide +kernel
theorem dX12_numberType_24 : decode cX12_numberType 24 = .ok (.aload_n 0, 1) := by decide +kernel
theorem dX12_numberType_25 : decode cX12_numberType 25 = .ok (.ldc2_w 401, 3) := by decide +kernel
theorem dX12_numberType_28 : decode cX12_numberType 28 = .ok (.invokevirtual 364, 3) := by decide +kernel
theorem dX12_numberType_31 : decode cX12_numberType 31 = .ok (.ifCond .eq 5, 3) := by decide +kernel
theorem dX12_numberType_34 : decode cX12_numberType 34 = .ok (.iconst 2, 1) := by decide +kernel
theorem dX12_numberType_35 : decode cX12_numberType 35 = .ok (.ireturn, 1) := by decide +kernel
theorem dX12_numberType_36 : decode cX12_numberType 36 = .ok (.aload_n 0, 1) := by decide +kernel
theorem dX12_numberType_37 : decode cX12_numberType 37 = .ok (.ldc2_w 403, 3) := by decide +kernel
theorem dX12_numberType_40 : decode cX12_numberType 40 = .ok (.invokevirtual 364, 3) := by decide +kernel
theorem dX12_numberType_43 : decode cX12_numberType 43 = .ok (.ifCond .eq 5, 3) := by decide +kernel
theorem dX12_numberType_46 : decode cX12_numberType 46 = .ok (.iconst 3, 1) := by decide +kernel
theorem dX12_numberType_47 : decode cX12_numberType 47 = .ok (.ireturn, 1) := by decide +kernel
theorem dX12_numberType_48 : decode cX12_numberType 48 = .ok (.aload_n 0, 1) := by decide +kernel
theorem dX12_numberType_49 : decode cX12_numberType 49 = .ok (.ldc2_w 405, 3) := by decide +kernel
theorem dX12_numberType_52 : decode cX12_numberType 52 = .ok (.invokevirtual 364, 3) := by decide +kernel
theorem dX12_numberType_55 : decode cX12_numberType 55 = .ok (.ifCond .eq 5, 3) := by decide +kernel
theorem dX12_numberType_58 : decode cX12_numberType 58 = .ok (.iconst 4, 1) := by decide +kernel
theorem dX12_numberType_59 : decode cX12_numberType 59 = .ok (.ireturn, 1) := by decide +kernel
theorem dX12_numberType_60 : decode cX12_numberType 60 = .ok (.aload_n 0, 1) := by decide +kernel
theorem dX12_numberType_61 : decode cX12_numberType 61 = .ok (.ldc2_w 407, 3) := by decide +kernel
theorem dX12_numberType_64 : decode cX12_numberType 64 = .ok (.invokevirtual 364, 3) := by decide +kernel
theorem dX12_numberType_67 : decode cX12_numberType 67 = .ok (.ifCond .eq 5, 3) := by decide +kernel
theorem dX12_numberType_70 : decode cX12_numberType 70 = .ok (.iconst 5, 1) := by decide +kernel
theorem dX12_numberType_71 : decode cX12_numberType 71 = .ok (.ireturn, 1) := by decide +kernel
theorem dX12_numberType_72 : decode cX12_numberType 72 = .ok (.aload_n 0, 1) := by decide +kernel
theorem dX12_numberType_73 : decode cX12_numberType 73 = .ok (.ldc2_w 409, 3) := by decide +kernel
theorem dX12_numberType_76 : decode cX12_numberType 76 = .ok (.invokevirtual 364, 3) := by decide +kernel
theorem dX12_numberType_79 : decode cX12_numberType 79 = .ok (.ifCond .eq 6, 3) := by decide +kernel
theorem dX12_numberType_82 : decode cX12_numberType 82 = .ok (.bipush 6, 2) := by decide +kernel
theorem dX12_numberType_84 : decode cX12_numberType 84 = .ok (.ireturn, 1) := by decide +kernel
theorem dX12_numberType_85 : decode cX12_numberType 85 = .ok (.aload_n 0, 1) := by decide +kernel
theorem dX12_numberType_86 : decode cX12_numberType 86 = .ok (.ldc2_w 411, 3) := by decide +kernel
theorem dX12_numberType_89 : decode cX12_numberType 89 = .ok (.invokevirtual 364, 3) := by decide +kernel
theorem dX12_numberType_92 : decode cX12_numberType 92 = .ok (.ifCond .eq 6, 3) := by decide +kernel
theorem dX12_numberType_95 : decode cX12_numberType 95 = .ok (.bipush 7, 2) := by decide +kernel
theorem dX12_numberType_97 : decode cX12_numberType 97 = .ok (.ireturn, 1) := by decide +kernel
theorem dX12_numberType_98 : decode cX12_numberType 98 = .ok (.aload_n 0, 1) := by decide +kernel
theorem dX12_numberType_99 : decode cX12_numberType 99 = .ok (.ldc2_w 413, 3) := by decide +kernel
theorem dX12_numberType_102 : decode cX12_numberType 102 = .ok (.invokevirtual 364, 3) := by decide +kernel
theorem dX12_numberType_105 : decode cX12_numberType 105 = .ok (.ifCond .eq 6, 3) := by decide +kernel
theorem dX12_numberType_108 : decode cX12_numberType 108 = .ok (.bipush 8, 2) := by decide +kernel
theorem dX12_numberType_110 : decode cX12_numberType 110 = .ok (.ireturn, 1) := by decide +kernel
theorem dX12_numberType_111 : decode cX12_numberType 111 = .ok (.aload_n 0, 1) := by decide +kernel
theorem dX12_numberType_112 : decode cX12_numberType 112 = .ok (.ldc2_w 415, 3) := by decide +kernel
theorem dX12_numberType_115 : decode cX12_numberType 115 = .ok (.invokevirtual 364, 3) := by decide +kernel
theorem dX12_numberType_118 : decode cX12_numberType 118 = .ok (.ifCond .eq 6, 3) := by decide +kernel
theorem dX12_numberType_121 : decode cX12_numberType 121 = .ok (.bipush 9, 2) := by decide +kernel
theorem dX12_numberType_123 : decode cX12_numberType 123 = .ok (.ireturn, 1) := by decide +kernel
theorem dX12_numberType_124 : decode cX12_numberType 124 = .ok (.aload_n 0, 1) := by decide +kernel
theorem dX12_numberType_125 : decode cX12_numberType 125 = .ok (.ldc2_w 417, 3) := by decide +kernel
theorem dX12_numberType_128 : decode cX12_numberType 128 = .ok (.invokevirtual 364, 3) := by decide +kernel
theorem dX12_numberType_131 : decode cX12_numberType 131 = .ok (.ifCond .eq 6, 3) := by decide +kernel
theorem dX12_numberType_134 : decode cX12_numberType 134 = .ok (.bipush 10, 2) := by decide +kernel
theorem dX12_numberType_136 : decode cX12_numberType 136 = .ok (.ireturn, 1) := by decide +kernel
theorem dX12_numberType_137 : decode cX12_numberType 137 = .ok (.aload_n 0, 1) := by decide +kernel
theorem dX12_numberType_138 : decode cX12_numberType 138 = .ok (.ldc2_w 419, 3) := by decide +kernel
theorem dX12_numberType_141 : decode cX12_numberType 141 = .ok (.invokevirtual 364, 3) := by decide +kernel
theorem dX12_numberType_144 : decode cX12_numberType 144 = .ok (.ifCond .eq 6, 3) := by decide +kernel
theorem dX12_numberType_147 : decode cX12_numberType 147 = .ok (.bipush 11, 2) := by decide +kernel
theorem dX12_numberType_149 : decode cX12_numberType 149 = .ok (.ireturn, 1) := by decide +kernel
theorem dX12_numberType_150 : decode cX12_numberType 150 = .ok (.aload_n 0, 1) := by decide +kernel
theorem dX12_numberType_151 : decode cX12_numberType 151 = .ok (.ldc2_w 421, 3) := by decide +kernel
theorem dX12_numberType_154 : decode cX12_numberType 154 = .ok (.invokevirtual 364, 3) := by decide +kernel
theorem dX12_numberType_157 : decode cX12_numberType 157 = .ok (.ifCond .eq 8, 3) := by decide +kernel
theorem dX12_numberType_160 : decode cX12_numberType 160 = .ok (.bipush 12, 2) := by decide +kernel
theorem dX12_numberType_162 : decode cX12_numberType 162 = .ok (.goto 4, 3) := by decide +kernel
theorem dX12_numberType_165 : decode cX12_numberType 165 = .ok (.iconst (-1), 1) := by decide +kernel
theorem dX12_numberType_166 : decode cX12_numberType 166 = .ok (.ireturn, 1) := by decide +kernel
theorem dX12_isReservedName_0 : decode cX12_isReservedName 0 = .ok (.aload_n 0, 1) := by decide +kernel
theorem dX12_isReservedName_1 : decode cX12_isReservedName 1 = .ok (.ldc2_w 423, 3) := by decide +kernel
theorem dX12_isReservedName_4 : decode cX12_isReservedName 4 = .ok (.invokevirtual 364, 3) := by decide +kernel
theorem dX12_isReservedName_7 : decode cX12_isReservedName 7 = .ok (.ifCond .ne 33, 3) := by decide +kernel
theorem dX12_isReservedName_10 : decode cX12_isReservedName 10 = .ok (.aload_n 0, 1) := by decide +kernel
theorem dX12_isReservedName_11 : decode cX12_isReservedName 11 = .ok (.ldc2_w 425, 3) := by decide +kernel
theorem dX12_isReservedName_14 : decode cX12_isReservedName 14 = .ok (.invokevirtual 364, 3) := by decide +kernel
theorem dX12_isReservedName_17 : decode cX12_isReservedName 17 = .ok (.ifCond .ne 23, 3) := by decide +kernel
theorem dX12_isReservedName_20 : decode cX12_isReservedName 20 = .ok (.aload_n 0, 1) := by decide +kernel
theorem dX12_isReservedName_21 : decode cX12_isReservedName 21 = .ok (.ldc2_w 427, 3) := by decide +kernel
theorem dX12_isReservedName_24 : decode cX12_isReservedName 24 = .ok (.invokevirtual 364, 3) := by decide +kernel
theorem dX12_isReservedName_27 : decode cX12_isReservedName 27 = .ok (.ifCond .ne 13, 3) := by decide +kernel
theorem dX12_isReservedName_30 : decode cX12_isReservedName 30 = .ok (.aload_n 0, 1) := by decide +kernel
theorem dX12_isReservedName_31 : decode cX12_isReservedName 31 = .ok (.ldc2_w 429, 3) := by decide +kernel
theorem dX12_isReservedName_34 : decode cX12_isReservedName 34 = .ok (.invokevirtual 364, 3) := by decide +kernel
theorem dX12_isReservedName_37 : decode cX12_isReservedName 37 = .ok (.ifCond .eq 7, 3) := by decide +kernel
theorem dX12_isReservedName_40 : decode cX12_isReservedName 40 = .ok (.iconst 1, 1) := by decide +kernel
theorem dX12_isReservedName_41 : decode cX12_isReservedName 41 = .ok (.goto 4, 3) := by decide +kernel
theorem dX12_isReservedName_44 : decode cX12_isReservedName 44 = .ok (.iconst 0, 1) := by decide +kernel
theorem dX12_isReservedName_45 : decode cX12_isReservedName 45 = .ok (.ireturn, 1) := by decide +kernel
theorem dX12_takeParts_0 : decode cX12_takeParts 0 = .ok (.iconst 1, 1) := by decide +kernel
theorem dX12_takeParts_1 : decode cX12_takeParts 1 = .ok (.istore_n 2, 1) := by decide +kernel
theorem dX12_takeParts_2 : decode cX12_takeParts 2 = .ok (.iload_n 2, 1) := by decide +kernel
theorem dX12_takeParts_3 : decode cX12_takeParts 3 = .ok (.ifCond .eq 101, 3) := by decide +kernel
theorem dX12_takeParts_6 : decode cX12_takeParts 6 = .ok (.aload_n 0, 1) := by decide +kernel
theorem dX12_takeParts_7 : decode cX12_takeParts 7 = .ok (.getfield 328, 3) := by decide +kernel
theorem dX12_takeParts_10 : decode cX12_takeParts 10 = .ok (.ifCond .ne 94, 3) := by decide +kernel
theorem dX12_takeParts_13 : decode cX12_takeParts 13 = .ok (.aload_n 0, 1) := by decide +kernel
theorem dX12_takeParts_14 : decode cX12_takeParts 14 = .ok (.getfield 298, 3) := by decide +kernel
theorem dX12_takeParts_17 : decode cX12_takeParts 17 = .ok (.iconst 1, 1) := by decide +kernel
theorem dX12_takeParts_18 : decode cX12_takeParts 18 = .ok (.if_icmp .eq 13, 3) := by decide +kernel
theorem dX12_takeParts_21 : decode cX12_takeParts 21 = .ok (.aload_n 0, 1) := by decide +kernel
theorem dX12_takeParts_22 : decode cX12_takeParts 22 = .ok (.iconst 1, 1) := by decide +kernel
theorem dX12_takeParts_23 : decode cX12_takeParts 23 = .ok (.aload_n 0, 1) := by decide +kernel
theorem dX12_takeParts_24 : decode cX12_takeParts 24 = .ok (.getfield 305, 3) := by decide +kernel
theorem dX12_takeParts_27 : decode cX12_takeParts 27 = .ok (.invokevirtual 360, 3) := by decide +kernel
theorem dX12_takeParts_30 : decode cX12_takeParts 30 = .ok (.return_, 1) := by decide +kernel
theorem dX12_takeParts_31 : decode cX12_takeParts 31 = .ok (.aload_n 0, 1) := by decide +kernel
theorem dX12_takeParts_32 : decode cX12_takeParts 32 = .ok (.getfield 172, 3) := by decide +kernel
theorem dX12_takeParts_35 : decode cX12_takeParts 35 = .ok (.aload_n 0, 1) := by decide +kernel
theorem dX12_takeParts_36 : decode cX12_takeParts 36 = .ok (.getfield 431, 3) := by decide +kernel
theorem dX12_takeParts_39 : decode cX12_takeParts 39 = .ok (.aload_n 0, 1) := by decide +kernel
theorem dX12_takeParts_40 : decode cX12_takeParts 40 = .ok (.getfield 305, 3) := by decide +kernel
theorem dX12_takeParts_43 : decode cX12_takeParts 43 = .ok (.iastore, 1) := by decide +kernel
theorem dX12_takeParts_44 : decode cX12_takeParts 44 = .ok (.aload_n 0, 1) := by decide +kernel
theorem dX12_takeParts_45 : decode cX12_takeParts 45 = .ok (.getfield 175, 3) := by decide +kernel
theorem dX12_takeParts_48 : decode cX12_takeParts 48 = .ok (.aload_n 0, 1) := by decide +kernel
theorem dX12_takeParts_49 : decode cX12_takeParts 49 = .ok (.getfield 431, 3) := by decide +kernel
theorem dX12_takeParts_52 : decode cX12_takeParts 52 = .ok (.aload_n 0, 1) := by decide +kernel
theorem dX12_takeParts_53 : decode cX12_takeParts 53 = .ok (.getfield 316, 3) := by decide +kernel
theorem dX12_takeParts_56 : decode cX12_takeParts 56 = .ok (.aload_n 0, 1) := by decide +kernel
theorem dX12_takeParts_57 : decode cX12_takeParts 57 = .ok (.getfield 305, 3) := by decide +kernel
theorem dX12_takeParts_60 : decode cX12_takeParts 60 = .ok (.isub, 1) := by decide +kernel
theorem dX12_takeParts_61 : decode cX12_takeParts 61 = .ok (.iastore, 1) := by decide +kernel
theorem dX12_takeParts_62 : decode cX12_takeParts 62 = .ok (.aload_n 0, 1) := by decide +kernel
theorem dX12_takeParts_63 : decode cX12_takeParts 63 = .ok (.dup, 1) := by decide +kernel
theorem dX12_takeParts_64 : decode cX12_takeParts 64 = .ok (.getfield 431, 3) := by decide +kernel
theorem dX12_takeParts_67 : decode cX12_takeParts 67 = .ok (.iconst 1, 1) := by decide +kernel
theorem dX12_takeParts_68 : decode cX12_takeParts 68 = .ok (.iadd, 1) := by decide +kernel
theorem dX12_takeParts_69 : decode cX12_takeParts 69 = .ok (.putfield 431, 3) := by decide +kernel
theorem dX12_takeParts_72 : decode cX12_takeParts 72 = .ok (.aload_n 0, 1) := by decide +kernel
theorem dX12_takeParts_73 : decode cX12_takeParts 73 = .ok (.getfield 142, 3) := by decide +kernel
theorem dX12_takeParts_76 : decode cX12_takeParts 76 = .ok (.iload_n 1, 1) := by decide +kernel
theorem dX12_takeParts_77 : decode cX12_takeParts 77 = .ok (.dup2, 1) := by decide +kernel
theorem dX12_takeParts_78 : decode cX12_takeParts 78 = .ok (.iaload, 1) := by decide +kernel
theorem dX12_takeParts_79 : decode cX12_takeParts 79 = .ok (.iconst 1, 1) := by decide +kernel
theorem dX12_takeParts_80 : decode cX12_takeParts 80 = .ok (.iadd, 1) := by decide +kernel
theorem dX12_takeParts_81 : decode cX12_takeParts 81 = .ok (.iastore, 1) := by decide +kernel
theorem dX12_takeParts_82 : decode cX12_takeParts 82 = .ok (.aload_n 0, 1) := by decide +kernel
theorem dX12_takeParts_83 : decode cX12_takeParts 83 = .ok (.invokevirtual 357, 3) := by decide +kernel
theorem dX12_takeParts_86 : decode cX12_takeParts 86 = .ok (.aload_n 0, 1) := by decide +kernel
theorem dX12_takeParts_87 : decode cX12_takeParts 87 = .ok (.bipush 46, 2) := by decide +kernel
theorem dX12_takeParts_89 : decode cX12_takeParts 89 = .ok (.invokevirtual 354, 3) := by decide +kernel
theorem dX12_takeParts_92 : decode cX12_takeParts 92 = .ok (.istore_n 2, 1) := by decide +kernel
theorem dX12_takeParts_93 : decode cX12_takeParts 93 = .ok (.iload_n 2, 1) := by decide +kernel
theorem dX12_takeParts_94 : decode cX12_takeParts 94 = .ok (.ifCond .eq (-92), 3) := by decide +kernel
theorem dX12_takeParts_97 : decode cX12_takeParts 97 = .ok (.aload_n 0, 1) := by decide +kernel
theorem dX12_takeParts_98 : decode cX12_takeParts 98 = .ok (.invokevirtual 357, 3) := by decide +kernel
theorem dX12_takeParts_101 : decode cX12_takeParts 101 = .ok (.goto (-99), 3) := by decide +kernel
theorem dX12_takeParts_104 : decode cX12_takeParts 104 = .ok (.return_, 1) := by decide +kernel
theorem dX12_takeType_0 : decode cX12_takeType 0 = .ok (.aload_n 0, 1) := by decide +kernel
theorem dX12_takeType_1 : decode cX12_takeType 1 = .ok (.getfield 328, 3) := by decide +kernel
theorem dX12_takeType_4 : decode cX12_takeType 4 = .ok (.ifCond .eq 4, 3) := by decide +kernel
theorem dX12_takeType_7 : decode cX12_takeType 7 = .ok (.return_, 1) := by decide +kernel
theorem dX12_takeType_8 : decode cX12_takeType 8 = .ok (.aload_n 0, 1) := by decide +kernel
theorem dX12_takeType_9 : decode cX12_takeType 9 = .ok (.getfield 130, 3) := by decide +kernel
theorem dX12_takeType_12 : decode cX12_takeType 12 = .ok (.iload_n 1, 1) := by decide +kernel
theorem dX12_takeType_13 : decode cX12_takeType 13 = .ok (.aload_n 0, 1) := by decide +kernel
theorem dX12_takeType_14 : decode cX12_takeType 14 = .ok (.getfield 305, 3) := by decide +kernel
theorem dX12_takeType_17 : decode cX12_takeType 17 = .ok (.iastore, 1) := by decide +kernel
theorem dX12_takeType_18 : decode cX12_takeType 18 = .ok (.aload_n 0, 1) := by decide +kernel
theorem dX12_takeType_19 : decode cX12_takeType 19 = .ok (.getfield 139, 3) := by decide +kernel
theorem dX12_takeType_22 : decode cX12_takeType 22 = .ok (.iload_n 1, 1) := by decide +kernel
theorem dX12_takeType_23 : decode cX12_takeType 23 = .ok (.aload_n 0, 1) := by decide +kernel
theorem dX12_takeType_24 : decode cX12_takeType 24 = .ok (.getfield 431, 3) := by decide +kernel
theorem dX12_takeType_27 : decode cX12_takeType 27 = .ok (.iastore, 1) := by decide +kernel
theorem dX12_takeType_28 : decode cX12_takeType 28 = .ok (.aload_n 0, 1) := by decide +kernel
theorem dX12_takeType_29 : decode cX12_takeType 29 = .ok (.getfield 142, 3) := by decide +kernel
theorem dX12_takeType_32 : decode cX12_takeType 32 = .ok (.iload_n 1, 1) := by decide +kernel
theorem dX12_takeType_33 : decode cX12_takeType 33 = .ok (.iconst 0, 1) := by decide +kernel
theorem dX12_takeType_34 : decode cX12_takeType 34 = .ok (.iastore, 1) := by decide +kernel
theorem dX12_takeType_35 : decode cX12_takeType 35 = .ok (.aload_n 0, 1) := by decide +kernel
theorem dX12_takeType_36 : decode cX12_takeType 36 = .ok (.getfield 136, 3) := by decide +kernel
theorem dX12_takeType_39 : decode cX12_takeType 39 = .ok (.iload_n 1, 1) := by decide +kernel
theorem dX12_takeType_40 : decode cX12_takeType 40 = .ok (.aload_n 0, 1) := by decide +kernel
theorem dX12_takeType_41 : decode cX12_takeType 41 = .ok (.bipush 46, 2) := by decide +kernel
theorem dX12_takeType_43 : decode cX12_takeType 43 = .ok (.invokevirtual 354, 3) := by decide +kernel
theorem dX12_takeType_46 : decode cX12_takeType 46 = .ok (.bastore, 1) := by decide +kernel
theorem dX12_takeType_47 : decode cX12_takeType 47 = .ok (.aload_n 0, 1) := by decide +kernel
theorem dX12_takeType_48 : decode cX12_takeType 48 = .ok (.getfield 127, 3) := by decide +kernel
theorem dX12_takeType_51 : decode cX12_takeType 51 = .ok (.iload_n 1, 1) := by decide +kernel
theorem dX12_takeType_52 : decode cX12_takeType 52 = .ok (.aload_n 0, 1) := by decide +kernel
theorem dX12_takeType_53 : decode cX12_takeType 53 = .ok (.invokevirtual 434, 3) := by decide +kernel
theorem dX12_takeType_56 : decode cX12_takeType 56 = .ok (.iastore, 1) := by decide +kernel
theorem dX12_takeType_57 : decode cX12_takeType 57 = .ok (.aload_n 0, 1) := by decide +kernel
theorem dX12_takeType_58 : decode cX12_takeType 58 = .ok (.getfield 136, 3) := by decide +kernel
theorem dX12_takeType_61 : decode cX12_takeType 61 = .ok (.iload_n 1, 1) := by decide +kernel
theorem dX12_takeType_62 : decode cX12_takeType 62 = .ok (.baload, 1) := by decide +kernel
theorem dX12_takeType_63 : decode cX12_takeType 63 = .ok (.ifCond .eq 10, 3) := by decide +kernel
theorem dX12_takeType_66 : decode cX12_takeType 66 = .ok (.aload_n 0, 1) := by decide +kernel
theorem dX12_takeType_67 : decode cX12_takeType 67 = .ok (.invokevirtual 357, 3) := by decide +kernel
theorem dX12_takeType_70 : decode cX12_takeType 70 = .ok (.goto 28, 3) := by decide +kernel
theorem dX12_takeType_73 : decode cX12_takeType 73 = .ok (.aload_n 0, 1) := by decide +kernel
theorem dX12_takeType_74 : decode cX12_takeType 74 = .ok (.getfield 298, 3) := by decide +kernel
theorem dX12_takeType_77 : decode cX12_takeType 77 = .ok (.iconst 1, 1) := by decide +kernel
theorem dX12_takeType_78 : decode cX12_takeType 78 = .ok (.if_icmp .ne 10, 3) := by decide +kernel
theorem dX12_takeType_81 : decode cX12_takeType 81 = .ok (.aload_n 0, 1) := by decide +kernel
theorem dX12_takeType_82 : decode cX12_takeType 82 = .ok (.invokevirtual 438, 3) := by decide +kernel
theorem dX12_takeType_85 : decode cX12_takeType 85 = .ok (.ifCond .eq 13, 3) := by decide +kernel
theorem dX12_takeType_88 : decode cX12_takeType 88 = .ok (.aload_n 0, 1) := by decide +kernel
theorem dX12_takeType_89 : decode cX12_takeType 89 = .ok (.iconst 1, 1) := by decide +kernel
theorem dX12_takeType_90 : decode cX12_takeType 90 = .ok (.aload_n 0, 1) := by decide +kernel
theorem dX12_takeType_91 : decode cX12_takeType 91 = .ok (.getfield 305, 3) := by decide +kernel
theorem dX12_takeType_94 : decode cX12_takeType 94 = .ok (.invokevirtual 360, 3) := by decide +kernel
theorem dX12_takeType_97 : decode cX12_takeType 97 = .ok (.return_, 1) := by decide +kernel
theorem dX12_takeType_98 : decode cX12_takeType 98 = .ok (.aload_n 0, 1) := by decide +kernel
theorem dX12_takeType_99 : decode cX12_takeType 99 = .ok (.getfield 136, 3) := by decide +kernel
theorem dX12_takeType_102 : decode cX12_takeType 102 = .ok (.iload_n 1, 1) := by decide +kernel
theorem dX12_takeType_103 : decode cX12_takeType 103 = .ok (.baload, 1) := by decide +kernel
theorem dX12_takeType_104 : decode cX12_takeType 104 = .ok (.ifCond .eq 10, 3) := by decide +kernel
theorem dX12_takeType_107 : decode cX12_takeType 107 = .ok (.aload_n 0, 1) := by decide +kernel
theorem dX12_takeType_108 : decode cX12_takeType 108 = .ok (.getfield 127, 3) := by decide +kernel
theorem dX12_takeType_111 : decode cX12_takeType 111 = .ok (.iload_n 1, 1) := by decide +kernel
theorem dX12_takeType_112 : decode cX12_takeType 112 = .ok (.iconst (-1), 1) := by decide +kernel
theorem dX12_takeType_113 : decode cX12_takeType 113 = .ok (.iastore, 1) := by decide +kernel
theorem dX12_takeType_114 : decode cX12_takeType 114 = .ok (.aload_n 0, 1) := by decide +kernel
theorem dX12_takeType_115 : decode cX12_takeType 115 = .ok (.getfield 127, 3) := by decide +kernel
theorem dX12_takeType_118 : decode cX12_takeType 118 = .ok (.iload_n 1, 1) := by decide +kernel
theorem dX12_takeType_119 : decode cX12_takeType 119 = .ok (.iaload, 1) := by decide +kernel
theorem dX12_takeType_120 : decode cX12_takeType 120 = .ok (.iconst (-1), 1) := by decide +kernel
theorem dX12_takeType_121 : decode cX12_takeType 121 = .ok (.if_icmp .ne 11, 3) := by decide +kernel
theorem dX12_takeType_124 : decode cX12_takeType 124 = .ok (.aload_n 0, 1) := by decide +kernel
theorem dX12_takeType_125 : decode cX12_takeType 125 = .ok (.iload_n 1, 1) := by decide +kernel
theorem dX12_takeType_126 : decode cX12_takeType 126 = .ok (.invokevirtual 441, 3) := by decide +kernel
theorem dX12_takeType_129 : decode cX12_takeType 129 = .ok (.goto 7, 3) := by decide +kernel
theorem dX12_takeType_132 : decode cX12_takeType 132 = .ok (.aload_n 0, 1) := by decide +kernel
theorem dX12_takeType_133 : decode cX12_takeType 133 = .ok (.invokevirtual 357, 3) := by decide +kernel
theorem dX12_takeType_136 : decode cX12_takeType 136 = .ok (.return_, 1) := by decide +kernel
theorem dX12_takePacked_0 : decode cX12_takePacked 0 = .ok (.aload_n 0, 1) := by decide +kernel
theorem dX12_takePacked_1 : decode cX12_takePacked 1 = .ok (.getfield 148, 3) := by decide +kernel
theorem dX12_takePacked_4 : decode cX12_takePacked 4 = .ok (.iload_n 1, 1) := by decide +kernel
theorem dX12_takePacked_5 : decode cX12_takePacked 5 = .ok (.iconst 0, 1) := by decide +kernel
theorem dX12_takePacked_6 : decode cX12_takePacked 6 = .ok (.iastore, 1) := by decide +kernel
theorem dX12_takePacked_7 : decode cX12_takePacked 7 = .ok (.aload_n 0, 1) := by decide +kernel
theorem dX12_takePacked_8 : decode cX12_takePacked 8 = .ok (.getfield 328, 3) := by decide +kernel
theorem dX12_takePacked_11 : decode cX12_takePacked 11 = .ok (.ifCond .ne 12, 3) := by decide +kernel
theorem dX12_takePacked_14 : decode cX12_takePacked 14 = .ok (.aload_n 0, 1) := by decide +kernel
theorem dX12_takePacked_15 : decode cX12_takePacked 15 = .ok (.bipush 91, 2) := by decide +kernel
theorem dX12_takePacked_17 : decode cX12_takePacked 17 = .ok (.invokevirtual 354, 3) := by decide +kernel
theorem dX12_takePacked_20 : decode cX12_takePacked 20 = .ok (.ifCond .ne 4, 3) := by decide +kernel
theorem dX12_takePacked_23 : decode cX12_takePacked 23 = .ok (.return_, 1) := by decide +kernel
theorem dX12_takePacked_24 : decode cX12_takePacked 24 = .ok (.aload_n 0, 1) := by decide +kernel
theorem dX12_takePacked_25 : decode cX12_takePacked 25 = .ok (.invokevirtual 357, 3) := by decide +kernel
theorem dX12_takePacked_28 : decode cX12_takePacked 28 = .ok (.aload_n 0, 1) := by decide +kernel
theorem dX12_takePacked_29 : decode cX12_takePacked 29 = .ok (.getfield 151, 3) := by decide +kernel
theorem dX12_takePacked_32 : decode cX12_takePacked 32 = .ok (.iload_n 1, 1) := by decide +kernel
theorem dX12_takePacked_33 : decode cX12_takePacked 33 = .ok (.aload_n 0, 1) := by decide +kernel
theorem dX12_takePacked_34 : decode cX12_takePacked 34 = .ok (.getfield 305, 3) := by decide +kernel
theorem dX12_takePacked_37 : decode cX12_takePacked 37 = .ok (.iastore, 1) := by decide +kernel
theorem dX12_takePacked_38 : decode cX12_takePacked 38 = .ok (.aload_n 0, 1) := by decide +kernel
theorem dX12_takePacked_39 : decode cX12_takePacked 39 = .ok (.ldc2_w 444, 3) := by decide +kernel
theorem dX12_takePacked_42 : decode cX12_takePacked 42 = .ok (.invokevirtual 446, 3) := by decide +kernel
theorem dX12_takePacked_45 : decode cX12_takePacked 45 = .ok (.aload_n 0, 1) := by decide +kernel
theorem dX12_takePacked_46 : decode cX12_takePacked 46 = .ok (.bipush 61, 2) := by decide +kernel
theorem dX12_takePacked_48 : decode cX12_takePacked 48 = .ok (.invokevirtual 450, 3) := by decide +kernel
theorem dX12_takePacked_51 : decode cX12_takePacked 51 = .ok (.aload_n 0, 1) := by decide +kernel
theorem dX12_takePacked_52 : decode cX12_takePacked 52 = .ok (.getfield 328, 3) := by decide +kernel
theorem dX12_takePacked_55 : decode cX12_takePacked 55 = .ok (.ifCond .eq 4, 3) := by decide +kernel
theorem dX12_takePacked_58 : decode cX12_takePacked 58 = .ok (.return_, 1) := by decide +kernel
theorem dX12_takePacked_59 : decode cX12_takePacked 59 = .ok (.aload_n 0, 1) := by decide +kernel
theorem dX12_takePacked_60 : decode cX12_takePacked 60 = .ok (.ldc2_w 453, 3) := by decide +kernel
theorem dX12_takePacked_63 : decode cX12_takePacked 63 = .ok (.invokevirtual 364, 3) := by decide +kernel
theorem dX12_takePacked_66 : decode cX12_takePacked 66 = .ok (.ifCond .ne 23, 3) := by decide +kernel
theorem dX12_takePacked_69 : decode cX12_takePacked 69 = .ok (.aload_n 0, 1) := by decide +kernel
theorem dX12_takePacked_70 : decode cX12_takePacked 70 = .ok (.ldc2_w 455, 3) := by decide +kernel
theorem dX12_takePacked_73 : decode cX12_takePacked 73 = .ok (.invokevirtual 364, 3) := by decide +kernel
theorem dX12_takePacked_76 : decode cX12_takePacked 76 = .ok (.ifCond .ne 13, 3) := by decide +kernel
theorem dX12_takePacked_79 : decode cX12_takePacked 79 = .ok (.aload_n 0, 1) := by decide +kernel
theorem dX12_takePacked_80 : decode cX12_takePacked 80 = .ok (.iconst 1, 1) := by decide +kernel
theorem dX12_takePacked_81 : decode cX12_takePacked 81 = .ok (.aload_n 0, 1) := by decide +kernel
theorem dX12_takePacked_82 : decode cX12_takePacked 82 = .ok (.getfield 305, 3) := by decide +kernel
theorem dX12_takePacked_85 : decode cX12_takePacked 85 = .ok (.invokevirtual 360, 3) := by decide +kernel
theorem dX12_takePacked_88 : decode cX12_takePacked 88 = .ok (.return_, 1) := by decide +kernel
theorem dX12_takePacked_89 : decode cX12_takePacked 89 = .ok (.aload_n 0, 1) := by decide +kernel
theorem dX12_takePacked_90 : decode cX12_takePacked 90 = .ok (.getfield 148, 3) := by decide +kernel
theorem dX12_takePacked_93 : decode cX12_takePacked 93 = .ok (.iload_n 1, 1) := by decide +kernel
theorem dX12_takePacked_94 : decode cX12_takePacked 94 = .ok (.aload_n 0, 1) := by decide +kernel
theorem dX12_takePacked_95 : decode cX12_takePacked 95 = .ok (.ldc2_w 453, 3) := by decide +kernel
theorem dX12_takePacked_98 : decode cX12_takePacked 98 = .ok (.invokevirtual 364, 3) := by decide +kernel
theorem dX12_takePacked_101 : decode cX12_takePacked 101 = .ok (.ifCond .eq 7, 3) := by decide +kernel
theorem dX12_takePacked_104 : decode cX12_takePacked 104 = .ok (.iconst 1, 1) := by decide +kernel
theorem dX12_takePacked_105 : decode cX12_takePacked 105 = .ok (.goto 4, 3) := by decide +kernel
theorem dX12_takePacked_108 : decode cX12_takePacked 108 = .ok (.iconst 2, 1) := by decide +kernel
theorem dX12_takePacked_109 : decode cX12_takePacked 109 = .ok (.iastore, 1) := by decide +kernel
theorem dX12_takePacked_110 : decode cX12_takePacked 110 = .ok (.aload_n 0, 1) := by decide +kernel
theorem dX12_takePacked_111 : decode cX12_takePacked 111 = .ok (.invokevirtual 357, 3) := by decide +kernel
theorem dX12_takePacked_114 : decode cX12_takePacked 114 = .ok (.aload_n 0, 1) := by decide +kernel
theorem dX12_takePacked_115 : decode cX12_takePacked 115 = .ok (.bipush 93, 2) := by decide +kernel
theorem dX12_takePacked_117 : decode cX12_takePacked 117 = .ok (.invokevirtual 450, 3) := by decide +kernel
theorem dX12_takePacked_120 : decode cX12_takePacked 120 = .ok (.return_, 1) := by decide +kernel
theorem dX12_takeField_0 : decode cX12_takeField 0 = .ok (.aload_n 0, 1) := by decide +kernel
theorem dX12_takeField_1 : decode cX12_takeField 1 = .ok (.getfield 457, 3) := by decide +kernel
theorem dX12_takeField_4 : decode cX12_takeField 4 = .ok (.istore_n 3, 1) := by decide +kernel
theorem dX12_takeField_5 : decode cX12_takeField 5 = .ok (.aload_n 0, 1) := by decide +kernel
theorem dX12_takeField_6 : decode cX12_takeField 6 = .ok (.getfield 111, 3) := by decide +kernel
theorem dX12_takeField_9 : decode cX12_takeField 9 = .ok (.iload_n 3, 1) := by decide +kernel
theorem dX12_takeField_10 : decode cX12_takeField 10 = .ok (.iload_n 1, 1) := by decide +kernel
theorem dX12_takeField_11 : decode cX12_takeField 11 = .ok (.iastore, 1) := by decide +kernel
theorem dX12_takeField_12 : decode cX12_takeField 12 = .ok (.aload_n 0, 1) := by decide +kernel
theorem dX12_takeField_13 : decode cX12_takeField 13 = .ok (.getfield 154, 3) := by decide +kernel
theorem dX12_takeField_16 : decode cX12_takeField 16 = .ok (.iload_n 3, 1) := by decide +kernel
theorem dX12_takeField_17 : decode cX12_takeField 17 = .ok (.iload_n 2, 1) := by decide +kernel
theorem dX12_takeField_18 : decode cX12_takeField 18 = .ok (.iastore, 1) := by decide +kernel
theorem dX12_takeField_19 : decode cX12_takeField 19 = .ok (.aload_n 0, 1) := by decide +kernel
theorem dX12_takeField_20 : decode cX12_takeField 20 = .ok (.getfield 145, 3) := by decide +kernel
theorem dX12_takeField_23 : decode cX12_takeField 23 = .ok (.iload_n 3, 1) := by decide +kernel
theorem dX12_takeField_24 : decode cX12_takeField 24 = .ok (.iconst 0, 1) := by decide +kernel
theorem dX12_takeField_25 : decode cX12_takeField 25 = .ok (.bastore, 1) := by decide +kernel
theorem dX12_takeField_26 : decode cX12_takeField 26 = .ok (.iload_n 2, 1) := by decide +kernel
theorem dX12_takeField_27 : decode cX12_takeField 27 = .ok (.iconst (-1), 1) := by decide +kernel
theorem dX12_takeField_28 : decode cX12_takeField 28 = .ok (.if_icmp .ne 24, 3) := by decide +kernel
theorem dX12_takeField_31 : decode cX12_takeField 31 = .ok (.aload_n 0, 1) := by decide +kernel
theorem dX12_takeField_32 : decode cX12_takeField 32 = .ok (.ldc2_w 429, 3) := by decide +kernel
theorem dX12_takeField_35 : decode cX12_takeField 35 = .ok (.invokevirtual 364, 3) := by decide +kernel
theorem dX12_takeField_38 : decode cX12_takeField 38 = .ok (.ifCond .eq 14, 3) := by decide +kernel
theorem dX12_takeField_41 : decode cX12_takeField 41 = .ok (.aload_n 0, 1) := by decide +kernel
theorem dX12_takeField_42 : decode cX12_takeField 42 = .ok (.getfield 145, 3) := by decide +kernel
theorem dX12_takeField_45 : decode cX12_takeField 45 = .ok (.iload_n 3, 1) := by decide +kernel
theorem dX12_takeField_46 : decode cX12_takeField 46 = .ok (.iconst 1, 1) := by decide +kernel
theorem dX12_takeField_47 : decode cX12_takeField 47 = .ok (.bastore, 1) := by decide +kernel
theorem dX12_takeField_48 : decode cX12_takeField 48 = .ok (.aload_n 0, 1) := by decide +kernel
theorem dX12_takeField_49 : decode cX12_takeField 49 = .ok (.invokevirtual 357, 3) := by decide +kernel
theorem dX12_takeField_52 : decode cX12_takeField 52 = .ok (.aload_n 0, 1) := by decide +kernel
theorem dX12_takeField_53 : decode cX12_takeField 53 = .ok (.iload_n 3, 1) := by decide +kernel
theorem dX12_takeField_54 : decode cX12_takeField 54 = .ok (.invokevirtual 460, 3) := by decide +kernel
theorem dX12_takeField_57 : decode cX12_takeField 57 = .ok (.aload_n 0, 1) := by decide +kernel
theorem dX12_takeField_58 : decode cX12_takeField 58 = .ok (.iload_n 1, 1) := by decide +kernel
theorem dX12_takeField_59 : decode cX12_takeField 59 = .ok (.invokevirtual 463, 3) := by decide +kernel
theorem dX12_takeField_62 : decode cX12_takeField 62 = .ok (.aload_n 0, 1) := by decide +kernel
theorem dX12_takeField_63 : decode cX12_takeField 63 = .ok (.getfield 114, 3) := by decide +kernel
theorem dX12_takeField_66 : decode cX12_takeField 66 = .ok (.iload_n 3, 1) := by decide +kernel
theorem dX12_takeField_67 : decode cX12_takeField 67 = .ok (.aload_n 0, 1) := by decide +kernel
theorem dX12_takeField_68 : decode cX12_takeField 68 = .ok (.invokevirtual 466, 3) := by decide +kernel
theorem dX12_takeField_71 : decode cX12_takeField 71 = .ok (.iastore, 1) := by decide +kernel
theorem dX12_takeField_72 : decode cX12_takeField 72 = .ok (.aload_n 0, 1) := by decide +kernel
theorem dX12_takeField_73 : decode cX12_takeField 73 = .ok (.getfield 117, 3) := by decide +kernel
theorem dX12_takeField_76 : decode cX12_takeField 76 = .ok (.iload_n 3, 1) := by decide +kernel
theorem dX12_takeField_77 : decode cX12_takeField 77 = .ok (.aload_n 0, 1) := by decide +kernel
theorem dX12_takeField_78 : decode cX12_takeField 78 = .ok (.invokevirtual 469, 3) := by decide +kernel
theorem dX12_takeField_81 : decode cX12_takeField 81 = .ok (.iastore, 1) := by decide +kernel
theorem dX12_takeField_82 : decode cX12_takeField 82 = .ok (.aload_n 0, 1) := by decide +kernel
theorem dX12_takeField_83 : decode cX12_takeField 83 = .ok (.bipush 61, 2) := by decide +kernel
theorem dX12_takeField_85 : decode cX12_takeField 85 = .ok (.invokevirtual 450, 3) := by decide +kernel
theorem dX12_takeField_88 : decode cX12_takeField 88 = .ok (.aload_n 0, 1) := by decide +kernel
theorem dX12_takeField_89 : decode cX12_takeField 89 = .ok (.getfield 328, 3) := by decide +kernel
theorem dX12_takeField_92 : decode cX12_takeField 92 = .ok (.ifCond .eq 4, 3) := by decide +kernel
theorem dX12_takeField_95 : decode cX12_takeField 95 = .ok (.return_, 1) := by decide +kernel
theorem dX12_takeField_96 : decode cX12_takeField 96 = .ok (.aload_n 0, 1) := by decide +kernel
theorem dX12_takeField_97 : decode cX12_takeField 97 = .ok (.getfield 298, 3) := by decide +kernel
theorem dX12_takeField_100 : decode cX12_takeField 100 = .ok (.iconst 2, 1) := by decide +kernel
theorem dX12_takeField_101 : decode cX12_takeField 101 = .ok (.if_icmp .eq 13, 3) := by decide +kernel
theorem dX12_takeField_104 : decode cX12_takeField 104 = .ok (.aload_n 0, 1) := by decide +kernel
theorem dX12_takeField_105 : decode cX12_takeField 105 = .ok (.iconst 1, 1) := by decide +kernel
theorem dX12_takeField_106 : decode cX12_takeField 106 = .ok (.aload_n 0, 1) := by decide +kernel
theorem dX12_takeField_107 : decode cX12_takeField 107 = .ok (.getfield 305, 3) := by decide +kernel
theorem dX12_takeField_110 : decode cX12_takeField 110 = .ok (.invokevirtual 360, 3) := by decide +kernel
theorem dX12_takeField_113 : decode cX12_takeField 113 = .ok (.return_, 1) := by decide +kernel
theorem dX12_takeField_114 : decode cX12_takeField 114 = .ok (.aload_n 0, 1) := by decide +kernel
theorem dX12_takeField_115 : decode cX12_takeField 115 = .ok (.getfield 120, 3) := by decide +kernel
theorem dX12_takeField_118 : decode cX12_takeField 118 = .ok (.iload_n 3, 1) := by decide +kernel
theorem dX12_takeField_119 : decode cX12_takeField 119 = .ok (.aload_n 0, 1) := by decide +kernel
theorem dX12_takeField_120 : decode cX12_takeField 120 = .ok (.getfield 301, 3) := by decide +kernel
theorem dX12_takeField_123 : decode cX12_takeField 123 = .ok (.lastore, 1) := by decide +kernel
theorem dX12_takeField_124 : decode cX12_takeField 124 = .ok (.aload_n 0, 1) := by decide +kernel
theorem dX12_takeField_125 : decode cX12_takeField 125 = .ok (.getfield 124, 3) := by decide +kernel
theorem dX12_takeField_128 : decode cX12_takeField 128 = .ok (.iload_n 3, 1) := by decide +kernel
theorem dX12_takeField_129 : decode cX12_takeField 129 = .ok (.aload_n 0, 1) := by decide +kernel
theorem dX12_takeField_130 : decode cX12_takeField 130 = .ok (.getfield 305, 3) := by decide +kernel
theorem dX12_takeField_133 : decode cX12_takeField 133 = .ok (.iastore, 1) := by decide +kernel
theorem dX12_takeField_134 : decode cX12_takeField 134 = .ok (.aload_n 0, 1) := by decide +kernel
theorem dX12_takeField_135 : decode cX12_takeField 135 = .ok (.invokevirtual 357, 3) := by decide +kernel
theorem dX12_takeField_138 : decode cX12_takeField 138 = .ok (.aload_n 0, 1) := by decide +kernel
theorem dX12_takeField_139 : decode cX12_takeField 139 = .ok (.iload_n 3, 1) := by decide +kernel
theorem dX12_takeField_140 : decode cX12_takeField 140 = .ok (.invokevirtual 472, 3) := by decide +kernel
theorem dX12_takeField_143 : decode cX12_takeField 143 = .ok (.aload_n 0, 1) := by decide +kernel
theorem dX12_takeField_144 : decode cX12_takeField 144 = .ok (.bipush 59, 2) := by decide +kernel
theorem dX12_takeField_146 : decode cX12_takeField 146 = .ok (.invokevirtual 450, 3) := by decide +kernel
theorem dX12_takeField_149 : decode cX12_takeField 149 = .ok (.aload_n 0, 1) := by decide +kernel
theorem dX12_takeField_150 : decode cX12_takeField 150 = .ok (.dup, 1) := by decide +kernel
theorem dX12_takeField_151 : decode cX12_takeField 151 = .ok (.getfield 457, 3) := by decide +kernel
theorem dX12_takeField_154 : decode cX12_takeField 154 = .ok (.iconst 1, 1) := by decide +kernel
theorem dX12_takeField_155 : decode cX12_takeField 155 = .ok (.iadd, 1) := by decide +kernel
theorem dX12_takeField_156 : decode cX12_takeField 156 = .ok (.putfield 457, 3) := by decide +kernel
theorem dX12_takeField_159 : decode cX12_takeField 159 = .ok (.return_, 1) := by decide +kernel
theorem dX12_takeOneof_0 : decode cX12_takeOneof 0 = .ok (.aload_n 0, 1) := by decide +kernel
theorem dX12_takeOneof_1 : decode cX12_takeOneof 1 = .ok (.invokevirtual 357, 3) := by decide +kernel
theorem dX12_takeOneof_4 : decode cX12_takeOneof 4 = .ok (.aload_n 0, 1) := by decide +kernel
theorem dX12_takeOneof_5 : decode cX12_takeOneof 5 = .ok (.iload_n 1, 1) := by decide +kernel
theorem dX12_takeOneof_6 : decode cX12_takeOneof 6 = .ok (.invokevirtual 463, 3) := by decide +kernel
theorem dX12_takeOneof_9 : decode cX12_takeOneof 9 = .ok (.aload_n 0, 1) := by decide +kernel
theorem dX12_takeOneof_10 : decode cX12_takeOneof 10 = .ok (.bipush 123, 2) := by decide +kernel
theorem dX12_takeOneof_12 : decode cX12_takeOneof 12 = .ok (.invokevirtual 450, 3) := by decide +kernel
theorem dX12_takeOneof_15 : decode cX12_takeOneof 15 = .ok (.aload_n 0, 1) := by decide +kernel
theorem dX12_takeOneof_16 : decode cX12_takeOneof 16 = .ok (.getfield 475, 3) := by decide +kernel
theorem dX12_takeOneof_19 : decode cX12_takeOneof 19 = .ok (.istore_n 2, 1) := by decide +kernel
theorem dX12_takeOneof_20 : decode cX12_takeOneof 20 = .ok (.aload_n 0, 1) := by decide +kernel
theorem dX12_takeOneof_21 : decode cX12_takeOneof 21 = .ok (.dup, 1) := by decide +kernel
theorem dX12_takeOneof_22 : decode cX12_takeOneof 22 = .ok (.getfield 475, 3) := by decide +kernel
theorem dX12_takeOneof_25 : decode cX12_takeOneof 25 = .ok (.iconst 1, 1) := by decide +kernel
theorem dX12_takeOneof_26 : decode cX12_takeOneof 26 = .ok (.iadd, 1) := by decide +kernel
theorem dX12_takeOneof_27 : decode cX12_takeOneof 27 = .ok (.putfield 475, 3) := by decide +kernel
theorem dX12_takeOneof_30 : decode cX12_takeOneof 30 = .ok (.iconst 1, 1) := by decide +kernel
theorem dX12_takeOneof_31 : decode cX12_takeOneof 31 = .ok (.istore_n 3, 1) := by decide +kernel
theorem dX12_takeOneof_32 : decode cX12_takeOneof 32 = .ok (.iload_n 3, 1) := by decide +kernel
theorem dX12_takeOneof_33 : decode cX12_takeOneof 33 = .ok (.ifCond .eq 60, 3) := by decide +kernel
theorem dX12_takeOneof_36 : decode cX12_takeOneof 36 = .ok (.aload_n 0, 1) := by decide +kernel
theorem dX12_takeOneof_37 : decode cX12_takeOneof 37 = .ok (.getfield 328, 3) := by decide +kernel
theorem dX12_takeOneof_40 : decode cX12_takeOneof 40 = .ok (.ifCond .ne 53, 3) := by decide +kernel
theorem dX12_takeOneof_43 : decode cX12_takeOneof 43 = .ok (.aload_n 0, 1) := by decide +kernel
theorem dX12_takeOneof_44 : decode cX12_takeOneof 44 = .ok (.invokevirtual 478, 3) := by decide +kernel
theorem dX12_takeOneof_47 : decode cX12_takeOneof 47 = .ok (.ifCond .eq 15, 3) := by decide +kernel
theorem dX12_takeOneof_50 : decode cX12_takeOneof 50 = .ok (.aload_n 0, 1) := by decide +kernel
theorem dX12_takeOneof_51 : decode cX12_takeOneof 51 = .ok (.iconst 2, 1) := by decide +kernel
theorem dX12_takeOneof_52 : decode cX12_takeOneof 52 = .ok (.aload_n 0, 1) := by decide +kernel
theorem dX12_takeOneof_53 : decode cX12_takeOneof 53 = .ok (.getfield 305, 3) := by decide +kernel
theorem dX12_takeOneof_56 : decode cX12_takeOneof 56 = .ok (.invokevirtual 360, 3) := by decide +kernel
theorem dX12_takeOneof_59 : decode cX12_takeOneof 59 = .ok (.goto 9, 3) := by decide +kernel
theorem dX12_takeOneof_62 : decode cX12_takeOneof 62 = .ok (.aload_n 0, 1) := by decide +kernel
theorem dX12_takeOneof_63 : decode cX12_takeOneof 63 = .ok (.iload_n 1, 1) := by decide +kernel
theorem dX12_takeOneof_64 : decode cX12_takeOneof 64 = .ok (.iload_n 2, 1) := by decide +kernel
theorem dX12_takeOneof_65 : decode cX12_takeOneof 65 = .ok (.invokevirtual 481, 3) := by decide +kernel
theorem dX12_takeOneof_68 : decode cX12_takeOneof 68 = .ok (.aload_n 0, 1) := by decide +kernel
theorem dX12_takeOneof_69 : decode cX12_takeOneof 69 = .ok (.getfield 328, 3) := by decide +kernel
theorem dX12_takeOneof_72 : decode cX12_takeOneof 72 = .ok (.ifCond .ne 16, 3) := by decide +kernel
theorem dX12_takeOneof_75 : decode cX12_takeOneof 75 = .ok (.aload_n 0, 1) := by decide +kernel
theorem dX12_takeOneof_76 : decode cX12_takeOneof 76 = .ok (.bipush 125, 2) := by decide +kernel
theorem dX12_takeOneof_78 : decode cX12_takeOneof 78 = .ok (.invokevirtual 354, 3) := by decide +kernel
theorem dX12_takeOneof_81 : decode cX12_takeOneof 81 = .ok (.ifCond .ne 7, 3) := by decide +kernel
theorem dX12_takeOneof_84 : decode cX12_takeOneof 84 = .ok (.iconst 1, 1) := by decide +kernel
theorem dX12_takeOneof_85 : decode cX12_takeOneof 85 = .ok (.goto 4, 3) := by decide +kernel
theorem dX12_takeOneof_88 : decode cX12_takeOneof 88 = .ok (.iconst 0, 1) := by decide +kernel
theorem dX12_takeOneof_89 : decode cX12_takeOneof 89 = .ok (.istore_n 3, 1) := by decide +kernel
theorem dX12_takeOneof_90 : decode cX12_takeOneof 90 = .ok (.goto (-58), 3) := by decide +kernel
theorem dX12_takeOneof_93 : decode cX12_takeOneof 93 = .ok (.aload_n 0, 1) := by decide +kernel
theorem dX12_takeOneof_94 : decode cX12_takeOneof 94 = .ok (.bipush 125, 2) := by decide +kernel
theorem dX12_takeOneof_96 : decode cX12_takeOneof 96 = .ok (.invokevirtual 450, 3) := by decide +kernel
theorem dX12_takeOneof_99 : decode cX12_takeOneof 99 = .ok (.return_, 1) := by decide +kernel
theorem dX12_takeMember_0 : decode cX12_takeMember 0 = .ok (.aload_n 0, 1) := by decide +kernel
theorem dX12_takeMember_1 : decode cX12_takeMember 1 = .ok (.getfield 187, 3) := by decide +kernel
theorem dX12_takeMember_4 : decode cX12_takeMember 4 = .ok (.iload_n 1, 1) := by decide +kernel
theorem dX12_takeMember_5 : decode cX12_takeMember 5 = .ok (.iconst 1, 1) := by decide +kernel
theorem dX12_takeMember_6 : decode cX12_takeMember 6 = .ok (.isub, 1) := by decide +kernel
theorem dX12_takeMember_7 : decode cX12_takeMember 7 = .ok (.iaload, 1) := by decide +kernel
theorem dX12_takeMember_8 : decode cX12_takeMember 8 = .ok (.istore_n 2, 1) := by decide +kernel
theorem dX12_takeMember_9 : decode cX12_takeMember 9 = .ok (.aload_n 0, 1) := by decide +kernel
theorem dX12_takeMember_10 : decode cX12_takeMember 10 = .ok (.bipush 125, 2) := by decide +kernel
theorem dX12_takeMember_12 : decode cX12_takeMember 12 = .ok (.invokevirtual 354, 3) := by decide +kernel
theorem dX12_takeMember_15 : decode cX12_takeMember 15 = .ok (.ifCond .eq 11, 3) := by decide +kernel
theorem dX12_takeMember_18 : decode cX12_takeMember 18 = .ok (.aload_n 0, 1) := by decide +kernel
theorem dX12_takeMember_19 : decode cX12_takeMember 19 = .ok (.invokevirtual 357, 3) := by decide +kernel
theorem dX12_takeMember_22 : decode cX12_takeMember 22 = .ok (.iload_n 1, 1) := by decide +kernel
theorem dX12_takeMember_23 : decode cX12_takeMember 23 = .ok (.iconst 1, 1) := by decide +kernel
theorem dX12_takeMember_24 : decode cX12_takeMember 24 = .ok (.isub, 1) := by decide +kernel
theorem dX12_takeMember_25 : decode cX12_takeMember 25 = .ok (.ireturn, 1) := by decide +kernel
theorem dX12_takeMember_26 : decode cX12_takeMember 26 = .ok (.aload_n 0, 1) := by decide +kernel
theorem dX12_takeMember_27 : decode cX12_takeMember 27 = .ok (.bipush 59, 2) := by decide +kernel
theorem dX12_takeMember_29 : decode cX12_takeMember 29 = .ok (.invokevirtual 354, 3) := by decide +kernel
theorem dX12_takeMember_32 : decode cX12_takeMember 32 = .ok (.ifCond .eq 10, 3) := by decide +kernel
theorem dX12_takeMember_35 : decode cX12_takeMember 35 = .ok (.aload_n 0, 1) := by decide +kernel
theorem dX12_takeMember_36 : decode cX12_takeMember 36 = .ok (.invokevirtual 357, 3) := by decide +kernel
theorem dX12_takeMember_39 : decode cX12_takeMember 39 = .ok (.goto 80, 3) := by decide +kernel
theorem dX12_takeMember_42 : decode cX12_takeMember 42 = .ok (.aload_n 0, 1) := by decide +kernel
theorem dX12_takeMember_43 : decode cX12_takeMember 43 = .ok (.invokevirtual 478, 3) := by decide +kernel
theorem dX12_takeMember_46 : decode cX12_takeMember 46 = .ok (.ifCond .eq 15, 3) := by decide +kernel
theorem dX12_takeMember_49 : decode cX12_takeMember 49 = .ok (.aload_n 0, 1) := by decide +kernel
theorem dX12_takeMember_50 : decode cX12_takeMember 50 = .ok (.iconst 2, 1) := by decide +kernel
theorem dX12_takeMember_51 : decode cX12_takeMember 51 = .ok (.aload_n 0, 1) := by decide +kernel
theorem dX12_takeMember_52 : decode cX12_takeMember 52 = .ok (.getfield 305, 3) := by decide +kernel
theorem dX12_takeMember_55 : decode cX12_takeMember 55 = .ok (.invokevirtual 360, 3) := by decide +kernel
theorem dX12_takeMember_58 : decode cX12_takeMember 58 = .ok (.goto 61, 3) := by decide +kernel
theorem dX12_takeMember_61 : decode cX12_takeMember 61 = .ok (.aload_n 0, 1) := by decide +kernel
theorem dX12_takeMember_62 : decode cX12_takeMember 62 = .ok (.ldc2_w 423, 3) := by decide +kernel
theorem dX12_takeMember_65 : decode cX12_takeMember 65 = .ok (.invokevirtual 364, 3) := by decide +kernel
theorem dX12_takeMember_68 : decode cX12_takeMember 68 = .ok (.ifCond .eq 9, 3) := by decide +kernel
theorem dX12_takeMember_71 : decode cX12_takeMember 71 = .ok (.aload_n 0, 1) := by decide +kernel
theorem dX12_takeMember_72 : decode cX12_takeMember 72 = .ok (.iload_n 1, 1) := by decide +kernel
theorem dX12_takeMember_73 : decode cX12_takeMember 73 = .ok (.invokevirtual 496, 3) := by decide +kernel
theorem dX12_takeMember_76 : decode cX12_takeMember 76 = .ok (.ireturn, 1) := by decide +kernel
theorem dX12_takeMember_77 : decode cX12_takeMember 77 = .ok (.aload_n 0, 1) := by decide +kernel
theorem dX12_takeMember_78 : decode cX12_takeMember 78 = .ok (.ldc2_w 425, 3) := by decide +kernel
theorem dX12_takeMember_81 : decode cX12_takeMember 81 = .ok (.invokevirtual 364, 3) := by decide +kernel
theorem dX12_takeMember_84 : decode cX12_takeMember 84 = .ok (.ifCond .eq 11, 3) := by decide +kernel
theorem dX12_takeMember_87 : decode cX12_takeMember 87 = .ok (.aload_n 0, 1) := by decide +kernel
theorem dX12_takeMember_88 : decode cX12_takeMember 88 = .ok (.iload_n 2, 1) := by decide +kernel
theorem dX12_takeMember_89 : decode cX12_takeMember 89 = .ok (.invokevirtual 499, 3) := by decide +kernel
theorem dX12_takeMember_92 : decode cX12_takeMember 92 = .ok (.goto 27, 3) := by decide +kernel
theorem dX12_takeMember_95 : decode cX12_takeMember 95 = .ok (.aload_n 0, 1) := by decide +kernel
theorem dX12_takeMember_96 : decode cX12_takeMember 96 = .ok (.ldc2_w 427, 3) := by decide +kernel
theorem dX12_takeMember_99 : decode cX12_takeMember 99 = .ok (.invokevirtual 364, 3) := by decide +kernel
theorem dX12_takeMember_102 : decode cX12_takeMember 102 = .ok (.ifCond .eq 11, 3) := by decide +kernel
theorem dX12_takeMember_105 : decode cX12_takeMember 105 = .ok (.aload_n 0, 1) := by decide +kernel
theorem dX12_takeMember_106 : decode cX12_takeMember 106 = .ok (.iload_n 2, 1) := by decide +kernel
theorem dX12_takeMember_107 : decode cX12_takeMember 107 = .ok (.invokevirtual 502, 3) := by decide +kernel
theorem dX12_takeMember_110 : decode cX12_takeMember 110 = .ok (.goto 9, 3) := by decide +kernel
theorem dX12_takeMember_113 : decode cX12_takeMember 113 = .ok (.aload_n 0, 1) := by decide +kernel
theorem dX12_takeMember_114 : decode cX12_takeMember 114 = .ok (.iload_n 2, 1) := by decide +kernel
theorem dX12_takeMember_115 : decode cX12_takeMember 115 = .ok (.iconst (-1), 1) := by decide +kernel
theorem dX12_takeMember_116 : decode cX12_takeMember 116 = .ok (.invokevirtual 481, 3) := by decide +kernel
theorem dX12_takeMember_119 : decode cX12_takeMember 119 = .ok (.iload_n 1, 1) := by decide +kernel
theorem dX12_takeMember_120 : decode cX12_takeMember 120 = .ok (.ireturn, 1) := by decide +kernel
theorem dX12_readSchema_0 : decode cX12_readSchema 0 = .ok (.aload_n 0, 1) := by decide +kernel
theorem dX12_readSchema_1 : decode cX12_readSchema 1 = .ok (.iconst 0, 1) := by decide +kernel
theorem dX12_readSchema_2 : decode cX12_readSchema 2 = .ok (.putfield 328, 3) := by decide +kernel
theorem dX12_readSchema_5 : decode cX12_readSchema 5 = .ok (.aload_n 0, 1) := by decide +kernel
theorem dX12_readSchema_6 : decode cX12_readSchema 6 = .ok (.iconst 0, 1) := by decide +kernel
theorem dX12_readSchema_7 : decode cX12_readSchema 7 = .ok (.putfield 288, 3) := by decide +kernel
theorem dX12_readSchema_10 : decode cX12_readSchema 10 = .ok (.aload_n 0, 1) := by decide +kernel
theorem dX12_readSchema_11 : decode cX12_readSchema 11 = .ok (.iconst 0, 1) := by decide +kernel
theorem dX12_readSchema_12 : decode cX12_readSchema 12 = .ok (.putfield 493, 3) := by decide +kernel
theorem dX12_readSchema_15 : decode cX12_readSchema 15 = .ok (.aload_n 0, 1) := by decide +kernel
theorem dX12_readSchema_16 : decode cX12_readSchema 16 = .ok (.iconst 0, 1) := by decide +kernel
theorem dX12_readSchema_17 : decode cX12_readSchema 17 = .ok (.putfield 487, 3) := by decide +kernel
theorem dX12_readSchema_20 : decode cX12_readSchema 20 = .ok (.aload_n 0, 1) := by decide +kernel
theorem dX12_readSchema_21 : decode cX12_readSchema 21 = .ok (.iconst 0, 1) := by decide +kernel
theorem dX12_readSchema_22 : decode cX12_readSchema 22 = .ok (.putfield 457, 3) := by decide +kernel
theorem dX12_readSchema_25 : decode cX12_readSchema 25 = .ok (.aload_n 0, 1) := by decide +kernel
theorem dX12_readSchema_26 : decode cX12_readSchema 26 = .ok (.iconst 0, 1) := by decide +kernel
theorem dX12_readSchema_27 : decode cX12_readSchema 27 = .ok (.putfield 484, 3) := by decide +kernel
theorem dX12_readSchema_30 : decode cX12_readSchema 30 = .ok (.aload_n 0, 1) := by decide +kernel
theorem dX12_readSchema_31 : decode cX12_readSchema 31 = .ok (.iconst 0, 1) := by decide +kernel
theorem dX12_readSchema_32 : decode cX12_readSchema 32 = .ok (.putfield 475, 3) := by decide +kernel
theorem dX12_readSchema_35 : decode cX12_readSchema 35 = .ok (.aload_n 0, 1) := by decide +kernel
theorem dX12_readSchema_36 : decode cX12_readSchema 36 = .ok (.iconst 0, 1) := by decide +kernel
theorem dX12_readSchema_37 : decode cX12_readSchema 37 = .ok (.putfield 431, 3) := by decide +kernel
theorem dX12_readSchema_40 : decode cX12_readSchema 40 = .ok (.aload_n 0, 1) := by decide +kernel
theorem dX12_readSchema_41 : decode cX12_readSchema 41 = .ok (.iconst 0, 1) := by decide +kernel
theorem dX12_readSchema_42 : decode cX12_readSchema 42 = .ok (.putfield 394, 3) := by decide +kernel
theorem dX12_readSchema_45 : decode cX12_readSchema 45 = .ok (.aload_n 0, 1) := by decide +kernel
theorem dX12_readSchema_46 : decode cX12_readSchema 46 = .ok (.iconst 0, 1) := by decide +kernel
theorem dX12_readSchema_47 : decode cX12_readSchema 47 = .ok (.invokevirtual 350, 3) := by decide +kernel
theorem dX12_readSchema_50 : decode cX12_readSchema 50 = .ok (.aload_n 0, 1) := by decide +kernel
theorem dX12_readSchema_51 : decode cX12_readSchema 51 = .ok (.ldc2_w 507, 3) := by decide +kernel
theorem dX12_readSchema_54 : decode cX12_readSchema 54 = .ok (.invokevirtual 446, 3) := by decide +kernel
theorem dX12_readSchema_57 : decode cX12_readSchema 57 = .ok (.aload_n 0, 1) := by decide +kernel
theorem dX12_readSchema_58 : decode cX12_readSchema 58 = .ok (.bipush 61, 2) := by decide +kernel
theorem dX12_readSchema_60 : decode cX12_readSchema 60 = .ok (.invokevirtual 450, 3) := by decide +kernel
theorem dX12_readSchema_63 : decode cX12_readSchema 63 = .ok (.aload_n 0, 1) := by decide +kernel
theorem dX12_readSchema_64 : decode cX12_readSchema 64 = .ok (.getfield 328, 3) := by decide +kernel
theorem dX12_readSchema_67 : decode cX12_readSchema 67 = .ok (.ifCond .ne 19, 3) := by decide +kernel
theorem dX12_readSchema_70 : decode cX12_readSchema 70 = .ok (.aload_n 0, 1) := by decide +kernel
theorem dX12_readSchema_71 : decode cX12_readSchema 71 = .ok (.invokevirtual 509, 3) := by decide +kernel
theorem dX12_readSchema_74 : decode cX12_readSchema 74 = .ok (.ifCond .ne 12, 3) := by decide +kernel
theorem dX12_readSchema_77 : decode cX12_readSchema 77 = .ok (.aload_n 0, 1) := by decide +kernel
theorem dX12_readSchema_78 : decode cX12_readSchema 78 = .ok (.iconst 1, 1) := by decide +kernel
theorem dX12_readSchema_79 : decode cX12_readSchema 79 = .ok (.aload_n 0, 1) := by decide +kernel
theorem dX12_readSchema_80 : decode cX12_readSchema 80 = .ok (.getfield 305, 3) := by decide +kernel
theorem dX12_readSchema_83 : decode cX12_readSchema 83 = .ok (.invokevirtual 360, 3) := by decide +kernel
theorem dX12_readSchema_86 : decode cX12_readSchema 86 = .ok (.aload_n 0, 1) := by decide +kernel
theorem dX12_readSchema_87 : decode cX12_readSchema 87 = .ok (.getfield 328, 3) := by decide +kernel
theorem dX12_readSchema_90 : decode cX12_readSchema 90 = .ok (.ifCond .ne 7, 3) := by decide +kernel
theorem dX12_readSchema_93 : decode cX12_readSchema 93 = .ok (.aload_n 0, 1) := by decide +kernel
theorem dX12_readSchema_94 : decode cX12_readSchema 94 = .ok (.invokevirtual 357, 3) := by decide +kernel
theorem dX12_readSchema_97 : decode cX12_readSchema 97 = .ok (.aload_n 0, 1) := by decide +kernel
theorem dX12_readSchema_98 : decode cX12_readSchema 98 = .ok (.bipush 59, 2) := by decide +kernel
theorem dX12_readSchema_100 : decode cX12_readSchema 100 = .ok (.invokevirtual 450, 3) := by decide +kernel
theorem dX12_readSchema_103 : decode cX12_readSchema 103 = .ok (.iconst 0, 1) := by decide +kernel
theorem dX12_readSchema_104 : decode cX12_readSchema 104 = .ok (.istore_n 1, 1) := by decide +kernel
theorem dX12_readSchema_105 : decode cX12_readSchema 105 = .ok (.aload_n 0, 1) := by decide +kernel
theorem dX12_readSchema_106 : decode cX12_readSchema 106 = .ok (.getfield 328, 3) := by decide +kernel
theorem dX12_readSchema_109 : decode cX12_readSchema 109 = .ok (.ifCond .ne 95, 3) := by decide +kernel
theorem dX12_readSchema_112 : decode cX12_readSchema 112 = .ok (.iload_n 1, 1) := by decide +kernel
theorem dX12_readSchema_113 : decode cX12_readSchema 113 = .ok (.ifCond .gt 10, 3) := by decide +kernel
theorem dX12_readSchema_116 : decode cX12_readSchema 116 = .ok (.aload_n 0, 1) := by decide +kernel
theorem dX12_readSchema_117 : decode cX12_readSchema 117 = .ok (.getfield 298, 3) := by decide +kernel
theorem dX12_readSchema_120 : decode cX12_readSchema 120 = .ok (.ifCond .eq 84, 3) := by decide +kernel
theorem dX12_readSchema_123 : decode cX12_readSchema 123 = .ok (.iload_n 1, 1) := by decide +kernel
theorem dX12_readSchema_124 : decode cX12_readSchema 124 = .ok (.ifCond .le 12, 3) := by decide +kernel
theorem dX12_readSchema_127 : decode cX12_readSchema 127 = .ok (.aload_n 0, 1) := by decide +kernel
theorem dX12_readSchema_128 : decode cX12_readSchema 128 = .ok (.iload_n 1, 1) := by decide +kernel
theorem dX12_readSchema_129 : decode cX12_readSchema 129 = .ok (.invokevirtual 512, 3) := by decide +kernel
theorem dX12_readSchema_132 : decode cX12_readSchema 132 = .ok (.istore_n 1, 1) := by decide +kernel
theorem dX12_readSchema_133 : decode cX12_readSchema 133 = .ok (.goto (-28), 3) := by decide +kernel
theorem dX12_readSchema_136 : decode cX12_readSchema 136 = .ok (.aload_n 0, 1) := by decide +kernel
theorem dX12_readSchema_137 : decode cX12_readSchema 137 = .ok (.invokevirtual 478, 3) := by decide +kernel
theorem dX12_readSchema_140 : decode cX12_readSchema 140 = .ok (.ifCond .eq 15, 3) := by decide +kernel
theorem dX12_readSchema_143 : decode cX12_readSchema 143 = .ok (.aload_n 0, 1) := by decide +kernel
theorem dX12_readSchema_144 : decode cX12_readSchema 144 = .ok (.iconst 2, 1) := by decide +kernel
theorem dX12_readSchema_145 : decode cX12_readSchema 145 = .ok (.aload_n 0, 1) := by decide +kernel
theorem dX12_readSchema_146 : decode cX12_readSchema 146 = .ok (.getfield 305, 3) := by decide +kernel
theorem dX12_readSchema_149 : decode cX12_readSchema 149 = .ok (.invokevirtual 360, 3) := by decide +kernel
theorem dX12_readSchema_152 : decode cX12_readSchema 152 = .ok (.goto (-47), 3) := by decide +kernel
theorem dX12_readSchema_155 : decode cX12_readSchema 155 = .ok (.aload_n 0, 1) := by decide +kernel
theorem dX12_readSchema_156 : decode cX12_readSchema 156 = .ok (.ldc2_w 423, 3) := by decide +kernel
theorem dX12_readSchema_159 : decode cX12_readSchema 159 = .ok (.invokevirtual 364, 3) := by decide +kernel
theorem dX12_readSchema_162 : decode cX12_readSchema 162 = .ok (.ifCond .eq 12, 3) := by decide +kernel
theorem dX12_readSchema_165 : decode cX12_readSchema 165 = .ok (.aload_n 0, 1) := by decide +kernel
theorem dX12_readSchema_166 : decode cX12_readSchema 166 = .ok (.iconst 0, 1) := by decide +kernel
theorem dX12_readSchema_167 : decode cX12_readSchema 167 = .ok (.invokevirtual 496, 3) := by decide +kernel
theorem dX12_readSchema_170 : decode cX12_readSchema 170 = .ok (.istore_n 1, 1) := by decide +kernel
theorem dX12_readSchema_171 : decode cX12_readSchema 171 = .ok (.goto (-66), 3) := by decide +kernel
theorem dX12_readSchema_174 : decode cX12_readSchema 174 = .ok (.aload_n 0, 1) := by decide +kernel
theorem dX12_readSchema_175 : decode cX12_readSchema 175 = .ok (.ldc2_w 425, 3) := by decide +kernel
theorem dX12_readSchema_178 : decode cX12_readSchema 178 = .ok (.invokevirtual 364, 3) := by decide +kernel
theorem dX12_readSchema_181 : decode cX12_readSchema 181 = .ok (.ifCond .eq 11, 3) := by decide +kernel
theorem dX12_readSchema_184 : decode cX12_readSchema 184 = .ok (.aload_n 0, 1) := by decide +kernel
theorem dX12_readSchema_185 : decode cX12_readSchema 185 = .ok (.iconst (-1), 1) := by decide +kernel
theorem dX12_readSchema_186 : decode cX12_readSchema 186 = .ok (.invokevirtual 499, 3) := by decide +kernel
theorem dX12_readSchema_189 : decode cX12_readSchema 189 = .ok (.goto (-84), 3) := by decide +kernel
theorem dX12_readSchema_192 : decode cX12_readSchema 192 = .ok (.aload_n 0, 1) := by decide +kernel
theorem dX12_readSchema_193 : decode cX12_readSchema 193 = .ok (.iconst 1, 1) := by decide +kernel
theorem dX12_readSchema_194 : decode cX12_readSchema 194 = .ok (.aload_n 0, 1) := by decide +kernel
theorem dX12_readSchema_195 : decode cX12_readSchema 195 = .ok (.getfield 305, 3) := by decide +kernel
theorem dX12_readSchema_198 : decode cX12_readSchema 198 = .ok (.invokevirtual 360, 3) := by decide +kernel
theorem dX12_readSchema_201 : decode cX12_readSchema 201 = .ok (.goto (-96), 3) := by decide +kernel
theorem dX12_readSchema_204 : decode cX12_readSchema 204 = .ok (.return_, 1) := by decide +kernel
theorem dX12_keepName_0 : decode cX12_keepName 0 = .ok (.aload_n 0, 1) := by decide +kernel
theorem dX12_keepName_1 : decode cX12_keepName 1 = .ok (.getfield 542, 3) := by decide +kernel
theorem dX12_keepName_4 : decode cX12_keepName 4 = .ok (.istore_n 3, 1) := by decide +kernel
theorem dX12_keepName_5 : decode cX12_keepName 5 = .ok (.iconst 0, 1) := by decide +kernel
theorem dX12_keepName_6 : decode cX12_keepName 6 = .ok (.istore 4, 2) := by decide +kernel
theorem dX12_keepName_8 : decode cX12_keepName 8 = .ok (.iload 4, 2) := by decide +kernel
theorem dX12_keepName_10 : decode cX12_keepName 10 = .ok (.iload_n 2, 1) := by decide +kernel
theorem dX12_keepName_11 : decode cX12_keepName 11 = .ok (.if_icmp .ge 27, 3) := by decide +kernel
theorem dX12_keepName_14 : decode cX12_keepName 14 = .ok (.aload_n 0, 1) := by decide +kernel
theorem dX12_keepName_15 : decode cX12_keepName 15 = .ok (.getfield 90, 3) := by decide +kernel
theorem dX12_keepName_18 : decode cX12_keepName 18 = .ok (.iload_n 3, 1) := by decide +kernel
theorem dX12_keepName_19 : decode cX12_keepName 19 = .ok (.iload 4, 2) := by decide +kernel
theorem dX12_keepName_21 : decode cX12_keepName 21 = .ok (.iadd, 1) := by decide +kernel
theorem dX12_keepName_22 : decode cX12_keepName 22 = .ok (.aload_n 0, 1) := by decide +kernel
theorem dX12_keepName_23 : decode cX12_keepName 23 = .ok (.getfield 7, 3) := by decide +kernel
theorem dX12_keepName_26 : decode cX12_keepName 26 = .ok (.iload_n 1, 1) := by decide +kernel
theorem dX12_keepName_27 : decode cX12_keepName 27 = .ok (.iload 4, 2) := by decide +kernel
theorem dX12_keepName_29 : decode cX12_keepName 29 = .ok (.iadd, 1) := by decide +kernel
theorem dX12_keepName_30 : decode cX12_keepName 30 = .ok (.iaload, 1) := by decide +kernel
theorem dX12_keepName_31 : decode cX12_keepName 31 = .ok (.iastore, 1) := by decide +kernel
theorem dX12_keepName_32 : decode cX12_keepName 32 = .ok (.iinc 4 1, 3) := by decide +kernel
theorem dX12_keepName_35 : decode cX12_keepName 35 = .ok (.goto (-27), 3) := by decide +kernel
theorem dX12_keepName_38 : decode cX12_keepName 38 = .ok (.aload_n 0, 1) := by decide +kernel
theorem dX12_keepName_39 : decode cX12_keepName 39 = .ok (.dup, 1) := by decide +kernel
theorem dX12_keepName_40 : decode cX12_keepName 40 = .ok (.getfield 542, 3) := by decide +kernel
theorem dX12_keepName_43 : decode cX12_keepName 43 = .ok (.iload_n 2, 1) := by decide +kernel
theorem dX12_keepName_44 : decode cX12_keepName 44 = .ok (.iadd, 1) := by decide +kernel
theorem dX12_keepName_45 : decode cX12_keepName 45 = .ok (.putfield 542, 3) := by decide +kernel
theorem dX12_keepName_48 : decode cX12_keepName 48 = .ok (.iload_n 3, 1) := by decide +kernel
theorem dX12_keepName_49 : decode cX12_keepName 49 = .ok (.ireturn, 1) := by decide +kernel
theorem dX12_keep_0 : decode cX12_keep 0 = .ok (.aload_n 0, 1) := by decide +kernel
theorem dX12_keep_1 : decode cX12_keep 1 = .ok (.sipush 600, 3) := by decide +kernel
theorem dX12_keep_4 : decode cX12_keep 4 = .ok (.iload_n 1, 1) := by decide +kernel
theorem dX12_keep_5 : decode cX12_keep 5 = .ok (.imul, 1) := by decide +kernel
theorem dX12_keep_6 : decode cX12_keep 6 = .ok (.putfield 542, 3) := by decide +kernel
theorem dX12_keep_9 : decode cX12_keep 9 = .ok (.aload_n 0, 1) := by decide +kernel
theorem dX12_keep_10 : decode cX12_keep 10 = .ok (.getfield 20, 3) := by decide +kernel
theorem dX12_keep_13 : decode cX12_keep 13 = .ok (.iload_n 1, 1) := by decide +kernel
theorem dX12_keep_14 : decode cX12_keep 14 = .ok (.aload_n 0, 1) := by decide +kernel
theorem dX12_keep_15 : decode cX12_keep 15 = .ok (.getfield 493, 3) := by decide +kernel
theorem dX12_keep_18 : decode cX12_keep 18 = .ok (.iastore, 1) := by decide +kernel
theorem dX12_keep_19 : decode cX12_keep 19 = .ok (.aload_n 0, 1) := by decide +kernel
theorem dX12_keep_20 : decode cX12_keep 20 = .ok (.getfield 23, 3) := by decide +kernel
theorem dX12_keep_23 : decode cX12_keep 23 = .ok (.iload_n 1, 1) := by decide +kernel
theorem dX12_keep_24 : decode cX12_keep 24 = .ok (.aload_n 0, 1) := by decide +kernel
theorem dX12_keep_25 : decode cX12_keep 25 = .ok (.getfield 487, 3) := by decide +kernel
theorem dX12_keep_28 : decode cX12_keep 28 = .ok (.iastore, 1) := by decide +kernel
theorem dX12_keep_29 : decode cX12_keep 29 = .ok (.aload_n 0, 1) := by decide +kernel
theorem dX12_keep_30 : decode cX12_keep 30 = .ok (.getfield 26, 3) := by decide +kernel
theorem dX12_keep_33 : decode cX12_keep 33 = .ok (.iload_n 1, 1) := by decide +kernel
theorem dX12_keep_34 : decode cX12_keep 34 = .ok (.aload_n 0, 1) := by decide +kernel
theorem dX12_keep_35 : decode cX12_keep 35 = .ok (.getfield 457, 3) := by decide +kernel
theorem dX12_keep_38 : decode cX12_keep 38 = .ok (.iastore, 1) := by decide +kernel
theorem dX12_keep_39 : decode cX12_keep 39 = .ok (.aload_n 0, 1) := by decide +kernel
theorem dX12_keep_40 : decode cX12_keep 40 = .ok (.getfield 29, 3) := by decide +kernel
theorem dX12_keep_43 : decode cX12_keep 43 = .ok (.iload_n 1, 1) := by decide +kernel
theorem dX12_keep_44 : decode cX12_keep 44 = .ok (.aload_n 0, 1) := by decide +kernel
theorem dX12_keep_45 : decode cX12_keep 45 = .ok (.getfield 484, 3) := by decide +kernel
theorem dX12_keep_48 : decode cX12_keep 48 = .ok (.iastore, 1) := by decide +kernel
theorem dX12_keep_49 : decode cX12_keep 49 = .ok (.iconst 0, 1) := by decide +kernel
theorem dX12_keep_50 : decode cX12_keep 50 = .ok (.istore_n 2, 1) := by decide +kernel
theorem dX12_keep_51 : decode cX12_keep 51 = .ok (.iload_n 2, 1) := by decide +kernel
theorem dX12_keep_52 : decode cX12_keep 52 = .ok (.aload_n 0, 1) := by decide +kernel
theorem dX12_keep_53 : decode cX12_keep 53 = .ok (.getfield 493, 3) := by decide +kernel
theorem dX12_keep_56 : decode cX12_keep 56 = .ok (.if_icmp .ge 70, 3) := by decide +kernel
theorem dX12_keep_59 : decode cX12_keep 59 = .ok (.aload_n 0, 1) := by decide +kernel
theorem dX12_keep_60 : decode cX12_keep 60 = .ok (.getfield 32, 3) := by decide +kernel
theorem dX12_keep_63 : decode cX12_keep 63 = .ok (.bipush 16, 2) := by decide +kernel
theorem dX12_keep_65 : decode cX12_keep 65 = .ok (.iload_n 1, 1) := by decide +kernel
theorem dX12_keep_66 : decode cX12_keep 66 = .ok (.imul, 1) := by decide +kernel
theorem dX12_keep_67 : decode cX12_keep 67 = .ok (.iload_n 2, 1) := by decide +kernel
theorem dX12_keep_68 : decode cX12_keep 68 = .ok (.iadd, 1) := by decide +kernel
theorem dX12_keep_69 : decode cX12_keep 69 = .ok (.aload_n 0, 1) := by decide +kernel
theorem dX12_keep_70 : decode cX12_keep 70 = .ok (.getfield 93, 3) := by decide +kernel
theorem dX12_keep_73 : decode cX12_keep 73 = .ok (.iload_n 2, 1) := by decide +kernel
theorem dX12_keep_74 : decode cX12_keep 74 = .ok (.iaload, 1) := by decide +kernel
theorem dX12_keep_75 : decode cX12_keep 75 = .ok (.iastore, 1) := by decide +kernel
theorem dX12_keep_76 : decode cX12_keep 76 = .ok (.aload_n 0, 1) := by decide +kernel
theorem dX12_keep_77 : decode cX12_keep 77 = .ok (.getfield 35, 3) := by decide +kernel
theorem dX12_keep_80 : decode cX12_keep 80 = .ok (.bipush 16, 2) := by decide +kernel
theorem dX12_keep_82 : decode cX12_keep 82 = .ok (.iload_n 1, 1) := by decide +kernel
theorem dX12_keep_83 : decode cX12_keep 83 = .ok (.imul, 1) := by decide +kernel
theorem dX12_keep_84 : decode cX12_keep 84 = .ok (.iload_n 2, 1) := by decide +kernel
theorem dX12_keep_85 : decode cX12_keep 85 = .ok (.iadd, 1) := by decide +kernel
theorem dX12_keep_86 : decode cX12_keep 86 = .ok (.aload_n 0, 1) := by decide +kernel
theorem dX12_keep_87 : decode cX12_keep 87 = .ok (.aload_n 0, 1) := by decide +kernel
theorem dX12_keep_88 : decode cX12_keep 88 = .ok (.getfield 96, 3) := by decide +kernel
theorem dX12_keep_91 : decode cX12_keep 91 = .ok (.iload_n 2, 1) := by decide +kernel
theorem dX12_keep_92 : decode cX12_keep 92 = .ok (.iaload, 1) := by decide +kernel
theorem dX12_keep_93 : decode cX12_keep 93 = .ok (.aload_n 0, 1) := by decide +kernel
theorem dX12_keep_94 : decode cX12_keep 94 = .ok (.getfield 99, 3) := by decide +kernel
theorem dX12_keep_97 : decode cX12_keep 97 = .ok (.iload_n 2, 1) := by decide +kernel
theorem dX12_keep_98 : decode cX12_keep 98 = .ok (.iaload, 1) := by decide +kernel
theorem dX12_keep_99 : decode cX12_keep 99 = .ok (.invokevirtual 545, 3) := by decide +kernel
theorem dX12_keep_102 : decode cX12_keep 102 = .ok (.iastore, 1) := by decide +kernel
theorem dX12_keep_103 : decode cX12_keep 103 = .ok (.aload_n 0, 1) := by decide +kernel
theorem dX12_keep_104 : decode cX12_keep 104 = .ok (.getfield 38, 3) := by decide +kernel
theorem dX12_keep_107 : decode cX12_keep 107 = .ok (.bipush 16, 2) := by decide +kernel
theorem dX12_keep_109 : decode cX12_keep 109 = .ok (.iload_n 1, 1) := by decide +kernel
theorem dX12_keep_110 : decode cX12_keep 110 = .ok (.imul, 1) := by decide +kernel
theorem dX12_keep_111 : decode cX12_keep 111 = .ok (.iload_n 2, 1) := by decide +kernel
theorem dX12_keep_112 : decode cX12_keep 112 = .ok (.iadd, 1) := by decide +kernel
theorem dX12_keep_113 : decode cX12_keep 113 = .ok (.aload_n 0, 1) := by decide +kernel
theorem dX12_keep_114 : decode cX12_keep 114 = .ok (.getfield 99, 3) := by decide +kernel
theorem dX12_keep_117 : decode cX12_keep 117 = .ok (.iload_n 2, 1) := by decide +kernel
theorem dX12_keep_118 : decode cX12_keep 118 = .ok (.iaload, 1) := by decide +kernel
theorem dX12_keep_119 : decode cX12_keep 119 = .ok (.iastore, 1) := by decide +kernel
theorem dX12_keep_120 : decode cX12_keep 120 = .ok (.iinc 2 1, 3) := by decide +kernel
theorem dX12_keep_123 : decode cX12_keep 123 = .ok (.goto (-72), 3) := by decide +kernel
theorem dX12_keep_126 : decode cX12_keep 126 = .ok (.iconst 0, 1) := by decide +kernel
theorem dX12_keep_127 : decode cX12_keep 127 = .ok (.istore_n 2, 1) := by decide +kernel
theorem dX12_keep_128 : decode cX12_keep 128 = .ok (.iload_n 2, 1) := by decide +kernel
theorem dX12_keep_129 : decode cX12_keep 129 = .ok (.aload_n 0, 1) := by decide +kernel
theorem dX12_keep_130 : decode cX12_keep 130 = .ok (.getfield 487, 3) := by decide +kernel
theorem dX12_keep_133 : decode cX12_keep 133 = .ok (.if_icmp .ge 70, 3) := by decide +kernel
theorem dX12_keep_136 : decode cX12_keep 136 = .ok (.aload_n 0, 1) := by decide +kernel
theorem dX12_keep_137 : decode cX12_keep 137 = .ok (.getfield 41, 3) := by decide +kernel
theorem dX12_keep_140 : decode cX12_keep 140 = .ok (.bipush 8, 2) := by decide +kernel
theorem dX12_keep_142 : decode cX12_keep 142 = .ok (.iload_n 1, 1) := by decide +kernel
theorem dX12_keep_143 : decode cX12_keep 143 = .ok (.imul, 1) := by decide +kernel
theorem dX12_keep_144 : decode cX12_keep 144 = .ok (.iload_n 2, 1) := by decide +kernel
theorem dX12_keep_145 : decode cX12_keep 145 = .ok (.iadd, 1) := by decide +kernel
theorem dX12_keep_146 : decode cX12_keep 146 = .ok (.aload_n 0, 1) := by decide +kernel
theorem dX12_keep_147 : decode cX12_keep 147 = .ok (.getfield 102, 3) := by decide +kernel
theorem dX12_keep_150 : decode cX12_keep 150 = .ok (.iload_n 2, 1) := by decide +kernel
theorem dX12_keep_151 : decode cX12_keep 151 = .ok (.iaload, 1) := by decide +kernel
theorem dX12_keep_152 : decode cX12_keep 152 = .ok (.iastore, 1) := by decide +kernel
theorem dX12_keep_153 : decode cX12_keep 153 = .ok (.aload_n 0, 1) := by decide +kernel
theorem dX12_keep_154 : decode cX12_keep 154 = .ok (.getfield 44, 3) := by decide +kernel
theorem dX12_keep_157 : decode cX12_keep 157 = .ok (.bipush 8, 2) := by decide +kernel
theorem dX12_keep_159 : decode cX12_keep 159 = .ok (.iload_n 1, 1) := by decide +kernel
theorem dX12_keep_160 : decode cX12_keep 160 = .ok (.imul, 1) := by decide +kernel
theorem dX12_keep_161 : decode cX12_keep 161 = .ok (.iload_n 2, 1) := by decide +kernel
theorem dX12_keep_162 : decode cX12_keep 162 = .ok (.iadd, 1) := by decide +kernel
theorem dX12_keep_163 : decode cX12_keep 163 = .ok (.aload_n 0, 1) := by decide +kernel
theorem dX12_keep_164 : decode cX12_keep 164 = .ok (.aload_n 0, 1) := by decide +kernel
theorem dX12_keep_165 : decode cX12_keep 165 = .ok (.getfield 105, 3) := by decide +kernel
theorem dX12_keep_168 : decode cX12_keep 168 = .ok (.iload_n 2, 1) := by decide +kernel
theorem dX12_keep_169 : decode cX12_keep 169 = .ok (.iaload, 1) := by decide +kernel
theorem dX12_keep_170 : decode cX12_keep 170 = .ok (.aload_n 0, 1) := by decide +kernel
theorem dX12_keep_171 : decode cX12_keep 171 = .ok (.getfield 108, 3) := by decide +kernel
theorem dX12_keep_174 : decode cX12_keep 174 = .ok (.iload_n 2, 1) := by decide +kernel
theorem dX12_keep_175 : decode cX12_keep 175 = .ok (.iaload, 1) := by decide +kernel
theorem dX12_keep_176 : decode cX12_keep 176 = .ok (.invokevirtual 545, 3) := by decide +kernel
theorem dX12_keep_179 : decode cX12_keep 179 = .ok (.iastore, 1) := by decide +kernel
theorem dX12_keep_180 : decode cX12_keep 180 = .ok (.aload_n 0, 1) := by decide +kernel
theorem dX12_keep_181 : decode cX12_keep 181 = .ok (.getfield 47, 3) := by decide +kernel
theorem dX12_keep_184 : decode cX12_keep 184 = .ok (.bipush 8, 2) := by decide +kernel
theorem dX12_keep_186 : decode cX12_keep 186 = .ok (.iload_n 1, 1) := by decide +kernel
theorem dX12_keep_187 : decode cX12_keep 187 = .ok (.imul, 1) := by decide +kernel
theorem dX12_keep_188 : decode cX12_keep 188 = .ok (.iload_n 2, 1) := by decide +kernel
theorem dX12_keep_189 : decode cX12_keep 189 = .ok (.iadd, 1) := by decide +kernel
theorem dX12_keep_190 : decode cX12_keep 190 = .ok (.aload_n 0, 1) := by decide +kernel
theorem dX12_keep_191 : decode cX12_keep 191 = .ok (.getfield 108, 3) := by decide +kernel
theorem dX12_keep_194 : decode cX12_keep 194 = .ok (.iload_n 2, 1) := by decide +kernel
theorem dX12_keep_195 : decode cX12_keep 195 = .ok (.iaload, 1) := by decide +kernel
theorem dX12_keep_196 : decode cX12_keep 196 = .ok (.iastore, 1) := by decide +kernel
theorem dX12_keep_197 : decode cX12_keep 197 = .ok (.iinc 2 1, 3) := by decide +kernel
theorem dX12_keep_200 : decode cX12_keep 200 = .ok (.goto (-72), 3) := by decide +kernel
theorem dX12_keep_203 : decode cX12_keep 203 = .ok (.iconst 0, 1) := by decide +kernel
theorem dX12_keep_204 : decode cX12_keep 204 = .ok (.istore_n 2, 1) := by decide +kernel
theorem dX12_keep_205 : decode cX12_keep 205 = .ok (.iload_n 2, 1) := by decide +kernel
theorem dX12_keep_206 : decode cX12_keep 206 = .ok (.aload_n 0, 1) := by decide +kernel
theorem dX12_keep_207 : decode cX12_keep 207 = .ok (.getfield 457, 3) := by decide +kernel
theorem dX12_keep_210 : decode cX12_keep 210 = .ok (.if_icmp .ge 165, 3) := by decide +kernel
theorem dX12_keep_213 : decode cX12_keep 213 = .ok (.bipush 60, 2) := by decide +kernel
theorem dX12_keep_215 : decode cX12_keep 215 = .ok (.iload_n 1, 1) := by decide +kernel
theorem dX12_keep_216 : decode cX12_keep 216 = .ok (.imul, 1) := by decide +kernel
theorem dX12_keep_217 : decode cX12_keep 217 = .ok (.iload_n 2, 1) := by decide +kernel
theorem dX12_keep_218 : decode cX12_keep 218 = .ok (.iadd, 1) := by decide +kernel
theorem dX12_keep_219 : decode cX12_keep 219 = .ok (.istore_n 3, 1) := by decide +kernel
theorem dX12_keep_220 : decode cX12_keep 220 = .ok (.aload_n 0, 1) := by decide +kernel
theorem dX12_keep_221 : decode cX12_keep 221 = .ok (.getfield 50, 3) := by decide +kernel
theorem dX12_keep_224 : decode cX12_keep 224 = .ok (.iload_n 3, 1) := by decide +kernel
theorem dX12_keep_225 : decode cX12_keep 225 = .ok (.aload_n 0, 1) := by decide +kernel
theorem dX12_keep_226 : decode cX12_keep 226 = .ok (.getfield 111, 3) := by decide +kernel
theorem dX12_keep_229 : decode cX12_keep 229 = .ok (.iload_n 2, 1) := by decide +kernel
theorem dX12_keep_230 : decode cX12_keep 230 = .ok (.iaload, 1) := by decide +kernel
theorem dX12_keep_231 : decode cX12_keep 231 = .ok (.iastore, 1) := by decide +kernel
theorem dX12_keep_232 : decode cX12_keep 232 = .ok (.aload_n 0, 1) := by decide +kernel
theorem dX12_keep_233 : decode cX12_keep 233 = .ok (.getfield 53, 3) := by decide +kernel
theorem dX12_keep_236 : decode cX12_keep 236 = .ok (.iload_n 3, 1) := by decide +kernel
theorem dX12_keep_237 : decode cX12_keep 237 = .ok (.aload_n 0, 1) := by decide +kernel
theorem dX12_keep_238 : decode cX12_keep 238 = .ok (.aload_n 0, 1) := by decide +kernel
theorem dX12_keep_239 : decode cX12_keep 239 = .ok (.getfield 114, 3) := by decide +kernel
theorem dX12_keep_242 : decode cX12_keep 242 = .ok (.iload_n 2, 1) := by decide +kernel
theorem dX12_keep_243 : decode cX12_keep 243 = .ok (.iaload, 1) := by decide +kernel
theorem dX12_keep_244 : decode cX12_keep 244 = .ok (.aload_n 0, 1) := by decide +kernel
theorem dX12_keep_245 : decode cX12_keep 245 = .ok (.getfield 117, 3) := by decide +kernel
theorem dX12_keep_248 : decode cX12_keep 248 = .ok (.iload_n 2, 1) := by decide +kernel
theorem dX12_keep_249 : decode cX12_keep 249 = .ok (.iaload, 1) := by decide +kernel
theorem dX12_keep_250 : decode cX12_keep 250 = .ok (.invokevirtual 545, 3) := by decide +kernel
theorem dX12_keep_253 : decode cX12_keep 253 = .ok (.iastore, 1) := by decide +kernel
theorem dX12_keep_254 : decode cX12_keep 254 = .ok (.aload_n 0, 1) := by decide +kernel
theorem dX12_keep_255 : decode cX12_keep 255 = .ok (.getfield 56, 3) := by decide +kernel
theorem dX12_keep_258 : decode cX12_keep 258 = .ok (.iload_n 3, 1) := by decide +kernel
theorem dX12_keep_259 : decode cX12_keep 259 = .ok (.aload_n 0, 1) := by decide +kernel
theorem dX12_keep_260 : decode cX12_keep 260 = .ok (.getfield 117, 3) := by decide +kernel
theorem dX12_keep_263 : decode cX12_keep 263 = .ok (.iload_n 2, 1) := by decide +kernel
theorem dX12_keep_264 : decode cX12_keep 264 = .ok (.iaload, 1) := by decide +kernel
theorem dX12_keep_265 : decode cX12_keep 265 = .ok (.iastore, 1) := by decide +kernel
theorem dX12_keep_266 : decode cX12_keep 266 = .ok (.aload_n 0, 1) := by decide +kernel
theorem dX12_keep_267 : decode cX12_keep 267 = .ok (.getfield 59, 3) := by decide +kernel
theorem dX12_keep_270 : decode cX12_keep 270 = .ok (.iload_n 3, 1) := by decide +kernel
theorem dX12_keep_271 : decode cX12_keep 271 = .ok (.aload_n 0, 1) := by decide +kernel
theorem dX12_keep_272 : decode cX12_keep 272 = .ok (.getfield 120, 3) := by decide +kernel
theorem dX12_keep_275 : decode cX12_keep 275 = .ok (.iload_n 2, 1) := by decide +kernel
theorem dX12_keep_276 : decode cX12_keep 276 = .ok (.laload, 1) := by decide +kernel
theorem dX12_keep_277 : decode cX12_keep 277 = .ok (.l2i, 1) := by decide +kernel
theorem dX12_keep_278 : decode cX12_keep 278 = .ok (.iastore, 1) := by decide +kernel
theorem dX12_keep_279 : decode cX12_keep 279 = .ok (.aload_n 0, 1) := by decide +kernel
theorem dX12_keep_280 : decode cX12_keep 280 = .ok (.getfield 62, 3) := by decide +kernel
theorem dX12_keep_283 : decode cX12_keep 283 = .ok (.iload_n 3, 1) := by decide +kernel
theorem dX12_keep_284 : decode cX12_keep 284 = .ok (.aload_n 0, 1) := by decide +kernel
theorem dX12_keep_285 : decode cX12_keep 285 = .ok (.getfield 127, 3) := by decide +kernel
theorem dX12_keep_288 : decode cX12_keep 288 = .ok (.iload_n 2, 1) := by decide +kernel
theorem dX12_keep_289 : decode cX12_keep 289 = .ok (.iaload, 1) := by decide +kernel
theorem dX12_keep_290 : decode cX12_keep 290 = .ok (.iastore, 1) := by decide +kernel
theorem dX12_keep_291 : decode cX12_keep 291 = .ok (.aload_n 0, 1) := by decide +kernel
theorem dX12_keep_292 : decode cX12_keep 292 = .ok (.getfield 65, 3) := by decide +kernel
theorem dX12_keep_295 : decode cX12_keep 295 = .ok (.iload_n 3, 1) := by decide +kernel
theorem dX12_keep_296 : decode cX12_keep 296 = .ok (.aload_n 0, 1) := by decide +kernel
theorem dX12_keep_297 : decode cX12_keep 297 = .ok (.getfield 133, 3) := by decide +kernel
theorem dX12_keep_300 : decode cX12_keep 300 = .ok (.iload_n 2, 1) := by decide +kernel
theorem dX12_keep_301 : decode cX12_keep 301 = .ok (.iaload, 1) := by decide +kernel
theorem dX12_keep_302 : decode cX12_keep 302 = .ok (.iastore, 1) := by decide +kernel
theorem dX12_keep_303 : decode cX12_keep 303 = .ok (.aload_n 0, 1) := by decide +kernel
theorem dX12_keep_304 : decode cX12_keep 304 = .ok (.getfield 68, 3) := by decide +kernel
theorem dX12_keep_307 : decode cX12_keep 307 = .ok (.iload_n 3, 1) := by decide +kernel
theorem dX12_keep_308 : decode cX12_keep 308 = .ok (.aload_n 0, 1) := by decide +kernel
theorem dX12_keep_309 : decode cX12_keep 309 = .ok (.getfield 145, 3) := by decide +kernel
theorem dX12_keep_312 : decode cX12_keep 312 = .ok (.iload_n 2, 1) := by decide +kernel
theorem dX12_keep_313 : decode cX12_keep 313 = .ok (.baload, 1) := by decide +kernel
theorem dX12_keep_314 : decode cX12_keep 314 = .ok (.bastore, 1) := by decide +kernel
theorem dX12_keep_315 : decode cX12_keep 315 = .ok (.aload_n 0, 1) := by decide +kernel
theorem dX12_keep_316 : decode cX12_keep 316 = .ok (.getfield 72, 3) := by decide +kernel
theorem dX12_keep_319 : decode cX12_keep 319 = .ok (.iload_n 3, 1) := by decide +kernel
theorem dX12_keep_320 : decode cX12_keep 320 = .ok (.aload_n 0, 1) := by decide +kernel
theorem dX12_keep_321 : decode cX12_keep 321 = .ok (.getfield 145, 3) := by decide +kernel
theorem dX12_keep_324 : decode cX12_keep 324 = .ok (.iload_n 2, 1) := by decide +kernel
theorem dX12_keep_325 : decode cX12_keep 325 = .ok (.baload, 1) := by decide +kernel
theorem dX12_keep_326 : decode cX12_keep 326 = .ok (.ifCond .eq 29, 3) := by decide +kernel
theorem dX12_keep_329 : decode cX12_keep 329 = .ok (.aload_n 0, 1) := by decide +kernel
theorem dX12_keep_330 : decode cX12_keep 330 = .ok (.getfield 127, 3) := by decide +kernel
theorem dX12_keep_333 : decode cX12_keep 333 = .ok (.iload_n 2, 1) := by decide +kernel
theorem dX12_keep_334 : decode cX12_keep 334 = .ok (.iaload, 1) := by decide +kernel
theorem dX12_keep_335 : decode cX12_keep 335 = .ok (.invokestatic 539, 3) := by decide +kernel
theorem dX12_keep_338 : decode cX12_keep 338 = .ok (.ifCond .eq 17, 3) := by decide +kernel
theorem dX12_keep_341 : decode cX12_keep 341 = .ok (.aload_n 0, 1) := by decide +kernel
theorem dX12_keep_342 : decode cX12_keep 342 = .ok (.getfield 148, 3) := by decide +kernel
theorem dX12_keep_345 : decode cX12_keep 345 = .ok (.iload_n 2, 1) := by decide +kernel
theorem dX12_keep_346 : decode cX12_keep 346 = .ok (.iaload, 1) := by decide +kernel
theorem dX12_keep_347 : decode cX12_keep 347 = .ok (.iconst 2, 1) := by decide +kernel
theorem dX12_keep_348 : decode cX12_keep 348 = .ok (.if_icmp .eq 7, 3) := by decide +kernel
theorem dX12_keep_351 : decode cX12_keep 351 = .ok (.iconst 1, 1) := by decide +kernel
theorem dX12_keep_352 : decode cX12_keep 352 = .ok (.goto 4, 3) := by decide +kernel
theorem dX12_keep_355 : decode cX12_keep 355 = .ok (.iconst 0, 1) := by decide +kernel
theorem dX12_keep_356 : decode cX12_keep 356 = .ok (.bastore, 1) := by decide +kernel
theorem dX12_keep_357 : decode cX12_keep 357 = .ok (.aload_n 0, 1) := by decide +kernel
theorem dX12_keep_358 : decode cX12_keep 358 = .ok (.getfield 75, 3) := by decide +kernel
theorem dX12_keep_361 : decode cX12_keep 361 = .ok (.iload_n 3, 1) := by decide +kernel
theorem dX12_keep_362 : decode cX12_keep 362 = .ok (.aload_n 0, 1) := by decide +kernel
theorem dX12_keep_363 : decode cX12_keep 363 = .ok (.getfield 154, 3) := by decide +kernel
theorem dX12_keep_366 : decode cX12_keep 366 = .ok (.iload_n 2, 1) := by decide +kernel
theorem dX12_keep_367 : decode cX12_keep 367 = .ok (.iaload, 1) := by decide +kernel
theorem dX12_keep_368 : decode cX12_keep 368 = .ok (.iastore, 1) := by decide +kernel
theorem dX12_keep_369 : decode cX12_keep 369 = .ok (.iinc 2 1, 3) := by decide +kernel
theorem dX12_keep_372 : decode cX12_keep 372 = .ok (.goto (-167), 3) := by decide +kernel
theorem dX12_keep_375 : decode cX12_keep 375 = .ok (.iconst 0, 1) := by decide +kernel
theorem dX12_keep_376 : decode cX12_keep 376 = .ok (.istore_n 2, 1) := by decide +kernel
theorem dX12_keep_377 : decode cX12_keep 377 = .ok (.iload_n 2, 1) := by decide +kernel
theorem dX12_keep_378 : decode cX12_keep 378 = .ok (.aload_n 0, 1) := by decide +kernel
theorem dX12_keep_379 : decode cX12_keep 379 = .ok (.getfield 484, 3) := by decide +kernel
theorem dX12_keep_382 : decode cX12_keep 382 = .ok (.if_icmp .ge 75, 3) := by decide +kernel
theorem dX12_keep_385 : decode cX12_keep 385 = .ok (.bipush 40, 2) := by decide +kernel
theorem dX12_keep_387 : decode cX12_keep 387 = .ok (.iload_n 1, 1) := by decide +kernel
theorem dX12_keep_388 : decode cX12_keep 388 = .ok (.imul, 1) := by decide +kernel
theorem dX12_keep_389 : decode cX12_keep 389 = .ok (.iload_n 2, 1) := by decide +kernel
theorem dX12_keep_390 : decode cX12_keep 390 = .ok (.iadd, 1) := by decide +kernel
theorem dX12_keep_391 : decode cX12_keep 391 = .ok (.istore_n 3, 1) := by decide +kernel
theorem dX12_keep_392 : decode cX12_keep 392 = .ok (.aload_n 0, 1) := by decide +kernel
theorem dX12_keep_393 : decode cX12_keep 393 = .ok (.getfield 78, 3) := by decide +kernel
theorem dX12_keep_396 : decode cX12_keep 396 = .ok (.iload_n 3, 1) := by decide +kernel
theorem dX12_keep_397 : decode cX12_keep 397 = .ok (.aload_n 0, 1) := by decide +kernel
theorem dX12_keep_398 : decode cX12_keep 398 = .ok (.getfield 157, 3) := by decide +kernel
theorem dX12_keep_401 : decode cX12_keep 401 = .ok (.iload_n 2, 1) := by decide +kernel
theorem dX12_keep_402 : decode cX12_keep 402 = .ok (.iaload, 1) := by decide +kernel
theorem dX12_keep_403 : decode cX12_keep 403 = .ok (.iastore, 1) := by decide +kernel
theorem dX12_keep_404 : decode cX12_keep 404 = .ok (.aload_n 0, 1) := by decide +kernel
theorem dX12_keep_405 : decode cX12_keep 405 = .ok (.getfield 81, 3) := by decide +kernel
theorem dX12_keep_408 : decode cX12_keep 408 = .ok (.iload_n 3, 1) := by decide +kernel
theorem dX12_keep_409 : decode cX12_keep 409 = .ok (.aload_n 0, 1) := by decide +kernel
theorem dX12_keep_410 : decode cX12_keep 410 = .ok (.aload_n 0, 1) := by decide +kernel
theorem dX12_keep_411 : decode cX12_keep 411 = .ok (.getfield 160, 3) := by decide +kernel
theorem dX12_keep_414 : decode cX12_keep 414 = .ok (.iload_n 2, 1) := by decide +kernel
theorem dX12_keep_415 : decode cX12_keep 415 = .ok (.iaload, 1) := by decide +kernel
theorem dX12_keep_416 : decode cX12_keep 416 = .ok (.aload_n 0, 1) := by decide +kernel
theorem dX12_keep_417 : decode cX12_keep 417 = .ok (.getfield 163, 3) := by decide +kernel
theorem dX12_keep_420 : decode cX12_keep 420 = .ok (.iload_n 2, 1) := by decide +kernel
theorem dX12_keep_421 : decode cX12_keep 421 = .ok (.iaload, 1) := by decide +kernel
theorem dX12_keep_422 : decode cX12_keep 422 = .ok (.invokevirtual 545, 3) := by decide +kernel
theorem dX12_keep_425 : decode cX12_keep 425 = .ok (.iastore, 1) := by decide +kernel
theorem dX12_keep_426 : decode cX12_keep 426 = .ok (.aload_n 0, 1) := by decide +kernel
theorem dX12_keep_427 : decode cX12_keep 427 = .ok (.getfield 84, 3) := by decide +kernel
theorem dX12_keep_430 : decode cX12_keep 430 = .ok (.iload_n 3, 1) := by decide +kernel
theorem dX12_keep_431 : decode cX12_keep 431 = .ok (.aload_n 0, 1) := by decide +kernel
theorem dX12_keep_432 : decode cX12_keep 432 = .ok (.getfield 163, 3) := by decide +kernel
theorem dX12_keep_435 : decode cX12_keep 435 = .ok (.iload_n 2, 1) := by decide +kernel
theorem dX12_keep_436 : decode cX12_keep 436 = .ok (.iaload, 1) := by decide +kernel
theorem dX12_keep_437 : decode cX12_keep 437 = .ok (.iastore, 1) := by decide +kernel
theorem dX12_keep_438 : decode cX12_keep 438 = .ok (.aload_n 0, 1) := by decide +kernel
theorem dX12_keep_439 : decode cX12_keep 439 = .ok (.getfield 87, 3) := by decide +kernel
theorem dX12_keep_442 : decode cX12_keep 442 = .ok (.iload_n 3, 1) := by decide +kernel
theorem dX12_keep_443 : decode cX12_keep 443 = .ok (.aload_n 0, 1) := by decide +kernel
theorem dX12_keep_444 : decode cX12_keep 444 = .ok (.getfield 166, 3) := by decide +kernel
theorem dX12_keep_447 : decode cX12_keep 447 = .ok (.iload_n 2, 1) := by decide +kernel
theorem dX12_keep_448 : decode cX12_keep 448 = .ok (.laload, 1) := by decide +kernel
theorem dX12_keep_449 : decode cX12_keep 449 = .ok (.l2i, 1) := by decide +kernel
theorem dX12_keep_450 : decode cX12_keep 450 = .ok (.iastore, 1) := by decide +kernel
theorem dX12_keep_451 : decode cX12_keep 451 = .ok (.iinc 2 1, 3) := by decide +kernel
theorem dX12_keep_454 : decode cX12_keep 454 = .ok (.goto (-77), 3) := by decide +kernel
theorem dX12_keep_457 : decode cX12_keep 457 = .ok (.return_, 1) := by decide +kernel
theorem dX12_compile_0 : decode cX12_compile 0 = .ok (.aload_n 0, 1) := by decide +kernel
theorem dX12_compile_1 : decode cX12_compile 1 = .ok (.iload_n 1, 1) := by decide +kernel
theorem dX12_compile_2 : decode cX12_compile 2 = .ok (.invokestatic 548, 3) := by decide +kernel
theorem dX12_compile_5 : decode cX12_compile 5 = .ok (.ifCond .eq 7, 3) := by decide +kernel
theorem dX12_compile_8 : decode cX12_compile 8 = .ok (.iconst 0, 1) := by decide +kernel
theorem dX12_compile_9 : decode cX12_compile 9 = .ok (.goto 4, 3) := by decide +kernel
theorem dX12_compile_12 : decode cX12_compile 12 = .ok (.iconst 1, 1) := by decide +kernel
theorem dX12_compile_13 : decode cX12_compile 13 = .ok (.putfield 265, 3) := by decide +kernel
theorem dX12_compile_16 : decode cX12_compile 16 = .ok (.aload_n 0, 1) := by decide +kernel
theorem dX12_compile_17 : decode cX12_compile 17 = .ok (.getfield 265, 3) := by decide +kernel
theorem dX12_compile_20 : decode cX12_compile 20 = .ok (.ifCond .eq 5, 3) := by decide +kernel
theorem dX12_compile_23 : decode cX12_compile 23 = .ok (.iconst 0, 1) := by decide +kernel
theorem dX12_compile_24 : decode cX12_compile 24 = .ok (.ireturn, 1) := by decide +kernel
theorem dX12_compile_25 : decode cX12_compile 25 = .ok (.aload_n 0, 1) := by decide +kernel
theorem dX12_compile_26 : decode cX12_compile 26 = .ok (.aload_n 0, 1) := by decide +kernel
theorem dX12_compile_27 : decode cX12_compile 27 = .ok (.getfield 268, 3) := by decide +kernel
theorem dX12_compile_30 : decode cX12_compile 30 = .ok (.putfield 274, 3) := by decide +kernel
theorem dX12_compile_33 : decode cX12_compile 33 = .ok (.aload_n 0, 1) := by decide +kernel
theorem dX12_compile_34 : decode cX12_compile 34 = .ok (.iconst 0, 1) := by decide +kernel
theorem dX12_compile_35 : decode cX12_compile 35 = .ok (.putfield 268, 3) := by decide +kernel
theorem dX12_compile_38 : decode cX12_compile 38 = .ok (.aload_n 0, 1) := by decide +kernel
theorem dX12_compile_39 : decode cX12_compile 39 = .ok (.iconst 0, 1) := by decide +kernel
theorem dX12_compile_40 : decode cX12_compile 40 = .ok (.putfield 551, 3) := by decide +kernel
theorem dX12_compile_43 : decode cX12_compile 43 = .ok (.aload_n 0, 1) := by decide +kernel
theorem dX12_compile_44 : decode cX12_compile 44 = .ok (.invokevirtual 554, 3) := by decide +kernel
theorem dX12_compile_47 : decode cX12_compile 47 = .ok (.aload_n 0, 1) := by decide +kernel
theorem dX12_compile_48 : decode cX12_compile 48 = .ok (.getfield 328, 3) := by decide +kernel
theorem dX12_compile_51 : decode cX12_compile 51 = .ok (.ifCond .ne 26, 3) := by decide +kernel
theorem dX12_compile_54 : decode cX12_compile 54 = .ok (.aload_n 0, 1) := by decide +kernel
theorem dX12_compile_55 : decode cX12_compile 55 = .ok (.invokevirtual 557, 3) := by decide +kernel
theorem dX12_compile_58 : decode cX12_compile 58 = .ok (.aload_n 0, 1) := by decide +kernel
theorem dX12_compile_59 : decode cX12_compile 59 = .ok (.invokevirtual 560, 3) := by decide +kernel
theorem dX12_compile_62 : decode cX12_compile 62 = .ok (.aload_n 0, 1) := by decide +kernel
theorem dX12_compile_63 : decode cX12_compile 63 = .ok (.invokevirtual 563, 3) := by decide +kernel
theorem dX12_compile_66 : decode cX12_compile 66 = .ok (.aload_n 0, 1) := by decide +kernel
theorem dX12_compile_67 : decode cX12_compile 67 = .ok (.getfield 328, 3) := by decide +kernel
theorem dX12_compile_70 : decode cX12_compile 70 = .ok (.ifCond .ne 7, 3) := by decide +kernel
theorem dX12_compile_73 : decode cX12_compile 73 = .ok (.aload_n 0, 1) := by decide +kernel
theorem dX12_compile_74 : decode cX12_compile 74 = .ok (.invokevirtual 566, 3) := by decide +kernel
theorem dX12_compile_77 : decode cX12_compile 77 = .ok (.aload_n 0, 1) := by decide +kernel
theorem dX12_compile_78 : decode cX12_compile 78 = .ok (.aload_n 0, 1) := by decide +kernel
theorem dX12_compile_79 : decode cX12_compile 79 = .ok (.getfield 328, 3) := by decide +kernel
theorem dX12_compile_82 : decode cX12_compile 82 = .ok (.ifCond .ne 7, 3) := by decide +kernel
theorem dX12_compile_85 : decode cX12_compile 85 = .ok (.iconst (-1), 1) := by decide +kernel
theorem dX12_compile_86 : decode cX12_compile 86 = .ok (.goto 7, 3) := by decide +kernel
theorem dX12_compile_89 : decode cX12_compile 89 = .ok (.aload_n 0, 1) := by decide +kernel
theorem dX12_compile_90 : decode cX12_compile 90 = .ok (.getfield 331, 3) := by decide +kernel
theorem dX12_compile_93 : decode cX12_compile 93 = .ok (.putfield 16, 3) := by decide +kernel
theorem dX12_compile_96 : decode cX12_compile 96 = .ok (.aload_n 0, 1) := by decide +kernel
theorem dX12_compile_97 : decode cX12_compile 97 = .ok (.getfield 328, 3) := by decide +kernel
theorem dX12_compile_100 : decode cX12_compile 100 = .ok (.ifCond .ne 11, 3) := by decide +kernel
theorem dX12_compile_103 : decode cX12_compile 103 = .ok (.aload_n 0, 1) := by decide +kernel
theorem dX12_compile_104 : decode cX12_compile 104 = .ok (.iload_n 1, 1) := by decide +kernel
theorem dX12_compile_105 : decode cX12_compile 105 = .ok (.invokevirtual 569, 3) := by decide +kernel
theorem dX12_compile_108 : decode cX12_compile 108 = .ok (.goto 31, 3) := by decide +kernel
theorem dX12_compile_111 : decode cX12_compile 111 = .ok (.aload_n 0, 1) := by decide +kernel
theorem dX12_compile_112 : decode cX12_compile 112 = .ok (.getfield 20, 3) := by decide +kernel
theorem dX12_compile_115 : decode cX12_compile 115 = .ok (.iload_n 1, 1) := by decide +kernel
theorem dX12_compile_116 : decode cX12_compile 116 = .ok (.iconst 0, 1) := by decide +kernel
theorem dX12_compile_117 : decode cX12_compile 117 = .ok (.iastore, 1) := by decide +kernel
theorem dX12_compile_118 : decode cX12_compile 118 = .ok (.aload_n 0, 1) := by decide +kernel
theorem dX12_compile_119 : decode cX12_compile 119 = .ok (.getfield 23, 3) := by decide +kernel
theorem dX12_compile_122 : decode cX12_compile 122 = .ok (.iload_n 1, 1) := by decide +kernel
theorem dX12_compile_123 : decode cX12_compile 123 = .ok (.iconst 0, 1) := by decide +kernel
theorem dX12_compile_124 : decode cX12_compile 124 = .ok (.iastore, 1) := by decide +kernel
theorem dX12_compile_125 : decode cX12_compile 125 = .ok (.aload_n 0, 1) := by decide +kernel
theorem dX12_compile_126 : decode cX12_compile 126 = .ok (.getfield 26, 3) := by decide +kernel
theorem dX12_compile_129 : decode cX12_compile 129 = .ok (.iload_n 1, 1) := by decide +kernel
theorem dX12_compile_130 : decode cX12_compile 130 = .ok (.iconst 0, 1) := by decide +kernel
theorem dX12_compile_131 : decode cX12_compile 131 = .ok (.iastore, 1) := by decide +kernel
theorem dX12_compile_132 : decode cX12_compile 132 = .ok (.aload_n 0, 1) := by decide +kernel
theorem dX12_compile_133 : decode cX12_compile 133 = .ok (.getfield 29, 3) := by decide +kernel
theorem dX12_compile_136 : decode cX12_compile 136 = .ok (.iload_n 1, 1) := by decide +kernel
theorem dX12_compile_137 : decode cX12_compile 137 = .ok (.iconst 0, 1) := by decide +kernel
theorem dX12_compile_138 : decode cX12_compile 138 = .ok (.iastore, 1) := by decide +kernel
theorem dX12_compile_139 : decode cX12_compile 139 = .ok (.aload_n 0, 1) := by decide +kernel
theorem dX12_compile_140 : decode cX12_compile 140 = .ok (.getfield 328, 3) := by decide +kernel
theorem dX12_compile_143 : decode cX12_compile 143 = .ok (.ireturn, 1) := by decide +kernel
theorem dX12_takeVarint_0 : decode cX12_takeVarint 0 = .ok (.aload_n 0, 1) := by decide +kernel
theorem dX12_takeVarint_1 : decode cX12_takeVarint 1 = .ok (.lconst 0, 1) := by decide +kernel
theorem dX12_takeVarint_2 : decode cX12_takeVarint 2 = .ok (.putfield 633, 3) := by decide +kernel
theorem dX12_takeVarint_5 : decode cX12_takeVarint 5 = .ok (.iconst 0, 1) := by decide +kernel
theorem dX12_takeVarint_6 : decode cX12_takeVarint 6 = .ok (.istore_n 2, 1) := by decide +kernel
theorem dX12_takeVarint_7 : decode cX12_takeVarint 7 = .ok (.iload_n 2, 1) := by decide +kernel
theorem dX12_takeVarint_8 : decode cX12_takeVarint 8 = .ok (.bipush 10, 2) := by decide +kernel
theorem dX12_takeVarint_10 : decode cX12_takeVarint 10 = .ok (.if_icmp .ge 92, 3) := by decide +kernel
theorem dX12_takeVarint_13 : decode cX12_takeVarint 13 = .ok (.aload_n 0, 1) := by decide +kernel
theorem dX12_takeVarint_14 : decode cX12_takeVarint 14 = .ok (.getfield 636, 3) := by decide +kernel
theorem dX12_takeVarint_17 : decode cX12_takeVarint 17 = .ok (.iload_n 1, 1) := by decide +kernel
theorem dX12_takeVarint_18 : decode cX12_takeVarint 18 = .ok (.if_icmp .lt 9, 3) := by decide +kernel
theorem dX12_takeVarint_21 : decode cX12_takeVarint 21 = .ok (.aload_n 0, 1) := by decide +kernel
theorem dX12_takeVarint_22 : decode cX12_takeVarint 22 = .ok (.iconst 1, 1) := by decide +kernel
theorem dX12_takeVarint_23 : decode cX12_takeVarint 23 = .ok (.putfield 590, 3) := by decide +kernel
theorem dX12_takeVarint_26 : decode cX12_takeVarint 26 = .ok (.return_, 1) := by decide +kernel
theorem dX12_takeVarint_27 : decode cX12_takeVarint 27 = .ok (.aload_n 0, 1) := by decide +kernel
theorem dX12_takeVarint_28 : decode cX12_takeVarint 28 = .ok (.getfield 7, 3) := by decide +kernel
theorem dX12_takeVarint_31 : decode cX12_takeVarint 31 = .ok (.aload_n 0, 1) := by decide +kernel
theorem dX12_takeVarint_32 : decode cX12_takeVarint 32 = .ok (.getfield 636, 3) := by decide +kernel
theorem dX12_takeVarint_35 : decode cX12_takeVarint 35 = .ok (.iaload, 1) := by decide +kernel
theorem dX12_takeVarint_36 : decode cX12_takeVarint 36 = .ok (.istore_n 3, 1) := by decide +kernel
theorem dX12_takeVarint_37 : decode cX12_takeVarint 37 = .ok (.aload_n 0, 1) := by decide +kernel
theorem dX12_takeVarint_38 : decode cX12_takeVarint 38 = .ok (.dup, 1) := by decide +kernel
theorem dX12_takeVarint_39 : decode cX12_takeVarint 39 = .ok (.getfield 636, 3) := by decide +kernel
theorem dX12_takeVarint_42 : decode cX12_takeVarint 42 = .ok (.iconst 1, 1) := by decide +kernel
theorem dX12_takeVarint_43 : decode cX12_takeVarint 43 = .ok (.iadd, 1) := by decide +kernel
theorem dX12_takeVarint_44 : decode cX12_takeVarint 44 = .ok (.putfield 636, 3) := by decide +kernel
theorem dX12_takeVarint_47 : decode cX12_takeVarint 47 = .ok (.iload_n 2, 1) := by decide +kernel
theorem dX12_takeVarint_48 : decode cX12_takeVarint 48 = .ok (.bipush 9, 2) := by decide +kernel
theorem dX12_takeVarint_50 : decode cX12_takeVarint 50 = .ok (.if_icmp .lt 9, 3) := by decide +kernel
theorem dX12_takeVarint_53 : decode cX12_takeVarint 53 = .ok (.iload_n 3, 1) := by decide +kernel
theorem dX12_takeVarint_54 : decode cX12_takeVarint 54 = .ok (.iconst 1, 1) := by decide +kernel
theorem dX12_takeVarint_55 : decode cX12_takeVarint 55 = .ok (.iand, 1) := by decide +kernel
theorem dX12_takeVarint_56 : decode cX12_takeVarint 56 = .ok (.ifCond .eq 32, 3) := by decide +kernel
theorem dX12_takeVarint_59 : decode cX12_takeVarint 59 = .ok (.aload_n 0, 1) := by decide +kernel
theorem dX12_takeVarint_60 : decode cX12_takeVarint 60 = .ok (.dup, 1) := by decide +kernel
theorem dX12_takeVarint_61 : decode cX12_takeVarint 61 = .ok (.getfield 633, 3) := by decide +kernel
theorem dX12_takeVarint_64 : decode cX12_takeVarint 64 = .ok (.iload_n 3, 1) := by decide +kernel
theorem dX12_takeVarint_65 : decode cX12_takeVarint 65 = .ok (.iload_n 2, 1) := by decide +kernel
theorem dX12_takeVarint_66 : decode cX12_takeVarint 66 = .ok (.bipush 9, 2) := by decide +kernel
theorem dX12_takeVarint_68 : decode cX12_takeVarint 68 = .ok (.if_icmp .ge 8, 3) := by decide +kernel
theorem dX12_takeVarint_71 : decode cX12_takeVarint 71 = .ok (.bipush 127, 2) := by decide +kernel
theorem dX12_takeVarint_73 : decode cX12_takeVarint 73 = .ok (.goto 4, 3) := by decide +kernel
theorem dX12_takeVarint_76 : decode cX12_takeVarint 76 = .ok (.iconst 1, 1) := by decide +kernel
theorem dX12_takeVarint_77 : decode cX12_takeVarint 77 = .ok (.iand, 1) := by decide +kernel
theorem dX12_takeVarint_78 : decode cX12_takeVarint 78 = .ok (.i2l, 1) := by decide +kernel
theorem dX12_takeVarint_79 : decode cX12_takeVarint 79 = .ok (.bipush 7, 2) := by decide +kernel
theorem dX12_takeVarint_81 : decode cX12_takeVarint 81 = .ok (.iload_n 2, 1) := by decide +kernel
theorem dX12_takeVarint_82 : decode cX12_takeVarint 82 = .ok (.imul, 1) := by decide +kernel
theorem dX12_takeVarint_83 : decode cX12_takeVarint 83 = .ok (.lshl, 1) := by decide +kernel
theorem dX12_takeVarint_84 : decode cX12_takeVarint 84 = .ok (.lor, 1) := by decide +kernel
theorem dX12_takeVarint_85 : decode cX12_takeVarint 85 = .ok (.putfield 633, 3) := by decide +kernel
theorem dX12_takeVarint_88 : decode cX12_takeVarint 88 = .ok (.iload_n 3, 1) := by decide +kernel
theorem dX12_takeVarint_89 : decode cX12_takeVarint 89 = .ok (.sipush 128, 3) := by decide +kernel
theorem dX12_takeVarint_92 : decode cX12_takeVarint 92 = .ok (.if_icmp .ge 4, 3) := by decide +kernel
theorem dX12_takeVarint_95 : decode cX12_takeVarint 95 = .ok (.return_, 1) := by decide +kernel
theorem dX12_takeVarint_96 : decode cX12_takeVarint 96 = .ok (.iinc 2 1, 3) := by decide +kernel
theorem dX12_takeVarint_99 : decode cX12_takeVarint 99 = .ok (.goto (-92), 3) := by decide +kernel
theorem dX12_takeVarint_102 : decode cX12_takeVarint 102 = .ok (.aload_n 0, 1) := by decide +kernel
theorem dX12_takeVarint_103 : decode cX12_takeVarint 103 = .ok (.iconst 1, 1) := by decide +kernel
theorem dX12_takeVarint_104 : decode cX12_takeVarint 104 = .ok (.putfield 590, 3) := by decide +kernel
theorem dX12_takeVarint_107 : decode cX12_takeVarint 107 = .ok (.return_, 1) := by decide +kernel
theorem dX12_fieldNumbered_0 : decode cX12_fieldNumbered 0 = .ok (.bipush 60, 2) := by decide +kernel
theorem dX12_fieldNumbered_2 : decode cX12_fieldNumbered 2 = .ok (.aload_n 0, 1) := by decide +kernel
theorem dX12_fieldNumbered_3 : decode cX12_fieldNumbered 3 = .ok (.getfield 587, 3) := by decide +kernel
theorem dX12_fieldNumbered_6 : decode cX12_fieldNumbered 6 = .ok (.imul, 1) := by decide +kernel
theorem dX12_fieldNumbered_7 : decode cX12_fieldNumbered 7 = .ok (.istore_n 3, 1) := by decide +kernel
theorem dX12_fieldNumbered_8 : decode cX12_fieldNumbered 8 = .ok (.iload_n 3, 1) := by decide +kernel
theorem dX12_fieldNumbered_9 : decode cX12_fieldNumbered 9 = .ok (.bipush 60, 2) := by decide +kernel
theorem dX12_fieldNumbered_11 : decode cX12_fieldNumbered 11 = .ok (.aload_n 0, 1) := by decide +kernel
theorem dX12_fieldNumbered_12 : decode cX12_fieldNumbered 12 = .ok (.getfield 587, 3) := by decide +kernel
theorem dX12_fieldNumbered_15 : decode cX12_fieldNumbered 15 = .ok (.imul, 1) := by decide +kernel
theorem dX12_fieldNumbered_16 : decode cX12_fieldNumbered 16 = .ok (.aload_n 0, 1) := by decide +kernel
theorem dX12_fieldNumbered_17 : decode cX12_fieldNumbered 17 = .ok (.getfield 26, 3) := by decide +kernel
theorem dX12_fieldNumbered_20 : decode cX12_fieldNumbered 20 = .ok (.aload_n 0, 1) := by decide +kernel
theorem dX12_fieldNumbered_21 : decode cX12_fieldNumbered 21 = .ok (.getfield 587, 3) := by decide +kernel
theorem dX12_fieldNumbered_24 : decode cX12_fieldNumbered 24 = .ok (.iaload, 1) := by decide +kernel
theorem dX12_fieldNumbered_25 : decode cX12_fieldNumbered 25 = .ok (.iadd, 1) := by decide +kernel
theorem dX12_fieldNumbered_26 : decode cX12_fieldNumbered 26 = .ok (.if_icmp .ge 31, 3) := by decide +kernel
theorem dX12_fieldNumbered_29 : decode cX12_fieldNumbered 29 = .ok (.aload_n 0, 1) := by decide +kernel
theorem dX12_fieldNumbered_30 : decode cX12_fieldNumbered 30 = .ok (.getfield 50, 3) := by decide +kernel
theorem dX12_fieldNumbered_33 : decode cX12_fieldNumbered 33 = .ok (.iload_n 3, 1) := by decide +kernel
theorem dX12_fieldNumbered_34 : decode cX12_fieldNumbered 34 = .ok (.iaload, 1) := by decide +kernel
theorem dX12_fieldNumbered_35 : decode cX12_fieldNumbered 35 = .ok (.iload_n 1, 1) := by decide +kernel
theorem dX12_fieldNumbered_36 : decode cX12_fieldNumbered 36 = .ok (.if_icmp .ne 15, 3) := by decide +kernel
theorem dX12_fieldNumbered_39 : decode cX12_fieldNumbered 39 = .ok (.aload_n 0, 1) := by decide +kernel
theorem dX12_fieldNumbered_40 : decode cX12_fieldNumbered 40 = .ok (.getfield 59, 3) := by decide +kernel
theorem dX12_fieldNumbered_43 : decode cX12_fieldNumbered 43 = .ok (.iload_n 3, 1) := by decide +kernel
theorem dX12_fieldNumbered_44 : decode cX12_fieldNumbered 44 = .ok (.iaload, 1) := by decide +kernel
theorem dX12_fieldNumbered_45 : decode cX12_fieldNumbered 45 = .ok (.iload_n 2, 1) := by decide +kernel
theorem dX12_fieldNumbered_46 : decode cX12_fieldNumbered 46 = .ok (.if_icmp .ne 5, 3) := by decide +kernel
theorem dX12_fieldNumbered_49 : decode cX12_fieldNumbered 49 = .ok (.iload_n 3, 1) := by decide +kernel
theorem dX12_fieldNumbered_50 : decode cX12_fieldNumbered 50 = .ok (.ireturn, 1) := by decide +kernel
theorem dX12_fieldNumbered_51 : decode cX12_fieldNumbered 51 = .ok (.iinc 3 1, 3) := by decide +kernel
theorem dX12_fieldNumbered_54 : decode cX12_fieldNumbered 54 = .ok (.goto (-46), 3) := by decide +kernel
theorem dX12_fieldNumbered_57 : decode cX12_fieldNumbered 57 = .ok (.iconst (-1), 1) := by decide +kernel
theorem dX12_fieldNumbered_58 : decode cX12_fieldNumbered 58 = .ok (.ireturn, 1) := by decide +kernel
theorem dX12_kindOf_0 : decode cX12_kindOf 0 = .ok (.iload_n 0, 1) := by decide +kernel
theorem dX12_kindOf_1 : decode cX12_kindOf 1 = .ok (.bipush 7, 2) := by decide +kernel
theorem dX12_kindOf_3 : decode cX12_kindOf 3 = .ok (.if_icmp .eq 9, 3) := by decide +kernel
theorem dX12_kindOf_6 : decode cX12_kindOf 6 = .ok (.iload_n 0, 1) := by decide +kernel
theorem dX12_kindOf_7 : decode cX12_kindOf 7 = .ok (.bipush 9, 2) := by decide +kernel
theorem dX12_kindOf_9 : decode cX12_kindOf 9 = .ok (.if_icmp .ne 5, 3) := by decide +kernel
theorem dX12_kindOf_12 : decode cX12_kindOf 12 = .ok (.iconst 1, 1) := by decide +kernel
theorem dX12_kindOf_13 : decode cX12_kindOf 13 = .ok (.ireturn, 1) := by decide +kernel
theorem dX12_kindOf_14 : decode cX12_kindOf 14 = .ok (.iload_n 0, 1) := by decide +kernel
theorem dX12_kindOf_15 : decode cX12_kindOf 15 = .ok (.bipush 6, 2) := by decide +kernel
theorem dX12_kindOf_17 : decode cX12_kindOf 17 = .ok (.if_icmp .eq 9, 3) := by decide +kernel
theorem dX12_kindOf_20 : decode cX12_kindOf 20 = .ok (.iload_n 0, 1) := by decide +kernel
theorem dX12_kindOf_21 : decode cX12_kindOf 21 = .ok (.bipush 8, 2) := by decide +kernel
theorem dX12_kindOf_23 : decode cX12_kindOf 23 = .ok (.if_icmp .ne 5, 3) := by decide +kernel
theorem dX12_kindOf_26 : decode cX12_kindOf 26 = .ok (.iconst 5, 1) := by decide +kernel
theorem dX12_kindOf_27 : decode cX12_kindOf 27 = .ok (.ireturn, 1) := by decide +kernel
theorem dX12_kindOf_28 : decode cX12_kindOf 28 = .ok (.iload_n 0, 1) := by decide +kernel
theorem dX12_kindOf_29 : decode cX12_kindOf 29 = .ok (.bipush 11, 2) := by decide +kernel
theorem dX12_kindOf_31 : decode cX12_kindOf 31 = .ok (.if_icmp .eq 15, 3) := by decide +kernel
theorem dX12_kindOf_34 : decode cX12_kindOf 34 = .ok (.iload_n 0, 1) := by decide +kernel
theorem dX12_kindOf_35 : decode cX12_kindOf 35 = .ok (.bipush 12, 2) := by decide +kernel
theorem dX12_kindOf_37 : decode cX12_kindOf 37 = .ok (.if_icmp .eq 9, 3) := by decide +kernel
theorem dX12_kindOf_40 : decode cX12_kindOf 40 = .ok (.iload_n 0, 1) := by decide +kernel
theorem dX12_kindOf_41 : decode cX12_kindOf 41 = .ok (.bipush 13, 2) := by decide +kernel
theorem dX12_kindOf_43 : decode cX12_kindOf 43 = .ok (.if_icmp .ne 7, 3) := by decide +kernel
theorem dX12_kindOf_46 : decode cX12_kindOf 46 = .ok (.iconst 2, 1) := by decide +kernel
theorem dX12_kindOf_47 : decode cX12_kindOf 47 = .ok (.goto 4, 3) := by decide +kernel
theorem dX12_kindOf_50 : decode cX12_kindOf 50 = .ok (.iconst 0, 1) := by decide +kernel
theorem dX12_kindOf_51 : decode cX12_kindOf 51 = .ok (.ireturn, 1) := by decide +kernel
theorem dX12_rowOf_0 : decode cX12_rowOf 0 = .ok (.iconst 0, 1) := by decide +kernel
theorem dX12_rowOf_1 : decode cX12_rowOf 1 = .ok (.istore_n 3, 1) := by decide +kernel
theorem dX12_rowOf_2 : decode cX12_rowOf 2 = .ok (.iload_n 3, 1) := by decide +kernel
theorem dX12_rowOf_3 : decode cX12_rowOf 3 = .ok (.aload_n 0, 1) := by decide +kernel
theorem dX12_rowOf_4 : decode cX12_rowOf 4 = .ok (.getfield 596, 3) := by decide +kernel
theorem dX12_rowOf_7 : decode cX12_rowOf 7 = .ok (.if_icmp .ge 40, 3) := by decide +kernel
theorem dX12_rowOf_10 : decode cX12_rowOf 10 = .ok (.aload_n 0, 1) := by decide +kernel
theorem dX12_rowOf_11 : decode cX12_rowOf 11 = .ok (.getfield 223, 3) := by decide +kernel
theorem dX12_rowOf_14 : decode cX12_rowOf 14 = .ok (.iload_n 3, 1) := by decide +kernel
theorem dX12_rowOf_15 : decode cX12_rowOf 15 = .ok (.baload, 1) := by decide +kernel
theorem dX12_rowOf_16 : decode cX12_rowOf 16 = .ok (.ifCond .eq 25, 3) := by decide +kernel
theorem dX12_rowOf_19 : decode cX12_rowOf 19 = .ok (.aload_n 0, 1) := by decide +kernel
theorem dX12_rowOf_20 : decode cX12_rowOf 20 = .ok (.getfield 205, 3) := by decide +kernel
theorem dX12_rowOf_23 : decode cX12_rowOf 23 = .ok (.iload_n 3, 1) := by decide +kernel
theorem dX12_rowOf_24 : decode cX12_rowOf 24 = .ok (.iaload, 1) := by decide +kernel
theorem dX12_rowOf_25 : decode cX12_rowOf 25 = .ok (.iload_n 1, 1) := by decide +kernel
theorem dX12_rowOf_26 : decode cX12_rowOf 26 = .ok (.if_icmp .ne 15, 3) := by decide +kernel
theorem dX12_rowOf_29 : decode cX12_rowOf 29 = .ok (.aload_n 0, 1) := by decide +kernel
theorem dX12_rowOf_30 : decode cX12_rowOf 30 = .ok (.getfield 208, 3) := by decide +kernel
theorem dX12_rowOf_33 : decode cX12_rowOf 33 = .ok (.iload_n 3, 1) := by decide +kernel
theorem dX12_rowOf_34 : decode cX12_rowOf 34 = .ok (.iaload, 1) := by decide +kernel
theorem dX12_rowOf_35 : decode cX12_rowOf 35 = .ok (.iload_n 2, 1) := by decide +kernel
theorem dX12_rowOf_36 : decode cX12_rowOf 36 = .ok (.if_icmp .ne 5, 3) := by decide +kernel
theorem dX12_rowOf_39 : decode cX12_rowOf 39 = .ok (.iload_n 3, 1) := by decide +kernel
theorem dX12_rowOf_40 : decode cX12_rowOf 40 = .ok (.ireturn, 1) := by decide +kernel
theorem dX12_rowOf_41 : decode cX12_rowOf 41 = .ok (.iinc 3 1, 3) := by decide +kernel
theorem dX12_rowOf_44 : decode cX12_rowOf 44 = .ok (.goto (-42), 3) := by decide +kernel
theorem dX12_rowOf_47 : decode cX12_rowOf 47 = .ok (.iconst (-1), 1) := by decide +kernel
theorem dX12_rowOf_48 : decode cX12_rowOf 48 = .ok (.ireturn, 1) := by decide +kernel
theorem dX12_rowFor_0 : decode cX12_rowFor 0 = .ok (.aload_n 0, 1) := by decide +kernel
theorem dX12_rowFor_1 : decode cX12_rowFor 1 = .ok (.getfield 68, 3) := by decide +kernel
theorem dX12_rowFor_4 : decode cX12_rowFor 4 = .ok (.iload_n 2, 1) := by decide +kernel
theorem dX12_rowFor_5 : decode cX12_rowFor 5 = .ok (.baload, 1) := by decide +kernel
theorem dX12_rowFor_6 : decode cX12_rowFor 6 = .ok (.ifCond .eq 10, 3) := by decide +kernel
theorem dX12_rowFor_9 : decode cX12_rowFor 9 = .ok (.aload_n 0, 1) := by decide +kernel
theorem dX12_rowFor_10 : decode cX12_rowFor 10 = .ok (.iload_n 1, 1) := by decide +kernel
theorem dX12_rowFor_11 : decode cX12_rowFor 11 = .ok (.iload_n 2, 1) := by decide +kernel
theorem dX12_rowFor_12 : decode cX12_rowFor 12 = .ok (.invokevirtual 611, 3) := by decide +kernel
theorem dX12_rowFor_15 : decode cX12_rowFor 15 = .ok (.ireturn, 1) := by decide +kernel
theorem dX12_rowFor_16 : decode cX12_rowFor 16 = .ok (.iconst 0, 1) := by decide +kernel
theorem dX12_rowFor_17 : decode cX12_rowFor 17 = .ok (.istore_n 3, 1) := by decide +kernel
theorem dX12_rowFor_18 : decode cX12_rowFor 18 = .ok (.iload_n 3, 1) := by decide +kernel
theorem dX12_rowFor_19 : decode cX12_rowFor 19 = .ok (.aload_n 0, 1) := by decide +kernel
theorem dX12_rowFor_20 : decode cX12_rowFor 20 = .ok (.getfield 596, 3) := by decide +kernel
theorem dX12_rowFor_23 : decode cX12_rowFor 23 = .ok (.if_icmp .ge 99, 3) := by decide +kernel
theorem dX12_rowFor_26 : decode cX12_rowFor 26 = .ok (.aload_n 0, 1) := by decide +kernel
theorem dX12_rowFor_27 : decode cX12_rowFor 27 = .ok (.getfield 208, 3) := by decide +kernel
theorem dX12_rowFor_30 : decode cX12_rowFor 30 = .ok (.iload_n 3, 1) := by decide +kernel
theorem dX12_rowFor_31 : decode cX12_rowFor 31 = .ok (.iaload, 1) := by decide +kernel
theorem dX12_rowFor_32 : decode cX12_rowFor 32 = .ok (.iload_n 2, 1) := by decide +kernel
theorem dX12_rowFor_33 : decode cX12_rowFor 33 = .ok (.if_icmp .eq 37, 3) := by decide +kernel
theorem dX12_rowFor_36 : decode cX12_rowFor 36 = .ok (.aload_n 0, 1) := by decide +kernel
theorem dX12_rowFor_37 : decode cX12_rowFor 37 = .ok (.getfield 75, 3) := by decide +kernel
theorem dX12_rowFor_40 : decode cX12_rowFor 40 = .ok (.iload_n 2, 1) := by decide +kernel
theorem dX12_rowFor_41 : decode cX12_rowFor 41 = .ok (.iaload, 1) := by decide +kernel
theorem dX12_rowFor_42 : decode cX12_rowFor 42 = .ok (.iconst (-1), 1) := by decide +kernel
theorem dX12_rowFor_43 : decode cX12_rowFor 43 = .ok (.if_icmp .eq 27, 3) := by decide +kernel
theorem dX12_rowFor_46 : decode cX12_rowFor 46 = .ok (.aload_n 0, 1) := by decide +kernel
theorem dX12_rowFor_47 : decode cX12_rowFor 47 = .ok (.getfield 75, 3) := by decide +kernel
theorem dX12_rowFor_50 : decode cX12_rowFor 50 = .ok (.aload_n 0, 1) := by decide +kernel
theorem dX12_rowFor_51 : decode cX12_rowFor 51 = .ok (.getfield 208, 3) := by decide +kernel
theorem dX12_rowFor_54 : decode cX12_rowFor 54 = .ok (.iload_n 3, 1) := by decide +kernel
theorem dX12_rowFor_55 : decode cX12_rowFor 55 = .ok (.iaload, 1) := by decide +kernel
theorem dX12_rowFor_56 : decode cX12_rowFor 56 = .ok (.iaload, 1) := by decide +kernel
theorem dX12_rowFor_57 : decode cX12_rowFor 57 = .ok (.aload_n 0, 1) := by decide +kernel
theorem dX12_rowFor_58 : decode cX12_rowFor 58 = .ok (.getfield 75, 3) := by decide +kernel
theorem dX12_rowFor_61 : decode cX12_rowFor 61 = .ok (.iload_n 2, 1) := by decide +kernel
theorem dX12_rowFor_62 : decode cX12_rowFor 62 = .ok (.iaload, 1) := by decide +kernel
theorem dX12_rowFor_63 : decode cX12_rowFor 63 = .ok (.if_icmp .ne 7, 3) := by decide +kernel
theorem dX12_rowFor_66 : decode cX12_rowFor 66 = .ok (.iconst 1, 1) := by decide +kernel
theorem dX12_rowFor_67 : decode cX12_rowFor 67 = .ok (.goto 4, 3) := by decide +kernel
theorem dX12_rowFor_70 : decode cX12_rowFor 70 = .ok (.iconst 0, 1) := by decide +kernel
theorem dX12_rowFor_71 : decode cX12_rowFor 71 = .ok (.istore 4, 2) := by decide +kernel
theorem dX12_rowFor_73 : decode cX12_rowFor 73 = .ok (.aload_n 0, 1) := by decide +kernel
theorem dX12_rowFor_74 : decode cX12_rowFor 74 = .ok (.getfield 205, 3) := by decide +kernel
theorem dX12_rowFor_77 : decode cX12_rowFor 77 = .ok (.iload_n 3, 1) := by decide +kernel
theorem dX12_rowFor_78 : decode cX12_rowFor 78 = .ok (.iaload, 1) := by decide +kernel
theorem dX12_rowFor_79 : decode cX12_rowFor 79 = .ok (.iload_n 1, 1) := by decide +kernel
theorem dX12_rowFor_80 : decode cX12_rowFor 80 = .ok (.if_icmp .ne 36, 3) := by decide +kernel
theorem dX12_rowFor_83 : decode cX12_rowFor 83 = .ok (.iload 4, 2) := by decide +kernel
theorem dX12_rowFor_85 : decode cX12_rowFor 85 = .ok (.ifCond .ne 24, 3) := by decide +kernel
theorem dX12_rowFor_88 : decode cX12_rowFor 88 = .ok (.aload_n 0, 1) := by decide +kernel
theorem dX12_rowFor_89 : decode cX12_rowFor 89 = .ok (.getfield 208, 3) := by decide +kernel
theorem dX12_rowFor_92 : decode cX12_rowFor 92 = .ok (.iload_n 3, 1) := by decide +kernel
theorem dX12_rowFor_93 : decode cX12_rowFor 93 = .ok (.iaload, 1) := by decide +kernel
theorem dX12_rowFor_94 : decode cX12_rowFor 94 = .ok (.iload_n 2, 1) := by decide +kernel
theorem dX12_rowFor_95 : decode cX12_rowFor 95 = .ok (.if_icmp .ne 21, 3) := by decide +kernel
theorem dX12_rowFor_98 : decode cX12_rowFor 98 = .ok (.aload_n 0, 1) := by decide +kernel
theorem dX12_rowFor_99 : decode cX12_rowFor 99 = .ok (.getfield 62, 3) := by decide +kernel
theorem dX12_rowFor_102 : decode cX12_rowFor 102 = .ok (.iload_n 2, 1) := by decide +kernel
theorem dX12_rowFor_103 : decode cX12_rowFor 103 = .ok (.iaload, 1) := by decide +kernel
theorem dX12_rowFor_104 : decode cX12_rowFor 104 = .ok (.bipush 13, 2) := by decide +kernel
theorem dX12_rowFor_106 : decode cX12_rowFor 106 = .ok (.if_icmp .eq 10, 3) := by decide +kernel
theorem dX12_rowFor_109 : decode cX12_rowFor 109 = .ok (.aload_n 0, 1) := by decide +kernel
theorem dX12_rowFor_110 : decode cX12_rowFor 110 = .ok (.getfield 223, 3) := by decide +kernel
theorem dX12_rowFor_113 : decode cX12_rowFor 113 = .ok (.iload_n 3, 1) := by decide +kernel
theorem dX12_rowFor_114 : decode cX12_rowFor 114 = .ok (.iconst 0, 1) := by decide +kernel
theorem dX12_rowFor_115 : decode cX12_rowFor 115 = .ok (.bastore, 1) := by decide +kernel
theorem dX12_rowFor_116 : decode cX12_rowFor 116 = .ok (.iinc 3 1, 3) := by decide +kernel
theorem dX12_rowFor_119 : decode cX12_rowFor 119 = .ok (.goto (-101), 3) := by decide +kernel
theorem dX12_rowFor_122 : decode cX12_rowFor 122 = .ok (.aload_n 0, 1) := by decide +kernel
theorem dX12_rowFor_123 : decode cX12_rowFor 123 = .ok (.iload_n 1, 1) := by decide +kernel
theorem dX12_rowFor_124 : decode cX12_rowFor 124 = .ok (.iload_n 2, 1) := by decide +kernel
theorem dX12_rowFor_125 : decode cX12_rowFor 125 = .ok (.invokevirtual 614, 3) := by decide +kernel
theorem dX12_rowFor_128 : decode cX12_rowFor 128 = .ok (.istore_n 3, 1) := by decide +kernel
theorem dX12_rowFor_129 : decode cX12_rowFor 129 = .ok (.iload_n 3, 1) := by decide +kernel
theorem dX12_rowFor_130 : decode cX12_rowFor 130 = .ok (.iconst (-1), 1) := by decide +kernel
theorem dX12_rowFor_131 : decode cX12_rowFor 131 = .ok (.if_icmp .ne 12, 3) := by decide +kernel
theorem dX12_rowFor_134 : decode cX12_rowFor 134 = .ok (.aload_n 0, 1) := by decide +kernel
theorem dX12_rowFor_135 : decode cX12_rowFor 135 = .ok (.iload_n 1, 1) := by decide +kernel
theorem dX12_rowFor_136 : decode cX12_rowFor 136 = .ok (.iload_n 2, 1) := by decide +kernel
theorem dX12_rowFor_137 : decode cX12_rowFor 137 = .ok (.invokevirtual 611, 3) := by decide +kernel
theorem dX12_rowFor_140 : decode cX12_rowFor 140 = .ok (.goto 4, 3) := by decide +kernel
theorem dX12_rowFor_143 : decode cX12_rowFor 143 = .ok (.iload_n 3, 1) := by decide +kernel
theorem dX12_rowFor_144 : decode cX12_rowFor 144 = .ok (.ireturn, 1) := by decide +kernel
theorem dX12_putMessage_0 : decode cX12_putMessage 0 = .ok (.aload_n 0, 1) := by decide +kernel
theorem dX12_putMessage_1 : decode cX12_putMessage 1 = .ok (.iload_n 1, 1) := by decide +kernel
theorem dX12_putMessage_2 : decode cX12_putMessage 2 = .ok (.iload_n 2, 1) := by decide +kernel
theorem dX12_putMessage_3 : decode cX12_putMessage 3 = .ok (.invokevirtual 617, 3) := by decide +kernel
theorem dX12_putMessage_6 : decode cX12_putMessage 6 = .ok (.istore_n 3, 1) := by decide +kernel
theorem dX12_putMessage_7 : decode cX12_putMessage 7 = .ok (.aload_n 0, 1) := by decide +kernel
theorem dX12_putMessage_8 : decode cX12_putMessage 8 = .ok (.getfield 220, 3) := by decide +kernel
theorem dX12_putMessage_11 : decode cX12_putMessage 11 = .ok (.iload_n 3, 1) := by decide +kernel
theorem dX12_putMessage_12 : decode cX12_putMessage 12 = .ok (.iaload, 1) := by decide +kernel
theorem dX12_putMessage_13 : decode cX12_putMessage 13 = .ok (.iconst (-1), 1) := by decide +kernel
theorem dX12_putMessage_14 : decode cX12_putMessage 14 = .ok (.if_icmp .ne 28, 3) := by decide +kernel
theorem dX12_putMessage_17 : decode cX12_putMessage 17 = .ok (.aload_n 0, 1) := by decide +kernel
theorem dX12_putMessage_18 : decode cX12_putMessage 18 = .ok (.getfield 220, 3) := by decide +kernel
theorem dX12_putMessage_21 : decode cX12_putMessage 21 = .ok (.iload_n 3, 1) := by decide +kernel
theorem dX12_putMessage_22 : decode cX12_putMessage 22 = .ok (.aload_n 0, 1) := by decide +kernel
theorem dX12_putMessage_23 : decode cX12_putMessage 23 = .ok (.aload_n 0, 1) := by decide +kernel
theorem dX12_putMessage_24 : decode cX12_putMessage 24 = .ok (.getfield 65, 3) := by decide +kernel
theorem dX12_putMessage_27 : decode cX12_putMessage 27 = .ok (.iload_n 2, 1) := by decide +kernel
theorem dX12_putMessage_28 : decode cX12_putMessage 28 = .ok (.iaload, 1) := by decide +kernel
theorem dX12_putMessage_29 : decode cX12_putMessage 29 = .ok (.iload_n 3, 1) := by decide +kernel
theorem dX12_putMessage_30 : decode cX12_putMessage 30 = .ok (.aload_n 0, 1) := by decide +kernel
theorem dX12_putMessage_31 : decode cX12_putMessage 31 = .ok (.getfield 196, 3) := by decide +kernel
theorem dX12_putMessage_34 : decode cX12_putMessage 34 = .ok (.iload_n 1, 1) := by decide +kernel
theorem dX12_putMessage_35 : decode cX12_putMessage 35 = .ok (.iaload, 1) := by decide +kernel
theorem dX12_putMessage_36 : decode cX12_putMessage 36 = .ok (.iconst 1, 1) := by decide +kernel
theorem dX12_putMessage_37 : decode cX12_putMessage 37 = .ok (.iadd, 1) := by decide +kernel
theorem dX12_putMessage_38 : decode cX12_putMessage 38 = .ok (.invokevirtual 608, 3) := by decide +kernel
theorem dX12_putMessage_41 : decode cX12_putMessage 41 = .ok (.iastore, 1) := by decide +kernel
theorem dX12_putMessage_42 : decode cX12_putMessage 42 = .ok (.aload_n 0, 1) := by decide +kernel
theorem dX12_putMessage_43 : decode cX12_putMessage 43 = .ok (.getfield 220, 3) := by decide +kernel
theorem dX12_putMessage_46 : decode cX12_putMessage 46 = .ok (.iload_n 3, 1) := by decide +kernel
theorem dX12_putMessage_47 : decode cX12_putMessage 47 = .ok (.iaload, 1) := by decide +kernel
theorem dX12_putMessage_48 : decode cX12_putMessage 48 = .ok (.ireturn, 1) := by decide +kernel
theorem dX12_isUtf8_0 : decode cX12_isUtf8 0 = .ok (.iload_n 1, 1) := by decide +kernel
theorem dX12_isUtf8_1 : decode cX12_isUtf8 1 = .ok (.istore_n 3, 1) := by decide +kernel
theorem dX12_isUtf8_2 : decode cX12_isUtf8 2 = .ok (.iload_n 3, 1) := by decide +kernel
theorem dX12_isUtf8_3 : decode cX12_isUtf8 3 = .ok (.iload_n 1, 1) := by decide +kernel
theorem dX12_isUtf8_4 : decode cX12_isUtf8 4 = .ok (.iload_n 2, 1) := by decide +kernel
theorem dX12_isUtf8_5 : decode cX12_isUtf8 5 = .ok (.iadd, 1) := by decide +kernel
theorem dX12_isUtf8_6 : decode cX12_isUtf8 6 = .ok (.if_icmp .ge 255, 3) := by decide +kernel
theorem dX12_isUtf8_9 : decode cX12_isUtf8 9 = .ok (.aload_n 0, 1) := by decide +kernel
theorem dX12_isUtf8_10 : decode cX12_isUtf8 10 = .ok (.getfield 235, 3) := by decide +kernel
theorem dX12_isUtf8_13 : decode cX12_isUtf8 13 = .ok (.iload_n 3, 1) := by decide +kernel
theorem dX12_isUtf8_14 : decode cX12_isUtf8 14 = .ok (.iaload, 1) := by decide +kernel
theorem dX12_isUtf8_15 : decode cX12_isUtf8 15 = .ok (.istore 4, 2) := by decide +kernel
theorem dX12_isUtf8_17 : decode cX12_isUtf8 17 = .ok (.iload 4, 2) := by decide +kernel
theorem dX12_isUtf8_19 : decode cX12_isUtf8 19 = .ok (.sipush 128, 3) := by decide +kernel
theorem dX12_isUtf8_22 : decode cX12_isUtf8 22 = .ok (.if_icmp .ge 7, 3) := by decide +kernel
theorem dX12_isUtf8_25 : decode cX12_isUtf8 25 = .ok (.iconst 0, 1) := by decide +kernel
theorem dX12_isUtf8_26 : decode cX12_isUtf8 26 = .ok (.goto 64, 3) := by decide +kernel
theorem dX12_isUtf8_29 : decode cX12_isUtf8 29 = .ok (.iload 4, 2) := by decide +kernel
theorem dX12_isUtf8_31 : decode cX12_isUtf8 31 = .ok (.sipush 194, 3) := by decide +kernel
theorem dX12_isUtf8_34 : decode cX12_isUtf8 34 = .ok (.if_icmp .lt 15, 3) := by decide +kernel
theorem dX12_isUtf8_37 : decode cX12_isUtf8 37 = .ok (.iload 4, 2) := by decide +kernel
theorem dX12_isUtf8_39 : decode cX12_isUtf8 39 = .ok (.sipush 223, 3) := by decide +kernel
theorem dX12_isUtf8_42 : decode cX12_isUtf8 42 = .ok (.if_icmp .gt 7, 3) := by decide +kernel
theorem dX12_isUtf8_45 : decode cX12_isUtf8 45 = .ok (.iconst 1, 1) := by decide +kernel
theorem dX12_isUtf8_46 : decode cX12_isUtf8 46 = .ok (.goto 44, 3) := by decide +kernel
theorem dX12_isUtf8_49 : decode cX12_isUtf8 49 = .ok (.iload 4, 2) := by decide +kernel
theorem dX12_isUtf8_51 : decode cX12_isUtf8 51 = .ok (.sipush 224, 3) := by decide +kernel
theorem dX12_isUtf8_54 : decode cX12_isUtf8 54 = .ok (.if_icmp .lt 15, 3) := by decide +kernel
theorem dX12_isUtf8_57 : decode cX12_isUtf8 57 = .ok (.iload 4, 2) := by decide +kernel
theorem dX12_isUtf8_59 : decode cX12_isUtf8 59 = .ok (.sipush 239, 3) := by decide +kernel
theorem dX12_isUtf8_62 : decode cX12_isUtf8 62 = .ok (.if_icmp .gt 7, 3) := by decide +kernel
theorem dX12_isUtf8_65 : decode cX12_isUtf8 65 = .ok (.iconst 2, 1) := by decide +kernel
theorem dX12_isUtf8_66 : decode cX12_isUtf8 66 = .ok (.goto 24, 3) := by decide +kernel
theorem dX12_isUtf8_69 : decode cX12_isUtf8 69 = .ok (.iload 4, 2) := by decide +kernel
theorem dX12_isUtf8_71 : decode cX12_isUtf8 71 = .ok (.sipush 240, 3) := by decide +kernel
theorem dX12_isUtf8_74 : decode cX12_isUtf8 74 = .ok (.if_icmp .lt 15, 3) := by decide +kernel
theorem dX12_isUtf8_77 : decode cX12_isUtf8 77 = .ok (.iload 4, 2) := by decide +kernel
theorem dX12_isUtf8_79 : decode cX12_isUtf8 79 = .ok (.sipush 244, 3) := by decide +kernel
theorem dX12_isUtf8_82 : decode cX12_isUtf8 82 = .ok (.if_icmp .gt 7, 3) := by decide +kernel
theorem dX12_isUtf8_85 : decode cX12_isUtf8 85 = .ok (.iconst 3, 1) := by decide +kernel
theorem dX12_isUtf8_86 : decode cX12_isUtf8 86 = .ok (.goto 4, 3) := by decide +kernel
theorem dX12_isUtf8_89 : decode cX12_isUtf8 89 = .ok (.iconst (-1), 1) := by decide +kernel
theorem dX12_isUtf8_90 : decode cX12_isUtf8 90 = .ok (.istore 5, 2) := by decide +kernel
theorem dX12_isUtf8_92 : decode cX12_isUtf8 92 = .ok (.iload 5, 2) := by decide +kernel
theorem dX12_isUtf8_94 : decode cX12_isUtf8 94 = .ok (.iconst (-1), 1) := by decide +kernel
theorem dX12_isUtf8_95 : decode cX12_isUtf8 95 = .ok (.if_icmp .eq 13, 3) := by decide +kernel
theorem dX12_isUtf8_98 : decode cX12_isUtf8 98 = .ok (.iload_n 3, 1) := by decide +kernel
theorem dX12_isUtf8_99 : decode cX12_isUtf8 99 = .ok (.iload 5, 2) := by decide +kernel
theorem dX12_isUtf8_101 : decode cX12_isUtf8 101 = .ok (.iadd, 1) := by decide +kernel
theorem dX12_isUtf8_102 : decode cX12_isUtf8 102 = .ok (.iload_n 1, 1) := by decide +kernel
theorem dX12_isUtf8_103 : decode cX12_isUtf8 103 = .ok (.iload_n 2, 1) := by decide +kernel
theorem dX12_isUtf8_104 : decode cX12_isUtf8 104 = .ok (.iadd, 1) := by decide +kernel
theorem dX12_isUtf8_105 : decode cX12_isUtf8 105 = .ok (.if_icmp .lt 5, 3) := by decide +kernel
theorem dX12_isUtf8_108 : decode cX12_isUtf8 108 = .ok (.iconst 0, 1) := by decide +kernel
theorem dX12_isUtf8_109 : decode cX12_isUtf8 109 = .ok (.ireturn, 1) := by decide +kernel
theorem dX12_isUtf8_110 : decode cX12_isUtf8 110 = .ok (.iload 5, 2) := by decide +kernel
theorem dX12_isUtf8_112 : decode cX12_isUtf8 112 = .ok (.ifCond .ne 8, 3) := by decide +kernel
theorem dX12_isUtf8_115 : decode cX12_isUtf8 115 = .ok (.iload 4, 2) := by decide +kernel
theorem dX12_isUtf8_117 : decode cX12_isUtf8 117 = .ok (.goto 11, 3) := by decide +kernel
theorem dX12_isUtf8_120 : decode cX12_isUtf8 120 = .ok (.iload 4, 2) := by decide +kernel
theorem dX12_isUtf8_122 : decode cX12_isUtf8 122 = .ok (.bipush 63, 2) := by decide +kernel
theorem dX12_isUtf8_124 : decode cX12_isUtf8 124 = .ok (.iload 5, 2) := by decide +kernel
theorem dX12_isUtf8_126 : decode cX12_isUtf8 126 = .ok (.ishr, 1) := by decide +kernel
theorem dX12_isUtf8_127 : decode cX12_isUtf8 127 = .ok (.iand, 1) := by decide +kernel
theorem dX12_isUtf8_128 : decode cX12_isUtf8 128 = .ok (.istore 6, 2) := by decide +kernel
theorem dX12_isUtf8_130 : decode cX12_isUtf8 130 = .ok (.iconst 1, 1) := by decide +kernel
theorem dX12_isUtf8_131 : decode cX12_isUtf8 131 = .ok (.istore 7, 2) := by decide +kernel
theorem dX12_isUtf8_133 : decode cX12_isUtf8 133 = .ok (.iload 7, 2) := by decide +kernel
theorem dX12_isUtf8_135 : decode cX12_isUtf8 135 = .ok (.iload 5, 2) := by decide +kernel
theorem dX12_isUtf8_137 : decode cX12_isUtf8 137 = .ok (.if_icmp .gt 50, 3) := by decide +kernel
theorem dX12_isUtf8_140 : decode cX12_isUtf8 140 = .ok (.aload_n 0, 1) := by decide +kernel
theorem dX12_isUtf8_141 : decode cX12_isUtf8 141 = .ok (.getfield 235, 3) := by decide +kernel
theorem dX12_isUtf8_144 : decode cX12_isUtf8 144 = .ok (.iload_n 3, 1) := by decide +kernel
theorem dX12_isUtf8_145 : decode cX12_isUtf8 145 = .ok (.iload 7, 2) := by decide +kernel
theorem dX12_isUtf8_147 : decode cX12_isUtf8 147 = .ok (.iadd, 1) := by decide +kernel
theorem dX12_isUtf8_148 : decode cX12_isUtf8 148 = .ok (.iaload, 1) := by decide +kernel
theorem dX12_isUtf8_149 : decode cX12_isUtf8 149 = .ok (.sipush 192, 3) := by decide +kernel
theorem dX12_isUtf8_152 : decode cX12_isUtf8 152 = .ok (.iand, 1) := by decide +kernel
theorem dX12_isUtf8_153 : decode cX12_isUtf8 153 = .ok (.sipush 128, 3) := by decide +kernel
theorem dX12_isUtf8_156 : decode cX12_isUtf8 156 = .ok (.if_icmp .eq 5, 3) := by decide +kernel
theorem dX12_isUtf8_159 : decode cX12_isUtf8 159 = .ok (.iconst 0, 1) := by decide +kernel
theorem dX12_isUtf8_160 : decode cX12_isUtf8 160 = .ok (.ireturn, 1) := by decide +kernel
theorem dX12_isUtf8_161 : decode cX12_isUtf8 161 = .ok (.bipush 64, 2) := by decide +kernel
theorem dX12_isUtf8_163 : decode cX12_isUtf8 163 = .ok (.iload 6, 2) := by decide +kernel
theorem dX12_isUtf8_165 : decode cX12_isUtf8 165 = .ok (.imul, 1) := by decide +kernel
theorem dX12_isUtf8_166 : decode cX12_isUtf8 166 = .ok (.aload_n 0, 1) := by decide +kernel
theorem dX12_isUtf8_167 : decode cX12_isUtf8 167 = .ok (.getfield 235, 3) := by decide +kernel
theorem dX12_isUtf8_170 : decode cX12_isUtf8 170 = .ok (.iload_n 3, 1) := by decide +kernel
theorem dX12_isUtf8_171 : decode cX12_isUtf8 171 = .ok (.iload 7, 2) := by decide +kernel
theorem dX12_isUtf8_173 : decode cX12_isUtf8 173 = .ok (.iadd, 1) := by decide +kernel
theorem dX12_isUtf8_174 : decode cX12_isUtf8 174 = .ok (.iaload, 1) := by decide +kernel
theorem dX12_isUtf8_175 : decode cX12_isUtf8 175 = .ok (.bipush 63, 2) := by decide +kernel
theorem dX12_isUtf8_177 : decode cX12_isUtf8 177 = .ok (.iand, 1) := by decide +kernel
theorem dX12_isUtf8_178 : decode cX12_isUtf8 178 = .ok (.iadd, 1) := by decide +kernel
theorem dX12_isUtf8_179 : decode cX12_isUtf8 179 = .ok (.istore 6, 2) := by decide +kernel
theorem dX12_isUtf8_181 : decode cX12_isUtf8 181 = .ok (.iinc 7 1, 3) := by decide +kernel
theorem dX12_isUtf8_184 : decode cX12_isUtf8 184 = .ok (.goto (-51), 3) := by decide +kernel
theorem dX12_isUtf8_187 : decode cX12_isUtf8 187 = .ok (.iload 5, 2) := by decide +kernel
theorem dX12_isUtf8_189 : decode cX12_isUtf8 189 = .ok (.iconst 2, 1) := by decide +kernel
theorem dX12_isUtf8_190 : decode cX12_isUtf8 190 = .ok (.if_icmp .lt 23, 3) := by decide +kernel
theorem dX12_isUtf8_193 : decode cX12_isUtf8 193 = .ok (.iload 6, 2) := by decide +kernel
theorem dX12_isUtf8_195 : decode cX12_isUtf8 195 = .ok (.iload 5, 2) := by decide +kernel
theorem dX12_isUtf8_197 : decode cX12_isUtf8 197 = .ok (.iconst 2, 1) := by decide +kernel
theorem dX12_isUtf8_198 : decode cX12_isUtf8 198 = .ok (.if_icmp .ne 9, 3) := by decide +kernel
theorem dX12_isUtf8_201 : decode cX12_isUtf8 201 = .ok (.sipush 2048, 3) := by decide +kernel
theorem dX12_isUtf8_204 : decode cX12_isUtf8 204 = .ok (.goto 6, 3) := by decide +kernel
theorem dX12_isUtf8_207 : decode cX12_isUtf8 207 = .ok (.ldc_w 620, 3) := by decide +kernel
theorem dX12_isUtf8_210 : decode cX12_isUtf8 210 = .ok (.if_icmp .lt 7, 3) := by decide +kernel
theorem dX12_isUtf8_213 : decode cX12_isUtf8 213 = .ok (.iconst 1, 1) := by decide +kernel
theorem dX12_isUtf8_214 : decode cX12_isUtf8 214 = .ok (.goto 4, 3) := by decide +kernel
theorem dX12_isUtf8_217 : decode cX12_isUtf8 217 = .ok (.iconst 0, 1) := by decide +kernel
theorem dX12_isUtf8_218 : decode cX12_isUtf8 218 = .ok (.istore 7, 2) := by decide +kernel
theorem dX12_isUtf8_220 : decode cX12_isUtf8 220 = .ok (.iload 7, 2) := by decide +kernel
theorem dX12_isUtf8_222 : decode cX12_isUtf8 222 = .ok (.ifCond .eq 27, 3) := by decide +kernel
theorem dX12_isUtf8_225 : decode cX12_isUtf8 225 = .ok (.iload 6, 2) := by decide +kernel
theorem dX12_isUtf8_227 : decode cX12_isUtf8 227 = .ok (.ldc_w 621, 3) := by decide +kernel
theorem dX12_isUtf8_230 : decode cX12_isUtf8 230 = .ok (.if_icmp .lt 11, 3) := by decide +kernel
theorem dX12_isUtf8_233 : decode cX12_isUtf8 233 = .ok (.iload 6, 2) := by decide +kernel
theorem dX12_isUtf8_235 : decode cX12_isUtf8 235 = .ok (.ldc_w 622, 3) := by decide +kernel
theorem dX12_isUtf8_238 : decode cX12_isUtf8 238 = .ok (.if_icmp .le 11, 3) := by decide +kernel
theorem dX12_isUtf8_241 : decode cX12_isUtf8 241 = .ok (.iload 6, 2) := by decide +kernel
theorem dX12_isUtf8_243 : decode cX12_isUtf8 243 = .ok (.ldc_w 623, 3) := by decide +kernel
theorem dX12_isUtf8_246 : decode cX12_isUtf8 246 = .ok (.if_icmp .le 5, 3) := by decide +kernel
theorem dX12_isUtf8_249 : decode cX12_isUtf8 249 = .ok (.iconst 0, 1) := by decide +kernel
theorem dX12_isUtf8_250 : decode cX12_isUtf8 250 = .ok (.ireturn, 1) := by decide +kernel
theorem dX12_isUtf8_251 : decode cX12_isUtf8 251 = .ok (.iload_n 3, 1) := by decide +kernel
theorem dX12_isUtf8_252 : decode cX12_isUtf8 252 = .ok (.iload 5, 2) := by decide +kernel
theorem dX12_isUtf8_254 : decode cX12_isUtf8 254 = .ok (.iconst 1, 1) := by decide +kernel
theorem dX12_isUtf8_255 : decode cX12_isUtf8 255 = .ok (.iadd, 1) := by decide +kernel
theorem dX12_isUtf8_256 : decode cX12_isUtf8 256 = .ok (.iadd, 1) := by decide +kernel
theorem dX12_isUtf8_257 : decode cX12_isUtf8 257 = .ok (.istore_n 3, 1) := by decide +kernel
theorem dX12_isUtf8_258 : decode cX12_isUtf8 258 = .ok (.goto (-256), 3) := by decide +kernel
theorem dX12_isUtf8_261 : decode cX12_isUtf8 261 = .ok (.iconst 1, 1) := by decide +kernel
theorem dX12_isUtf8_262 : decode cX12_isUtf8 262 = .ok (.ireturn, 1) := by decide +kernel
theorem dX12_putText_0 : decode cX12_putText 0 = .ok (.aload_n 0, 1) := by decide +kernel
theorem dX12_putText_1 : decode cX12_putText 1 = .ok (.getfield 602, 3) := by decide +kernel
theorem dX12_putText_4 : decode cX12_putText 4 = .ok (.iload_n 3, 1) := by decide +kernel
theorem dX12_putText_5 : decode cX12_putText 5 = .ok (.isub, 1) := by decide +kernel
theorem dX12_putText_6 : decode cX12_putText 6 = .ok (.istore 4, 2) := by decide +kernel
theorem dX12_putText_8 : decode cX12_putText 8 = .ok (.aload_n 0, 1) := by decide +kernel
theorem dX12_putText_9 : decode cX12_putText 9 = .ok (.getfield 62, 3) := by decide +kernel
theorem dX12_putText_12 : decode cX12_putText 12 = .ok (.iload_n 2, 1) := by decide +kernel
theorem dX12_putText_13 : decode cX12_putText 13 = .ok (.iaload, 1) := by decide +kernel
theorem dX12_putText_14 : decode cX12_putText 14 = .ok (.bipush 11, 2) := by decide +kernel
theorem dX12_putText_16 : decode cX12_putText 16 = .ok (.if_icmp .ne 18, 3) := by decide +kernel
theorem dX12_putText_19 : decode cX12_putText 19 = .ok (.aload_n 0, 1) := by decide +kernel
theorem dX12_putText_20 : decode cX12_putText 20 = .ok (.iload_n 3, 1) := by decide +kernel
theorem dX12_putText_21 : decode cX12_putText 21 = .ok (.iload 4, 2) := by decide +kernel
theorem dX12_putText_23 : decode cX12_putText 23 = .ok (.invokevirtual 624, 3) := by decide +kernel
theorem dX12_putText_26 : decode cX12_putText 26 = .ok (.ifCond .ne 8, 3) := by decide +kernel
theorem dX12_putText_29 : decode cX12_putText 29 = .ok (.aload_n 0, 1) := by decide +kernel
theorem dX12_putText_30 : decode cX12_putText 30 = .ok (.iconst 1, 1) := by decide +kernel
theorem dX12_putText_31 : decode cX12_putText 31 = .ok (.putfield 590, 3) := by decide +kernel
theorem dX12_putText_34 : decode cX12_putText 34 = .ok (.aload_n 0, 1) := by decide +kernel
theorem dX12_putText_35 : decode cX12_putText 35 = .ok (.iload_n 1, 1) := by decide +kernel
theorem dX12_putText_36 : decode cX12_putText 36 = .ok (.iload_n 2, 1) := by decide +kernel
theorem dX12_putText_37 : decode cX12_putText 37 = .ok (.invokevirtual 617, 3) := by decide +kernel
theorem dX12_putText_40 : decode cX12_putText 40 = .ok (.istore 5, 2) := by decide +kernel
theorem dX12_putText_42 : decode cX12_putText 42 = .ok (.aload_n 0, 1) := by decide +kernel
theorem dX12_putText_43 : decode cX12_putText 43 = .ok (.getfield 214, 3) := by decide +kernel
theorem dX12_putText_46 : decode cX12_putText 46 = .ok (.iload 5, 2) := by decide +kernel
theorem dX12_putText_48 : decode cX12_putText 48 = .ok (.iload_n 3, 1) := by decide +kernel
theorem dX12_putText_49 : decode cX12_putText 49 = .ok (.iastore, 1) := by decide +kernel
theorem dX12_putText_50 : decode cX12_putText 50 = .ok (.aload_n 0, 1) := by decide +kernel
theorem dX12_putText_51 : decode cX12_putText 51 = .ok (.getfield 217, 3) := by decide +kernel
theorem dX12_putText_54 : decode cX12_putText 54 = .ok (.iload 5, 2) := by decide +kernel
theorem dX12_putText_56 : decode cX12_putText 56 = .ok (.iload 4, 2) := by decide +kernel
theorem dX12_putText_58 : decode cX12_putText 58 = .ok (.iastore, 1) := by decide +kernel
theorem dX12_putText_59 : decode cX12_putText 59 = .ok (.iload 4, 2) := by decide +kernel
theorem dX12_putText_61 : decode cX12_putText 61 = .ok (.ifCond .ne 30, 3) := by decide +kernel
theorem dX12_putText_64 : decode cX12_putText 64 = .ok (.aload_n 0, 1) := by decide +kernel
theorem dX12_putText_65 : decode cX12_putText 65 = .ok (.getfield 68, 3) := by decide +kernel
theorem dX12_putText_68 : decode cX12_putText 68 = .ok (.iload_n 2, 1) := by decide +kernel
theorem dX12_putText_69 : decode cX12_putText 69 = .ok (.baload, 1) := by decide +kernel
theorem dX12_putText_70 : decode cX12_putText 70 = .ok (.ifCond .ne 21, 3) := by decide +kernel
theorem dX12_putText_73 : decode cX12_putText 73 = .ok (.aload_n 0, 1) := by decide +kernel
theorem dX12_putText_74 : decode cX12_putText 74 = .ok (.getfield 75, 3) := by decide +kernel
theorem dX12_putText_77 : decode cX12_putText 77 = .ok (.iload_n 2, 1) := by decide +kernel
theorem dX12_putText_78 : decode cX12_putText 78 = .ok (.iaload, 1) := by decide +kernel
theorem dX12_putText_79 : decode cX12_putText 79 = .ok (.iconst (-1), 1) := by decide +kernel
theorem dX12_putText_80 : decode cX12_putText 80 = .ok (.if_icmp .ne 11, 3) := by decide +kernel
theorem dX12_putText_83 : decode cX12_putText 83 = .ok (.aload_n 0, 1) := by decide +kernel
theorem dX12_putText_84 : decode cX12_putText 84 = .ok (.getfield 223, 3) := by decide +kernel
theorem dX12_putText_87 : decode cX12_putText 87 = .ok (.iload 5, 2) := by decide +kernel
theorem dX12_putText_89 : decode cX12_putText 89 = .ok (.iconst 0, 1) := by decide +kernel
theorem dX12_putText_90 : decode cX12_putText 90 = .ok (.bastore, 1) := by decide +kernel
theorem dX12_putText_91 : decode cX12_putText 91 = .ok (.return_, 1) := by decide +kernel
theorem dX12_takeFixed_0 : decode cX12_takeFixed 0 = .ok (.aload_n 0, 1) := by decide +kernel
theorem dX12_takeFixed_1 : decode cX12_takeFixed 1 = .ok (.lconst 0, 1) := by decide +kernel
theorem dX12_takeFixed_2 : decode cX12_takeFixed 2 = .ok (.putfield 633, 3) := by decide +kernel
theorem dX12_takeFixed_5 : decode cX12_takeFixed 5 = .ok (.aload_n 0, 1) := by decide +kernel
theorem dX12_takeFixed_6 : decode cX12_takeFixed 6 = .ok (.getfield 636, 3) := by decide +kernel
theorem dX12_takeFixed_9 : decode cX12_takeFixed 9 = .ok (.iload_n 1, 1) := by decide +kernel
theorem dX12_takeFixed_10 : decode cX12_takeFixed 10 = .ok (.iadd, 1) := by decide +kernel
theorem dX12_takeFixed_11 : decode cX12_takeFixed 11 = .ok (.iload_n 2, 1) := by decide +kernel
theorem dX12_takeFixed_12 : decode cX12_takeFixed 12 = .ok (.if_icmp .le 9, 3) := by decide +kernel
theorem dX12_takeFixed_15 : decode cX12_takeFixed 15 = .ok (.aload_n 0, 1) := by decide +kernel
theorem dX12_takeFixed_16 : decode cX12_takeFixed 16 = .ok (.iconst 1, 1) := by decide +kernel
theorem dX12_takeFixed_17 : decode cX12_takeFixed 17 = .ok (.putfield 590, 3) := by decide +kernel
theorem dX12_takeFixed_20 : decode cX12_takeFixed 20 = .ok (.return_, 1) := by decide +kernel
theorem dX12_takeFixed_21 : decode cX12_takeFixed 21 = .ok (.iconst 0, 1) := by decide +kernel
theorem dX12_takeFixed_22 : decode cX12_takeFixed 22 = .ok (.istore_n 3, 1) := by decide +kernel
theorem dX12_takeFixed_23 : decode cX12_takeFixed 23 = .ok (.iload_n 3, 1) := by decide +kernel
theorem dX12_takeFixed_24 : decode cX12_takeFixed 24 = .ok (.iload_n 1, 1) := by decide +kernel
theorem dX12_takeFixed_25 : decode cX12_takeFixed 25 = .ok (.if_icmp .ge 35, 3) := by decide +kernel
theorem dX12_takeFixed_28 : decode cX12_takeFixed 28 = .ok (.aload_n 0, 1) := by decide +kernel
theorem dX12_takeFixed_29 : decode cX12_takeFixed 29 = .ok (.dup, 1) := by decide +kernel
theorem dX12_takeFixed_30 : decode cX12_takeFixed 30 = .ok (.getfield 633, 3) := by decide +kernel
theorem dX12_takeFixed_33 : decode cX12_takeFixed 33 = .ok (.aload_n 0, 1) := by decide +kernel
theorem dX12_takeFixed_34 : decode cX12_takeFixed 34 = .ok (.getfield 7, 3) := by decide +kernel
theorem dX12_takeFixed_37 : decode cX12_takeFixed 37 = .ok (.aload_n 0, 1) := by decide +kernel
theorem dX12_takeFixed_38 : decode cX12_takeFixed 38 = .ok (.getfield 636, 3) := by decide +kernel
theorem dX12_takeFixed_41 : decode cX12_takeFixed 41 = .ok (.iload_n 3, 1) := by decide +kernel
theorem dX12_takeFixed_42 : decode cX12_takeFixed 42 = .ok (.iadd, 1) := by decide +kernel
theorem dX12_takeFixed_43 : decode cX12_takeFixed 43 = .ok (.iaload, 1) := by decide +kernel
theorem dX12_takeFixed_44 : decode cX12_takeFixed 44 = .ok (.i2l, 1) := by decide +kernel
theorem dX12_takeFixed_45 : decode cX12_takeFixed 45 = .ok (.bipush 8, 2) := by decide +kernel
theorem dX12_takeFixed_47 : decode cX12_takeFixed 47 = .ok (.iload_n 3, 1) := by decide +kernel
theorem dX12_takeFixed_48 : decode cX12_takeFixed 48 = .ok (.imul, 1) := by decide +kernel
theorem dX12_takeFixed_49 : decode cX12_takeFixed 49 = .ok (.lshl, 1) := by decide +kernel
theorem dX12_takeFixed_50 : decode cX12_takeFixed 50 = .ok (.lor, 1) := by decide +kernel
theorem dX12_takeFixed_51 : decode cX12_takeFixed 51 = .ok (.putfield 633, 3) := by decide +kernel
theorem dX12_takeFixed_54 : decode cX12_takeFixed 54 = .ok (.iinc 3 1, 3) := by decide +kernel
theorem dX12_takeFixed_57 : decode cX12_takeFixed 57 = .ok (.goto (-34), 3) := by decide +kernel
theorem dX12_takeFixed_60 : decode cX12_takeFixed 60 = .ok (.aload_n 0, 1) := by decide +kernel
theorem dX12_takeFixed_61 : decode cX12_takeFixed 61 = .ok (.dup, 1) := by decide +kernel
theorem dX12_takeFixed_62 : decode cX12_takeFixed 62 = .ok (.getfield 636, 3) := by decide +kernel
theorem dX12_takeFixed_65 : decode cX12_takeFixed 65 = .ok (.iload_n 1, 1) := by decide +kernel
theorem dX12_takeFixed_66 : decode cX12_takeFixed 66 = .ok (.iadd, 1) := by decide +kernel
theorem dX12_takeFixed_67 : decode cX12_takeFixed 67 = .ok (.putfield 636, 3) := by decide +kernel
theorem dX12_takeFixed_70 : decode cX12_takeFixed 70 = .ok (.return_, 1) := by decide +kernel
theorem dX12_takeOne_0 : decode cX12_takeOne 0 = .ok (.iload_n 1, 1) := by decide +kernel
theorem dX12_takeOne_1 : decode cX12_takeOne 1 = .ok (.ifCond .ne 11, 3) := by decide +kernel
theorem dX12_takeOne_4 : decode cX12_takeOne 4 = .ok (.aload_n 0, 1) := by decide +kernel
theorem dX12_takeOne_5 : decode cX12_takeOne 5 = .ok (.iload_n 2, 1) := by decide +kernel
theorem dX12_takeOne_6 : decode cX12_takeOne 6 = .ok (.invokevirtual 641, 3) := by decide +kernel
theorem dX12_takeOne_9 : decode cX12_takeOne 9 = .ok (.goto 19, 3) := by decide +kernel
theorem dX12_takeOne_12 : decode cX12_takeOne 12 = .ok (.aload_n 0, 1) := by decide +kernel
theorem dX12_takeOne_13 : decode cX12_takeOne 13 = .ok (.iload_n 1, 1) := by decide +kernel
theorem dX12_takeOne_14 : decode cX12_takeOne 14 = .ok (.iconst 1, 1) := by decide +kernel
theorem dX12_takeOne_15 : decode cX12_takeOne 15 = .ok (.if_icmp .ne 8, 3) := by decide +kernel
theorem dX12_takeOne_18 : decode cX12_takeOne 18 = .ok (.bipush 8, 2) := by decide +kernel
theorem dX12_takeOne_20 : decode cX12_takeOne 20 = .ok (.goto 4, 3) := by decide +kernel
theorem dX12_takeOne_23 : decode cX12_takeOne 23 = .ok (.iconst 4, 1) := by decide +kernel
theorem dX12_takeOne_24 : decode cX12_takeOne 24 = .ok (.iload_n 2, 1) := by decide +kernel
theorem dX12_takeOne_25 : decode cX12_takeOne 25 = .ok (.invokevirtual 644, 3) := by decide +kernel
theorem dX12_takeOne_28 : decode cX12_takeOne 28 = .ok (.return_, 1) := by decide +kernel
theorem dX12_valueFor_0 : decode cX12_valueFor 0 = .ok (.iload_n 0, 1) := by decide +kernel
theorem dX12_valueFor_1 : decode cX12_valueFor 1 = .ok (.tableswitch 118 0 14 #[75, 118, 79, 118, 85, 97, 79, 118, 75, 118, 106, 118, 118, 118, 75], 75) := by decide +kernel
theorem dX12_valueFor_76 : decode cX12_valueFor 76 = .ok (.lload_n 1, 1) := by decide +kernel
theorem dX12_valueFor_77 : decode cX12_valueFor 77 = .ok (.l2i, 1) := by decide +kernel
theorem dX12_valueFor_78 : decode cX12_valueFor 78 = .ok (.i2l, 1) := by decide +kernel
theorem dX12_valueFor_79 : decode cX12_valueFor 79 = .ok (.lreturn, 1) := by decide +kernel
theorem dX12_valueFor_80 : decode cX12_valueFor 80 = .ok (.lload_n 1, 1) := by decide +kernel
theorem dX12_valueFor_81 : decode cX12_valueFor 81 = .ok (.ldc2_w 639, 3) := by decide +kernel
theorem dX12_valueFor_84 : decode cX12_valueFor 84 = .ok (.land, 1) := by decide +kernel
theorem dX12_valueFor_85 : decode cX12_valueFor 85 = .ok (.lreturn, 1) := by decide +kernel
theorem dX12_valueFor_86 : decode cX12_valueFor 86 = .ok (.lload_n 1, 1) := by decide +kernel
theorem dX12_valueFor_87 : decode cX12_valueFor 87 = .ok (.l2i, 1) := by decide +kernel
theorem dX12_valueFor_88 : decode cX12_valueFor 88 = .ok (.iconst 1, 1) := by decide +kernel
theorem dX12_valueFor_89 : decode cX12_valueFor 89 = .ok (.iushr, 1) := by decide +kernel
theorem dX12_valueFor_90 : decode cX12_valueFor 90 = .ok (.lload_n 1, 1) := by decide +kernel
theorem dX12_valueFor_91 : decode cX12_valueFor 91 = .ok (.l2i, 1) := by decide +kernel
theorem dX12_valueFor_92 : decode cX12_valueFor 92 = .ok (.iconst 1, 1) := by decide +kernel
theorem dX12_valueFor_93 : decode cX12_valueFor 93 = .ok (.iand, 1) := by decide +kernel
theorem dX12_valueFor_94 : decode cX12_valueFor 94 = .ok (.ineg, 1) := by decide +kernel
theorem dX12_valueFor_95 : decode cX12_valueFor 95 = .ok (.ixor, 1) := by decide +kernel
theorem dX12_valueFor_96 : decode cX12_valueFor 96 = .ok (.i2l, 1) := by decide +kernel
theorem dX12_valueFor_97 : decode cX12_valueFor 97 = .ok (.lreturn, 1) := by decide +kernel
theorem dX12_valueFor_98 : decode cX12_valueFor 98 = .ok (.lload_n 1, 1) := by decide +kernel
theorem dX12_valueFor_99 : decode cX12_valueFor 99 = .ok (.iconst 1, 1) := by decide +kernel
theorem dX12_valueFor_100 : decode cX12_valueFor 100 = .ok (.lushr, 1) := by decide +kernel
theorem dX12_valueFor_101 : decode cX12_valueFor 101 = .ok (.lload_n 1, 1) := by decide +kernel
theorem dX12_valueFor_102 : decode cX12_valueFor 102 = .ok (.lconst 1, 1) := by decide +kernel
theorem dX12_valueFor_103 : decode cX12_valueFor 103 = .ok (.land, 1) := by decide +kernel
theorem dX12_valueFor_104 : decode cX12_valueFor 104 = .ok (.lneg, 1) := by decide +kernel
theorem dX12_valueFor_105 : decode cX12_valueFor 105 = .ok (.lxor, 1) := by decide +kernel
theorem dX12_valueFor_106 : decode cX12_valueFor 106 = .ok (.lreturn, 1) := by decide +kernel
theorem dX12_valueFor_107 : decode cX12_valueFor 107 = .ok (.lload_n 1, 1) := by decide +kernel
theorem dX12_valueFor_108 : decode cX12_valueFor 108 = .ok (.lconst 0, 1) := by decide +kernel
theorem dX12_valueFor_109 : decode cX12_valueFor 109 = .ok (.lcmp, 1) := by decide +kernel
theorem dX12_valueFor_110 : decode cX12_valueFor 110 = .ok (.ifCond .eq 7, 3) := by decide +kernel
theorem dX12_valueFor_113 : decode cX12_valueFor 113 = .ok (.lconst 1, 1) := by decide +kernel
theorem dX12_valueFor_114 : decode cX12_valueFor 114 = .ok (.goto 4, 3) := by decide +kernel
theorem dX12_valueFor_117 : decode cX12_valueFor 117 = .ok (.lconst 0, 1) := by decide +kernel
theorem dX12_valueFor_118 : decode cX12_valueFor 118 = .ok (.lreturn, 1) := by decide +kernel
theorem dX12_valueFor_119 : decode cX12_valueFor 119 = .ok (.lload_n 1, 1) := by decide +kernel
theorem dX12_valueFor_120 : decode cX12_valueFor 120 = .ok (.lreturn, 1) := by decide +kernel
theorem dX12_putNumber_0 : decode cX12_putNumber 0 = .ok (.aload_n 0, 1) := by decide +kernel
theorem dX12_putNumber_1 : decode cX12_putNumber 1 = .ok (.iload_n 1, 1) := by decide +kernel
theorem dX12_putNumber_2 : decode cX12_putNumber 2 = .ok (.iload_n 2, 1) := by decide +kernel
theorem dX12_putNumber_3 : decode cX12_putNumber 3 = .ok (.invokevirtual 617, 3) := by decide +kernel
theorem dX12_putNumber_6 : decode cX12_putNumber 6 = .ok (.istore 5, 2) := by decide +kernel
theorem dX12_putNumber_8 : decode cX12_putNumber 8 = .ok (.aload_n 0, 1) := by decide +kernel
theorem dX12_putNumber_9 : decode cX12_putNumber 9 = .ok (.getfield 211, 3) := by decide +kernel
theorem dX12_putNumber_12 : decode cX12_putNumber 12 = .ok (.iload 5, 2) := by decide +kernel
theorem dX12_putNumber_14 : decode cX12_putNumber 14 = .ok (.lload_n 3, 1) := by decide +kernel
theorem dX12_putNumber_15 : decode cX12_putNumber 15 = .ok (.lastore, 1) := by decide +kernel
theorem dX12_putNumber_16 : decode cX12_putNumber 16 = .ok (.lload_n 3, 1) := by decide +kernel
theorem dX12_putNumber_17 : decode cX12_putNumber 17 = .ok (.lconst 0, 1) := by decide +kernel
theorem dX12_putNumber_18 : decode cX12_putNumber 18 = .ok (.lcmp, 1) := by decide +kernel
theorem dX12_putNumber_19 : decode cX12_putNumber 19 = .ok (.ifCond .ne 30, 3) := by decide +kernel
theorem dX12_putNumber_22 : decode cX12_putNumber 22 = .ok (.aload_n 0, 1) := by decide +kernel
theorem dX12_putNumber_23 : decode cX12_putNumber 23 = .ok (.getfield 68, 3) := by decide +kernel
theorem dX12_putNumber_26 : decode cX12_putNumber 26 = .ok (.iload_n 2, 1) := by decide +kernel
theorem dX12_putNumber_27 : decode cX12_putNumber 27 = .ok (.baload, 1) := by decide +kernel
theorem dX12_putNumber_28 : decode cX12_putNumber 28 = .ok (.ifCond .ne 21, 3) := by decide +kernel
theorem dX12_putNumber_31 : decode cX12_putNumber 31 = .ok (.aload_n 0, 1) := by decide +kernel
theorem dX12_putNumber_32 : decode cX12_putNumber 32 = .ok (.getfield 75, 3) := by decide +kernel
theorem dX12_putNumber_35 : decode cX12_putNumber 35 = .ok (.iload_n 2, 1) := by decide +kernel
theorem dX12_putNumber_36 : decode cX12_putNumber 36 = .ok (.iaload, 1) := by decide +kernel
theorem dX12_putNumber_37 : decode cX12_putNumber 37 = .ok (.iconst (-1), 1) := by decide +kernel
theorem dX12_putNumber_38 : decode cX12_putNumber 38 = .ok (.if_icmp .ne 11, 3) := by decide +kernel
theorem dX12_putNumber_41 : decode cX12_putNumber 41 = .ok (.aload_n 0, 1) := by decide +kernel
theorem dX12_putNumber_42 : decode cX12_putNumber 42 = .ok (.getfield 223, 3) := by decide +kernel
theorem dX12_putNumber_45 : decode cX12_putNumber 45 = .ok (.iload 5, 2) := by decide +kernel
theorem dX12_putNumber_47 : decode cX12_putNumber 47 = .ok (.iconst 0, 1) := by decide +kernel
theorem dX12_putNumber_48 : decode cX12_putNumber 48 = .ok (.bastore, 1) := by decide +kernel
theorem dX12_putNumber_49 : decode cX12_putNumber 49 = .ok (.return_, 1) := by decide +kernel
theorem dX12_takeLength_0 : decode cX12_takeLength 0 = .ok (.aload_n 0, 1) := by decide +kernel
theorem dX12_takeLength_1 : decode cX12_takeLength 1 = .ok (.iload_n 3, 1) := by decide +kernel
theorem dX12_takeLength_2 : decode cX12_takeLength 2 = .ok (.invokevirtual 641, 3) := by decide +kernel
theorem dX12_takeLength_5 : decode cX12_takeLength 5 = .ok (.aload_n 0, 1) := by decide +kernel
theorem dX12_takeLength_6 : decode cX12_takeLength 6 = .ok (.getfield 590, 3) := by decide +kernel
theorem dX12_takeLength_9 : decode cX12_takeLength 9 = .ok (.ifCond .ne 27, 3) := by decide +kernel
theorem dX12_takeLength_12 : decode cX12_takeLength 12 = .ok (.aload_n 0, 1) := by decide +kernel
theorem dX12_takeLength_13 : decode cX12_takeLength 13 = .ok (.getfield 633, 3) := by decide +kernel
theorem dX12_takeLength_16 : decode cX12_takeLength 16 = .ok (.lconst 0, 1) := by decide +kernel
theorem dX12_takeLength_17 : decode cX12_takeLength 17 = .ok (.lcmp, 1) := by decide +kernel
theorem dX12_takeLength_18 : decode cX12_takeLength 18 = .ok (.ifCond .lt 18, 3) := by decide +kernel
theorem dX12_takeLength_21 : decode cX12_takeLength 21 = .ok (.aload_n 0, 1) := by decide +kernel
theorem dX12_takeLength_22 : decode cX12_takeLength 22 = .ok (.getfield 633, 3) := by decide +kernel
theorem dX12_takeLength_25 : decode cX12_takeLength 25 = .ok (.iload_n 3, 1) := by decide +kernel
theorem dX12_takeLength_26 : decode cX12_takeLength 26 = .ok (.aload_n 0, 1) := by decide +kernel
theorem dX12_takeLength_27 : decode cX12_takeLength 27 = .ok (.getfield 636, 3) := by decide +kernel
theorem dX12_takeLength_30 : decode cX12_takeLength 30 = .ok (.isub, 1) := by decide +kernel
theorem dX12_takeLength_31 : decode cX12_takeLength 31 = .ok (.i2l, 1) := by decide +kernel
theorem dX12_takeLength_32 : decode cX12_takeLength 32 = .ok (.lcmp, 1) := by decide +kernel
theorem dX12_takeLength_33 : decode cX12_takeLength 33 = .ok (.ifCond .le 9, 3) := by decide +kernel
theorem dX12_takeLength_36 : decode cX12_takeLength 36 = .ok (.aload_n 0, 1) := by decide +kernel
theorem dX12_takeLength_37 : decode cX12_takeLength 37 = .ok (.iconst 1, 1) := by decide +kernel
theorem dX12_takeLength_38 : decode cX12_takeLength 38 = .ok (.putfield 590, 3) := by decide +kernel
theorem dX12_takeLength_41 : decode cX12_takeLength 41 = .ok (.return_, 1) := by decide +kernel
theorem dX12_takeLength_42 : decode cX12_takeLength 42 = .ok (.aload_n 0, 1) := by decide +kernel
theorem dX12_takeLength_43 : decode cX12_takeLength 43 = .ok (.getfield 636, 3) := by decide +kernel
theorem dX12_takeLength_46 : decode cX12_takeLength 46 = .ok (.aload_n 0, 1) := by decide +kernel
theorem dX12_takeLength_47 : decode cX12_takeLength 47 = .ok (.getfield 633, 3) := by decide +kernel
theorem dX12_takeLength_50 : decode cX12_takeLength 50 = .ok (.l2i, 1) := by decide +kernel
theorem dX12_takeLength_51 : decode cX12_takeLength 51 = .ok (.iadd, 1) := by decide +kernel
theorem dX12_takeLength_52 : decode cX12_takeLength 52 = .ok (.istore 4, 2) := by decide +kernel
theorem dX12_takeLength_54 : decode cX12_takeLength 54 = .ok (.aload_n 0, 1) := by decide +kernel
theorem dX12_takeLength_55 : decode cX12_takeLength 55 = .ok (.getfield 62, 3) := by decide +kernel
theorem dX12_takeLength_58 : decode cX12_takeLength 58 = .ok (.iload_n 2, 1) := by decide +kernel
theorem dX12_takeLength_59 : decode cX12_takeLength 59 = .ok (.iaload, 1) := by decide +kernel
theorem dX12_takeLength_60 : decode cX12_takeLength 60 = .ok (.bipush 13, 2) := by decide +kernel
theorem dX12_takeLength_62 : decode cX12_takeLength 62 = .ok (.if_icmp .ne 54, 3) := by decide +kernel
theorem dX12_takeLength_65 : decode cX12_takeLength 65 = .ok (.aload_n 0, 1) := by decide +kernel
theorem dX12_takeLength_66 : decode cX12_takeLength 66 = .ok (.iload_n 1, 1) := by decide +kernel
theorem dX12_takeLength_67 : decode cX12_takeLength 67 = .ok (.iload_n 2, 1) := by decide +kernel
theorem dX12_takeLength_68 : decode cX12_takeLength 68 = .ok (.invokevirtual 647, 3) := by decide +kernel
theorem dX12_takeLength_71 : decode cX12_takeLength 71 = .ok (.istore 5, 2) := by decide +kernel
theorem dX12_takeLength_73 : decode cX12_takeLength 73 = .ok (.aload_n 0, 1) := by decide +kernel
theorem dX12_takeLength_74 : decode cX12_takeLength 74 = .ok (.getfield 590, 3) := by decide +kernel
theorem dX12_takeLength_77 : decode cX12_takeLength 77 = .ok (.ifCond .eq 4, 3) := by decide +kernel
theorem dX12_takeLength_80 : decode cX12_takeLength 80 = .ok (.return_, 1) := by decide +kernel
theorem dX12_takeLength_81 : decode cX12_takeLength 81 = .ok (.aload_n 0, 1) := by decide +kernel
theorem dX12_takeLength_82 : decode cX12_takeLength 82 = .ok (.getfield 238, 3) := by decide +kernel
theorem dX12_takeLength_85 : decode cX12_takeLength 85 = .ok (.aload_n 0, 1) := by decide +kernel
theorem dX12_takeLength_86 : decode cX12_takeLength 86 = .ok (.getfield 650, 3) := by decide +kernel
theorem dX12_takeLength_89 : decode cX12_takeLength 89 = .ok (.iload 5, 2) := by decide +kernel
theorem dX12_takeLength_91 : decode cX12_takeLength 91 = .ok (.iastore, 1) := by decide +kernel
theorem dX12_takeLength_92 : decode cX12_takeLength 92 = .ok (.aload_n 0, 1) := by decide +kernel
theorem dX12_takeLength_93 : decode cX12_takeLength 93 = .ok (.getfield 241, 3) := by decide +kernel
theorem dX12_takeLength_96 : decode cX12_takeLength 96 = .ok (.aload_n 0, 1) := by decide +kernel
theorem dX12_takeLength_97 : decode cX12_takeLength 97 = .ok (.getfield 650, 3) := by decide +kernel
theorem dX12_takeLength_100 : decode cX12_takeLength 100 = .ok (.iload 4, 2) := by decide +kernel
theorem dX12_takeLength_102 : decode cX12_takeLength 102 = .ok (.iastore, 1) := by decide +kernel
theorem dX12_takeLength_103 : decode cX12_takeLength 103 = .ok (.aload_n 0, 1) := by decide +kernel
theorem dX12_takeLength_104 : decode cX12_takeLength 104 = .ok (.dup, 1) := by decide +kernel
theorem dX12_takeLength_105 : decode cX12_takeLength 105 = .ok (.getfield 650, 3) := by decide +kernel
theorem dX12_takeLength_108 : decode cX12_takeLength 108 = .ok (.iconst 1, 1) := by decide +kernel
theorem dX12_takeLength_109 : decode cX12_takeLength 109 = .ok (.iadd, 1) := by decide +kernel
theorem dX12_takeLength_110 : decode cX12_takeLength 110 = .ok (.putfield 650, 3) := by decide +kernel
theorem dX12_takeLength_113 : decode cX12_takeLength 113 = .ok (.goto 144, 3) := by decide +kernel
theorem dX12_takeLength_116 : decode cX12_takeLength 116 = .ok (.aload_n 0, 1) := by decide +kernel
theorem dX12_takeLength_117 : decode cX12_takeLength 117 = .ok (.getfield 62, 3) := by decide +kernel
theorem dX12_takeLength_120 : decode cX12_takeLength 120 = .ok (.iload_n 2, 1) := by decide +kernel
theorem dX12_takeLength_121 : decode cX12_takeLength 121 = .ok (.iaload, 1) := by decide +kernel
theorem dX12_takeLength_122 : decode cX12_takeLength 122 = .ok (.invokestatic 653, 3) := by decide +kernel
theorem dX12_takeLength_125 : decode cX12_takeLength 125 = .ok (.iconst 2, 1) := by decide +kernel
theorem dX12_takeLength_126 : decode cX12_takeLength 126 = .ok (.if_icmp .ne 71, 3) := by decide +kernel
theorem dX12_takeLength_129 : decode cX12_takeLength 129 = .ok (.aload_n 0, 1) := by decide +kernel
theorem dX12_takeLength_130 : decode cX12_takeLength 130 = .ok (.getfield 602, 3) := by decide +kernel
theorem dX12_takeLength_133 : decode cX12_takeLength 133 = .ok (.istore 5, 2) := by decide +kernel
theorem dX12_takeLength_135 : decode cX12_takeLength 135 = .ok (.aload_n 0, 1) := by decide +kernel
theorem dX12_takeLength_136 : decode cX12_takeLength 136 = .ok (.getfield 636, 3) := by decide +kernel
theorem dX12_takeLength_139 : decode cX12_takeLength 139 = .ok (.istore 6, 2) := by decide +kernel
theorem dX12_takeLength_141 : decode cX12_takeLength 141 = .ok (.iload 6, 2) := by decide +kernel
theorem dX12_takeLength_143 : decode cX12_takeLength 143 = .ok (.iload 4, 2) := by decide +kernel
theorem dX12_takeLength_145 : decode cX12_takeLength 145 = .ok (.if_icmp .ge 35, 3) := by decide +kernel
theorem dX12_takeLength_148 : decode cX12_takeLength 148 = .ok (.aload_n 0, 1) := by decide +kernel
theorem dX12_takeLength_149 : decode cX12_takeLength 149 = .ok (.getfield 235, 3) := by decide +kernel
theorem dX12_takeLength_152 : decode cX12_takeLength 152 = .ok (.aload_n 0, 1) := by decide +kernel
theorem dX12_takeLength_153 : decode cX12_takeLength 153 = .ok (.getfield 602, 3) := by decide +kernel
theorem dX12_takeLength_156 : decode cX12_takeLength 156 = .ok (.aload_n 0, 1) := by decide +kernel
theorem dX12_takeLength_157 : decode cX12_takeLength 157 = .ok (.getfield 7, 3) := by decide +kernel
theorem dX12_takeLength_160 : decode cX12_takeLength 160 = .ok (.iload 6, 2) := by decide +kernel
theorem dX12_takeLength_162 : decode cX12_takeLength 162 = .ok (.iaload, 1) := by decide +kernel
theorem dX12_takeLength_163 : decode cX12_takeLength 163 = .ok (.iastore, 1) := by decide +kernel
theorem dX12_takeLength_164 : decode cX12_takeLength 164 = .ok (.aload_n 0, 1) := by decide +kernel
theorem dX12_takeLength_165 : decode cX12_takeLength 165 = .ok (.dup, 1) := by decide +kernel
theorem dX12_takeLength_166 : decode cX12_takeLength 166 = .ok (.getfield 602, 3) := by decide +kernel
theorem dX12_takeLength_169 : decode cX12_takeLength 169 = .ok (.iconst 1, 1) := by decide +kernel
theorem dX12_takeLength_170 : decode cX12_takeLength 170 = .ok (.iadd, 1) := by decide +kernel
theorem dX12_takeLength_171 : decode cX12_takeLength 171 = .ok (.putfield 602, 3) := by decide +kernel
theorem dX12_takeLength_174 : decode cX12_takeLength 174 = .ok (.iinc 6 1, 3) := by decide +kernel
theorem dX12_takeLength_177 : decode cX12_takeLength 177 = .ok (.goto (-36), 3) := by decide +kernel
theorem dX12_takeLength_180 : decode cX12_takeLength 180 = .ok (.aload_n 0, 1) := by decide +kernel
theorem dX12_takeLength_181 : decode cX12_takeLength 181 = .ok (.iload 4, 2) := by decide +kernel
theorem dX12_takeLength_183 : decode cX12_takeLength 183 = .ok (.putfield 636, 3) := by decide +kernel
theorem dX12_takeLength_186 : decode cX12_takeLength 186 = .ok (.aload_n 0, 1) := by decide +kernel
theorem dX12_takeLength_187 : decode cX12_takeLength 187 = .ok (.iload_n 1, 1) := by decide +kernel
theorem dX12_takeLength_188 : decode cX12_takeLength 188 = .ok (.iload_n 2, 1) := by decide +kernel
theorem dX12_takeLength_189 : decode cX12_takeLength 189 = .ok (.iload 5, 2) := by decide +kernel
theorem dX12_takeLength_191 : decode cX12_takeLength 191 = .ok (.invokevirtual 656, 3) := by decide +kernel
theorem dX12_takeLength_194 : decode cX12_takeLength 194 = .ok (.goto 63, 3) := by decide +kernel
theorem dX12_takeLength_197 : decode cX12_takeLength 197 = .ok (.aload_n 0, 1) := by decide +kernel
theorem dX12_takeLength_198 : decode cX12_takeLength 198 = .ok (.getfield 636, 3) := by decide +kernel
theorem dX12_takeLength_201 : decode cX12_takeLength 201 = .ok (.iload 4, 2) := by decide +kernel
theorem dX12_takeLength_203 : decode cX12_takeLength 203 = .ok (.if_icmp .ge 54, 3) := by decide +kernel
theorem dX12_takeLength_206 : decode cX12_takeLength 206 = .ok (.aload_n 0, 1) := by decide +kernel
theorem dX12_takeLength_207 : decode cX12_takeLength 207 = .ok (.getfield 590, 3) := by decide +kernel
theorem dX12_takeLength_210 : decode cX12_takeLength 210 = .ok (.ifCond .ne 47, 3) := by decide +kernel
theorem dX12_takeLength_213 : decode cX12_takeLength 213 = .ok (.aload_n 0, 1) := by decide +kernel
theorem dX12_takeLength_214 : decode cX12_takeLength 214 = .ok (.aload_n 0, 1) := by decide +kernel
theorem dX12_takeLength_215 : decode cX12_takeLength 215 = .ok (.getfield 62, 3) := by decide +kernel
theorem dX12_takeLength_218 : decode cX12_takeLength 218 = .ok (.iload_n 2, 1) := by decide +kernel
theorem dX12_takeLength_219 : decode cX12_takeLength 219 = .ok (.iaload, 1) := by decide +kernel
theorem dX12_takeLength_220 : decode cX12_takeLength 220 = .ok (.invokestatic 653, 3) := by decide +kernel
theorem dX12_takeLength_223 : decode cX12_takeLength 223 = .ok (.iload 4, 2) := by decide +kernel
theorem dX12_takeLength_225 : decode cX12_takeLength 225 = .ok (.invokevirtual 660, 3) := by decide +kernel
theorem dX12_takeLength_228 : decode cX12_takeLength 228 = .ok (.aload_n 0, 1) := by decide +kernel
theorem dX12_takeLength_229 : decode cX12_takeLength 229 = .ok (.getfield 590, 3) := by decide +kernel
theorem dX12_takeLength_232 : decode cX12_takeLength 232 = .ok (.ifCond .ne (-35), 3) := by decide +kernel
theorem dX12_takeLength_235 : decode cX12_takeLength 235 = .ok (.aload_n 0, 1) := by decide +kernel
theorem dX12_takeLength_236 : decode cX12_takeLength 236 = .ok (.iload_n 1, 1) := by decide +kernel
theorem dX12_takeLength_237 : decode cX12_takeLength 237 = .ok (.iload_n 2, 1) := by decide +kernel
theorem dX12_takeLength_238 : decode cX12_takeLength 238 = .ok (.aload_n 0, 1) := by decide +kernel
theorem dX12_takeLength_239 : decode cX12_takeLength 239 = .ok (.getfield 62, 3) := by decide +kernel
theorem dX12_takeLength_242 : decode cX12_takeLength 242 = .ok (.iload_n 2, 1) := by decide +kernel
theorem dX12_takeLength_243 : decode cX12_takeLength 243 = .ok (.iaload, 1) := by decide +kernel
theorem dX12_takeLength_244 : decode cX12_takeLength 244 = .ok (.aload_n 0, 1) := by decide +kernel
theorem dX12_takeLength_245 : decode cX12_takeLength 245 = .ok (.getfield 633, 3) := by decide +kernel
theorem dX12_takeLength_248 : decode cX12_takeLength 248 = .ok (.invokestatic 663, 3) := by decide +kernel
theorem dX12_takeLength_251 : decode cX12_takeLength 251 = .ok (.invokevirtual 667, 3) := by decide +kernel
theorem dX12_takeLength_254 : decode cX12_takeLength 254 = .ok (.goto (-57), 3) := by decide +kernel
theorem dX12_takeLength_257 : decode cX12_takeLength 257 = .ok (.return_, 1) := by decide +kernel
theorem dX12_skip_0 : decode cX12_skip 0 = .ok (.iload_n 1, 1) := by decide +kernel
theorem dX12_skip_1 : decode cX12_skip 1 = .ok (.ifCond .ne 11, 3) := by decide +kernel
theorem dX12_skip_4 : decode cX12_skip 4 = .ok (.aload_n 0, 1) := by decide +kernel
theorem dX12_skip_5 : decode cX12_skip 5 = .ok (.iload_n 2, 1) := by decide +kernel
theorem dX12_skip_6 : decode cX12_skip 6 = .ok (.invokevirtual 641, 3) := by decide +kernel
theorem dX12_skip_9 : decode cX12_skip 9 = .ok (.goto 83, 3) := by decide +kernel
theorem dX12_skip_12 : decode cX12_skip 12 = .ok (.iload_n 1, 1) := by decide +kernel
theorem dX12_skip_13 : decode cX12_skip 13 = .ok (.iconst 1, 1) := by decide +kernel
theorem dX12_skip_14 : decode cX12_skip 14 = .ok (.if_icmp .ne 13, 3) := by decide +kernel
theorem dX12_skip_17 : decode cX12_skip 17 = .ok (.aload_n 0, 1) := by decide +kernel
theorem dX12_skip_18 : decode cX12_skip 18 = .ok (.bipush 8, 2) := by decide +kernel
theorem dX12_skip_20 : decode cX12_skip 20 = .ok (.iload_n 2, 1) := by decide +kernel
theorem dX12_skip_21 : decode cX12_skip 21 = .ok (.invokevirtual 644, 3) := by decide +kernel
theorem dX12_skip_24 : decode cX12_skip 24 = .ok (.goto 68, 3) := by decide +kernel
theorem dX12_skip_27 : decode cX12_skip 27 = .ok (.iload_n 1, 1) := by decide +kernel
theorem dX12_skip_28 : decode cX12_skip 28 = .ok (.iconst 5, 1) := by decide +kernel
theorem dX12_skip_29 : decode cX12_skip 29 = .ok (.if_icmp .ne 12, 3) := by decide +kernel
theorem dX12_skip_32 : decode cX12_skip 32 = .ok (.aload_n 0, 1) := by decide +kernel
theorem dX12_skip_33 : decode cX12_skip 33 = .ok (.iconst 4, 1) := by decide +kernel
theorem dX12_skip_34 : decode cX12_skip 34 = .ok (.iload_n 2, 1) := by decide +kernel
theorem dX12_skip_35 : decode cX12_skip 35 = .ok (.invokevirtual 644, 3) := by decide +kernel
theorem dX12_skip_38 : decode cX12_skip 38 = .ok (.goto 54, 3) := by decide +kernel
theorem dX12_skip_41 : decode cX12_skip 41 = .ok (.aload_n 0, 1) := by decide +kernel
theorem dX12_skip_42 : decode cX12_skip 42 = .ok (.iload_n 2, 1) := by decide +kernel
theorem dX12_skip_43 : decode cX12_skip 43 = .ok (.invokevirtual 641, 3) := by decide +kernel
theorem dX12_skip_46 : decode cX12_skip 46 = .ok (.aload_n 0, 1) := by decide +kernel
theorem dX12_skip_47 : decode cX12_skip 47 = .ok (.getfield 633, 3) := by decide +kernel
theorem dX12_skip_50 : decode cX12_skip 50 = .ok (.lconst 0, 1) := by decide +kernel
theorem dX12_skip_51 : decode cX12_skip 51 = .ok (.lcmp, 1) := by decide +kernel
theorem dX12_skip_52 : decode cX12_skip 52 = .ok (.ifCond .lt 18, 3) := by decide +kernel
theorem dX12_skip_55 : decode cX12_skip 55 = .ok (.aload_n 0, 1) := by decide +kernel
theorem dX12_skip_56 : decode cX12_skip 56 = .ok (.getfield 633, 3) := by decide +kernel
theorem dX12_skip_59 : decode cX12_skip 59 = .ok (.iload_n 2, 1) := by decide +kernel
theorem dX12_skip_60 : decode cX12_skip 60 = .ok (.aload_n 0, 1) := by decide +kernel
theorem dX12_skip_61 : decode cX12_skip 61 = .ok (.getfield 636, 3) := by decide +kernel
theorem dX12_skip_64 : decode cX12_skip 64 = .ok (.isub, 1) := by decide +kernel
theorem dX12_skip_65 : decode cX12_skip 65 = .ok (.i2l, 1) := by decide +kernel
theorem dX12_skip_66 : decode cX12_skip 66 = .ok (.lcmp, 1) := by decide +kernel
theorem dX12_skip_67 : decode cX12_skip 67 = .ok (.ifCond .le 11, 3) := by decide +kernel
theorem dX12_skip_70 : decode cX12_skip 70 = .ok (.aload_n 0, 1) := by decide +kernel
theorem dX12_skip_71 : decode cX12_skip 71 = .ok (.iconst 1, 1) := by decide +kernel
theorem dX12_skip_72 : decode cX12_skip 72 = .ok (.putfield 590, 3) := by decide +kernel
theorem dX12_skip_75 : decode cX12_skip 75 = .ok (.goto 17, 3) := by decide +kernel
theorem dX12_skip_78 : decode cX12_skip 78 = .ok (.aload_n 0, 1) := by decide +kernel
theorem dX12_skip_79 : decode cX12_skip 79 = .ok (.dup, 1) := by decide +kernel
theorem dX12_skip_80 : decode cX12_skip 80 = .ok (.getfield 636, 3) := by decide +kernel
theorem dX12_skip_83 : decode cX12_skip 83 = .ok (.aload_n 0, 1) := by decide +kernel
theorem dX12_skip_84 : decode cX12_skip 84 = .ok (.getfield 633, 3) := by decide +kernel
theorem dX12_skip_87 : decode cX12_skip 87 = .ok (.l2i, 1) := by decide +kernel
theorem dX12_skip_88 : decode cX12_skip 88 = .ok (.iadd, 1) := by decide +kernel
theorem dX12_skip_89 : decode cX12_skip 89 = .ok (.putfield 636, 3) := by decide +kernel
theorem dX12_skip_92 : decode cX12_skip 92 = .ok (.return_, 1) := by decide +kernel
theorem dX12_takeNext_0 : decode cX12_takeNext 0 = .ok (.aload_n 0, 1) := by decide +kernel
theorem dX12_takeNext_1 : decode cX12_takeNext 1 = .ok (.getfield 636, 3) := by decide +kernel
theorem dX12_takeNext_4 : decode cX12_takeNext 4 = .ok (.istore_n 3, 1) := by decide +kernel
theorem dX12_takeNext_5 : decode cX12_takeNext 5 = .ok (.aload_n 0, 1) := by decide +kernel
theorem dX12_takeNext_6 : decode cX12_takeNext 6 = .ok (.iload_n 2, 1) := by decide +kernel
theorem dX12_takeNext_7 : decode cX12_takeNext 7 = .ok (.invokevirtual 641, 3) := by decide +kernel
theorem dX12_takeNext_10 : decode cX12_takeNext 10 = .ok (.aload_n 0, 1) := by decide +kernel
theorem dX12_takeNext_11 : decode cX12_takeNext 11 = .ok (.getfield 633, 3) := by decide +kernel
theorem dX12_takeNext_14 : decode cX12_takeNext 14 = .ok (.l2i, 1) := by decide +kernel
theorem dX12_takeNext_15 : decode cX12_takeNext 15 = .ok (.bipush 7, 2) := by decide +kernel
theorem dX12_takeNext_17 : decode cX12_takeNext 17 = .ok (.iand, 1) := by decide +kernel
theorem dX12_takeNext_18 : decode cX12_takeNext 18 = .ok (.istore 4, 2) := by decide +kernel
theorem dX12_takeNext_20 : decode cX12_takeNext 20 = .ok (.aload_n 0, 1) := by decide +kernel
theorem dX12_takeNext_21 : decode cX12_takeNext 21 = .ok (.getfield 590, 3) := by decide +kernel
theorem dX12_takeNext_24 : decode cX12_takeNext 24 = .ok (.ifCond .ne 48, 3) := by decide +kernel
theorem dX12_takeNext_27 : decode cX12_takeNext 27 = .ok (.aload_n 0, 1) := by decide +kernel
theorem dX12_takeNext_28 : decode cX12_takeNext 28 = .ok (.getfield 633, 3) := by decide +kernel
theorem dX12_takeNext_31 : decode cX12_takeNext 31 = .ok (.ldc2_w 671, 3) := by decide +kernel
theorem dX12_takeNext_34 : decode cX12_takeNext 34 = .ok (.lcmp, 1) := by decide +kernel
theorem dX12_takeNext_35 : decode cX12_takeNext 35 = .ok (.ifCond .lt 37, 3) := by decide +kernel
theorem dX12_takeNext_38 : decode cX12_takeNext 38 = .ok (.aload_n 0, 1) := by decide +kernel
theorem dX12_takeNext_39 : decode cX12_takeNext 39 = .ok (.getfield 633, 3) := by decide +kernel
theorem dX12_takeNext_42 : decode cX12_takeNext 42 = .ok (.ldc2_w 639, 3) := by decide +kernel
theorem dX12_takeNext_45 : decode cX12_takeNext 45 = .ok (.lcmp, 1) := by decide +kernel
theorem dX12_takeNext_46 : decode cX12_takeNext 46 = .ok (.ifCond .gt 26, 3) := by decide +kernel
theorem dX12_takeNext_49 : decode cX12_takeNext 49 = .ok (.iload 4, 2) := by decide +kernel
theorem dX12_takeNext_51 : decode cX12_takeNext 51 = .ok (.ifCond .eq 27, 3) := by decide +kernel
theorem dX12_takeNext_54 : decode cX12_takeNext 54 = .ok (.iload 4, 2) := by decide +kernel
theorem dX12_takeNext_56 : decode cX12_takeNext 56 = .ok (.iconst 1, 1) := by decide +kernel
theorem dX12_takeNext_57 : decode cX12_takeNext 57 = .ok (.if_icmp .eq 21, 3) := by decide +kernel
theorem dX12_takeNext_60 : decode cX12_takeNext 60 = .ok (.iload 4, 2) := by decide +kernel
theorem dX12_takeNext_62 : decode cX12_takeNext 62 = .ok (.iconst 2, 1) := by decide +kernel
theorem dX12_takeNext_63 : decode cX12_takeNext 63 = .ok (.if_icmp .eq 15, 3) := by decide +kernel
theorem dX12_takeNext_66 : decode cX12_takeNext 66 = .ok (.iload 4, 2) := by decide +kernel
theorem dX12_takeNext_68 : decode cX12_takeNext 68 = .ok (.iconst 5, 1) := by decide +kernel
theorem dX12_takeNext_69 : decode cX12_takeNext 69 = .ok (.if_icmp .eq 9, 3) := by decide +kernel
theorem dX12_takeNext_72 : decode cX12_takeNext 72 = .ok (.aload_n 0, 1) := by decide +kernel
theorem dX12_takeNext_73 : decode cX12_takeNext 73 = .ok (.iconst 1, 1) := by decide +kernel
theorem dX12_takeNext_74 : decode cX12_takeNext 74 = .ok (.putfield 590, 3) := by decide +kernel
theorem dX12_takeNext_77 : decode cX12_takeNext 77 = .ok (.return_, 1) := by decide +kernel
theorem dX12_takeNext_78 : decode cX12_takeNext 78 = .ok (.aload_n 0, 1) := by decide +kernel
theorem dX12_takeNext_79 : decode cX12_takeNext 79 = .ok (.aload_n 0, 1) := by decide +kernel
theorem dX12_takeNext_80 : decode cX12_takeNext 80 = .ok (.getfield 190, 3) := by decide +kernel
theorem dX12_takeNext_83 : decode cX12_takeNext 83 = .ok (.iload_n 1, 1) := by decide +kernel
theorem dX12_takeNext_84 : decode cX12_takeNext 84 = .ok (.iaload, 1) := by decide +kernel
theorem dX12_takeNext_85 : decode cX12_takeNext 85 = .ok (.aload_n 0, 1) := by decide +kernel
theorem dX12_takeNext_86 : decode cX12_takeNext 86 = .ok (.getfield 633, 3) := by decide +kernel
theorem dX12_takeNext_89 : decode cX12_takeNext 89 = .ok (.iconst 3, 1) := by decide +kernel
theorem dX12_takeNext_90 : decode cX12_takeNext 90 = .ok (.lushr, 1) := by decide +kernel
theorem dX12_takeNext_91 : decode cX12_takeNext 91 = .ok (.l2i, 1) := by decide +kernel
theorem dX12_takeNext_92 : decode cX12_takeNext 92 = .ok (.invokevirtual 673, 3) := by decide +kernel
theorem dX12_takeNext_95 : decode cX12_takeNext 95 = .ok (.istore 5, 2) := by decide +kernel
theorem dX12_takeNext_97 : decode cX12_takeNext 97 = .ok (.iload 5, 2) := by decide +kernel
theorem dX12_takeNext_99 : decode cX12_takeNext 99 = .ok (.iconst (-1), 1) := by decide +kernel
theorem dX12_takeNext_100 : decode cX12_takeNext 100 = .ok (.if_icmp .ne 7, 3) := by decide +kernel
theorem dX12_takeNext_103 : decode cX12_takeNext 103 = .ok (.iconst (-1), 1) := by decide +kernel
theorem dX12_takeNext_104 : decode cX12_takeNext 104 = .ok (.goto 13, 3) := by decide +kernel
theorem dX12_takeNext_107 : decode cX12_takeNext 107 = .ok (.aload_n 0, 1) := by decide +kernel
theorem dX12_takeNext_108 : decode cX12_takeNext 108 = .ok (.getfield 62, 3) := by decide +kernel
theorem dX12_takeNext_111 : decode cX12_takeNext 111 = .ok (.iload 5, 2) := by decide +kernel
theorem dX12_takeNext_113 : decode cX12_takeNext 113 = .ok (.iaload, 1) := by decide +kernel
theorem dX12_takeNext_114 : decode cX12_takeNext 114 = .ok (.invokestatic 653, 3) := by decide +kernel
theorem dX12_takeNext_117 : decode cX12_takeNext 117 = .ok (.istore 6, 2) := by decide +kernel
theorem dX12_takeNext_119 : decode cX12_takeNext 119 = .ok (.iload 5, 2) := by decide +kernel
theorem dX12_takeNext_121 : decode cX12_takeNext 121 = .ok (.iconst (-1), 1) := by decide +kernel
theorem dX12_takeNext_122 : decode cX12_takeNext 122 = .ok (.if_icmp .eq 36, 3) := by decide +kernel
theorem dX12_takeNext_125 : decode cX12_takeNext 125 = .ok (.iload 4, 2) := by decide +kernel
theorem dX12_takeNext_127 : decode cX12_takeNext 127 = .ok (.iconst 2, 1) := by decide +kernel
theorem dX12_takeNext_128 : decode cX12_takeNext 128 = .ok (.if_icmp .ne 30, 3) := by decide +kernel
theorem dX12_takeNext_131 : decode cX12_takeNext 131 = .ok (.iload 6, 2) := by decide +kernel
theorem dX12_takeNext_133 : decode cX12_takeNext 133 = .ok (.iconst 2, 1) := by decide +kernel
theorem dX12_takeNext_134 : decode cX12_takeNext 134 = .ok (.if_icmp .eq 13, 3) := by decide +kernel
theorem dX12_takeNext_137 : decode cX12_takeNext 137 = .ok (.aload_n 0, 1) := by decide +kernel
theorem dX12_takeNext_138 : decode cX12_takeNext 138 = .ok (.getfield 68, 3) := by decide +kernel
theorem dX12_takeNext_141 : decode cX12_takeNext 141 = .ok (.iload 5, 2) := by decide +kernel
theorem dX12_takeNext_143 : decode cX12_takeNext 143 = .ok (.baload, 1) := by decide +kernel
theorem dX12_takeNext_144 : decode cX12_takeNext 144 = .ok (.ifCond .eq 14, 3) := by decide +kernel
theorem dX12_takeNext_147 : decode cX12_takeNext 147 = .ok (.aload_n 0, 1) := by decide +kernel
theorem dX12_takeNext_148 : decode cX12_takeNext 148 = .ok (.iload_n 1, 1) := by decide +kernel
theorem dX12_takeNext_149 : decode cX12_takeNext 149 = .ok (.iload 5, 2) := by decide +kernel
theorem dX12_takeNext_151 : decode cX12_takeNext 151 = .ok (.iload_n 2, 1) := by decide +kernel
theorem dX12_takeNext_152 : decode cX12_takeNext 152 = .ok (.invokevirtual 676, 3) := by decide +kernel
theorem dX12_takeNext_155 : decode cX12_takeNext 155 = .ok (.goto 78, 3) := by decide +kernel
theorem dX12_takeNext_158 : decode cX12_takeNext 158 = .ok (.iload 5, 2) := by decide +kernel
theorem dX12_takeNext_160 : decode cX12_takeNext 160 = .ok (.iconst (-1), 1) := by decide +kernel
theorem dX12_takeNext_161 : decode cX12_takeNext 161 = .ok (.if_icmp .eq 48, 3) := by decide +kernel
theorem dX12_takeNext_164 : decode cX12_takeNext 164 = .ok (.iload 6, 2) := by decide +kernel
theorem dX12_takeNext_166 : decode cX12_takeNext 166 = .ok (.iload 4, 2) := by decide +kernel
theorem dX12_takeNext_168 : decode cX12_takeNext 168 = .ok (.if_icmp .ne 41, 3) := by decide +kernel
theorem dX12_takeNext_171 : decode cX12_takeNext 171 = .ok (.aload_n 0, 1) := by decide +kernel
theorem dX12_takeNext_172 : decode cX12_takeNext 172 = .ok (.iload 4, 2) := by decide +kernel
theorem dX12_takeNext_174 : decode cX12_takeNext 174 = .ok (.iload_n 2, 1) := by decide +kernel
theorem dX12_takeNext_175 : decode cX12_takeNext 175 = .ok (.invokevirtual 660, 3) := by decide +kernel
theorem dX12_takeNext_178 : decode cX12_takeNext 178 = .ok (.aload_n 0, 1) := by decide +kernel
theorem dX12_takeNext_179 : decode cX12_takeNext 179 = .ok (.getfield 590, 3) := by decide +kernel
theorem dX12_takeNext_182 : decode cX12_takeNext 182 = .ok (.ifCond .ne 51, 3) := by decide +kernel
theorem dX12_takeNext_185 : decode cX12_takeNext 185 = .ok (.aload_n 0, 1) := by decide +kernel
theorem dX12_takeNext_186 : decode cX12_takeNext 186 = .ok (.iload_n 1, 1) := by decide +kernel
theorem dX12_takeNext_187 : decode cX12_takeNext 187 = .ok (.iload 5, 2) := by decide +kernel
theorem dX12_takeNext_189 : decode cX12_takeNext 189 = .ok (.aload_n 0, 1) := by decide +kernel
theorem dX12_takeNext_190 : decode cX12_takeNext 190 = .ok (.getfield 62, 3) := by decide +kernel
theorem dX12_takeNext_193 : decode cX12_takeNext 193 = .ok (.iload 5, 2) := by decide +kernel
theorem dX12_takeNext_195 : decode cX12_takeNext 195 = .ok (.iaload, 1) := by decide +kernel
theorem dX12_takeNext_196 : decode cX12_takeNext 196 = .ok (.aload_n 0, 1) := by decide +kernel
theorem dX12_takeNext_197 : decode cX12_takeNext 197 = .ok (.getfield 633, 3) := by decide +kernel
theorem dX12_takeNext_200 : decode cX12_takeNext 200 = .ok (.invokestatic 663, 3) := by decide +kernel
theorem dX12_takeNext_203 : decode cX12_takeNext 203 = .ok (.invokevirtual 667, 3) := by decide +kernel
theorem dX12_takeNext_206 : decode cX12_takeNext 206 = .ok (.goto 27, 3) := by decide +kernel
theorem dX12_takeNext_209 : decode cX12_takeNext 209 = .ok (.aload_n 0, 1) := by decide +kernel
theorem dX12_takeNext_210 : decode cX12_takeNext 210 = .ok (.iload 4, 2) := by decide +kernel
theorem dX12_takeNext_212 : decode cX12_takeNext 212 = .ok (.iload_n 2, 1) := by decide +kernel
theorem dX12_takeNext_213 : decode cX12_takeNext 213 = .ok (.invokevirtual 679, 3) := by decide +kernel
theorem dX12_takeNext_216 : decode cX12_takeNext 216 = .ok (.aload_n 0, 1) := by decide +kernel
theorem dX12_takeNext_217 : decode cX12_takeNext 217 = .ok (.getfield 590, 3) := by decide +kernel
theorem dX12_takeNext_220 : decode cX12_takeNext 220 = .ok (.ifCond .ne 13, 3) := by decide +kernel
theorem dX12_takeNext_223 : decode cX12_takeNext 223 = .ok (.aload_n 0, 1) := by decide +kernel
theorem dX12_takeNext_224 : decode cX12_takeNext 224 = .ok (.iload_n 1, 1) := by decide +kernel
theorem dX12_takeNext_225 : decode cX12_takeNext 225 = .ok (.iload_n 3, 1) := by decide +kernel
theorem dX12_takeNext_226 : decode cX12_takeNext 226 = .ok (.aload_n 0, 1) := by decide +kernel
theorem dX12_takeNext_227 : decode cX12_takeNext 227 = .ok (.getfield 636, 3) := by decide +kernel
theorem dX12_takeNext_230 : decode cX12_takeNext 230 = .ok (.invokevirtual 682, 3) := by decide +kernel
theorem dX12_takeNext_233 : decode cX12_takeNext 233 = .ok (.return_, 1) := by decide +kernel
theorem dX12_liveValues_0 : decode cX12_liveValues 0 = .ok (.iconst 0, 1) := by decide +kernel
theorem dX12_liveValues_1 : decode cX12_liveValues 1 = .ok (.istore_n 1, 1) := by decide +kernel
theorem dX12_liveValues_2 : decode cX12_liveValues 2 = .ok (.iconst 0, 1) := by decide +kernel
theorem dX12_liveValues_3 : decode cX12_liveValues 3 = .ok (.istore_n 2, 1) := by decide +kernel
theorem dX12_liveValues_4 : decode cX12_liveValues 4 = .ok (.iload_n 2, 1) := by decide +kernel
theorem dX12_liveValues_5 : decode cX12_liveValues 5 = .ok (.aload_n 0, 1) := by decide +kernel
theorem dX12_liveValues_6 : decode cX12_liveValues 6 = .ok (.getfield 593, 3) := by decide +kernel
theorem dX12_liveValues_9 : decode cX12_liveValues 9 = .ok (.if_icmp .ge 63, 3) := by decide +kernel
theorem dX12_liveValues_12 : decode cX12_liveValues 12 = .ok (.aload_n 0, 1) := by decide +kernel
theorem dX12_liveValues_13 : decode cX12_liveValues 13 = .ok (.getfield 202, 3) := by decide +kernel
theorem dX12_liveValues_16 : decode cX12_liveValues 16 = .ok (.iload_n 2, 1) := by decide +kernel
theorem dX12_liveValues_17 : decode cX12_liveValues 17 = .ok (.aload_n 0, 1) := by decide +kernel
theorem dX12_liveValues_18 : decode cX12_liveValues 18 = .ok (.getfield 193, 3) := by decide +kernel
theorem dX12_liveValues_21 : decode cX12_liveValues 21 = .ok (.iload_n 2, 1) := by decide +kernel
theorem dX12_liveValues_22 : decode cX12_liveValues 22 = .ok (.iaload, 1) := by decide +kernel
theorem dX12_liveValues_23 : decode cX12_liveValues 23 = .ok (.iconst (-1), 1) := by decide +kernel
theorem dX12_liveValues_24 : decode cX12_liveValues 24 = .ok (.if_icmp .eq 36, 3) := by decide +kernel
theorem dX12_liveValues_27 : decode cX12_liveValues 27 = .ok (.aload_n 0, 1) := by decide +kernel
theorem dX12_liveValues_28 : decode cX12_liveValues 28 = .ok (.getfield 223, 3) := by decide +kernel
theorem dX12_liveValues_31 : decode cX12_liveValues 31 = .ok (.aload_n 0, 1) := by decide +kernel
theorem dX12_liveValues_32 : decode cX12_liveValues 32 = .ok (.getfield 193, 3) := by decide +kernel
theorem dX12_liveValues_35 : decode cX12_liveValues 35 = .ok (.iload_n 2, 1) := by decide +kernel
theorem dX12_liveValues_36 : decode cX12_liveValues 36 = .ok (.iaload, 1) := by decide +kernel
theorem dX12_liveValues_37 : decode cX12_liveValues 37 = .ok (.baload, 1) := by decide +kernel
theorem dX12_liveValues_38 : decode cX12_liveValues 38 = .ok (.ifCond .eq 26, 3) := by decide +kernel
theorem dX12_liveValues_41 : decode cX12_liveValues 41 = .ok (.aload_n 0, 1) := by decide +kernel
theorem dX12_liveValues_42 : decode cX12_liveValues 42 = .ok (.getfield 202, 3) := by decide +kernel
theorem dX12_liveValues_45 : decode cX12_liveValues 45 = .ok (.aload_n 0, 1) := by decide +kernel
theorem dX12_liveValues_46 : decode cX12_liveValues 46 = .ok (.getfield 205, 3) := by decide +kernel
theorem dX12_liveValues_49 : decode cX12_liveValues 49 = .ok (.aload_n 0, 1) := by decide +kernel
theorem dX12_liveValues_50 : decode cX12_liveValues 50 = .ok (.getfield 193, 3) := by decide +kernel
theorem dX12_liveValues_53 : decode cX12_liveValues 53 = .ok (.iload_n 2, 1) := by decide +kernel
theorem dX12_liveValues_54 : decode cX12_liveValues 54 = .ok (.iaload, 1) := by decide +kernel
theorem dX12_liveValues_55 : decode cX12_liveValues 55 = .ok (.iaload, 1) := by decide +kernel
theorem dX12_liveValues_56 : decode cX12_liveValues 56 = .ok (.baload, 1) := by decide +kernel
theorem dX12_liveValues_57 : decode cX12_liveValues 57 = .ok (.ifCond .eq 7, 3) := by decide +kernel
theorem dX12_liveValues_60 : decode cX12_liveValues 60 = .ok (.iconst 1, 1) := by decide +kernel
theorem dX12_liveValues_61 : decode cX12_liveValues 61 = .ok (.goto 4, 3) := by decide +kernel
theorem dX12_liveValues_64 : decode cX12_liveValues 64 = .ok (.iconst 0, 1) := by decide +kernel
theorem dX12_liveValues_65 : decode cX12_liveValues 65 = .ok (.bastore, 1) := by decide +kernel
theorem dX12_liveValues_66 : decode cX12_liveValues 66 = .ok (.iinc 2 1, 3) := by decide +kernel
theorem dX12_liveValues_69 : decode cX12_liveValues 69 = .ok (.goto (-65), 3) := by decide +kernel
theorem dX12_liveValues_72 : decode cX12_liveValues 72 = .ok (.iconst 0, 1) := by decide +kernel
theorem dX12_liveValues_73 : decode cX12_liveValues 73 = .ok (.istore_n 2, 1) := by decide +kernel
theorem dX12_liveValues_74 : decode cX12_liveValues 74 = .ok (.iload_n 2, 1) := by decide +kernel
theorem dX12_liveValues_75 : decode cX12_liveValues 75 = .ok (.aload_n 0, 1) := by decide +kernel
theorem dX12_liveValues_76 : decode cX12_liveValues 76 = .ok (.getfield 596, 3) := by decide +kernel
theorem dX12_liveValues_79 : decode cX12_liveValues 79 = .ok (.if_icmp .ge 42, 3) := by decide +kernel
theorem dX12_liveValues_82 : decode cX12_liveValues 82 = .ok (.aload_n 0, 1) := by decide +kernel
theorem dX12_liveValues_83 : decode cX12_liveValues 83 = .ok (.getfield 202, 3) := by decide +kernel
theorem dX12_liveValues_86 : decode cX12_liveValues 86 = .ok (.aload_n 0, 1) := by decide +kernel
theorem dX12_liveValues_87 : decode cX12_liveValues 87 = .ok (.getfield 205, 3) := by decide +kernel
theorem dX12_liveValues_90 : decode cX12_liveValues 90 = .ok (.iload_n 2, 1) := by decide +kernel
theorem dX12_liveValues_91 : decode cX12_liveValues 91 = .ok (.iaload, 1) := by decide +kernel
theorem dX12_liveValues_92 : decode cX12_liveValues 92 = .ok (.baload, 1) := by decide +kernel
theorem dX12_liveValues_93 : decode cX12_liveValues 93 = .ok (.ifCond .ne 10, 3) := by decide +kernel
theorem dX12_liveValues_96 : decode cX12_liveValues 96 = .ok (.aload_n 0, 1) := by decide +kernel
theorem dX12_liveValues_97 : decode cX12_liveValues 97 = .ok (.getfield 223, 3) := by decide +kernel
theorem dX12_liveValues_100 : decode cX12_liveValues 100 = .ok (.iload_n 2, 1) := by decide +kernel
theorem dX12_liveValues_101 : decode cX12_liveValues 101 = .ok (.iconst 0, 1) := by decide +kernel
theorem dX12_liveValues_102 : decode cX12_liveValues 102 = .ok (.bastore, 1) := by decide +kernel
theorem dX12_liveValues_103 : decode cX12_liveValues 103 = .ok (.aload_n 0, 1) := by decide +kernel
theorem dX12_liveValues_104 : decode cX12_liveValues 104 = .ok (.getfield 223, 3) := by decide +kernel
theorem dX12_liveValues_107 : decode cX12_liveValues 107 = .ok (.iload_n 2, 1) := by decide +kernel
theorem dX12_liveValues_108 : decode cX12_liveValues 108 = .ok (.baload, 1) := by decide +kernel
theorem dX12_liveValues_109 : decode cX12_liveValues 109 = .ok (.ifCond .eq 6, 3) := by decide +kernel
theorem dX12_liveValues_112 : decode cX12_liveValues 112 = .ok (.iinc 1 1, 3) := by decide +kernel
theorem dX12_liveValues_115 : decode cX12_liveValues 115 = .ok (.iinc 2 1, 3) := by decide +kernel
theorem dX12_liveValues_118 : decode cX12_liveValues 118 = .ok (.goto (-44), 3) := by decide +kernel
theorem dX12_liveValues_121 : decode cX12_liveValues 121 = .ok (.iload_n 1, 1) := by decide +kernel
theorem dX12_liveValues_122 : decode cX12_liveValues 122 = .ok (.ireturn, 1) := by decide +kernel
theorem dX12_liveBytes_0 : decode cX12_liveBytes 0 = .ok (.iconst 0, 1) := by decide +kernel
theorem dX12_liveBytes_1 : decode cX12_liveBytes 1 = .ok (.istore_n 1, 1) := by decide +kernel
theorem dX12_liveBytes_2 : decode cX12_liveBytes 2 = .ok (.iconst 0, 1) := by decide +kernel
theorem dX12_liveBytes_3 : decode cX12_liveBytes 3 = .ok (.istore_n 2, 1) := by decide +kernel
theorem dX12_liveBytes_4 : decode cX12_liveBytes 4 = .ok (.iload_n 2, 1) := by decide +kernel
theorem dX12_liveBytes_5 : decode cX12_liveBytes 5 = .ok (.aload_n 0, 1) := by decide +kernel
theorem dX12_liveBytes_6 : decode cX12_liveBytes 6 = .ok (.getfield 596, 3) := by decide +kernel
theorem dX12_liveBytes_9 : decode cX12_liveBytes 9 = .ok (.if_icmp .ge 27, 3) := by decide +kernel
theorem dX12_liveBytes_12 : decode cX12_liveBytes 12 = .ok (.aload_n 0, 1) := by decide +kernel
theorem dX12_liveBytes_13 : decode cX12_liveBytes 13 = .ok (.getfield 223, 3) := by decide +kernel
theorem dX12_liveBytes_16 : decode cX12_liveBytes 16 = .ok (.iload_n 2, 1) := by decide +kernel
theorem dX12_liveBytes_17 : decode cX12_liveBytes 17 = .ok (.baload, 1) := by decide +kernel
theorem dX12_liveBytes_18 : decode cX12_liveBytes 18 = .ok (.ifCond .eq 12, 3) := by decide +kernel
theorem dX12_liveBytes_21 : decode cX12_liveBytes 21 = .ok (.iload_n 1, 1) := by decide +kernel
theorem dX12_liveBytes_22 : decode cX12_liveBytes 22 = .ok (.aload_n 0, 1) := by decide +kernel
theorem dX12_liveBytes_23 : decode cX12_liveBytes 23 = .ok (.getfield 217, 3) := by decide +kernel
theorem dX12_liveBytes_26 : decode cX12_liveBytes 26 = .ok (.iload_n 2, 1) := by decide +kernel
theorem dX12_liveBytes_27 : decode cX12_liveBytes 27 = .ok (.iaload, 1) := by decide +kernel
theorem dX12_liveBytes_28 : decode cX12_liveBytes 28 = .ok (.iadd, 1) := by decide +kernel
theorem dX12_liveBytes_29 : decode cX12_liveBytes 29 = .ok (.istore_n 1, 1) := by decide +kernel
theorem dX12_liveBytes_30 : decode cX12_liveBytes 30 = .ok (.iinc 2 1, 3) := by decide +kernel
theorem dX12_liveBytes_33 : decode cX12_liveBytes 33 = .ok (.goto (-29), 3) := by decide +kernel
theorem dX12_liveBytes_36 : decode cX12_liveBytes 36 = .ok (.iconst 0, 1) := by decide +kernel
theorem dX12_liveBytes_37 : decode cX12_liveBytes 37 = .ok (.istore_n 2, 1) := by decide +kernel
theorem dX12_liveBytes_38 : decode cX12_liveBytes 38 = .ok (.iload_n 2, 1) := by decide +kernel
theorem dX12_liveBytes_39 : decode cX12_liveBytes 39 = .ok (.aload_n 0, 1) := by decide +kernel
theorem dX12_liveBytes_40 : decode cX12_liveBytes 40 = .ok (.getfield 599, 3) := by decide +kernel
theorem dX12_liveBytes_43 : decode cX12_liveBytes 43 = .ok (.if_icmp .ge 32, 3) := by decide +kernel
theorem dX12_liveBytes_46 : decode cX12_liveBytes 46 = .ok (.aload_n 0, 1) := by decide +kernel
theorem dX12_liveBytes_47 : decode cX12_liveBytes 47 = .ok (.getfield 202, 3) := by decide +kernel
theorem dX12_liveBytes_50 : decode cX12_liveBytes 50 = .ok (.aload_n 0, 1) := by decide +kernel
theorem dX12_liveBytes_51 : decode cX12_liveBytes 51 = .ok (.getfield 226, 3) := by decide +kernel
theorem dX12_liveBytes_54 : decode cX12_liveBytes 54 = .ok (.iload_n 2, 1) := by decide +kernel
theorem dX12_liveBytes_55 : decode cX12_liveBytes 55 = .ok (.iaload, 1) := by decide +kernel
theorem dX12_liveBytes_56 : decode cX12_liveBytes 56 = .ok (.baload, 1) := by decide +kernel
theorem dX12_liveBytes_57 : decode cX12_liveBytes 57 = .ok (.ifCond .eq 12, 3) := by decide +kernel
theorem dX12_liveBytes_60 : decode cX12_liveBytes 60 = .ok (.iload_n 1, 1) := by decide +kernel
theorem dX12_liveBytes_61 : decode cX12_liveBytes 61 = .ok (.aload_n 0, 1) := by decide +kernel
theorem dX12_liveBytes_62 : decode cX12_liveBytes 62 = .ok (.getfield 232, 3) := by decide +kernel
theorem dX12_liveBytes_65 : decode cX12_liveBytes 65 = .ok (.iload_n 2, 1) := by decide +kernel
theorem dX12_liveBytes_66 : decode cX12_liveBytes 66 = .ok (.iaload, 1) := by decide +kernel
theorem dX12_liveBytes_67 : decode cX12_liveBytes 67 = .ok (.iadd, 1) := by decide +kernel
theorem dX12_liveBytes_68 : decode cX12_liveBytes 68 = .ok (.istore_n 1, 1) := by decide +kernel
theorem dX12_liveBytes_69 : decode cX12_liveBytes 69 = .ok (.iinc 2 1, 3) := by decide +kernel
theorem dX12_liveBytes_72 : decode cX12_liveBytes 72 = .ok (.goto (-34), 3) := by decide +kernel
theorem dX12_liveBytes_75 : decode cX12_liveBytes 75 = .ok (.iload_n 1, 1) := by decide +kernel
theorem dX12_liveBytes_76 : decode cX12_liveBytes 76 = .ok (.ireturn, 1) := by decide +kernel
theorem dX12_finish_0 : decode cX12_finish 0 = .ok (.aload_n 0, 1) := by decide +kernel
theorem dX12_finish_1 : decode cX12_finish 1 = .ok (.aload_n 0, 1) := by decide +kernel
theorem dX12_finish_2 : decode cX12_finish 2 = .ok (.getfield 590, 3) := by decide +kernel
theorem dX12_finish_5 : decode cX12_finish 5 = .ok (.ifCond .eq 7, 3) := by decide +kernel
theorem dX12_finish_8 : decode cX12_finish 8 = .ok (.iconst 1, 1) := by decide +kernel
theorem dX12_finish_9 : decode cX12_finish 9 = .ok (.goto 4, 3) := by decide +kernel
theorem dX12_finish_12 : decode cX12_finish 12 = .ok (.iconst 0, 1) := by decide +kernel
theorem dX12_finish_13 : decode cX12_finish 13 = .ok (.putfield 265, 3) := by decide +kernel
theorem dX12_finish_16 : decode cX12_finish 16 = .ok (.aload_n 0, 1) := by decide +kernel
theorem dX12_finish_17 : decode cX12_finish 17 = .ok (.getfield 265, 3) := by decide +kernel
theorem dX12_finish_20 : decode cX12_finish 20 = .ok (.ifCond .eq 5, 3) := by decide +kernel
theorem dX12_finish_23 : decode cX12_finish 23 = .ok (.iconst 0, 1) := by decide +kernel
theorem dX12_finish_24 : decode cX12_finish 24 = .ok (.ireturn, 1) := by decide +kernel
theorem dX12_finish_25 : decode cX12_finish 25 = .ok (.aload_n 0, 1) := by decide +kernel
theorem dX12_finish_26 : decode cX12_finish 26 = .ok (.invokevirtual 627, 3) := by decide +kernel
theorem dX12_finish_29 : decode cX12_finish 29 = .ok (.istore_n 1, 1) := by decide +kernel
theorem dX12_finish_30 : decode cX12_finish 30 = .ok (.aload_n 0, 1) := by decide +kernel
theorem dX12_finish_31 : decode cX12_finish 31 = .ok (.iload_n 1, 1) := by decide +kernel
theorem dX12_finish_32 : decode cX12_finish 32 = .ok (.sipush 200, 3) := by decide +kernel
theorem dX12_finish_35 : decode cX12_finish 35 = .ok (.if_icmp .gt 13, 3) := by decide +kernel
theorem dX12_finish_38 : decode cX12_finish 38 = .ok (.aload_n 0, 1) := by decide +kernel
theorem dX12_finish_39 : decode cX12_finish 39 = .ok (.invokevirtual 630, 3) := by decide +kernel
theorem dX12_finish_42 : decode cX12_finish 42 = .ok (.sipush 1000, 3) := by decide +kernel
theorem dX12_finish_45 : decode cX12_finish 45 = .ok (.if_icmp .le 7, 3) := by decide +kernel
theorem dX12_finish_48 : decode cX12_finish 48 = .ok (.iconst 2, 1) := by decide +kernel
theorem dX12_finish_49 : decode cX12_finish 49 = .ok (.goto 4, 3) := by decide +kernel
theorem dX12_finish_52 : decode cX12_finish 52 = .ok (.iconst 0, 1) := by decide +kernel
theorem dX12_finish_53 : decode cX12_finish 53 = .ok (.putfield 265, 3) := by decide +kernel
theorem dX12_finish_56 : decode cX12_finish 56 = .ok (.aload_n 0, 1) := by decide +kernel
theorem dX12_finish_57 : decode cX12_finish 57 = .ok (.getfield 265, 3) := by decide +kernel
theorem dX12_finish_60 : decode cX12_finish 60 = .ok (.ifCond .eq 5, 3) := by decide +kernel
theorem dX12_finish_63 : decode cX12_finish 63 = .ok (.iconst 0, 1) := by decide +kernel
theorem dX12_finish_64 : decode cX12_finish 64 = .ok (.ireturn, 1) := by decide +kernel
theorem dX12_finish_65 : decode cX12_finish 65 = .ok (.aload_n 0, 1) := by decide +kernel
theorem dX12_finish_66 : decode cX12_finish 66 = .ok (.iconst 1, 1) := by decide +kernel
theorem dX12_finish_67 : decode cX12_finish 67 = .ok (.putfield 551, 3) := by decide +kernel
theorem dX12_finish_70 : decode cX12_finish 70 = .ok (.iload_n 1, 1) := by decide +kernel
theorem dX12_finish_71 : decode cX12_finish 71 = .ok (.ireturn, 1) := by decide +kernel
theorem dX12_decode_0 : decode cX12_decode 0 = .ok (.aload_n 0, 1) := by decide +kernel
theorem dX12_decode_1 : decode cX12_decode 1 = .ok (.iload_n 1, 1) := by decide +kernel
theorem dX12_decode_2 : decode cX12_decode 2 = .ok (.iload_n 2, 1) := by decide +kernel
theorem dX12_decode_3 : decode cX12_decode 3 = .ok (.iload_n 3, 1) := by decide +kernel
theorem dX12_decode_4 : decode cX12_decode 4 = .ok (.invokevirtual 688, 3) := by decide +kernel
theorem dX12_decode_7 : decode cX12_decode 7 = .ok (.ifCond .ne 5, 3) := by decide +kernel
theorem dX12_decode_10 : decode cX12_decode 10 = .ok (.iconst 0, 1) := by decide +kernel
theorem dX12_decode_11 : decode cX12_decode 11 = .ok (.ireturn, 1) := by decide +kernel
theorem dX12_decode_12 : decode cX12_decode 12 = .ok (.aload_n 0, 1) := by decide +kernel
theorem dX12_decode_13 : decode cX12_decode 13 = .ok (.iconst 0, 1) := by decide +kernel
theorem dX12_decode_14 : decode cX12_decode 14 = .ok (.putfield 636, 3) := by decide +kernel
theorem dX12_decode_17 : decode cX12_decode 17 = .ok (.aload_n 0, 1) := by decide +kernel
theorem dX12_decode_18 : decode cX12_decode 18 = .ok (.getfield 238, 3) := by decide +kernel
theorem dX12_decode_21 : decode cX12_decode 21 = .ok (.iconst 0, 1) := by decide +kernel
theorem dX12_decode_22 : decode cX12_decode 22 = .ok (.iconst 0, 1) := by decide +kernel
theorem dX12_decode_23 : decode cX12_decode 23 = .ok (.iastore, 1) := by decide +kernel
theorem dX12_decode_24 : decode cX12_decode 24 = .ok (.aload_n 0, 1) := by decide +kernel
theorem dX12_decode_25 : decode cX12_decode 25 = .ok (.getfield 241, 3) := by decide +kernel
theorem dX12_decode_28 : decode cX12_decode 28 = .ok (.iconst 0, 1) := by decide +kernel
theorem dX12_decode_29 : decode cX12_decode 29 = .ok (.aload_n 0, 1) := by decide +kernel
theorem dX12_decode_30 : decode cX12_decode 30 = .ok (.getfield 274, 3) := by decide +kernel
theorem dX12_decode_33 : decode cX12_decode 33 = .ok (.iastore, 1) := by decide +kernel
theorem dX12_decode_34 : decode cX12_decode 34 = .ok (.aload_n 0, 1) := by decide +kernel
theorem dX12_decode_35 : decode cX12_decode 35 = .ok (.iconst 1, 1) := by decide +kernel
theorem dX12_decode_36 : decode cX12_decode 36 = .ok (.putfield 650, 3) := by decide +kernel
theorem dX12_decode_39 : decode cX12_decode 39 = .ok (.aload_n 0, 1) := by decide +kernel
theorem dX12_decode_40 : decode cX12_decode 40 = .ok (.getfield 650, 3) := by decide +kernel
theorem dX12_decode_43 : decode cX12_decode 43 = .ok (.ifCond .le 65, 3) := by decide +kernel
theorem dX12_decode_46 : decode cX12_decode 46 = .ok (.aload_n 0, 1) := by decide +kernel
theorem dX12_decode_47 : decode cX12_decode 47 = .ok (.getfield 590, 3) := by decide +kernel
theorem dX12_decode_50 : decode cX12_decode 50 = .ok (.ifCond .ne 58, 3) := by decide +kernel
theorem dX12_decode_53 : decode cX12_decode 53 = .ok (.aload_n 0, 1) := by decide +kernel
theorem dX12_decode_54 : decode cX12_decode 54 = .ok (.getfield 241, 3) := by decide +kernel
theorem dX12_decode_57 : decode cX12_decode 57 = .ok (.aload_n 0, 1) := by decide +kernel
theorem dX12_decode_58 : decode cX12_decode 58 = .ok (.getfield 650, 3) := by decide +kernel
theorem dX12_decode_61 : decode cX12_decode 61 = .ok (.iconst 1, 1) := by decide +kernel
theorem dX12_decode_62 : decode cX12_decode 62 = .ok (.isub, 1) := by decide +kernel
theorem dX12_decode_63 : decode cX12_decode 63 = .ok (.iaload, 1) := by decide +kernel
theorem dX12_decode_64 : decode cX12_decode 64 = .ok (.istore 4, 2) := by decide +kernel
theorem dX12_decode_66 : decode cX12_decode 66 = .ok (.aload_n 0, 1) := by decide +kernel
theorem dX12_decode_67 : decode cX12_decode 67 = .ok (.getfield 636, 3) := by decide +kernel
theorem dX12_decode_70 : decode cX12_decode 70 = .ok (.iload 4, 2) := by decide +kernel
theorem dX12_decode_72 : decode cX12_decode 72 = .ok (.if_icmp .ne 16, 3) := by decide +kernel
theorem dX12_decode_75 : decode cX12_decode 75 = .ok (.aload_n 0, 1) := by decide +kernel
theorem dX12_decode_76 : decode cX12_decode 76 = .ok (.dup, 1) := by decide +kernel
theorem dX12_decode_77 : decode cX12_decode 77 = .ok (.getfield 650, 3) := by decide +kernel
theorem dX12_decode_80 : decode cX12_decode 80 = .ok (.iconst 1, 1) := by decide +kernel
theorem dX12_decode_81 : decode cX12_decode 81 = .ok (.isub, 1) := by decide +kernel
theorem dX12_decode_82 : decode cX12_decode 82 = .ok (.putfield 650, 3) := by decide +kernel
theorem dX12_decode_85 : decode cX12_decode 85 = .ok (.goto 20, 3) := by decide +kernel
theorem dX12_decode_88 : decode cX12_decode 88 = .ok (.aload_n 0, 1) := by decide +kernel
theorem dX12_decode_89 : decode cX12_decode 89 = .ok (.aload_n 0, 1) := by decide +kernel
theorem dX12_decode_90 : decode cX12_decode 90 = .ok (.getfield 238, 3) := by decide +kernel
theorem dX12_decode_93 : decode cX12_decode 93 = .ok (.aload_n 0, 1) := by decide +kernel
theorem dX12_decode_94 : decode cX12_decode 94 = .ok (.getfield 650, 3) := by decide +kernel
theorem dX12_decode_97 : decode cX12_decode 97 = .ok (.iconst 1, 1) := by decide +kernel
theorem dX12_decode_98 : decode cX12_decode 98 = .ok (.isub, 1) := by decide +kernel
theorem dX12_decode_99 : decode cX12_decode 99 = .ok (.iaload, 1) := by decide +kernel
theorem dX12_decode_100 : decode cX12_decode 100 = .ok (.iload 4, 2) := by decide +kernel
theorem dX12_decode_102 : decode cX12_decode 102 = .ok (.invokevirtual 691, 3) := by decide +kernel
theorem dX12_decode_105 : decode cX12_decode 105 = .ok (.goto (-66), 3) := by decide +kernel
theorem dX12_decode_108 : decode cX12_decode 108 = .ok (.aload_n 0, 1) := by decide +kernel
theorem dX12_decode_109 : decode cX12_decode 109 = .ok (.invokevirtual 694, 3) := by decide +kernel
theorem dX12_decode_112 : decode cX12_decode 112 = .ok (.ireturn, 1) := by decide +kernel
theorem dX12_tagOf_0 : decode cX12_tagOf 0 = .ok (.aload_n 0, 1) := by decide +kernel
theorem dX12_tagOf_1 : decode cX12_tagOf 1 = .ok (.getfield 59, 3) := by decide +kernel
theorem dX12_tagOf_4 : decode cX12_tagOf 4 = .ok (.iload_n 1, 1) := by decide +kernel
theorem dX12_tagOf_5 : decode cX12_tagOf 5 = .ok (.iaload, 1) := by decide +kernel
theorem dX12_tagOf_6 : decode cX12_tagOf 6 = .ok (.i2l, 1) := by decide +kernel
theorem dX12_tagOf_7 : decode cX12_tagOf 7 = .ok (.iconst 3, 1) := by decide +kernel
theorem dX12_tagOf_8 : decode cX12_tagOf 8 = .ok (.lshl, 1) := by decide +kernel
theorem dX12_tagOf_9 : decode cX12_tagOf 9 = .ok (.iload_n 2, 1) := by decide +kernel
theorem dX12_tagOf_10 : decode cX12_tagOf 10 = .ok (.i2l, 1) := by decide +kernel
theorem dX12_tagOf_11 : decode cX12_tagOf 11 = .ok (.lor, 1) := by decide +kernel
theorem dX12_tagOf_12 : decode cX12_tagOf 12 = .ok (.lreturn, 1) := by decide +kernel
theorem dX12_varintBytes_0 : decode cX12_varintBytes 0 = .ok (.iconst 1, 1) := by decide +kernel
theorem dX12_varintBytes_1 : decode cX12_varintBytes 1 = .ok (.istore_n 2, 1) := by decide +kernel
theorem dX12_varintBytes_2 : decode cX12_varintBytes 2 = .ok (.lload_n 0, 1) := by decide +kernel
theorem dX12_varintBytes_3 : decode cX12_varintBytes 3 = .ok (.bipush 7, 2) := by decide +kernel
theorem dX12_varintBytes_5 : decode cX12_varintBytes 5 = .ok (.lushr, 1) := by decide +kernel
theorem dX12_varintBytes_6 : decode cX12_varintBytes 6 = .ok (.lstore_n 3, 1) := by decide +kernel
theorem dX12_varintBytes_7 : decode cX12_varintBytes 7 = .ok (.lload_n 3, 1) := by decide +kernel
theorem dX12_varintBytes_8 : decode cX12_varintBytes 8 = .ok (.lconst 0, 1) := by decide +kernel
theorem dX12_varintBytes_9 : decode cX12_varintBytes 9 = .ok (.lcmp, 1) := by decide +kernel
theorem dX12_varintBytes_10 : decode cX12_varintBytes 10 = .ok (.ifCond .eq 14, 3) := by decide +kernel
theorem dX12_varintBytes_13 : decode cX12_varintBytes 13 = .ok (.iinc 2 1, 3) := by decide +kernel
theorem dX12_varintBytes_16 : decode cX12_varintBytes 16 = .ok (.lload_n 3, 1) := by decide +kernel
theorem dX12_varintBytes_17 : decode cX12_varintBytes 17 = .ok (.bipush 7, 2) := by decide +kernel
theorem dX12_varintBytes_19 : decode cX12_varintBytes 19 = .ok (.lushr, 1) := by decide +kernel
theorem dX12_varintBytes_20 : decode cX12_varintBytes 20 = .ok (.lstore_n 3, 1) := by decide +kernel
theorem dX12_varintBytes_21 : decode cX12_varintBytes 21 = .ok (.goto (-14), 3) := by decide +kernel
theorem dX12_varintBytes_24 : decode cX12_varintBytes 24 = .ok (.iload_n 2, 1) := by decide +kernel
theorem dX12_varintBytes_25 : decode cX12_varintBytes 25 = .ok (.ireturn, 1) := by decide +kernel
theorem dX12_varintOf_0 : decode cX12_varintOf 0 = .ok (.iload_n 0, 1) := by decide +kernel
theorem dX12_varintOf_1 : decode cX12_varintOf 1 = .ok (.iconst 4, 1) := by decide +kernel
theorem dX12_varintOf_2 : decode cX12_varintOf 2 = .ok (.if_icmp .ne 19, 3) := by decide +kernel
theorem dX12_varintOf_5 : decode cX12_varintOf 5 = .ok (.lload_n 1, 1) := by decide +kernel
theorem dX12_varintOf_6 : decode cX12_varintOf 6 = .ok (.l2i, 1) := by decide +kernel
theorem dX12_varintOf_7 : decode cX12_varintOf 7 = .ok (.iconst 1, 1) := by decide +kernel
theorem dX12_varintOf_8 : decode cX12_varintOf 8 = .ok (.ishl, 1) := by decide +kernel
theorem dX12_varintOf_9 : decode cX12_varintOf 9 = .ok (.lload_n 1, 1) := by decide +kernel
theorem dX12_varintOf_10 : decode cX12_varintOf 10 = .ok (.l2i, 1) := by decide +kernel
theorem dX12_varintOf_11 : decode cX12_varintOf 11 = .ok (.bipush 31, 2) := by decide +kernel
theorem dX12_varintOf_13 : decode cX12_varintOf 13 = .ok (.ishr, 1) := by decide +kernel
theorem dX12_varintOf_14 : decode cX12_varintOf 14 = .ok (.ixor, 1) := by decide +kernel
theorem dX12_varintOf_15 : decode cX12_varintOf 15 = .ok (.i2l, 1) := by decide +kernel
theorem dX12_varintOf_16 : decode cX12_varintOf 16 = .ok (.ldc2_w 639, 3) := by decide +kernel
theorem dX12_varintOf_19 : decode cX12_varintOf 19 = .ok (.land, 1) := by decide +kernel
theorem dX12_varintOf_20 : decode cX12_varintOf 20 = .ok (.lreturn, 1) := by decide +kernel
theorem dX12_varintOf_21 : decode cX12_varintOf 21 = .ok (.iload_n 0, 1) := by decide +kernel
theorem dX12_varintOf_22 : decode cX12_varintOf 22 = .ok (.iconst 5, 1) := by decide +kernel
theorem dX12_varintOf_23 : decode cX12_varintOf 23 = .ok (.if_icmp .ne 14, 3) := by decide +kernel
theorem dX12_varintOf_26 : decode cX12_varintOf 26 = .ok (.lload_n 1, 1) := by decide +kernel
theorem dX12_varintOf_27 : decode cX12_varintOf 27 = .ok (.iconst 1, 1) := by decide +kernel
theorem dX12_varintOf_28 : decode cX12_varintOf 28 = .ok (.lshl, 1) := by decide +kernel
theorem dX12_varintOf_29 : decode cX12_varintOf 29 = .ok (.lload_n 1, 1) := by decide +kernel
theorem dX12_varintOf_30 : decode cX12_varintOf 30 = .ok (.bipush 63, 2) := by decide +kernel
theorem dX12_varintOf_32 : decode cX12_varintOf 32 = .ok (.lshr, 1) := by decide +kernel
theorem dX12_varintOf_33 : decode cX12_varintOf 33 = .ok (.lxor, 1) := by decide +kernel
theorem dX12_varintOf_34 : decode cX12_varintOf 34 = .ok (.goto 4, 3) := by decide +kernel
theorem dX12_varintOf_37 : decode cX12_varintOf 37 = .ok (.lload_n 1, 1) := by decide +kernel
theorem dX12_varintOf_38 : decode cX12_varintOf 38 = .ok (.lreturn, 1) := by decide +kernel
theorem dX12_kindBytes_0 : decode cX12_kindBytes 0 = .ok (.iload_n 0, 1) := by decide +kernel
theorem dX12_kindBytes_1 : decode cX12_kindBytes 1 = .ok (.invokestatic 653, 3) := by decide +kernel
theorem dX12_kindBytes_4 : decode cX12_kindBytes 4 = .ok (.istore_n 3, 1) := by decide +kernel
theorem dX12_kindBytes_5 : decode cX12_kindBytes 5 = .ok (.iload_n 3, 1) := by decide +kernel
theorem dX12_kindBytes_6 : decode cX12_kindBytes 6 = .ok (.iconst 1, 1) := by decide +kernel
theorem dX12_kindBytes_7 : decode cX12_kindBytes 7 = .ok (.if_icmp .ne 8, 3) := by decide +kernel
theorem dX12_kindBytes_10 : decode cX12_kindBytes 10 = .ok (.bipush 8, 2) := by decide +kernel
theorem dX12_kindBytes_12 : decode cX12_kindBytes 12 = .ok (.goto 20, 3) := by decide +kernel
theorem dX12_kindBytes_15 : decode cX12_kindBytes 15 = .ok (.iload_n 3, 1) := by decide +kernel
theorem dX12_kindBytes_16 : decode cX12_kindBytes 16 = .ok (.iconst 5, 1) := by decide +kernel
theorem dX12_kindBytes_17 : decode cX12_kindBytes 17 = .ok (.if_icmp .ne 7, 3) := by decide +kernel
theorem dX12_kindBytes_20 : decode cX12_kindBytes 20 = .ok (.iconst 4, 1) := by decide +kernel
theorem dX12_kindBytes_21 : decode cX12_kindBytes 21 = .ok (.goto 11, 3) := by decide +kernel
theorem dX12_kindBytes_24 : decode cX12_kindBytes 24 = .ok (.iload_n 0, 1) := by decide +kernel
theorem dX12_kindBytes_25 : decode cX12_kindBytes 25 = .ok (.lload_n 1, 1) := by decide +kernel
theorem dX12_kindBytes_26 : decode cX12_kindBytes 26 = .ok (.invokestatic 707, 3) := by decide +kernel
theorem dX12_kindBytes_29 : decode cX12_kindBytes 29 = .ok (.invokestatic 710, 3) := by decide +kernel
theorem dX12_kindBytes_32 : decode cX12_kindBytes 32 = .ok (.ireturn, 1) := by decide +kernel
theorem dX12_rowBytes_0 : decode cX12_rowBytes 0 = .ok (.aload_n 0, 1) := by decide +kernel
theorem dX12_rowBytes_1 : decode cX12_rowBytes 1 = .ok (.getfield 208, 3) := by decide +kernel
theorem dX12_rowBytes_4 : decode cX12_rowBytes 4 = .ok (.iload_n 1, 1) := by decide +kernel
theorem dX12_rowBytes_5 : decode cX12_rowBytes 5 = .ok (.iaload, 1) := by decide +kernel
theorem dX12_rowBytes_6 : decode cX12_rowBytes 6 = .ok (.istore_n 2, 1) := by decide +kernel
theorem dX12_rowBytes_7 : decode cX12_rowBytes 7 = .ok (.aload_n 0, 1) := by decide +kernel
theorem dX12_rowBytes_8 : decode cX12_rowBytes 8 = .ok (.iload_n 2, 1) := by decide +kernel
theorem dX12_rowBytes_9 : decode cX12_rowBytes 9 = .ok (.aload_n 0, 1) := by decide +kernel
theorem dX12_rowBytes_10 : decode cX12_rowBytes 10 = .ok (.getfield 62, 3) := by decide +kernel
theorem dX12_rowBytes_13 : decode cX12_rowBytes 13 = .ok (.iload_n 2, 1) := by decide +kernel
theorem dX12_rowBytes_14 : decode cX12_rowBytes 14 = .ok (.iaload, 1) := by decide +kernel
theorem dX12_rowBytes_15 : decode cX12_rowBytes 15 = .ok (.invokestatic 653, 3) := by decide +kernel
theorem dX12_rowBytes_18 : decode cX12_rowBytes 18 = .ok (.invokevirtual 720, 3) := by decide +kernel
theorem dX12_rowBytes_21 : decode cX12_rowBytes 21 = .ok (.invokestatic 710, 3) := by decide +kernel
theorem dX12_rowBytes_24 : decode cX12_rowBytes 24 = .ok (.istore_n 3, 1) := by decide +kernel
theorem dX12_rowBytes_25 : decode cX12_rowBytes 25 = .ok (.aload_n 0, 1) := by decide +kernel
theorem dX12_rowBytes_26 : decode cX12_rowBytes 26 = .ok (.getfield 62, 3) := by decide +kernel
theorem dX12_rowBytes_29 : decode cX12_rowBytes 29 = .ok (.iload_n 2, 1) := by decide +kernel
theorem dX12_rowBytes_30 : decode cX12_rowBytes 30 = .ok (.iaload, 1) := by decide +kernel
theorem dX12_rowBytes_31 : decode cX12_rowBytes 31 = .ok (.invokestatic 653, 3) := by decide +kernel
theorem dX12_rowBytes_34 : decode cX12_rowBytes 34 = .ok (.iconst 2, 1) := by decide +kernel
theorem dX12_rowBytes_35 : decode cX12_rowBytes 35 = .ok (.if_icmp .eq 21, 3) := by decide +kernel
theorem dX12_rowBytes_38 : decode cX12_rowBytes 38 = .ok (.iload_n 3, 1) := by decide +kernel
theorem dX12_rowBytes_39 : decode cX12_rowBytes 39 = .ok (.aload_n 0, 1) := by decide +kernel
theorem dX12_rowBytes_40 : decode cX12_rowBytes 40 = .ok (.getfield 62, 3) := by decide +kernel
theorem dX12_rowBytes_43 : decode cX12_rowBytes 43 = .ok (.iload_n 2, 1) := by decide +kernel
theorem dX12_rowBytes_44 : decode cX12_rowBytes 44 = .ok (.iaload, 1) := by decide +kernel
theorem dX12_rowBytes_45 : decode cX12_rowBytes 45 = .ok (.aload_n 0, 1) := by decide +kernel
theorem dX12_rowBytes_46 : decode cX12_rowBytes 46 = .ok (.getfield 211, 3) := by decide +kernel
theorem dX12_rowBytes_49 : decode cX12_rowBytes 49 = .ok (.iload_n 1, 1) := by decide +kernel
theorem dX12_rowBytes_50 : decode cX12_rowBytes 50 = .ok (.laload, 1) := by decide +kernel
theorem dX12_rowBytes_51 : decode cX12_rowBytes 51 = .ok (.invokestatic 716, 3) := by decide +kernel
theorem dX12_rowBytes_54 : decode cX12_rowBytes 54 = .ok (.iadd, 1) := by decide +kernel
theorem dX12_rowBytes_55 : decode cX12_rowBytes 55 = .ok (.ireturn, 1) := by decide +kernel
theorem dX12_rowBytes_56 : decode cX12_rowBytes 56 = .ok (.aload_n 0, 1) := by decide +kernel
theorem dX12_rowBytes_57 : decode cX12_rowBytes 57 = .ok (.getfield 62, 3) := by decide +kernel
theorem dX12_rowBytes_60 : decode cX12_rowBytes 60 = .ok (.iload_n 2, 1) := by decide +kernel
theorem dX12_rowBytes_61 : decode cX12_rowBytes 61 = .ok (.iaload, 1) := by decide +kernel
theorem dX12_rowBytes_62 : decode cX12_rowBytes 62 = .ok (.bipush 13, 2) := by decide +kernel
theorem dX12_rowBytes_64 : decode cX12_rowBytes 64 = .ok (.if_icmp .ne 17, 3) := by decide +kernel
theorem dX12_rowBytes_67 : decode cX12_rowBytes 67 = .ok (.aload_n 0, 1) := by decide +kernel
theorem dX12_rowBytes_68 : decode cX12_rowBytes 68 = .ok (.getfield 199, 3) := by decide +kernel
theorem dX12_rowBytes_71 : decode cX12_rowBytes 71 = .ok (.aload_n 0, 1) := by decide +kernel
theorem dX12_rowBytes_72 : decode cX12_rowBytes 72 = .ok (.getfield 220, 3) := by decide +kernel
theorem dX12_rowBytes_75 : decode cX12_rowBytes 75 = .ok (.iload_n 1, 1) := by decide +kernel
theorem dX12_rowBytes_76 : decode cX12_rowBytes 76 = .ok (.iaload, 1) := by decide +kernel
theorem dX12_rowBytes_77 : decode cX12_rowBytes 77 = .ok (.iaload, 1) := by decide +kernel
theorem dX12_rowBytes_78 : decode cX12_rowBytes 78 = .ok (.goto 9, 3) := by decide +kernel
theorem dX12_rowBytes_81 : decode cX12_rowBytes 81 = .ok (.aload_n 0, 1) := by decide +kernel
theorem dX12_rowBytes_82 : decode cX12_rowBytes 82 = .ok (.getfield 217, 3) := by decide +kernel
theorem dX12_rowBytes_85 : decode cX12_rowBytes 85 = .ok (.iload_n 1, 1) := by decide +kernel
theorem dX12_rowBytes_86 : decode cX12_rowBytes 86 = .ok (.iaload, 1) := by decide +kernel
theorem dX12_rowBytes_87 : decode cX12_rowBytes 87 = .ok (.istore 4, 2) := by decide +kernel
theorem dX12_rowBytes_89 : decode cX12_rowBytes 89 = .ok (.iload_n 3, 1) := by decide +kernel
theorem dX12_rowBytes_90 : decode cX12_rowBytes 90 = .ok (.iload 4, 2) := by decide +kernel
theorem dX12_rowBytes_92 : decode cX12_rowBytes 92 = .ok (.i2l, 1) := by decide +kernel
theorem dX12_rowBytes_93 : decode cX12_rowBytes 93 = .ok (.invokestatic 710, 3) := by decide +kernel
theorem dX12_rowBytes_96 : decode cX12_rowBytes 96 = .ok (.iadd, 1) := by decide +kernel
theorem dX12_rowBytes_97 : decode cX12_rowBytes 97 = .ok (.iload 4, 2) := by decide +kernel
theorem dX12_rowBytes_99 : decode cX12_rowBytes 99 = .ok (.iadd, 1) := by decide +kernel
theorem dX12_rowBytes_100 : decode cX12_rowBytes 100 = .ok (.ireturn, 1) := by decide +kernel
theorem dX12_packedBytes_0 : decode cX12_packedBytes 0 = .ok (.iconst 0, 1) := by decide +kernel
theorem dX12_packedBytes_1 : decode cX12_packedBytes 1 = .ok (.istore_n 3, 1) := by decide +kernel
theorem dX12_packedBytes_2 : decode cX12_packedBytes 2 = .ok (.iconst 0, 1) := by decide +kernel
theorem dX12_packedBytes_3 : decode cX12_packedBytes 3 = .ok (.istore 4, 2) := by decide +kernel
theorem dX12_packedBytes_5 : decode cX12_packedBytes 5 = .ok (.iload 4, 2) := by decide +kernel
theorem dX12_packedBytes_7 : decode cX12_packedBytes 7 = .ok (.aload_n 0, 1) := by decide +kernel
theorem dX12_packedBytes_8 : decode cX12_packedBytes 8 = .ok (.getfield 596, 3) := by decide +kernel
theorem dX12_packedBytes_11 : decode cX12_packedBytes 11 = .ok (.if_icmp .ge 60, 3) := by decide +kernel
theorem dX12_packedBytes_14 : decode cX12_packedBytes 14 = .ok (.aload_n 0, 1) := by decide +kernel
theorem dX12_packedBytes_15 : decode cX12_packedBytes 15 = .ok (.getfield 223, 3) := by decide +kernel
theorem dX12_packedBytes_18 : decode cX12_packedBytes 18 = .ok (.iload 4, 2) := by decide +kernel
theorem dX12_packedBytes_20 : decode cX12_packedBytes 20 = .ok (.baload, 1) := by decide +kernel
theorem dX12_packedBytes_21 : decode cX12_packedBytes 21 = .ok (.ifCond .eq 44, 3) := by decide +kernel
theorem dX12_packedBytes_24 : decode cX12_packedBytes 24 = .ok (.aload_n 0, 1) := by decide +kernel
theorem dX12_packedBytes_25 : decode cX12_packedBytes 25 = .ok (.getfield 205, 3) := by decide +kernel
theorem dX12_packedBytes_28 : decode cX12_packedBytes 28 = .ok (.iload 4, 2) := by decide +kernel
theorem dX12_packedBytes_30 : decode cX12_packedBytes 30 = .ok (.iaload, 1) := by decide +kernel
theorem dX12_packedBytes_31 : decode cX12_packedBytes 31 = .ok (.iload_n 1, 1) := by decide +kernel
theorem dX12_packedBytes_32 : decode cX12_packedBytes 32 = .ok (.if_icmp .ne 33, 3) := by decide +kernel
theorem dX12_packedBytes_35 : decode cX12_packedBytes 35 = .ok (.aload_n 0, 1) := by decide +kernel
theorem dX12_packedBytes_36 : decode cX12_packedBytes 36 = .ok (.getfield 208, 3) := by decide +kernel
theorem dX12_packedBytes_39 : decode cX12_packedBytes 39 = .ok (.iload 4, 2) := by decide +kernel
theorem dX12_packedBytes_41 : decode cX12_packedBytes 41 = .ok (.iaload, 1) := by decide +kernel
theorem dX12_packedBytes_42 : decode cX12_packedBytes 42 = .ok (.iload_n 2, 1) := by decide +kernel
theorem dX12_packedBytes_43 : decode cX12_packedBytes 43 = .ok (.if_icmp .ne 22, 3) := by decide +kernel
theorem dX12_packedBytes_46 : decode cX12_packedBytes 46 = .ok (.iload_n 3, 1) := by decide +kernel
theorem dX12_packedBytes_47 : decode cX12_packedBytes 47 = .ok (.aload_n 0, 1) := by decide +kernel
theorem dX12_packedBytes_48 : decode cX12_packedBytes 48 = .ok (.getfield 62, 3) := by decide +kernel
theorem dX12_packedBytes_51 : decode cX12_packedBytes 51 = .ok (.iload_n 2, 1) := by decide +kernel
theorem dX12_packedBytes_52 : decode cX12_packedBytes 52 = .ok (.iaload, 1) := by decide +kernel
theorem dX12_packedBytes_53 : decode cX12_packedBytes 53 = .ok (.aload_n 0, 1) := by decide +kernel
theorem dX12_packedBytes_54 : decode cX12_packedBytes 54 = .ok (.getfield 211, 3) := by decide +kernel
theorem dX12_packedBytes_57 : decode cX12_packedBytes 57 = .ok (.iload 4, 2) := by decide +kernel
theorem dX12_packedBytes_59 : decode cX12_packedBytes 59 = .ok (.laload, 1) := by decide +kernel
theorem dX12_packedBytes_60 : decode cX12_packedBytes 60 = .ok (.invokestatic 716, 3) := by decide +kernel
theorem dX12_packedBytes_63 : decode cX12_packedBytes 63 = .ok (.iadd, 1) := by decide +kernel
theorem dX12_packedBytes_64 : decode cX12_packedBytes 64 = .ok (.istore_n 3, 1) := by decide +kernel
theorem dX12_packedBytes_65 : decode cX12_packedBytes 65 = .ok (.iinc 4 1, 3) := by decide +kernel
theorem dX12_packedBytes_68 : decode cX12_packedBytes 68 = .ok (.goto (-63), 3) := by decide +kernel
theorem dX12_packedBytes_71 : decode cX12_packedBytes 71 = .ok (.iload_n 3, 1) := by decide +kernel
theorem dX12_packedBytes_72 : decode cX12_packedBytes 72 = .ok (.ireturn, 1) := by decide +kernel
theorem dX12_measure_0 : decode cX12_measure 0 = .ok (.aload_n 0, 1) := by decide +kernel
theorem dX12_measure_1 : decode cX12_measure 1 = .ok (.getfield 593, 3) := by decide +kernel
theorem dX12_measure_4 : decode cX12_measure 4 = .ok (.iconst 1, 1) := by decide +kernel
theorem dX12_measure_5 : decode cX12_measure 5 = .ok (.isub, 1) := by decide +kernel
theorem dX12_measure_6 : decode cX12_measure 6 = .ok (.istore_n 1, 1) := by decide +kernel
theorem dX12_measure_7 : decode cX12_measure 7 = .ok (.iload_n 1, 1) := by decide +kernel
theorem dX12_measure_8 : decode cX12_measure 8 = .ok (.ifCond .lt 208, 3) := by decide +kernel
theorem dX12_measure_11 : decode cX12_measure 11 = .ok (.iconst 0, 1) := by decide +kernel
theorem dX12_measure_12 : decode cX12_measure 12 = .ok (.istore_n 2, 1) := by decide +kernel
theorem dX12_measure_13 : decode cX12_measure 13 = .ok (.iconst 0, 1) := by decide +kernel
theorem dX12_measure_14 : decode cX12_measure 14 = .ok (.istore_n 3, 1) := by decide +kernel
theorem dX12_measure_15 : decode cX12_measure 15 = .ok (.iload_n 3, 1) := by decide +kernel
theorem dX12_measure_16 : decode cX12_measure 16 = .ok (.aload_n 0, 1) := by decide +kernel
theorem dX12_measure_17 : decode cX12_measure 17 = .ok (.getfield 596, 3) := by decide +kernel
theorem dX12_measure_20 : decode cX12_measure 20 = .ok (.if_icmp .ge 50, 3) := by decide +kernel
theorem dX12_measure_23 : decode cX12_measure 23 = .ok (.aload_n 0, 1) := by decide +kernel
theorem dX12_measure_24 : decode cX12_measure 24 = .ok (.getfield 223, 3) := by decide +kernel
theorem dX12_measure_27 : decode cX12_measure 27 = .ok (.iload_n 3, 1) := by decide +kernel
theorem dX12_measure_28 : decode cX12_measure 28 = .ok (.baload, 1) := by decide +kernel
theorem dX12_measure_29 : decode cX12_measure 29 = .ok (.ifCond .eq 35, 3) := by decide +kernel
theorem dX12_measure_32 : decode cX12_measure 32 = .ok (.aload_n 0, 1) := by decide +kernel
theorem dX12_measure_33 : decode cX12_measure 33 = .ok (.getfield 205, 3) := by decide +kernel
theorem dX12_measure_36 : decode cX12_measure 36 = .ok (.iload_n 3, 1) := by decide +kernel
theorem dX12_measure_37 : decode cX12_measure 37 = .ok (.iaload, 1) := by decide +kernel
theorem dX12_measure_38 : decode cX12_measure 38 = .ok (.iload_n 1, 1) := by decide +kernel
theorem dX12_measure_39 : decode cX12_measure 39 = .ok (.if_icmp .ne 25, 3) := by decide +kernel
theorem dX12_measure_42 : decode cX12_measure 42 = .ok (.aload_n 0, 1) := by decide +kernel
theorem dX12_measure_43 : decode cX12_measure 43 = .ok (.getfield 72, 3) := by decide +kernel
theorem dX12_measure_46 : decode cX12_measure 46 = .ok (.aload_n 0, 1) := by decide +kernel
theorem dX12_measure_47 : decode cX12_measure 47 = .ok (.getfield 208, 3) := by decide +kernel
theorem dX12_measure_50 : decode cX12_measure 50 = .ok (.iload_n 3, 1) := by decide +kernel
theorem dX12_measure_51 : decode cX12_measure 51 = .ok (.iaload, 1) := by decide +kernel
theorem dX12_measure_52 : decode cX12_measure 52 = .ok (.baload, 1) := by decide +kernel
theorem dX12_measure_53 : decode cX12_measure 53 = .ok (.ifCond .ne 11, 3) := by decide +kernel
theorem dX12_measure_56 : decode cX12_measure 56 = .ok (.iload_n 2, 1) := by decide +kernel
theorem dX12_measure_57 : decode cX12_measure 57 = .ok (.aload_n 0, 1) := by decide +kernel
theorem dX12_measure_58 : decode cX12_measure 58 = .ok (.iload_n 3, 1) := by decide +kernel
theorem dX12_measure_59 : decode cX12_measure 59 = .ok (.invokevirtual 724, 3) := by decide +kernel
theorem dX12_measure_62 : decode cX12_measure 62 = .ok (.iadd, 1) := by decide +kernel
theorem dX12_measure_63 : decode cX12_measure 63 = .ok (.istore_n 2, 1) := by decide +kernel
theorem dX12_measure_64 : decode cX12_measure 64 = .ok (.iinc 3 1, 3) := by decide +kernel
theorem dX12_measure_67 : decode cX12_measure 67 = .ok (.goto (-52), 3) := by decide +kernel
theorem dX12_measure_70 : decode cX12_measure 70 = .ok (.bipush 60, 2) := by decide +kernel
theorem dX12_measure_72 : decode cX12_measure 72 = .ok (.aload_n 0, 1) := by decide +kernel
theorem dX12_measure_73 : decode cX12_measure 73 = .ok (.getfield 587, 3) := by decide +kernel
theorem dX12_measure_76 : decode cX12_measure 76 = .ok (.imul, 1) := by decide +kernel
theorem dX12_measure_77 : decode cX12_measure 77 = .ok (.istore_n 3, 1) := by decide +kernel
theorem dX12_measure_78 : decode cX12_measure 78 = .ok (.iload_n 3, 1) := by decide +kernel
theorem dX12_measure_79 : decode cX12_measure 79 = .ok (.bipush 60, 2) := by decide +kernel
theorem dX12_measure_81 : decode cX12_measure 81 = .ok (.aload_n 0, 1) := by decide +kernel
theorem dX12_measure_82 : decode cX12_measure 82 = .ok (.getfield 587, 3) := by decide +kernel
theorem dX12_measure_85 : decode cX12_measure 85 = .ok (.imul, 1) := by decide +kernel
theorem dX12_measure_86 : decode cX12_measure 86 = .ok (.aload_n 0, 1) := by decide +kernel
theorem dX12_measure_87 : decode cX12_measure 87 = .ok (.getfield 26, 3) := by decide +kernel
theorem dX12_measure_90 : decode cX12_measure 90 = .ok (.aload_n 0, 1) := by decide +kernel
theorem dX12_measure_91 : decode cX12_measure 91 = .ok (.getfield 587, 3) := by decide +kernel
theorem dX12_measure_94 : decode cX12_measure 94 = .ok (.iaload, 1) := by decide +kernel
theorem dX12_measure_95 : decode cX12_measure 95 = .ok (.iadd, 1) := by decide +kernel
theorem dX12_measure_96 : decode cX12_measure 96 = .ok (.if_icmp .ge 72, 3) := by decide +kernel
theorem dX12_measure_99 : decode cX12_measure 99 = .ok (.aload_n 0, 1) := by decide +kernel
theorem dX12_measure_100 : decode cX12_measure 100 = .ok (.getfield 50, 3) := by decide +kernel
theorem dX12_measure_103 : decode cX12_measure 103 = .ok (.iload_n 3, 1) := by decide +kernel
theorem dX12_measure_104 : decode cX12_measure 104 = .ok (.iaload, 1) := by decide +kernel
theorem dX12_measure_105 : decode cX12_measure 105 = .ok (.aload_n 0, 1) := by decide +kernel
theorem dX12_measure_106 : decode cX12_measure 106 = .ok (.getfield 190, 3) := by decide +kernel
theorem dX12_measure_109 : decode cX12_measure 109 = .ok (.iload_n 1, 1) := by decide +kernel
theorem dX12_measure_110 : decode cX12_measure 110 = .ok (.iaload, 1) := by decide +kernel
theorem dX12_measure_111 : decode cX12_measure 111 = .ok (.if_icmp .ne 21, 3) := by decide +kernel
theorem dX12_measure_114 : decode cX12_measure 114 = .ok (.aload_n 0, 1) := by decide +kernel
theorem dX12_measure_115 : decode cX12_measure 115 = .ok (.getfield 72, 3) := by decide +kernel
theorem dX12_measure_118 : decode cX12_measure 118 = .ok (.iload_n 3, 1) := by decide +kernel
theorem dX12_measure_119 : decode cX12_measure 119 = .ok (.baload, 1) := by decide +kernel
theorem dX12_measure_120 : decode cX12_measure 120 = .ok (.ifCond .eq 12, 3) := by decide +kernel
theorem dX12_measure_123 : decode cX12_measure 123 = .ok (.aload_n 0, 1) := by decide +kernel
theorem dX12_measure_124 : decode cX12_measure 124 = .ok (.iload_n 1, 1) := by decide +kernel
theorem dX12_measure_125 : decode cX12_measure 125 = .ok (.iload_n 3, 1) := by decide +kernel
theorem dX12_measure_126 : decode cX12_measure 126 = .ok (.invokevirtual 727, 3) := by decide +kernel
theorem dX12_measure_129 : decode cX12_measure 129 = .ok (.goto 4, 3) := by decide +kernel
theorem dX12_measure_132 : decode cX12_measure 132 = .ok (.iconst 0, 1) := by decide +kernel
theorem dX12_measure_133 : decode cX12_measure 133 = .ok (.istore 4, 2) := by decide +kernel
theorem dX12_measure_135 : decode cX12_measure 135 = .ok (.iload 4, 2) := by decide +kernel
theorem dX12_measure_137 : decode cX12_measure 137 = .ok (.ifCond .le 25, 3) := by decide +kernel
theorem dX12_measure_140 : decode cX12_measure 140 = .ok (.iload_n 2, 1) := by decide +kernel
theorem dX12_measure_141 : decode cX12_measure 141 = .ok (.aload_n 0, 1) := by decide +kernel
theorem dX12_measure_142 : decode cX12_measure 142 = .ok (.iload_n 3, 1) := by decide +kernel
theorem dX12_measure_143 : decode cX12_measure 143 = .ok (.iconst 2, 1) := by decide +kernel
theorem dX12_measure_144 : decode cX12_measure 144 = .ok (.invokevirtual 720, 3) := by decide +kernel
theorem dX12_measure_147 : decode cX12_measure 147 = .ok (.invokestatic 710, 3) := by decide +kernel
theorem dX12_measure_150 : decode cX12_measure 150 = .ok (.iload 4, 2) := by decide +kernel
theorem dX12_measure_152 : decode cX12_measure 152 = .ok (.i2l, 1) := by decide +kernel
theorem dX12_measure_153 : decode cX12_measure 153 = .ok (.invokestatic 710, 3) := by decide +kernel
theorem dX12_measure_156 : decode cX12_measure 156 = .ok (.iadd, 1) := by decide +kernel
theorem dX12_measure_157 : decode cX12_measure 157 = .ok (.iload 4, 2) := by decide +kernel
theorem dX12_measure_159 : decode cX12_measure 159 = .ok (.iadd, 1) := by decide +kernel
theorem dX12_measure_160 : decode cX12_measure 160 = .ok (.iadd, 1) := by decide +kernel
theorem dX12_measure_161 : decode cX12_measure 161 = .ok (.istore_n 2, 1) := by decide +kernel
theorem dX12_measure_162 : decode cX12_measure 162 = .ok (.iinc 3 1, 3) := by decide +kernel
theorem dX12_measure_165 : decode cX12_measure 165 = .ok (.goto (-87), 3) := by decide +kernel
theorem dX12_measure_168 : decode cX12_measure 168 = .ok (.iconst 0, 1) := by decide +kernel
theorem dX12_measure_169 : decode cX12_measure 169 = .ok (.istore_n 3, 1) := by decide +kernel
theorem dX12_measure_170 : decode cX12_measure 170 = .ok (.iload_n 3, 1) := by decide +kernel
theorem dX12_measure_171 : decode cX12_measure 171 = .ok (.aload_n 0, 1) := by decide +kernel
theorem dX12_measure_172 : decode cX12_measure 172 = .ok (.getfield 599, 3) := by decide +kernel
theorem dX12_measure_175 : decode cX12_measure 175 = .ok (.if_icmp .ge 28, 3) := by decide +kernel
theorem dX12_measure_178 : decode cX12_measure 178 = .ok (.aload_n 0, 1) := by decide +kernel
theorem dX12_measure_179 : decode cX12_measure 179 = .ok (.getfield 226, 3) := by decide +kernel
theorem dX12_measure_182 : decode cX12_measure 182 = .ok (.iload_n 3, 1) := by decide +kernel
theorem dX12_measure_183 : decode cX12_measure 183 = .ok (.iaload, 1) := by decide +kernel
theorem dX12_measure_184 : decode cX12_measure 184 = .ok (.iload_n 1, 1) := by decide +kernel
theorem dX12_measure_185 : decode cX12_measure 185 = .ok (.if_icmp .ne 12, 3) := by decide +kernel
theorem dX12_measure_188 : decode cX12_measure 188 = .ok (.iload_n 2, 1) := by decide +kernel
theorem dX12_measure_189 : decode cX12_measure 189 = .ok (.aload_n 0, 1) := by decide +kernel
theorem dX12_measure_190 : decode cX12_measure 190 = .ok (.getfield 232, 3) := by decide +kernel
theorem dX12_measure_193 : decode cX12_measure 193 = .ok (.iload_n 3, 1) := by decide +kernel
theorem dX12_measure_194 : decode cX12_measure 194 = .ok (.iaload, 1) := by decide +kernel
theorem dX12_measure_195 : decode cX12_measure 195 = .ok (.iadd, 1) := by decide +kernel
theorem dX12_measure_196 : decode cX12_measure 196 = .ok (.istore_n 2, 1) := by decide +kernel
theorem dX12_measure_197 : decode cX12_measure 197 = .ok (.iinc 3 1, 3) := by decide +kernel
theorem dX12_measure_200 : decode cX12_measure 200 = .ok (.goto (-30), 3) := by decide +kernel
theorem dX12_measure_203 : decode cX12_measure 203 = .ok (.aload_n 0, 1) := by decide +kernel
theorem dX12_measure_204 : decode cX12_measure 204 = .ok (.getfield 199, 3) := by decide +kernel
theorem dX12_measure_207 : decode cX12_measure 207 = .ok (.iload_n 1, 1) := by decide +kernel
theorem dX12_measure_208 : decode cX12_measure 208 = .ok (.iload_n 2, 1) := by decide +kernel
theorem dX12_measure_209 : decode cX12_measure 209 = .ok (.iastore, 1) := by decide +kernel
theorem dX12_measure_210 : decode cX12_measure 210 = .ok (.iinc 1 (-1), 3) := by decide +kernel
theorem dX12_measure_213 : decode cX12_measure 213 = .ok (.goto (-206), 3) := by decide +kernel
theorem dX12_measure_216 : decode cX12_measure 216 = .ok (.return_, 1) := by decide +kernel
theorem dX12_goInto_0 : decode cX12_goInto 0 = .ok (.aload_n 0, 1) := by decide +kernel
theorem dX12_goInto_1 : decode cX12_goInto 1 = .ok (.getfield 238, 3) := by decide +kernel
theorem dX12_goInto_4 : decode cX12_goInto 4 = .ok (.aload_n 0, 1) := by decide +kernel
theorem dX12_goInto_5 : decode cX12_goInto 5 = .ok (.getfield 650, 3) := by decide +kernel
theorem dX12_goInto_8 : decode cX12_goInto 8 = .ok (.iload_n 1, 1) := by decide +kernel
theorem dX12_goInto_9 : decode cX12_goInto 9 = .ok (.iastore, 1) := by decide +kernel
theorem dX12_goInto_10 : decode cX12_goInto 10 = .ok (.aload_n 0, 1) := by decide +kernel
theorem dX12_goInto_11 : decode cX12_goInto 11 = .ok (.getfield 247, 3) := by decide +kernel
theorem dX12_goInto_14 : decode cX12_goInto 14 = .ok (.aload_n 0, 1) := by decide +kernel
theorem dX12_goInto_15 : decode cX12_goInto 15 = .ok (.getfield 650, 3) := by decide +kernel
theorem dX12_goInto_18 : decode cX12_goInto 18 = .ok (.iconst 0, 1) := by decide +kernel
theorem dX12_goInto_19 : decode cX12_goInto 19 = .ok (.iastore, 1) := by decide +kernel
theorem dX12_goInto_20 : decode cX12_goInto 20 = .ok (.aload_n 0, 1) := by decide +kernel
theorem dX12_goInto_21 : decode cX12_goInto 21 = .ok (.getfield 244, 3) := by decide +kernel
theorem dX12_goInto_24 : decode cX12_goInto 24 = .ok (.aload_n 0, 1) := by decide +kernel
theorem dX12_goInto_25 : decode cX12_goInto 25 = .ok (.getfield 650, 3) := by decide +kernel
theorem dX12_goInto_28 : decode cX12_goInto 28 = .ok (.iconst 0, 1) := by decide +kernel
theorem dX12_goInto_29 : decode cX12_goInto 29 = .ok (.iastore, 1) := by decide +kernel
theorem dX12_goInto_30 : decode cX12_goInto 30 = .ok (.aload_n 0, 1) := by decide +kernel
theorem dX12_goInto_31 : decode cX12_goInto 31 = .ok (.dup, 1) := by decide +kernel
theorem dX12_goInto_32 : decode cX12_goInto 32 = .ok (.getfield 650, 3) := by decide +kernel
theorem dX12_goInto_35 : decode cX12_goInto 35 = .ok (.iconst 1, 1) := by decide +kernel
theorem dX12_goInto_36 : decode cX12_goInto 36 = .ok (.iadd, 1) := by decide +kernel
theorem dX12_goInto_37 : decode cX12_goInto 37 = .ok (.putfield 650, 3) := by decide +kernel
theorem dX12_goInto_40 : decode cX12_goInto 40 = .ok (.return_, 1) := by decide +kernel
theorem dX12_putUnknown_0 : decode cX12_putUnknown 0 = .ok (.iconst 0, 1) := by decide +kernel
theorem dX12_putUnknown_1 : decode cX12_putUnknown 1 = .ok (.istore_n 2, 1) := by decide +kernel
theorem dX12_putUnknown_2 : decode cX12_putUnknown 2 = .ok (.iload_n 2, 1) := by decide +kernel
theorem dX12_putUnknown_3 : decode cX12_putUnknown 3 = .ok (.aload_n 0, 1) := by decide +kernel
theorem dX12_putUnknown_4 : decode cX12_putUnknown 4 = .ok (.getfield 599, 3) := by decide +kernel
theorem dX12_putUnknown_7 : decode cX12_putUnknown 7 = .ok (.if_icmp .ge 54, 3) := by decide +kernel
theorem dX12_putUnknown_10 : decode cX12_putUnknown 10 = .ok (.aload_n 0, 1) := by decide +kernel
theorem dX12_putUnknown_11 : decode cX12_putUnknown 11 = .ok (.getfield 226, 3) := by decide +kernel
theorem dX12_putUnknown_14 : decode cX12_putUnknown 14 = .ok (.iload_n 2, 1) := by decide +kernel
theorem dX12_putUnknown_15 : decode cX12_putUnknown 15 = .ok (.iaload, 1) := by decide +kernel
theorem dX12_putUnknown_16 : decode cX12_putUnknown 16 = .ok (.iload_n 1, 1) := by decide +kernel
theorem dX12_putUnknown_17 : decode cX12_putUnknown 17 = .ok (.if_icmp .ne 38, 3) := by decide +kernel
theorem dX12_putUnknown_20 : decode cX12_putUnknown 20 = .ok (.iconst 0, 1) := by decide +kernel
theorem dX12_putUnknown_21 : decode cX12_putUnknown 21 = .ok (.istore_n 3, 1) := by decide +kernel
theorem dX12_putUnknown_22 : decode cX12_putUnknown 22 = .ok (.iload_n 3, 1) := by decide +kernel
theorem dX12_putUnknown_23 : decode cX12_putUnknown 23 = .ok (.aload_n 0, 1) := by decide +kernel
theorem dX12_putUnknown_24 : decode cX12_putUnknown 24 = .ok (.getfield 232, 3) := by decide +kernel
theorem dX12_putUnknown_27 : decode cX12_putUnknown 27 = .ok (.iload_n 2, 1) := by decide +kernel
theorem dX12_putUnknown_28 : decode cX12_putUnknown 28 = .ok (.iaload, 1) := by decide +kernel
theorem dX12_putUnknown_29 : decode cX12_putUnknown 29 = .ok (.if_icmp .ge 26, 3) := by decide +kernel
theorem dX12_putUnknown_32 : decode cX12_putUnknown 32 = .ok (.aload_n 0, 1) := by decide +kernel
theorem dX12_putUnknown_33 : decode cX12_putUnknown 33 = .ok (.aload_n 0, 1) := by decide +kernel
theorem dX12_putUnknown_34 : decode cX12_putUnknown 34 = .ok (.getfield 235, 3) := by decide +kernel
theorem dX12_putUnknown_37 : decode cX12_putUnknown 37 = .ok (.aload_n 0, 1) := by decide +kernel
theorem dX12_putUnknown_38 : decode cX12_putUnknown 38 = .ok (.getfield 229, 3) := by decide +kernel
theorem dX12_putUnknown_41 : decode cX12_putUnknown 41 = .ok (.iload_n 2, 1) := by decide +kernel
theorem dX12_putUnknown_42 : decode cX12_putUnknown 42 = .ok (.iaload, 1) := by decide +kernel
theorem dX12_putUnknown_43 : decode cX12_putUnknown 43 = .ok (.iload_n 3, 1) := by decide +kernel
theorem dX12_putUnknown_44 : decode cX12_putUnknown 44 = .ok (.iadd, 1) := by decide +kernel
theorem dX12_putUnknown_45 : decode cX12_putUnknown 45 = .ok (.iaload, 1) := by decide +kernel
theorem dX12_putUnknown_46 : decode cX12_putUnknown 46 = .ok (.invokevirtual 704, 3) := by decide +kernel
theorem dX12_putUnknown_49 : decode cX12_putUnknown 49 = .ok (.iinc 3 1, 3) := by decide +kernel
theorem dX12_putUnknown_52 : decode cX12_putUnknown 52 = .ok (.goto (-30), 3) := by decide +kernel
theorem dX12_putUnknown_55 : decode cX12_putUnknown 55 = .ok (.iinc 2 1, 3) := by decide +kernel
theorem dX12_putUnknown_58 : decode cX12_putUnknown 58 = .ok (.goto (-56), 3) := by decide +kernel
theorem dX12_putUnknown_61 : decode cX12_putUnknown 61 = .ok (.return_, 1) := by decide +kernel
theorem dX12_nextRow_0 : decode cX12_nextRow 0 = .ok (.iload_n 3, 1) := by decide +kernel
theorem dX12_nextRow_1 : decode cX12_nextRow 1 = .ok (.istore 4, 2) := by decide +kernel
theorem dX12_nextRow_3 : decode cX12_nextRow 3 = .ok (.iload 4, 2) := by decide +kernel
theorem dX12_nextRow_5 : decode cX12_nextRow 5 = .ok (.aload_n 0, 1) := by decide +kernel
theorem dX12_nextRow_6 : decode cX12_nextRow 6 = .ok (.getfield 596, 3) := by decide +kernel
theorem dX12_nextRow_9 : decode cX12_nextRow 9 = .ok (.if_icmp .ge 44, 3) := by decide +kernel
theorem dX12_nextRow_12 : decode cX12_nextRow 12 = .ok (.aload_n 0, 1) := by decide +kernel
theorem dX12_nextRow_13 : decode cX12_nextRow 13 = .ok (.getfield 223, 3) := by decide +kernel
theorem dX12_nextRow_16 : decode cX12_nextRow 16 = .ok (.iload 4, 2) := by decide +kernel
theorem dX12_nextRow_18 : decode cX12_nextRow 18 = .ok (.baload, 1) := by decide +kernel
theorem dX12_nextRow_19 : decode cX12_nextRow 19 = .ok (.ifCond .eq 28, 3) := by decide +kernel
theorem dX12_nextRow_22 : decode cX12_nextRow 22 = .ok (.aload_n 0, 1) := by decide +kernel
theorem dX12_nextRow_23 : decode cX12_nextRow 23 = .ok (.getfield 205, 3) := by decide +kernel
theorem dX12_nextRow_26 : decode cX12_nextRow 26 = .ok (.iload 4, 2) := by decide +kernel
theorem dX12_nextRow_28 : decode cX12_nextRow 28 = .ok (.iaload, 1) := by decide +kernel
theorem dX12_nextRow_29 : decode cX12_nextRow 29 = .ok (.iload_n 1, 1) := by decide +kernel
theorem dX12_nextRow_30 : decode cX12_nextRow 30 = .ok (.if_icmp .ne 17, 3) := by decide +kernel
theorem dX12_nextRow_33 : decode cX12_nextRow 33 = .ok (.aload_n 0, 1) := by decide +kernel
theorem dX12_nextRow_34 : decode cX12_nextRow 34 = .ok (.getfield 208, 3) := by decide +kernel
theorem dX12_nextRow_37 : decode cX12_nextRow 37 = .ok (.iload 4, 2) := by decide +kernel
theorem dX12_nextRow_39 : decode cX12_nextRow 39 = .ok (.iaload, 1) := by decide +kernel
theorem dX12_nextRow_40 : decode cX12_nextRow 40 = .ok (.iload_n 2, 1) := by decide +kernel
theorem dX12_nextRow_41 : decode cX12_nextRow 41 = .ok (.if_icmp .ne 6, 3) := by decide +kernel
theorem dX12_nextRow_44 : decode cX12_nextRow 44 = .ok (.iload 4, 2) := by decide +kernel
theorem dX12_nextRow_46 : decode cX12_nextRow 46 = .ok (.ireturn, 1) := by decide +kernel
theorem dX12_nextRow_47 : decode cX12_nextRow 47 = .ok (.iinc 4 1, 3) := by decide +kernel
theorem dX12_nextRow_50 : decode cX12_nextRow 50 = .ok (.goto (-47), 3) := by decide +kernel
theorem dX12_nextRow_53 : decode cX12_nextRow 53 = .ok (.iconst (-1), 1) := by decide +kernel
theorem dX12_nextRow_54 : decode cX12_nextRow 54 = .ok (.ireturn, 1) := by decide +kernel
theorem dX12_putOne_0 : decode cX12_putOne 0 = .ok (.iload_n 1, 1) := by decide +kernel
theorem dX12_putOne_1 : decode cX12_putOne 1 = .ok (.invokestatic 653, 3) := by decide +kernel
theorem dX12_putOne_4 : decode cX12_putOne 4 = .ok (.istore 4, 2) := by decide +kernel
theorem dX12_putOne_6 : decode cX12_putOne 6 = .ok (.iload 4, 2) := by decide +kernel
theorem dX12_putOne_8 : decode cX12_putOne 8 = .ok (.ifCond .ne 12, 3) := by decide +kernel
theorem dX12_putOne_11 : decode cX12_putOne 11 = .ok (.aload_n 0, 1) := by decide +kernel
theorem dX12_putOne_12 : decode cX12_putOne 12 = .ok (.iload_n 1, 1) := by decide +kernel
theorem dX12_putOne_13 : decode cX12_putOne 13 = .ok (.lload_n 2, 1) := by decide +kernel
theorem dX12_putOne_14 : decode cX12_putOne 14 = .ok (.invokestatic 707, 3) := by decide +kernel
theorem dX12_putOne_17 : decode cX12_putOne 17 = .ok (.invokevirtual 713, 3) := by decide +kernel
theorem dX12_putOne_20 : decode cX12_putOne 20 = .ok (.iconst 0, 1) := by decide +kernel
theorem dX12_putOne_21 : decode cX12_putOne 21 = .ok (.istore 5, 2) := by decide +kernel
theorem dX12_putOne_23 : decode cX12_putOne 23 = .ok (.iload 5, 2) := by decide +kernel
theorem dX12_putOne_25 : decode cX12_putOne 25 = .ok (.iload 4, 2) := by decide +kernel
theorem dX12_putOne_27 : decode cX12_putOne 27 = .ok (.iconst 1, 1) := by decide +kernel
theorem dX12_putOne_28 : decode cX12_putOne 28 = .ok (.if_icmp .ne 8, 3) := by decide +kernel
theorem dX12_putOne_31 : decode cX12_putOne 31 = .ok (.bipush 8, 2) := by decide +kernel
theorem dX12_putOne_33 : decode cX12_putOne 33 = .ok (.goto 14, 3) := by decide +kernel
theorem dX12_putOne_36 : decode cX12_putOne 36 = .ok (.iload 4, 2) := by decide +kernel
theorem dX12_putOne_38 : decode cX12_putOne 38 = .ok (.iconst 5, 1) := by decide +kernel
theorem dX12_putOne_39 : decode cX12_putOne 39 = .ok (.if_icmp .ne 7, 3) := by decide +kernel
theorem dX12_putOne_42 : decode cX12_putOne 42 = .ok (.iconst 4, 1) := by decide +kernel
theorem dX12_putOne_43 : decode cX12_putOne 43 = .ok (.goto 4, 3) := by decide +kernel
theorem dX12_putOne_46 : decode cX12_putOne 46 = .ok (.iconst 0, 1) := by decide +kernel
theorem dX12_putOne_47 : decode cX12_putOne 47 = .ok (.if_icmp .ge 25, 3) := by decide +kernel
theorem dX12_putOne_50 : decode cX12_putOne 50 = .ok (.aload_n 0, 1) := by decide +kernel
theorem dX12_putOne_51 : decode cX12_putOne 51 = .ok (.lload_n 2, 1) := by decide +kernel
theorem dX12_putOne_52 : decode cX12_putOne 52 = .ok (.bipush 8, 2) := by decide +kernel
theorem dX12_putOne_54 : decode cX12_putOne 54 = .ok (.iload 5, 2) := by decide +kernel
theorem dX12_putOne_56 : decode cX12_putOne 56 = .ok (.imul, 1) := by decide +kernel
theorem dX12_putOne_57 : decode cX12_putOne 57 = .ok (.lushr, 1) := by decide +kernel
theorem dX12_putOne_58 : decode cX12_putOne 58 = .ok (.l2i, 1) := by decide +kernel
theorem dX12_putOne_59 : decode cX12_putOne 59 = .ok (.sipush 255, 3) := by decide +kernel
theorem dX12_putOne_62 : decode cX12_putOne 62 = .ok (.iand, 1) := by decide +kernel
theorem dX12_putOne_63 : decode cX12_putOne 63 = .ok (.invokevirtual 704, 3) := by decide +kernel
theorem dX12_putOne_66 : decode cX12_putOne 66 = .ok (.iinc 5 1, 3) := by decide +kernel
theorem dX12_putOne_69 : decode cX12_putOne 69 = .ok (.goto (-46), 3) := by decide +kernel
theorem dX12_putOne_72 : decode cX12_putOne 72 = .ok (.return_, 1) := by decide +kernel
theorem dX12_putPacked_0 : decode cX12_putPacked 0 = .ok (.aload_n 0, 1) := by decide +kernel
theorem dX12_putPacked_1 : decode cX12_putPacked 1 = .ok (.iload_n 1, 1) := by decide +kernel
theorem dX12_putPacked_2 : decode cX12_putPacked 2 = .ok (.iload_n 2, 1) := by decide +kernel
theorem dX12_putPacked_3 : decode cX12_putPacked 3 = .ok (.invokevirtual 727, 3) := by decide +kernel
theorem dX12_putPacked_6 : decode cX12_putPacked 6 = .ok (.istore_n 3, 1) := by decide +kernel
theorem dX12_putPacked_7 : decode cX12_putPacked 7 = .ok (.iload_n 3, 1) := by decide +kernel
theorem dX12_putPacked_8 : decode cX12_putPacked 8 = .ok (.ifCond .ne 4, 3) := by decide +kernel
theorem dX12_putPacked_11 : decode cX12_putPacked 11 = .ok (.return_, 1) := by decide +kernel
theorem dX12_putPacked_12 : decode cX12_putPacked 12 = .ok (.aload_n 0, 1) := by decide +kernel
theorem dX12_putPacked_13 : decode cX12_putPacked 13 = .ok (.aload_n 0, 1) := by decide +kernel
theorem dX12_putPacked_14 : decode cX12_putPacked 14 = .ok (.iload_n 2, 1) := by decide +kernel
theorem dX12_putPacked_15 : decode cX12_putPacked 15 = .ok (.iconst 2, 1) := by decide +kernel
theorem dX12_putPacked_16 : decode cX12_putPacked 16 = .ok (.invokevirtual 720, 3) := by decide +kernel
theorem dX12_putPacked_19 : decode cX12_putPacked 19 = .ok (.invokevirtual 713, 3) := by decide +kernel
theorem dX12_putPacked_22 : decode cX12_putPacked 22 = .ok (.aload_n 0, 1) := by decide +kernel
theorem dX12_putPacked_23 : decode cX12_putPacked 23 = .ok (.iload_n 3, 1) := by decide +kernel
theorem dX12_putPacked_24 : decode cX12_putPacked 24 = .ok (.i2l, 1) := by decide +kernel
theorem dX12_putPacked_25 : decode cX12_putPacked 25 = .ok (.invokevirtual 713, 3) := by decide +kernel
theorem dX12_putPacked_28 : decode cX12_putPacked 28 = .ok (.iconst 0, 1) := by decide +kernel
theorem dX12_putPacked_29 : decode cX12_putPacked 29 = .ok (.istore 4, 2) := by decide +kernel
theorem dX12_putPacked_31 : decode cX12_putPacked 31 = .ok (.iload 4, 2) := by decide +kernel
theorem dX12_putPacked_33 : decode cX12_putPacked 33 = .ok (.aload_n 0, 1) := by decide +kernel
theorem dX12_putPacked_34 : decode cX12_putPacked 34 = .ok (.getfield 596, 3) := by decide +kernel
theorem dX12_putPacked_37 : decode cX12_putPacked 37 = .ok (.if_icmp .ge 58, 3) := by decide +kernel
theorem dX12_putPacked_40 : decode cX12_putPacked 40 = .ok (.aload_n 0, 1) := by decide +kernel
theorem dX12_putPacked_41 : decode cX12_putPacked 41 = .ok (.getfield 223, 3) := by decide +kernel
theorem dX12_putPacked_44 : decode cX12_putPacked 44 = .ok (.iload 4, 2) := by decide +kernel
theorem dX12_putPacked_46 : decode cX12_putPacked 46 = .ok (.baload, 1) := by decide +kernel
theorem dX12_putPacked_47 : decode cX12_putPacked 47 = .ok (.ifCond .eq 42, 3) := by decide +kernel
theorem dX12_putPacked_50 : decode cX12_putPacked 50 = .ok (.aload_n 0, 1) := by decide +kernel
theorem dX12_putPacked_51 : decode cX12_putPacked 51 = .ok (.getfield 205, 3) := by decide +kernel
theorem dX12_putPacked_54 : decode cX12_putPacked 54 = .ok (.iload 4, 2) := by decide +kernel
theorem dX12_putPacked_56 : decode cX12_putPacked 56 = .ok (.iaload, 1) := by decide +kernel
theorem dX12_putPacked_57 : decode cX12_putPacked 57 = .ok (.iload_n 1, 1) := by decide +kernel
theorem dX12_putPacked_58 : decode cX12_putPacked 58 = .ok (.if_icmp .ne 31, 3) := by decide +kernel
theorem dX12_putPacked_61 : decode cX12_putPacked 61 = .ok (.aload_n 0, 1) := by decide +kernel
theorem dX12_putPacked_62 : decode cX12_putPacked 62 = .ok (.getfield 208, 3) := by decide +kernel
theorem dX12_putPacked_65 : decode cX12_putPacked 65 = .ok (.iload 4, 2) := by decide +kernel
theorem dX12_putPacked_67 : decode cX12_putPacked 67 = .ok (.iaload, 1) := by decide +kernel
theorem dX12_putPacked_68 : decode cX12_putPacked 68 = .ok (.iload_n 2, 1) := by decide +kernel
theorem dX12_putPacked_69 : decode cX12_putPacked 69 = .ok (.if_icmp .ne 20, 3) := by decide +kernel
theorem dX12_putPacked_72 : decode cX12_putPacked 72 = .ok (.aload_n 0, 1) := by decide +kernel
theorem dX12_putPacked_73 : decode cX12_putPacked 73 = .ok (.aload_n 0, 1) := by decide +kernel
theorem dX12_putPacked_74 : decode cX12_putPacked 74 = .ok (.getfield 62, 3) := by decide +kernel
theorem dX12_putPacked_77 : decode cX12_putPacked 77 = .ok (.iload_n 2, 1) := by decide +kernel
theorem dX12_putPacked_78 : decode cX12_putPacked 78 = .ok (.iaload, 1) := by decide +kernel
theorem dX12_putPacked_79 : decode cX12_putPacked 79 = .ok (.aload_n 0, 1) := by decide +kernel
theorem dX12_putPacked_80 : decode cX12_putPacked 80 = .ok (.getfield 211, 3) := by decide +kernel
theorem dX12_putPacked_83 : decode cX12_putPacked 83 = .ok (.iload 4, 2) := by decide +kernel
theorem dX12_putPacked_85 : decode cX12_putPacked 85 = .ok (.laload, 1) := by decide +kernel
theorem dX12_putPacked_86 : decode cX12_putPacked 86 = .ok (.invokevirtual 730, 3) := by decide +kernel
theorem dX12_putPacked_89 : decode cX12_putPacked 89 = .ok (.iinc 4 1, 3) := by decide +kernel
theorem dX12_putPacked_92 : decode cX12_putPacked 92 = .ok (.goto (-61), 3) := by decide +kernel
theorem dX12_putPacked_95 : decode cX12_putPacked 95 = .ok (.return_, 1) := by decide +kernel
theorem dX12_encodeStep_0 : decode cX12_encodeStep 0 = .ok (.aload_n 0, 1) := by decide +kernel
theorem dX12_encodeStep_1 : decode cX12_encodeStep 1 = .ok (.getfield 650, 3) := by decide +kernel
theorem dX12_encodeStep_4 : decode cX12_encodeStep 4 = .ok (.iconst 1, 1) := by decide +kernel
theorem dX12_encodeStep_5 : decode cX12_encodeStep 5 = .ok (.isub, 1) := by decide +kernel
theorem dX12_encodeStep_6 : decode cX12_encodeStep 6 = .ok (.istore_n 1, 1) := by decide +kernel
theorem dX12_encodeStep_7 : decode cX12_encodeStep 7 = .ok (.aload_n 0, 1) := by decide +kernel
theorem dX12_encodeStep_8 : decode cX12_encodeStep 8 = .ok (.getfield 238, 3) := by decide +kernel
theorem dX12_encodeStep_11 : decode cX12_encodeStep 11 = .ok (.iload_n 1, 1) := by decide +kernel
theorem dX12_encodeStep_12 : decode cX12_encodeStep 12 = .ok (.iaload, 1) := by decide +kernel
theorem dX12_encodeStep_13 : decode cX12_encodeStep 13 = .ok (.istore_n 2, 1) := by decide +kernel
theorem dX12_encodeStep_14 : decode cX12_encodeStep 14 = .ok (.aload_n 0, 1) := by decide +kernel
theorem dX12_encodeStep_15 : decode cX12_encodeStep 15 = .ok (.aload_n 0, 1) := by decide +kernel
theorem dX12_encodeStep_16 : decode cX12_encodeStep 16 = .ok (.getfield 587, 3) := by decide +kernel
theorem dX12_encodeStep_19 : decode cX12_encodeStep 19 = .ok (.aload_n 0, 1) := by decide +kernel
theorem dX12_encodeStep_20 : decode cX12_encodeStep 20 = .ok (.getfield 190, 3) := by decide +kernel
theorem dX12_encodeStep_23 : decode cX12_encodeStep 23 = .ok (.iload_n 2, 1) := by decide +kernel
theorem dX12_encodeStep_24 : decode cX12_encodeStep 24 = .ok (.iaload, 1) := by decide +kernel
theorem dX12_encodeStep_25 : decode cX12_encodeStep 25 = .ok (.aload_n 0, 1) := by decide +kernel
theorem dX12_encodeStep_26 : decode cX12_encodeStep 26 = .ok (.getfield 247, 3) := by decide +kernel
theorem dX12_encodeStep_29 : decode cX12_encodeStep 29 = .ok (.iload_n 1, 1) := by decide +kernel
theorem dX12_encodeStep_30 : decode cX12_encodeStep 30 = .ok (.iaload, 1) := by decide +kernel
theorem dX12_encodeStep_31 : decode cX12_encodeStep 31 = .ok (.invokevirtual 576, 3) := by decide +kernel
theorem dX12_encodeStep_34 : decode cX12_encodeStep 34 = .ok (.istore_n 3, 1) := by decide +kernel
theorem dX12_encodeStep_35 : decode cX12_encodeStep 35 = .ok (.iload_n 3, 1) := by decide +kernel
theorem dX12_encodeStep_36 : decode cX12_encodeStep 36 = .ok (.iconst (-1), 1) := by decide +kernel
theorem dX12_encodeStep_37 : decode cX12_encodeStep 37 = .ok (.if_icmp .ne 19, 3) := by decide +kernel
theorem dX12_encodeStep_40 : decode cX12_encodeStep 40 = .ok (.aload_n 0, 1) := by decide +kernel
theorem dX12_encodeStep_41 : decode cX12_encodeStep 41 = .ok (.iload_n 2, 1) := by decide +kernel
theorem dX12_encodeStep_42 : decode cX12_encodeStep 42 = .ok (.invokevirtual 734, 3) := by decide +kernel
theorem dX12_encodeStep_45 : decode cX12_encodeStep 45 = .ok (.aload_n 0, 1) := by decide +kernel
theorem dX12_encodeStep_46 : decode cX12_encodeStep 46 = .ok (.dup, 1) := by decide +kernel
theorem dX12_encodeStep_47 : decode cX12_encodeStep 47 = .ok (.getfield 650, 3) := by decide +kernel
theorem dX12_encodeStep_50 : decode cX12_encodeStep 50 = .ok (.iconst 1, 1) := by decide +kernel
theorem dX12_encodeStep_51 : decode cX12_encodeStep 51 = .ok (.isub, 1) := by decide +kernel
theorem dX12_encodeStep_52 : decode cX12_encodeStep 52 = .ok (.putfield 650, 3) := by decide +kernel
theorem dX12_encodeStep_55 : decode cX12_encodeStep 55 = .ok (.return_, 1) := by decide +kernel
theorem dX12_encodeStep_56 : decode cX12_encodeStep 56 = .ok (.aload_n 0, 1) := by decide +kernel
theorem dX12_encodeStep_57 : decode cX12_encodeStep 57 = .ok (.getfield 72, 3) := by decide +kernel
theorem dX12_encodeStep_60 : decode cX12_encodeStep 60 = .ok (.iload_n 3, 1) := by decide +kernel
theorem dX12_encodeStep_61 : decode cX12_encodeStep 61 = .ok (.baload, 1) := by decide +kernel
theorem dX12_encodeStep_62 : decode cX12_encodeStep 62 = .ok (.ifCond .eq 7, 3) := by decide +kernel
theorem dX12_encodeStep_65 : decode cX12_encodeStep 65 = .ok (.iconst (-1), 1) := by decide +kernel
theorem dX12_encodeStep_66 : decode cX12_encodeStep 66 = .ok (.goto 15, 3) := by decide +kernel
theorem dX12_encodeStep_69 : decode cX12_encodeStep 69 = .ok (.aload_n 0, 1) := by decide +kernel
theorem dX12_encodeStep_70 : decode cX12_encodeStep 70 = .ok (.iload_n 2, 1) := by decide +kernel
theorem dX12_encodeStep_71 : decode cX12_encodeStep 71 = .ok (.iload_n 3, 1) := by decide +kernel
theorem dX12_encodeStep_72 : decode cX12_encodeStep 72 = .ok (.aload_n 0, 1) := by decide +kernel
theorem dX12_encodeStep_73 : decode cX12_encodeStep 73 = .ok (.getfield 244, 3) := by decide +kernel
theorem dX12_encodeStep_76 : decode cX12_encodeStep 76 = .ok (.iload_n 1, 1) := by decide +kernel
theorem dX12_encodeStep_77 : decode cX12_encodeStep 77 = .ok (.iaload, 1) := by decide +kernel
theorem dX12_encodeStep_78 : decode cX12_encodeStep 78 = .ok (.invokevirtual 737, 3) := by decide +kernel
theorem dX12_encodeStep_81 : decode cX12_encodeStep 81 = .ok (.istore 4, 2) := by decide +kernel
theorem dX12_encodeStep_83 : decode cX12_encodeStep 83 = .ok (.aload_n 0, 1) := by decide +kernel
theorem dX12_encodeStep_84 : decode cX12_encodeStep 84 = .ok (.getfield 72, 3) := by decide +kernel
theorem dX12_encodeStep_87 : decode cX12_encodeStep 87 = .ok (.iload_n 3, 1) := by decide +kernel
theorem dX12_encodeStep_88 : decode cX12_encodeStep 88 = .ok (.baload, 1) := by decide +kernel
theorem dX12_encodeStep_89 : decode cX12_encodeStep 89 = .ok (.ifCond .eq 9, 3) := by decide +kernel
theorem dX12_encodeStep_92 : decode cX12_encodeStep 92 = .ok (.aload_n 0, 1) := by decide +kernel
theorem dX12_encodeStep_93 : decode cX12_encodeStep 93 = .ok (.iload_n 2, 1) := by decide +kernel
theorem dX12_encodeStep_94 : decode cX12_encodeStep 94 = .ok (.iload_n 3, 1) := by decide +kernel
theorem dX12_encodeStep_95 : decode cX12_encodeStep 95 = .ok (.invokevirtual 740, 3) := by decide +kernel
theorem dX12_encodeStep_98 : decode cX12_encodeStep 98 = .ok (.iload 4, 2) := by decide +kernel
theorem dX12_encodeStep_100 : decode cX12_encodeStep 100 = .ok (.iconst (-1), 1) := by decide +kernel
theorem dX12_encodeStep_101 : decode cX12_encodeStep 101 = .ok (.if_icmp .ne 21, 3) := by decide +kernel
theorem dX12_encodeStep_104 : decode cX12_encodeStep 104 = .ok (.aload_n 0, 1) := by decide +kernel
theorem dX12_encodeStep_105 : decode cX12_encodeStep 105 = .ok (.getfield 247, 3) := by decide +kernel
theorem dX12_encodeStep_108 : decode cX12_encodeStep 108 = .ok (.iload_n 1, 1) := by decide +kernel
theorem dX12_encodeStep_109 : decode cX12_encodeStep 109 = .ok (.dup2, 1) := by decide +kernel
theorem dX12_encodeStep_110 : decode cX12_encodeStep 110 = .ok (.iaload, 1) := by decide +kernel
theorem dX12_encodeStep_111 : decode cX12_encodeStep 111 = .ok (.iconst 1, 1) := by decide +kernel
theorem dX12_encodeStep_112 : decode cX12_encodeStep 112 = .ok (.iadd, 1) := by decide +kernel
theorem dX12_encodeStep_113 : decode cX12_encodeStep 113 = .ok (.iastore, 1) := by decide +kernel
theorem dX12_encodeStep_114 : decode cX12_encodeStep 114 = .ok (.aload_n 0, 1) := by decide +kernel
theorem dX12_encodeStep_115 : decode cX12_encodeStep 115 = .ok (.getfield 244, 3) := by decide +kernel
theorem dX12_encodeStep_118 : decode cX12_encodeStep 118 = .ok (.iload_n 1, 1) := by decide +kernel
theorem dX12_encodeStep_119 : decode cX12_encodeStep 119 = .ok (.iconst 0, 1) := by decide +kernel
theorem dX12_encodeStep_120 : decode cX12_encodeStep 120 = .ok (.iastore, 1) := by decide +kernel
theorem dX12_encodeStep_121 : decode cX12_encodeStep 121 = .ok (.return_, 1) := by decide +kernel
theorem dX12_encodeStep_122 : decode cX12_encodeStep 122 = .ok (.aload_n 0, 1) := by decide +kernel
theorem dX12_encodeStep_123 : decode cX12_encodeStep 123 = .ok (.getfield 244, 3) := by decide +kernel
theorem dX12_encodeStep_126 : decode cX12_encodeStep 126 = .ok (.iload_n 1, 1) := by decide +kernel
theorem dX12_encodeStep_127 : decode cX12_encodeStep 127 = .ok (.iload 4, 2) := by decide +kernel
theorem dX12_encodeStep_129 : decode cX12_encodeStep 129 = .ok (.iconst 1, 1) := by decide +kernel
theorem dX12_encodeStep_130 : decode cX12_encodeStep 130 = .ok (.iadd, 1) := by decide +kernel
theorem dX12_encodeStep_131 : decode cX12_encodeStep 131 = .ok (.iastore, 1) := by decide +kernel
theorem dX12_encodeStep_132 : decode cX12_encodeStep 132 = .ok (.aload_n 0, 1) := by decide +kernel
theorem dX12_encodeStep_133 : decode cX12_encodeStep 133 = .ok (.aload_n 0, 1) := by decide +kernel
theorem dX12_encodeStep_134 : decode cX12_encodeStep 134 = .ok (.iload_n 3, 1) := by decide +kernel
theorem dX12_encodeStep_135 : decode cX12_encodeStep 135 = .ok (.aload_n 0, 1) := by decide +kernel
theorem dX12_encodeStep_136 : decode cX12_encodeStep 136 = .ok (.getfield 62, 3) := by decide +kernel
theorem dX12_encodeStep_139 : decode cX12_encodeStep 139 = .ok (.iload_n 3, 1) := by decide +kernel
theorem dX12_encodeStep_140 : decode cX12_encodeStep 140 = .ok (.iaload, 1) := by decide +kernel
theorem dX12_encodeStep_141 : decode cX12_encodeStep 141 = .ok (.invokestatic 653, 3) := by decide +kernel
theorem dX12_encodeStep_144 : decode cX12_encodeStep 144 = .ok (.invokevirtual 720, 3) := by decide +kernel
theorem dX12_encodeStep_147 : decode cX12_encodeStep 147 = .ok (.invokevirtual 713, 3) := by decide +kernel
theorem dX12_encodeStep_150 : decode cX12_encodeStep 150 = .ok (.aload_n 0, 1) := by decide +kernel
theorem dX12_encodeStep_151 : decode cX12_encodeStep 151 = .ok (.getfield 62, 3) := by decide +kernel
theorem dX12_encodeStep_154 : decode cX12_encodeStep 154 = .ok (.iload_n 3, 1) := by decide +kernel
theorem dX12_encodeStep_155 : decode cX12_encodeStep 155 = .ok (.iaload, 1) := by decide +kernel
theorem dX12_encodeStep_156 : decode cX12_encodeStep 156 = .ok (.invokestatic 653, 3) := by decide +kernel
theorem dX12_encodeStep_159 : decode cX12_encodeStep 159 = .ok (.iconst 2, 1) := by decide +kernel
theorem dX12_encodeStep_160 : decode cX12_encodeStep 160 = .ok (.if_icmp .eq 23, 3) := by decide +kernel
theorem dX12_encodeStep_163 : decode cX12_encodeStep 163 = .ok (.aload_n 0, 1) := by decide +kernel
theorem dX12_encodeStep_164 : decode cX12_encodeStep 164 = .ok (.aload_n 0, 1) := by decide +kernel
theorem dX12_encodeStep_165 : decode cX12_encodeStep 165 = .ok (.getfield 62, 3) := by decide +kernel
theorem dX12_encodeStep_168 : decode cX12_encodeStep 168 = .ok (.iload_n 3, 1) := by decide +kernel
theorem dX12_encodeStep_169 : decode cX12_encodeStep 169 = .ok (.iaload, 1) := by decide +kernel
theorem dX12_encodeStep_170 : decode cX12_encodeStep 170 = .ok (.aload_n 0, 1) := by decide +kernel
theorem dX12_encodeStep_171 : decode cX12_encodeStep 171 = .ok (.getfield 211, 3) := by decide +kernel
theorem dX12_encodeStep_174 : decode cX12_encodeStep 174 = .ok (.iload 4, 2) := by decide +kernel
theorem dX12_encodeStep_176 : decode cX12_encodeStep 176 = .ok (.laload, 1) := by decide +kernel
theorem dX12_encodeStep_177 : decode cX12_encodeStep 177 = .ok (.invokevirtual 730, 3) := by decide +kernel
theorem dX12_encodeStep_180 : decode cX12_encodeStep 180 = .ok (.goto 97, 3) := by decide +kernel
theorem dX12_encodeStep_183 : decode cX12_encodeStep 183 = .ok (.aload_n 0, 1) := by decide +kernel
theorem dX12_encodeStep_184 : decode cX12_encodeStep 184 = .ok (.getfield 62, 3) := by decide +kernel
theorem dX12_encodeStep_187 : decode cX12_encodeStep 187 = .ok (.iload_n 3, 1) := by decide +kernel
theorem dX12_encodeStep_188 : decode cX12_encodeStep 188 = .ok (.iaload, 1) := by decide +kernel
theorem dX12_encodeStep_189 : decode cX12_encodeStep 189 = .ok (.bipush 13, 2) := by decide +kernel
theorem dX12_encodeStep_191 : decode cX12_encodeStep 191 = .ok (.if_icmp .ne 34, 3) := by decide +kernel
theorem dX12_encodeStep_194 : decode cX12_encodeStep 194 = .ok (.aload_n 0, 1) := by decide +kernel
theorem dX12_encodeStep_195 : decode cX12_encodeStep 195 = .ok (.aload_n 0, 1) := by decide +kernel
theorem dX12_encodeStep_196 : decode cX12_encodeStep 196 = .ok (.getfield 199, 3) := by decide +kernel
theorem dX12_encodeStep_199 : decode cX12_encodeStep 199 = .ok (.aload_n 0, 1) := by decide +kernel
theorem dX12_encodeStep_200 : decode cX12_encodeStep 200 = .ok (.getfield 220, 3) := by decide +kernel
theorem dX12_encodeStep_203 : decode cX12_encodeStep 203 = .ok (.iload 4, 2) := by decide +kernel
theorem dX12_encodeStep_205 : decode cX12_encodeStep 205 = .ok (.iaload, 1) := by decide +kernel
theorem dX12_encodeStep_206 : decode cX12_encodeStep 206 = .ok (.iaload, 1) := by decide +kernel
theorem dX12_encodeStep_207 : decode cX12_encodeStep 207 = .ok (.i2l, 1) := by decide +kernel
theorem dX12_encodeStep_208 : decode cX12_encodeStep 208 = .ok (.invokevirtual 713, 3) := by decide +kernel
theorem dX12_encodeStep_211 : decode cX12_encodeStep 211 = .ok (.aload_n 0, 1) := by decide +kernel
theorem dX12_encodeStep_212 : decode cX12_encodeStep 212 = .ok (.aload_n 0, 1) := by decide +kernel
theorem dX12_encodeStep_213 : decode cX12_encodeStep 213 = .ok (.getfield 220, 3) := by decide +kernel
theorem dX12_encodeStep_216 : decode cX12_encodeStep 216 = .ok (.iload 4, 2) := by decide +kernel
theorem dX12_encodeStep_218 : decode cX12_encodeStep 218 = .ok (.iaload, 1) := by decide +kernel
theorem dX12_encodeStep_219 : decode cX12_encodeStep 219 = .ok (.invokevirtual 743, 3) := by decide +kernel
theorem dX12_encodeStep_222 : decode cX12_encodeStep 222 = .ok (.goto 55, 3) := by decide +kernel
theorem dX12_encodeStep_225 : decode cX12_encodeStep 225 = .ok (.aload_n 0, 1) := by decide +kernel
theorem dX12_encodeStep_226 : decode cX12_encodeStep 226 = .ok (.aload_n 0, 1) := by decide +kernel
theorem dX12_encodeStep_227 : decode cX12_encodeStep 227 = .ok (.getfield 217, 3) := by decide +kernel
theorem dX12_encodeStep_230 : decode cX12_encodeStep 230 = .ok (.iload 4, 2) := by decide +kernel
theorem dX12_encodeStep_232 : decode cX12_encodeStep 232 = .ok (.iaload, 1) := by decide +kernel
theorem dX12_encodeStep_233 : decode cX12_encodeStep 233 = .ok (.i2l, 1) := by decide +kernel
theorem dX12_encodeStep_234 : decode cX12_encodeStep 234 = .ok (.invokevirtual 713, 3) := by decide +kernel
theorem dX12_encodeStep_237 : decode cX12_encodeStep 237 = .ok (.iconst 0, 1) := by decide +kernel
theorem dX12_encodeStep_238 : decode cX12_encodeStep 238 = .ok (.istore 5, 2) := by decide +kernel
theorem dX12_encodeStep_240 : decode cX12_encodeStep 240 = .ok (.iload 5, 2) := by decide +kernel
theorem dX12_encodeStep_242 : decode cX12_encodeStep 242 = .ok (.aload_n 0, 1) := by decide +kernel
theorem dX12_encodeStep_243 : decode cX12_encodeStep 243 = .ok (.getfield 217, 3) := by decide +kernel
theorem dX12_encodeStep_246 : decode cX12_encodeStep 246 = .ok (.iload 4, 2) := by decide +kernel
theorem dX12_encodeStep_248 : decode cX12_encodeStep 248 = .ok (.iaload, 1) := by decide +kernel
theorem dX12_encodeStep_249 : decode cX12_encodeStep 249 = .ok (.if_icmp .ge 28, 3) := by decide +kernel
theorem dX12_encodeStep_252 : decode cX12_encodeStep 252 = .ok (.aload_n 0, 1) := by decide +kernel
theorem dX12_encodeStep_253 : decode cX12_encodeStep 253 = .ok (.aload_n 0, 1) := by decide +kernel
theorem dX12_encodeStep_254 : decode cX12_encodeStep 254 = .ok (.getfield 235, 3) := by decide +kernel
theorem dX12_encodeStep_257 : decode cX12_encodeStep 257 = .ok (.aload_n 0, 1) := by decide +kernel
theorem dX12_encodeStep_258 : decode cX12_encodeStep 258 = .ok (.getfield 214, 3) := by decide +kernel
theorem dX12_encodeStep_261 : decode cX12_encodeStep 261 = .ok (.iload 4, 2) := by decide +kernel
theorem dX12_encodeStep_263 : decode cX12_encodeStep 263 = .ok (.iaload, 1) := by decide +kernel
theorem dX12_encodeStep_264 : decode cX12_encodeStep 264 = .ok (.iload 5, 2) := by decide +kernel
theorem dX12_encodeStep_266 : decode cX12_encodeStep 266 = .ok (.iadd, 1) := by decide +kernel
theorem dX12_encodeStep_267 : decode cX12_encodeStep 267 = .ok (.iaload, 1) := by decide +kernel
theorem dX12_encodeStep_268 : decode cX12_encodeStep 268 = .ok (.invokevirtual 704, 3) := by decide +kernel
theorem dX12_encodeStep_271 : decode cX12_encodeStep 271 = .ok (.iinc 5 1, 3) := by decide +kernel
theorem dX12_encodeStep_274 : decode cX12_encodeStep 274 = .ok (.goto (-34), 3) := by decide +kernel
theorem dX12_encodeStep_277 : decode cX12_encodeStep 277 = .ok (.return_, 1) := by decide +kernel
theorem dX12_encode_0 : decode cX12_encode 0 = .ok (.aload_n 0, 1) := by decide +kernel
theorem dX12_encode_1 : decode cX12_encode 1 = .ok (.invokevirtual 746, 3) := by decide +kernel
theorem dX12_encode_4 : decode cX12_encode 4 = .ok (.aload_n 0, 1) := by decide +kernel
theorem dX12_encode_5 : decode cX12_encode 5 = .ok (.aload_n 0, 1) := by decide +kernel
theorem dX12_encode_6 : decode cX12_encode 6 = .ok (.getfield 551, 3) := by decide +kernel
theorem dX12_encode_9 : decode cX12_encode 9 = .ok (.ifCond .eq 7, 3) := by decide +kernel
theorem dX12_encode_12 : decode cX12_encode 12 = .ok (.iconst 0, 1) := by decide +kernel
theorem dX12_encode_13 : decode cX12_encode 13 = .ok (.goto 4, 3) := by decide +kernel
theorem dX12_encode_16 : decode cX12_encode 16 = .ok (.iconst 1, 1) := by decide +kernel
theorem dX12_encode_17 : decode cX12_encode 17 = .ok (.putfield 265, 3) := by decide +kernel
theorem dX12_encode_20 : decode cX12_encode 20 = .ok (.aload_n 0, 1) := by decide +kernel
theorem dX12_encode_21 : decode cX12_encode 21 = .ok (.getfield 265, 3) := by decide +kernel
theorem dX12_encode_24 : decode cX12_encode 24 = .ok (.ifCond .eq 5, 3) := by decide +kernel
theorem dX12_encode_27 : decode cX12_encode 27 = .ok (.iconst 0, 1) := by decide +kernel
theorem dX12_encode_28 : decode cX12_encode 28 = .ok (.ireturn, 1) := by decide +kernel
theorem dX12_encode_29 : decode cX12_encode 29 = .ok (.aload_n 0, 1) := by decide +kernel
theorem dX12_encode_30 : decode cX12_encode 30 = .ok (.invokevirtual 749, 3) := by decide +kernel
theorem dX12_encode_33 : decode cX12_encode 33 = .ok (.aload_n 0, 1) := by decide +kernel
theorem dX12_encode_34 : decode cX12_encode 34 = .ok (.iconst 0, 1) := by decide +kernel
theorem dX12_encode_35 : decode cX12_encode 35 = .ok (.putfield 650, 3) := by decide +kernel
theorem dX12_encode_38 : decode cX12_encode 38 = .ok (.aload_n 0, 1) := by decide +kernel
theorem dX12_encode_39 : decode cX12_encode 39 = .ok (.iconst 0, 1) := by decide +kernel
theorem dX12_encode_40 : decode cX12_encode 40 = .ok (.invokevirtual 743, 3) := by decide +kernel
theorem dX12_encode_43 : decode cX12_encode 43 = .ok (.aload_n 0, 1) := by decide +kernel
theorem dX12_encode_44 : decode cX12_encode 44 = .ok (.getfield 650, 3) := by decide +kernel
theorem dX12_encode_47 : decode cX12_encode 47 = .ok (.ifCond .le 10, 3) := by decide +kernel
theorem dX12_encode_50 : decode cX12_encode 50 = .ok (.aload_n 0, 1) := by decide +kernel
theorem dX12_encode_51 : decode cX12_encode 51 = .ok (.invokevirtual 752, 3) := by decide +kernel
theorem dX12_encode_54 : decode cX12_encode 54 = .ok (.goto (-11), 3) := by decide +kernel
theorem dX12_encode_57 : decode cX12_encode 57 = .ok (.aload_n 0, 1) := by decide +kernel
theorem dX12_encode_58 : decode cX12_encode 58 = .ok (.getfield 271, 3) := by decide +kernel
theorem dX12_encode_61 : decode cX12_encode 61 = .ok (.ireturn, 1) := by decide +kernel
theorem dX12_feed_0 : decode cX12_feed 0 = .ok (.aload_n 0, 1) := by decide +kernel
theorem dX12_feed_1 : decode cX12_feed 1 = .ok (.iload_n 3, 1) := by decide +kernel
theorem dX12_feed_2 : decode cX12_feed 2 = .ok (.iconst 1, 1) := by decide +kernel
theorem dX12_feed_3 : decode cX12_feed 3 = .ok (.if_icmp .lt 9, 3) := by decide +kernel
theorem dX12_feed_6 : decode cX12_feed 6 = .ok (.iload_n 3, 1) := by decide +kernel
theorem dX12_feed_7 : decode cX12_feed 7 = .ok (.bipush 8, 2) := by decide +kernel
theorem dX12_feed_9 : decode cX12_feed 9 = .ok (.if_icmp .le 7, 3) := by decide +kernel
theorem dX12_feed_12 : decode cX12_feed 12 = .ok (.iconst 1, 1) := by decide +kernel
theorem dX12_feed_13 : decode cX12_feed 13 = .ok (.goto 20, 3) := by decide +kernel
theorem dX12_feed_16 : decode cX12_feed 16 = .ok (.aload_n 0, 1) := by decide +kernel
theorem dX12_feed_17 : decode cX12_feed 17 = .ok (.getfield 268, 3) := by decide +kernel
theorem dX12_feed_20 : decode cX12_feed 20 = .ok (.iload_n 3, 1) := by decide +kernel
theorem dX12_feed_21 : decode cX12_feed 21 = .ok (.iadd, 1) := by decide +kernel
theorem dX12_feed_22 : decode cX12_feed 22 = .ok (.sipush 700, 3) := by decide +kernel
theorem dX12_feed_25 : decode cX12_feed 25 = .ok (.if_icmp .le 7, 3) := by decide +kernel
theorem dX12_feed_28 : decode cX12_feed 28 = .ok (.iconst 2, 1) := by decide +kernel
theorem dX12_feed_29 : decode cX12_feed 29 = .ok (.goto 4, 3) := by decide +kernel
theorem dX12_feed_32 : decode cX12_feed 32 = .ok (.iconst 0, 1) := by decide +kernel
theorem dX12_feed_33 : decode cX12_feed 33 = .ok (.putfield 265, 3) := by decide +kernel
theorem dX12_feed_36 : decode cX12_feed 36 = .ok (.aload_n 0, 1) := by decide +kernel
theorem dX12_feed_37 : decode cX12_feed 37 = .ok (.getfield 265, 3) := by decide +kernel
theorem dX12_feed_40 : decode cX12_feed 40 = .ok (.ifCond .eq 5, 3) := by decide +kernel
theorem dX12_feed_43 : decode cX12_feed 43 = .ok (.iconst 0, 1) := by decide +kernel
theorem dX12_feed_44 : decode cX12_feed 44 = .ok (.ireturn, 1) := by decide +kernel
theorem dX12_feed_45 : decode cX12_feed 45 = .ok (.iload_n 3, 1) := by decide +kernel
theorem dX12_feed_46 : decode cX12_feed 46 = .ok (.iconst 1, 1) := by decide +kernel
theorem dX12_feed_47 : decode cX12_feed 47 = .ok (.isub, 1) := by decide +kernel
theorem dX12_feed_48 : decode cX12_feed 48 = .ok (.istore 4, 2) := by decide +kernel
theorem dX12_feed_50 : decode cX12_feed 50 = .ok (.iload 4, 2) := by decide +kernel
theorem dX12_feed_52 : decode cX12_feed 52 = .ok (.ifCond .lt 40, 3) := by decide +kernel
theorem dX12_feed_55 : decode cX12_feed 55 = .ok (.aload_n 0, 1) := by decide +kernel
theorem dX12_feed_56 : decode cX12_feed 56 = .ok (.getfield 7, 3) := by decide +kernel
theorem dX12_feed_59 : decode cX12_feed 59 = .ok (.aload_n 0, 1) := by decide +kernel
theorem dX12_feed_60 : decode cX12_feed 60 = .ok (.getfield 268, 3) := by decide +kernel
theorem dX12_feed_63 : decode cX12_feed 63 = .ok (.lload_n 1, 1) := by decide +kernel
theorem dX12_feed_64 : decode cX12_feed 64 = .ok (.bipush 8, 2) := by decide +kernel
theorem dX12_feed_66 : decode cX12_feed 66 = .ok (.iload 4, 2) := by decide +kernel
theorem dX12_feed_68 : decode cX12_feed 68 = .ok (.imul, 1) := by decide +kernel
theorem dX12_feed_69 : decode cX12_feed 69 = .ok (.lushr, 1) := by decide +kernel
theorem dX12_feed_70 : decode cX12_feed 70 = .ok (.l2i, 1) := by decide +kernel
theorem dX12_feed_71 : decode cX12_feed 71 = .ok (.sipush 255, 3) := by decide +kernel
theorem dX12_feed_74 : decode cX12_feed 74 = .ok (.iand, 1) := by decide +kernel
theorem dX12_feed_75 : decode cX12_feed 75 = .ok (.iastore, 1) := by decide +kernel
theorem dX12_feed_76 : decode cX12_feed 76 = .ok (.aload_n 0, 1) := by decide +kernel
theorem dX12_feed_77 : decode cX12_feed 77 = .ok (.dup, 1) := by decide +kernel
theorem dX12_feed_78 : decode cX12_feed 78 = .ok (.getfield 268, 3) := by decide +kernel
theorem dX12_feed_81 : decode cX12_feed 81 = .ok (.iconst 1, 1) := by decide +kernel
theorem dX12_feed_82 : decode cX12_feed 82 = .ok (.iadd, 1) := by decide +kernel
theorem dX12_feed_83 : decode cX12_feed 83 = .ok (.putfield 268, 3) := by decide +kernel
theorem dX12_feed_86 : decode cX12_feed 86 = .ok (.iinc 4 (-1), 3) := by decide +kernel
theorem dX12_feed_89 : decode cX12_feed 89 = .ok (.goto (-39), 3) := by decide +kernel
theorem dX12_feed_92 : decode cX12_feed 92 = .ok (.aload_n 0, 1) := by decide +kernel
theorem dX12_feed_93 : decode cX12_feed 93 = .ok (.getfield 268, 3) := by decide +kernel
theorem dX12_feed_96 : decode cX12_feed 96 = .ok (.ireturn, 1) := by decide +kernel
theorem dX12_field_0 : decode cX12_field 0 = .ok (.aload_n 0, 1) := by decide +kernel
theorem dX12_field_1 : decode cX12_field 1 = .ok (.iload_n 1, 1) := by decide +kernel
theorem dX12_field_2 : decode cX12_field 2 = .ok (.iload_n 2, 1) := by decide +kernel
theorem dX12_field_3 : decode cX12_field 3 = .ok (.invokevirtual 572, 3) := by decide +kernel
theorem dX12_field_6 : decode cX12_field 6 = .ok (.ifCond .eq 13, 3) := by decide +kernel
theorem dX12_field_9 : decode cX12_field 9 = .ok (.aload_n 0, 1) := by decide +kernel
theorem dX12_field_10 : decode cX12_field 10 = .ok (.iload_n 1, 1) := by decide +kernel
theorem dX12_field_11 : decode cX12_field 11 = .ok (.iload_n 2, 1) := by decide +kernel
theorem dX12_field_12 : decode cX12_field 12 = .ok (.iload_n 3, 1) := by decide +kernel
theorem dX12_field_13 : decode cX12_field 13 = .ok (.invokevirtual 576, 3) := by decide +kernel
theorem dX12_field_16 : decode cX12_field 16 = .ok (.goto 4, 3) := by decide +kernel
theorem dX12_field_19 : decode cX12_field 19 = .ok (.iconst (-1), 1) := by decide +kernel
theorem dX12_field_20 : decode cX12_field 20 = .ok (.istore 5, 2) := by decide +kernel
theorem dX12_field_22 : decode cX12_field 22 = .ok (.aload_n 0, 1) := by decide +kernel
theorem dX12_field_23 : decode cX12_field 23 = .ok (.iload 5, 2) := by decide +kernel
theorem dX12_field_25 : decode cX12_field 25 = .ok (.iconst (-1), 1) := by decide +kernel
theorem dX12_field_26 : decode cX12_field 26 = .ok (.if_icmp .eq 14, 3) := by decide +kernel
theorem dX12_field_29 : decode cX12_field 29 = .ok (.iload 4, 2) := by decide +kernel
theorem dX12_field_31 : decode cX12_field 31 = .ok (.ifCond .lt 9, 3) := by decide +kernel
theorem dX12_field_34 : decode cX12_field 34 = .ok (.iload 4, 2) := by decide +kernel
theorem dX12_field_36 : decode cX12_field 36 = .ok (.iconst 5, 1) := by decide +kernel
theorem dX12_field_37 : decode cX12_field 37 = .ok (.if_icmp .le 7, 3) := by decide +kernel
theorem dX12_field_40 : decode cX12_field 40 = .ok (.iconst 1, 1) := by decide +kernel
theorem dX12_field_41 : decode cX12_field 41 = .ok (.goto 4, 3) := by decide +kernel
theorem dX12_field_44 : decode cX12_field 44 = .ok (.iconst 0, 1) := by decide +kernel
theorem dX12_field_45 : decode cX12_field 45 = .ok (.putfield 265, 3) := by decide +kernel
theorem dX12_field_48 : decode cX12_field 48 = .ok (.aload_n 0, 1) := by decide +kernel
theorem dX12_field_49 : decode cX12_field 49 = .ok (.getfield 265, 3) := by decide +kernel
theorem dX12_field_52 : decode cX12_field 52 = .ok (.ifCond .eq 5, 3) := by decide +kernel
theorem dX12_field_55 : decode cX12_field 55 = .ok (.iconst 0, 1) := by decide +kernel
theorem dX12_field_56 : decode cX12_field 56 = .ok (.ireturn, 1) := by decide +kernel
theorem dX12_field_57 : decode cX12_field 57 = .ok (.iload 4, 2) := by decide +kernel
theorem dX12_field_59 : decode cX12_field 59 = .ok (.tableswitch 95 0 4 #[33, 41, 49, 57, 87], 33) := by decide +kernel
theorem dX12_field_92 : decode cX12_field 92 = .ok (.aload_n 0, 1) := by decide +kernel
theorem dX12_field_93 : decode cX12_field 93 = .ok (.getfield 59, 3) := by decide +kernel
theorem dX12_field_96 : decode cX12_field 96 = .ok (.iload 5, 2) := by decide +kernel
theorem dX12_field_98 : decode cX12_field 98 = .ok (.iaload, 1) := by decide +kernel
theorem dX12_field_99 : decode cX12_field 99 = .ok (.ireturn, 1) := by decide +kernel
theorem dX12_field_100 : decode cX12_field 100 = .ok (.aload_n 0, 1) := by decide +kernel
theorem dX12_field_101 : decode cX12_field 101 = .ok (.getfield 62, 3) := by decide +kernel
theorem dX12_field_104 : decode cX12_field 104 = .ok (.iload 5, 2) := by decide +kernel
theorem dX12_field_106 : decode cX12_field 106 = .ok (.iaload, 1) := by decide +kernel
theorem dX12_field_107 : decode cX12_field 107 = .ok (.ireturn, 1) := by decide +kernel
theorem dX12_field_108 : decode cX12_field 108 = .ok (.aload_n 0, 1) := by decide +kernel
theorem dX12_field_109 : decode cX12_field 109 = .ok (.getfield 65, 3) := by decide +kernel
theorem dX12_field_112 : decode cX12_field 112 = .ok (.iload 5, 2) := by decide +kernel
theorem dX12_field_114 : decode cX12_field 114 = .ok (.iaload, 1) := by decide +kernel
theorem dX12_field_115 : decode cX12_field 115 = .ok (.ireturn, 1) := by decide +kernel
theorem dX12_field_116 : decode cX12_field 116 = .ok (.aload_n 0, 1) := by decide +kernel
theorem dX12_field_117 : decode cX12_field 117 = .ok (.getfield 72, 3) := by decide +kernel
theorem dX12_field_120 : decode cX12_field 120 = .ok (.iload 5, 2) := by decide +kernel
theorem dX12_field_122 : decode cX12_field 122 = .ok (.baload, 1) := by decide +kernel
theorem dX12_field_123 : decode cX12_field 123 = .ok (.ifCond .eq 7, 3) := by decide +kernel
theorem dX12_field_126 : decode cX12_field 126 = .ok (.iconst 2, 1) := by decide +kernel
theorem dX12_field_127 : decode cX12_field 127 = .ok (.goto 18, 3) := by decide +kernel
theorem dX12_field_130 : decode cX12_field 130 = .ok (.aload_n 0, 1) := by decide +kernel
theorem dX12_field_131 : decode cX12_field 131 = .ok (.getfield 68, 3) := by decide +kernel
theorem dX12_field_134 : decode cX12_field 134 = .ok (.iload 5, 2) := by decide +kernel
theorem dX12_field_136 : decode cX12_field 136 = .ok (.baload, 1) := by decide +kernel
theorem dX12_field_137 : decode cX12_field 137 = .ok (.ifCond .eq 7, 3) := by decide +kernel
theorem dX12_field_140 : decode cX12_field 140 = .ok (.iconst 1, 1) := by decide +kernel
theorem dX12_field_141 : decode cX12_field 141 = .ok (.goto 4, 3) := by decide +kernel
theorem dX12_field_144 : decode cX12_field 144 = .ok (.iconst 0, 1) := by decide +kernel
theorem dX12_field_145 : decode cX12_field 145 = .ok (.ireturn, 1) := by decide +kernel
theorem dX12_field_146 : decode cX12_field 146 = .ok (.aload_n 0, 1) := by decide +kernel
theorem dX12_field_147 : decode cX12_field 147 = .ok (.getfield 75, 3) := by decide +kernel
theorem dX12_field_150 : decode cX12_field 150 = .ok (.iload 5, 2) := by decide +kernel
theorem dX12_field_152 : decode cX12_field 152 = .ok (.iaload, 1) := by decide +kernel
theorem dX12_field_153 : decode cX12_field 153 = .ok (.ireturn, 1) := by decide +kernel
theorem dX12_field_154 : decode cX12_field 154 = .ok (.aload_n 0, 1) := by decide +kernel
theorem dX12_field_155 : decode cX12_field 155 = .ok (.getfield 56, 3) := by decide +kernel
theorem dX12_field_158 : decode cX12_field 158 = .ok (.iload 5, 2) := by decide +kernel
theorem dX12_field_160 : decode cX12_field 160 = .ok (.iaload, 1) := by decide +kernel
theorem dX12_field_161 : decode cX12_field 161 = .ok (.ireturn, 1) := by decide +kernel
theorem dX12_isNamed_0 : decode cX12_isNamed 0 = .ok (.iload_n 2, 1) := by decide +kernel
theorem dX12_isNamed_1 : decode cX12_isNamed 1 = .ok (.iload_n 1, 1) := by decide +kernel
theorem dX12_isNamed_2 : decode cX12_isNamed 2 = .ok (.isub, 1) := by decide +kernel
theorem dX12_isNamed_3 : decode cX12_isNamed 3 = .ok (.iload 4, 2) := by decide +kernel
theorem dX12_isNamed_5 : decode cX12_isNamed 5 = .ok (.if_icmp .eq 5, 3) := by decide +kernel
theorem dX12_isNamed_8 : decode cX12_isNamed 8 = .ok (.iconst 0, 1) := by decide +kernel
theorem dX12_isNamed_9 : decode cX12_isNamed 9 = .ok (.ireturn, 1) := by decide +kernel
theorem dX12_isNamed_10 : decode cX12_isNamed 10 = .ok (.iconst 0, 1) := by decide +kernel
theorem dX12_isNamed_11 : decode cX12_isNamed 11 = .ok (.istore 5, 2) := by decide +kernel
theorem dX12_isNamed_13 : decode cX12_isNamed 13 = .ok (.iload 5, 2) := by decide +kernel
theorem dX12_isNamed_15 : decode cX12_isNamed 15 = .ok (.iload 4, 2) := by decide +kernel
theorem dX12_isNamed_17 : decode cX12_isNamed 17 = .ok (.if_icmp .ge 32, 3) := by decide +kernel
theorem dX12_isNamed_20 : decode cX12_isNamed 20 = .ok (.aload_n 0, 1) := by decide +kernel
theorem dX12_isNamed_21 : decode cX12_isNamed 21 = .ok (.getfield 7, 3) := by decide +kernel
theorem dX12_isNamed_24 : decode cX12_isNamed 24 = .ok (.iload_n 1, 1) := by decide +kernel
theorem dX12_isNamed_25 : decode cX12_isNamed 25 = .ok (.iload 5, 2) := by decide +kernel
theorem dX12_isNamed_27 : decode cX12_isNamed 27 = .ok (.iadd, 1) := by decide +kernel
theorem dX12_isNamed_28 : decode cX12_isNamed 28 = .ok (.iaload, 1) := by decide +kernel
theorem dX12_isNamed_29 : decode cX12_isNamed 29 = .ok (.aload_n 0, 1) := by decide +kernel
theorem dX12_isNamed_30 : decode cX12_isNamed 30 = .ok (.getfield 90, 3) := by decide +kernel
theorem dX12_isNamed_33 : decode cX12_isNamed 33 = .ok (.iload_n 3, 1) := by decide +kernel
theorem dX12_isNamed_34 : decode cX12_isNamed 34 = .ok (.iload 5, 2) := by decide +kernel
theorem dX12_isNamed_36 : decode cX12_isNamed 36 = .ok (.iadd, 1) := by decide +kernel
theorem dX12_isNamed_37 : decode cX12_isNamed 37 = .ok (.iaload, 1) := by decide +kernel
theorem dX12_isNamed_38 : decode cX12_isNamed 38 = .ok (.if_icmp .eq 5, 3) := by decide +kernel
theorem dX12_isNamed_41 : decode cX12_isNamed 41 = .ok (.iconst 0, 1) := by decide +kernel
theorem dX12_isNamed_42 : decode cX12_isNamed 42 = .ok (.ireturn, 1) := by decide +kernel
theorem dX12_isNamed_43 : decode cX12_isNamed 43 = .ok (.iinc 5 1, 3) := by decide +kernel
theorem dX12_isNamed_46 : decode cX12_isNamed 46 = .ok (.goto (-33), 3) := by decide +kernel
theorem dX12_isNamed_49 : decode cX12_isNamed 49 = .ok (.iconst 1, 1) := by decide +kernel
theorem dX12_isNamed_50 : decode cX12_isNamed 50 = .ok (.ireturn, 1) := by decide +kernel
theorem dX12_fieldNamed_0 : decode cX12_fieldNamed 0 = .ok (.bipush 60, 2) := by decide +kernel
theorem dX12_fieldNamed_2 : decode cX12_fieldNamed 2 = .ok (.aload_n 0, 1) := by decide +kernel
theorem dX12_fieldNamed_3 : decode cX12_fieldNamed 3 = .ok (.getfield 587, 3) := by decide +kernel
theorem dX12_fieldNamed_6 : decode cX12_fieldNamed 6 = .ok (.imul, 1) := by decide +kernel
theorem dX12_fieldNamed_7 : decode cX12_fieldNamed 7 = .ok (.istore 4, 2) := by decide +kernel
theorem dX12_fieldNamed_9 : decode cX12_fieldNamed 9 = .ok (.iload 4, 2) := by decide +kernel
theorem dX12_fieldNamed_11 : decode cX12_fieldNamed 11 = .ok (.bipush 60, 2) := by decide +kernel
theorem dX12_fieldNamed_13 : decode cX12_fieldNamed 13 = .ok (.aload_n 0, 1) := by decide +kernel
theorem dX12_fieldNamed_14 : decode cX12_fieldNamed 14 = .ok (.getfield 587, 3) := by decide +kernel
theorem dX12_fieldNamed_17 : decode cX12_fieldNamed 17 = .ok (.imul, 1) := by decide +kernel
theorem dX12_fieldNamed_18 : decode cX12_fieldNamed 18 = .ok (.aload_n 0, 1) := by decide +kernel
theorem dX12_fieldNamed_19 : decode cX12_fieldNamed 19 = .ok (.getfield 26, 3) := by decide +kernel
theorem dX12_fieldNamed_22 : decode cX12_fieldNamed 22 = .ok (.aload_n 0, 1) := by decide +kernel
theorem dX12_fieldNamed_23 : decode cX12_fieldNamed 23 = .ok (.getfield 587, 3) := by decide +kernel
theorem dX12_fieldNamed_26 : decode cX12_fieldNamed 26 = .ok (.iaload, 1) := by decide +kernel
theorem dX12_fieldNamed_27 : decode cX12_fieldNamed 27 = .ok (.iadd, 1) := by decide +kernel
theorem dX12_fieldNamed_28 : decode cX12_fieldNamed 28 = .ok (.if_icmp .ge 46, 3) := by decide +kernel
theorem dX12_fieldNamed_31 : decode cX12_fieldNamed 31 = .ok (.aload_n 0, 1) := by decide +kernel
theorem dX12_fieldNamed_32 : decode cX12_fieldNamed 32 = .ok (.getfield 50, 3) := by decide +kernel
theorem dX12_fieldNamed_35 : decode cX12_fieldNamed 35 = .ok (.iload 4, 2) := by decide +kernel
theorem dX12_fieldNamed_37 : decode cX12_fieldNamed 37 = .ok (.iaload, 1) := by decide +kernel
theorem dX12_fieldNamed_38 : decode cX12_fieldNamed 38 = .ok (.iload_n 1, 1) := by decide +kernel
theorem dX12_fieldNamed_39 : decode cX12_fieldNamed 39 = .ok (.if_icmp .ne 29, 3) := by decide +kernel
theorem dX12_fieldNamed_42 : decode cX12_fieldNamed 42 = .ok (.aload_n 0, 1) := by decide +kernel
theorem dX12_fieldNamed_43 : decode cX12_fieldNamed 43 = .ok (.iload_n 2, 1) := by decide +kernel
theorem dX12_fieldNamed_44 : decode cX12_fieldNamed 44 = .ok (.iload_n 3, 1) := by decide +kernel
theorem dX12_fieldNamed_45 : decode cX12_fieldNamed 45 = .ok (.aload_n 0, 1) := by decide +kernel
theorem dX12_fieldNamed_46 : decode cX12_fieldNamed 46 = .ok (.getfield 53, 3) := by decide +kernel
theorem dX12_fieldNamed_49 : decode cX12_fieldNamed 49 = .ok (.iload 4, 2) := by decide +kernel
theorem dX12_fieldNamed_51 : decode cX12_fieldNamed 51 = .ok (.iaload, 1) := by decide +kernel
theorem dX12_fieldNamed_52 : decode cX12_fieldNamed 52 = .ok (.aload_n 0, 1) := by decide +kernel
theorem dX12_fieldNamed_53 : decode cX12_fieldNamed 53 = .ok (.getfield 56, 3) := by decide +kernel
theorem dX12_fieldNamed_56 : decode cX12_fieldNamed 56 = .ok (.iload 4, 2) := by decide +kernel
theorem dX12_fieldNamed_58 : decode cX12_fieldNamed 58 = .ok (.iaload, 1) := by decide +kernel
theorem dX12_fieldNamed_59 : decode cX12_fieldNamed 59 = .ok (.invokevirtual 789, 3) := by decide +kernel
theorem dX12_fieldNamed_62 : decode cX12_fieldNamed 62 = .ok (.ifCond .eq 6, 3) := by decide +kernel
theorem dX12_fieldNamed_65 : decode cX12_fieldNamed 65 = .ok (.iload 4, 2) := by decide +kernel
theorem dX12_fieldNamed_67 : decode cX12_fieldNamed 67 = .ok (.ireturn, 1) := by decide +kernel
theorem dX12_fieldNamed_68 : decode cX12_fieldNamed 68 = .ok (.iinc 4 1, 3) := by decide +kernel
theorem dX12_fieldNamed_71 : decode cX12_fieldNamed 71 = .ok (.goto (-62), 3) := by decide +kernel
theorem dX12_fieldNamed_74 : decode cX12_fieldNamed 74 = .ok (.iconst (-1), 1) := by decide +kernel
theorem dX12_fieldNamed_75 : decode cX12_fieldNamed 75 = .ok (.ireturn, 1) := by decide +kernel
theorem dX12_isTape_0 : decode cX12_isTape 0 = .ok (.iload_n 1, 1) := by decide +kernel
theorem dX12_isTape_1 : decode cX12_isTape 1 = .ok (.iload_n 3, 1) := by decide +kernel
theorem dX12_isTape_2 : decode cX12_isTape 2 = .ok (.iadd, 1) := by decide +kernel
theorem dX12_isTape_3 : decode cX12_isTape 3 = .ok (.aload_n 0, 1) := by decide +kernel
theorem dX12_isTape_4 : decode cX12_isTape 4 = .ok (.getfield 274, 3) := by decide +kernel
theorem dX12_isTape_7 : decode cX12_isTape 7 = .ok (.if_icmp .le 5, 3) := by decide +kernel
theorem dX12_isTape_10 : decode cX12_isTape 10 = .ok (.iconst 0, 1) := by decide +kernel
theorem dX12_isTape_11 : decode cX12_isTape 11 = .ok (.ireturn, 1) := by decide +kernel
theorem dX12_isTape_12 : decode cX12_isTape 12 = .ok (.iconst 0, 1) := by decide +kernel
theorem dX12_isTape_13 : decode cX12_isTape 13 = .ok (.istore 4, 2) := by decide +kernel
theorem dX12_isTape_15 : decode cX12_isTape 15 = .ok (.iload 4, 2) := by decide +kernel
theorem dX12_isTape_17 : decode cX12_isTape 17 = .ok (.iload_n 3, 1) := by decide +kernel
theorem dX12_isTape_18 : decode cX12_isTape 18 = .ok (.if_icmp .ge 32, 3) := by decide +kernel
theorem dX12_isTape_21 : decode cX12_isTape 21 = .ok (.aload_n 0, 1) := by decide +kernel
theorem dX12_isTape_22 : decode cX12_isTape 22 = .ok (.getfield 7, 3) := by decide +kernel
theorem dX12_isTape_25 : decode cX12_isTape 25 = .ok (.iload_n 1, 1) := by decide +kernel
theorem dX12_isTape_26 : decode cX12_isTape 26 = .ok (.iload 4, 2) := by decide +kernel
theorem dX12_isTape_28 : decode cX12_isTape 28 = .ok (.iadd, 1) := by decide +kernel
theorem dX12_isTape_29 : decode cX12_isTape 29 = .ok (.iaload, 1) := by decide +kernel
theorem dX12_isTape_30 : decode cX12_isTape 30 = .ok (.aload_n 0, 1) := by decide +kernel
theorem dX12_isTape_31 : decode cX12_isTape 31 = .ok (.getfield 90, 3) := by decide +kernel
theorem dX12_isTape_34 : decode cX12_isTape 34 = .ok (.iload_n 2, 1) := by decide +kernel
theorem dX12_isTape_35 : decode cX12_isTape 35 = .ok (.iload 4, 2) := by decide +kernel
theorem dX12_isTape_37 : decode cX12_isTape 37 = .ok (.iadd, 1) := by decide +kernel
theorem dX12_isTape_38 : decode cX12_isTape 38 = .ok (.iaload, 1) := by decide +kernel
theorem dX12_isTape_39 : decode cX12_isTape 39 = .ok (.if_icmp .eq 5, 3) := by decide +kernel
theorem dX12_isTape_42 : decode cX12_isTape 42 = .ok (.iconst 0, 1) := by decide +kernel
theorem dX12_isTape_43 : decode cX12_isTape 43 = .ok (.ireturn, 1) := by decide +kernel
theorem dX12_isTape_44 : decode cX12_isTape 44 = .ok (.iinc 4 1, 3) := by decide +kernel
theorem dX12_isTape_47 : decode cX12_isTape 47 = .ok (.goto (-32), 3) := by decide +kernel
theorem dX12_isTape_50 : decode cX12_isTape 50 = .ok (.iload_n 1, 1) := by decide +kernel
theorem dX12_isTape_51 : decode cX12_isTape 51 = .ok (.iload_n 3, 1) := by decide +kernel
theorem dX12_isTape_52 : decode cX12_isTape 52 = .ok (.iadd, 1) := by decide +kernel
theorem dX12_isTape_53 : decode cX12_isTape 53 = .ok (.aload_n 0, 1) := by decide +kernel
theorem dX12_isTape_54 : decode cX12_isTape 54 = .ok (.getfield 274, 3) := by decide +kernel
theorem dX12_isTape_57 : decode cX12_isTape 57 = .ok (.if_icmp .eq 16, 3) := by decide +kernel
theorem dX12_isTape_60 : decode cX12_isTape 60 = .ok (.aload_n 0, 1) := by decide +kernel
theorem dX12_isTape_61 : decode cX12_isTape 61 = .ok (.getfield 7, 3) := by decide +kernel
theorem dX12_isTape_64 : decode cX12_isTape 64 = .ok (.iload_n 1, 1) := by decide +kernel
theorem dX12_isTape_65 : decode cX12_isTape 65 = .ok (.iload_n 3, 1) := by decide +kernel
theorem dX12_isTape_66 : decode cX12_isTape 66 = .ok (.iadd, 1) := by decide +kernel
theorem dX12_isTape_67 : decode cX12_isTape 67 = .ok (.iaload, 1) := by decide +kernel
theorem dX12_isTape_68 : decode cX12_isTape 68 = .ok (.bipush 46, 2) := by decide +kernel
theorem dX12_isTape_70 : decode cX12_isTape 70 = .ok (.if_icmp .ne 7, 3) := by decide +kernel
theorem dX12_isTape_73 : decode cX12_isTape 73 = .ok (.iconst 1, 1) := by decide +kernel
theorem dX12_isTape_74 : decode cX12_isTape 74 = .ok (.goto 4, 3) := by decide +kernel
theorem dX12_isTape_77 : decode cX12_isTape 77 = .ok (.iconst 0, 1) := by decide +kernel
theorem dX12_isTape_78 : decode cX12_isTape 78 = .ok (.ireturn, 1) := by decide +kernel
theorem dX12_named_0 : decode cX12_named 0 = .ok (.bipush 16, 2) := by decide +kernel
theorem dX12_named_2 : decode cX12_named 2 = .ok (.iload_n 1, 1) := by decide +kernel
theorem dX12_named_3 : decode cX12_named 3 = .ok (.imul, 1) := by decide +kernel
theorem dX12_named_4 : decode cX12_named 4 = .ok (.istore 4, 2) := by decide +kernel
theorem dX12_named_6 : decode cX12_named 6 = .ok (.iload 4, 2) := by decide +kernel
theorem dX12_named_8 : decode cX12_named 8 = .ok (.bipush 16, 2) := by decide +kernel
theorem dX12_named_10 : decode cX12_named 10 = .ok (.iload_n 1, 1) := by decide +kernel
theorem dX12_named_11 : decode cX12_named 11 = .ok (.imul, 1) := by decide +kernel
theorem dX12_named_12 : decode cX12_named 12 = .ok (.aload_n 0, 1) := by decide +kernel
theorem dX12_named_13 : decode cX12_named 13 = .ok (.getfield 20, 3) := by decide +kernel
theorem dX12_named_16 : decode cX12_named 16 = .ok (.iload_n 1, 1) := by decide +kernel
theorem dX12_named_17 : decode cX12_named 17 = .ok (.iaload, 1) := by decide +kernel
theorem dX12_named_18 : decode cX12_named 18 = .ok (.iadd, 1) := by decide +kernel
theorem dX12_named_19 : decode cX12_named 19 = .ok (.if_icmp .ge 50, 3) := by decide +kernel
theorem dX12_named_22 : decode cX12_named 22 = .ok (.aload_n 0, 1) := by decide +kernel
theorem dX12_named_23 : decode cX12_named 23 = .ok (.getfield 32, 3) := by decide +kernel
theorem dX12_named_26 : decode cX12_named 26 = .ok (.iload 4, 2) := by decide +kernel
theorem dX12_named_28 : decode cX12_named 28 = .ok (.iaload, 1) := by decide +kernel
theorem dX12_named_29 : decode cX12_named 29 = .ok (.iload_n 2, 1) := by decide +kernel
theorem dX12_named_30 : decode cX12_named 30 = .ok (.if_icmp .ne 33, 3) := by decide +kernel
theorem dX12_named_33 : decode cX12_named 33 = .ok (.aload_n 0, 1) := by decide +kernel
theorem dX12_named_34 : decode cX12_named 34 = .ok (.iload_n 3, 1) := by decide +kernel
theorem dX12_named_35 : decode cX12_named 35 = .ok (.aload_n 0, 1) := by decide +kernel
theorem dX12_named_36 : decode cX12_named 36 = .ok (.getfield 35, 3) := by decide +kernel
theorem dX12_named_39 : decode cX12_named 39 = .ok (.iload 4, 2) := by decide +kernel
theorem dX12_named_41 : decode cX12_named 41 = .ok (.iaload, 1) := by decide +kernel
theorem dX12_named_42 : decode cX12_named 42 = .ok (.aload_n 0, 1) := by decide +kernel
theorem dX12_named_43 : decode cX12_named 43 = .ok (.getfield 38, 3) := by decide +kernel
theorem dX12_named_46 : decode cX12_named 46 = .ok (.iload 4, 2) := by decide +kernel
theorem dX12_named_48 : decode cX12_named 48 = .ok (.iaload, 1) := by decide +kernel
theorem dX12_named_49 : decode cX12_named 49 = .ok (.invokevirtual 580, 3) := by decide +kernel
theorem dX12_named_52 : decode cX12_named 52 = .ok (.ifCond .eq 11, 3) := by decide +kernel
theorem dX12_named_55 : decode cX12_named 55 = .ok (.iload 4, 2) := by decide +kernel
theorem dX12_named_57 : decode cX12_named 57 = .ok (.bipush 16, 2) := by decide +kernel
theorem dX12_named_59 : decode cX12_named 59 = .ok (.iload_n 1, 1) := by decide +kernel
theorem dX12_named_60 : decode cX12_named 60 = .ok (.imul, 1) := by decide +kernel
theorem dX12_named_61 : decode cX12_named 61 = .ok (.isub, 1) := by decide +kernel
theorem dX12_named_62 : decode cX12_named 62 = .ok (.ireturn, 1) := by decide +kernel
theorem dX12_named_63 : decode cX12_named 63 = .ok (.iinc 4 1, 3) := by decide +kernel
theorem dX12_named_66 : decode cX12_named 66 = .ok (.goto (-60), 3) := by decide +kernel
theorem dX12_named_69 : decode cX12_named 69 = .ok (.bipush 8, 2) := by decide +kernel
theorem dX12_named_71 : decode cX12_named 71 = .ok (.iload_n 1, 1) := by decide +kernel
theorem dX12_named_72 : decode cX12_named 72 = .ok (.imul, 1) := by decide +kernel
theorem dX12_named_73 : decode cX12_named 73 = .ok (.istore 4, 2) := by decide +kernel
theorem dX12_named_75 : decode cX12_named 75 = .ok (.iload 4, 2) := by decide +kernel
theorem dX12_named_77 : decode cX12_named 77 = .ok (.bipush 8, 2) := by decide +kernel
theorem dX12_named_79 : decode cX12_named 79 = .ok (.iload_n 1, 1) := by decide +kernel
theorem dX12_named_80 : decode cX12_named 80 = .ok (.imul, 1) := by decide +kernel
theorem dX12_named_81 : decode cX12_named 81 = .ok (.aload_n 0, 1) := by decide +kernel
theorem dX12_named_82 : decode cX12_named 82 = .ok (.getfield 23, 3) := by decide +kernel
theorem dX12_named_85 : decode cX12_named 85 = .ok (.iload_n 1, 1) := by decide +kernel
theorem dX12_named_86 : decode cX12_named 86 = .ok (.iaload, 1) := by decide +kernel
theorem dX12_named_87 : decode cX12_named 87 = .ok (.iadd, 1) := by decide +kernel
theorem dX12_named_88 : decode cX12_named 88 = .ok (.if_icmp .ge 54, 3) := by decide +kernel
theorem dX12_named_91 : decode cX12_named 91 = .ok (.aload_n 0, 1) := by decide +kernel
theorem dX12_named_92 : decode cX12_named 92 = .ok (.getfield 41, 3) := by decide +kernel
theorem dX12_named_95 : decode cX12_named 95 = .ok (.iload 4, 2) := by decide +kernel
theorem dX12_named_97 : decode cX12_named 97 = .ok (.iaload, 1) := by decide +kernel
theorem dX12_named_98 : decode cX12_named 98 = .ok (.iload_n 2, 1) := by decide +kernel
theorem dX12_named_99 : decode cX12_named 99 = .ok (.if_icmp .ne 37, 3) := by decide +kernel
theorem dX12_named_102 : decode cX12_named 102 = .ok (.aload_n 0, 1) := by decide +kernel
theorem dX12_named_103 : decode cX12_named 103 = .ok (.iload_n 3, 1) := by decide +kernel
theorem dX12_named_104 : decode cX12_named 104 = .ok (.aload_n 0, 1) := by decide +kernel
theorem dX12_named_105 : decode cX12_named 105 = .ok (.getfield 44, 3) := by decide +kernel
theorem dX12_named_108 : decode cX12_named 108 = .ok (.iload 4, 2) := by decide +kernel
theorem dX12_named_110 : decode cX12_named 110 = .ok (.iaload, 1) := by decide +kernel
theorem dX12_named_111 : decode cX12_named 111 = .ok (.aload_n 0, 1) := by decide +kernel
theorem dX12_named_112 : decode cX12_named 112 = .ok (.getfield 47, 3) := by decide +kernel
theorem dX12_named_115 : decode cX12_named 115 = .ok (.iload 4, 2) := by decide +kernel
theorem dX12_named_117 : decode cX12_named 117 = .ok (.iaload, 1) := by decide +kernel
theorem dX12_named_118 : decode cX12_named 118 = .ok (.invokevirtual 580, 3) := by decide +kernel
theorem dX12_named_121 : decode cX12_named 121 = .ok (.ifCond .eq 15, 3) := by decide +kernel
theorem dX12_named_124 : decode cX12_named 124 = .ok (.sipush 1000, 3) := by decide +kernel
theorem dX12_named_127 : decode cX12_named 127 = .ok (.iload 4, 2) := by decide +kernel
theorem dX12_named_129 : decode cX12_named 129 = .ok (.iadd, 1) := by decide +kernel
theorem dX12_named_130 : decode cX12_named 130 = .ok (.bipush 8, 2) := by decide +kernel
theorem dX12_named_132 : decode cX12_named 132 = .ok (.iload_n 1, 1) := by decide +kernel
theorem dX12_named_133 : decode cX12_named 133 = .ok (.imul, 1) := by decide +kernel
theorem dX12_named_134 : decode cX12_named 134 = .ok (.isub, 1) := by decide +kernel
theorem dX12_named_135 : decode cX12_named 135 = .ok (.ireturn, 1) := by decide +kernel
theorem dX12_named_136 : decode cX12_named 136 = .ok (.iinc 4 1, 3) := by decide +kernel
theorem dX12_named_139 : decode cX12_named 139 = .ok (.goto (-64), 3) := by decide +kernel
theorem dX12_named_142 : decode cX12_named 142 = .ok (.iconst (-1), 1) := by decide +kernel
theorem dX12_named_143 : decode cX12_named 143 = .ok (.ireturn, 1) := by decide +kernel
theorem dX12_find_0 : decode cX12_find 0 = .ok (.aload_n 0, 1) := by decide +kernel
theorem dX12_find_1 : decode cX12_find 1 = .ok (.aload_n 0, 1) := by decide +kernel
theorem dX12_find_2 : decode cX12_find 2 = .ok (.getfield 268, 3) := by decide +kernel
theorem dX12_find_5 : decode cX12_find 5 = .ok (.putfield 274, 3) := by decide +kernel
theorem dX12_find_8 : decode cX12_find 8 = .ok (.aload_n 0, 1) := by decide +kernel
theorem dX12_find_9 : decode cX12_find 9 = .ok (.iconst 0, 1) := by decide +kernel
theorem dX12_find_10 : decode cX12_find 10 = .ok (.putfield 268, 3) := by decide +kernel
theorem dX12_find_13 : decode cX12_find 13 = .ok (.aload_n 0, 1) := by decide +kernel
theorem dX12_find_14 : decode cX12_find 14 = .ok (.iload_n 1, 1) := by decide +kernel
theorem dX12_find_15 : decode cX12_find 15 = .ok (.invokestatic 548, 3) := by decide +kernel
theorem dX12_find_18 : decode cX12_find 18 = .ok (.ifCond .eq 7, 3) := by decide +kernel
theorem dX12_find_21 : decode cX12_find 21 = .ok (.iconst 0, 1) := by decide +kernel
theorem dX12_find_22 : decode cX12_find 22 = .ok (.goto 4, 3) := by decide +kernel
theorem dX12_find_25 : decode cX12_find 25 = .ok (.iconst 1, 1) := by decide +kernel
theorem dX12_find_26 : decode cX12_find 26 = .ok (.putfield 265, 3) := by decide +kernel
theorem dX12_find_29 : decode cX12_find 29 = .ok (.aload_n 0, 1) := by decide +kernel
theorem dX12_find_30 : decode cX12_find 30 = .ok (.getfield 265, 3) := by decide +kernel
theorem dX12_find_33 : decode cX12_find 33 = .ok (.ifCond .eq 5, 3) := by decide +kernel
theorem dX12_find_36 : decode cX12_find 36 = .ok (.iconst 0, 1) := by decide +kernel
theorem dX12_find_37 : decode cX12_find 37 = .ok (.ireturn, 1) := by decide +kernel
theorem dX12_find_38 : decode cX12_find 38 = .ok (.iconst (-1), 1) := by decide +kernel
theorem dX12_find_39 : decode cX12_find 39 = .ok (.istore_n 2, 1) := by decide +kernel
theorem dX12_find_40 : decode cX12_find 40 = .ok (.iconst 0, 1) := by decide +kernel
theorem dX12_find_41 : decode cX12_find 41 = .ok (.istore_n 3, 1) := by decide +kernel
theorem dX12_find_42 : decode cX12_find 42 = .ok (.iconst 0, 1) := by decide +kernel
theorem dX12_find_43 : decode cX12_find 43 = .ok (.istore 4, 2) := by decide +kernel
theorem dX12_find_45 : decode cX12_find 45 = .ok (.iload 4, 2) := by decide +kernel
theorem dX12_find_47 : decode cX12_find 47 = .ok (.bipush 16, 2) := by decide +kernel
theorem dX12_find_49 : decode cX12_find 49 = .ok (.if_icmp .gt 123, 3) := by decide +kernel
theorem dX12_find_52 : decode cX12_find 52 = .ok (.aload_n 0, 1) := by decide +kernel
theorem dX12_find_53 : decode cX12_find 53 = .ok (.iload_n 1, 1) := by decide +kernel
theorem dX12_find_54 : decode cX12_find 54 = .ok (.iload_n 2, 1) := by decide +kernel
theorem dX12_find_55 : decode cX12_find 55 = .ok (.iload_n 3, 1) := by decide +kernel
theorem dX12_find_56 : decode cX12_find 56 = .ok (.invokevirtual 584, 3) := by decide +kernel
theorem dX12_find_59 : decode cX12_find 59 = .ok (.istore 5, 2) := by decide +kernel
theorem dX12_find_61 : decode cX12_find 61 = .ok (.iload 5, 2) := by decide +kernel
theorem dX12_find_63 : decode cX12_find 63 = .ok (.iconst (-1), 1) := by decide +kernel
theorem dX12_find_64 : decode cX12_find 64 = .ok (.if_icmp .ne 5, 3) := by decide +kernel
theorem dX12_find_67 : decode cX12_find 67 = .ok (.iconst (-1), 1) := by decide +kernel
theorem dX12_find_68 : decode cX12_find 68 = .ok (.ireturn, 1) := by decide +kernel
theorem dX12_find_69 : decode cX12_find 69 = .ok (.iload_n 3, 1) := by decide +kernel
theorem dX12_find_70 : decode cX12_find 70 = .ok (.iload 5, 2) := by decide +kernel
theorem dX12_find_72 : decode cX12_find 72 = .ok (.sipush 1000, 3) := by decide +kernel
theorem dX12_find_75 : decode cX12_find 75 = .ok (.if_icmp .lt 22, 3) := by decide +kernel
theorem dX12_find_78 : decode cX12_find 78 = .ok (.aload_n 0, 1) := by decide +kernel
theorem dX12_find_79 : decode cX12_find 79 = .ok (.getfield 47, 3) := by decide +kernel
theorem dX12_find_82 : decode cX12_find 82 = .ok (.bipush 8, 2) := by decide +kernel
theorem dX12_find_84 : decode cX12_find 84 = .ok (.iload_n 1, 1) := by decide +kernel
theorem dX12_find_85 : decode cX12_find 85 = .ok (.imul, 1) := by decide +kernel
theorem dX12_find_86 : decode cX12_find 86 = .ok (.iload 5, 2) := by decide +kernel
theorem dX12_find_88 : decode cX12_find 88 = .ok (.iadd, 1) := by decide +kernel
theorem dX12_find_89 : decode cX12_find 89 = .ok (.sipush 1000, 3) := by decide +kernel
theorem dX12_find_92 : decode cX12_find 92 = .ok (.isub, 1) := by decide +kernel
theorem dX12_find_93 : decode cX12_find 93 = .ok (.iaload, 1) := by decide +kernel
theorem dX12_find_94 : decode cX12_find 94 = .ok (.goto 15, 3) := by decide +kernel
theorem dX12_find_97 : decode cX12_find 97 = .ok (.aload_n 0, 1) := by decide +kernel
theorem dX12_find_98 : decode cX12_find 98 = .ok (.getfield 38, 3) := by decide +kernel
theorem dX12_find_101 : decode cX12_find 101 = .ok (.bipush 16, 2) := by decide +kernel
theorem dX12_find_103 : decode cX12_find 103 = .ok (.iload_n 1, 1) := by decide +kernel
theorem dX12_find_104 : decode cX12_find 104 = .ok (.imul, 1) := by decide +kernel
theorem dX12_find_105 : decode cX12_find 105 = .ok (.iload 5, 2) := by decide +kernel
theorem dX12_find_107 : decode cX12_find 107 = .ok (.iadd, 1) := by decide +kernel
theorem dX12_find_108 : decode cX12_find 108 = .ok (.iaload, 1) := by decide +kernel
theorem dX12_find_109 : decode cX12_find 109 = .ok (.iadd, 1) := by decide +kernel
theorem dX12_find_110 : decode cX12_find 110 = .ok (.istore 6, 2) := by decide +kernel
theorem dX12_find_112 : decode cX12_find 112 = .ok (.iload 6, 2) := by decide +kernel
theorem dX12_find_114 : decode cX12_find 114 = .ok (.aload_n 0, 1) := by decide +kernel
theorem dX12_find_115 : decode cX12_find 115 = .ok (.getfield 274, 3) := by decide +kernel
theorem dX12_find_118 : decode cX12_find 118 = .ok (.if_icmp .ne 30, 3) := by decide +kernel
theorem dX12_find_121 : decode cX12_find 121 = .ok (.iload 5, 2) := by decide +kernel
theorem dX12_find_123 : decode cX12_find 123 = .ok (.sipush 1000, 3) := by decide +kernel
theorem dX12_find_126 : decode cX12_find 126 = .ok (.if_icmp .lt 19, 3) := by decide +kernel
theorem dX12_find_129 : decode cX12_find 129 = .ok (.aload_n 0, 1) := by decide +kernel
theorem dX12_find_130 : decode cX12_find 130 = .ok (.getfield 20, 3) := by decide +kernel
theorem dX12_find_133 : decode cX12_find 133 = .ok (.iload_n 1, 1) := by decide +kernel
theorem dX12_find_134 : decode cX12_find 134 = .ok (.iaload, 1) := by decide +kernel
theorem dX12_find_135 : decode cX12_find 135 = .ok (.iload 5, 2) := by decide +kernel
theorem dX12_find_137 : decode cX12_find 137 = .ok (.iadd, 1) := by decide +kernel
theorem dX12_find_138 : decode cX12_find 138 = .ok (.sipush 1000, 3) := by decide +kernel
theorem dX12_find_141 : decode cX12_find 141 = .ok (.isub, 1) := by decide +kernel
theorem dX12_find_142 : decode cX12_find 142 = .ok (.goto 5, 3) := by decide +kernel
theorem dX12_find_145 : decode cX12_find 145 = .ok (.iload 5, 2) := by decide +kernel
theorem dX12_find_147 : decode cX12_find 147 = .ok (.ireturn, 1) := by decide +kernel
theorem dX12_find_148 : decode cX12_find 148 = .ok (.iload 5, 2) := by decide +kernel
theorem dX12_find_150 : decode cX12_find 150 = .ok (.sipush 1000, 3) := by decide +kernel
theorem dX12_find_153 : decode cX12_find 153 = .ok (.if_icmp .lt 5, 3) := by decide +kernel
theorem dX12_find_156 : decode cX12_find 156 = .ok (.iconst (-1), 1) := by decide +kernel
theorem dX12_find_157 : decode cX12_find 157 = .ok (.ireturn, 1) := by decide +kernel
theorem dX12_find_158 : decode cX12_find 158 = .ok (.iload 5, 2) := by decide +kernel
theorem dX12_find_160 : decode cX12_find 160 = .ok (.istore_n 2, 1) := by decide +kernel
theorem dX12_find_161 : decode cX12_find 161 = .ok (.iload 6, 2) := by decide +kernel
theorem dX12_find_163 : decode cX12_find 163 = .ok (.iconst 1, 1) := by decide +kernel
theorem dX12_find_164 : decode cX12_find 164 = .ok (.iadd, 1) := by decide +kernel
theorem dX12_find_165 : decode cX12_find 165 = .ok (.istore_n 3, 1) := by decide +kernel
theorem dX12_find_166 : decode cX12_find 166 = .ok (.iinc 4 1, 3) := by decide +kernel
theorem dX12_find_169 : decode cX12_find 169 = .ok (.goto (-124), 3) := by decide +kernel
theorem dX12_find_172 : decode cX12_find 172 = .ok (.iconst (-1), 1) := by decide +kernel
theorem dX12_find_173 : decode cX12_find 173 = .ok (.ireturn, 1) := by decide +kernel
theorem dX12_isEight_0 : decode cX12_isEight 0 = .ok (.aload_n 0, 1) := by decide +kernel
theorem dX12_isEight_1 : decode cX12_isEight 1 = .ok (.iload_n 1, 1) := by decide +kernel
theorem dX12_isEight_2 : decode cX12_isEight 2 = .ok (.invokevirtual 284, 3) := by decide +kernel
theorem dX12_isEight_5 : decode cX12_isEight 5 = .ok (.bipush 48, 2) := by decide +kernel
theorem dX12_isEight_7 : decode cX12_isEight 7 = .ok (.if_icmp .lt 17, 3) := by decide +kernel
theorem dX12_isEight_10 : decode cX12_isEight 10 = .ok (.aload_n 0, 1) := by decide +kernel
theorem dX12_isEight_11 : decode cX12_isEight 11 = .ok (.iload_n 1, 1) := by decide +kernel
theorem dX12_isEight_12 : decode cX12_isEight 12 = .ok (.invokevirtual 284, 3) := by decide +kernel
theorem dX12_isEight_15 : decode cX12_isEight 15 = .ok (.bipush 55, 2) := by decide +kernel
theorem dX12_isEight_17 : decode cX12_isEight 17 = .ok (.if_icmp .gt 7, 3) := by decide +kernel
theorem dX12_isEight_20 : decode cX12_isEight 20 = .ok (.iconst 1, 1) := by decide +kernel
theorem dX12_isEight_21 : decode cX12_isEight 21 = .ok (.goto 4, 3) := by decide +kernel
theorem dX12_isEight_24 : decode cX12_isEight 24 = .ok (.iconst 0, 1) := by decide +kernel
theorem dX12_isEight_25 : decode cX12_isEight 25 = .ok (.ireturn, 1) := by decide +kernel
theorem dX12_leastOf_0 : decode cX12_leastOf 0 = .ok (.iload_n 0, 1) := by decide +kernel
theorem dX12_leastOf_1 : decode cX12_leastOf 1 = .ok (.iconst 1, 1) := by decide +kernel
theorem dX12_leastOf_2 : decode cX12_leastOf 2 = .ok (.if_icmp .eq 14, 3) := by decide +kernel
theorem dX12_leastOf_5 : decode cX12_leastOf 5 = .ok (.iload_n 0, 1) := by decide +kernel
theorem dX12_leastOf_6 : decode cX12_leastOf 6 = .ok (.iconst 5, 1) := by decide +kernel
theorem dX12_leastOf_7 : decode cX12_leastOf 7 = .ok (.if_icmp .eq 9, 3) := by decide +kernel
theorem dX12_leastOf_10 : decode cX12_leastOf 10 = .ok (.iload_n 0, 1) := by decide +kernel
theorem dX12_leastOf_11 : decode cX12_leastOf 11 = .ok (.bipush 9, 2) := by decide +kernel
theorem dX12_leastOf_13 : decode cX12_leastOf 13 = .ok (.if_icmp .ne 7, 3) := by decide +kernel
theorem dX12_leastOf_16 : decode cX12_leastOf 16 = .ok (.ldc2_w 792, 3) := by decide +kernel
theorem dX12_leastOf_19 : decode cX12_leastOf 19 = .ok (.lreturn, 1) := by decide +kernel
theorem dX12_leastOf_20 : decode cX12_leastOf 20 = .ok (.iload_n 0, 1) := by decide +kernel
theorem dX12_leastOf_21 : decode cX12_leastOf 21 = .ok (.ifCond .eq 20, 3) := by decide +kernel
theorem dX12_leastOf_24 : decode cX12_leastOf 24 = .ok (.iload_n 0, 1) := by decide +kernel
theorem dX12_leastOf_25 : decode cX12_leastOf 25 = .ok (.iconst 4, 1) := by decide +kernel
theorem dX12_leastOf_26 : decode cX12_leastOf 26 = .ok (.if_icmp .eq 15, 3) := by decide +kernel
theorem dX12_leastOf_29 : decode cX12_leastOf 29 = .ok (.iload_n 0, 1) := by decide +kernel
theorem dX12_leastOf_30 : decode cX12_leastOf 30 = .ok (.bipush 8, 2) := by decide +kernel
theorem dX12_leastOf_32 : decode cX12_leastOf 32 = .ok (.if_icmp .eq 9, 3) := by decide +kernel
theorem dX12_leastOf_35 : decode cX12_leastOf 35 = .ok (.iload_n 0, 1) := by decide +kernel
theorem dX12_leastOf_36 : decode cX12_leastOf 36 = .ok (.bipush 14, 2) := by decide +kernel
theorem dX12_leastOf_38 : decode cX12_leastOf 38 = .ok (.if_icmp .ne 9, 3) := by decide +kernel
theorem dX12_leastOf_41 : decode cX12_leastOf 41 = .ok (.ldc2_w 528, 3) := by decide +kernel
theorem dX12_leastOf_44 : decode cX12_leastOf 44 = .ok (.goto 4, 3) := by decide +kernel
theorem dX12_leastOf_47 : decode cX12_leastOf 47 = .ok (.lconst 0, 1) := by decide +kernel
theorem dX12_leastOf_48 : decode cX12_leastOf 48 = .ok (.lreturn, 1) := by decide +kernel
theorem dX12_many_0 : decode cX12_many 0 = .ok (.aload_n 0, 1) := by decide +kernel
theorem dX12_many_1 : decode cX12_many 1 = .ok (.iload_n 1, 1) := by decide +kernel
theorem dX12_many_2 : decode cX12_many 2 = .ok (.invokestatic 548, 3) := by decide +kernel
theorem dX12_many_5 : decode cX12_many 5 = .ok (.ifCond .eq 16, 3) := by decide +kernel
theorem dX12_many_8 : decode cX12_many 8 = .ok (.iload_n 2, 1) := by decide +kernel
theorem dX12_many_9 : decode cX12_many 9 = .ok (.ifCond .lt 12, 3) := by decide +kernel
theorem dX12_many_12 : decode cX12_many 12 = .ok (.iload_n 2, 1) := by decide +kernel
theorem dX12_many_13 : decode cX12_many 13 = .ok (.iconst 2, 1) := by decide +kernel
theorem dX12_many_14 : decode cX12_many 14 = .ok (.if_icmp .gt 7, 3) := by decide +kernel
theorem dX12_many_17 : decode cX12_many 17 = .ok (.iconst 0, 1) := by decide +kernel
theorem dX12_many_18 : decode cX12_many 18 = .ok (.goto 4, 3) := by decide +kernel
theorem dX12_many_21 : decode cX12_many 21 = .ok (.iconst 1, 1) := by decide +kernel
theorem dX12_many_22 : decode cX12_many 22 = .ok (.putfield 265, 3) := by decide +kernel
theorem dX12_many_25 : decode cX12_many 25 = .ok (.aload_n 0, 1) := by decide +kernel
theorem dX12_many_26 : decode cX12_many 26 = .ok (.getfield 265, 3) := by decide +kernel
theorem dX12_many_29 : decode cX12_many 29 = .ok (.ifCond .eq 5, 3) := by decide +kernel
theorem dX12_many_32 : decode cX12_many 32 = .ok (.iconst 0, 1) := by decide +kernel
theorem dX12_many_33 : decode cX12_many 33 = .ok (.ireturn, 1) := by decide +kernel
theorem dX12_many_34 : decode cX12_many 34 = .ok (.iload_n 2, 1) := by decide +kernel
theorem dX12_many_35 : decode cX12_many 35 = .ok (.ifCond .ne 12, 3) := by decide +kernel
theorem dX12_many_38 : decode cX12_many 38 = .ok (.aload_n 0, 1) := by decide +kernel
theorem dX12_many_39 : decode cX12_many 39 = .ok (.getfield 20, 3) := by decide +kernel
theorem dX12_many_42 : decode cX12_many 42 = .ok (.iload_n 1, 1) := by decide +kernel
theorem dX12_many_43 : decode cX12_many 43 = .ok (.iaload, 1) := by decide +kernel
theorem dX12_many_44 : decode cX12_many 44 = .ok (.goto 23, 3) := by decide +kernel
theorem dX12_many_47 : decode cX12_many 47 = .ok (.iload_n 2, 1) := by decide +kernel
theorem dX12_many_48 : decode cX12_many 48 = .ok (.iconst 1, 1) := by decide +kernel
theorem dX12_many_49 : decode cX12_many 49 = .ok (.if_icmp .ne 12, 3) := by decide +kernel
theorem dX12_many_52 : decode cX12_many 52 = .ok (.aload_n 0, 1) := by decide +kernel
theorem dX12_many_53 : decode cX12_many 53 = .ok (.getfield 23, 3) := by decide +kernel
theorem dX12_many_56 : decode cX12_many 56 = .ok (.iload_n 1, 1) := by decide +kernel
theorem dX12_many_57 : decode cX12_many 57 = .ok (.iaload, 1) := by decide +kernel
theorem dX12_many_58 : decode cX12_many 58 = .ok (.goto 9, 3) := by decide +kernel
theorem dX12_many_61 : decode cX12_many 61 = .ok (.aload_n 0, 1) := by decide +kernel
theorem dX12_many_62 : decode cX12_many 62 = .ok (.getfield 26, 3) := by decide +kernel
theorem dX12_many_65 : decode cX12_many 65 = .ok (.iload_n 1, 1) := by decide +kernel
theorem dX12_many_66 : decode cX12_many 66 = .ok (.iaload, 1) := by decide +kernel
theorem dX12_many_67 : decode cX12_many 67 = .ok (.ireturn, 1) := by decide +kernel
theorem dX12_mostOf_0 : decode cX12_mostOf 0 = .ok (.iload_n 0, 1) := by decide +kernel
theorem dX12_mostOf_1 : decode cX12_mostOf 1 = .ok (.iconst 3, 1) := by decide +kernel
theorem dX12_mostOf_2 : decode cX12_mostOf 2 = .ok (.if_icmp .eq 9, 3) := by decide +kernel
theorem dX12_mostOf_5 : decode cX12_mostOf 5 = .ok (.iload_n 0, 1) := by decide +kernel
theorem dX12_mostOf_6 : decode cX12_mostOf 6 = .ok (.bipush 7, 2) := by decide +kernel
theorem dX12_mostOf_8 : decode cX12_mostOf 8 = .ok (.if_icmp .ne 7, 3) := by decide +kernel
theorem dX12_mostOf_11 : decode cX12_mostOf 11 = .ok (.ldc2_w 794, 3) := by decide +kernel
theorem dX12_mostOf_14 : decode cX12_mostOf 14 = .ok (.lreturn, 1) := by decide +kernel
theorem dX12_mostOf_15 : decode cX12_mostOf 15 = .ok (.iload_n 0, 1) := by decide +kernel
theorem dX12_mostOf_16 : decode cX12_mostOf 16 = .ok (.iconst 1, 1) := by decide +kernel
theorem dX12_mostOf_17 : decode cX12_mostOf 17 = .ok (.if_icmp .eq 14, 3) := by decide +kernel
theorem dX12_mostOf_20 : decode cX12_mostOf 20 = .ok (.iload_n 0, 1) := by decide +kernel
theorem dX12_mostOf_21 : decode cX12_mostOf 21 = .ok (.iconst 5, 1) := by decide +kernel
theorem dX12_mostOf_22 : decode cX12_mostOf 22 = .ok (.if_icmp .eq 9, 3) := by decide +kernel
theorem dX12_mostOf_25 : decode cX12_mostOf 25 = .ok (.iload_n 0, 1) := by decide +kernel
theorem dX12_mostOf_26 : decode cX12_mostOf 26 = .ok (.bipush 9, 2) := by decide +kernel
theorem dX12_mostOf_28 : decode cX12_mostOf 28 = .ok (.if_icmp .ne 7, 3) := by decide +kernel
theorem dX12_mostOf_31 : decode cX12_mostOf 31 = .ok (.ldc2_w 796, 3) := by decide +kernel
theorem dX12_mostOf_34 : decode cX12_mostOf 34 = .ok (.lreturn, 1) := by decide +kernel
theorem dX12_mostOf_35 : decode cX12_mostOf 35 = .ok (.iload_n 0, 1) := by decide +kernel
theorem dX12_mostOf_36 : decode cX12_mostOf 36 = .ok (.iconst 2, 1) := by decide +kernel
theorem dX12_mostOf_37 : decode cX12_mostOf 37 = .ok (.if_icmp .eq 9, 3) := by decide +kernel
theorem dX12_mostOf_40 : decode cX12_mostOf 40 = .ok (.iload_n 0, 1) := by decide +kernel
theorem dX12_mostOf_41 : decode cX12_mostOf 41 = .ok (.bipush 6, 2) := by decide +kernel
theorem dX12_mostOf_43 : decode cX12_mostOf 43 = .ok (.if_icmp .ne 9, 3) := by decide +kernel
theorem dX12_mostOf_46 : decode cX12_mostOf 46 = .ok (.ldc2_w 639, 3) := by decide +kernel
theorem dX12_mostOf_49 : decode cX12_mostOf 49 = .ok (.goto 6, 3) := by decide +kernel
theorem dX12_mostOf_52 : decode cX12_mostOf 52 = .ok (.ldc2_w 530, 3) := by decide +kernel
theorem dX12_mostOf_55 : decode cX12_mostOf 55 = .ok (.lreturn, 1) := by decide +kernel
theorem dX12_nameEnd_0 : decode cX12_nameEnd 0 = .ok (.iload_n 1, 1) := by decide +kernel
theorem dX12_nameEnd_1 : decode cX12_nameEnd 1 = .ok (.istore_n 2, 1) := by decide +kernel
theorem dX12_nameEnd_2 : decode cX12_nameEnd 2 = .ok (.aload_n 0, 1) := by decide +kernel
theorem dX12_nameEnd_3 : decode cX12_nameEnd 3 = .ok (.iload_n 2, 1) := by decide +kernel
theorem dX12_nameEnd_4 : decode cX12_nameEnd 4 = .ok (.invokevirtual 284, 3) := by decide +kernel
theorem dX12_nameEnd_7 : decode cX12_nameEnd 7 = .ok (.invokestatic 277, 3) := by decide +kernel
theorem dX12_nameEnd_10 : decode cX12_nameEnd 10 = .ok (.ifCond .eq 20, 3) := by decide +kernel
theorem dX12_nameEnd_13 : decode cX12_nameEnd 13 = .ok (.aload_n 0, 1) := by decide +kernel
theorem dX12_nameEnd_14 : decode cX12_nameEnd 14 = .ok (.iload_n 2, 1) := by decide +kernel
theorem dX12_nameEnd_15 : decode cX12_nameEnd 15 = .ok (.invokevirtual 284, 3) := by decide +kernel
theorem dX12_nameEnd_18 : decode cX12_nameEnd 18 = .ok (.invokestatic 313, 3) := by decide +kernel
theorem dX12_nameEnd_21 : decode cX12_nameEnd 21 = .ok (.ifCond .eq 9, 3) := by decide +kernel
theorem dX12_nameEnd_24 : decode cX12_nameEnd 24 = .ok (.iinc 2 1, 3) := by decide +kernel
theorem dX12_nameEnd_27 : decode cX12_nameEnd 27 = .ok (.goto (-14), 3) := by decide +kernel
theorem dX12_nameEnd_30 : decode cX12_nameEnd 30 = .ok (.iload_n 2, 1) := by decide +kernel
theorem dX12_nameEnd_31 : decode cX12_nameEnd 31 = .ok (.ireturn, 1) := by decide +kernel
theorem dX12_out_0 : decode cX12_out 0 = .ok (.aload_n 0, 1) := by decide +kernel
theorem dX12_out_1 : decode cX12_out 1 = .ok (.iload_n 1, 1) := by decide +kernel
theorem dX12_out_2 : decode cX12_out 2 = .ok (.ifCond .lt 11, 3) := by decide +kernel
theorem dX12_out_5 : decode cX12_out 5 = .ok (.iload_n 1, 1) := by decide +kernel
theorem dX12_out_6 : decode cX12_out 6 = .ok (.aload_n 0, 1) := by decide +kernel
theorem dX12_out_7 : decode cX12_out 7 = .ok (.getfield 271, 3) := by decide +kernel
theorem dX12_out_10 : decode cX12_out 10 = .ok (.if_icmp .lt 7, 3) := by decide +kernel
theorem dX12_out_13 : decode cX12_out 13 = .ok (.iconst 1, 1) := by decide +kernel
theorem dX12_out_14 : decode cX12_out 14 = .ok (.goto 4, 3) := by decide +kernel
theorem dX12_out_17 : decode cX12_out 17 = .ok (.iconst 0, 1) := by decide +kernel
theorem dX12_out_18 : decode cX12_out 18 = .ok (.putfield 265, 3) := by decide +kernel
theorem dX12_out_21 : decode cX12_out 21 = .ok (.lconst 0, 1) := by decide +kernel
theorem dX12_out_22 : decode cX12_out 22 = .ok (.lstore_n 2, 1) := by decide +kernel
theorem dX12_out_23 : decode cX12_out 23 = .ok (.iconst 0, 1) := by decide +kernel
theorem dX12_out_24 : decode cX12_out 24 = .ok (.istore 4, 2) := by decide +kernel
theorem dX12_out_26 : decode cX12_out 26 = .ok (.iload 4, 2) := by decide +kernel
theorem dX12_out_28 : decode cX12_out 28 = .ok (.bipush 8, 2) := by decide +kernel
theorem dX12_out_30 : decode cX12_out 30 = .ok (.if_icmp .ge 47, 3) := by decide +kernel
theorem dX12_out_33 : decode cX12_out 33 = .ok (.aload_n 0, 1) := by decide +kernel
theorem dX12_out_34 : decode cX12_out 34 = .ok (.getfield 265, 3) := by decide +kernel
theorem dX12_out_37 : decode cX12_out 37 = .ok (.ifCond .ne 40, 3) := by decide +kernel
theorem dX12_out_40 : decode cX12_out 40 = .ok (.lload_n 2, 1) := by decide +kernel
theorem dX12_out_41 : decode cX12_out 41 = .ok (.bipush 8, 2) := by decide +kernel
theorem dX12_out_43 : decode cX12_out 43 = .ok (.lshl, 1) := by decide +kernel
theorem dX12_out_44 : decode cX12_out 44 = .ok (.iload_n 1, 1) := by decide +kernel
theorem dX12_out_45 : decode cX12_out 45 = .ok (.iload 4, 2) := by decide +kernel
theorem dX12_out_47 : decode cX12_out 47 = .ok (.iadd, 1) := by decide +kernel
theorem dX12_out_48 : decode cX12_out 48 = .ok (.aload_n 0, 1) := by decide +kernel
theorem dX12_out_49 : decode cX12_out 49 = .ok (.getfield 271, 3) := by decide +kernel
theorem dX12_out_52 : decode cX12_out 52 = .ok (.if_icmp .ge 15, 3) := by decide +kernel
theorem dX12_out_55 : decode cX12_out 55 = .ok (.aload_n 0, 1) := by decide +kernel
theorem dX12_out_56 : decode cX12_out 56 = .ok (.getfield 13, 3) := by decide +kernel
theorem dX12_out_59 : decode cX12_out 59 = .ok (.iload_n 1, 1) := by decide +kernel
theorem dX12_out_60 : decode cX12_out 60 = .ok (.iload 4, 2) := by decide +kernel
theorem dX12_out_62 : decode cX12_out 62 = .ok (.iadd, 1) := by decide +kernel
theorem dX12_out_63 : decode cX12_out 63 = .ok (.iaload, 1) := by decide +kernel
theorem dX12_out_64 : decode cX12_out 64 = .ok (.goto 4, 3) := by decide +kernel
theorem dX12_out_67 : decode cX12_out 67 = .ok (.iconst 0, 1) := by decide +kernel
theorem dX12_out_68 : decode cX12_out 68 = .ok (.i2l, 1) := by decide +kernel
theorem dX12_out_69 : decode cX12_out 69 = .ok (.lor, 1) := by decide +kernel
theorem dX12_out_70 : decode cX12_out 70 = .ok (.lstore_n 2, 1) := by decide +kernel
theorem dX12_out_71 : decode cX12_out 71 = .ok (.iinc 4 1, 3) := by decide +kernel
theorem dX12_out_74 : decode cX12_out 74 = .ok (.goto (-48), 3) := by decide +kernel
theorem dX12_out_77 : decode cX12_out 77 = .ok (.lload_n 2, 1) := by decide +kernel
theorem dX12_out_78 : decode cX12_out 78 = .ok (.lreturn, 1) := by decide +kernel
theorem dX12_textBlanks_0 : decode cX12_textBlanks 0 = .ok (.iload_n 1, 1) := by decide +kernel
theorem dX12_textBlanks_1 : decode cX12_textBlanks 1 = .ok (.istore_n 2, 1) := by decide +kernel
theorem dX12_textBlanks_2 : decode cX12_textBlanks 2 = .ok (.aload_n 0, 1) := by decide +kernel
theorem dX12_textBlanks_3 : decode cX12_textBlanks 3 = .ok (.iload_n 2, 1) := by decide +kernel
theorem dX12_textBlanks_4 : decode cX12_textBlanks 4 = .ok (.invokevirtual 284, 3) := by decide +kernel
theorem dX12_textBlanks_7 : decode cX12_textBlanks 7 = .ok (.invokestatic 292, 3) := by decide +kernel
theorem dX12_textBlanks_10 : decode cX12_textBlanks 10 = .ok (.ifCond .ne 13, 3) := by decide +kernel
theorem dX12_textBlanks_13 : decode cX12_textBlanks 13 = .ok (.aload_n 0, 1) := by decide +kernel
theorem dX12_textBlanks_14 : decode cX12_textBlanks 14 = .ok (.iload_n 2, 1) := by decide +kernel
theorem dX12_textBlanks_15 : decode cX12_textBlanks 15 = .ok (.invokevirtual 284, 3) := by decide +kernel
theorem dX12_textBlanks_18 : decode cX12_textBlanks 18 = .ok (.bipush 35, 2) := by decide +kernel
theorem dX12_textBlanks_20 : decode cX12_textBlanks 20 = .ok (.if_icmp .ne 43, 3) := by decide +kernel
theorem dX12_textBlanks_23 : decode cX12_textBlanks 23 = .ok (.aload_n 0, 1) := by decide +kernel
theorem dX12_textBlanks_24 : decode cX12_textBlanks 24 = .ok (.iload_n 2, 1) := by decide +kernel
theorem dX12_textBlanks_25 : decode cX12_textBlanks 25 = .ok (.invokevirtual 284, 3) := by decide +kernel
theorem dX12_textBlanks_28 : decode cX12_textBlanks 28 = .ok (.bipush 35, 2) := by decide +kernel
theorem dX12_textBlanks_30 : decode cX12_textBlanks 30 = .ok (.if_icmp .ne 27, 3) := by decide +kernel
theorem dX12_textBlanks_33 : decode cX12_textBlanks 33 = .ok (.iload_n 2, 1) := by decide +kernel
theorem dX12_textBlanks_34 : decode cX12_textBlanks 34 = .ok (.aload_n 0, 1) := by decide +kernel
theorem dX12_textBlanks_35 : decode cX12_textBlanks 35 = .ok (.getfield 274, 3) := by decide +kernel
theorem dX12_textBlanks_38 : decode cX12_textBlanks 38 = .ok (.if_icmp .ge (-36), 3) := by decide +kernel
theorem dX12_textBlanks_41 : decode cX12_textBlanks 41 = .ok (.aload_n 0, 1) := by decide +kernel
theorem dX12_textBlanks_42 : decode cX12_textBlanks 42 = .ok (.iload_n 2, 1) := by decide +kernel
theorem dX12_textBlanks_43 : decode cX12_textBlanks 43 = .ok (.invokevirtual 284, 3) := by decide +kernel
theorem dX12_textBlanks_46 : decode cX12_textBlanks 46 = .ok (.bipush 10, 2) := by decide +kernel
theorem dX12_textBlanks_48 : decode cX12_textBlanks 48 = .ok (.if_icmp .eq (-46), 3) := by decide +kernel
theorem dX12_textBlanks_51 : decode cX12_textBlanks 51 = .ok (.iinc 2 1, 3) := by decide +kernel
theorem dX12_textBlanks_54 : decode cX12_textBlanks 54 = .ok (.goto (-21), 3) := by decide +kernel
theorem dX12_textBlanks_57 : decode cX12_textBlanks 57 = .ok (.iinc 2 1, 3) := by decide +kernel
theorem dX12_textBlanks_60 : decode cX12_textBlanks 60 = .ok (.goto (-58), 3) := by decide +kernel
theorem dX12_textBlanks_63 : decode cX12_textBlanks 63 = .ok (.iload_n 2, 1) := by decide +kernel
theorem dX12_textBlanks_64 : decode cX12_textBlanks 64 = .ok (.ireturn, 1) := by decide +kernel
theorem dX12_toldBefore_0 : decode cX12_toldBefore 0 = .ok (.aload_n 0, 1) := by decide +kernel
theorem dX12_toldBefore_1 : decode cX12_toldBefore 1 = .ok (.getfield 68, 3) := by decide +kernel
theorem dX12_toldBefore_4 : decode cX12_toldBefore 4 = .ok (.iload_n 2, 1) := by decide +kernel
theorem dX12_toldBefore_5 : decode cX12_toldBefore 5 = .ok (.baload, 1) := by decide +kernel
theorem dX12_toldBefore_6 : decode cX12_toldBefore 6 = .ok (.ifCond .eq 5, 3) := by decide +kernel
theorem dX12_toldBefore_9 : decode cX12_toldBefore 9 = .ok (.iconst 0, 1) := by decide +kernel
theorem dX12_toldBefore_10 : decode cX12_toldBefore 10 = .ok (.ireturn, 1) := by decide +kernel
theorem dX12_toldBefore_11 : decode cX12_toldBefore 11 = .ok (.iconst 0, 1) := by decide +kernel
theorem dX12_toldBefore_12 : decode cX12_toldBefore 12 = .ok (.istore_n 3, 1) := by decide +kernel
theorem dX12_toldBefore_13 : decode cX12_toldBefore 13 = .ok (.iload_n 3, 1) := by decide +kernel
theorem dX12_toldBefore_14 : decode cX12_toldBefore 14 = .ok (.aload_n 0, 1) := by decide +kernel
theorem dX12_toldBefore_15 : decode cX12_toldBefore 15 = .ok (.getfield 596, 3) := by decide +kernel
theorem dX12_toldBefore_18 : decode cX12_toldBefore 18 = .ok (.if_icmp .ge 61, 3) := by decide +kernel
theorem dX12_toldBefore_21 : decode cX12_toldBefore 21 = .ok (.aload_n 0, 1) := by decide +kernel
theorem dX12_toldBefore_22 : decode cX12_toldBefore 22 = .ok (.getfield 205, 3) := by decide +kernel
theorem dX12_toldBefore_25 : decode cX12_toldBefore 25 = .ok (.iload_n 3, 1) := by decide +kernel
theorem dX12_toldBefore_26 : decode cX12_toldBefore 26 = .ok (.iaload, 1) := by decide +kernel
theorem dX12_toldBefore_27 : decode cX12_toldBefore 27 = .ok (.iload_n 1, 1) := by decide +kernel
theorem dX12_toldBefore_28 : decode cX12_toldBefore 28 = .ok (.if_icmp .ne 45, 3) := by decide +kernel
theorem dX12_toldBefore_31 : decode cX12_toldBefore 31 = .ok (.aload_n 0, 1) := by decide +kernel
theorem dX12_toldBefore_32 : decode cX12_toldBefore 32 = .ok (.getfield 208, 3) := by decide +kernel
theorem dX12_toldBefore_35 : decode cX12_toldBefore 35 = .ok (.iload_n 3, 1) := by decide +kernel
theorem dX12_toldBefore_36 : decode cX12_toldBefore 36 = .ok (.iaload, 1) := by decide +kernel
theorem dX12_toldBefore_37 : decode cX12_toldBefore 37 = .ok (.iload_n 2, 1) := by decide +kernel
theorem dX12_toldBefore_38 : decode cX12_toldBefore 38 = .ok (.if_icmp .eq 33, 3) := by decide +kernel
theorem dX12_toldBefore_41 : decode cX12_toldBefore 41 = .ok (.aload_n 0, 1) := by decide +kernel
theorem dX12_toldBefore_42 : decode cX12_toldBefore 42 = .ok (.getfield 75, 3) := by decide +kernel
theorem dX12_toldBefore_45 : decode cX12_toldBefore 45 = .ok (.iload_n 2, 1) := by decide +kernel
theorem dX12_toldBefore_46 : decode cX12_toldBefore 46 = .ok (.iaload, 1) := by decide +kernel
theorem dX12_toldBefore_47 : decode cX12_toldBefore 47 = .ok (.iconst (-1), 1) := by decide +kernel
theorem dX12_toldBefore_48 : decode cX12_toldBefore 48 = .ok (.if_icmp .eq 25, 3) := by decide +kernel
theorem dX12_toldBefore_51 : decode cX12_toldBefore 51 = .ok (.aload_n 0, 1) := by decide +kernel
theorem dX12_toldBefore_52 : decode cX12_toldBefore 52 = .ok (.getfield 75, 3) := by decide +kernel
theorem dX12_toldBefore_55 : decode cX12_toldBefore 55 = .ok (.aload_n 0, 1) := by decide +kernel
theorem dX12_toldBefore_56 : decode cX12_toldBefore 56 = .ok (.getfield 208, 3) := by decide +kernel
theorem dX12_toldBefore_59 : decode cX12_toldBefore 59 = .ok (.iload_n 3, 1) := by decide +kernel
theorem dX12_toldBefore_60 : decode cX12_toldBefore 60 = .ok (.iaload, 1) := by decide +kernel
theorem dX12_toldBefore_61 : decode cX12_toldBefore 61 = .ok (.iaload, 1) := by decide +kernel
theorem dX12_toldBefore_62 : decode cX12_toldBefore 62 = .ok (.aload_n 0, 1) := by decide +kernel
theorem dX12_toldBefore_63 : decode cX12_toldBefore 63 = .ok (.getfield 75, 3) := by decide +kernel
theorem dX12_toldBefore_66 : decode cX12_toldBefore 66 = .ok (.iload_n 2, 1) := by decide +kernel
theorem dX12_toldBefore_67 : decode cX12_toldBefore 67 = .ok (.iaload, 1) := by decide +kernel
theorem dX12_toldBefore_68 : decode cX12_toldBefore 68 = .ok (.if_icmp .ne 5, 3) := by decide +kernel
theorem dX12_toldBefore_71 : decode cX12_toldBefore 71 = .ok (.iconst 1, 1) := by decide +kernel
theorem dX12_toldBefore_72 : decode cX12_toldBefore 72 = .ok (.ireturn, 1) := by decide +kernel
theorem dX12_toldBefore_73 : decode cX12_toldBefore 73 = .ok (.iinc 3 1, 3) := by decide +kernel
theorem dX12_toldBefore_76 : decode cX12_toldBefore 76 = .ok (.goto (-63), 3) := by decide +kernel
theorem dX12_toldBefore_79 : decode cX12_toldBefore 79 = .ok (.iconst 0, 1) := by decide +kernel
theorem dX12_toldBefore_80 : decode cX12_toldBefore 80 = .ok (.ireturn, 1) := by decide +kernel
theorem dX12_parseEscape_0 : decode cX12_parseEscape 0 = .ok (.aload_n 0, 1) := by decide +kernel
theorem dX12_parseEscape_1 : decode cX12_parseEscape 1 = .ok (.aload_n 0, 1) := by decide +kernel
theorem dX12_parseEscape_2 : decode cX12_parseEscape 2 = .ok (.getfield 636, 3) := by decide +kernel
theorem dX12_parseEscape_5 : decode cX12_parseEscape 5 = .ok (.invokevirtual 284, 3) := by decide +kernel
theorem dX12_parseEscape_8 : decode cX12_parseEscape 8 = .ok (.istore_n 1, 1) := by decide +kernel
theorem dX12_parseEscape_9 : decode cX12_parseEscape 9 = .ok (.iload_n 1, 1) := by decide +kernel
theorem dX12_parseEscape_10 : decode cX12_parseEscape 10 = .ok (.bipush 110, 2) := by decide +kernel
theorem dX12_parseEscape_12 : decode cX12_parseEscape 12 = .ok (.if_icmp .ne 8, 3) := by decide +kernel
theorem dX12_parseEscape_15 : decode cX12_parseEscape 15 = .ok (.bipush 10, 2) := by decide +kernel
theorem dX12_parseEscape_17 : decode cX12_parseEscape 17 = .ok (.goto 48, 3) := by decide +kernel
theorem dX12_parseEscape_20 : decode cX12_parseEscape 20 = .ok (.iload_n 1, 1) := by decide +kernel
theorem dX12_parseEscape_21 : decode cX12_parseEscape 21 = .ok (.bipush 114, 2) := by decide +kernel
theorem dX12_parseEscape_23 : decode cX12_parseEscape 23 = .ok (.if_icmp .ne 8, 3) := by decide +kernel
theorem dX12_parseEscape_26 : decode cX12_parseEscape 26 = .ok (.bipush 13, 2) := by decide +kernel
theorem dX12_parseEscape_28 : decode cX12_parseEscape 28 = .ok (.goto 37, 3) := by decide +kernel
theorem dX12_parseEscape_31 : decode cX12_parseEscape 31 = .ok (.iload_n 1, 1) := by decide +kernel
theorem dX12_parseEscape_32 : decode cX12_parseEscape 32 = .ok (.bipush 116, 2) := by decide +kernel
theorem dX12_parseEscape_34 : decode cX12_parseEscape 34 = .ok (.if_icmp .ne 8, 3) := by decide +kernel
theorem dX12_parseEscape_37 : decode cX12_parseEscape 37 = .ok (.bipush 9, 2) := by decide +kernel
theorem dX12_parseEscape_39 : decode cX12_parseEscape 39 = .ok (.goto 26, 3) := by decide +kernel
theorem dX12_parseEscape_42 : decode cX12_parseEscape 42 = .ok (.iload_n 1, 1) := by decide +kernel
theorem dX12_parseEscape_43 : decode cX12_parseEscape 43 = .ok (.bipush 34, 2) := by decide +kernel
theorem dX12_parseEscape_45 : decode cX12_parseEscape 45 = .ok (.if_icmp .eq 15, 3) := by decide +kernel
theorem dX12_parseEscape_48 : decode cX12_parseEscape 48 = .ok (.iload_n 1, 1) := by decide +kernel
theorem dX12_parseEscape_49 : decode cX12_parseEscape 49 = .ok (.bipush 92, 2) := by decide +kernel
theorem dX12_parseEscape_51 : decode cX12_parseEscape 51 = .ok (.if_icmp .eq 9, 3) := by decide +kernel
theorem dX12_parseEscape_54 : decode cX12_parseEscape 54 = .ok (.iload_n 1, 1) := by decide +kernel
theorem dX12_parseEscape_55 : decode cX12_parseEscape 55 = .ok (.bipush 39, 2) := by decide +kernel
theorem dX12_parseEscape_57 : decode cX12_parseEscape 57 = .ok (.if_icmp .ne 7, 3) := by decide +kernel
theorem dX12_parseEscape_60 : decode cX12_parseEscape 60 = .ok (.iload_n 1, 1) := by decide +kernel
theorem dX12_parseEscape_61 : decode cX12_parseEscape 61 = .ok (.goto 4, 3) := by decide +kernel
theorem dX12_parseEscape_64 : decode cX12_parseEscape 64 = .ok (.iconst (-1), 1) := by decide +kernel
theorem dX12_parseEscape_65 : decode cX12_parseEscape 65 = .ok (.istore_n 2, 1) := by decide +kernel
theorem dX12_parseEscape_66 : decode cX12_parseEscape 66 = .ok (.iconst 1, 1) := by decide +kernel
theorem dX12_parseEscape_67 : decode cX12_parseEscape 67 = .ok (.istore_n 3, 1) := by decide +kernel
theorem dX12_parseEscape_68 : decode cX12_parseEscape 68 = .ok (.aload_n 0, 1) := by decide +kernel
theorem dX12_parseEscape_69 : decode cX12_parseEscape 69 = .ok (.aload_n 0, 1) := by decide +kernel
theorem dX12_parseEscape_70 : decode cX12_parseEscape 70 = .ok (.getfield 636, 3) := by decide +kernel
theorem dX12_parseEscape_73 : decode cX12_parseEscape 73 = .ok (.invokevirtual 814, 3) := by decide +kernel
theorem dX12_parseEscape_76 : decode cX12_parseEscape 76 = .ok (.ifCond .eq 70, 3) := by decide +kernel
theorem dX12_parseEscape_79 : decode cX12_parseEscape 79 = .ok (.aload_n 0, 1) := by decide +kernel
theorem dX12_parseEscape_80 : decode cX12_parseEscape 80 = .ok (.aload_n 0, 1) := by decide +kernel
theorem dX12_parseEscape_81 : decode cX12_parseEscape 81 = .ok (.getfield 636, 3) := by decide +kernel
theorem dX12_parseEscape_84 : decode cX12_parseEscape 84 = .ok (.iconst 1, 1) := by decide +kernel
theorem dX12_parseEscape_85 : decode cX12_parseEscape 85 = .ok (.iadd, 1) := by decide +kernel
theorem dX12_parseEscape_86 : decode cX12_parseEscape 86 = .ok (.invokevirtual 814, 3) := by decide +kernel
theorem dX12_parseEscape_89 : decode cX12_parseEscape 89 = .ok (.ifCond .eq 57, 3) := by decide +kernel
theorem dX12_parseEscape_92 : decode cX12_parseEscape 92 = .ok (.aload_n 0, 1) := by decide +kernel
theorem dX12_parseEscape_93 : decode cX12_parseEscape 93 = .ok (.aload_n 0, 1) := by decide +kernel
theorem dX12_parseEscape_94 : decode cX12_parseEscape 94 = .ok (.getfield 636, 3) := by decide +kernel
theorem dX12_parseEscape_97 : decode cX12_parseEscape 97 = .ok (.iconst 2, 1) := by decide +kernel
theorem dX12_parseEscape_98 : decode cX12_parseEscape 98 = .ok (.iadd, 1) := by decide +kernel
theorem dX12_parseEscape_99 : decode cX12_parseEscape 99 = .ok (.invokevirtual 814, 3) := by decide +kernel
theorem dX12_parseEscape_102 : decode cX12_parseEscape 102 = .ok (.ifCond .eq 44, 3) := by decide +kernel
theorem dX12_parseEscape_105 : decode cX12_parseEscape 105 = .ok (.iload_n 1, 1) := by decide +kernel
theorem dX12_parseEscape_106 : decode cX12_parseEscape 106 = .ok (.bipush 48, 2) := by decide +kernel
theorem dX12_parseEscape_108 : decode cX12_parseEscape 108 = .ok (.isub, 1) := by decide +kernel
theorem dX12_parseEscape_109 : decode cX12_parseEscape 109 = .ok (.bipush 64, 2) := by decide +kernel
theorem dX12_parseEscape_111 : decode cX12_parseEscape 111 = .ok (.imul, 1) := by decide +kernel
theorem dX12_parseEscape_112 : decode cX12_parseEscape 112 = .ok (.aload_n 0, 1) := by decide +kernel
theorem dX12_parseEscape_113 : decode cX12_parseEscape 113 = .ok (.aload_n 0, 1) := by decide +kernel
theorem dX12_parseEscape_114 : decode cX12_parseEscape 114 = .ok (.getfield 636, 3) := by decide +kernel
theorem dX12_parseEscape_117 : decode cX12_parseEscape 117 = .ok (.iconst 1, 1) := by decide +kernel
theorem dX12_parseEscape_118 : decode cX12_parseEscape 118 = .ok (.iadd, 1) := by decide +kernel
theorem dX12_parseEscape_119 : decode cX12_parseEscape 119 = .ok (.invokevirtual 284, 3) := by decide +kernel
theorem dX12_parseEscape_122 : decode cX12_parseEscape 122 = .ok (.bipush 48, 2) := by decide +kernel
theorem dX12_parseEscape_124 : decode cX12_parseEscape 124 = .ok (.isub, 1) := by decide +kernel
theorem dX12_parseEscape_125 : decode cX12_parseEscape 125 = .ok (.bipush 8, 2) := by decide +kernel
theorem dX12_parseEscape_127 : decode cX12_parseEscape 127 = .ok (.imul, 1) := by decide +kernel
theorem dX12_parseEscape_128 : decode cX12_parseEscape 128 = .ok (.iadd, 1) := by decide +kernel
theorem dX12_parseEscape_129 : decode cX12_parseEscape 129 = .ok (.aload_n 0, 1) := by decide +kernel
theorem dX12_parseEscape_130 : decode cX12_parseEscape 130 = .ok (.aload_n 0, 1) := by decide +kernel
theorem dX12_parseEscape_131 : decode cX12_parseEscape 131 = .ok (.getfield 636, 3) := by decide +kernel
theorem dX12_parseEscape_134 : decode cX12_parseEscape 134 = .ok (.iconst 2, 1) := by decide +kernel
theorem dX12_parseEscape_135 : decode cX12_parseEscape 135 = .ok (.iadd, 1) := by decide +kernel
theorem dX12_parseEscape_136 : decode cX12_parseEscape 136 = .ok (.invokevirtual 284, 3) := by decide +kernel
theorem dX12_parseEscape_139 : decode cX12_parseEscape 139 = .ok (.iadd, 1) := by decide +kernel
theorem dX12_parseEscape_140 : decode cX12_parseEscape 140 = .ok (.bipush 48, 2) := by decide +kernel
theorem dX12_parseEscape_142 : decode cX12_parseEscape 142 = .ok (.isub, 1) := by decide +kernel
theorem dX12_parseEscape_143 : decode cX12_parseEscape 143 = .ok (.istore_n 2, 1) := by decide +kernel
theorem dX12_parseEscape_144 : decode cX12_parseEscape 144 = .ok (.iconst 3, 1) := by decide +kernel
theorem dX12_parseEscape_145 : decode cX12_parseEscape 145 = .ok (.istore_n 3, 1) := by decide +kernel
theorem dX12_parseEscape_146 : decode cX12_parseEscape 146 = .ok (.iload_n 2, 1) := by decide +kernel
theorem dX12_parseEscape_147 : decode cX12_parseEscape 147 = .ok (.iconst (-1), 1) := by decide +kernel
theorem dX12_parseEscape_148 : decode cX12_parseEscape 148 = .ok (.if_icmp .eq 10, 3) := by decide +kernel
theorem dX12_parseEscape_151 : decode cX12_parseEscape 151 = .ok (.iload_n 2, 1) := by decide +kernel
theorem dX12_parseEscape_152 : decode cX12_parseEscape 152 = .ok (.sipush 255, 3) := by decide +kernel
theorem dX12_parseEscape_155 : decode cX12_parseEscape 155 = .ok (.if_icmp .le 8, 3) := by decide +kernel
theorem dX12_parseEscape_158 : decode cX12_parseEscape 158 = .ok (.aload_n 0, 1) := by decide +kernel
theorem dX12_parseEscape_159 : decode cX12_parseEscape 159 = .ok (.iconst 1, 1) := by decide +kernel
theorem dX12_parseEscape_160 : decode cX12_parseEscape 160 = .ok (.putfield 590, 3) := by decide +kernel
theorem dX12_parseEscape_163 : decode cX12_parseEscape 163 = .ok (.aload_n 0, 1) := by decide +kernel
theorem dX12_parseEscape_164 : decode cX12_parseEscape 164 = .ok (.getfield 235, 3) := by decide +kernel
theorem dX12_parseEscape_167 : decode cX12_parseEscape 167 = .ok (.aload_n 0, 1) := by decide +kernel
theorem dX12_parseEscape_168 : decode cX12_parseEscape 168 = .ok (.getfield 602, 3) := by decide +kernel
theorem dX12_parseEscape_171 : decode cX12_parseEscape 171 = .ok (.iload_n 2, 1) := by decide +kernel
theorem dX12_parseEscape_172 : decode cX12_parseEscape 172 = .ok (.iastore, 1) := by decide +kernel
theorem dX12_parseEscape_173 : decode cX12_parseEscape 173 = .ok (.aload_n 0, 1) := by decide +kernel
theorem dX12_parseEscape_174 : decode cX12_parseEscape 174 = .ok (.dup, 1) := by decide +kernel
theorem dX12_parseEscape_175 : decode cX12_parseEscape 175 = .ok (.getfield 602, 3) := by decide +kernel
theorem dX12_parseEscape_178 : decode cX12_parseEscape 178 = .ok (.iconst 1, 1) := by decide +kernel
theorem dX12_parseEscape_179 : decode cX12_parseEscape 179 = .ok (.iadd, 1) := by decide +kernel
theorem dX12_parseEscape_180 : decode cX12_parseEscape 180 = .ok (.putfield 602, 3) := by decide +kernel
theorem dX12_parseEscape_183 : decode cX12_parseEscape 183 = .ok (.aload_n 0, 1) := by decide +kernel
theorem dX12_parseEscape_184 : decode cX12_parseEscape 184 = .ok (.dup, 1) := by decide +kernel
theorem dX12_parseEscape_185 : decode cX12_parseEscape 185 = .ok (.getfield 636, 3) := by decide +kernel
theorem dX12_parseEscape_188 : decode cX12_parseEscape 188 = .ok (.iload_n 3, 1) := by decide +kernel
theorem dX12_parseEscape_189 : decode cX12_parseEscape 189 = .ok (.iadd, 1) := by decide +kernel
theorem dX12_parseEscape_190 : decode cX12_parseEscape 190 = .ok (.putfield 636, 3) := by decide +kernel
theorem dX12_parseEscape_193 : decode cX12_parseEscape 193 = .ok (.return_, 1) := by decide +kernel
theorem dX12_parseText_0 : decode cX12_parseText 0 = .ok (.aload_n 0, 1) := by decide +kernel
theorem dX12_parseText_1 : decode cX12_parseText 1 = .ok (.aload_n 0, 1) := by decide +kernel
theorem dX12_parseText_2 : decode cX12_parseText 2 = .ok (.getfield 636, 3) := by decide +kernel
theorem dX12_parseText_5 : decode cX12_parseText 5 = .ok (.invokevirtual 284, 3) := by decide +kernel
theorem dX12_parseText_8 : decode cX12_parseText 8 = .ok (.istore_n 3, 1) := by decide +kernel
theorem dX12_parseText_9 : decode cX12_parseText 9 = .ok (.aload_n 0, 1) := by decide +kernel
theorem dX12_parseText_10 : decode cX12_parseText 10 = .ok (.getfield 602, 3) := by decide +kernel
theorem dX12_parseText_13 : decode cX12_parseText 13 = .ok (.istore 4, 2) := by decide +kernel
theorem dX12_parseText_15 : decode cX12_parseText 15 = .ok (.aload_n 0, 1) := by decide +kernel
theorem dX12_parseText_16 : decode cX12_parseText 16 = .ok (.dup, 1) := by decide +kernel
theorem dX12_parseText_17 : decode cX12_parseText 17 = .ok (.getfield 636, 3) := by decide +kernel
theorem dX12_parseText_20 : decode cX12_parseText 20 = .ok (.iconst 1, 1) := by decide +kernel
theorem dX12_parseText_21 : decode cX12_parseText 21 = .ok (.iadd, 1) := by decide +kernel
theorem dX12_parseText_22 : decode cX12_parseText 22 = .ok (.putfield 636, 3) := by decide +kernel
theorem dX12_parseText_25 : decode cX12_parseText 25 = .ok (.aload_n 0, 1) := by decide +kernel
theorem dX12_parseText_26 : decode cX12_parseText 26 = .ok (.getfield 590, 3) := by decide +kernel
theorem dX12_parseText_29 : decode cX12_parseText 29 = .ok (.ifCond .ne 99, 3) := by decide +kernel
theorem dX12_parseText_32 : decode cX12_parseText 32 = .ok (.aload_n 0, 1) := by decide +kernel
theorem dX12_parseText_33 : decode cX12_parseText 33 = .ok (.aload_n 0, 1) := by decide +kernel
theorem dX12_parseText_34 : decode cX12_parseText 34 = .ok (.getfield 636, 3) := by decide +kernel
theorem dX12_parseText_37 : decode cX12_parseText 37 = .ok (.invokevirtual 284, 3) := by decide +kernel
theorem dX12_parseText_40 : decode cX12_parseText 40 = .ok (.iload_n 3, 1) := by decide +kernel
theorem dX12_parseText_41 : decode cX12_parseText 41 = .ok (.if_icmp .eq 87, 3) := by decide +kernel
theorem dX12_parseText_44 : decode cX12_parseText 44 = .ok (.aload_n 0, 1) := by decide +kernel
theorem dX12_parseText_45 : decode cX12_parseText 45 = .ok (.aload_n 0, 1) := by decide +kernel
theorem dX12_parseText_46 : decode cX12_parseText 46 = .ok (.getfield 636, 3) := by decide +kernel
theorem dX12_parseText_49 : decode cX12_parseText 49 = .ok (.invokevirtual 284, 3) := by decide +kernel
theorem dX12_parseText_52 : decode cX12_parseText 52 = .ok (.istore 5, 2) := by decide +kernel
theorem dX12_parseText_54 : decode cX12_parseText 54 = .ok (.iload 5, 2) := by decide +kernel
theorem dX12_parseText_56 : decode cX12_parseText 56 = .ok (.bipush 32, 2) := by decide +kernel
theorem dX12_parseText_58 : decode cX12_parseText 58 = .ok (.if_icmp .lt 10, 3) := by decide +kernel
theorem dX12_parseText_61 : decode cX12_parseText 61 = .ok (.iload 5, 2) := by decide +kernel
theorem dX12_parseText_63 : decode cX12_parseText 63 = .ok (.bipush 126, 2) := by decide +kernel
theorem dX12_parseText_65 : decode cX12_parseText 65 = .ok (.if_icmp .le 8, 3) := by decide +kernel
theorem dX12_parseText_68 : decode cX12_parseText 68 = .ok (.aload_n 0, 1) := by decide +kernel
theorem dX12_parseText_69 : decode cX12_parseText 69 = .ok (.iconst 1, 1) := by decide +kernel
theorem dX12_parseText_70 : decode cX12_parseText 70 = .ok (.putfield 590, 3) := by decide +kernel
theorem dX12_parseText_73 : decode cX12_parseText 73 = .ok (.aload_n 0, 1) := by decide +kernel
theorem dX12_parseText_74 : decode cX12_parseText 74 = .ok (.dup, 1) := by decide +kernel
theorem dX12_parseText_75 : decode cX12_parseText 75 = .ok (.getfield 636, 3) := by decide +kernel
theorem dX12_parseText_78 : decode cX12_parseText 78 = .ok (.iconst 1, 1) := by decide +kernel
theorem dX12_parseText_79 : decode cX12_parseText 79 = .ok (.iadd, 1) := by decide +kernel
theorem dX12_parseText_80 : decode cX12_parseText 80 = .ok (.putfield 636, 3) := by decide +kernel
theorem dX12_parseText_83 : decode cX12_parseText 83 = .ok (.iload 5, 2) := by decide +kernel
theorem dX12_parseText_85 : decode cX12_parseText 85 = .ok (.bipush 92, 2) := by decide +kernel
theorem dX12_parseText_87 : decode cX12_parseText 87 = .ok (.if_icmp .ne 10, 3) := by decide +kernel
theorem dX12_parseText_90 : decode cX12_parseText 90 = .ok (.aload_n 0, 1) := by decide +kernel
theorem dX12_parseText_91 : decode cX12_parseText 91 = .ok (.invokevirtual 817, 3) := by decide +kernel
theorem dX12_parseText_94 : decode cX12_parseText 94 = .ok (.goto 31, 3) := by decide +kernel
theorem dX12_parseText_97 : decode cX12_parseText 97 = .ok (.aload_n 0, 1) := by decide +kernel
theorem dX12_parseText_98 : decode cX12_parseText 98 = .ok (.getfield 590, 3) := by decide +kernel
theorem dX12_parseText_101 : decode cX12_parseText 101 = .ok (.ifCond .ne 24, 3) := by decide +kernel
theorem dX12_parseText_104 : decode cX12_parseText 104 = .ok (.aload_n 0, 1) := by decide +kernel
theorem dX12_parseText_105 : decode cX12_parseText 105 = .ok (.getfield 235, 3) := by decide +kernel
theorem dX12_parseText_108 : decode cX12_parseText 108 = .ok (.aload_n 0, 1) := by decide +kernel
theorem dX12_parseText_109 : decode cX12_parseText 109 = .ok (.getfield 602, 3) := by decide +kernel
theorem dX12_parseText_112 : decode cX12_parseText 112 = .ok (.iload 5, 2) := by decide +kernel
theorem dX12_parseText_114 : decode cX12_parseText 114 = .ok (.iastore, 1) := by decide +kernel
theorem dX12_parseText_115 : decode cX12_parseText 115 = .ok (.aload_n 0, 1) := by decide +kernel
theorem dX12_parseText_116 : decode cX12_parseText 116 = .ok (.dup, 1) := by decide +kernel
theorem dX12_parseText_117 : decode cX12_parseText 117 = .ok (.getfield 602, 3) := by decide +kernel
theorem dX12_parseText_120 : decode cX12_parseText 120 = .ok (.iconst 1, 1) := by decide +kernel
theorem dX12_parseText_121 : decode cX12_parseText 121 = .ok (.iadd, 1) := by decide +kernel
theorem dX12_parseText_122 : decode cX12_parseText 122 = .ok (.putfield 602, 3) := by decide +kernel
theorem dX12_parseText_125 : decode cX12_parseText 125 = .ok (.goto (-100), 3) := by decide +kernel
theorem dX12_parseText_128 : decode cX12_parseText 128 = .ok (.aload_n 0, 1) := by decide +kernel
theorem dX12_parseText_129 : decode cX12_parseText 129 = .ok (.dup, 1) := by decide +kernel
theorem dX12_parseText_130 : decode cX12_parseText 130 = .ok (.getfield 636, 3) := by decide +kernel
theorem dX12_parseText_133 : decode cX12_parseText 133 = .ok (.iconst 1, 1) := by decide +kernel
theorem dX12_parseText_134 : decode cX12_parseText 134 = .ok (.iadd, 1) := by decide +kernel
theorem dX12_parseText_135 : decode cX12_parseText 135 = .ok (.putfield 636, 3) := by decide +kernel
theorem dX12_parseText_138 : decode cX12_parseText 138 = .ok (.aload_n 0, 1) := by decide +kernel
theorem dX12_parseText_139 : decode cX12_parseText 139 = .ok (.getfield 590, 3) := by decide +kernel
theorem dX12_parseText_142 : decode cX12_parseText 142 = .ok (.ifCond .ne 11, 3) := by decide +kernel
theorem dX12_parseText_145 : decode cX12_parseText 145 = .ok (.aload_n 0, 1) := by decide +kernel
theorem dX12_parseText_146 : decode cX12_parseText 146 = .ok (.iload_n 1, 1) := by decide +kernel
theorem dX12_parseText_147 : decode cX12_parseText 147 = .ok (.iload_n 2, 1) := by decide +kernel
theorem dX12_parseText_148 : decode cX12_parseText 148 = .ok (.iload 4, 2) := by decide +kernel
theorem dX12_parseText_150 : decode cX12_parseText 150 = .ok (.invokevirtual 656, 3) := by decide +kernel
theorem dX12_parseText_153 : decode cX12_parseText 153 = .ok (.return_, 1) := by decide +kernel
theorem dX12_parseName_0 : decode cX12_parseName 0 = .ok (.aload_n 0, 1) := by decide +kernel
theorem dX12_parseName_1 : decode cX12_parseName 1 = .ok (.aload_n 0, 1) := by decide +kernel
theorem dX12_parseName_2 : decode cX12_parseName 2 = .ok (.getfield 636, 3) := by decide +kernel
theorem dX12_parseName_5 : decode cX12_parseName 5 = .ok (.invokevirtual 811, 3) := by decide +kernel
theorem dX12_parseName_8 : decode cX12_parseName 8 = .ok (.istore_n 3, 1) := by decide +kernel
theorem dX12_parseName_9 : decode cX12_parseName 9 = .ok (.aload_n 0, 1) := by decide +kernel
theorem dX12_parseName_10 : decode cX12_parseName 10 = .ok (.getfield 62, 3) := by decide +kernel
theorem dX12_parseName_13 : decode cX12_parseName 13 = .ok (.iload_n 2, 1) := by decide +kernel
theorem dX12_parseName_14 : decode cX12_parseName 14 = .ok (.iaload, 1) := by decide +kernel
theorem dX12_parseName_15 : decode cX12_parseName 15 = .ok (.istore 4, 2) := by decide +kernel
theorem dX12_parseName_17 : decode cX12_parseName 17 = .ok (.ldc2_w 794, 3) := by decide +kernel
theorem dX12_parseName_20 : decode cX12_parseName 20 = .ok (.lstore 5, 2) := by decide +kernel
theorem dX12_parseName_22 : decode cX12_parseName 22 = .ok (.iconst 0, 1) := by decide +kernel
theorem dX12_parseName_23 : decode cX12_parseName 23 = .ok (.istore 7, 2) := by decide +kernel
theorem dX12_parseName_25 : decode cX12_parseName 25 = .ok (.iload 4, 2) := by decide +kernel
theorem dX12_parseName_27 : decode cX12_parseName 27 = .ok (.bipush 10, 2) := by decide +kernel
theorem dX12_parseName_29 : decode cX12_parseName 29 = .ok (.if_icmp .ne 62, 3) := by decide +kernel
theorem dX12_parseName_32 : decode cX12_parseName 32 = .ok (.aload_n 0, 1) := by decide +kernel
theorem dX12_parseName_33 : decode cX12_parseName 33 = .ok (.aload_n 0, 1) := by decide +kernel
theorem dX12_parseName_34 : decode cX12_parseName 34 = .ok (.getfield 636, 3) := by decide +kernel
theorem dX12_parseName_37 : decode cX12_parseName 37 = .ok (.iload_n 3, 1) := by decide +kernel
theorem dX12_parseName_38 : decode cX12_parseName 38 = .ok (.ldc2_w 453, 3) := by decide +kernel
theorem dX12_parseName_41 : decode cX12_parseName 41 = .ok (.invokevirtual 342, 3) := by decide +kernel
theorem dX12_parseName_44 : decode cX12_parseName 44 = .ok (.ifCond .ne 18, 3) := by decide +kernel
theorem dX12_parseName_47 : decode cX12_parseName 47 = .ok (.aload_n 0, 1) := by decide +kernel
theorem dX12_parseName_48 : decode cX12_parseName 48 = .ok (.aload_n 0, 1) := by decide +kernel
theorem dX12_parseName_49 : decode cX12_parseName 49 = .ok (.getfield 636, 3) := by decide +kernel
theorem dX12_parseName_52 : decode cX12_parseName 52 = .ok (.iload_n 3, 1) := by decide +kernel
theorem dX12_parseName_53 : decode cX12_parseName 53 = .ok (.ldc2_w 455, 3) := by decide +kernel
theorem dX12_parseName_56 : decode cX12_parseName 56 = .ok (.invokevirtual 342, 3) := by decide +kernel
theorem dX12_parseName_59 : decode cX12_parseName 59 = .ok (.ifCond .eq 7, 3) := by decide +kernel
theorem dX12_parseName_62 : decode cX12_parseName 62 = .ok (.iconst 1, 1) := by decide +kernel
theorem dX12_parseName_63 : decode cX12_parseName 63 = .ok (.goto 4, 3) := by decide +kernel
theorem dX12_parseName_66 : decode cX12_parseName 66 = .ok (.iconst 0, 1) := by decide +kernel
theorem dX12_parseName_67 : decode cX12_parseName 67 = .ok (.istore 7, 2) := by decide +kernel
theorem dX12_parseName_69 : decode cX12_parseName 69 = .ok (.aload_n 0, 1) := by decide +kernel
theorem dX12_parseName_70 : decode cX12_parseName 70 = .ok (.aload_n 0, 1) := by decide +kernel
theorem dX12_parseName_71 : decode cX12_parseName 71 = .ok (.getfield 636, 3) := by decide +kernel
theorem dX12_parseName_74 : decode cX12_parseName 74 = .ok (.iload_n 3, 1) := by decide +kernel
theorem dX12_parseName_75 : decode cX12_parseName 75 = .ok (.ldc2_w 453, 3) := by decide +kernel
theorem dX12_parseName_78 : decode cX12_parseName 78 = .ok (.invokevirtual 342, 3) := by decide +kernel
theorem dX12_parseName_81 : decode cX12_parseName 81 = .ok (.ifCond .eq 7, 3) := by decide +kernel
theorem dX12_parseName_84 : decode cX12_parseName 84 = .ok (.lconst 1, 1) := by decide +kernel
theorem dX12_parseName_85 : decode cX12_parseName 85 = .ok (.goto 4, 3) := by decide +kernel
theorem dX12_parseName_88 : decode cX12_parseName 88 = .ok (.lconst 0, 1) := by decide +kernel
theorem dX12_parseName_89 : decode cX12_parseName 89 = .ok (.lstore 5, 2) := by decide +kernel
theorem dX12_parseName_91 : decode cX12_parseName 91 = .ok (.bipush 40, 2) := by decide +kernel
theorem dX12_parseName_93 : decode cX12_parseName 93 = .ok (.aload_n 0, 1) := by decide +kernel
theorem dX12_parseName_94 : decode cX12_parseName 94 = .ok (.getfield 587, 3) := by decide +kernel
theorem dX12_parseName_97 : decode cX12_parseName 97 = .ok (.imul, 1) := by decide +kernel
theorem dX12_parseName_98 : decode cX12_parseName 98 = .ok (.istore 8, 2) := by decide +kernel
theorem dX12_parseName_100 : decode cX12_parseName 100 = .ok (.iload 8, 2) := by decide +kernel
theorem dX12_parseName_102 : decode cX12_parseName 102 = .ok (.bipush 40, 2) := by decide +kernel
theorem dX12_parseName_104 : decode cX12_parseName 104 = .ok (.aload_n 0, 1) := by decide +kernel
theorem dX12_parseName_105 : decode cX12_parseName 105 = .ok (.getfield 587, 3) := by decide +kernel
theorem dX12_parseName_108 : decode cX12_parseName 108 = .ok (.imul, 1) := by decide +kernel
theorem dX12_parseName_109 : decode cX12_parseName 109 = .ok (.aload_n 0, 1) := by decide +kernel
theorem dX12_parseName_110 : decode cX12_parseName 110 = .ok (.getfield 29, 3) := by decide +kernel
theorem dX12_parseName_113 : decode cX12_parseName 113 = .ok (.aload_n 0, 1) := by decide +kernel
theorem dX12_parseName_114 : decode cX12_parseName 114 = .ok (.getfield 587, 3) := by decide +kernel
theorem dX12_parseName_117 : decode cX12_parseName 117 = .ok (.iaload, 1) := by decide +kernel
theorem dX12_parseName_118 : decode cX12_parseName 118 = .ok (.iadd, 1) := by decide +kernel
theorem dX12_parseName_119 : decode cX12_parseName 119 = .ok (.if_icmp .ge 71, 3) := by decide +kernel
theorem dX12_parseName_122 : decode cX12_parseName 122 = .ok (.iload 4, 2) := by decide +kernel
theorem dX12_parseName_124 : decode cX12_parseName 124 = .ok (.bipush 14, 2) := by decide +kernel
theorem dX12_parseName_126 : decode cX12_parseName 126 = .ok (.if_icmp .ne 64, 3) := by decide +kernel
theorem dX12_parseName_129 : decode cX12_parseName 129 = .ok (.aload_n 0, 1) := by decide +kernel
theorem dX12_parseName_130 : decode cX12_parseName 130 = .ok (.getfield 78, 3) := by decide +kernel
theorem dX12_parseName_133 : decode cX12_parseName 133 = .ok (.iload 8, 2) := by decide +kernel
theorem dX12_parseName_135 : decode cX12_parseName 135 = .ok (.iaload, 1) := by decide +kernel
theorem dX12_parseName_136 : decode cX12_parseName 136 = .ok (.aload_n 0, 1) := by decide +kernel
theorem dX12_parseName_137 : decode cX12_parseName 137 = .ok (.getfield 65, 3) := by decide +kernel
theorem dX12_parseName_140 : decode cX12_parseName 140 = .ok (.iload_n 2, 1) := by decide +kernel
theorem dX12_parseName_141 : decode cX12_parseName 141 = .ok (.iaload, 1) := by decide +kernel
theorem dX12_parseName_142 : decode cX12_parseName 142 = .ok (.if_icmp .ne 42, 3) := by decide +kernel
theorem dX12_parseName_145 : decode cX12_parseName 145 = .ok (.aload_n 0, 1) := by decide +kernel
theorem dX12_parseName_146 : decode cX12_parseName 146 = .ok (.aload_n 0, 1) := by decide +kernel
theorem dX12_parseName_147 : decode cX12_parseName 147 = .ok (.getfield 636, 3) := by decide +kernel
theorem dX12_parseName_150 : decode cX12_parseName 150 = .ok (.iload_n 3, 1) := by decide +kernel
theorem dX12_parseName_151 : decode cX12_parseName 151 = .ok (.aload_n 0, 1) := by decide +kernel
theorem dX12_parseName_152 : decode cX12_parseName 152 = .ok (.getfield 81, 3) := by decide +kernel
theorem dX12_parseName_155 : decode cX12_parseName 155 = .ok (.iload 8, 2) := by decide +kernel
theorem dX12_parseName_157 : decode cX12_parseName 157 = .ok (.iaload, 1) := by decide +kernel
theorem dX12_parseName_158 : decode cX12_parseName 158 = .ok (.aload_n 0, 1) := by decide +kernel
theorem dX12_parseName_159 : decode cX12_parseName 159 = .ok (.getfield 84, 3) := by decide +kernel
theorem dX12_parseName_162 : decode cX12_parseName 162 = .ok (.iload 8, 2) := by decide +kernel
theorem dX12_parseName_164 : decode cX12_parseName 164 = .ok (.iaload, 1) := by decide +kernel
theorem dX12_parseName_165 : decode cX12_parseName 165 = .ok (.invokevirtual 789, 3) := by decide +kernel
theorem dX12_parseName_168 : decode cX12_parseName 168 = .ok (.ifCond .eq 16, 3) := by decide +kernel
theorem dX12_parseName_171 : decode cX12_parseName 171 = .ok (.iconst 1, 1) := by decide +kernel
theorem dX12_parseName_172 : decode cX12_parseName 172 = .ok (.istore 7, 2) := by decide +kernel
theorem dX12_parseName_174 : decode cX12_parseName 174 = .ok (.aload_n 0, 1) := by decide +kernel
theorem dX12_parseName_175 : decode cX12_parseName 175 = .ok (.getfield 87, 3) := by decide +kernel
theorem dX12_parseName_178 : decode cX12_parseName 178 = .ok (.iload 8, 2) := by decide +kernel
theorem dX12_parseName_180 : decode cX12_parseName 180 = .ok (.iaload, 1) := by decide +kernel
theorem dX12_parseName_181 : decode cX12_parseName 181 = .ok (.i2l, 1) := by decide +kernel
theorem dX12_parseName_182 : decode cX12_parseName 182 = .ok (.lstore 5, 2) := by decide +kernel
theorem dX12_parseName_184 : decode cX12_parseName 184 = .ok (.iinc 8 1, 3) := by decide +kernel
theorem dX12_parseName_187 : decode cX12_parseName 187 = .ok (.goto (-87), 3) := by decide +kernel
theorem dX12_parseName_190 : decode cX12_parseName 190 = .ok (.aload_n 0, 1) := by decide +kernel
theorem dX12_parseName_191 : decode cX12_parseName 191 = .ok (.iload_n 3, 1) := by decide +kernel
theorem dX12_parseName_192 : decode cX12_parseName 192 = .ok (.putfield 636, 3) := by decide +kernel
theorem dX12_parseName_195 : decode cX12_parseName 195 = .ok (.iload 7, 2) := by decide +kernel
theorem dX12_parseName_197 : decode cX12_parseName 197 = .ok (.ifCond .ne 11, 3) := by decide +kernel
theorem dX12_parseName_200 : decode cX12_parseName 200 = .ok (.aload_n 0, 1) := by decide +kernel
theorem dX12_parseName_201 : decode cX12_parseName 201 = .ok (.iconst 1, 1) := by decide +kernel
theorem dX12_parseName_202 : decode cX12_parseName 202 = .ok (.putfield 590, 3) := by decide +kernel
theorem dX12_parseName_205 : decode cX12_parseName 205 = .ok (.goto 11, 3) := by decide +kernel
theorem dX12_parseName_208 : decode cX12_parseName 208 = .ok (.aload_n 0, 1) := by decide +kernel
theorem dX12_parseName_209 : decode cX12_parseName 209 = .ok (.iload_n 1, 1) := by decide +kernel
theorem dX12_parseName_210 : decode cX12_parseName 210 = .ok (.iload_n 2, 1) := by decide +kernel
theorem dX12_parseName_211 : decode cX12_parseName 211 = .ok (.lload 5, 2) := by decide +kernel
theorem dX12_parseName_213 : decode cX12_parseName 213 = .ok (.invokevirtual 667, 3) := by decide +kernel
theorem dX12_parseName_216 : decode cX12_parseName 216 = .ok (.return_, 1) := by decide +kernel
theorem dX12_parseNumber_0 : decode cX12_parseNumber 0 = .ok (.aload_n 0, 1) := by decide +kernel
theorem dX12_parseNumber_1 : decode cX12_parseNumber 1 = .ok (.aload_n 0, 1) := by decide +kernel
theorem dX12_parseNumber_2 : decode cX12_parseNumber 2 = .ok (.getfield 636, 3) := by decide +kernel
theorem dX12_parseNumber_5 : decode cX12_parseNumber 5 = .ok (.invokevirtual 284, 3) := by decide +kernel
theorem dX12_parseNumber_8 : decode cX12_parseNumber 8 = .ok (.bipush 45, 2) := by decide +kernel
theorem dX12_parseNumber_10 : decode cX12_parseNumber 10 = .ok (.if_icmp .ne 7, 3) := by decide +kernel
theorem dX12_parseNumber_13 : decode cX12_parseNumber 13 = .ok (.iconst 1, 1) := by decide +kernel
theorem dX12_parseNumber_14 : decode cX12_parseNumber 14 = .ok (.goto 4, 3) := by decide +kernel
theorem dX12_parseNumber_17 : decode cX12_parseNumber 17 = .ok (.iconst 0, 1) := by decide +kernel
theorem dX12_parseNumber_18 : decode cX12_parseNumber 18 = .ok (.istore_n 3, 1) := by decide +kernel
theorem dX12_parseNumber_19 : decode cX12_parseNumber 19 = .ok (.iload_n 3, 1) := by decide +kernel
theorem dX12_parseNumber_20 : decode cX12_parseNumber 20 = .ok (.ifCond .eq 13, 3) := by decide +kernel
theorem dX12_parseNumber_23 : decode cX12_parseNumber 23 = .ok (.aload_n 0, 1) := by decide +kernel
theorem dX12_parseNumber_24 : decode cX12_parseNumber 24 = .ok (.dup, 1) := by decide +kernel
theorem dX12_parseNumber_25 : decode cX12_parseNumber 25 = .ok (.getfield 636, 3) := by decide +kernel
theorem dX12_parseNumber_28 : decode cX12_parseNumber 28 = .ok (.iconst 1, 1) := by decide +kernel
theorem dX12_parseNumber_29 : decode cX12_parseNumber 29 = .ok (.iadd, 1) := by decide +kernel
theorem dX12_parseNumber_30 : decode cX12_parseNumber 30 = .ok (.putfield 636, 3) := by decide +kernel
theorem dX12_parseNumber_33 : decode cX12_parseNumber 33 = .ok (.aload_n 0, 1) := by decide +kernel
theorem dX12_parseNumber_34 : decode cX12_parseNumber 34 = .ok (.getfield 636, 3) := by decide +kernel
theorem dX12_parseNumber_37 : decode cX12_parseNumber 37 = .ok (.istore 4, 2) := by decide +kernel
theorem dX12_parseNumber_39 : decode cX12_parseNumber 39 = .ok (.lconst 0, 1) := by decide +kernel
theorem dX12_parseNumber_40 : decode cX12_parseNumber 40 = .ok (.lstore 5, 2) := by decide +kernel
theorem dX12_parseNumber_42 : decode cX12_parseNumber 42 = .ok (.iconst 0, 1) := by decide +kernel
theorem dX12_parseNumber_43 : decode cX12_parseNumber 43 = .ok (.istore 7, 2) := by decide +kernel
theorem dX12_parseNumber_45 : decode cX12_parseNumber 45 = .ok (.aload_n 0, 1) := by decide +kernel
theorem dX12_parseNumber_46 : decode cX12_parseNumber 46 = .ok (.aload_n 0, 1) := by decide +kernel
theorem dX12_parseNumber_47 : decode cX12_parseNumber 47 = .ok (.getfield 636, 3) := by decide +kernel
theorem dX12_parseNumber_50 : decode cX12_parseNumber 50 = .ok (.invokevirtual 284, 3) := by decide +kernel
theorem dX12_parseNumber_53 : decode cX12_parseNumber 53 = .ok (.invokestatic 281, 3) := by decide +kernel
theorem dX12_parseNumber_56 : decode cX12_parseNumber 56 = .ok (.ifCond .eq 70, 3) := by decide +kernel
theorem dX12_parseNumber_59 : decode cX12_parseNumber 59 = .ok (.aload_n 0, 1) := by decide +kernel
theorem dX12_parseNumber_60 : decode cX12_parseNumber 60 = .ok (.aload_n 0, 1) := by decide +kernel
theorem dX12_parseNumber_61 : decode cX12_parseNumber 61 = .ok (.getfield 636, 3) := by decide +kernel
theorem dX12_parseNumber_64 : decode cX12_parseNumber 64 = .ok (.invokevirtual 284, 3) := by decide +kernel
theorem dX12_parseNumber_67 : decode cX12_parseNumber 67 = .ok (.bipush 48, 2) := by decide +kernel
theorem dX12_parseNumber_69 : decode cX12_parseNumber 69 = .ok (.isub, 1) := by decide +kernel
theorem dX12_parseNumber_70 : decode cX12_parseNumber 70 = .ok (.istore 8, 2) := by decide +kernel
theorem dX12_parseNumber_72 : decode cX12_parseNumber 72 = .ok (.lload 5, 2) := by decide +kernel
theorem dX12_parseNumber_74 : decode cX12_parseNumber 74 = .ok (.ldc2_w 798, 3) := by decide +kernel
theorem dX12_parseNumber_77 : decode cX12_parseNumber 77 = .ok (.invokestatic 800, 3) := by decide +kernel
theorem dX12_parseNumber_80 : decode cX12_parseNumber 80 = .ok (.ifCond .ne 18, 3) := by decide +kernel
theorem dX12_parseNumber_83 : decode cX12_parseNumber 83 = .ok (.lload 5, 2) := by decide +kernel
theorem dX12_parseNumber_85 : decode cX12_parseNumber 85 = .ok (.ldc2_w 798, 3) := by decide +kernel
theorem dX12_parseNumber_88 : decode cX12_parseNumber 88 = .ok (.lcmp, 1) := by decide +kernel
theorem dX12_parseNumber_89 : decode cX12_parseNumber 89 = .ok (.ifCond .ne 12, 3) := by decide +kernel
theorem dX12_parseNumber_92 : decode cX12_parseNumber 92 = .ok (.iload 8, 2) := by decide +kernel
theorem dX12_parseNumber_94 : decode cX12_parseNumber 94 = .ok (.iconst 5, 1) := by decide +kernel
theorem dX12_parseNumber_95 : decode cX12_parseNumber 95 = .ok (.if_icmp .le 6, 3) := by decide +kernel
theorem dX12_parseNumber_98 : decode cX12_parseNumber 98 = .ok (.iconst 1, 1) := by decide +kernel
theorem dX12_parseNumber_99 : decode cX12_parseNumber 99 = .ok (.istore 7, 2) := by decide +kernel
theorem dX12_parseNumber_101 : decode cX12_parseNumber 101 = .ok (.ldc2_w 757, 3) := by decide +kernel
theorem dX12_parseNumber_104 : decode cX12_parseNumber 104 = .ok (.lload 5, 2) := by decide +kernel
theorem dX12_parseNumber_106 : decode cX12_parseNumber 106 = .ok (.lmul, 1) := by decide +kernel
theorem dX12_parseNumber_107 : decode cX12_parseNumber 107 = .ok (.iload 8, 2) := by decide +kernel
theorem dX12_parseNumber_109 : decode cX12_parseNumber 109 = .ok (.i2l, 1) := by decide +kernel
theorem dX12_parseNumber_110 : decode cX12_parseNumber 110 = .ok (.ladd, 1) := by decide +kernel
theorem dX12_parseNumber_111 : decode cX12_parseNumber 111 = .ok (.lstore 5, 2) := by decide +kernel
theorem dX12_parseNumber_113 : decode cX12_parseNumber 113 = .ok (.aload_n 0, 1) := by decide +kernel
theorem dX12_parseNumber_114 : decode cX12_parseNumber 114 = .ok (.dup, 1) := by decide +kernel
theorem dX12_parseNumber_115 : decode cX12_parseNumber 115 = .ok (.getfield 636, 3) := by decide +kernel
theorem dX12_parseNumber_118 : decode cX12_parseNumber 118 = .ok (.iconst 1, 1) := by decide +kernel
theorem dX12_parseNumber_119 : decode cX12_parseNumber 119 = .ok (.iadd, 1) := by decide +kernel
theorem dX12_parseNumber_120 : decode cX12_parseNumber 120 = .ok (.putfield 636, 3) := by decide +kernel
theorem dX12_parseNumber_123 : decode cX12_parseNumber 123 = .ok (.goto (-78), 3) := by decide +kernel
theorem dX12_parseNumber_126 : decode cX12_parseNumber 126 = .ok (.aload_n 0, 1) := by decide +kernel
theorem dX12_parseNumber_127 : decode cX12_parseNumber 127 = .ok (.getfield 62, 3) := by decide +kernel
theorem dX12_parseNumber_130 : decode cX12_parseNumber 130 = .ok (.iload_n 2, 1) := by decide +kernel
theorem dX12_parseNumber_131 : decode cX12_parseNumber 131 = .ok (.iaload, 1) := by decide +kernel
theorem dX12_parseNumber_132 : decode cX12_parseNumber 132 = .ok (.istore 8, 2) := by decide +kernel
theorem dX12_parseNumber_134 : decode cX12_parseNumber 134 = .ok (.iload_n 3, 1) := by decide +kernel
theorem dX12_parseNumber_135 : decode cX12_parseNumber 135 = .ok (.ifCond .eq 12, 3) := by decide +kernel
theorem dX12_parseNumber_138 : decode cX12_parseNumber 138 = .ok (.iload 8, 2) := by decide +kernel
theorem dX12_parseNumber_140 : decode cX12_parseNumber 140 = .ok (.invokestatic 804, 3) := by decide +kernel
theorem dX12_parseNumber_143 : decode cX12_parseNumber 143 = .ok (.lneg, 1) := by decide +kernel
theorem dX12_parseNumber_144 : decode cX12_parseNumber 144 = .ok (.goto 8, 3) := by decide +kernel
theorem dX12_parseNumber_147 : decode cX12_parseNumber 147 = .ok (.iload 8, 2) := by decide +kernel
theorem dX12_parseNumber_149 : decode cX12_parseNumber 149 = .ok (.invokestatic 808, 3) := by decide +kernel
theorem dX12_parseNumber_152 : decode cX12_parseNumber 152 = .ok (.lstore 9, 2) := by decide +kernel
theorem dX12_parseNumber_154 : decode cX12_parseNumber 154 = .ok (.aload_n 0, 1) := by decide +kernel
theorem dX12_parseNumber_155 : decode cX12_parseNumber 155 = .ok (.getfield 636, 3) := by decide +kernel
theorem dX12_parseNumber_158 : decode cX12_parseNumber 158 = .ok (.iload 4, 2) := by decide +kernel
theorem dX12_parseNumber_160 : decode cX12_parseNumber 160 = .ok (.if_icmp .eq 39, 3) := by decide +kernel
theorem dX12_parseNumber_163 : decode cX12_parseNumber 163 = .ok (.aload_n 0, 1) := by decide +kernel
theorem dX12_parseNumber_164 : decode cX12_parseNumber 164 = .ok (.aload_n 0, 1) := by decide +kernel
theorem dX12_parseNumber_165 : decode cX12_parseNumber 165 = .ok (.getfield 636, 3) := by decide +kernel
theorem dX12_parseNumber_168 : decode cX12_parseNumber 168 = .ok (.invokevirtual 284, 3) := by decide +kernel
theorem dX12_parseNumber_171 : decode cX12_parseNumber 171 = .ok (.invokestatic 313, 3) := by decide +kernel
theorem dX12_parseNumber_174 : decode cX12_parseNumber 174 = .ok (.ifCond .ne 25, 3) := by decide +kernel
theorem dX12_parseNumber_177 : decode cX12_parseNumber 177 = .ok (.iload 7, 2) := by decide +kernel
theorem dX12_parseNumber_179 : decode cX12_parseNumber 179 = .ok (.ifCond .ne 20, 3) := by decide +kernel
theorem dX12_parseNumber_182 : decode cX12_parseNumber 182 = .ok (.lload 5, 2) := by decide +kernel
theorem dX12_parseNumber_184 : decode cX12_parseNumber 184 = .ok (.lload 9, 2) := by decide +kernel
theorem dX12_parseNumber_186 : decode cX12_parseNumber 186 = .ok (.invokestatic 800, 3) := by decide +kernel
theorem dX12_parseNumber_189 : decode cX12_parseNumber 189 = .ok (.ifCond .ne 10, 3) := by decide +kernel
theorem dX12_parseNumber_192 : decode cX12_parseNumber 192 = .ok (.iload 8, 2) := by decide +kernel
theorem dX12_parseNumber_194 : decode cX12_parseNumber 194 = .ok (.bipush 10, 2) := by decide +kernel
theorem dX12_parseNumber_196 : decode cX12_parseNumber 196 = .ok (.if_icmp .ne 8, 3) := by decide +kernel
theorem dX12_parseNumber_199 : decode cX12_parseNumber 199 = .ok (.aload_n 0, 1) := by decide +kernel
theorem dX12_parseNumber_200 : decode cX12_parseNumber 200 = .ok (.iconst 1, 1) := by decide +kernel
theorem dX12_parseNumber_201 : decode cX12_parseNumber 201 = .ok (.putfield 590, 3) := by decide +kernel
theorem dX12_parseNumber_204 : decode cX12_parseNumber 204 = .ok (.aload_n 0, 1) := by decide +kernel
theorem dX12_parseNumber_205 : decode cX12_parseNumber 205 = .ok (.getfield 590, 3) := by decide +kernel
theorem dX12_parseNumber_208 : decode cX12_parseNumber 208 = .ok (.ifCond .ne 21, 3) := by decide +kernel
theorem dX12_parseNumber_211 : decode cX12_parseNumber 211 = .ok (.aload_n 0, 1) := by decide +kernel
theorem dX12_parseNumber_212 : decode cX12_parseNumber 212 = .ok (.iload_n 1, 1) := by decide +kernel
theorem dX12_parseNumber_213 : decode cX12_parseNumber 213 = .ok (.iload_n 2, 1) := by decide +kernel
theorem dX12_parseNumber_214 : decode cX12_parseNumber 214 = .ok (.iload_n 3, 1) := by decide +kernel
theorem dX12_parseNumber_215 : decode cX12_parseNumber 215 = .ok (.ifCond .eq 9, 3) := by decide +kernel
theorem dX12_parseNumber_218 : decode cX12_parseNumber 218 = .ok (.lload 5, 2) := by decide +kernel
theorem dX12_parseNumber_220 : decode cX12_parseNumber 220 = .ok (.lneg, 1) := by decide +kernel
theorem dX12_parseNumber_221 : decode cX12_parseNumber 221 = .ok (.goto 5, 3) := by decide +kernel
theorem dX12_parseNumber_224 : decode cX12_parseNumber 224 = .ok (.lload 5, 2) := by decide +kernel
theorem dX12_parseNumber_226 : decode cX12_parseNumber 226 = .ok (.invokevirtual 667, 3) := by decide +kernel
theorem dX12_parseNumber_229 : decode cX12_parseNumber 229 = .ok (.return_, 1) := by decide +kernel
theorem dX12_parsePlain_0 : decode cX12_parsePlain 0 = .ok (.aload_n 0, 1) := by decide +kernel
theorem dX12_parsePlain_1 : decode cX12_parsePlain 1 = .ok (.aload_n 0, 1) := by decide +kernel
theorem dX12_parsePlain_2 : decode cX12_parsePlain 2 = .ok (.getfield 636, 3) := by decide +kernel
theorem dX12_parsePlain_5 : decode cX12_parsePlain 5 = .ok (.invokevirtual 284, 3) := by decide +kernel
theorem dX12_parsePlain_8 : decode cX12_parsePlain 8 = .ok (.istore_n 3, 1) := by decide +kernel
theorem dX12_parsePlain_9 : decode cX12_parsePlain 9 = .ok (.aload_n 0, 1) := by decide +kernel
theorem dX12_parsePlain_10 : decode cX12_parsePlain 10 = .ok (.getfield 62, 3) := by decide +kernel
theorem dX12_parsePlain_13 : decode cX12_parsePlain 13 = .ok (.iload_n 2, 1) := by decide +kernel
theorem dX12_parsePlain_14 : decode cX12_parsePlain 14 = .ok (.iaload, 1) := by decide +kernel
theorem dX12_parsePlain_15 : decode cX12_parsePlain 15 = .ok (.bipush 11, 2) := by decide +kernel
theorem dX12_parsePlain_17 : decode cX12_parsePlain 17 = .ok (.if_icmp .eq 14, 3) := by decide +kernel
theorem dX12_parsePlain_20 : decode cX12_parsePlain 20 = .ok (.aload_n 0, 1) := by decide +kernel
theorem dX12_parsePlain_21 : decode cX12_parsePlain 21 = .ok (.getfield 62, 3) := by decide +kernel
theorem dX12_parsePlain_24 : decode cX12_parsePlain 24 = .ok (.iload_n 2, 1) := by decide +kernel
theorem dX12_parsePlain_25 : decode cX12_parsePlain 25 = .ok (.iaload, 1) := by decide +kernel
theorem dX12_parsePlain_26 : decode cX12_parsePlain 26 = .ok (.bipush 12, 2) := by decide +kernel
theorem dX12_parsePlain_28 : decode cX12_parsePlain 28 = .ok (.if_icmp .ne 7, 3) := by decide +kernel
theorem dX12_parsePlain_31 : decode cX12_parsePlain 31 = .ok (.iconst 1, 1) := by decide +kernel
theorem dX12_parsePlain_32 : decode cX12_parsePlain 32 = .ok (.goto 4, 3) := by decide +kernel
theorem dX12_parsePlain_35 : decode cX12_parsePlain 35 = .ok (.iconst 0, 1) := by decide +kernel
theorem dX12_parsePlain_36 : decode cX12_parsePlain 36 = .ok (.istore 4, 2) := by decide +kernel
theorem dX12_parsePlain_38 : decode cX12_parsePlain 38 = .ok (.iload 4, 2) := by decide +kernel
theorem dX12_parsePlain_40 : decode cX12_parsePlain 40 = .ok (.iload_n 3, 1) := by decide +kernel
theorem dX12_parsePlain_41 : decode cX12_parsePlain 41 = .ok (.bipush 34, 2) := by decide +kernel
theorem dX12_parsePlain_43 : decode cX12_parsePlain 43 = .ok (.if_icmp .eq 9, 3) := by decide +kernel
theorem dX12_parsePlain_46 : decode cX12_parsePlain 46 = .ok (.iload_n 3, 1) := by decide +kernel
theorem dX12_parsePlain_47 : decode cX12_parsePlain 47 = .ok (.bipush 39, 2) := by decide +kernel
theorem dX12_parsePlain_49 : decode cX12_parsePlain 49 = .ok (.if_icmp .ne 7, 3) := by decide +kernel
theorem dX12_parsePlain_52 : decode cX12_parsePlain 52 = .ok (.iconst 1, 1) := by decide +kernel
theorem dX12_parsePlain_53 : decode cX12_parsePlain 53 = .ok (.goto 4, 3) := by decide +kernel
theorem dX12_parsePlain_56 : decode cX12_parsePlain 56 = .ok (.iconst 0, 1) := by decide +kernel
theorem dX12_parsePlain_57 : decode cX12_parsePlain 57 = .ok (.if_icmp .eq 11, 3) := by decide +kernel
theorem dX12_parsePlain_60 : decode cX12_parsePlain 60 = .ok (.aload_n 0, 1) := by decide +kernel
theorem dX12_parsePlain_61 : decode cX12_parsePlain 61 = .ok (.iconst 1, 1) := by decide +kernel
theorem dX12_parsePlain_62 : decode cX12_parsePlain 62 = .ok (.putfield 590, 3) := by decide +kernel
theorem dX12_parsePlain_65 : decode cX12_parsePlain 65 = .ok (.goto 39, 3) := by decide +kernel
theorem dX12_parsePlain_68 : decode cX12_parsePlain 68 = .ok (.iload 4, 2) := by decide +kernel
theorem dX12_parsePlain_70 : decode cX12_parsePlain 70 = .ok (.ifCond .eq 12, 3) := by decide +kernel
theorem dX12_parsePlain_73 : decode cX12_parsePlain 73 = .ok (.aload_n 0, 1) := by decide +kernel
theorem dX12_parsePlain_74 : decode cX12_parsePlain 74 = .ok (.iload_n 1, 1) := by decide +kernel
theorem dX12_parsePlain_75 : decode cX12_parsePlain 75 = .ok (.iload_n 2, 1) := by decide +kernel
theorem dX12_parsePlain_76 : decode cX12_parsePlain 76 = .ok (.invokevirtual 820, 3) := by decide +kernel
theorem dX12_parsePlain_79 : decode cX12_parsePlain 79 = .ok (.goto 25, 3) := by decide +kernel
theorem dX12_parsePlain_82 : decode cX12_parsePlain 82 = .ok (.iload_n 3, 1) := by decide +kernel
theorem dX12_parsePlain_83 : decode cX12_parsePlain 83 = .ok (.invokestatic 277, 3) := by decide +kernel
theorem dX12_parsePlain_86 : decode cX12_parsePlain 86 = .ok (.ifCond .eq 12, 3) := by decide +kernel
theorem dX12_parsePlain_89 : decode cX12_parsePlain 89 = .ok (.aload_n 0, 1) := by decide +kernel
theorem dX12_parsePlain_90 : decode cX12_parsePlain 90 = .ok (.iload_n 1, 1) := by decide +kernel
theorem dX12_parsePlain_91 : decode cX12_parsePlain 91 = .ok (.iload_n 2, 1) := by decide +kernel
theorem dX12_parsePlain_92 : decode cX12_parsePlain 92 = .ok (.invokevirtual 823, 3) := by decide +kernel
theorem dX12_parsePlain_95 : decode cX12_parsePlain 95 = .ok (.goto 9, 3) := by decide +kernel
theorem dX12_parsePlain_98 : decode cX12_parsePlain 98 = .ok (.aload_n 0, 1) := by decide +kernel
theorem dX12_parsePlain_99 : decode cX12_parsePlain 99 = .ok (.iload_n 1, 1) := by decide +kernel
theorem dX12_parsePlain_100 : decode cX12_parsePlain 100 = .ok (.iload_n 2, 1) := by decide +kernel
theorem dX12_parsePlain_101 : decode cX12_parsePlain 101 = .ok (.invokevirtual 826, 3) := by decide +kernel
theorem dX12_parsePlain_104 : decode cX12_parsePlain 104 = .ok (.return_, 1) := by decide +kernel
theorem dX12_parseNext_0 : decode cX12_parseNext 0 = .ok (.aload_n 0, 1) := by decide +kernel
theorem dX12_parseNext_1 : decode cX12_parseNext 1 = .ok (.getfield 238, 3) := by decide +kernel
theorem dX12_parseNext_4 : decode cX12_parseNext 4 = .ok (.aload_n 0, 1) := by decide +kernel
theorem dX12_parseNext_5 : decode cX12_parseNext 5 = .ok (.getfield 650, 3) := by decide +kernel
theorem dX12_parseNext_8 : decode cX12_parseNext 8 = .ok (.iconst 1, 1) := by decide +kernel
theorem dX12_parseNext_9 : decode cX12_parseNext 9 = .ok (.isub, 1) := by decide +kernel
theorem dX12_parseNext_10 : decode cX12_parseNext 10 = .ok (.iaload, 1) := by decide +kernel
theorem dX12_parseNext_11 : decode cX12_parseNext 11 = .ok (.istore_n 1, 1) := by decide +kernel
theorem dX12_parseNext_12 : decode cX12_parseNext 12 = .ok (.aload_n 0, 1) := by decide +kernel
theorem dX12_parseNext_13 : decode cX12_parseNext 13 = .ok (.aload_n 0, 1) := by decide +kernel
theorem dX12_parseNext_14 : decode cX12_parseNext 14 = .ok (.aload_n 0, 1) := by decide +kernel
theorem dX12_parseNext_15 : decode cX12_parseNext 15 = .ok (.getfield 636, 3) := by decide +kernel
theorem dX12_parseNext_18 : decode cX12_parseNext 18 = .ok (.invokevirtual 829, 3) := by decide +kernel
theorem dX12_parseNext_21 : decode cX12_parseNext 21 = .ok (.putfield 636, 3) := by decide +kernel
theorem dX12_parseNext_24 : decode cX12_parseNext 24 = .ok (.aload_n 0, 1) := by decide +kernel
theorem dX12_parseNext_25 : decode cX12_parseNext 25 = .ok (.getfield 636, 3) := by decide +kernel
theorem dX12_parseNext_28 : decode cX12_parseNext 28 = .ok (.aload_n 0, 1) := by decide +kernel
theorem dX12_parseNext_29 : decode cX12_parseNext 29 = .ok (.getfield 274, 3) := by decide +kernel
theorem dX12_parseNext_32 : decode cX12_parseNext 32 = .ok (.if_icmp .eq 16, 3) := by decide +kernel
theorem dX12_parseNext_35 : decode cX12_parseNext 35 = .ok (.aload_n 0, 1) := by decide +kernel
theorem dX12_parseNext_36 : decode cX12_parseNext 36 = .ok (.aload_n 0, 1) := by decide +kernel
theorem dX12_parseNext_37 : decode cX12_parseNext 37 = .ok (.getfield 636, 3) := by decide +kernel
theorem dX12_parseNext_40 : decode cX12_parseNext 40 = .ok (.invokevirtual 284, 3) := by decide +kernel
theorem dX12_parseNext_43 : decode cX12_parseNext 43 = .ok (.bipush 125, 2) := by decide +kernel
theorem dX12_parseNext_45 : decode cX12_parseNext 45 = .ok (.if_icmp .ne 61, 3) := by decide +kernel
theorem dX12_parseNext_48 : decode cX12_parseNext 48 = .ok (.aload_n 0, 1) := by decide +kernel
theorem dX12_parseNext_49 : decode cX12_parseNext 49 = .ok (.getfield 636, 3) := by decide +kernel
theorem dX12_parseNext_52 : decode cX12_parseNext 52 = .ok (.aload_n 0, 1) := by decide +kernel
theorem dX12_parseNext_53 : decode cX12_parseNext 53 = .ok (.getfield 274, 3) := by decide +kernel
theorem dX12_parseNext_56 : decode cX12_parseNext 56 = .ok (.if_icmp .ne 7, 3) := by decide +kernel
theorem dX12_parseNext_59 : decode cX12_parseNext 59 = .ok (.iconst 1, 1) := by decide +kernel
theorem dX12_parseNext_60 : decode cX12_parseNext 60 = .ok (.goto 4, 3) := by decide +kernel
theorem dX12_parseNext_63 : decode cX12_parseNext 63 = .ok (.iconst 0, 1) := by decide +kernel
theorem dX12_parseNext_64 : decode cX12_parseNext 64 = .ok (.aload_n 0, 1) := by decide +kernel
theorem dX12_parseNext_65 : decode cX12_parseNext 65 = .ok (.getfield 650, 3) := by decide +kernel
theorem dX12_parseNext_68 : decode cX12_parseNext 68 = .ok (.iconst 1, 1) := by decide +kernel
theorem dX12_parseNext_69 : decode cX12_parseNext 69 = .ok (.if_icmp .ne 7, 3) := by decide +kernel
theorem dX12_parseNext_72 : decode cX12_parseNext 72 = .ok (.iconst 1, 1) := by decide +kernel
theorem dX12_parseNext_73 : decode cX12_parseNext 73 = .ok (.goto 4, 3) := by decide +kernel
theorem dX12_parseNext_76 : decode cX12_parseNext 76 = .ok (.iconst 0, 1) := by decide +kernel
theorem dX12_parseNext_77 : decode cX12_parseNext 77 = .ok (.if_icmp .eq 8, 3) := by decide +kernel
theorem dX12_parseNext_80 : decode cX12_parseNext 80 = .ok (.aload_n 0, 1) := by decide +kernel
theorem dX12_parseNext_81 : decode cX12_parseNext 81 = .ok (.iconst 1, 1) := by decide +kernel
theorem dX12_parseNext_82 : decode cX12_parseNext 82 = .ok (.putfield 590, 3) := by decide +kernel
theorem dX12_parseNext_85 : decode cX12_parseNext 85 = .ok (.aload_n 0, 1) := by decide +kernel
theorem dX12_parseNext_86 : decode cX12_parseNext 86 = .ok (.dup, 1) := by decide +kernel
theorem dX12_parseNext_87 : decode cX12_parseNext 87 = .ok (.getfield 650, 3) := by decide +kernel
theorem dX12_parseNext_90 : decode cX12_parseNext 90 = .ok (.iconst 1, 1) := by decide +kernel
theorem dX12_parseNext_91 : decode cX12_parseNext 91 = .ok (.isub, 1) := by decide +kernel
theorem dX12_parseNext_92 : decode cX12_parseNext 92 = .ok (.putfield 650, 3) := by decide +kernel
theorem dX12_parseNext_95 : decode cX12_parseNext 95 = .ok (.aload_n 0, 1) := by decide +kernel
theorem dX12_parseNext_96 : decode cX12_parseNext 96 = .ok (.dup, 1) := by decide +kernel
theorem dX12_parseNext_97 : decode cX12_parseNext 97 = .ok (.getfield 636, 3) := by decide +kernel
theorem dX12_parseNext_100 : decode cX12_parseNext 100 = .ok (.iconst 1, 1) := by decide +kernel
theorem dX12_parseNext_101 : decode cX12_parseNext 101 = .ok (.iadd, 1) := by decide +kernel
theorem dX12_parseNext_102 : decode cX12_parseNext 102 = .ok (.putfield 636, 3) := by decide +kernel
theorem dX12_parseNext_105 : decode cX12_parseNext 105 = .ok (.return_, 1) := by decide +kernel
theorem dX12_parseNext_106 : decode cX12_parseNext 106 = .ok (.aload_n 0, 1) := by decide +kernel
theorem dX12_parseNext_107 : decode cX12_parseNext 107 = .ok (.aload_n 0, 1) := by decide +kernel
theorem dX12_parseNext_108 : decode cX12_parseNext 108 = .ok (.getfield 636, 3) := by decide +kernel
theorem dX12_parseNext_111 : decode cX12_parseNext 111 = .ok (.invokevirtual 811, 3) := by decide +kernel
theorem dX12_parseNext_114 : decode cX12_parseNext 114 = .ok (.istore_n 2, 1) := by decide +kernel
theorem dX12_parseNext_115 : decode cX12_parseNext 115 = .ok (.aload_n 0, 1) := by decide +kernel
theorem dX12_parseNext_116 : decode cX12_parseNext 116 = .ok (.aload_n 0, 1) := by decide +kernel
theorem dX12_parseNext_117 : decode cX12_parseNext 117 = .ok (.getfield 190, 3) := by decide +kernel
theorem dX12_parseNext_120 : decode cX12_parseNext 120 = .ok (.iload_n 1, 1) := by decide +kernel
theorem dX12_parseNext_121 : decode cX12_parseNext 121 = .ok (.iaload, 1) := by decide +kernel
theorem dX12_parseNext_122 : decode cX12_parseNext 122 = .ok (.aload_n 0, 1) := by decide +kernel
theorem dX12_parseNext_123 : decode cX12_parseNext 123 = .ok (.getfield 636, 3) := by decide +kernel
theorem dX12_parseNext_126 : decode cX12_parseNext 126 = .ok (.iload_n 2, 1) := by decide +kernel
theorem dX12_parseNext_127 : decode cX12_parseNext 127 = .ok (.invokevirtual 832, 3) := by decide +kernel
theorem dX12_parseNext_130 : decode cX12_parseNext 130 = .ok (.istore_n 3, 1) := by decide +kernel
theorem dX12_parseNext_131 : decode cX12_parseNext 131 = .ok (.iload_n 3, 1) := by decide +kernel
theorem dX12_parseNext_132 : decode cX12_parseNext 132 = .ok (.iconst (-1), 1) := by decide +kernel
theorem dX12_parseNext_133 : decode cX12_parseNext 133 = .ok (.if_icmp .eq 12, 3) := by decide +kernel
theorem dX12_parseNext_136 : decode cX12_parseNext 136 = .ok (.aload_n 0, 1) := by decide +kernel
theorem dX12_parseNext_137 : decode cX12_parseNext 137 = .ok (.iload_n 1, 1) := by decide +kernel
theorem dX12_parseNext_138 : decode cX12_parseNext 138 = .ok (.iload_n 3, 1) := by decide +kernel
theorem dX12_parseNext_139 : decode cX12_parseNext 139 = .ok (.invokevirtual 835, 3) := by decide +kernel
theorem dX12_parseNext_142 : decode cX12_parseNext 142 = .ok (.ifCond .eq 9, 3) := by decide +kernel
theorem dX12_parseNext_145 : decode cX12_parseNext 145 = .ok (.aload_n 0, 1) := by decide +kernel
theorem dX12_parseNext_146 : decode cX12_parseNext 146 = .ok (.iconst 1, 1) := by decide +kernel
theorem dX12_parseNext_147 : decode cX12_parseNext 147 = .ok (.putfield 590, 3) := by decide +kernel
theorem dX12_parseNext_150 : decode cX12_parseNext 150 = .ok (.return_, 1) := by decide +kernel
theorem dX12_parseNext_151 : decode cX12_parseNext 151 = .ok (.aload_n 0, 1) := by decide +kernel
theorem dX12_parseNext_152 : decode cX12_parseNext 152 = .ok (.aload_n 0, 1) := by decide +kernel
theorem dX12_parseNext_153 : decode cX12_parseNext 153 = .ok (.iload_n 2, 1) := by decide +kernel
theorem dX12_parseNext_154 : decode cX12_parseNext 154 = .ok (.invokevirtual 829, 3) := by decide +kernel
theorem dX12_parseNext_157 : decode cX12_parseNext 157 = .ok (.putfield 636, 3) := by decide +kernel
theorem dX12_parseNext_160 : decode cX12_parseNext 160 = .ok (.aload_n 0, 1) := by decide +kernel
theorem dX12_parseNext_161 : decode cX12_parseNext 161 = .ok (.aload_n 0, 1) := by decide +kernel
theorem dX12_parseNext_162 : decode cX12_parseNext 162 = .ok (.getfield 636, 3) := by decide +kernel
theorem dX12_parseNext_165 : decode cX12_parseNext 165 = .ok (.invokevirtual 284, 3) := by decide +kernel
theorem dX12_parseNext_168 : decode cX12_parseNext 168 = .ok (.aload_n 0, 1) := by decide +kernel
theorem dX12_parseNext_169 : decode cX12_parseNext 169 = .ok (.getfield 62, 3) := by decide +kernel
theorem dX12_parseNext_172 : decode cX12_parseNext 172 = .ok (.iload_n 3, 1) := by decide +kernel
theorem dX12_parseNext_173 : decode cX12_parseNext 173 = .ok (.iaload, 1) := by decide +kernel
theorem dX12_parseNext_174 : decode cX12_parseNext 174 = .ok (.bipush 13, 2) := by decide +kernel
theorem dX12_parseNext_176 : decode cX12_parseNext 176 = .ok (.if_icmp .ne 8, 3) := by decide +kernel
theorem dX12_parseNext_179 : decode cX12_parseNext 179 = .ok (.bipush 123, 2) := by decide +kernel
theorem dX12_parseNext_181 : decode cX12_parseNext 181 = .ok (.goto 5, 3) := by decide +kernel
theorem dX12_parseNext_184 : decode cX12_parseNext 184 = .ok (.bipush 58, 2) := by decide +kernel
theorem dX12_parseNext_186 : decode cX12_parseNext 186 = .ok (.if_icmp .eq 9, 3) := by decide +kernel
theorem dX12_parseNext_189 : decode cX12_parseNext 189 = .ok (.aload_n 0, 1) := by decide +kernel
theorem dX12_parseNext_190 : decode cX12_parseNext 190 = .ok (.iconst 1, 1) := by decide +kernel
theorem dX12_parseNext_191 : decode cX12_parseNext 191 = .ok (.putfield 590, 3) := by decide +kernel
theorem dX12_parseNext_194 : decode cX12_parseNext 194 = .ok (.return_, 1) := by decide +kernel
theorem dX12_parseNext_195 : decode cX12_parseNext 195 = .ok (.aload_n 0, 1) := by decide +kernel
theorem dX12_parseNext_196 : decode cX12_parseNext 196 = .ok (.dup, 1) := by decide +kernel
theorem dX12_parseNext_197 : decode cX12_parseNext 197 = .ok (.getfield 636, 3) := by decide +kernel
theorem dX12_parseNext_200 : decode cX12_parseNext 200 = .ok (.iconst 1, 1) := by decide +kernel
theorem dX12_parseNext_201 : decode cX12_parseNext 201 = .ok (.iadd, 1) := by decide +kernel
theorem dX12_parseNext_202 : decode cX12_parseNext 202 = .ok (.putfield 636, 3) := by decide +kernel
theorem dX12_parseNext_205 : decode cX12_parseNext 205 = .ok (.aload_n 0, 1) := by decide +kernel
theorem dX12_parseNext_206 : decode cX12_parseNext 206 = .ok (.getfield 62, 3) := by decide +kernel
theorem dX12_parseNext_209 : decode cX12_parseNext 209 = .ok (.iload_n 3, 1) := by decide +kernel
theorem dX12_parseNext_210 : decode cX12_parseNext 210 = .ok (.iaload, 1) := by decide +kernel
theorem dX12_parseNext_211 : decode cX12_parseNext 211 = .ok (.bipush 13, 2) := by decide +kernel
theorem dX12_parseNext_213 : decode cX12_parseNext 213 = .ok (.if_icmp .ne 35, 3) := by decide +kernel
theorem dX12_parseNext_216 : decode cX12_parseNext 216 = .ok (.aload_n 0, 1) := by decide +kernel
theorem dX12_parseNext_217 : decode cX12_parseNext 217 = .ok (.iload_n 1, 1) := by decide +kernel
theorem dX12_parseNext_218 : decode cX12_parseNext 218 = .ok (.iload_n 3, 1) := by decide +kernel
theorem dX12_parseNext_219 : decode cX12_parseNext 219 = .ok (.invokevirtual 647, 3) := by decide +kernel
theorem dX12_parseNext_222 : decode cX12_parseNext 222 = .ok (.istore 4, 2) := by decide +kernel
theorem dX12_parseNext_224 : decode cX12_parseNext 224 = .ok (.aload_n 0, 1) := by decide +kernel
theorem dX12_parseNext_225 : decode cX12_parseNext 225 = .ok (.getfield 238, 3) := by decide +kernel
theorem dX12_parseNext_228 : decode cX12_parseNext 228 = .ok (.aload_n 0, 1) := by decide +kernel
theorem dX12_parseNext_229 : decode cX12_parseNext 229 = .ok (.getfield 650, 3) := by decide +kernel
theorem dX12_parseNext_232 : decode cX12_parseNext 232 = .ok (.iload 4, 2) := by decide +kernel
theorem dX12_parseNext_234 : decode cX12_parseNext 234 = .ok (.iastore, 1) := by decide +kernel
theorem dX12_parseNext_235 : decode cX12_parseNext 235 = .ok (.aload_n 0, 1) := by decide +kernel
theorem dX12_parseNext_236 : decode cX12_parseNext 236 = .ok (.dup, 1) := by decide +kernel
theorem dX12_parseNext_237 : decode cX12_parseNext 237 = .ok (.getfield 650, 3) := by decide +kernel
theorem dX12_parseNext_240 : decode cX12_parseNext 240 = .ok (.iconst 1, 1) := by decide +kernel
theorem dX12_parseNext_241 : decode cX12_parseNext 241 = .ok (.iadd, 1) := by decide +kernel
theorem dX12_parseNext_242 : decode cX12_parseNext 242 = .ok (.putfield 650, 3) := by decide +kernel
theorem dX12_parseNext_245 : decode cX12_parseNext 245 = .ok (.goto 21, 3) := by decide +kernel
theorem dX12_parseNext_248 : decode cX12_parseNext 248 = .ok (.aload_n 0, 1) := by decide +kernel
theorem dX12_parseNext_249 : decode cX12_parseNext 249 = .ok (.aload_n 0, 1) := by decide +kernel
theorem dX12_parseNext_250 : decode cX12_parseNext 250 = .ok (.aload_n 0, 1) := by decide +kernel
theorem dX12_parseNext_251 : decode cX12_parseNext 251 = .ok (.getfield 636, 3) := by decide +kernel
theorem dX12_parseNext_254 : decode cX12_parseNext 254 = .ok (.invokevirtual 829, 3) := by decide +kernel
theorem dX12_parseNext_257 : decode cX12_parseNext 257 = .ok (.putfield 636, 3) := by decide +kernel
theorem dX12_parseNext_260 : decode cX12_parseNext 260 = .ok (.aload_n 0, 1) := by decide +kernel
theorem dX12_parseNext_261 : decode cX12_parseNext 261 = .ok (.iload_n 1, 1) := by decide +kernel
theorem dX12_parseNext_262 : decode cX12_parseNext 262 = .ok (.iload_n 3, 1) := by decide +kernel
theorem dX12_parseNext_263 : decode cX12_parseNext 263 = .ok (.invokevirtual 838, 3) := by decide +kernel
theorem dX12_parseNext_266 : decode cX12_parseNext 266 = .ok (.return_, 1) := by decide +kernel
theorem dX12_parse_0 : decode cX12_parse 0 = .ok (.aload_n 0, 1) := by decide +kernel
theorem dX12_parse_1 : decode cX12_parse 1 = .ok (.iload_n 1, 1) := by decide +kernel
theorem dX12_parse_2 : decode cX12_parse 2 = .ok (.iload_n 2, 1) := by decide +kernel
theorem dX12_parse_3 : decode cX12_parse 3 = .ok (.iload_n 3, 1) := by decide +kernel
theorem dX12_parse_4 : decode cX12_parse 4 = .ok (.invokevirtual 688, 3) := by decide +kernel
theorem dX12_parse_7 : decode cX12_parse 7 = .ok (.ifCond .ne 5, 3) := by decide +kernel
theorem dX12_parse_10 : decode cX12_parse 10 = .ok (.iconst 0, 1) := by decide +kernel
theorem dX12_parse_11 : decode cX12_parse 11 = .ok (.ireturn, 1) := by decide +kernel
theorem dX12_parse_12 : decode cX12_parse 12 = .ok (.aload_n 0, 1) := by decide +kernel
theorem dX12_parse_13 : decode cX12_parse 13 = .ok (.iconst 0, 1) := by decide +kernel
theorem dX12_parse_14 : decode cX12_parse 14 = .ok (.putfield 636, 3) := by decide +kernel
theorem dX12_parse_17 : decode cX12_parse 17 = .ok (.aload_n 0, 1) := by decide +kernel
theorem dX12_parse_18 : decode cX12_parse 18 = .ok (.getfield 238, 3) := by decide +kernel
theorem dX12_parse_21 : decode cX12_parse 21 = .ok (.iconst 0, 1) := by decide +kernel
theorem dX12_parse_22 : decode cX12_parse 22 = .ok (.iconst 0, 1) := by decide +kernel
theorem dX12_parse_23 : decode cX12_parse 23 = .ok (.iastore, 1) := by decide +kernel
theorem dX12_parse_24 : decode cX12_parse 24 = .ok (.aload_n 0, 1) := by decide +kernel
theorem dX12_parse_25 : decode cX12_parse 25 = .ok (.iconst 1, 1) := by decide +kernel
theorem dX12_parse_26 : decode cX12_parse 26 = .ok (.putfield 650, 3) := by decide +kernel
theorem dX12_parse_29 : decode cX12_parse 29 = .ok (.aload_n 0, 1) := by decide +kernel
theorem dX12_parse_30 : decode cX12_parse 30 = .ok (.getfield 650, 3) := by decide +kernel
theorem dX12_parse_33 : decode cX12_parse 33 = .ok (.ifCond .le 17, 3) := by decide +kernel
theorem dX12_parse_36 : decode cX12_parse 36 = .ok (.aload_n 0, 1) := by decide +kernel
theorem dX12_parse_37 : decode cX12_parse 37 = .ok (.getfield 590, 3) := by decide +kernel
theorem dX12_parse_40 : decode cX12_parse 40 = .ok (.ifCond .ne 10, 3) := by decide +kernel
theorem dX12_parse_43 : decode cX12_parse 43 = .ok (.aload_n 0, 1) := by decide +kernel
theorem dX12_parse_44 : decode cX12_parse 44 = .ok (.invokevirtual 841, 3) := by decide +kernel
theorem dX12_parse_47 : decode cX12_parse 47 = .ok (.goto (-18), 3) := by decide +kernel
theorem dX12_parse_50 : decode cX12_parse 50 = .ok (.aload_n 0, 1) := by decide +kernel
theorem dX12_parse_51 : decode cX12_parse 51 = .ok (.invokevirtual 694, 3) := by decide +kernel
theorem dX12_parse_54 : decode cX12_parse 54 = .ok (.ireturn, 1) := by decide +kernel
theorem dX12_place_0 : decode cX12_place 0 = .ok (.aload_n 0, 1) := by decide +kernel
theorem dX12_place_1 : decode cX12_place 1 = .ok (.iconst 0, 1) := by decide +kernel
theorem dX12_place_2 : decode cX12_place 2 = .ok (.putfield 265, 3) := by decide +kernel
theorem dX12_place_5 : decode cX12_place 5 = .ok (.aload_n 0, 1) := by decide +kernel
theorem dX12_place_6 : decode cX12_place 6 = .ok (.getfield 16, 3) := by decide +kernel
theorem dX12_place_9 : decode cX12_place 9 = .ok (.ireturn, 1) := by decide +kernel
theorem dX12_putName_0 : decode cX12_putName 0 = .ok (.iconst 0, 1) := by decide +kernel
theorem dX12_putName_1 : decode cX12_putName 1 = .ok (.istore_n 3, 1) := by decide +kernel
theorem dX12_putName_2 : decode cX12_putName 2 = .ok (.iload_n 3, 1) := by decide +kernel
theorem dX12_putName_3 : decode cX12_putName 3 = .ok (.iload_n 2, 1) := by decide +kernel
theorem dX12_putName_4 : decode cX12_putName 4 = .ok (.if_icmp .ge 21, 3) := by decide +kernel
theorem dX12_putName_7 : decode cX12_putName 7 = .ok (.aload_n 0, 1) := by decide +kernel
theorem dX12_putName_8 : decode cX12_putName 8 = .ok (.aload_n 0, 1) := by decide +kernel
theorem dX12_putName_9 : decode cX12_putName 9 = .ok (.getfield 90, 3) := by decide +kernel
theorem dX12_putName_12 : decode cX12_putName 12 = .ok (.iload_n 1, 1) := by decide +kernel
theorem dX12_putName_13 : decode cX12_putName 13 = .ok (.iload_n 3, 1) := by decide +kernel
theorem dX12_putName_14 : decode cX12_putName 14 = .ok (.iadd, 1) := by decide +kernel
theorem dX12_putName_15 : decode cX12_putName 15 = .ok (.iaload, 1) := by decide +kernel
theorem dX12_putName_16 : decode cX12_putName 16 = .ok (.invokevirtual 704, 3) := by decide +kernel
theorem dX12_putName_19 : decode cX12_putName 19 = .ok (.iinc 3 1, 3) := by decide +kernel
theorem dX12_putName_22 : decode cX12_putName 22 = .ok (.goto (-20), 3) := by decide +kernel
theorem dX12_putName_25 : decode cX12_putName 25 = .ok (.return_, 1) := by decide +kernel
theorem dX12_putWord_0 : decode cX12_putWord 0 = .ok (.iconst 0, 1) := by decide +kernel
theorem dX12_putWord_1 : decode cX12_putWord 1 = .ok (.istore_n 3, 1) := by decide +kernel
theorem dX12_putWord_2 : decode cX12_putWord 2 = .ok (.iload_n 3, 1) := by decide +kernel
theorem dX12_putWord_3 : decode cX12_putWord 3 = .ok (.lload_n 1, 1) := by decide +kernel
theorem dX12_putWord_4 : decode cX12_putWord 4 = .ok (.invokestatic 334, 3) := by decide +kernel
theorem dX12_putWord_7 : decode cX12_putWord 7 = .ok (.if_icmp .ge 18, 3) := by decide +kernel
theorem dX12_putWord_10 : decode cX12_putWord 10 = .ok (.aload_n 0, 1) := by decide +kernel
theorem dX12_putWord_11 : decode cX12_putWord 11 = .ok (.lload_n 1, 1) := by decide +kernel
theorem dX12_putWord_12 : decode cX12_putWord 12 = .ok (.iload_n 3, 1) := by decide +kernel
theorem dX12_putWord_13 : decode cX12_putWord 13 = .ok (.invokestatic 338, 3) := by decide +kernel
theorem dX12_putWord_16 : decode cX12_putWord 16 = .ok (.invokevirtual 704, 3) := by decide +kernel
theorem dX12_putWord_19 : decode cX12_putWord 19 = .ok (.iinc 3 1, 3) := by decide +kernel
theorem dX12_putWord_22 : decode cX12_putWord 22 = .ok (.goto (-20), 3) := by decide +kernel
theorem dX12_putWord_25 : decode cX12_putWord 25 = .ok (.return_, 1) := by decide +kernel
theorem dX12_valueNumbered_0 : decode cX12_valueNumbered 0 = .ok (.bipush 40, 2) := by decide +kernel
theorem dX12_valueNumbered_2 : decode cX12_valueNumbered 2 = .ok (.aload_n 0, 1) := by decide +kernel
theorem dX12_valueNumbered_3 : decode cX12_valueNumbered 3 = .ok (.getfield 587, 3) := by decide +kernel
theorem dX12_valueNumbered_6 : decode cX12_valueNumbered 6 = .ok (.imul, 1) := by decide +kernel
theorem dX12_valueNumbered_7 : decode cX12_valueNumbered 7 = .ok (.istore 4, 2) := by decide +kernel
theorem dX12_valueNumbered_9 : decode cX12_valueNumbered 9 = .ok (.iload 4, 2) := by decide +kernel
theorem dX12_valueNumbered_11 : decode cX12_valueNumbered 11 = .ok (.bipush 40, 2) := by decide +kernel
theorem dX12_valueNumbered_13 : decode cX12_valueNumbered 13 = .ok (.aload_n 0, 1) := by decide +kernel
theorem dX12_valueNumbered_14 : decode cX12_valueNumbered 14 = .ok (.getfield 587, 3) := by decide +kernel
theorem dX12_valueNumbered_17 : decode cX12_valueNumbered 17 = .ok (.imul, 1) := by decide +kernel
theorem dX12_valueNumbered_18 : decode cX12_valueNumbered 18 = .ok (.aload_n 0, 1) := by decide +kernel
theorem dX12_valueNumbered_19 : decode cX12_valueNumbered 19 = .ok (.getfield 29, 3) := by decide +kernel
theorem dX12_valueNumbered_22 : decode cX12_valueNumbered 22 = .ok (.aload_n 0, 1) := by decide +kernel
theorem dX12_valueNumbered_23 : decode cX12_valueNumbered 23 = .ok (.getfield 587, 3) := by decide +kernel
theorem dX12_valueNumbered_26 : decode cX12_valueNumbered 26 = .ok (.iaload, 1) := by decide +kernel
theorem dX12_valueNumbered_27 : decode cX12_valueNumbered 27 = .ok (.iadd, 1) := by decide +kernel
theorem dX12_valueNumbered_28 : decode cX12_valueNumbered 28 = .ok (.if_icmp .ge 36, 3) := by decide +kernel
theorem dX12_valueNumbered_31 : decode cX12_valueNumbered 31 = .ok (.aload_n 0, 1) := by decide +kernel
theorem dX12_valueNumbered_32 : decode cX12_valueNumbered 32 = .ok (.getfield 78, 3) := by decide +kernel
theorem dX12_valueNumbered_35 : decode cX12_valueNumbered 35 = .ok (.iload 4, 2) := by decide +kernel
theorem dX12_valueNumbered_37 : decode cX12_valueNumbered 37 = .ok (.iaload, 1) := by decide +kernel
theorem dX12_valueNumbered_38 : decode cX12_valueNumbered 38 = .ok (.iload_n 1, 1) := by decide +kernel
theorem dX12_valueNumbered_39 : decode cX12_valueNumbered 39 = .ok (.if_icmp .ne 19, 3) := by decide +kernel
theorem dX12_valueNumbered_42 : decode cX12_valueNumbered 42 = .ok (.aload_n 0, 1) := by decide +kernel
theorem dX12_valueNumbered_43 : decode cX12_valueNumbered 43 = .ok (.getfield 87, 3) := by decide +kernel
theorem dX12_valueNumbered_46 : decode cX12_valueNumbered 46 = .ok (.iload 4, 2) := by decide +kernel
theorem dX12_valueNumbered_48 : decode cX12_valueNumbered 48 = .ok (.iaload, 1) := by decide +kernel
theorem dX12_valueNumbered_49 : decode cX12_valueNumbered 49 = .ok (.i2l, 1) := by decide +kernel
theorem dX12_valueNumbered_50 : decode cX12_valueNumbered 50 = .ok (.lload_n 2, 1) := by decide +kernel
theorem dX12_valueNumbered_51 : decode cX12_valueNumbered 51 = .ok (.lcmp, 1) := by decide +kernel
theorem dX12_valueNumbered_52 : decode cX12_valueNumbered 52 = .ok (.ifCond .ne 6, 3) := by decide +kernel
theorem dX12_valueNumbered_55 : decode cX12_valueNumbered 55 = .ok (.iload 4, 2) := by decide +kernel
theorem dX12_valueNumbered_57 : decode cX12_valueNumbered 57 = .ok (.ireturn, 1) := by decide +kernel
theorem dX12_valueNumbered_58 : decode cX12_valueNumbered 58 = .ok (.iinc 4 1, 3) := by decide +kernel
theorem dX12_valueNumbered_61 : decode cX12_valueNumbered 61 = .ok (.goto (-52), 3) := by decide +kernel
theorem dX12_valueNumbered_64 : decode cX12_valueNumbered 64 = .ok (.iconst (-1), 1) := by decide +kernel
theorem dX12_valueNumbered_65 : decode cX12_valueNumbered 65 = .ok (.ireturn, 1) := by decide +kernel
theorem dX12_putText__0 : decode cX12_putText_ 0 = .ok (.aload_n 0, 1) := by decide +kernel
theorem dX12_putText__1 : decode cX12_putText_ 1 = .ok (.bipush 34, 2) := by decide +kernel
theorem dX12_putText__3 : decode cX12_putText_ 3 = .ok (.invokevirtual 704, 3) := by decide +kernel
theorem dX12_putText__6 : decode cX12_putText_ 6 = .ok (.iload_n 1, 1) := by decide +kernel
theorem dX12_putText__7 : decode cX12_putText_ 7 = .ok (.istore_n 3, 1) := by decide +kernel
theorem dX12_putText__8 : decode cX12_putText_ 8 = .ok (.iload_n 3, 1) := by decide +kernel
theorem dX12_putText__9 : decode cX12_putText_ 9 = .ok (.iload_n 1, 1) := by decide +kernel
theorem dX12_putText__10 : decode cX12_putText_ 10 = .ok (.iload_n 2, 1) := by decide +kernel
theorem dX12_putText__11 : decode cX12_putText_ 11 = .ok (.iadd, 1) := by decide +kernel
theorem dX12_putText__12 : decode cX12_putText_ 12 = .ok (.if_icmp .ge 170, 3) := by decide +kernel
theorem dX12_putText__15 : decode cX12_putText_ 15 = .ok (.aload_n 0, 1) := by decide +kernel
theorem dX12_putText__16 : decode cX12_putText_ 16 = .ok (.getfield 235, 3) := by decide +kernel
theorem dX12_putText__19 : decode cX12_putText_ 19 = .ok (.iload_n 3, 1) := by decide +kernel
theorem dX12_putText__20 : decode cX12_putText_ 20 = .ok (.iaload, 1) := by decide +kernel
theorem dX12_putText__21 : decode cX12_putText_ 21 = .ok (.istore 4, 2) := by decide +kernel
theorem dX12_putText__23 : decode cX12_putText_ 23 = .ok (.iload 4, 2) := by decide +kernel
theorem dX12_putText__25 : decode cX12_putText_ 25 = .ok (.bipush 10, 2) := by decide +kernel
theorem dX12_putText__27 : decode cX12_putText_ 27 = .ok (.if_icmp .eq 31, 3) := by decide +kernel
theorem dX12_putText__30 : decode cX12_putText_ 30 = .ok (.iload 4, 2) := by decide +kernel
theorem dX12_putText__32 : decode cX12_putText_ 32 = .ok (.bipush 13, 2) := by decide +kernel
theorem dX12_putText__34 : decode cX12_putText_ 34 = .ok (.if_icmp .eq 24, 3) := by decide +kernel
theorem dX12_putText__37 : decode cX12_putText_ 37 = .ok (.iload 4, 2) := by decide +kernel
theorem dX12_putText__39 : decode cX12_putText_ 39 = .ok (.bipush 9, 2) := by decide +kernel
theorem dX12_putText__41 : decode cX12_putText_ 41 = .ok (.if_icmp .eq 17, 3) := by decide +kernel
theorem dX12_putText__44 : decode cX12_putText_ 44 = .ok (.iload 4, 2) := by decide +kernel
theorem dX12_putText__46 : decode cX12_putText_ 46 = .ok (.bipush 34, 2) := by decide +kernel
theorem dX12_putText__48 : decode cX12_putText_ 48 = .ok (.if_icmp .eq 10, 3) := by decide +kernel
theorem dX12_putText__51 : decode cX12_putText_ 51 = .ok (.iload 4, 2) := by decide +kernel
theorem dX12_putText__53 : decode cX12_putText_ 53 = .ok (.bipush 92, 2) := by decide +kernel
theorem dX12_putText__55 : decode cX12_putText_ 55 = .ok (.if_icmp .ne 54, 3) := by decide +kernel
theorem dX12_putText__58 : decode cX12_putText_ 58 = .ok (.aload_n 0, 1) := by decide +kernel
theorem dX12_putText__59 : decode cX12_putText_ 59 = .ok (.bipush 92, 2) := by decide +kernel
theorem dX12_putText__61 : decode cX12_putText_ 61 = .ok (.invokevirtual 704, 3) := by decide +kernel
theorem dX12_putText__64 : decode cX12_putText_ 64 = .ok (.aload_n 0, 1) := by decide +kernel
theorem dX12_putText__65 : decode cX12_putText_ 65 = .ok (.iload 4, 2) := by decide +kernel
theorem dX12_putText__67 : decode cX12_putText_ 67 = .ok (.bipush 10, 2) := by decide +kernel
theorem dX12_putText__69 : decode cX12_putText_ 69 = .ok (.if_icmp .ne 8, 3) := by decide +kernel
theorem dX12_putText__72 : decode cX12_putText_ 72 = .ok (.bipush 110, 2) := by decide +kernel
theorem dX12_putText__74 : decode cX12_putText_ 74 = .ok (.goto 29, 3) := by decide +kernel
theorem dX12_putText__77 : decode cX12_putText_ 77 = .ok (.iload 4, 2) := by decide +kernel
theorem dX12_putText__79 : decode cX12_putText_ 79 = .ok (.bipush 13, 2) := by decide +kernel
theorem dX12_putText__81 : decode cX12_putText_ 81 = .ok (.if_icmp .ne 8, 3) := by decide +kernel
theorem dX12_putText__84 : decode cX12_putText_ 84 = .ok (.bipush 114, 2) := by decide +kernel
theorem dX12_putText__86 : decode cX12_putText_ 86 = .ok (.goto 17, 3) := by decide +kernel
theorem dX12_putText__89 : decode cX12_putText_ 89 = .ok (.iload 4, 2) := by decide +kernel
theorem dX12_putText__91 : decode cX12_putText_ 91 = .ok (.bipush 9, 2) := by decide +kernel
theorem dX12_putText__93 : decode cX12_putText_ 93 = .ok (.if_icmp .ne 8, 3) := by decide +kernel
theorem dX12_putText__96 : decode cX12_putText_ 96 = .ok (.bipush 116, 2) := by decide +kernel
theorem dX12_putText__98 : decode cX12_putText_ 98 = .ok (.goto 5, 3) := by decide +kernel
theorem dX12_putText__101 : decode cX12_putText_ 101 = .ok (.iload 4, 2) := by decide +kernel
theorem dX12_putText__103 : decode cX12_putText_ 103 = .ok (.invokevirtual 704, 3) := by decide +kernel
theorem dX12_putText__106 : decode cX12_putText_ 106 = .ok (.goto 70, 3) := by decide +kernel
theorem dX12_putText__109 : decode cX12_putText_ 109 = .ok (.iload 4, 2) := by decide +kernel
theorem dX12_putText__111 : decode cX12_putText_ 111 = .ok (.bipush 32, 2) := by decide +kernel
theorem dX12_putText__113 : decode cX12_putText_ 113 = .ok (.if_icmp .lt 19, 3) := by decide +kernel
theorem dX12_putText__116 : decode cX12_putText_ 116 = .ok (.iload 4, 2) := by decide +kernel
theorem dX12_putText__118 : decode cX12_putText_ 118 = .ok (.bipush 126, 2) := by decide +kernel
theorem dX12_putText__120 : decode cX12_putText_ 120 = .ok (.if_icmp .gt 12, 3) := by decide +kernel
theorem dX12_putText__123 : decode cX12_putText_ 123 = .ok (.aload_n 0, 1) := by decide +kernel
theorem dX12_putText__124 : decode cX12_putText_ 124 = .ok (.iload 4, 2) := by decide +kernel
theorem dX12_putText__126 : decode cX12_putText_ 126 = .ok (.invokevirtual 704, 3) := by decide +kernel
theorem dX12_putText__129 : decode cX12_putText_ 129 = .ok (.goto 47, 3) := by decide +kernel
theorem dX12_putText__132 : decode cX12_putText_ 132 = .ok (.aload_n 0, 1) := by decide +kernel
theorem dX12_putText__133 : decode cX12_putText_ 133 = .ok (.bipush 92, 2) := by decide +kernel
theorem dX12_putText__135 : decode cX12_putText_ 135 = .ok (.invokevirtual 704, 3) := by decide +kernel
theorem dX12_putText__138 : decode cX12_putText_ 138 = .ok (.aload_n 0, 1) := by decide +kernel
theorem dX12_putText__139 : decode cX12_putText_ 139 = .ok (.bipush 48, 2) := by decide +kernel
theorem dX12_putText__141 : decode cX12_putText_ 141 = .ok (.iload 4, 2) := by decide +kernel
theorem dX12_putText__143 : decode cX12_putText_ 143 = .ok (.bipush 6, 2) := by decide +kernel
theorem dX12_putText__145 : decode cX12_putText_ 145 = .ok (.ishr, 1) := by decide +kernel
theorem dX12_putText__146 : decode cX12_putText_ 146 = .ok (.iadd, 1) := by decide +kernel
theorem dX12_putText__147 : decode cX12_putText_ 147 = .ok (.invokevirtual 704, 3) := by decide +kernel
theorem dX12_putText__150 : decode cX12_putText_ 150 = .ok (.aload_n 0, 1) := by decide +kernel
theorem dX12_putText__151 : decode cX12_putText_ 151 = .ok (.bipush 48, 2) := by decide +kernel
theorem dX12_putText__153 : decode cX12_putText_ 153 = .ok (.iload 4, 2) := by decide +kernel
theorem dX12_putText__155 : decode cX12_putText_ 155 = .ok (.iconst 3, 1) := by decide +kernel
theorem dX12_putText__156 : decode cX12_putText_ 156 = .ok (.ishr, 1) := by decide +kernel
theorem dX12_putText__157 : decode cX12_putText_ 157 = .ok (.bipush 7, 2) := by decide +kernel
theorem dX12_putText__159 : decode cX12_putText_ 159 = .ok (.iand, 1) := by decide +kernel
theorem dX12_putText__160 : decode cX12_putText_ 160 = .ok (.iadd, 1) := by decide +kernel
theorem dX12_putText__161 : decode cX12_putText_ 161 = .ok (.invokevirtual 704, 3) := by decide +kernel
theorem dX12_putText__164 : decode cX12_putText_ 164 = .ok (.aload_n 0, 1) := by decide +kernel
theorem dX12_putText__165 : decode cX12_putText_ 165 = .ok (.bipush 48, 2) := by decide +kernel
theorem dX12_putText__167 : decode cX12_putText_ 167 = .ok (.iload 4, 2) := by decide +kernel
theorem dX12_putText__169 : decode cX12_putText_ 169 = .ok (.bipush 7, 2) := by decide +kernel
theorem dX12_putText__171 : decode cX12_putText_ 171 = .ok (.iand, 1) := by decide +kernel
theorem dX12_putText__172 : decode cX12_putText_ 172 = .ok (.iadd, 1) := by decide +kernel
theorem dX12_putText__173 : decode cX12_putText_ 173 = .ok (.invokevirtual 704, 3) := by decide +kernel
theorem dX12_putText__176 : decode cX12_putText_ 176 = .ok (.iinc 3 1, 3) := by decide +kernel
theorem dX12_putText__179 : decode cX12_putText_ 179 = .ok (.goto (-171), 3) := by decide +kernel
theorem dX12_putText__182 : decode cX12_putText_ 182 = .ok (.aload_n 0, 1) := by decide +kernel
theorem dX12_putText__183 : decode cX12_putText_ 183 = .ok (.bipush 34, 2) := by decide +kernel
theorem dX12_putText__185 : decode cX12_putText_ 185 = .ok (.invokevirtual 704, 3) := by decide +kernel
theorem dX12_putText__188 : decode cX12_putText_ 188 = .ok (.return_, 1) := by decide +kernel
theorem dX12_putDecimal_0 : decode cX12_putDecimal 0 = .ok (.iconst 0, 1) := by decide +kernel
theorem dX12_putDecimal_1 : decode cX12_putDecimal 1 = .ok (.istore_n 3, 1) := by decide +kernel
theorem dX12_putDecimal_2 : decode cX12_putDecimal 2 = .ok (.lload_n 1, 1) := by decide +kernel
theorem dX12_putDecimal_3 : decode cX12_putDecimal 3 = .ok (.lstore 4, 2) := by decide +kernel
theorem dX12_putDecimal_5 : decode cX12_putDecimal 5 = .ok (.lload 4, 2) := by decide +kernel
theorem dX12_putDecimal_7 : decode cX12_putDecimal 7 = .ok (.lconst 0, 1) := by decide +kernel
theorem dX12_putDecimal_8 : decode cX12_putDecimal 8 = .ok (.lcmp, 1) := by decide +kernel
theorem dX12_putDecimal_9 : decode cX12_putDecimal 9 = .ok (.ifCond .ne 7, 3) := by decide +kernel
theorem dX12_putDecimal_12 : decode cX12_putDecimal 12 = .ok (.iload_n 3, 1) := by decide +kernel
theorem dX12_putDecimal_13 : decode cX12_putDecimal 13 = .ok (.ifCond .ne 39, 3) := by decide +kernel
theorem dX12_putDecimal_16 : decode cX12_putDecimal 16 = .ok (.lload 4, 2) := by decide +kernel
theorem dX12_putDecimal_18 : decode cX12_putDecimal 18 = .ok (.iconst 1, 1) := by decide +kernel
theorem dX12_putDecimal_19 : decode cX12_putDecimal 19 = .ok (.lushr, 1) := by decide +kernel
theorem dX12_putDecimal_20 : decode cX12_putDecimal 20 = .ok (.ldc2_w 755, 3) := by decide +kernel
theorem dX12_putDecimal_23 : decode cX12_putDecimal 23 = .ok (.ldiv, 1) := by decide +kernel
theorem dX12_putDecimal_24 : decode cX12_putDecimal 24 = .ok (.lstore 6, 2) := by decide +kernel
theorem dX12_putDecimal_26 : decode cX12_putDecimal 26 = .ok (.aload_n 0, 1) := by decide +kernel
theorem dX12_putDecimal_27 : decode cX12_putDecimal 27 = .ok (.getfield 250, 3) := by decide +kernel
theorem dX12_putDecimal_30 : decode cX12_putDecimal 30 = .ok (.iload_n 3, 1) := by decide +kernel
theorem dX12_putDecimal_31 : decode cX12_putDecimal 31 = .ok (.lload 4, 2) := by decide +kernel
theorem dX12_putDecimal_33 : decode cX12_putDecimal 33 = .ok (.ldc2_w 757, 3) := by decide +kernel
theorem dX12_putDecimal_36 : decode cX12_putDecimal 36 = .ok (.lload 6, 2) := by decide +kernel
theorem dX12_putDecimal_38 : decode cX12_putDecimal 38 = .ok (.lmul, 1) := by decide +kernel
theorem dX12_putDecimal_39 : decode cX12_putDecimal 39 = .ok (.lsub, 1) := by decide +kernel
theorem dX12_putDecimal_40 : decode cX12_putDecimal 40 = .ok (.l2i, 1) := by decide +kernel
theorem dX12_putDecimal_41 : decode cX12_putDecimal 41 = .ok (.iastore, 1) := by decide +kernel
theorem dX12_putDecimal_42 : decode cX12_putDecimal 42 = .ok (.lload 6, 2) := by decide +kernel
theorem dX12_putDecimal_44 : decode cX12_putDecimal 44 = .ok (.lstore 4, 2) := by decide +kernel
theorem dX12_putDecimal_46 : decode cX12_putDecimal 46 = .ok (.iinc 3 1, 3) := by decide +kernel
theorem dX12_putDecimal_49 : decode cX12_putDecimal 49 = .ok (.goto (-44), 3) := by decide +kernel
theorem dX12_putDecimal_52 : decode cX12_putDecimal 52 = .ok (.iload_n 3, 1) := by decide +kernel
theorem dX12_putDecimal_53 : decode cX12_putDecimal 53 = .ok (.iconst 1, 1) := by decide +kernel
theorem dX12_putDecimal_54 : decode cX12_putDecimal 54 = .ok (.isub, 1) := by decide +kernel
theorem dX12_putDecimal_55 : decode cX12_putDecimal 55 = .ok (.istore 4, 2) := by decide +kernel
theorem dX12_putDecimal_57 : decode cX12_putDecimal 57 = .ok (.iload 4, 2) := by decide +kernel
theorem dX12_putDecimal_59 : decode cX12_putDecimal 59 = .ok (.ifCond .lt 23, 3) := by decide +kernel
theorem dX12_putDecimal_62 : decode cX12_putDecimal 62 = .ok (.aload_n 0, 1) := by decide +kernel
theorem dX12_putDecimal_63 : decode cX12_putDecimal 63 = .ok (.bipush 48, 2) := by decide +kernel
theorem dX12_putDecimal_65 : decode cX12_putDecimal 65 = .ok (.aload_n 0, 1) := by decide +kernel
theorem dX12_putDecimal_66 : decode cX12_putDecimal 66 = .ok (.getfield 250, 3) := by decide +kernel
theorem dX12_putDecimal_69 : decode cX12_putDecimal 69 = .ok (.iload 4, 2) := by decide +kernel
theorem dX12_putDecimal_71 : decode cX12_putDecimal 71 = .ok (.iaload, 1) := by decide +kernel
theorem dX12_putDecimal_72 : decode cX12_putDecimal 72 = .ok (.iadd, 1) := by decide +kernel
theorem dX12_putDecimal_73 : decode cX12_putDecimal 73 = .ok (.invokevirtual 704, 3) := by decide +kernel
theorem dX12_putDecimal_76 : decode cX12_putDecimal 76 = .ok (.iinc 4 (-1), 3) := by decide +kernel
theorem dX12_putDecimal_79 : decode cX12_putDecimal 79 = .ok (.goto (-22), 3) := by decide +kernel
theorem dX12_putDecimal_82 : decode cX12_putDecimal 82 = .ok (.return_, 1) := by decide +kernel
theorem dX12_putSigned_0 : decode cX12_putSigned 0 = .ok (.lload_n 1, 1) := by decide +kernel
theorem dX12_putSigned_1 : decode cX12_putSigned 1 = .ok (.lconst 0, 1) := by decide +kernel
theorem dX12_putSigned_2 : decode cX12_putSigned 2 = .ok (.lcmp, 1) := by decide +kernel
theorem dX12_putSigned_3 : decode cX12_putSigned 3 = .ok (.ifCond .ge 9, 3) := by decide +kernel
theorem dX12_putSigned_6 : decode cX12_putSigned 6 = .ok (.aload_n 0, 1) := by decide +kernel
theorem dX12_putSigned_7 : decode cX12_putSigned 7 = .ok (.bipush 45, 2) := by decide +kernel
theorem dX12_putSigned_9 : decode cX12_putSigned 9 = .ok (.invokevirtual 704, 3) := by decide +kernel
theorem dX12_putSigned_12 : decode cX12_putSigned 12 = .ok (.aload_n 0, 1) := by decide +kernel
theorem dX12_putSigned_13 : decode cX12_putSigned 13 = .ok (.lload_n 1, 1) := by decide +kernel
theorem dX12_putSigned_14 : decode cX12_putSigned 14 = .ok (.lconst 0, 1) := by decide +kernel
theorem dX12_putSigned_15 : decode cX12_putSigned 15 = .ok (.lcmp, 1) := by decide +kernel
theorem dX12_putSigned_16 : decode cX12_putSigned 16 = .ok (.ifCond .ge 8, 3) := by decide +kernel
theorem dX12_putSigned_19 : decode cX12_putSigned 19 = .ok (.lload_n 1, 1) := by decide +kernel
theorem dX12_putSigned_20 : decode cX12_putSigned 20 = .ok (.lneg, 1) := by decide +kernel
theorem dX12_putSigned_21 : decode cX12_putSigned 21 = .ok (.goto 4, 3) := by decide +kernel
theorem dX12_putSigned_24 : decode cX12_putSigned 24 = .ok (.lload_n 1, 1) := by decide +kernel
theorem dX12_putSigned_25 : decode cX12_putSigned 25 = .ok (.invokevirtual 759, 3) := by decide +kernel
theorem dX12_putSigned_28 : decode cX12_putSigned 28 = .ok (.return_, 1) := by decide +kernel
theorem dX12_putPlain_0 : decode cX12_putPlain 0 = .ok (.aload_n 0, 1) := by decide +kernel
theorem dX12_putPlain_1 : decode cX12_putPlain 1 = .ok (.getfield 208, 3) := by decide +kernel
theorem dX12_putPlain_4 : decode cX12_putPlain 4 = .ok (.iload_n 1, 1) := by decide +kernel
theorem dX12_putPlain_5 : decode cX12_putPlain 5 = .ok (.iaload, 1) := by decide +kernel
theorem dX12_putPlain_6 : decode cX12_putPlain 6 = .ok (.istore_n 2, 1) := by decide +kernel
theorem dX12_putPlain_7 : decode cX12_putPlain 7 = .ok (.aload_n 0, 1) := by decide +kernel
theorem dX12_putPlain_8 : decode cX12_putPlain 8 = .ok (.getfield 62, 3) := by decide +kernel
theorem dX12_putPlain_11 : decode cX12_putPlain 11 = .ok (.iload_n 2, 1) := by decide +kernel
theorem dX12_putPlain_12 : decode cX12_putPlain 12 = .ok (.iaload, 1) := by decide +kernel
theorem dX12_putPlain_13 : decode cX12_putPlain 13 = .ok (.istore_n 3, 1) := by decide +kernel
theorem dX12_putPlain_14 : decode cX12_putPlain 14 = .ok (.iload_n 3, 1) := by decide +kernel
theorem dX12_putPlain_15 : decode cX12_putPlain 15 = .ok (.bipush 14, 2) := by decide +kernel
theorem dX12_putPlain_17 : decode cX12_putPlain 17 = .ok (.if_icmp .ne 22, 3) := by decide +kernel
theorem dX12_putPlain_20 : decode cX12_putPlain 20 = .ok (.aload_n 0, 1) := by decide +kernel
theorem dX12_putPlain_21 : decode cX12_putPlain 21 = .ok (.aload_n 0, 1) := by decide +kernel
theorem dX12_putPlain_22 : decode cX12_putPlain 22 = .ok (.getfield 65, 3) := by decide +kernel
theorem dX12_putPlain_25 : decode cX12_putPlain 25 = .ok (.iload_n 2, 1) := by decide +kernel
theorem dX12_putPlain_26 : decode cX12_putPlain 26 = .ok (.iaload, 1) := by decide +kernel
theorem dX12_putPlain_27 : decode cX12_putPlain 27 = .ok (.aload_n 0, 1) := by decide +kernel
theorem dX12_putPlain_28 : decode cX12_putPlain 28 = .ok (.getfield 211, 3) := by decide +kernel
theorem dX12_putPlain_31 : decode cX12_putPlain 31 = .ok (.iload_n 1, 1) := by decide +kernel
theorem dX12_putPlain_32 : decode cX12_putPlain 32 = .ok (.laload, 1) := by decide +kernel
theorem dX12_putPlain_33 : decode cX12_putPlain 33 = .ok (.invokevirtual 762, 3) := by decide +kernel
theorem dX12_putPlain_36 : decode cX12_putPlain 36 = .ok (.goto 4, 3) := by decide +kernel
theorem dX12_putPlain_39 : decode cX12_putPlain 39 = .ok (.iconst (-1), 1) := by decide +kernel
theorem dX12_putPlain_40 : decode cX12_putPlain 40 = .ok (.istore 4, 2) := by decide +kernel
theorem dX12_putPlain_42 : decode cX12_putPlain 42 = .ok (.iload 4, 2) := by decide +kernel
theorem dX12_putPlain_44 : decode cX12_putPlain 44 = .ok (.iconst (-1), 1) := by decide +kernel
theorem dX12_putPlain_45 : decode cX12_putPlain 45 = .ok (.if_icmp .eq 24, 3) := by decide +kernel
theorem dX12_putPlain_48 : decode cX12_putPlain 48 = .ok (.aload_n 0, 1) := by decide +kernel
theorem dX12_putPlain_49 : decode cX12_putPlain 49 = .ok (.aload_n 0, 1) := by decide +kernel
theorem dX12_putPlain_50 : decode cX12_putPlain 50 = .ok (.getfield 81, 3) := by decide +kernel
theorem dX12_putPlain_53 : decode cX12_putPlain 53 = .ok (.iload 4, 2) := by decide +kernel
theorem dX12_putPlain_55 : decode cX12_putPlain 55 = .ok (.iaload, 1) := by decide +kernel
theorem dX12_putPlain_56 : decode cX12_putPlain 56 = .ok (.aload_n 0, 1) := by decide +kernel
theorem dX12_putPlain_57 : decode cX12_putPlain 57 = .ok (.getfield 84, 3) := by decide +kernel
theorem dX12_putPlain_60 : decode cX12_putPlain 60 = .ok (.iload 4, 2) := by decide +kernel
theorem dX12_putPlain_62 : decode cX12_putPlain 62 = .ok (.iaload, 1) := by decide +kernel
theorem dX12_putPlain_63 : decode cX12_putPlain 63 = .ok (.invokevirtual 765, 3) := by decide +kernel
theorem dX12_putPlain_66 : decode cX12_putPlain 66 = .ok (.goto 101, 3) := by decide +kernel
theorem dX12_putPlain_69 : decode cX12_putPlain 69 = .ok (.iload_n 3, 1) := by decide +kernel
theorem dX12_putPlain_70 : decode cX12_putPlain 70 = .ok (.bipush 11, 2) := by decide +kernel
theorem dX12_putPlain_72 : decode cX12_putPlain 72 = .ok (.if_icmp .eq 9, 3) := by decide +kernel
theorem dX12_putPlain_75 : decode cX12_putPlain 75 = .ok (.iload_n 3, 1) := by decide +kernel
theorem dX12_putPlain_76 : decode cX12_putPlain 76 = .ok (.bipush 12, 2) := by decide +kernel
theorem dX12_putPlain_78 : decode cX12_putPlain 78 = .ok (.if_icmp .ne 22, 3) := by decide +kernel
theorem dX12_putPlain_81 : decode cX12_putPlain 81 = .ok (.aload_n 0, 1) := by decide +kernel
theorem dX12_putPlain_82 : decode cX12_putPlain 82 = .ok (.aload_n 0, 1) := by decide +kernel
theorem dX12_putPlain_83 : decode cX12_putPlain 83 = .ok (.getfield 214, 3) := by decide +kernel
theorem dX12_putPlain_86 : decode cX12_putPlain 86 = .ok (.iload_n 1, 1) := by decide +kernel
theorem dX12_putPlain_87 : decode cX12_putPlain 87 = .ok (.iaload, 1) := by decide +kernel
theorem dX12_putPlain_88 : decode cX12_putPlain 88 = .ok (.aload_n 0, 1) := by decide +kernel
theorem dX12_putPlain_89 : decode cX12_putPlain 89 = .ok (.getfield 217, 3) := by decide +kernel
theorem dX12_putPlain_92 : decode cX12_putPlain 92 = .ok (.iload_n 1, 1) := by decide +kernel
theorem dX12_putPlain_93 : decode cX12_putPlain 93 = .ok (.iaload, 1) := by decide +kernel
theorem dX12_putPlain_94 : decode cX12_putPlain 94 = .ok (.invokevirtual 768, 3) := by decide +kernel
theorem dX12_putPlain_97 : decode cX12_putPlain 97 = .ok (.goto 70, 3) := by decide +kernel
theorem dX12_putPlain_100 : decode cX12_putPlain 100 = .ok (.iload_n 3, 1) := by decide +kernel
theorem dX12_putPlain_101 : decode cX12_putPlain 101 = .ok (.bipush 10, 2) := by decide +kernel
theorem dX12_putPlain_103 : decode cX12_putPlain 103 = .ok (.if_icmp .ne 30, 3) := by decide +kernel
theorem dX12_putPlain_106 : decode cX12_putPlain 106 = .ok (.aload_n 0, 1) := by decide +kernel
theorem dX12_putPlain_107 : decode cX12_putPlain 107 = .ok (.aload_n 0, 1) := by decide +kernel
theorem dX12_putPlain_108 : decode cX12_putPlain 108 = .ok (.getfield 211, 3) := by decide +kernel
theorem dX12_putPlain_111 : decode cX12_putPlain 111 = .ok (.iload_n 1, 1) := by decide +kernel
theorem dX12_putPlain_112 : decode cX12_putPlain 112 = .ok (.laload, 1) := by decide +kernel
theorem dX12_putPlain_113 : decode cX12_putPlain 113 = .ok (.lconst 0, 1) := by decide +kernel
theorem dX12_putPlain_114 : decode cX12_putPlain 114 = .ok (.lcmp, 1) := by decide +kernel
theorem dX12_putPlain_115 : decode cX12_putPlain 115 = .ok (.ifCond .ne 9, 3) := by decide +kernel
theorem dX12_putPlain_118 : decode cX12_putPlain 118 = .ok (.ldc2_w 455, 3) := by decide +kernel
theorem dX12_putPlain_121 : decode cX12_putPlain 121 = .ok (.goto 6, 3) := by decide +kernel
theorem dX12_putPlain_124 : decode cX12_putPlain 124 = .ok (.ldc2_w 453, 3) := by decide +kernel
theorem dX12_putPlain_127 : decode cX12_putPlain 127 = .ok (.invokevirtual 770, 3) := by decide +kernel
theorem dX12_putPlain_130 : decode cX12_putPlain 130 = .ok (.goto 37, 3) := by decide +kernel
theorem dX12_putPlain_133 : decode cX12_putPlain 133 = .ok (.iload_n 3, 1) := by decide +kernel
theorem dX12_putPlain_134 : decode cX12_putPlain 134 = .ok (.iconst 3, 1) := by decide +kernel
theorem dX12_putPlain_135 : decode cX12_putPlain 135 = .ok (.if_icmp .eq 9, 3) := by decide +kernel
theorem dX12_putPlain_138 : decode cX12_putPlain 138 = .ok (.iload_n 3, 1) := by decide +kernel
theorem dX12_putPlain_139 : decode cX12_putPlain 139 = .ok (.bipush 7, 2) := by decide +kernel
theorem dX12_putPlain_141 : decode cX12_putPlain 141 = .ok (.if_icmp .ne 16, 3) := by decide +kernel
theorem dX12_putPlain_144 : decode cX12_putPlain 144 = .ok (.aload_n 0, 1) := by decide +kernel
theorem dX12_putPlain_145 : decode cX12_putPlain 145 = .ok (.aload_n 0, 1) := by decide +kernel
theorem dX12_putPlain_146 : decode cX12_putPlain 146 = .ok (.getfield 211, 3) := by decide +kernel
theorem dX12_putPlain_149 : decode cX12_putPlain 149 = .ok (.iload_n 1, 1) := by decide +kernel
theorem dX12_putPlain_150 : decode cX12_putPlain 150 = .ok (.laload, 1) := by decide +kernel
theorem dX12_putPlain_151 : decode cX12_putPlain 151 = .ok (.invokevirtual 759, 3) := by decide +kernel
theorem dX12_putPlain_154 : decode cX12_putPlain 154 = .ok (.goto 13, 3) := by decide +kernel
theorem dX12_putPlain_157 : decode cX12_putPlain 157 = .ok (.aload_n 0, 1) := by decide +kernel
theorem dX12_putPlain_158 : decode cX12_putPlain 158 = .ok (.aload_n 0, 1) := by decide +kernel
theorem dX12_putPlain_159 : decode cX12_putPlain 159 = .ok (.getfield 211, 3) := by decide +kernel
theorem dX12_putPlain_162 : decode cX12_putPlain 162 = .ok (.iload_n 1, 1) := by decide +kernel
theorem dX12_putPlain_163 : decode cX12_putPlain 163 = .ok (.laload, 1) := by decide +kernel
theorem dX12_putPlain_164 : decode cX12_putPlain 164 = .ok (.invokevirtual 773, 3) := by decide +kernel
theorem dX12_putPlain_167 : decode cX12_putPlain 167 = .ok (.return_, 1) := by decide +kernel
theorem dX12_printStep_0 : decode cX12_printStep 0 = .ok (.aload_n 0, 1) := by decide +kernel
theorem dX12_printStep_1 : decode cX12_printStep 1 = .ok (.getfield 650, 3) := by decide +kernel
theorem dX12_printStep_4 : decode cX12_printStep 4 = .ok (.iconst 1, 1) := by decide +kernel
theorem dX12_printStep_5 : decode cX12_printStep 5 = .ok (.isub, 1) := by decide +kernel
theorem dX12_printStep_6 : decode cX12_printStep 6 = .ok (.istore_n 1, 1) := by decide +kernel
theorem dX12_printStep_7 : decode cX12_printStep 7 = .ok (.aload_n 0, 1) := by decide +kernel
theorem dX12_printStep_8 : decode cX12_printStep 8 = .ok (.getfield 238, 3) := by decide +kernel
theorem dX12_printStep_11 : decode cX12_printStep 11 = .ok (.iload_n 1, 1) := by decide +kernel
theorem dX12_printStep_12 : decode cX12_printStep 12 = .ok (.iaload, 1) := by decide +kernel
theorem dX12_printStep_13 : decode cX12_printStep 13 = .ok (.istore_n 2, 1) := by decide +kernel
theorem dX12_printStep_14 : decode cX12_printStep 14 = .ok (.aload_n 0, 1) := by decide +kernel
theorem dX12_printStep_15 : decode cX12_printStep 15 = .ok (.aload_n 0, 1) := by decide +kernel
theorem dX12_printStep_16 : decode cX12_printStep 16 = .ok (.getfield 587, 3) := by decide +kernel
theorem dX12_printStep_19 : decode cX12_printStep 19 = .ok (.aload_n 0, 1) := by decide +kernel
theorem dX12_printStep_20 : decode cX12_printStep 20 = .ok (.getfield 190, 3) := by decide +kernel
theorem dX12_printStep_23 : decode cX12_printStep 23 = .ok (.iload_n 2, 1) := by decide +kernel
theorem dX12_printStep_24 : decode cX12_printStep 24 = .ok (.iaload, 1) := by decide +kernel
theorem dX12_printStep_25 : decode cX12_printStep 25 = .ok (.aload_n 0, 1) := by decide +kernel
theorem dX12_printStep_26 : decode cX12_printStep 26 = .ok (.getfield 247, 3) := by decide +kernel
theorem dX12_printStep_29 : decode cX12_printStep 29 = .ok (.iload_n 1, 1) := by decide +kernel
theorem dX12_printStep_30 : decode cX12_printStep 30 = .ok (.iaload, 1) := by decide +kernel
theorem dX12_printStep_31 : decode cX12_printStep 31 = .ok (.invokevirtual 576, 3) := by decide +kernel
theorem dX12_printStep_34 : decode cX12_printStep 34 = .ok (.istore_n 3, 1) := by decide +kernel
theorem dX12_printStep_35 : decode cX12_printStep 35 = .ok (.iload_n 3, 1) := by decide +kernel
theorem dX12_printStep_36 : decode cX12_printStep 36 = .ok (.iconst (-1), 1) := by decide +kernel
theorem dX12_printStep_37 : decode cX12_printStep 37 = .ok (.if_icmp .ne 46, 3) := by decide +kernel
theorem dX12_printStep_40 : decode cX12_printStep 40 = .ok (.aload_n 0, 1) := by decide +kernel
theorem dX12_printStep_41 : decode cX12_printStep 41 = .ok (.dup, 1) := by decide +kernel
theorem dX12_printStep_42 : decode cX12_printStep 42 = .ok (.getfield 650, 3) := by decide +kernel
theorem dX12_printStep_45 : decode cX12_printStep 45 = .ok (.iconst 1, 1) := by decide +kernel
theorem dX12_printStep_46 : decode cX12_printStep 46 = .ok (.isub, 1) := by decide +kernel
theorem dX12_printStep_47 : decode cX12_printStep 47 = .ok (.putfield 650, 3) := by decide +kernel
theorem dX12_printStep_50 : decode cX12_printStep 50 = .ok (.aload_n 0, 1) := by decide +kernel
theorem dX12_printStep_51 : decode cX12_printStep 51 = .ok (.getfield 650, 3) := by decide +kernel
theorem dX12_printStep_54 : decode cX12_printStep 54 = .ok (.ifCond .ne 4, 3) := by decide +kernel
theorem dX12_printStep_57 : decode cX12_printStep 57 = .ok (.return_, 1) := by decide +kernel
theorem dX12_printStep_58 : decode cX12_printStep 58 = .ok (.aload_n 0, 1) := by decide +kernel
theorem dX12_printStep_59 : decode cX12_printStep 59 = .ok (.iconst 2, 1) := by decide +kernel
theorem dX12_printStep_60 : decode cX12_printStep 60 = .ok (.aload_n 0, 1) := by decide +kernel
theorem dX12_printStep_61 : decode cX12_printStep 61 = .ok (.getfield 650, 3) := by decide +kernel
theorem dX12_printStep_64 : decode cX12_printStep 64 = .ok (.iconst 1, 1) := by decide +kernel
theorem dX12_printStep_65 : decode cX12_printStep 65 = .ok (.isub, 1) := by decide +kernel
theorem dX12_printStep_66 : decode cX12_printStep 66 = .ok (.imul, 1) := by decide +kernel
theorem dX12_printStep_67 : decode cX12_printStep 67 = .ok (.invokevirtual 776, 3) := by decide +kernel
theorem dX12_printStep_70 : decode cX12_printStep 70 = .ok (.aload_n 0, 1) := by decide +kernel
theorem dX12_printStep_71 : decode cX12_printStep 71 = .ok (.bipush 125, 2) := by decide +kernel
theorem dX12_printStep_73 : decode cX12_printStep 73 = .ok (.invokevirtual 704, 3) := by decide +kernel
theorem dX12_printStep_76 : decode cX12_printStep 76 = .ok (.aload_n 0, 1) := by decide +kernel
theorem dX12_printStep_77 : decode cX12_printStep 77 = .ok (.bipush 10, 2) := by decide +kernel
theorem dX12_printStep_79 : decode cX12_printStep 79 = .ok (.invokevirtual 704, 3) := by decide +kernel
theorem dX12_printStep_82 : decode cX12_printStep 82 = .ok (.return_, 1) := by decide +kernel
theorem dX12_printStep_83 : decode cX12_printStep 83 = .ok (.aload_n 0, 1) := by decide +kernel
theorem dX12_printStep_84 : decode cX12_printStep 84 = .ok (.iload_n 2, 1) := by decide +kernel
theorem dX12_printStep_85 : decode cX12_printStep 85 = .ok (.iload_n 3, 1) := by decide +kernel
theorem dX12_printStep_86 : decode cX12_printStep 86 = .ok (.aload_n 0, 1) := by decide +kernel
theorem dX12_printStep_87 : decode cX12_printStep 87 = .ok (.getfield 244, 3) := by decide +kernel
theorem dX12_printStep_90 : decode cX12_printStep 90 = .ok (.iload_n 1, 1) := by decide +kernel
theorem dX12_printStep_91 : decode cX12_printStep 91 = .ok (.iaload, 1) := by decide +kernel
theorem dX12_printStep_92 : decode cX12_printStep 92 = .ok (.invokevirtual 737, 3) := by decide +kernel
theorem dX12_printStep_95 : decode cX12_printStep 95 = .ok (.istore 4, 2) := by decide +kernel
theorem dX12_printStep_97 : decode cX12_printStep 97 = .ok (.iload 4, 2) := by decide +kernel
theorem dX12_printStep_99 : decode cX12_printStep 99 = .ok (.iconst (-1), 1) := by decide +kernel
theorem dX12_printStep_100 : decode cX12_printStep 100 = .ok (.if_icmp .ne 21, 3) := by decide +kernel
theorem dX12_printStep_103 : decode cX12_printStep 103 = .ok (.aload_n 0, 1) := by decide +kernel
theorem dX12_printStep_104 : decode cX12_printStep 104 = .ok (.getfield 247, 3) := by decide +kernel
theorem dX12_printStep_107 : decode cX12_printStep 107 = .ok (.iload_n 1, 1) := by decide +kernel
theorem dX12_printStep_108 : decode cX12_printStep 108 = .ok (.dup2, 1) := by decide +kernel
theorem dX12_printStep_109 : decode cX12_printStep 109 = .ok (.iaload, 1) := by decide +kernel
theorem dX12_printStep_110 : decode cX12_printStep 110 = .ok (.iconst 1, 1) := by decide +kernel
theorem dX12_printStep_111 : decode cX12_printStep 111 = .ok (.iadd, 1) := by decide +kernel
theorem dX12_printStep_112 : decode cX12_printStep 112 = .ok (.iastore, 1) := by decide +kernel
theorem dX12_printStep_113 : decode cX12_printStep 113 = .ok (.aload_n 0, 1) := by decide +kernel
theorem dX12_printStep_114 : decode cX12_printStep 114 = .ok (.getfield 244, 3) := by decide +kernel
theorem dX12_printStep_117 : decode cX12_printStep 117 = .ok (.iload_n 1, 1) := by decide +kernel
theorem dX12_printStep_118 : decode cX12_printStep 118 = .ok (.iconst 0, 1) := by decide +kernel
theorem dX12_printStep_119 : decode cX12_printStep 119 = .ok (.iastore, 1) := by decide +kernel
theorem dX12_printStep_120 : decode cX12_printStep 120 = .ok (.return_, 1) := by decide +kernel
theorem dX12_printStep_121 : decode cX12_printStep 121 = .ok (.aload_n 0, 1) := by decide +kernel
theorem dX12_printStep_122 : decode cX12_printStep 122 = .ok (.getfield 244, 3) := by decide +kernel
theorem dX12_printStep_125 : decode cX12_printStep 125 = .ok (.iload_n 1, 1) := by decide +kernel
theorem dX12_printStep_126 : decode cX12_printStep 126 = .ok (.iload 4, 2) := by decide +kernel
theorem dX12_printStep_128 : decode cX12_printStep 128 = .ok (.iconst 1, 1) := by decide +kernel
theorem dX12_printStep_129 : decode cX12_printStep 129 = .ok (.iadd, 1) := by decide +kernel
theorem dX12_printStep_130 : decode cX12_printStep 130 = .ok (.iastore, 1) := by decide +kernel
theorem dX12_printStep_131 : decode cX12_printStep 131 = .ok (.aload_n 0, 1) := by decide +kernel
theorem dX12_printStep_132 : decode cX12_printStep 132 = .ok (.iconst 2, 1) := by decide +kernel
theorem dX12_printStep_133 : decode cX12_printStep 133 = .ok (.iload_n 1, 1) := by decide +kernel
theorem dX12_printStep_134 : decode cX12_printStep 134 = .ok (.imul, 1) := by decide +kernel
theorem dX12_printStep_135 : decode cX12_printStep 135 = .ok (.invokevirtual 776, 3) := by decide +kernel
theorem dX12_printStep_138 : decode cX12_printStep 138 = .ok (.aload_n 0, 1) := by decide +kernel
theorem dX12_printStep_139 : decode cX12_printStep 139 = .ok (.aload_n 0, 1) := by decide +kernel
theorem dX12_printStep_140 : decode cX12_printStep 140 = .ok (.getfield 53, 3) := by decide +kernel
theorem dX12_printStep_143 : decode cX12_printStep 143 = .ok (.iload_n 3, 1) := by decide +kernel
theorem dX12_printStep_144 : decode cX12_printStep 144 = .ok (.iaload, 1) := by decide +kernel
theorem dX12_printStep_145 : decode cX12_printStep 145 = .ok (.aload_n 0, 1) := by decide +kernel
theorem dX12_printStep_146 : decode cX12_printStep 146 = .ok (.getfield 56, 3) := by decide +kernel
theorem dX12_printStep_149 : decode cX12_printStep 149 = .ok (.iload_n 3, 1) := by decide +kernel
theorem dX12_printStep_150 : decode cX12_printStep 150 = .ok (.iaload, 1) := by decide +kernel
theorem dX12_printStep_151 : decode cX12_printStep 151 = .ok (.invokevirtual 765, 3) := by decide +kernel
theorem dX12_printStep_154 : decode cX12_printStep 154 = .ok (.aload_n 0, 1) := by decide +kernel
theorem dX12_printStep_155 : decode cX12_printStep 155 = .ok (.getfield 62, 3) := by decide +kernel
theorem dX12_printStep_158 : decode cX12_printStep 158 = .ok (.iload_n 3, 1) := by decide +kernel
theorem dX12_printStep_159 : decode cX12_printStep 159 = .ok (.iaload, 1) := by decide +kernel
theorem dX12_printStep_160 : decode cX12_printStep 160 = .ok (.bipush 13, 2) := by decide +kernel
theorem dX12_printStep_162 : decode cX12_printStep 162 = .ok (.if_icmp .ne 28, 3) := by decide +kernel
theorem dX12_printStep_165 : decode cX12_printStep 165 = .ok (.aload_n 0, 1) := by decide +kernel
theorem dX12_printStep_166 : decode cX12_printStep 166 = .ok (.ldc2_w 779, 3) := by decide +kernel
theorem dX12_printStep_169 : decode cX12_printStep 169 = .ok (.invokevirtual 770, 3) := by decide +kernel
theorem dX12_printStep_172 : decode cX12_printStep 172 = .ok (.aload_n 0, 1) := by decide +kernel
theorem dX12_printStep_173 : decode cX12_printStep 173 = .ok (.bipush 10, 2) := by decide +kernel
theorem dX12_printStep_175 : decode cX12_printStep 175 = .ok (.invokevirtual 704, 3) := by decide +kernel
theorem dX12_printStep_178 : decode cX12_printStep 178 = .ok (.aload_n 0, 1) := by decide +kernel
theorem dX12_printStep_179 : decode cX12_printStep 179 = .ok (.aload_n 0, 1) := by decide +kernel
theorem dX12_printStep_180 : decode cX12_printStep 180 = .ok (.getfield 220, 3) := by decide +kernel
theorem dX12_printStep_183 : decode cX12_printStep 183 = .ok (.iload 4, 2) := by decide +kernel
theorem dX12_printStep_185 : decode cX12_printStep 185 = .ok (.iaload, 1) := by decide +kernel
theorem dX12_printStep_186 : decode cX12_printStep 186 = .ok (.invokevirtual 743, 3) := by decide +kernel
theorem dX12_printStep_189 : decode cX12_printStep 189 = .ok (.return_, 1) := by decide +kernel
theorem dX12_printStep_190 : decode cX12_printStep 190 = .ok (.aload_n 0, 1) := by decide +kernel
theorem dX12_printStep_191 : decode cX12_printStep 191 = .ok (.ldc2_w 781, 3) := by decide +kernel
theorem dX12_printStep_194 : decode cX12_printStep 194 = .ok (.invokevirtual 770, 3) := by decide +kernel
theorem dX12_printStep_197 : decode cX12_printStep 197 = .ok (.aload_n 0, 1) := by decide +kernel
theorem dX12_printStep_198 : decode cX12_printStep 198 = .ok (.iload 4, 2) := by decide +kernel
theorem dX12_printStep_200 : decode cX12_printStep 200 = .ok (.invokevirtual 783, 3) := by decide +kernel
theorem dX12_printStep_203 : decode cX12_printStep 203 = .ok (.aload_n 0, 1) := by decide +kernel
theorem dX12_printStep_204 : decode cX12_printStep 204 = .ok (.bipush 10, 2) := by decide +kernel
theorem dX12_printStep_206 : decode cX12_printStep 206 = .ok (.invokevirtual 704, 3) := by decide +kernel
theorem dX12_printStep_209 : decode cX12_printStep 209 = .ok (.return_, 1) := by decide +kernel
theorem dX12_print_0 : decode cX12_print 0 = .ok (.aload_n 0, 1) := by decide +kernel
theorem dX12_print_1 : decode cX12_print 1 = .ok (.invokevirtual 746, 3) := by decide +kernel
theorem dX12_print_4 : decode cX12_print 4 = .ok (.aload_n 0, 1) := by decide +kernel
theorem dX12_print_5 : decode cX12_print 5 = .ok (.aload_n 0, 1) := by decide +kernel
theorem dX12_print_6 : decode cX12_print 6 = .ok (.getfield 551, 3) := by decide +kernel
theorem dX12_print_9 : decode cX12_print 9 = .ok (.ifCond .eq 7, 3) := by decide +kernel
theorem dX12_print_12 : decode cX12_print 12 = .ok (.iconst 0, 1) := by decide +kernel
theorem dX12_print_13 : decode cX12_print 13 = .ok (.goto 4, 3) := by decide +kernel
theorem dX12_print_16 : decode cX12_print 16 = .ok (.iconst 1, 1) := by decide +kernel
theorem dX12_print_17 : decode cX12_print 17 = .ok (.putfield 265, 3) := by decide +kernel
theorem dX12_print_20 : decode cX12_print 20 = .ok (.aload_n 0, 1) := by decide +kernel
theorem dX12_print_21 : decode cX12_print 21 = .ok (.getfield 265, 3) := by decide +kernel
theorem dX12_print_24 : decode cX12_print 24 = .ok (.ifCond .eq 5, 3) := by decide +kernel
theorem dX12_print_27 : decode cX12_print 27 = .ok (.iconst 0, 1) := by decide +kernel
theorem dX12_print_28 : decode cX12_print 28 = .ok (.ireturn, 1) := by decide +kernel
theorem dX12_print_29 : decode cX12_print 29 = .ok (.aload_n 0, 1) := by decide +kernel
theorem dX12_print_30 : decode cX12_print 30 = .ok (.iconst 0, 1) := by decide +kernel
theorem dX12_print_31 : decode cX12_print 31 = .ok (.putfield 650, 3) := by decide +kernel
theorem dX12_print_34 : decode cX12_print 34 = .ok (.aload_n 0, 1) := by decide +kernel
theorem dX12_print_35 : decode cX12_print 35 = .ok (.iconst 0, 1) := by decide +kernel
theorem dX12_print_36 : decode cX12_print 36 = .ok (.invokevirtual 743, 3) := by decide +kernel
theorem dX12_print_39 : decode cX12_print 39 = .ok (.aload_n 0, 1) := by decide +kernel
theorem dX12_print_40 : decode cX12_print 40 = .ok (.getfield 650, 3) := by decide +kernel
theorem dX12_print_43 : decode cX12_print 43 = .ok (.ifCond .le 10, 3) := by decide +kernel
theorem dX12_print_46 : decode cX12_print 46 = .ok (.aload_n 0, 1) := by decide +kernel
theorem dX12_print_47 : decode cX12_print 47 = .ok (.invokevirtual 786, 3) := by decide +kernel
theorem dX12_print_50 : decode cX12_print 50 = .ok (.goto (-11), 3) := by decide +kernel
theorem dX12_print_53 : decode cX12_print 53 = .ok (.aload_n 0, 1) := by decide +kernel
theorem dX12_print_54 : decode cX12_print 54 = .ok (.getfield 697, 3) := by decide +kernel
theorem dX12_print_57 : decode cX12_print 57 = .ok (.ifCond .eq 12, 3) := by decide +kernel
theorem dX12_print_60 : decode cX12_print 60 = .ok (.aload_n 0, 1) := by decide +kernel
theorem dX12_print_61 : decode cX12_print 61 = .ok (.invokevirtual 746, 3) := by decide +kernel
theorem dX12_print_64 : decode cX12_print 64 = .ok (.aload_n 0, 1) := by decide +kernel
theorem dX12_print_65 : decode cX12_print 65 = .ok (.iconst 2, 1) := by decide +kernel
theorem dX12_print_66 : decode cX12_print 66 = .ok (.putfield 265, 3) := by decide +kernel
theorem dX12_print_69 : decode cX12_print 69 = .ok (.aload_n 0, 1) := by decide +kernel
theorem dX12_print_70 : decode cX12_print 70 = .ok (.getfield 271, 3) := by decide +kernel
theorem dX12_print_73 : decode cX12_print 73 = .ok (.ireturn, 1) := by decide +kernel
theorem dX12_thrown_0 : decode cX12_thrown 0 = .ok (.aload_n 0, 1) := by decide +kernel
theorem dX12_thrown_1 : decode cX12_thrown 1 = .ok (.getfield 265, 3) := by decide +kernel
theorem dX12_thrown_4 : decode cX12_thrown 4 = .ok (.ireturn, 1) := by decide +kernel
theorem dX12_turn_0 : decode cX12_turn 0 = .ok (.aload_n 0, 1) := by decide +kernel
theorem dX12_turn_1 : decode cX12_turn 1 = .ok (.aload_n 0, 1) := by decide +kernel
theorem dX12_turn_2 : decode cX12_turn 2 = .ok (.getfield 271, 3) := by decide +kernel
theorem dX12_turn_5 : decode cX12_turn 5 = .ok (.sipush 700, 3) := by decide +kernel
theorem dX12_turn_8 : decode cX12_turn 8 = .ok (.if_icmp .le 7, 3) := by decide +kernel
theorem dX12_turn_11 : decode cX12_turn 11 = .ok (.iconst 1, 1) := by decide +kernel
theorem dX12_turn_12 : decode cX12_turn 12 = .ok (.goto 4, 3) := by decide +kernel
theorem dX12_turn_15 : decode cX12_turn 15 = .ok (.iconst 0, 1) := by decide +kernel
theorem dX12_turn_16 : decode cX12_turn 16 = .ok (.putfield 265, 3) := by decide +kernel
theorem dX12_turn_19 : decode cX12_turn 19 = .ok (.aload_n 0, 1) := by decide +kernel
theorem dX12_turn_20 : decode cX12_turn 20 = .ok (.getfield 265, 3) := by decide +kernel
theorem dX12_turn_23 : decode cX12_turn 23 = .ok (.ifCond .eq 5, 3) := by decide +kernel
theorem dX12_turn_26 : decode cX12_turn 26 = .ok (.iconst 0, 1) := by decide +kernel
theorem dX12_turn_27 : decode cX12_turn 27 = .ok (.ireturn, 1) := by decide +kernel
theorem dX12_turn_28 : decode cX12_turn 28 = .ok (.iconst 0, 1) := by decide +kernel
theorem dX12_turn_29 : decode cX12_turn 29 = .ok (.istore_n 1, 1) := by decide +kernel
theorem dX12_turn_30 : decode cX12_turn 30 = .ok (.iload_n 1, 1) := by decide +kernel
theorem dX12_turn_31 : decode cX12_turn 31 = .ok (.aload_n 0, 1) := by decide +kernel
theorem dX12_turn_32 : decode cX12_turn 32 = .ok (.getfield 271, 3) := by decide +kernel
theorem dX12_turn_35 : decode cX12_turn 35 = .ok (.if_icmp .ge 21, 3) := by decide +kernel
theorem dX12_turn_38 : decode cX12_turn 38 = .ok (.aload_n 0, 1) := by decide +kernel
theorem dX12_turn_39 : decode cX12_turn 39 = .ok (.getfield 7, 3) := by decide +kernel
theorem dX12_turn_42 : decode cX12_turn 42 = .ok (.iload_n 1, 1) := by decide +kernel
theorem dX12_turn_43 : decode cX12_turn 43 = .ok (.aload_n 0, 1) := by decide +kernel
theorem dX12_turn_44 : decode cX12_turn 44 = .ok (.getfield 13, 3) := by decide +kernel
theorem dX12_turn_47 : decode cX12_turn 47 = .ok (.iload_n 1, 1) := by decide +kernel
theorem dX12_turn_48 : decode cX12_turn 48 = .ok (.iaload, 1) := by decide +kernel
theorem dX12_turn_49 : decode cX12_turn 49 = .ok (.iastore, 1) := by decide +kernel
theorem dX12_turn_50 : decode cX12_turn 50 = .ok (.iinc 1 1, 3) := by decide +kernel
theorem dX12_turn_53 : decode cX12_turn 53 = .ok (.goto (-23), 3) := by decide +kernel
theorem dX12_turn_56 : decode cX12_turn 56 = .ok (.aload_n 0, 1) := by decide +kernel
theorem dX12_turn_57 : decode cX12_turn 57 = .ok (.aload_n 0, 1) := by decide +kernel
theorem dX12_turn_58 : decode cX12_turn 58 = .ok (.getfield 271, 3) := by decide +kernel
theorem dX12_turn_61 : decode cX12_turn 61 = .ok (.putfield 268, 3) := by decide +kernel
theorem dX12_turn_64 : decode cX12_turn 64 = .ok (.aload_n 0, 1) := by decide +kernel
theorem dX12_turn_65 : decode cX12_turn 65 = .ok (.getfield 268, 3) := by decide +kernel
theorem dX12_turn_68 : decode cX12_turn 68 = .ok (.ireturn, 1) := by decide +kernel
