theorem dX12_above_0 : decode cX12_above 0 = .ok (.lload_n 0, 1) := by decide +kernel
theorem dX12_above_1 : decode cX12_above 1 = .ok (.lconst 0, 1) := by decide +kernel
theorem dX12_above_2 : decode cX12_above 2 = .ok (.lcmp, 1) := by decide +kernel
theorem dX12_above_3 : decode cX12_above 3 = .ok (.ifCond .ge 7, 3) := by decide +kernel
theorem dX12_above_6 : decode cX12_above 6 = .ok (.iconst 1, 1) := by decide +kernel
theorem dX12_above_7 : decode cX12_above 7 = .ok (.goto 4, 3) := by decide +kernel
theorem dX12_above_10 : decode cX12_above 10 = .ok (.iconst 0, 1) := by decide +kernel
theorem dX12_above_11 : decode cX12_above 11 = .ok (.lload_n 2, 1) := by decide +kernel
theorem dX12_above_12 : decode cX12_above 12 = .ok (.lconst 0, 1) := by decide +kernel
theorem dX12_above_13 : decode cX12_above 13 = .ok (.lcmp, 1) := by decide +kernel
theorem dX12_above_14 : decode cX12_above 14 = .ok (.ifCond .ge 7, 3) := by decide +kernel
theorem dX12_above_17 : decode cX12_above 17 = .ok (.iconst 1, 1) := by decide +kernel
theorem dX12_above_18 : decode cX12_above 18 = .ok (.goto 4, 3) := by decide +kernel
theorem dX12_above_21 : decode cX12_above 21 = .ok (.iconst 0, 1) := by decide +kernel
theorem dX12_above_22 : decode cX12_above 22 = .ok (.if_icmp .ne 17, 3) := by decide +kernel
theorem dX12_above_25 : decode cX12_above 25 = .ok (.lload_n 0, 1) := by decide +kernel
theorem dX12_above_26 : decode cX12_above 26 = .ok (.lload_n 2, 1) := by decide +kernel
theorem dX12_above_27 : decode cX12_above 27 = .ok (.lcmp, 1) := by decide +kernel
theorem dX12_above_28 : decode cX12_above 28 = .ok (.ifCond .le 7, 3) := by decide +kernel
theorem dX12_above_31 : decode cX12_above 31 = .ok (.iconst 1, 1) := by decide +kernel
theorem dX12_above_32 : decode cX12_above 32 = .ok (.goto 18, 3) := by decide +kernel
theorem dX12_above_35 : decode cX12_above 35 = .ok (.iconst 0, 1) := by decide +kernel
theorem dX12_above_36 : decode cX12_above 36 = .ok (.goto 14, 3) := by decide +kernel
theorem dX12_above_39 : decode cX12_above 39 = .ok (.lload_n 0, 1) := by decide +kernel
theorem dX12_above_40 : decode cX12_above 40 = .ok (.lconst 0, 1) := by decide +kernel
theorem dX12_above_41 : decode cX12_above 41 = .ok (.lcmp, 1) := by decide +kernel
theorem dX12_above_42 : decode cX12_above 42 = .ok (.ifCond .ge 7, 3) := by decide +kernel
theorem dX12_above_45 : decode cX12_above 45 = .ok (.iconst 1, 1) := by decide +kernel
theorem dX12_above_46 : decode cX12_above 46 = .ok (.goto 4, 3) := by decide +kernel
theorem dX12_above_49 : decode cX12_above 49 = .ok (.iconst 0, 1) := by decide +kernel
theorem dX12_above_50 : decode cX12_above 50 = .ok (.ireturn, 1) := by decide +kernel
theorem dX12_addNode_0 : decode cX12_addNode 0 = .ok (.aload_n 0, 1) := by decide +kernel
theorem dX12_addNode_1 : decode cX12_addNode 1 = .ok (.getfield 593, 3) := by decide +kernel
theorem dX12_addNode_4 : decode cX12_addNode 4 = .ok (.istore 4, 2) := by decide +kernel
theorem dX12_addNode_6 : decode cX12_addNode 6 = .ok (.aload_n 0, 1) := by decide +kernel
theorem dX12_addNode_7 : decode cX12_addNode 7 = .ok (.dup, 1) := by decide +kernel
theorem dX12_addNode_8 : decode cX12_addNode 8 = .ok (.getfield 593, 3) := by decide +kernel
theorem dX12_addNode_11 : decode cX12_addNode 11 = .ok (.iconst 1, 1) := by decide +kernel
theorem dX12_addNode_12 : decode cX12_addNode 12 = .ok (.iadd, 1) := by decide +kernel
theorem dX12_addNode_13 : decode cX12_addNode 13 = .ok (.putfield 593, 3) := by decide +kernel
theorem dX12_addNode_16 : decode cX12_addNode 16 = .ok (.aload_n 0, 1) := by decide +kernel
theorem dX12_addNode_17 : decode cX12_addNode 17 = .ok (.getfield 190, 3) := by decide +kernel
theorem dX12_addNode_20 : decode cX12_addNode 20 = .ok (.iload 4, 2) := by decide +kernel
theorem dX12_addNode_22 : decode cX12_addNode 22 = .ok (.iload_n 1, 1) := by decide +kernel
theorem dX12_addNode_23 : decode cX12_addNode 23 = .ok (.iastore, 1) := by decide +kernel
theorem dX12_addNode_24 : decode cX12_addNode 24 = .ok (.aload_n 0, 1) := by decide +kernel
theorem dX12_addNode_25 : decode cX12_addNode 25 = .ok (.getfield 193, 3) := by decide +kernel
theorem dX12_addNode_28 : decode cX12_addNode 28 = .ok (.iload 4, 2) := by decide +kernel
theorem dX12_addNode_30 : decode cX12_addNode 30 = .ok (.iload_n 2, 1) := by decide +kernel
theorem dX12_addNode_31 : decode cX12_addNode 31 = .ok (.iastore, 1) := by decide +kernel
theorem dX12_addNode_32 : decode cX12_addNode 32 = .ok (.aload_n 0, 1) := by decide +kernel
theorem dX12_addNode_33 : decode cX12_addNode 33 = .ok (.getfield 196, 3) := by decide +kernel
theorem dX12_addNode_36 : decode cX12_addNode 36 = .ok (.iload 4, 2) := by decide +kernel
theorem dX12_addNode_38 : decode cX12_addNode 38 = .ok (.iload_n 3, 1) := by decide +kernel
theorem dX12_addNode_39 : decode cX12_addNode 39 = .ok (.iastore, 1) := by decide +kernel
theorem dX12_addNode_40 : decode cX12_addNode 40 = .ok (.iload_n 3, 1) := by decide +kernel
theorem dX12_addNode_41 : decode cX12_addNode 41 = .ok (.aload_n 0, 1) := by decide +kernel
theorem dX12_addNode_42 : decode cX12_addNode 42 = .ok (.getfield 605, 3) := by decide +kernel
theorem dX12_addNode_45 : decode cX12_addNode 45 = .ok (.if_icmp .le 8, 3) := by decide +kernel
theorem dX12_addNode_48 : decode cX12_addNode 48 = .ok (.aload_n 0, 1) := by decide +kernel
theorem dX12_addNode_49 : decode cX12_addNode 49 = .ok (.iconst 1, 1) := by decide +kernel
theorem dX12_addNode_50 : decode cX12_addNode 50 = .ok (.putfield 590, 3) := by decide +kernel
theorem dX12_addNode_53 : decode cX12_addNode 53 = .ok (.iload 4, 2) := by decide +kernel
theorem dX12_addNode_55 : decode cX12_addNode 55 = .ok (.ireturn, 1) := by decide +kernel
theorem dX12_addRow_0 : decode cX12_addRow 0 = .ok (.aload_n 0, 1) := by decide +kernel
theorem dX12_addRow_1 : decode cX12_addRow 1 = .ok (.getfield 596, 3) := by decide +kernel
theorem dX12_addRow_4 : decode cX12_addRow 4 = .ok (.istore_n 3, 1) := by decide +kernel
theorem dX12_addRow_5 : decode cX12_addRow 5 = .ok (.aload_n 0, 1) := by decide +kernel
theorem dX12_addRow_6 : decode cX12_addRow 6 = .ok (.dup, 1) := by decide +kernel
theorem dX12_addRow_7 : decode cX12_addRow 7 = .ok (.getfield 596, 3) := by decide +kernel
theorem dX12_addRow_10 : decode cX12_addRow 10 = .ok (.iconst 1, 1) := by decide +kernel
theorem dX12_addRow_11 : decode cX12_addRow 11 = .ok (.iadd, 1) := by decide +kernel
theorem dX12_addRow_12 : decode cX12_addRow 12 = .ok (.putfield 596, 3) := by decide +kernel
theorem dX12_addRow_15 : decode cX12_addRow 15 = .ok (.aload_n 0, 1) := by decide +kernel
theorem dX12_addRow_16 : decode cX12_addRow 16 = .ok (.getfield 205, 3) := by decide +kernel
theorem dX12_addRow_19 : decode cX12_addRow 19 = .ok (.iload_n 3, 1) := by decide +kernel
theorem dX12_addRow_20 : decode cX12_addRow 20 = .ok (.iload_n 1, 1) := by decide +kernel
theorem dX12_addRow_21 : decode cX12_addRow 21 = .ok (.iastore, 1) := by decide +kernel
theorem dX12_addRow_22 : decode cX12_addRow 22 = .ok (.aload_n 0, 1) := by decide +kernel
theorem dX12_addRow_23 : decode cX12_addRow 23 = .ok (.getfield 208, 3) := by decide +kernel
theorem dX12_addRow_26 : decode cX12_addRow 26 = .ok (.iload_n 3, 1) := by decide +kernel
theorem dX12_addRow_27 : decode cX12_addRow 27 = .ok (.iload_n 2, 1) := by decide +kernel
theorem dX12_addRow_28 : decode cX12_addRow 28 = .ok (.iastore, 1) := by decide +kernel
theorem dX12_addRow_29 : decode cX12_addRow 29 = .ok (.aload_n 0, 1) := by decide +kernel
theorem dX12_addRow_30 : decode cX12_addRow 30 = .ok (.getfield 211, 3) := by decide +kernel
theorem dX12_addRow_33 : decode cX12_addRow 33 = .ok (.iload_n 3, 1) := by decide +kernel
theorem dX12_addRow_34 : decode cX12_addRow 34 = .ok (.lconst 0, 1) := by decide +kernel
theorem dX12_addRow_35 : decode cX12_addRow 35 = .ok (.lastore, 1) := by decide +kernel
theorem dX12_addRow_36 : decode cX12_addRow 36 = .ok (.aload_n 0, 1) := by decide +kernel
theorem dX12_addRow_37 : decode cX12_addRow 37 = .ok (.getfield 214, 3) := by decide +kernel
theorem dX12_addRow_40 : decode cX12_addRow 40 = .ok (.iload_n 3, 1) := by decide +kernel
theorem dX12_addRow_41 : decode cX12_addRow 41 = .ok (.iconst 0, 1) := by decide +kernel
theorem dX12_addRow_42 : decode cX12_addRow 42 = .ok (.iastore, 1) := by decide +kernel
theorem dX12_addRow_43 : decode cX12_addRow 43 = .ok (.aload_n 0, 1) := by decide +kernel
theorem dX12_addRow_44 : decode cX12_addRow 44 = .ok (.getfield 217, 3) := by decide +kernel
theorem dX12_addRow_47 : decode cX12_addRow 47 = .ok (.iload_n 3, 1) := by decide +kernel
theorem dX12_addRow_48 : decode cX12_addRow 48 = .ok (.iconst 0, 1) := by decide +kernel
theorem dX12_addRow_49 : decode cX12_addRow 49 = .ok (.iastore, 1) := by decide +kernel
theorem dX12_addRow_50 : decode cX12_addRow 50 = .ok (.aload_n 0, 1) := by decide +kernel
theorem dX12_addRow_51 : decode cX12_addRow 51 = .ok (.getfield 220, 3) := by decide +kernel
theorem dX12_addRow_54 : decode cX12_addRow 54 = .ok (.iload_n 3, 1) := by decide +kernel
theorem dX12_addRow_55 : decode cX12_addRow 55 = .ok (.iconst (-1), 1) := by decide +kernel
theorem dX12_addRow_56 : decode cX12_addRow 56 = .ok (.iastore, 1) := by decide +kernel
theorem dX12_addRow_57 : decode cX12_addRow 57 = .ok (.aload_n 0, 1) := by decide +kernel
theorem dX12_addRow_58 : decode cX12_addRow 58 = .ok (.getfield 223, 3) := by decide +kernel
theorem dX12_addRow_61 : decode cX12_addRow 61 = .ok (.iload_n 3, 1) := by decide +kernel
theorem dX12_addRow_62 : decode cX12_addRow 62 = .ok (.iconst 1, 1) := by decide +kernel
theorem dX12_addRow_63 : decode cX12_addRow 63 = .ok (.bastore, 1) := by decide +kernel
theorem dX12_addRow_64 : decode cX12_addRow 64 = .ok (.iload_n 3, 1) := by decide +kernel
theorem dX12_addRow_65 : decode cX12_addRow 65 = .ok (.ireturn, 1) := by decide +kernel
theorem dX12_addUnknown_0 : decode cX12_addUnknown 0 = .ok (.aload_n 0, 1) := by decide +kernel
theorem dX12_addUnknown_1 : decode cX12_addUnknown 1 = .ok (.getfield 226, 3) := by decide +kernel
theorem dX12_addUnknown_4 : decode cX12_addUnknown 4 = .ok (.aload_n 0, 1) := by decide +kernel
theorem dX12_addUnknown_5 : decode cX12_addUnknown 5 = .ok (.getfield 599, 3) := by decide +kernel
theorem dX12_addUnknown_8 : decode cX12_addUnknown 8 = .ok (.iload_n 1, 1) := by decide +kernel
theorem dX12_addUnknown_9 : decode cX12_addUnknown 9 = .ok (.iastore, 1) := by decide +kernel
theorem dX12_addUnknown_10 : decode cX12_addUnknown 10 = .ok (.aload_n 0, 1) := by decide +kernel
theorem dX12_addUnknown_11 : decode cX12_addUnknown 11 = .ok (.getfield 229, 3) := by decide +kernel
theorem dX12_addUnknown_14 : decode cX12_addUnknown 14 = .ok (.aload_n 0, 1) := by decide +kernel
theorem dX12_addUnknown_15 : decode cX12_addUnknown 15 = .ok (.getfield 599, 3) := by decide +kernel
theorem dX12_addUnknown_18 : decode cX12_addUnknown 18 = .ok (.aload_n 0, 1) := by decide +kernel
theorem dX12_addUnknown_19 : decode cX12_addUnknown 19 = .ok (.getfield 602, 3) := by decide +kernel
theorem dX12_addUnknown_22 : decode cX12_addUnknown 22 = .ok (.iastore, 1) := by decide +kernel
theorem dX12_addUnknown_23 : decode cX12_addUnknown 23 = .ok (.aload_n 0, 1) := by decide +kernel
theorem dX12_addUnknown_24 : decode cX12_addUnknown 24 = .ok (.getfield 232, 3) := by decide +kernel
theorem dX12_addUnknown_27 : decode cX12_addUnknown 27 = .ok (.aload_n 0, 1) := by decide +kernel
theorem dX12_addUnknown_28 : decode cX12_addUnknown 28 = .ok (.getfield 599, 3) := by decide +kernel
theorem dX12_addUnknown_31 : decode cX12_addUnknown 31 = .ok (.iload_n 3, 1) := by decide +kernel
theorem dX12_addUnknown_32 : decode cX12_addUnknown 32 = .ok (.iload_n 2, 1) := by decide +kernel
theorem dX12_addUnknown_33 : decode cX12_addUnknown 33 = .ok (.isub, 1) := by decide +kernel
theorem dX12_addUnknown_34 : decode cX12_addUnknown 34 = .ok (.iastore, 1) := by decide +kernel
theorem dX12_addUnknown_35 : decode cX12_addUnknown 35 = .ok (.aload_n 0, 1) := by decide +kernel
theorem dX12_addUnknown_36 : decode cX12_addUnknown 36 = .ok (.dup, 1) := by decide +kernel
theorem dX12_addUnknown_37 : decode cX12_addUnknown 37 = .ok (.getfield 599, 3) := by decide +kernel
theorem dX12_addUnknown_40 : decode cX12_addUnknown 40 = .ok (.iconst 1, 1) := by decide +kernel
theorem dX12_addUnknown_41 : decode cX12_addUnknown 41 = .ok (.iadd, 1) := by decide +kernel
theorem dX12_addUnknown_42 : decode cX12_addUnknown 42 = .ok (.putfield 599, 3) := by decide +kernel
theorem dX12_addUnknown_45 : decode cX12_addUnknown 45 = .ok (.iload_n 2, 1) := by decide +kernel
theorem dX12_addUnknown_46 : decode cX12_addUnknown 46 = .ok (.istore 4, 2) := by decide +kernel
theorem dX12_addUnknown_48 : decode cX12_addUnknown 48 = .ok (.iload 4, 2) := by decide +kernel
theorem dX12_addUnknown_50 : decode cX12_addUnknown 50 = .ok (.iload_n 3, 1) := by decide +kernel
theorem dX12_addUnknown_51 : decode cX12_addUnknown 51 = .ok (.if_icmp .ge 35, 3) := by decide +kernel
theorem dX12_addUnknown_54 : decode cX12_addUnknown 54 = .ok (.aload_n 0, 1) := by decide +kernel
theorem dX12_addUnknown_55 : decode cX12_addUnknown 55 = .ok (.getfield 235, 3) := by decide +kernel
theorem dX12_addUnknown_58 : decode cX12_addUnknown 58 = .ok (.aload_n 0, 1) := by decide +kernel
theorem dX12_addUnknown_59 : decode cX12_addUnknown 59 = .ok (.getfield 602, 3) := by decide +kernel
theorem dX12_addUnknown_62 : decode cX12_addUnknown 62 = .ok (.aload_n 0, 1) := by decide +kernel
theorem dX12_addUnknown_63 : decode cX12_addUnknown 63 = .ok (.getfield 7, 3) := by decide +kernel
theorem dX12_addUnknown_66 : decode cX12_addUnknown 66 = .ok (.iload 4, 2) := by decide +kernel
theorem dX12_addUnknown_68 : decode cX12_addUnknown 68 = .ok (.iaload, 1) := by decide +kernel
theorem dX12_addUnknown_69 : decode cX12_addUnknown 69 = .ok (.iastore, 1) := by decide +kernel
theorem dX12_addUnknown_70 : decode cX12_addUnknown 70 = .ok (.aload_n 0, 1) := by decide +kernel
theorem dX12_addUnknown_71 : decode cX12_addUnknown 71 = .ok (.dup, 1) := by decide +kernel
theorem dX12_addUnknown_72 : decode cX12_addUnknown 72 = .ok (.getfield 602, 3) := by decide +kernel
theorem dX12_addUnknown_75 : decode cX12_addUnknown 75 = .ok (.iconst 1, 1) := by decide +kernel
theorem dX12_addUnknown_76 : decode cX12_addUnknown 76 = .ok (.iadd, 1) := by decide +kernel
theorem dX12_addUnknown_77 : decode cX12_addUnknown 77 = .ok (.putfield 602, 3) := by decide +kernel
theorem dX12_addUnknown_80 : decode cX12_addUnknown 80 = .ok (.iinc 4 1, 3) := by decide +kernel
theorem dX12_addUnknown_83 : decode cX12_addUnknown 83 = .ok (.goto (-35), 3) := by decide +kernel
theorem dX12_addUnknown_86 : decode cX12_addUnknown 86 = .ok (.return_, 1) := by decide +kernel
theorem dX12_byteAt_0 : decode cX12_byteAt 0 = .ok (.iload_n 1, 1) := by decide +kernel
theorem dX12_byteAt_1 : decode cX12_byteAt 1 = .ok (.aload_n 0, 1) := by decide +kernel
theorem dX12_byteAt_2 : decode cX12_byteAt 2 = .ok (.getfield 274, 3) := by decide +kernel
theorem dX12_byteAt_5 : decode cX12_byteAt 5 = .ok (.if_icmp .ge 12, 3) := by decide +kernel
theorem dX12_byteAt_8 : decode cX12_byteAt 8 = .ok (.aload_n 0, 1) := by decide +kernel
theorem dX12_byteAt_9 : decode cX12_byteAt 9 = .ok (.getfield 7, 3) := by decide +kernel
theorem dX12_byteAt_12 : decode cX12_byteAt 12 = .ok (.iload_n 1, 1) := by decide +kernel
theorem dX12_byteAt_13 : decode cX12_byteAt 13 = .ok (.iaload, 1) := by decide +kernel
theorem dX12_byteAt_14 : decode cX12_byteAt 14 = .ok (.goto 4, 3) := by decide +kernel
theorem dX12_byteAt_17 : decode cX12_byteAt 17 = .ok (.iconst (-1), 1) := by decide +kernel
theorem dX12_byteAt_18 : decode cX12_byteAt 18 = .ok (.ireturn, 1) := by decide +kernel
theorem dX12_isBlank_0 : decode cX12_isBlank 0 = .ok (.iload_n 0, 1) := by decide +kernel
theorem dX12_isBlank_1 : decode cX12_isBlank 1 = .ok (.bipush 9, 2) := by decide +kernel
theorem dX12_isBlank_3 : decode cX12_isBlank 3 = .ok (.if_icmp .eq 21, 3) := by decide +kernel
theorem dX12_isBlank_6 : decode cX12_isBlank 6 = .ok (.iload_n 0, 1) := by decide +kernel
theorem dX12_isBlank_7 : decode cX12_isBlank 7 = .ok (.bipush 10, 2) := by decide +kernel
theorem dX12_isBlank_9 : decode cX12_isBlank 9 = .ok (.if_icmp .eq 15, 3) := by decide +kernel
theorem dX12_isBlank_12 : decode cX12_isBlank 12 = .ok (.iload_n 0, 1) := by decide +kernel
theorem dX12_isBlank_13 : decode cX12_isBlank 13 = .ok (.bipush 13, 2) := by decide +kernel
theorem dX12_isBlank_15 : decode cX12_isBlank 15 = .ok (.if_icmp .eq 9, 3) := by decide +kernel
theorem dX12_isBlank_18 : decode cX12_isBlank 18 = .ok (.iload_n 0, 1) := by decide +kernel
theorem dX12_isBlank_19 : decode cX12_isBlank 19 = .ok (.bipush 32, 2) := by decide +kernel
theorem dX12_isBlank_21 : decode cX12_isBlank 21 = .ok (.if_icmp .ne 7, 3) := by decide +kernel
theorem dX12_isBlank_24 : decode cX12_isBlank 24 = .ok (.iconst 1, 1) := by decide +kernel
theorem dX12_isBlank_25 : decode cX12_isBlank 25 = .ok (.goto 4, 3) := by decide +kernel
theorem dX12_isBlank_28 : decode cX12_isBlank 28 = .ok (.iconst 0, 1) := by decide +kernel
theorem dX12_isBlank_29 : decode cX12_isBlank 29 = .ok (.ireturn, 1) := by decide +kernel
theorem dX12_behindComment_0 : decode cX12_behindComment 0 = .ok (.aload_n 0, 1) := by decide +kernel
theorem dX12_behindComment_1 : decode cX12_behindComment 1 = .ok (.iload_n 1, 1) := by decide +kernel
theorem dX12_behindComment_2 : decode cX12_behindComment 2 = .ok (.invokevirtual 284, 3) := by decide +kernel
theorem dX12_behindComment_5 : decode cX12_behindComment 5 = .ok (.bipush 47, 2) := by decide +kernel
theorem dX12_behindComment_7 : decode cX12_behindComment 7 = .ok (.if_icmp .eq 5, 3) := by decide +kernel
theorem dX12_behindComment_10 : decode cX12_behindComment 10 = .ok (.iload_n 1, 1) := by decide +kernel
theorem dX12_behindComment_11 : decode cX12_behindComment 11 = .ok (.ireturn, 1) := by decide +kernel
theorem dX12_behindComment_12 : decode cX12_behindComment 12 = .ok (.iload_n 1, 1) := by decide +kernel
theorem dX12_behindComment_13 : decode cX12_behindComment 13 = .ok (.iconst 2, 1) := by decide +kernel
theorem dX12_behindComment_14 : decode cX12_behindComment 14 = .ok (.iadd, 1) := by decide +kernel
theorem dX12_behindComment_15 : decode cX12_behindComment 15 = .ok (.istore_n 2, 1) := by decide +kernel
theorem dX12_behindComment_16 : decode cX12_behindComment 16 = .ok (.aload_n 0, 1) := by decide +kernel
theorem dX12_behindComment_17 : decode cX12_behindComment 17 = .ok (.iload_n 1, 1) := by decide +kernel
theorem dX12_behindComment_18 : decode cX12_behindComment 18 = .ok (.iconst 1, 1) := by decide +kernel
theorem dX12_behindComment_19 : decode cX12_behindComment 19 = .ok (.iadd, 1) := by decide +kernel
theorem dX12_behindComment_20 : decode cX12_behindComment 20 = .ok (.invokevirtual 284, 3) := by decide +kernel
theorem dX12_behindComment_23 : decode cX12_behindComment 23 = .ok (.bipush 47, 2) := by decide +kernel
theorem dX12_behindComment_25 : decode cX12_behindComment 25 = .ok (.if_icmp .ne 29, 3) := by decide +kernel
theorem dX12_behindComment_28 : decode cX12_behindComment 28 = .ok (.iload_n 2, 1) := by decide +kernel
theorem dX12_behindComment_29 : decode cX12_behindComment 29 = .ok (.aload_n 0, 1) := by decide +kernel
theorem dX12_behindComment_30 : decode cX12_behindComment 30 = .ok (.getfield 274, 3) := by decide +kernel
theorem dX12_behindComment_33 : decode cX12_behindComment 33 = .ok (.if_icmp .ge 19, 3) := by decide +kernel
theorem dX12_behindComment_36 : decode cX12_behindComment 36 = .ok (.aload_n 0, 1) := by decide +kernel
theorem dX12_behindComment_37 : decode cX12_behindComment 37 = .ok (.iload_n 2, 1) := by decide +kernel
theorem dX12_behindComment_38 : decode cX12_behindComment 38 = .ok (.invokevirtual 284, 3) := by decide +kernel
theorem dX12_behindComment_41 : decode cX12_behindComment 41 = .ok (.bipush 10, 2) := by decide +kernel
theorem dX12_behindComment_43 : decode cX12_behindComment 43 = .ok (.if_icmp .eq 9, 3) := by decide +kernel
theorem dX12_behindComment_46 : decode cX12_behindComment 46 = .ok (.iinc 2 1, 3) := by decide +kernel
theorem dX12_behindComment_49 : decode cX12_behindComment 49 = .ok (.goto (-21), 3) := by decide +kernel
theorem dX12_behindComment_52 : decode cX12_behindComment 52 = .ok (.iload_n 2, 1) := by decide +kernel
theorem dX12_behindComment_53 : decode cX12_behindComment 53 = .ok (.ireturn, 1) := by decide +kernel
theorem dX12_behindComment_54 : decode cX12_behindComment 54 = .ok (.aload_n 0, 1) := by decide +kernel
theorem dX12_behindComment_55 : decode cX12_behindComment 55 = .ok (.iload_n 1, 1) := by decide +kernel
theorem dX12_behindComment_56 : decode cX12_behindComment 56 = .ok (.iconst 1, 1) := by decide +kernel
theorem dX12_behindComment_57 : decode cX12_behindComment 57 = .ok (.iadd, 1) := by decide +kernel
theorem dX12_behindComment_58 : decode cX12_behindComment 58 = .ok (.invokevirtual 284, 3) := by decide +kernel
theorem dX12_behindComment_61 : decode cX12_behindComment 61 = .ok (.bipush 42, 2) := by decide +kernel
theorem dX12_behindComment_63 : decode cX12_behindComment 63 = .ok (.if_icmp .eq 5, 3) := by decide +kernel
theorem dX12_behindComment_66 : decode cX12_behindComment 66 = .ok (.iload_n 1, 1) := by decide +kernel
theorem dX12_behindComment_67 : decode cX12_behindComment 67 = .ok (.ireturn, 1) := by decide +kernel
theorem dX12_behindComment_68 : decode cX12_behindComment 68 = .ok (.iload_n 2, 1) := by decide +kernel
theorem dX12_behindComment_69 : decode cX12_behindComment 69 = .ok (.iconst 1, 1) := by decide +kernel
theorem dX12_behindComment_70 : decode cX12_behindComment 70 = .ok (.iadd, 1) := by decide +kernel
theorem dX12_behindComment_71 : decode cX12_behindComment 71 = .ok (.aload_n 0, 1) := by decide +kernel
theorem dX12_behindComment_72 : decode cX12_behindComment 72 = .ok (.getfield 274, 3) := by decide +kernel
theorem dX12_behindComment_75 : decode cX12_behindComment 75 = .ok (.if_icmp .ge 31, 3) := by decide +kernel
theorem dX12_behindComment_78 : decode cX12_behindComment 78 = .ok (.aload_n 0, 1) := by decide +kernel
theorem dX12_behindComment_79 : decode cX12_behindComment 79 = .ok (.iload_n 2, 1) := by decide +kernel
theorem dX12_behindComment_80 : decode cX12_behindComment 80 = .ok (.invokevirtual 284, 3) := by decide +kernel
theorem dX12_behindComment_83 : decode cX12_behindComment 83 = .ok (.bipush 42, 2) := by decide +kernel
theorem dX12_behindComment_85 : decode cX12_behindComment 85 = .ok (.if_icmp .ne 15, 3) := by decide +kernel
theorem dX12_behindComment_88 : decode cX12_behindComment 88 = .ok (.aload_n 0, 1) := by decide +kernel
theorem dX12_behindComment_89 : decode cX12_behindComment 89 = .ok (.iload_n 2, 1) := by decide +kernel
theorem dX12_behindComment_90 : decode cX12_behindComment 90 = .ok (.iconst 1, 1) := by decide +kernel
theorem dX12_behindComment_91 : decode cX12_behindComment 91 = .ok (.iadd, 1) := by decide +kernel
theorem dX12_behindComment_92 : decode cX12_behindComment 92 = .ok (.invokevirtual 284, 3) := by decide +kernel
theorem dX12_behindComment_95 : decode cX12_behindComment 95 = .ok (.bipush 47, 2) := by decide +kernel
theorem dX12_behindComment_97 : decode cX12_behindComment 97 = .ok (.if_icmp .eq 9, 3) := by decide +kernel
theorem dX12_behindComment_100 : decode cX12_behindComment 100 = .ok (.iinc 2 1, 3) := by decide +kernel
theorem dX12_behindComment_103 : decode cX12_behindComment 103 = .ok (.goto (-35), 3) := by decide +kernel
theorem dX12_behindComment_106 : decode cX12_behindComment 106 = .ok (.iload_n 2, 1) := by decide +kernel
theorem dX12_behindComment_107 : decode cX12_behindComment 107 = .ok (.iconst 1, 1) := by decide +kernel
theorem dX12_behindComment_108 : decode cX12_behindComment 108 = .ok (.iadd, 1) := by decide +kernel
theorem dX12_behindComment_109 : decode cX12_behindComment 109 = .ok (.aload_n 0, 1) := by decide +kernel
theorem dX12_behindComment_110 : decode cX12_behindComment 110 = .ok (.getfield 274, 3) := by decide +kernel
theorem dX12_behindComment_113 : decode cX12_behindComment 113 = .ok (.if_icmp .lt 8, 3) := by decide +kernel
theorem dX12_behindComment_116 : decode cX12_behindComment 116 = .ok (.aload_n 0, 1) := by decide +kernel
theorem dX12_behindComment_117 : decode cX12_behindComment 117 = .ok (.iconst 1, 1) := by decide +kernel
theorem dX12_behindComment_118 : decode cX12_behindComment 118 = .ok (.putfield 288, 3) := by decide +kernel
theorem dX12_behindComment_121 : decode cX12_behindComment 121 = .ok (.iload_n 2, 1) := by decide +kernel
theorem dX12_behindComment_122 : decode cX12_behindComment 122 = .ok (.iconst 1, 1) := by decide +kernel
theorem dX12_behindComment_123 : decode cX12_behindComment 123 = .ok (.iadd, 1) := by decide +kernel
theorem dX12_behindComment_124 : decode cX12_behindComment 124 = .ok (.aload_n 0, 1) := by decide +kernel
theorem dX12_behindComment_125 : decode cX12_behindComment 125 = .ok (.getfield 274, 3) := by decide +kernel
theorem dX12_behindComment_128 : decode cX12_behindComment 128 = .ok (.if_icmp .ge 9, 3) := by decide +kernel
theorem dX12_behindComment_131 : decode cX12_behindComment 131 = .ok (.iload_n 2, 1) := by decide +kernel
theorem dX12_behindComment_132 : decode cX12_behindComment 132 = .ok (.iconst 2, 1) := by decide +kernel
theorem dX12_behindComment_133 : decode cX12_behindComment 133 = .ok (.iadd, 1) := by decide +kernel
theorem dX12_behindComment_134 : decode cX12_behindComment 134 = .ok (.goto 7, 3) := by decide +kernel
theorem dX12_behindComment_137 : decode cX12_behindComment 137 = .ok (.aload_n 0, 1) := by decide +kernel
theorem dX12_behindComment_138 : decode cX12_behindComment 138 = .ok (.getfield 274, 3) := by decide +kernel
theorem dX12_behindComment_141 : decode cX12_behindComment 141 = .ok (.ireturn, 1) := by decide +kernel
theorem dX12_behindBlanks_0 : decode cX12_behindBlanks 0 = .ok (.iload_n 1, 1) := by decide +kernel
theorem dX12_behindBlanks_1 : decode cX12_behindBlanks 1 = .ok (.istore_n 2, 1) := by decide +kernel
theorem dX12_behindBlanks_2 : decode cX12_behindBlanks 2 = .ok (.iconst 1, 1) := by decide +kernel
theorem dX12_behindBlanks_3 : decode cX12_behindBlanks 3 = .ok (.istore_n 3, 1) := by decide +kernel
theorem dX12_behindBlanks_4 : decode cX12_behindBlanks 4 = .ok (.iload_n 3, 1) := by decide +kernel
theorem dX12_behindBlanks_5 : decode cX12_behindBlanks 5 = .ok (.ifCond .eq 45, 3) := by decide +kernel
theorem dX12_behindBlanks_8 : decode cX12_behindBlanks 8 = .ok (.aload_n 0, 1) := by decide +kernel
theorem dX12_behindBlanks_9 : decode cX12_behindBlanks 9 = .ok (.iload_n 2, 1) := by decide +kernel
theorem dX12_behindBlanks_10 : decode cX12_behindBlanks 10 = .ok (.invokevirtual 284, 3) := by decide +kernel
theorem dX12_behindBlanks_13 : decode cX12_behindBlanks 13 = .ok (.invokestatic 292, 3) := by decide +kernel
theorem dX12_behindBlanks_16 : decode cX12_behindBlanks 16 = .ok (.ifCond .eq 9, 3) := by decide +kernel
theorem dX12_behindBlanks_19 : decode cX12_behindBlanks 19 = .ok (.iload_n 2, 1) := by decide +kernel
theorem dX12_behindBlanks_20 : decode cX12_behindBlanks 20 = .ok (.iconst 1, 1) := by decide +kernel
theorem dX12_behindBlanks_21 : decode cX12_behindBlanks 21 = .ok (.iadd, 1) := by decide +kernel
theorem dX12_behindBlanks_22 : decode cX12_behindBlanks 22 = .ok (.goto 8, 3) := by decide +kernel
theorem dX12_behindBlanks_25 : decode cX12_behindBlanks 25 = .ok (.aload_n 0, 1) := by decide +kernel
theorem dX12_behindBlanks_26 : decode cX12_behindBlanks 26 = .ok (.iload_n 2, 1) := by decide +kernel
theorem dX12_behindBlanks_27 : decode cX12_behindBlanks 27 = .ok (.invokevirtual 295, 3) := by decide +kernel
theorem dX12_behindBlanks_30 : decode cX12_behindBlanks 30 = .ok (.istore 4, 2) := by decide +kernel
theorem dX12_behindBlanks_32 : decode cX12_behindBlanks 32 = .ok (.iload 4, 2) := by decide +kernel
theorem dX12_behindBlanks_34 : decode cX12_behindBlanks 34 = .ok (.iload_n 2, 1) := by decide +kernel
theorem dX12_behindBlanks_35 : decode cX12_behindBlanks 35 = .ok (.if_icmp .le 7, 3) := by decide +kernel
theorem dX12_behindBlanks_38 : decode cX12_behindBlanks 38 = .ok (.iconst 1, 1) := by decide +kernel
theorem dX12_behindBlanks_39 : decode cX12_behindBlanks 39 = .ok (.goto 4, 3) := by decide +kernel
theorem dX12_behindBlanks_42 : decode cX12_behindBlanks 42 = .ok (.iconst 0, 1) := by decide +kernel
theorem dX12_behindBlanks_43 : decode cX12_behindBlanks 43 = .ok (.istore_n 3, 1) := by decide +kernel
theorem dX12_behindBlanks_44 : decode cX12_behindBlanks 44 = .ok (.iload 4, 2) := by decide +kernel
theorem dX12_behindBlanks_46 : decode cX12_behindBlanks 46 = .ok (.istore_n 2, 1) := by decide +kernel
theorem dX12_behindBlanks_47 : decode cX12_behindBlanks 47 = .ok (.goto (-43), 3) := by decide +kernel
theorem dX12_behindBlanks_50 : decode cX12_behindBlanks 50 = .ok (.iload_n 2, 1) := by decide +kernel
theorem dX12_behindBlanks_51 : decode cX12_behindBlanks 51 = .ok (.ireturn, 1) := by decide +kernel
theorem dX12_isLetter_0 : decode cX12_isLetter 0 = .ok (.iload_n 0, 1) := by decide +kernel
theorem dX12_isLetter_1 : decode cX12_isLetter 1 = .ok (.bipush 97, 2) := by decide +kernel
theorem dX12_isLetter_3 : decode cX12_isLetter 3 = .ok (.if_icmp .lt 9, 3) := by decide +kernel
theorem dX12_isLetter_6 : decode cX12_isLetter 6 = .ok (.iload_n 0, 1) := by decide +kernel
theorem dX12_isLetter_7 : decode cX12_isLetter 7 = .ok (.bipush 122, 2) := by decide +kernel
theorem dX12_isLetter_9 : decode cX12_isLetter 9 = .ok (.if_icmp .le 15, 3) := by decide +kernel
theorem dX12_isLetter_12 : decode cX12_isLetter 12 = .ok (.iload_n 0, 1) := by decide +kernel
theorem dX12_isLetter_13 : decode cX12_isLetter 13 = .ok (.bipush 65, 2) := by decide +kernel
theorem dX12_isLetter_15 : decode cX12_isLetter 15 = .ok (.if_icmp .lt 13, 3) := by decide +kernel
theorem dX12_isLetter_18 : decode cX12_isLetter 18 = .ok (.iload_n 0, 1) := by decide +kernel
theorem dX12_isLetter_19 : decode cX12_isLetter 19 = .ok (.bipush 90, 2) := by decide +kernel
theorem dX12_isLetter_21 : decode cX12_isLetter 21 = .ok (.if_icmp .gt 7, 3) := by decide +kernel
theorem dX12_isLetter_24 : decode cX12_isLetter 24 = .ok (.iconst 1, 1) := by decide +kernel
theorem dX12_isLetter_25 : decode cX12_isLetter 25 = .ok (.goto 4, 3) := by decide +kernel
theorem dX12_isLetter_28 : decode cX12_isLetter 28 = .ok (.iconst 0, 1) := by decide +kernel
theorem dX12_isLetter_29 : decode cX12_isLetter 29 = .ok (.ireturn, 1) := by decide +kernel
theorem dX12_isDigit_0 : decode cX12_isDigit 0 = .ok (.iload_n 0, 1) := by decide +kernel
theorem dX12_isDigit_1 : decode cX12_isDigit 1 = .ok (.bipush 48, 2) := by decide +kernel
theorem dX12_isDigit_3 : decode cX12_isDigit 3 = .ok (.if_icmp .lt 13, 3) := by decide +kernel
theorem dX12_isDigit_6 : decode cX12_isDigit 6 = .ok (.iload_n 0, 1) := by decide +kernel
theorem dX12_isDigit_7 : decode cX12_isDigit 7 = .ok (.bipush 57, 2) := by decide +kernel
theorem dX12_isDigit_9 : decode cX12_isDigit 9 = .ok (.if_icmp .gt 7, 3) := by decide +kernel
theorem dX12_isDigit_12 : decode cX12_isDigit 12 = .ok (.iconst 1, 1) := by decide +kernel
theorem dX12_isDigit_13 : decode cX12_isDigit 13 = .ok (.goto 4, 3) := by decide +kernel
theorem dX12_isDigit_16 : decode cX12_isDigit 16 = .ok (.iconst 0, 1) := by decide +kernel
theorem dX12_isDigit_17 : decode cX12_isDigit 17 = .ok (.ireturn, 1) := by decide +kernel
theorem dX12_isPart_0 : decode cX12_isPart 0 = .ok (.iload_n 0, 1) := by decide +kernel
theorem dX12_isPart_1 : decode cX12_isPart 1 = .ok (.invokestatic 277, 3) := by decide +kernel
theorem dX12_isPart_4 : decode cX12_isPart 4 = .ok (.ifCond .ne 16, 3) := by decide +kernel
theorem dX12_isPart_7 : decode cX12_isPart 7 = .ok (.iload_n 0, 1) := by decide +kernel
theorem dX12_isPart_8 : decode cX12_isPart 8 = .ok (.invokestatic 281, 3) := by decide +kernel
theorem dX12_isPart_11 : decode cX12_isPart 11 = .ok (.ifCond .ne 9, 3) := by decide +kernel
theorem dX12_isPart_14 : decode cX12_isPart 14 = .ok (.iload_n 0, 1) := by decide +kernel
theorem dX12_isPart_15 : decode cX12_isPart 15 = .ok (.bipush 95, 2) := by decide +kernel
theorem dX12_isPart_17 : decode cX12_isPart 17 = .ok (.if_icmp .ne 7, 3) := by decide +kernel
theorem dX12_isPart_20 : decode cX12_isPart 20 = .ok (.iconst 1, 1) := by decide +kernel
theorem dX12_isPart_21 : decode cX12_isPart 21 = .ok (.goto 4, 3) := by decide +kernel
theorem dX12_isPart_24 : decode cX12_isPart 24 = .ok (.iconst 0, 1) := by decide +kernel
theorem dX12_isPart_25 : decode cX12_isPart 25 = .ok (.ireturn, 1) := by decide +kernel
theorem dX12_sixteenth_0 : decode cX12_sixteenth 0 = .ok (.iload_n 0, 1) := by decide +kernel
theorem dX12_sixteenth_1 : decode cX12_sixteenth 1 = .ok (.invokestatic 281, 3) := by decide +kernel
theorem dX12_sixteenth_4 : decode cX12_sixteenth 4 = .ok (.ifCond .eq 10, 3) := by decide +kernel
theorem dX12_sixteenth_7 : decode cX12_sixteenth 7 = .ok (.iload_n 0, 1) := by decide +kernel
theorem dX12_sixteenth_8 : decode cX12_sixteenth 8 = .ok (.bipush 48, 2) := by decide +kernel
theorem dX12_sixteenth_10 : decode cX12_sixteenth 10 = .ok (.isub, 1) := by decide +kernel
theorem dX12_sixteenth_11 : decode cX12_sixteenth 11 = .ok (.goto 48, 3) := by decide +kernel
theorem dX12_sixteenth_14 : decode cX12_sixteenth 14 = .ok (.iload_n 0, 1) := by decide +kernel
theorem dX12_sixteenth_15 : decode cX12_sixteenth 15 = .ok (.bipush 97, 2) := by decide +kernel
theorem dX12_sixteenth_17 : decode cX12_sixteenth 17 = .ok (.if_icmp .lt 19, 3) := by decide +kernel
theorem dX12_sixteenth_20 : decode cX12_sixteenth 20 = .ok (.iload_n 0, 1) := by decide +kernel
theorem dX12_sixteenth_21 : decode cX12_sixteenth 21 = .ok (.bipush 102, 2) := by decide +kernel
theorem dX12_sixteenth_23 : decode cX12_sixteenth 23 = .ok (.if_icmp .gt 13, 3) := by decide +kernel
theorem dX12_sixteenth_26 : decode cX12_sixteenth 26 = .ok (.iload_n 0, 1) := by decide +kernel
theorem dX12_sixteenth_27 : decode cX12_sixteenth 27 = .ok (.bipush 97, 2) := by decide +kernel
theorem dX12_sixteenth_29 : decode cX12_sixteenth 29 = .ok (.isub, 1) := by decide +kernel
theorem dX12_sixteenth_30 : decode cX12_sixteenth 30 = .ok (.bipush 10, 2) := by decide +kernel
theorem dX12_sixteenth_32 : decode cX12_sixteenth 32 = .ok (.iadd, 1) := by decide +kernel
theorem dX12_sixteenth_33 : decode cX12_sixteenth 33 = .ok (.goto 26, 3) := by decide +kernel
theorem dX12_sixteenth_36 : decode cX12_sixteenth 36 = .ok (.iload_n 0, 1) := by decide +kernel
theorem dX12_sixteenth_37 : decode cX12_sixteenth 37 = .ok (.bipush 65, 2) := by decide +kernel
theorem dX12_sixteenth_39 : decode cX12_sixteenth 39 = .ok (.if_icmp .lt 19, 3) := by decide +kernel
theorem dX12_sixteenth_42 : decode cX12_sixteenth 42 = .ok (.iload_n 0, 1) := by decide +kernel
theorem dX12_sixteenth_43 : decode cX12_sixteenth 43 = .ok (.bipush 70, 2) := by decide +kernel
theorem dX12_sixteenth_45 : decode cX12_sixteenth 45 = .ok (.if_icmp .gt 13, 3) := by decide +kernel
theorem dX12_sixteenth_48 : decode cX12_sixteenth 48 = .ok (.iload_n 0, 1) := by decide +kernel
theorem dX12_sixteenth_49 : decode cX12_sixteenth 49 = .ok (.bipush 65, 2) := by decide +kernel
theorem dX12_sixteenth_51 : decode cX12_sixteenth 51 = .ok (.isub, 1) := by decide +kernel
theorem dX12_sixteenth_52 : decode cX12_sixteenth 52 = .ok (.bipush 10, 2) := by decide +kernel
theorem dX12_sixteenth_54 : decode cX12_sixteenth 54 = .ok (.iadd, 1) := by decide +kernel
theorem dX12_sixteenth_55 : decode cX12_sixteenth 55 = .ok (.goto 4, 3) := by decide +kernel
theorem dX12_sixteenth_58 : decode cX12_sixteenth 58 = .ok (.iconst (-1), 1) := by decide +kernel
theorem dX12_sixteenth_59 : decode cX12_sixteenth 59 = .ok (.ireturn, 1) := by decide +kernel
theorem dX12_readNumber_0 : decode cX12_readNumber 0 = .ok (.aload_n 0, 1) := by decide +kernel
theorem dX12_readNumber_1 : decode cX12_readNumber 1 = .ok (.iconst 2, 1) := by decide +kernel
theorem dX12_readNumber_2 : decode cX12_readNumber 2 = .ok (.putfield 298, 3) := by decide +kernel
theorem dX12_readNumber_5 : decode cX12_readNumber 5 = .ok (.aload_n 0, 1) := by decide +kernel
theorem dX12_readNumber_6 : decode cX12_readNumber 6 = .ok (.lconst 0, 1) := by decide +kernel
theorem dX12_readNumber_7 : decode cX12_readNumber 7 = .ok (.putfield 301, 3) := by decide +kernel
theorem dX12_readNumber_10 : decode cX12_readNumber 10 = .ok (.aload_n 0, 1) := by decide +kernel
theorem dX12_readNumber_11 : decode cX12_readNumber 11 = .ok (.getfield 305, 3) := by decide +kernel
theorem dX12_readNumber_14 : decode cX12_readNumber 14 = .ok (.istore_n 1, 1) := by decide +kernel
theorem dX12_readNumber_15 : decode cX12_readNumber 15 = .ok (.aload_n 0, 1) := by decide +kernel
theorem dX12_readNumber_16 : decode cX12_readNumber 16 = .ok (.iload_n 1, 1) := by decide +kernel
theorem dX12_readNumber_17 : decode cX12_readNumber 17 = .ok (.invokevirtual 284, 3) := by decide +kernel
theorem dX12_readNumber_20 : decode cX12_readNumber 20 = .ok (.bipush 48, 2) := by decide +kernel
theorem dX12_readNumber_22 : decode cX12_readNumber 22 = .ok (.if_icmp .ne 19, 3) := by decide +kernel
theorem dX12_readNumber_25 : decode cX12_readNumber 25 = .ok (.aload_n 0, 1) := by decide +kernel
theorem dX12_readNumber_26 : decode cX12_readNumber 26 = .ok (.iload_n 1, 1) := by decide +kernel
theorem dX12_readNumber_27 : decode cX12_readNumber 27 = .ok (.iconst 1, 1) := by decide +kernel
theorem dX12_readNumber_28 : decode cX12_readNumber 28 = .ok (.iadd, 1) := by decide +kernel
theorem dX12_readNumber_29 : decode cX12_readNumber 29 = .ok (.invokevirtual 284, 3) := by decide +kernel
theorem dX12_readNumber_32 : decode cX12_readNumber 32 = .ok (.bipush 120, 2) := by decide +kernel
theorem dX12_readNumber_34 : decode cX12_readNumber 34 = .ok (.if_icmp .ne 7, 3) := by decide +kernel
theorem dX12_readNumber_37 : decode cX12_readNumber 37 = .ok (.iconst 1, 1) := by decide +kernel
theorem dX12_readNumber_38 : decode cX12_readNumber 38 = .ok (.goto 4, 3) := by decide +kernel
theorem dX12_readNumber_41 : decode cX12_readNumber 41 = .ok (.iconst 0, 1) := by decide +kernel
theorem dX12_readNumber_42 : decode cX12_readNumber 42 = .ok (.istore_n 2, 1) := by decide +kernel
theorem dX12_readNumber_43 : decode cX12_readNumber 43 = .ok (.iload_n 2, 1) := by decide +kernel
theorem dX12_readNumber_44 : decode cX12_readNumber 44 = .ok (.ifCond .eq 6, 3) := by decide +kernel
theorem dX12_readNumber_47 : decode cX12_readNumber 47 = .ok (.iinc 1 2, 3) := by decide +kernel
theorem dX12_readNumber_50 : decode cX12_readNumber 50 = .ok (.iload_n 1, 1) := by decide +kernel
theorem dX12_readNumber_51 : decode cX12_readNumber 51 = .ok (.istore_n 3, 1) := by decide +kernel
theorem dX12_readNumber_52 : decode cX12_readNumber 52 = .ok (.iload_n 2, 1) := by decide +kernel
theorem dX12_readNumber_53 : decode cX12_readNumber 53 = .ok (.ifCond .eq 17, 3) := by decide +kernel
theorem dX12_readNumber_56 : decode cX12_readNumber 56 = .ok (.aload_n 0, 1) := by decide +kernel
theorem dX12_readNumber_57 : decode cX12_readNumber 57 = .ok (.iload_n 1, 1) := by decide +kernel
theorem dX12_readNumber_58 : decode cX12_readNumber 58 = .ok (.invokevirtual 284, 3) := by decide +kernel
theorem dX12_readNumber_61 : decode cX12_readNumber 61 = .ok (.invokestatic 308, 3) := by decide +kernel
theorem dX12_readNumber_64 : decode cX12_readNumber 64 = .ok (.ifCond .lt 65, 3) := by decide +kernel
theorem dX12_readNumber_67 : decode cX12_readNumber 67 = .ok (.goto 14, 3) := by decide +kernel
theorem dX12_readNumber_70 : decode cX12_readNumber 70 = .ok (.aload_n 0, 1) := by decide +kernel
theorem dX12_readNumber_71 : decode cX12_readNumber 71 = .ok (.iload_n 1, 1) := by decide +kernel
theorem dX12_readNumber_72 : decode cX12_readNumber 72 = .ok (.invokevirtual 284, 3) := by decide +kernel
theorem dX12_readNumber_75 : decode cX12_readNumber 75 = .ok (.invokestatic 281, 3) := by decide +kernel
theorem dX12_readNumber_78 : decode cX12_readNumber 78 = .ok (.ifCond .eq 51, 3) := by decide +kernel
theorem dX12_readNumber_81 : decode cX12_readNumber 81 = .ok (.aload_n 0, 1) := by decide +kernel
theorem dX12_readNumber_82 : decode cX12_readNumber 82 = .ok (.getfield 301, 3) := by decide +kernel
theorem dX12_readNumber_85 : decode cX12_readNumber 85 = .ok (.ldc2_w 311, 3) := by decide +kernel
theorem dX12_readNumber_88 : decode cX12_readNumber 88 = .ok (.lcmp, 1) := by decide +kernel
theorem dX12_readNumber_89 : decode cX12_readNumber 89 = .ok (.ifCond .ge 34, 3) := by decide +kernel
theorem dX12_readNumber_92 : decode cX12_readNumber 92 = .ok (.aload_n 0, 1) := by decide +kernel
theorem dX12_readNumber_93 : decode cX12_readNumber 93 = .ok (.aload_n 0, 1) := by decide +kernel
theorem dX12_readNumber_94 : decode cX12_readNumber 94 = .ok (.getfield 301, 3) := by decide +kernel
theorem dX12_readNumber_97 : decode cX12_readNumber 97 = .ok (.iload_n 2, 1) := by decide +kernel
theorem dX12_readNumber_98 : decode cX12_readNumber 98 = .ok (.ifCond .eq 8, 3) := by decide +kernel
theorem dX12_readNumber_101 : decode cX12_readNumber 101 = .ok (.bipush 16, 2) := by decide +kernel
theorem dX12_readNumber_103 : decode cX12_readNumber 103 = .ok (.goto 5, 3) := by decide +kernel
theorem dX12_readNumber_106 : decode cX12_readNumber 106 = .ok (.bipush 10, 2) := by decide +kernel
theorem dX12_readNumber_108 : decode cX12_readNumber 108 = .ok (.i2l, 1) := by decide +kernel
theorem dX12_readNumber_109 : decode cX12_readNumber 109 = .ok (.lmul, 1) := by decide +kernel
theorem dX12_readNumber_110 : decode cX12_readNumber 110 = .ok (.aload_n 0, 1) := by decide +kernel
theorem dX12_readNumber_111 : decode cX12_readNumber 111 = .ok (.iload_n 1, 1) := by decide +kernel
theorem dX12_readNumber_112 : decode cX12_readNumber 112 = .ok (.invokevirtual 284, 3) := by decide +kernel
theorem dX12_readNumber_115 : decode cX12_readNumber 115 = .ok (.invokestatic 308, 3) := by decide +kernel
theorem dX12_readNumber_118 : decode cX12_readNumber 118 = .ok (.i2l, 1) := by decide +kernel
theorem dX12_readNumber_119 : decode cX12_readNumber 119 = .ok (.ladd, 1) := by decide +kernel
theorem dX12_readNumber_120 : decode cX12_readNumber 120 = .ok (.putfield 301, 3) := by decide +kernel
theorem dX12_readNumber_123 : decode cX12_readNumber 123 = .ok (.iinc 1 1, 3) := by decide +kernel
theorem dX12_readNumber_126 : decode cX12_readNumber 126 = .ok (.goto (-74), 3) := by decide +kernel
theorem dX12_readNumber_129 : decode cX12_readNumber 129 = .ok (.iload_n 1, 1) := by decide +kernel
theorem dX12_readNumber_130 : decode cX12_readNumber 130 = .ok (.iload_n 3, 1) := by decide +kernel
theorem dX12_readNumber_131 : decode cX12_readNumber 131 = .ok (.if_icmp .eq 41, 3) := by decide +kernel
theorem dX12_readNumber_134 : decode cX12_readNumber 134 = .ok (.aload_n 0, 1) := by decide +kernel
theorem dX12_readNumber_135 : decode cX12_readNumber 135 = .ok (.iload_n 1, 1) := by decide +kernel
theorem dX12_readNumber_136 : decode cX12_readNumber 136 = .ok (.invokevirtual 284, 3) := by decide +kernel
theorem dX12_readNumber_139 : decode cX12_readNumber 139 = .ok (.invokestatic 313, 3) := by decide +kernel
theorem dX12_readNumber_142 : decode cX12_readNumber 142 = .ok (.ifCond .ne 30, 3) := by decide +kernel
theorem dX12_readNumber_145 : decode cX12_readNumber 145 = .ok (.iload_n 2, 1) := by decide +kernel
theorem dX12_readNumber_146 : decode cX12_readNumber 146 = .ok (.ifCond .ne 31, 3) := by decide +kernel
theorem dX12_readNumber_149 : decode cX12_readNumber 149 = .ok (.aload_n 0, 1) := by decide +kernel
theorem dX12_readNumber_150 : decode cX12_readNumber 150 = .ok (.aload_n 0, 1) := by decide +kernel
theorem dX12_readNumber_151 : decode cX12_readNumber 151 = .ok (.getfield 305, 3) := by decide +kernel
theorem dX12_readNumber_154 : decode cX12_readNumber 154 = .ok (.invokevirtual 284, 3) := by decide +kernel
theorem dX12_readNumber_157 : decode cX12_readNumber 157 = .ok (.bipush 48, 2) := by decide +kernel
theorem dX12_readNumber_159 : decode cX12_readNumber 159 = .ok (.if_icmp .ne 18, 3) := by decide +kernel
theorem dX12_readNumber_162 : decode cX12_readNumber 162 = .ok (.iload_n 1, 1) := by decide +kernel
theorem dX12_readNumber_163 : decode cX12_readNumber 163 = .ok (.aload_n 0, 1) := by decide +kernel
theorem dX12_readNumber_164 : decode cX12_readNumber 164 = .ok (.getfield 305, 3) := by decide +kernel
theorem dX12_readNumber_167 : decode cX12_readNumber 167 = .ok (.iconst 1, 1) := by decide +kernel
theorem dX12_readNumber_168 : decode cX12_readNumber 168 = .ok (.iadd, 1) := by decide +kernel
theorem dX12_readNumber_169 : decode cX12_readNumber 169 = .ok (.if_icmp .le 8, 3) := by decide +kernel
theorem dX12_readNumber_172 : decode cX12_readNumber 172 = .ok (.aload_n 0, 1) := by decide +kernel
theorem dX12_readNumber_173 : decode cX12_readNumber 173 = .ok (.iconst 5, 1) := by decide +kernel
theorem dX12_readNumber_174 : decode cX12_readNumber 174 = .ok (.putfield 298, 3) := by decide +kernel
theorem dX12_readNumber_177 : decode cX12_readNumber 177 = .ok (.aload_n 0, 1) := by decide +kernel
theorem dX12_readNumber_178 : decode cX12_readNumber 178 = .ok (.iload_n 1, 1) := by decide +kernel
theorem dX12_readNumber_179 : decode cX12_readNumber 179 = .ok (.putfield 316, 3) := by decide +kernel
theorem dX12_readNumber_182 : decode cX12_readNumber 182 = .ok (.return_, 1) := by decide +kernel
theorem dX12_readText_0 : decode cX12_readText 0 = .ok (.aload_n 0, 1) := by decide +kernel
theorem dX12_readText_1 : decode cX12_readText 1 = .ok (.getfield 305, 3) := by decide +kernel
theorem dX12_readText_4 : decode cX12_readText 4 = .ok (.iconst 1, 1) := by decide +kernel
theorem dX12_readText_5 : decode cX12_readText 5 = .ok (.iadd, 1) := by decide +kernel
theorem dX12_readText_6 : decode cX12_readText 6 = .ok (.istore_n 1, 1) := by decide +kernel
theorem dX12_readText_7 : decode cX12_readText 7 = .ok (.aload_n 0, 1) := by decide +kernel
theorem dX12_readText_8 : decode cX12_readText 8 = .ok (.iload_n 1, 1) := by decide +kernel
theorem dX12_readText_9 : decode cX12_readText 9 = .ok (.invokevirtual 284, 3) := by decide +kernel
theorem dX12_readText_12 : decode cX12_readText 12 = .ok (.bipush 32, 2) := by decide +kernel
theorem dX12_readText_14 : decode cX12_readText 14 = .ok (.if_icmp .lt 39, 3) := by decide +kernel
theorem dX12_readText_17 : decode cX12_readText 17 = .ok (.aload_n 0, 1) := by decide +kernel
theorem dX12_readText_18 : decode cX12_readText 18 = .ok (.iload_n 1, 1) := by decide +kernel
theorem dX12_readText_19 : decode cX12_readText 19 = .ok (.invokevirtual 284, 3) := by decide +kernel
theorem dX12_readText_22 : decode cX12_readText 22 = .ok (.bipush 126, 2) := by decide +kernel
theorem dX12_readText_24 : decode cX12_readText 24 = .ok (.if_icmp .gt 29, 3) := by decide +kernel
theorem dX12_readText_27 : decode cX12_readText 27 = .ok (.aload_n 0, 1) := by decide +kernel
theorem dX12_readText_28 : decode cX12_readText 28 = .ok (.iload_n 1, 1) := by decide +kernel
theorem dX12_readText_29 : decode cX12_readText 29 = .ok (.invokevirtual 284, 3) := by decide +kernel
theorem dX12_readText_32 : decode cX12_readText 32 = .ok (.bipush 34, 2) := by decide +kernel
theorem dX12_readText_34 : decode cX12_readText 34 = .ok (.if_icmp .eq 19, 3) := by decide +kernel
theorem dX12_readText_37 : decode cX12_readText 37 = .ok (.aload_n 0, 1) := by decide +kernel
theorem dX12_readText_38 : decode cX12_readText 38 = .ok (.iload_n 1, 1) := by decide +kernel
theorem dX12_readText_39 : decode cX12_readText 39 = .ok (.invokevirtual 284, 3) := by decide +kernel
theorem dX12_readText_42 : decode cX12_readText 42 = .ok (.bipush 92, 2) := by decide +kernel
theorem dX12_readText_44 : decode cX12_readText 44 = .ok (.if_icmp .eq 9, 3) := by decide +kernel
theorem dX12_readText_47 : decode cX12_readText 47 = .ok (.iinc 1 1, 3) := by decide +kernel
theorem dX12_readText_50 : decode cX12_readText 50 = .ok (.goto (-43), 3) := by decide +kernel
theorem dX12_readText_53 : decode cX12_readText 53 = .ok (.aload_n 0, 1) := by decide +kernel
theorem dX12_readText_54 : decode cX12_readText 54 = .ok (.aload_n 0, 1) := by decide +kernel
theorem dX12_readText_55 : decode cX12_readText 55 = .ok (.iload_n 1, 1) := by decide +kernel
theorem dX12_readText_56 : decode cX12_readText 56 = .ok (.invokevirtual 284, 3) := by decide +kernel
theorem dX12_readText_59 : decode cX12_readText 59 = .ok (.bipush 34, 2) := by decide +kernel
theorem dX12_readText_61 : decode cX12_readText 61 = .ok (.if_icmp .ne 7, 3) := by decide +kernel
theorem dX12_readText_64 : decode cX12_readText 64 = .ok (.iconst 3, 1) := by decide +kernel
theorem dX12_readText_65 : decode cX12_readText 65 = .ok (.goto 4, 3) := by decide +kernel
theorem dX12_readText_68 : decode cX12_readText 68 = .ok (.iconst 5, 1) := by decide +kernel
theorem dX12_readText_69 : decode cX12_readText 69 = .ok (.putfield 298, 3) := by decide +kernel
theorem dX12_readText_72 : decode cX12_readText 72 = .ok (.aload_n 0, 1) := by decide +kernel
theorem dX12_readText_73 : decode cX12_readText 73 = .ok (.iload_n 1, 1) := by decide +kernel
theorem dX12_readText_74 : decode cX12_readText 74 = .ok (.iconst 1, 1) := by decide +kernel
theorem dX12_readText_75 : decode cX12_readText 75 = .ok (.iadd, 1) := by decide +kernel
theorem dX12_readText_76 : decode cX12_readText 76 = .ok (.putfield 316, 3) := by decide +kernel
theorem dX12_readText_79 : decode cX12_readText 79 = .ok (.return_, 1) := by decide +kernel
theorem dX12_look_0 : decode cX12_look 0 = .ok (.aload_n 0, 1) := by decide +kernel
theorem dX12_look_1 : decode cX12_look 1 = .ok (.aload_n 0, 1) := by decide +kernel
theorem dX12_look_2 : decode cX12_look 2 = .ok (.iload_n 1, 1) := by decide +kernel
theorem dX12_look_3 : decode cX12_look 3 = .ok (.invokevirtual 319, 3) := by decide +kernel
theorem dX12_look_6 : decode cX12_look 6 = .ok (.putfield 305, 3) := by decide +kernel
theorem dX12_look_9 : decode cX12_look 9 = .ok (.aload_n 0, 1) := by decide +kernel
theorem dX12_look_10 : decode cX12_look 10 = .ok (.aload_n 0, 1) := by decide +kernel
theorem dX12_look_11 : decode cX12_look 11 = .ok (.getfield 305, 3) := by decide +kernel
theorem dX12_look_14 : decode cX12_look 14 = .ok (.invokevirtual 284, 3) := by decide +kernel
theorem dX12_look_17 : decode cX12_look 17 = .ok (.istore_n 2, 1) := by decide +kernel
theorem dX12_look_18 : decode cX12_look 18 = .ok (.aload_n 0, 1) := by decide +kernel
theorem dX12_look_19 : decode cX12_look 19 = .ok (.aload_n 0, 1) := by decide +kernel
theorem dX12_look_20 : decode cX12_look 20 = .ok (.getfield 305, 3) := by decide +kernel
theorem dX12_look_23 : decode cX12_look 23 = .ok (.iconst 1, 1) := by decide +kernel
theorem dX12_look_24 : decode cX12_look 24 = .ok (.iadd, 1) := by decide +kernel
theorem dX12_look_25 : decode cX12_look 25 = .ok (.putfield 316, 3) := by decide +kernel
theorem dX12_look_28 : decode cX12_look 28 = .ok (.aload_n 0, 1) := by decide +kernel
theorem dX12_look_29 : decode cX12_look 29 = .ok (.iload_n 2, 1) := by decide +kernel
theorem dX12_look_30 : decode cX12_look 30 = .ok (.iconst (-1), 1) := by decide +kernel
theorem dX12_look_31 : decode cX12_look 31 = .ok (.if_icmp .eq 7, 3) := by decide +kernel
theorem dX12_look_34 : decode cX12_look 34 = .ok (.iconst 4, 1) := by decide +kernel
theorem dX12_look_35 : decode cX12_look 35 = .ok (.goto 15, 3) := by decide +kernel
theorem dX12_look_38 : decode cX12_look 38 = .ok (.aload_n 0, 1) := by decide +kernel
theorem dX12_look_39 : decode cX12_look 39 = .ok (.getfield 288, 3) := by decide +kernel
theorem dX12_look_42 : decode cX12_look 42 = .ok (.ifCond .eq 7, 3) := by decide +kernel
theorem dX12_look_45 : decode cX12_look 45 = .ok (.iconst 5, 1) := by decide +kernel
theorem dX12_look_46 : decode cX12_look 46 = .ok (.goto 4, 3) := by decide +kernel
theorem dX12_look_49 : decode cX12_look 49 = .ok (.iconst 0, 1) := by decide +kernel
theorem dX12_look_50 : decode cX12_look 50 = .ok (.putfield 298, 3) := by decide +kernel
theorem dX12_look_53 : decode cX12_look 53 = .ok (.iload_n 2, 1) := by decide +kernel
theorem dX12_look_54 : decode cX12_look 54 = .ok (.invokestatic 277, 3) := by decide +kernel
theorem dX12_look_57 : decode cX12_look 57 = .ok (.ifCond .eq 35, 3) := by decide +kernel
theorem dX12_look_60 : decode cX12_look 60 = .ok (.aload_n 0, 1) := by decide +kernel
theorem dX12_look_61 : decode cX12_look 61 = .ok (.iconst 1, 1) := by decide +kernel
theorem dX12_look_62 : decode cX12_look 62 = .ok (.putfield 298, 3) := by decide +kernel
theorem dX12_look_65 : decode cX12_look 65 = .ok (.aload_n 0, 1) := by decide +kernel
theorem dX12_look_66 : decode cX12_look 66 = .ok (.aload_n 0, 1) := by decide +kernel
theorem dX12_look_67 : decode cX12_look 67 = .ok (.getfield 316, 3) := by decide +kernel
theorem dX12_look_70 : decode cX12_look 70 = .ok (.invokevirtual 284, 3) := by decide +kernel
theorem dX12_look_73 : decode cX12_look 73 = .ok (.invokestatic 313, 3) := by decide +kernel
theorem dX12_look_76 : decode cX12_look 76 = .ok (.ifCond .eq 40, 3) := by decide +kernel
theorem dX12_look_79 : decode cX12_look 79 = .ok (.aload_n 0, 1) := by decide +kernel
theorem dX12_look_80 : decode cX12_look 80 = .ok (.dup, 1) := by decide +kernel
theorem dX12_look_81 : decode cX12_look 81 = .ok (.getfield 316, 3) := by decide +kernel
theorem dX12_look_84 : decode cX12_look 84 = .ok (.iconst 1, 1) := by decide +kernel
theorem dX12_look_85 : decode cX12_look 85 = .ok (.iadd, 1) := by decide +kernel
theorem dX12_look_86 : decode cX12_look 86 = .ok (.putfield 316, 3) := by decide +kernel
theorem dX12_look_89 : decode cX12_look 89 = .ok (.goto (-24), 3) := by decide +kernel
theorem dX12_look_92 : decode cX12_look 92 = .ok (.iload_n 2, 1) := by decide +kernel
theorem dX12_look_93 : decode cX12_look 93 = .ok (.invokestatic 281, 3) := by decide +kernel
theorem dX12_look_96 : decode cX12_look 96 = .ok (.ifCond .eq 10, 3) := by decide +kernel
theorem dX12_look_99 : decode cX12_look 99 = .ok (.aload_n 0, 1) := by decide +kernel
theorem dX12_look_100 : decode cX12_look 100 = .ok (.invokevirtual 322, 3) := by decide +kernel
theorem dX12_look_103 : decode cX12_look 103 = .ok (.goto 13, 3) := by decide +kernel
theorem dX12_look_106 : decode cX12_look 106 = .ok (.iload_n 2, 1) := by decide +kernel
theorem dX12_look_107 : decode cX12_look 107 = .ok (.bipush 34, 2) := by decide +kernel
theorem dX12_look_109 : decode cX12_look 109 = .ok (.if_icmp .ne 7, 3) := by decide +kernel
theorem dX12_look_112 : decode cX12_look 112 = .ok (.aload_n 0, 1) := by decide +kernel
theorem dX12_look_113 : decode cX12_look 113 = .ok (.invokevirtual 325, 3) := by decide +kernel
theorem dX12_look_116 : decode cX12_look 116 = .ok (.return_, 1) := by decide +kernel
theorem dX12_next_0 : decode cX12_next 0 = .ok (.aload_n 0, 1) := by decide +kernel
theorem dX12_next_1 : decode cX12_next 1 = .ok (.aload_n 0, 1) := by decide +kernel
theorem dX12_next_2 : decode cX12_next 2 = .ok (.getfield 316, 3) := by decide +kernel
theorem dX12_next_5 : decode cX12_next 5 = .ok (.invokevirtual 350, 3) := by decide +kernel
theorem dX12_next_8 : decode cX12_next 8 = .ok (.return_, 1) := by decide +kernel
theorem dX12_fail_0 : decode cX12_fail 0 = .ok (.aload_n 0, 1) := by decide +kernel
theorem dX12_fail_1 : decode cX12_fail 1 = .ok (.getfield 328, 3) := by decide +kernel
theorem dX12_fail_4 : decode cX12_fail 4 = .ok (.ifCond .eq 4, 3) := by decide +kernel
theorem dX12_fail_7 : decode cX12_fail 7 = .ok (.return_, 1) := by decide +kernel
theorem dX12_fail_8 : decode cX12_fail 8 = .ok (.aload_n 0, 1) := by decide +kernel
theorem dX12_fail_9 : decode cX12_fail 9 = .ok (.iload_n 1, 1) := by decide +kernel
theorem dX12_fail_10 : decode cX12_fail 10 = .ok (.putfield 328, 3) := by decide +kernel
theorem dX12_fail_13 : decode cX12_fail 13 = .ok (.aload_n 0, 1) := by decide +kernel
theorem dX12_fail_14 : decode cX12_fail 14 = .ok (.iload_n 2, 1) := by decide +kernel
theorem dX12_fail_15 : decode cX12_fail 15 = .ok (.putfield 331, 3) := by decide +kernel
theorem dX12_fail_18 : decode cX12_fail 18 = .ok (.return_, 1) := by decide +kernel
theorem dX12_declare_0 : decode cX12_declare 0 = .ok (.aload_n 0, 1) := by decide +kernel
theorem dX12_declare_1 : decode cX12_declare 1 = .ok (.getfield 328, 3) := by decide +kernel
theorem dX12_declare_4 : decode cX12_declare 4 = .ok (.ifCond .eq 4, 3) := by decide +kernel
theorem dX12_declare_7 : decode cX12_declare 7 = .ok (.return_, 1) := by decide +kernel
theorem dX12_declare_8 : decode cX12_declare 8 = .ok (.aload_n 0, 1) := by decide +kernel
theorem dX12_declare_9 : decode cX12_declare 9 = .ok (.getfield 298, 3) := by decide +kernel
theorem dX12_declare_12 : decode cX12_declare 12 = .ok (.iconst 1, 1) := by decide +kernel
theorem dX12_declare_13 : decode cX12_declare 13 = .ok (.if_icmp .eq 13, 3) := by decide +kernel
theorem dX12_declare_16 : decode cX12_declare 16 = .ok (.aload_n 0, 1) := by decide +kernel
theorem dX12_declare_17 : decode cX12_declare 17 = .ok (.iconst 1, 1) := by decide +kernel
theorem dX12_declare_18 : decode cX12_declare 18 = .ok (.aload_n 0, 1) := by decide +kernel
theorem dX12_declare_19 : decode cX12_declare 19 = .ok (.getfield 305, 3) := by decide +kernel
theorem dX12_declare_22 : decode cX12_declare 22 = .ok (.invokevirtual 360, 3) := by decide +kernel
theorem dX12_declare_25 : decode cX12_declare 25 = .ok (.return_, 1) := by decide +kernel
theorem dX12_declare_26 : decode cX12_declare 26 = .ok (.aload_n 0, 1) := by decide +kernel
theorem dX12_declare_27 : decode cX12_declare 27 = .ok (.getfield 178, 3) := by decide +kernel
theorem dX12_declare_30 : decode cX12_declare 30 = .ok (.aload_n 0, 1) := by decide +kernel
theorem dX12_declare_31 : decode cX12_declare 31 = .ok (.getfield 394, 3) := by decide +kernel
theorem dX12_declare_34 : decode cX12_declare 34 = .ok (.iload_n 1, 1) := by decide +kernel
theorem dX12_declare_35 : decode cX12_declare 35 = .ok (.iastore, 1) := by decide +kernel
theorem dX12_declare_36 : decode cX12_declare 36 = .ok (.aload_n 0, 1) := by decide +kernel
theorem dX12_declare_37 : decode cX12_declare 37 = .ok (.getfield 181, 3) := by decide +kernel
theorem dX12_declare_40 : decode cX12_declare 40 = .ok (.aload_n 0, 1) := by decide +kernel
theorem dX12_declare_41 : decode cX12_declare 41 = .ok (.getfield 394, 3) := by decide +kernel
theorem dX12_declare_44 : decode cX12_declare 44 = .ok (.aload_n 0, 1) := by decide +kernel
theorem dX12_declare_45 : decode cX12_declare 45 = .ok (.getfield 305, 3) := by decide +kernel
theorem dX12_declare_48 : decode cX12_declare 48 = .ok (.iastore, 1) := by decide +kernel
theorem dX12_declare_49 : decode cX12_declare 49 = .ok (.aload_n 0, 1) := by decide +kernel
theorem dX12_declare_50 : decode cX12_declare 50 = .ok (.getfield 184, 3) := by decide +kernel
theorem dX12_declare_53 : decode cX12_declare 53 = .ok (.aload_n 0, 1) := by decide +kernel
theorem dX12_declare_54 : decode cX12_declare 54 = .ok (.getfield 394, 3) := by decide +kernel
theorem dX12_declare_57 : decode cX12_declare 57 = .ok (.aload_n 0, 1) := by decide +kernel
theorem dX12_declare_58 : decode cX12_declare 58 = .ok (.getfield 316, 3) := by decide +kernel
theorem dX12_declare_61 : decode cX12_declare 61 = .ok (.aload_n 0, 1) := by decide +kernel
theorem dX12_declare_62 : decode cX12_declare 62 = .ok (.getfield 305, 3) := by decide +kernel
theorem dX12_declare_65 : decode cX12_declare 65 = .ok (.isub, 1) := by decide +kernel
theorem dX12_declare_66 : decode cX12_declare 66 = .ok (.iastore, 1) := by decide +kernel
theorem dX12_declare_67 : decode cX12_declare 67 = .ok (.aload_n 0, 1) := by decide +kernel
theorem dX12_declare_68 : decode cX12_declare 68 = .ok (.dup, 1) := by decide +kernel
theorem dX12_declare_69 : decode cX12_declare 69 = .ok (.getfield 394, 3) := by decide +kernel
theorem dX12_declare_72 : decode cX12_declare 72 = .ok (.iconst 1, 1) := by decide +kernel
theorem dX12_declare_73 : decode cX12_declare 73 = .ok (.iadd, 1) := by decide +kernel
theorem dX12_declare_74 : decode cX12_declare 74 = .ok (.putfield 394, 3) := by decide +kernel
theorem dX12_declare_77 : decode cX12_declare 77 = .ok (.aload_n 0, 1) := by decide +kernel
theorem dX12_declare_78 : decode cX12_declare 78 = .ok (.invokevirtual 357, 3) := by decide +kernel
theorem dX12_declare_81 : decode cX12_declare 81 = .ok (.return_, 1) := by decide +kernel
theorem dX12_lastAt_0 : decode cX12_lastAt 0 = .ok (.aload_n 0, 1) := by decide +kernel
theorem dX12_lastAt_1 : decode cX12_lastAt 1 = .ok (.getfield 394, 3) := by decide +kernel
theorem dX12_lastAt_4 : decode cX12_lastAt 4 = .ok (.ifCond .ne 7, 3) := by decide +kernel
theorem dX12_lastAt_7 : decode cX12_lastAt 7 = .ok (.iconst 0, 1) := by decide +kernel
theorem dX12_lastAt_8 : decode cX12_lastAt 8 = .ok (.goto 14, 3) := by decide +kernel
theorem dX12_lastAt_11 : decode cX12_lastAt 11 = .ok (.aload_n 0, 1) := by decide +kernel
theorem dX12_lastAt_12 : decode cX12_lastAt 12 = .ok (.getfield 181, 3) := by decide +kernel
theorem dX12_lastAt_15 : decode cX12_lastAt 15 = .ok (.aload_n 0, 1) := by decide +kernel
theorem dX12_lastAt_16 : decode cX12_lastAt 16 = .ok (.getfield 394, 3) := by decide +kernel
theorem dX12_lastAt_19 : decode cX12_lastAt 19 = .ok (.iconst 1, 1) := by decide +kernel
theorem dX12_lastAt_20 : decode cX12_lastAt 20 = .ok (.isub, 1) := by decide +kernel
theorem dX12_lastAt_21 : decode cX12_lastAt 21 = .ok (.iaload, 1) := by decide +kernel
theorem dX12_lastAt_22 : decode cX12_lastAt 22 = .ok (.ireturn, 1) := by decide +kernel
theorem dX12_lastLong_0 : decode cX12_lastLong 0 = .ok (.aload_n 0, 1) := by decide +kernel
theorem dX12_lastLong_1 : decode cX12_lastLong 1 = .ok (.getfield 394, 3) := by decide +kernel
theorem dX12_lastLong_4 : decode cX12_lastLong 4 = .ok (.ifCond .ne 7, 3) := by decide +kernel
theorem dX12_lastLong_7 : decode cX12_lastLong 7 = .ok (.iconst 0, 1) := by decide +kernel
theorem dX12_lastLong_8 : decode cX12_lastLong 8 = .ok (.goto 14, 3) := by decide +kernel
theorem dX12_lastLong_11 : decode cX12_lastLong 11 = .ok (.aload_n 0, 1) := by decide +kernel
theorem dX12_lastLong_12 : decode cX12_lastLong 12 = .ok (.getfield 184, 3) := by decide +kernel
theorem dX12_lastLong_15 : decode cX12_lastLong 15 = .ok (.aload_n 0, 1) := by decide +kernel
theorem dX12_lastLong_16 : decode cX12_lastLong 16 = .ok (.getfield 394, 3) := by decide +kernel
theorem dX12_lastLong_19 : decode cX12_lastLong 19 = .ok (.iconst 1, 1) := by decide +kernel
theorem dX12_lastLong_20 : decode cX12_lastLong 20 = .ok (.isub, 1) := by decide +kernel
theorem dX12_lastLong_21 : decode cX12_lastLong 21 = .ok (.iaload, 1) := by decide +kernel
theorem dX12_lastLong_22 : decode cX12_lastLong 22 = .ok (.ireturn, 1) := by decide +kernel
