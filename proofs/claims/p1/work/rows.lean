section
-- ===== PART A: goes FIRST, ahead of the names: the tables' words, and 'selects' of the private methods out of them =====
/-- a private method of a class that the tables say can be made, by its rows of tables_1 -/
def lw_okq (q : MethodName × Nat) : Prop := (q.1.cls ≠ "java/lang/invoke/MethodHandle" ∧ q.1.cls ≠ "java/lang/invoke/VarHandle") ∧ Cond.instantiable q.1.cls q.2 ∈ tables_1 ∧ Cond.privateMethod q.1 ∈ tables_1 ∧ Cond.instanceMethod q.1 ∈ tables_1
theorem lw_p0 : lw_okq (⟨"java/lang/Throwable", "fillInStackTrace", "(I)Ljava/lang/Throwable;"⟩, 6) := ⟨⟨by decide +kernel, by decide +kernel⟩, List.mem_of_getElem? (i := 529) (by decide +kernel), List.mem_of_getElem? (i := 527) (by decide +kernel), List.mem_of_getElem? (i := 528) (by decide +kernel)⟩
theorem lw_p1 : lw_okq (⟨"ProtoDesk", "compilerOf", "(I)LProtoDesk$Compiler;"⟩, 9) := ⟨⟨by decide +kernel, by decide +kernel⟩, List.mem_of_getElem? (i := 28) (by decide +kernel), List.mem_of_getElem? (i := 589) (by decide +kernel), List.mem_of_getElem? (i := 590) (by decide +kernel)⟩
theorem lw_p2 : lw_okq (⟨"ProtoDesk$Words", "behindBlanks", "(I)I"⟩, 8) := ⟨⟨by decide +kernel, by decide +kernel⟩, List.mem_of_getElem? (i := 210) (by decide +kernel), List.mem_of_getElem? (i := 630) (by decide +kernel), List.mem_of_getElem? (i := 631) (by decide +kernel)⟩
theorem lw_p3 : lw_okq (⟨"ProtoDesk$Words", "lineEnd", "(I)I"⟩, 8) := ⟨⟨by decide +kernel, by decide +kernel⟩, List.mem_of_getElem? (i := 210) (by decide +kernel), List.mem_of_getElem? (i := 635) (by decide +kernel), List.mem_of_getElem? (i := 636) (by decide +kernel)⟩
theorem lw_p4 : lw_okq (⟨"ProtoDesk$Words", "commentEnd", "(I)I"⟩, 8) := ⟨⟨by decide +kernel, by decide +kernel⟩, List.mem_of_getElem? (i := 210) (by decide +kernel), List.mem_of_getElem? (i := 639) (by decide +kernel), List.mem_of_getElem? (i := 640) (by decide +kernel)⟩
theorem lw_p5 : lw_okq (⟨"ProtoDesk$Words", "addWord", "(I)I"⟩, 8) := ⟨⟨by decide +kernel, by decide +kernel⟩, List.mem_of_getElem? (i := 210) (by decide +kernel), List.mem_of_getElem? (i := 646) (by decide +kernel), List.mem_of_getElem? (i := 647) (by decide +kernel)⟩
theorem lw_p6 : lw_okq (⟨"ProtoDesk$Words", "push", "(IIIJ)I"⟩, 8) := ⟨⟨by decide +kernel, by decide +kernel⟩, List.mem_of_getElem? (i := 210) (by decide +kernel), List.mem_of_getElem? (i := 651) (by decide +kernel), List.mem_of_getElem? (i := 652) (by decide +kernel)⟩
theorem lw_p7 : lw_okq (⟨"ProtoDesk$Words", "nameEnd", "(I)I"⟩, 8) := ⟨⟨by decide +kernel, by decide +kernel⟩, List.mem_of_getElem? (i := 210) (by decide +kernel), List.mem_of_getElem? (i := 658) (by decide +kernel), List.mem_of_getElem? (i := 659) (by decide +kernel)⟩
theorem lw_p8 : lw_okq (⟨"ProtoDesk$Words", "codeBetween", "(II)I"⟩, 8) := ⟨⟨by decide +kernel, by decide +kernel⟩, List.mem_of_getElem? (i := 210) (by decide +kernel), List.mem_of_getElem? (i := 665) (by decide +kernel), List.mem_of_getElem? (i := 666) (by decide +kernel)⟩
theorem lw_p9 : lw_okq (⟨"ProtoDesk$Words", "addNumber", "(I)I"⟩, 8) := ⟨⟨by decide +kernel, by decide +kernel⟩, List.mem_of_getElem? (i := 210) (by decide +kernel), List.mem_of_getElem? (i := 724) (by decide +kernel), List.mem_of_getElem? (i := 725) (by decide +kernel)⟩
theorem lw_p10 : lw_okq (⟨"ProtoDesk$Words", "digit", "(II)I"⟩, 8) := ⟨⟨by decide +kernel, by decide +kernel⟩, List.mem_of_getElem? (i := 210) (by decide +kernel), List.mem_of_getElem? (i := 728) (by decide +kernel), List.mem_of_getElem? (i := 729) (by decide +kernel)⟩
theorem lw_p11 : lw_okq (⟨"ProtoDesk$Words", "addText", "(I)I"⟩, 8) := ⟨⟨by decide +kernel, by decide +kernel⟩, List.mem_of_getElem? (i := 210) (by decide +kernel), List.mem_of_getElem? (i := 736) (by decide +kernel), List.mem_of_getElem? (i := 737) (by decide +kernel)⟩
theorem lw_p12 : lw_okq (⟨"ProtoDesk$Reader", "readSyntax", "()Z"⟩, 8) := ⟨⟨by decide +kernel, by decide +kernel⟩, List.mem_of_getElem? (i := 246) (by decide +kernel), List.mem_of_getElem? (i := 744) (by decide +kernel), List.mem_of_getElem? (i := 745) (by decide +kernel)⟩
theorem lw_p13 : lw_okq (⟨"ProtoDesk$Reader", "takesWord", "(I)Z"⟩, 8) := ⟨⟨by decide +kernel, by decide +kernel⟩, List.mem_of_getElem? (i := 246) (by decide +kernel), List.mem_of_getElem? (i := 748) (by decide +kernel), List.mem_of_getElem? (i := 749) (by decide +kernel)⟩
theorem lw_p14 : lw_okq (⟨"ProtoDesk$Reader", "takes", "(I)Z"⟩, 8) := ⟨⟨by decide +kernel, by decide +kernel⟩, List.mem_of_getElem? (i := 246) (by decide +kernel), List.mem_of_getElem? (i := 756) (by decide +kernel), List.mem_of_getElem? (i := 757) (by decide +kernel)⟩
theorem lw_p15 : lw_okq (⟨"ProtoDesk$Reader", "isAtEnd", "()Z"⟩, 8) := ⟨⟨by decide +kernel, by decide +kernel⟩, List.mem_of_getElem? (i := 246) (by decide +kernel), List.mem_of_getElem? (i := 777) (by decide +kernel), List.mem_of_getElem? (i := 778) (by decide +kernel)⟩
def lw_privs_1 : List (MethodName × Nat) := [(⟨"java/lang/Throwable", "fillInStackTrace", "(I)Ljava/lang/Throwable;"⟩, 6), (⟨"ProtoDesk", "compilerOf", "(I)LProtoDesk$Compiler;"⟩, 9), (⟨"ProtoDesk$Words", "behindBlanks", "(I)I"⟩, 8), (⟨"ProtoDesk$Words", "lineEnd", "(I)I"⟩, 8), (⟨"ProtoDesk$Words", "commentEnd", "(I)I"⟩, 8), (⟨"ProtoDesk$Words", "addWord", "(I)I"⟩, 8), (⟨"ProtoDesk$Words", "push", "(IIIJ)I"⟩, 8), (⟨"ProtoDesk$Words", "nameEnd", "(I)I"⟩, 8), (⟨"ProtoDesk$Words", "codeBetween", "(II)I"⟩, 8), (⟨"ProtoDesk$Words", "addNumber", "(I)I"⟩, 8), (⟨"ProtoDesk$Words", "digit", "(II)I"⟩, 8), (⟨"ProtoDesk$Words", "addText", "(I)I"⟩, 8), (⟨"ProtoDesk$Reader", "readSyntax", "()Z"⟩, 8), (⟨"ProtoDesk$Reader", "takesWord", "(I)Z"⟩, 8), (⟨"ProtoDesk$Reader", "takes", "(I)Z"⟩, 8), (⟨"ProtoDesk$Reader", "isAtEnd", "()Z"⟩, 8)]
theorem lw_r1 : ∀ q ∈ lw_privs_1, lw_okq q := List.forall_mem_cons.mpr ⟨lw_p0, List.forall_mem_cons.mpr ⟨lw_p1, List.forall_mem_cons.mpr ⟨lw_p2, List.forall_mem_cons.mpr ⟨lw_p3, List.forall_mem_cons.mpr ⟨lw_p4, List.forall_mem_cons.mpr ⟨lw_p5, List.forall_mem_cons.mpr ⟨lw_p6, List.forall_mem_cons.mpr ⟨lw_p7, List.forall_mem_cons.mpr ⟨lw_p8, List.forall_mem_cons.mpr ⟨lw_p9, List.forall_mem_cons.mpr ⟨lw_p10, List.forall_mem_cons.mpr ⟨lw_p11, List.forall_mem_cons.mpr ⟨lw_p12, List.forall_mem_cons.mpr ⟨lw_p13, List.forall_mem_cons.mpr ⟨lw_p14, List.forall_mem_cons.mpr ⟨lw_p15, fun _ h => absurd h List.not_mem_nil⟩⟩⟩⟩⟩⟩⟩⟩⟩⟩⟩⟩⟩⟩⟩⟩
theorem lw_p16 : lw_okq (⟨"ProtoDesk$Reader", "readValue", "()Z"⟩, 8) := ⟨⟨by decide +kernel, by decide +kernel⟩, List.mem_of_getElem? (i := 246) (by decide +kernel), List.mem_of_getElem? (i := 781) (by decide +kernel), List.mem_of_getElem? (i := 782) (by decide +kernel)⟩
theorem lw_p17 : lw_okq (⟨"ProtoDesk$Reader", "isForbidden", "()Z"⟩, 8) := ⟨⟨by decide +kernel, by decide +kernel⟩, List.mem_of_getElem? (i := 246) (by decide +kernel), List.mem_of_getElem? (i := 785) (by decide +kernel), List.mem_of_getElem? (i := 786) (by decide +kernel)⟩
theorem lw_p18 : lw_okq (⟨"ProtoDesk$Reader", "readName", "(I)LProtoDesk$Item;"⟩, 8) := ⟨⟨by decide +kernel, by decide +kernel⟩, List.mem_of_getElem? (i := 246) (by decide +kernel), List.mem_of_getElem? (i := 789) (by decide +kernel), List.mem_of_getElem? (i := 790) (by decide +kernel)⟩
theorem lw_p19 : lw_okq (⟨"ProtoDesk$Reader", "readNumber", "(LProtoDesk$Item;Z)Z"⟩, 8) := ⟨⟨by decide +kernel, by decide +kernel⟩, List.mem_of_getElem? (i := 246) (by decide +kernel), List.mem_of_getElem? (i := 809) (by decide +kernel), List.mem_of_getElem? (i := 810) (by decide +kernel)⟩
theorem lw_p20 : lw_okq (⟨"ProtoDesk$Reader", "readChoice", "()Z"⟩, 8) := ⟨⟨by decide +kernel, by decide +kernel⟩, List.mem_of_getElem? (i := 246) (by decide +kernel), List.mem_of_getElem? (i := 813) (by decide +kernel), List.mem_of_getElem? (i := 814) (by decide +kernel)⟩
theorem lw_p21 : lw_okq (⟨"ProtoDesk$Reader", "readField", "()Z"⟩, 8) := ⟨⟨by decide +kernel, by decide +kernel⟩, List.mem_of_getElem? (i := 246) (by decide +kernel), List.mem_of_getElem? (i := 817) (by decide +kernel), List.mem_of_getElem? (i := 818) (by decide +kernel)⟩
theorem lw_p22 : lw_okq (⟨"ProtoDesk$Reader", "readTypeName", "()Z"⟩, 8) := ⟨⟨by decide +kernel, by decide +kernel⟩, List.mem_of_getElem? (i := 246) (by decide +kernel), List.mem_of_getElem? (i := 821) (by decide +kernel), List.mem_of_getElem? (i := 822) (by decide +kernel)⟩
theorem lw_p23 : lw_okq (⟨"ProtoDesk$Reader", "readPacked", "(LProtoDesk$Item;)Z"⟩, 8) := ⟨⟨by decide +kernel, by decide +kernel⟩, List.mem_of_getElem? (i := 246) (by decide +kernel), List.mem_of_getElem? (i := 825) (by decide +kernel), List.mem_of_getElem? (i := 826) (by decide +kernel)⟩
theorem lw_p24 : lw_okq (⟨"ProtoDesk$Reader", "readMember", "()Z"⟩, 8) := ⟨⟨by decide +kernel, by decide +kernel⟩, List.mem_of_getElem? (i := 246) (by decide +kernel), List.mem_of_getElem? (i := 829) (by decide +kernel), List.mem_of_getElem? (i := 830) (by decide +kernel)⟩
theorem lw_p25 : lw_okq (⟨"ProtoDesk$Reader", "begin", "(I)Z"⟩, 8) := ⟨⟨by decide +kernel, by decide +kernel⟩, List.mem_of_getElem? (i := 246) (by decide +kernel), List.mem_of_getElem? (i := 833) (by decide +kernel), List.mem_of_getElem? (i := 834) (by decide +kernel)⟩
theorem lw_p26 : lw_okq (⟨"ProtoDesk$Compiler", "judge", "(LProtoDesk$Item;I)V"⟩, 5) := ⟨⟨by decide +kernel, by decide +kernel⟩, List.mem_of_getElem? (i := 56) (by decide +kernel), List.mem_of_getElem? (i := 849) (by decide +kernel), List.mem_of_getElem? (i := 850) (by decide +kernel)⟩
theorem lw_p27 : lw_okq (⟨"ProtoDesk$Compiler", "findsType", "(LProtoDesk$Item;)Z"⟩, 5) := ⟨⟨by decide +kernel, by decide +kernel⟩, List.mem_of_getElem? (i := 56) (by decide +kernel), List.mem_of_getElem? (i := 853) (by decide +kernel), List.mem_of_getElem? (i := 854) (by decide +kernel)⟩
theorem lw_p28 : lw_okq (⟨"ProtoDesk$Compiler", "typeAround", "(LProtoDesk$Item;I)LProtoDesk$Item;"⟩, 5) := ⟨⟨by decide +kernel, by decide +kernel⟩, List.mem_of_getElem? (i := 56) (by decide +kernel), List.mem_of_getElem? (i := 877) (by decide +kernel), List.mem_of_getElem? (i := 878) (by decide +kernel)⟩
theorem lw_p29 : lw_okq (⟨"ProtoDesk$Compiler", "fail", "(II)V"⟩, 5) := ⟨⟨by decide +kernel, by decide +kernel⟩, List.mem_of_getElem? (i := 56) (by decide +kernel), List.mem_of_getElem? (i := 882) (by decide +kernel), List.mem_of_getElem? (i := 883) (by decide +kernel)⟩
theorem lw_p30 : lw_okq (⟨"ProtoDesk$Compiler", "isTaken", "(LProtoDesk$Item;I)Z"⟩, 5) := ⟨⟨by decide +kernel, by decide +kernel⟩, List.mem_of_getElem? (i := 56) (by decide +kernel), List.mem_of_getElem? (i := 886) (by decide +kernel), List.mem_of_getElem? (i := 887) (by decide +kernel)⟩
theorem lw_p31 : lw_okq (⟨"ProtoDesk$Compiler", "judgeField", "(LProtoDesk$Item;)V"⟩, 5) := ⟨⟨by decide +kernel, by decide +kernel⟩, List.mem_of_getElem? (i := 56) (by decide +kernel), List.mem_of_getElem? (i := 891) (by decide +kernel), List.mem_of_getElem? (i := 892) (by decide +kernel)⟩
def lw_privs_2 : List (MethodName × Nat) := [(⟨"ProtoDesk$Reader", "readValue", "()Z"⟩, 8), (⟨"ProtoDesk$Reader", "isForbidden", "()Z"⟩, 8), (⟨"ProtoDesk$Reader", "readName", "(I)LProtoDesk$Item;"⟩, 8), (⟨"ProtoDesk$Reader", "readNumber", "(LProtoDesk$Item;Z)Z"⟩, 8), (⟨"ProtoDesk$Reader", "readChoice", "()Z"⟩, 8), (⟨"ProtoDesk$Reader", "readField", "()Z"⟩, 8), (⟨"ProtoDesk$Reader", "readTypeName", "()Z"⟩, 8), (⟨"ProtoDesk$Reader", "readPacked", "(LProtoDesk$Item;)Z"⟩, 8), (⟨"ProtoDesk$Reader", "readMember", "()Z"⟩, 8), (⟨"ProtoDesk$Reader", "begin", "(I)Z"⟩, 8), (⟨"ProtoDesk$Compiler", "judge", "(LProtoDesk$Item;I)V"⟩, 5), (⟨"ProtoDesk$Compiler", "findsType", "(LProtoDesk$Item;)Z"⟩, 5), (⟨"ProtoDesk$Compiler", "typeAround", "(LProtoDesk$Item;I)LProtoDesk$Item;"⟩, 5), (⟨"ProtoDesk$Compiler", "fail", "(II)V"⟩, 5), (⟨"ProtoDesk$Compiler", "isTaken", "(LProtoDesk$Item;I)Z"⟩, 5), (⟨"ProtoDesk$Compiler", "judgeField", "(LProtoDesk$Item;)V"⟩, 5)]
theorem lw_r2 : ∀ q ∈ lw_privs_2, lw_okq q := List.forall_mem_cons.mpr ⟨lw_p16, List.forall_mem_cons.mpr ⟨lw_p17, List.forall_mem_cons.mpr ⟨lw_p18, List.forall_mem_cons.mpr ⟨lw_p19, List.forall_mem_cons.mpr ⟨lw_p20, List.forall_mem_cons.mpr ⟨lw_p21, List.forall_mem_cons.mpr ⟨lw_p22, List.forall_mem_cons.mpr ⟨lw_p23, List.forall_mem_cons.mpr ⟨lw_p24, List.forall_mem_cons.mpr ⟨lw_p25, List.forall_mem_cons.mpr ⟨lw_p26, List.forall_mem_cons.mpr ⟨lw_p27, List.forall_mem_cons.mpr ⟨lw_p28, List.forall_mem_cons.mpr ⟨lw_p29, List.forall_mem_cons.mpr ⟨lw_p30, List.forall_mem_cons.mpr ⟨lw_p31, fun _ h => absurd h List.not_mem_nil⟩⟩⟩⟩⟩⟩⟩⟩⟩⟩⟩⟩⟩⟩⟩⟩
theorem lw_p32 : lw_okq (⟨"ProtoDesk$Compiler", "judgeValue", "(LProtoDesk$Item;)V"⟩, 5) := ⟨⟨by decide +kernel, by decide +kernel⟩, List.mem_of_getElem? (i := 56) (by decide +kernel), List.mem_of_getElem? (i := 909) (by decide +kernel), List.mem_of_getElem? (i := 910) (by decide +kernel)⟩
theorem lw_p33 : lw_okq (⟨"ProtoDesk$Compiler", "isTooMuch", "()Z"⟩, 5) := ⟨⟨by decide +kernel, by decide +kernel⟩, List.mem_of_getElem? (i := 56) (by decide +kernel), List.mem_of_getElem? (i := 919) (by decide +kernel), List.mem_of_getElem? (i := 920) (by decide +kernel)⟩
theorem lw_p34 : lw_okq (⟨"ProtoDesk", "messageOf", "(II)LProtoDesk$Item;"⟩, 9) := ⟨⟨by decide +kernel, by decide +kernel⟩, List.mem_of_getElem? (i := 28) (by decide +kernel), List.mem_of_getElem? (i := 956) (by decide +kernel), List.mem_of_getElem? (i := 957) (by decide +kernel)⟩
theorem lw_p35 : lw_okq (⟨"ProtoDesk$Schema", "isFullName", "(LProtoDesk$Item;LProtoDesk$Bytes;)Z"⟩, 5) := ⟨⟨by decide +kernel, by decide +kernel⟩, List.mem_of_getElem? (i := 62) (by decide +kernel), List.mem_of_getElem? (i := 980) (by decide +kernel), List.mem_of_getElem? (i := 981) (by decide +kernel)⟩
theorem lw_p36 : lw_okq (⟨"ProtoDesk", "opens", "(III)Z"⟩, 9) := ⟨⟨by decide +kernel, by decide +kernel⟩, List.mem_of_getElem? (i := 28) (by decide +kernel), List.mem_of_getElem? (i := 994) (by decide +kernel), List.mem_of_getElem? (i := 995) (by decide +kernel)⟩
theorem lw_p37 : lw_okq (⟨"ProtoDesk$Wire", "readMessage", "(LProtoDesk$Node;LProtoDesk$Item;II)Z"⟩, 6) := ⟨⟨by decide +kernel, by decide +kernel⟩, List.mem_of_getElem? (i := 372) (by decide +kernel), List.mem_of_getElem? (i := 1008) (by decide +kernel), List.mem_of_getElem? (i := 1009) (by decide +kernel)⟩
theorem lw_p38 : lw_okq (⟨"ProtoDesk$Wire", "readNumber", "(II)Z"⟩, 6) := ⟨⟨by decide +kernel, by decide +kernel⟩, List.mem_of_getElem? (i := 372) (by decide +kernel), List.mem_of_getElem? (i := 1012) (by decide +kernel), List.mem_of_getElem? (i := 1013) (by decide +kernel)⟩
theorem lw_p39 : lw_okq (⟨"ProtoDesk$Wire", "takeLength", "(LProtoDesk$Node;LProtoDesk$Item;III)Z"⟩, 6) := ⟨⟨by decide +kernel, by decide +kernel⟩, List.mem_of_getElem? (i := 372) (by decide +kernel), List.mem_of_getElem? (i := 1022) (by decide +kernel), List.mem_of_getElem? (i := 1023) (by decide +kernel)⟩
theorem lw_p40 : lw_okq (⟨"ProtoDesk$Wire", "takeRow", "(LProtoDesk$Node;LProtoDesk$Item;I)Z"⟩, 6) := ⟨⟨by decide +kernel, by decide +kernel⟩, List.mem_of_getElem? (i := 372) (by decide +kernel), List.mem_of_getElem? (i := 1027) (by decide +kernel), List.mem_of_getElem? (i := 1028) (by decide +kernel)⟩
theorem lw_p41 : lw_okq (⟨"ProtoDesk$Wire", "putNumber", "(LProtoDesk$Node;LProtoDesk$Item;)Z"⟩, 6) := ⟨⟨by decide +kernel, by decide +kernel⟩, List.mem_of_getElem? (i := 372) (by decide +kernel), List.mem_of_getElem? (i := 1034) (by decide +kernel), List.mem_of_getElem? (i := 1035) (by decide +kernel)⟩
theorem lw_p42 : lw_okq (⟨"ProtoDesk$Tree", "dropRivals", "(LProtoDesk$Node;LProtoDesk$Item;)V"⟩, 6) := ⟨⟨by decide +kernel, by decide +kernel⟩, List.mem_of_getElem? (i := 293) (by decide +kernel), List.mem_of_getElem? (i := 1042) (by decide +kernel), List.mem_of_getElem? (i := 1043) (by decide +kernel)⟩
theorem lw_p43 : lw_okq (⟨"ProtoDesk$Tree", "lastUpTo", "(LProtoDesk$Node;J)LProtoDesk$Node;"⟩, 6) := ⟨⟨by decide +kernel, by decide +kernel⟩, List.mem_of_getElem? (i := 293) (by decide +kernel), List.mem_of_getElem? (i := 1047) (by decide +kernel), List.mem_of_getElem? (i := 1048) (by decide +kernel)⟩
theorem lw_p44 : lw_okq (⟨"ProtoDesk$Wire", "keep", "(LProtoDesk$Node;I)Z"⟩, 6) := ⟨⟨by decide +kernel, by decide +kernel⟩, List.mem_of_getElem? (i := 372) (by decide +kernel), List.mem_of_getElem? (i := 1055) (by decide +kernel), List.mem_of_getElem? (i := 1056) (by decide +kernel)⟩
theorem lw_p45 : lw_okq (⟨"ProtoDesk$Wire", "copy", "(LProtoDesk$Node;II)Z"⟩, 6) := ⟨⟨by decide +kernel, by decide +kernel⟩, List.mem_of_getElem? (i := 372) (by decide +kernel), List.mem_of_getElem? (i := 1059) (by decide +kernel), List.mem_of_getElem? (i := 1060) (by decide +kernel)⟩
theorem lw_p46 : lw_okq (⟨"ProtoDesk$Wire", "takeNumber", "(LProtoDesk$Node;LProtoDesk$Item;III)Z"⟩, 6) := ⟨⟨by decide +kernel, by decide +kernel⟩, List.mem_of_getElem? (i := 372) (by decide +kernel), List.mem_of_getElem? (i := 1068) (by decide +kernel), List.mem_of_getElem? (i := 1069) (by decide +kernel)⟩
theorem lw_p47 : lw_okq (⟨"ProtoDesk", "settle", "(Z)I"⟩, 9) := ⟨⟨by decide +kernel, by decide +kernel⟩, List.mem_of_getElem? (i := 28) (by decide +kernel), List.mem_of_getElem? (i := 1072) (by decide +kernel), List.mem_of_getElem? (i := 1073) (by decide +kernel)⟩
def lw_privs_3 : List (MethodName × Nat) := [(⟨"ProtoDesk$Compiler", "judgeValue", "(LProtoDesk$Item;)V"⟩, 5), (⟨"ProtoDesk$Compiler", "isTooMuch", "()Z"⟩, 5), (⟨"ProtoDesk", "messageOf", "(II)LProtoDesk$Item;"⟩, 9), (⟨"ProtoDesk$Schema", "isFullName", "(LProtoDesk$Item;LProtoDesk$Bytes;)Z"⟩, 5), (⟨"ProtoDesk", "opens", "(III)Z"⟩, 9), (⟨"ProtoDesk$Wire", "readMessage", "(LProtoDesk$Node;LProtoDesk$Item;II)Z"⟩, 6), (⟨"ProtoDesk$Wire", "readNumber", "(II)Z"⟩, 6), (⟨"ProtoDesk$Wire", "takeLength", "(LProtoDesk$Node;LProtoDesk$Item;III)Z"⟩, 6), (⟨"ProtoDesk$Wire", "takeRow", "(LProtoDesk$Node;LProtoDesk$Item;I)Z"⟩, 6), (⟨"ProtoDesk$Wire", "putNumber", "(LProtoDesk$Node;LProtoDesk$Item;)Z"⟩, 6), (⟨"ProtoDesk$Tree", "dropRivals", "(LProtoDesk$Node;LProtoDesk$Item;)V"⟩, 6), (⟨"ProtoDesk$Tree", "lastUpTo", "(LProtoDesk$Node;J)LProtoDesk$Node;"⟩, 6), (⟨"ProtoDesk$Wire", "keep", "(LProtoDesk$Node;I)Z"⟩, 6), (⟨"ProtoDesk$Wire", "copy", "(LProtoDesk$Node;II)Z"⟩, 6), (⟨"ProtoDesk$Wire", "takeNumber", "(LProtoDesk$Node;LProtoDesk$Item;III)Z"⟩, 6), (⟨"ProtoDesk", "settle", "(Z)I"⟩, 9)]
theorem lw_r3 : ∀ q ∈ lw_privs_3, lw_okq q := List.forall_mem_cons.mpr ⟨lw_p32, List.forall_mem_cons.mpr ⟨lw_p33, List.forall_mem_cons.mpr ⟨lw_p34, List.forall_mem_cons.mpr ⟨lw_p35, List.forall_mem_cons.mpr ⟨lw_p36, List.forall_mem_cons.mpr ⟨lw_p37, List.forall_mem_cons.mpr ⟨lw_p38, List.forall_mem_cons.mpr ⟨lw_p39, List.forall_mem_cons.mpr ⟨lw_p40, List.forall_mem_cons.mpr ⟨lw_p41, List.forall_mem_cons.mpr ⟨lw_p42, List.forall_mem_cons.mpr ⟨lw_p43, List.forall_mem_cons.mpr ⟨lw_p44, List.forall_mem_cons.mpr ⟨lw_p45, List.forall_mem_cons.mpr ⟨lw_p46, List.forall_mem_cons.mpr ⟨lw_p47, fun _ h => absurd h List.not_mem_nil⟩⟩⟩⟩⟩⟩⟩⟩⟩⟩⟩⟩⟩⟩⟩⟩
theorem lw_p48 : lw_okq (⟨"ProtoDesk$Tree", "countIn", "(LProtoDesk$Node;I)I"⟩, 6) := ⟨⟨by decide +kernel, by decide +kernel⟩, List.mem_of_getElem? (i := 293) (by decide +kernel), List.mem_of_getElem? (i := 1080) (by decide +kernel), List.mem_of_getElem? (i := 1081) (by decide +kernel)⟩
theorem lw_p49 : lw_okq (⟨"ProtoDesk$TextForm", "readMessage", "(LProtoDesk$Node;LProtoDesk$Item;I)Z"⟩, 7) := ⟨⟨by decide +kernel, by decide +kernel⟩, List.mem_of_getElem? (i := 397) (by decide +kernel), List.mem_of_getElem? (i := 1110) (by decide +kernel), List.mem_of_getElem? (i := 1111) (by decide +kernel)⟩
theorem lw_p50 : lw_okq (⟨"ProtoDesk$TextForm", "skipBlanks", "()V"⟩, 7) := ⟨⟨by decide +kernel, by decide +kernel⟩, List.mem_of_getElem? (i := 397) (by decide +kernel), List.mem_of_getElem? (i := 1114) (by decide +kernel), List.mem_of_getElem? (i := 1115) (by decide +kernel)⟩
theorem lw_p51 : lw_okq (⟨"ProtoDesk$TextForm", "readField", "(LProtoDesk$Node;LProtoDesk$Item;I)Z"⟩, 7) := ⟨⟨by decide +kernel, by decide +kernel⟩, List.mem_of_getElem? (i := 397) (by decide +kernel), List.mem_of_getElem? (i := 1121) (by decide +kernel), List.mem_of_getElem? (i := 1122) (by decide +kernel)⟩
theorem lw_p52 : lw_okq (⟨"ProtoDesk$TextForm", "skipWord", "()V"⟩, 7) := ⟨⟨by decide +kernel, by decide +kernel⟩, List.mem_of_getElem? (i := 397) (by decide +kernel), List.mem_of_getElem? (i := 1125) (by decide +kernel), List.mem_of_getElem? (i := 1126) (by decide +kernel)⟩
theorem lw_p53 : lw_okq (⟨"ProtoDesk$TextForm", "readValue", "(LProtoDesk$Node;LProtoDesk$Item;)Z"⟩, 7) := ⟨⟨by decide +kernel, by decide +kernel⟩, List.mem_of_getElem? (i := 397) (by decide +kernel), List.mem_of_getElem? (i := 1139) (by decide +kernel), List.mem_of_getElem? (i := 1140) (by decide +kernel)⟩
theorem lw_p54 : lw_okq (⟨"ProtoDesk$TextForm", "readText", "(LProtoDesk$Node;I)Z"⟩, 7) := ⟨⟨by decide +kernel, by decide +kernel⟩, List.mem_of_getElem? (i := 397) (by decide +kernel), List.mem_of_getElem? (i := 1144) (by decide +kernel), List.mem_of_getElem? (i := 1145) (by decide +kernel)⟩
theorem lw_p55 : lw_okq (⟨"ProtoDesk$TextForm", "readEscape", "()I"⟩, 7) := ⟨⟨by decide +kernel, by decide +kernel⟩, List.mem_of_getElem? (i := 397) (by decide +kernel), List.mem_of_getElem? (i := 1148) (by decide +kernel), List.mem_of_getElem? (i := 1149) (by decide +kernel)⟩
theorem lw_p56 : lw_okq (⟨"ProtoDesk$TextForm", "readBool", "()Z"⟩, 7) := ⟨⟨by decide +kernel, by decide +kernel⟩, List.mem_of_getElem? (i := 397) (by decide +kernel), List.mem_of_getElem? (i := 1158) (by decide +kernel), List.mem_of_getElem? (i := 1159) (by decide +kernel)⟩
theorem lw_p57 : lw_okq (⟨"ProtoDesk$TextForm", "readEnumName", "(LProtoDesk$Item;)Z"⟩, 7) := ⟨⟨by decide +kernel, by decide +kernel⟩, List.mem_of_getElem? (i := 397) (by decide +kernel), List.mem_of_getElem? (i := 1165) (by decide +kernel), List.mem_of_getElem? (i := 1166) (by decide +kernel)⟩
theorem lw_p58 : lw_okq (⟨"ProtoDesk$TextForm", "readNumber", "(I)Z"⟩, 7) := ⟨⟨by decide +kernel, by decide +kernel⟩, List.mem_of_getElem? (i := 397) (by decide +kernel), List.mem_of_getElem? (i := 1169) (by decide +kernel), List.mem_of_getElem? (i := 1170) (by decide +kernel)⟩
theorem lw_p59 : lw_okq (⟨"ProtoDesk$Wire", "writeMessage", "(LProtoDesk$Node;I)V"⟩, 6) := ⟨⟨by decide +kernel, by decide +kernel⟩, List.mem_of_getElem? (i := 372) (by decide +kernel), List.mem_of_getElem? (i := 1198) (by decide +kernel), List.mem_of_getElem? (i := 1199) (by decide +kernel)⟩
theorem lw_p60 : lw_okq (⟨"ProtoDesk$Wire", "writeRow", "(LProtoDesk$Node;LProtoDesk$Item;)LProtoDesk$Node;"⟩, 6) := ⟨⟨by decide +kernel, by decide +kernel⟩, List.mem_of_getElem? (i := 372) (by decide +kernel), List.mem_of_getElem? (i := 1202) (by decide +kernel), List.mem_of_getElem? (i := 1203) (by decide +kernel)⟩
theorem lw_p61 : lw_okq (⟨"ProtoDesk$Wire", "writeNumber", "(IJ)V"⟩, 6) := ⟨⟨by decide +kernel, by decide +kernel⟩, List.mem_of_getElem? (i := 372) (by decide +kernel), List.mem_of_getElem? (i := 1212) (by decide +kernel), List.mem_of_getElem? (i := 1213) (by decide +kernel)⟩
theorem lw_p62 : lw_okq (⟨"ProtoDesk$Wire", "writeField", "(LProtoDesk$Node;LProtoDesk$Item;I)V"⟩, 6) := ⟨⟨by decide +kernel, by decide +kernel⟩, List.mem_of_getElem? (i := 372) (by decide +kernel), List.mem_of_getElem? (i := 1229) (by decide +kernel), List.mem_of_getElem? (i := 1230) (by decide +kernel)⟩
theorem lw_p63 : lw_okq (⟨"ProtoDesk$TextForm", "writeMessage", "(LProtoDesk$Node;LProtoDesk$Bytes;I)V"⟩, 7) := ⟨⟨by decide +kernel, by decide +kernel⟩, List.mem_of_getElem? (i := 397) (by decide +kernel), List.mem_of_getElem? (i := 1246) (by decide +kernel), List.mem_of_getElem? (i := 1247) (by decide +kernel)⟩
def lw_privs_4 : List (MethodName × Nat) := [(⟨"ProtoDesk$Tree", "countIn", "(LProtoDesk$Node;I)I"⟩, 6), (⟨"ProtoDesk$TextForm", "readMessage", "(LProtoDesk$Node;LProtoDesk$Item;I)Z"⟩, 7), (⟨"ProtoDesk$TextForm", "skipBlanks", "()V"⟩, 7), (⟨"ProtoDesk$TextForm", "readField", "(LProtoDesk$Node;LProtoDesk$Item;I)Z"⟩, 7), (⟨"ProtoDesk$TextForm", "skipWord", "()V"⟩, 7), (⟨"ProtoDesk$TextForm", "readValue", "(LProtoDesk$Node;LProtoDesk$Item;)Z"⟩, 7), (⟨"ProtoDesk$TextForm", "readText", "(LProtoDesk$Node;I)Z"⟩, 7), (⟨"ProtoDesk$TextForm", "readEscape", "()I"⟩, 7), (⟨"ProtoDesk$TextForm", "readBool", "()Z"⟩, 7), (⟨"ProtoDesk$TextForm", "readEnumName", "(LProtoDesk$Item;)Z"⟩, 7), (⟨"ProtoDesk$TextForm", "readNumber", "(I)Z"⟩, 7), (⟨"ProtoDesk$Wire", "writeMessage", "(LProtoDesk$Node;I)V"⟩, 6), (⟨"ProtoDesk$Wire", "writeRow", "(LProtoDesk$Node;LProtoDesk$Item;)LProtoDesk$Node;"⟩, 6), (⟨"ProtoDesk$Wire", "writeNumber", "(IJ)V"⟩, 6), (⟨"ProtoDesk$Wire", "writeField", "(LProtoDesk$Node;LProtoDesk$Item;I)V"⟩, 6), (⟨"ProtoDesk$TextForm", "writeMessage", "(LProtoDesk$Node;LProtoDesk$Bytes;I)V"⟩, 7)]
theorem lw_r4 : ∀ q ∈ lw_privs_4, lw_okq q := List.forall_mem_cons.mpr ⟨lw_p48, List.forall_mem_cons.mpr ⟨lw_p49, List.forall_mem_cons.mpr ⟨lw_p50, List.forall_mem_cons.mpr ⟨lw_p51, List.forall_mem_cons.mpr ⟨lw_p52, List.forall_mem_cons.mpr ⟨lw_p53, List.forall_mem_cons.mpr ⟨lw_p54, List.forall_mem_cons.mpr ⟨lw_p55, List.forall_mem_cons.mpr ⟨lw_p56, List.forall_mem_cons.mpr ⟨lw_p57, List.forall_mem_cons.mpr ⟨lw_p58, List.forall_mem_cons.mpr ⟨lw_p59, List.forall_mem_cons.mpr ⟨lw_p60, List.forall_mem_cons.mpr ⟨lw_p61, List.forall_mem_cons.mpr ⟨lw_p62, List.forall_mem_cons.mpr ⟨lw_p63, fun _ h => absurd h List.not_mem_nil⟩⟩⟩⟩⟩⟩⟩⟩⟩⟩⟩⟩⟩⟩⟩⟩
theorem lw_p64 : lw_okq (⟨"ProtoDesk$TextForm", "writeField", "(LProtoDesk$Node;LProtoDesk$Item;LProtoDesk$Bytes;I)V"⟩, 7) := ⟨⟨by decide +kernel, by decide +kernel⟩, List.mem_of_getElem? (i := 397) (by decide +kernel), List.mem_of_getElem? (i := 1251) (by decide +kernel), List.mem_of_getElem? (i := 1252) (by decide +kernel)⟩
theorem lw_p65 : lw_okq (⟨"ProtoDesk$TextForm", "writeIndent", "(I)V"⟩, 7) := ⟨⟨by decide +kernel, by decide +kernel⟩, List.mem_of_getElem? (i := 397) (by decide +kernel), List.mem_of_getElem? (i := 1255) (by decide +kernel), List.mem_of_getElem? (i := 1256) (by decide +kernel)⟩
theorem lw_p66 : lw_okq (⟨"ProtoDesk$TextForm", "writeNumber", "(LProtoDesk$Item;JLProtoDesk$Bytes;)V"⟩, 7) := ⟨⟨by decide +kernel, by decide +kernel⟩, List.mem_of_getElem? (i := 397) (by decide +kernel), List.mem_of_getElem? (i := 1268) (by decide +kernel), List.mem_of_getElem? (i := 1269) (by decide +kernel)⟩
theorem lw_p67 : lw_okq (⟨"ProtoDesk$TextForm", "writeDecimal", "(J)V"⟩, 7) := ⟨⟨by decide +kernel, by decide +kernel⟩, List.mem_of_getElem? (i := 397) (by decide +kernel), List.mem_of_getElem? (i := 1275) (by decide +kernel), List.mem_of_getElem? (i := 1276) (by decide +kernel)⟩
theorem lw_p68 : lw_okq (⟨"ProtoDesk$TextForm", "writeText", "(LProtoDesk$Node;)V"⟩, 7) := ⟨⟨by decide +kernel, by decide +kernel⟩, List.mem_of_getElem? (i := 397) (by decide +kernel), List.mem_of_getElem? (i := 1280) (by decide +kernel), List.mem_of_getElem? (i := 1281) (by decide +kernel)⟩
theorem lw_p69 : lw_okq (⟨"ProtoDesk$TextForm", "writeTextByte", "(I)V"⟩, 7) := ⟨⟨by decide +kernel, by decide +kernel⟩, List.mem_of_getElem? (i := 397) (by decide +kernel), List.mem_of_getElem? (i := 1284) (by decide +kernel), List.mem_of_getElem? (i := 1285) (by decide +kernel)⟩
theorem lw_p70 : lw_okq (⟨"ProtoDesk$Checker", "enter", "(LProtoDesk$Item;LProtoDesk$Item;)Z"⟩, 5) := ⟨⟨by decide +kernel, by decide +kernel⟩, List.mem_of_getElem? (i := 425) (by decide +kernel), List.mem_of_getElem? (i := 1317) (by decide +kernel), List.mem_of_getElem? (i := 1318) (by decide +kernel)⟩
theorem lw_p71 : lw_okq (⟨"ProtoDesk$Checker", "look", "()I"⟩, 5) := ⟨⟨by decide +kernel, by decide +kernel⟩, List.mem_of_getElem? (i := 425) (by decide +kernel), List.mem_of_getElem? (i := 1322) (by decide +kernel), List.mem_of_getElem? (i := 1323) (by decide +kernel)⟩
theorem lw_p72 : lw_okq (⟨"ProtoDesk$Checker", "tellWay", "()V"⟩, 5) := ⟨⟨by decide +kernel, by decide +kernel⟩, List.mem_of_getElem? (i := 425) (by decide +kernel), List.mem_of_getElem? (i := 1333) (by decide +kernel), List.mem_of_getElem? (i := 1334) (by decide +kernel)⟩
theorem lw_p73 : lw_okq (⟨"ProtoDeskModel", "readSchema", "()V"⟩, 115) := ⟨⟨by decide +kernel, by decide +kernel⟩, List.mem_of_getElem? (i := 1373) (by decide +kernel), List.mem_of_getElem? (i := 1748) (by decide +kernel), List.mem_of_getElem? (i := 1749) (by decide +kernel)⟩
theorem lw_p74 : lw_okq (⟨"ProtoDeskModel", "look", "(I)V"⟩, 115) := ⟨⟨by decide +kernel, by decide +kernel⟩, List.mem_of_getElem? (i := 1373) (by decide +kernel), List.mem_of_getElem? (i := 1752) (by decide +kernel), List.mem_of_getElem? (i := 1753) (by decide +kernel)⟩
theorem lw_p75 : lw_okq (⟨"ProtoDeskModel", "behindBlanks", "(I)I"⟩, 115) := ⟨⟨by decide +kernel, by decide +kernel⟩, List.mem_of_getElem? (i := 1373) (by decide +kernel), List.mem_of_getElem? (i := 1756) (by decide +kernel), List.mem_of_getElem? (i := 1757) (by decide +kernel)⟩
theorem lw_p76 : lw_okq (⟨"ProtoDeskModel", "byteAt", "(I)I"⟩, 115) := ⟨⟨by decide +kernel, by decide +kernel⟩, List.mem_of_getElem? (i := 1373) (by decide +kernel), List.mem_of_getElem? (i := 1760) (by decide +kernel), List.mem_of_getElem? (i := 1761) (by decide +kernel)⟩
theorem lw_p77 : lw_okq (⟨"ProtoDeskModel", "behindComment", "(I)I"⟩, 115) := ⟨⟨by decide +kernel, by decide +kernel⟩, List.mem_of_getElem? (i := 1373) (by decide +kernel), List.mem_of_getElem? (i := 1767) (by decide +kernel), List.mem_of_getElem? (i := 1768) (by decide +kernel)⟩
theorem lw_p78 : lw_okq (⟨"ProtoDeskModel", "readNumber", "()V"⟩, 115) := ⟨⟨by decide +kernel, by decide +kernel⟩, List.mem_of_getElem? (i := 1373) (by decide +kernel), List.mem_of_getElem? (i := 1780) (by decide +kernel), List.mem_of_getElem? (i := 1781) (by decide +kernel)⟩
theorem lw_p79 : lw_okq (⟨"ProtoDeskModel", "readText", "()V"⟩, 115) := ⟨⟨by decide +kernel, by decide +kernel⟩, List.mem_of_getElem? (i := 1373) (by decide +kernel), List.mem_of_getElem? (i := 1788) (by decide +kernel), List.mem_of_getElem? (i := 1789) (by decide +kernel)⟩
def lw_privs_5 : List (MethodName × Nat) := [(⟨"ProtoDesk$TextForm", "writeField", "(LProtoDesk$Node;LProtoDesk$Item;LProtoDesk$Bytes;I)V"⟩, 7), (⟨"ProtoDesk$TextForm", "writeIndent", "(I)V"⟩, 7), (⟨"ProtoDesk$TextForm", "writeNumber", "(LProtoDesk$Item;JLProtoDesk$Bytes;)V"⟩, 7), (⟨"ProtoDesk$TextForm", "writeDecimal", "(J)V"⟩, 7), (⟨"ProtoDesk$TextForm", "writeText", "(LProtoDesk$Node;)V"⟩, 7), (⟨"ProtoDesk$TextForm", "writeTextByte", "(I)V"⟩, 7), (⟨"ProtoDesk$Checker", "enter", "(LProtoDesk$Item;LProtoDesk$Item;)Z"⟩, 5), (⟨"ProtoDesk$Checker", "look", "()I"⟩, 5), (⟨"ProtoDesk$Checker", "tellWay", "()V"⟩, 5), (⟨"ProtoDeskModel", "readSchema", "()V"⟩, 115), (⟨"ProtoDeskModel", "look", "(I)V"⟩, 115), (⟨"ProtoDeskModel", "behindBlanks", "(I)I"⟩, 115), (⟨"ProtoDeskModel", "byteAt", "(I)I"⟩, 115), (⟨"ProtoDeskModel", "behindComment", "(I)I"⟩, 115), (⟨"ProtoDeskModel", "readNumber", "()V"⟩, 115), (⟨"ProtoDeskModel", "readText", "()V"⟩, 115)]
theorem lw_r5 : ∀ q ∈ lw_privs_5, lw_okq q := List.forall_mem_cons.mpr ⟨lw_p64, List.forall_mem_cons.mpr ⟨lw_p65, List.forall_mem_cons.mpr ⟨lw_p66, List.forall_mem_cons.mpr ⟨lw_p67, List.forall_mem_cons.mpr ⟨lw_p68, List.forall_mem_cons.mpr ⟨lw_p69, List.forall_mem_cons.mpr ⟨lw_p70, List.forall_mem_cons.mpr ⟨lw_p71, List.forall_mem_cons.mpr ⟨lw_p72, List.forall_mem_cons.mpr ⟨lw_p73, List.forall_mem_cons.mpr ⟨lw_p74, List.forall_mem_cons.mpr ⟨lw_p75, List.forall_mem_cons.mpr ⟨lw_p76, List.forall_mem_cons.mpr ⟨lw_p77, List.forall_mem_cons.mpr ⟨lw_p78, List.forall_mem_cons.mpr ⟨lw_p79, fun _ h => absurd h List.not_mem_nil⟩⟩⟩⟩⟩⟩⟩⟩⟩⟩⟩⟩⟩⟩⟩⟩
theorem lw_p80 : lw_okq (⟨"ProtoDeskModel", "takeWord", "(J)V"⟩, 115) := ⟨⟨by decide +kernel, by decide +kernel⟩, List.mem_of_getElem? (i := 1373) (by decide +kernel), List.mem_of_getElem? (i := 1793) (by decide +kernel), List.mem_of_getElem? (i := 1794) (by decide +kernel)⟩
theorem lw_p81 : lw_okq (⟨"ProtoDeskModel", "isWord", "(J)Z"⟩, 115) := ⟨⟨by decide +kernel, by decide +kernel⟩, List.mem_of_getElem? (i := 1373) (by decide +kernel), List.mem_of_getElem? (i := 1797) (by decide +kernel), List.mem_of_getElem? (i := 1798) (by decide +kernel)⟩
theorem lw_p82 : lw_okq (⟨"ProtoDeskModel", "isPlain", "(IIJ)Z"⟩, 115) := ⟨⟨by decide +kernel, by decide +kernel⟩, List.mem_of_getElem? (i := 1373) (by decide +kernel), List.mem_of_getElem? (i := 1801) (by decide +kernel), List.mem_of_getElem? (i := 1802) (by decide +kernel)⟩
theorem lw_p83 : lw_okq (⟨"ProtoDeskModel", "next", "()V"⟩, 115) := ⟨⟨by decide +kernel, by decide +kernel⟩, List.mem_of_getElem? (i := 1373) (by decide +kernel), List.mem_of_getElem? (i := 1811) (by decide +kernel), List.mem_of_getElem? (i := 1812) (by decide +kernel)⟩
theorem lw_p84 : lw_okq (⟨"ProtoDeskModel", "fail", "(II)V"⟩, 115) := ⟨⟨by decide +kernel, by decide +kernel⟩, List.mem_of_getElem? (i := 1373) (by decide +kernel), List.mem_of_getElem? (i := 1815) (by decide +kernel), List.mem_of_getElem? (i := 1816) (by decide +kernel)⟩
theorem lw_p85 : lw_okq (⟨"ProtoDeskModel", "takeSign", "(I)V"⟩, 115) := ⟨⟨by decide +kernel, by decide +kernel⟩, List.mem_of_getElem? (i := 1373) (by decide +kernel), List.mem_of_getElem? (i := 1819) (by decide +kernel), List.mem_of_getElem? (i := 1820) (by decide +kernel)⟩
theorem lw_p86 : lw_okq (⟨"ProtoDeskModel", "isSign", "(I)Z"⟩, 115) := ⟨⟨by decide +kernel, by decide +kernel⟩, List.mem_of_getElem? (i := 1373) (by decide +kernel), List.mem_of_getElem? (i := 1823) (by decide +kernel), List.mem_of_getElem? (i := 1824) (by decide +kernel)⟩
theorem lw_p87 : lw_okq (⟨"ProtoDeskModel", "isProto3", "()Z"⟩, 115) := ⟨⟨by decide +kernel, by decide +kernel⟩, List.mem_of_getElem? (i := 1373) (by decide +kernel), List.mem_of_getElem? (i := 1827) (by decide +kernel), List.mem_of_getElem? (i := 1828) (by decide +kernel)⟩
theorem lw_p88 : lw_okq (⟨"ProtoDeskModel", "takeMember", "(I)I"⟩, 115) := ⟨⟨by decide +kernel, by decide +kernel⟩, List.mem_of_getElem? (i := 1373) (by decide +kernel), List.mem_of_getElem? (i := 1832) (by decide +kernel), List.mem_of_getElem? (i := 1833) (by decide +kernel)⟩
theorem lw_p89 : lw_okq (⟨"ProtoDeskModel", "isForeign", "()Z"⟩, 115) := ⟨⟨by decide +kernel, by decide +kernel⟩, List.mem_of_getElem? (i := 1373) (by decide +kernel), List.mem_of_getElem? (i := 1836) (by decide +kernel), List.mem_of_getElem? (i := 1837) (by decide +kernel)⟩
theorem lw_p90 : lw_okq (⟨"ProtoDeskModel", "isExtensions", "()Z"⟩, 115) := ⟨⟨by decide +kernel, by decide +kernel⟩, List.mem_of_getElem? (i := 1373) (by decide +kernel), List.mem_of_getElem? (i := 1849) (by decide +kernel), List.mem_of_getElem? (i := 1850) (by decide +kernel)⟩
theorem lw_p91 : lw_okq (⟨"ProtoDeskModel", "beginMessage", "(I)I"⟩, 115) := ⟨⟨by decide +kernel, by decide +kernel⟩, List.mem_of_getElem? (i := 1373) (by decide +kernel), List.mem_of_getElem? (i := 1858) (by decide +kernel), List.mem_of_getElem? (i := 1859) (by decide +kernel)⟩
theorem lw_p92 : lw_okq (⟨"ProtoDeskModel", "declare", "(I)V"⟩, 115) := ⟨⟨by decide +kernel, by decide +kernel⟩, List.mem_of_getElem? (i := 1373) (by decide +kernel), List.mem_of_getElem? (i := 1862) (by decide +kernel), List.mem_of_getElem? (i := 1863) (by decide +kernel)⟩
theorem lw_p93 : lw_okq (⟨"ProtoDeskModel", "lastAt", "()I"⟩, 115) := ⟨⟨by decide +kernel, by decide +kernel⟩, List.mem_of_getElem? (i := 1373) (by decide +kernel), List.mem_of_getElem? (i := 1866) (by decide +kernel), List.mem_of_getElem? (i := 1867) (by decide +kernel)⟩
theorem lw_p94 : lw_okq (⟨"ProtoDeskModel", "lastLong", "()I"⟩, 115) := ⟨⟨by decide +kernel, by decide +kernel⟩, List.mem_of_getElem? (i := 1373) (by decide +kernel), List.mem_of_getElem? (i := 1870) (by decide +kernel), List.mem_of_getElem? (i := 1871) (by decide +kernel)⟩
theorem lw_p95 : lw_okq (⟨"ProtoDeskModel", "takeEnum", "(I)V"⟩, 115) := ⟨⟨by decide +kernel, by decide +kernel⟩, List.mem_of_getElem? (i := 1373) (by decide +kernel), List.mem_of_getElem? (i := 1875) (by decide +kernel), List.mem_of_getElem? (i := 1876) (by decide +kernel)⟩
def lw_privs_6 : List (MethodName × Nat) := [(⟨"ProtoDeskModel", "takeWord", "(J)V"⟩, 115), (⟨"ProtoDeskModel", "isWord", "(J)Z"⟩, 115), (⟨"ProtoDeskModel", "isPlain", "(IIJ)Z"⟩, 115), (⟨"ProtoDeskModel", "next", "()V"⟩, 115), (⟨"ProtoDeskModel", "fail", "(II)V"⟩, 115), (⟨"ProtoDeskModel", "takeSign", "(I)V"⟩, 115), (⟨"ProtoDeskModel", "isSign", "(I)Z"⟩, 115), (⟨"ProtoDeskModel", "isProto3", "()Z"⟩, 115), (⟨"ProtoDeskModel", "takeMember", "(I)I"⟩, 115), (⟨"ProtoDeskModel", "isForeign", "()Z"⟩, 115), (⟨"ProtoDeskModel", "isExtensions", "()Z"⟩, 115), (⟨"ProtoDeskModel", "beginMessage", "(I)I"⟩, 115), (⟨"ProtoDeskModel", "declare", "(I)V"⟩, 115), (⟨"ProtoDeskModel", "lastAt", "()I"⟩, 115), (⟨"ProtoDeskModel", "lastLong", "()I"⟩, 115), (⟨"ProtoDeskModel", "takeEnum", "(I)V"⟩, 115)]
theorem lw_r6 : ∀ q ∈ lw_privs_6, lw_okq q := List.forall_mem_cons.mpr ⟨lw_p80, List.forall_mem_cons.mpr ⟨lw_p81, List.forall_mem_cons.mpr ⟨lw_p82, List.forall_mem_cons.mpr ⟨lw_p83, List.forall_mem_cons.mpr ⟨lw_p84, List.forall_mem_cons.mpr ⟨lw_p85, List.forall_mem_cons.mpr ⟨lw_p86, List.forall_mem_cons.mpr ⟨lw_p87, List.forall_mem_cons.mpr ⟨lw_p88, List.forall_mem_cons.mpr ⟨lw_p89, List.forall_mem_cons.mpr ⟨lw_p90, List.forall_mem_cons.mpr ⟨lw_p91, List.forall_mem_cons.mpr ⟨lw_p92, List.forall_mem_cons.mpr ⟨lw_p93, List.forall_mem_cons.mpr ⟨lw_p94, List.forall_mem_cons.mpr ⟨lw_p95, fun _ h => absurd h List.not_mem_nil⟩⟩⟩⟩⟩⟩⟩⟩⟩⟩⟩⟩⟩⟩⟩⟩
theorem lw_p96 : lw_okq (⟨"ProtoDeskModel", "takeValue", "(I)V"⟩, 115) := ⟨⟨by decide +kernel, by decide +kernel⟩, List.mem_of_getElem? (i := 1373) (by decide +kernel), List.mem_of_getElem? (i := 1879) (by decide +kernel), List.mem_of_getElem? (i := 1880) (by decide +kernel)⟩
theorem lw_p97 : lw_okq (⟨"ProtoDeskModel", "takeOneof", "(I)V"⟩, 115) := ⟨⟨by decide +kernel, by decide +kernel⟩, List.mem_of_getElem? (i := 1373) (by decide +kernel), List.mem_of_getElem? (i := 1884) (by decide +kernel), List.mem_of_getElem? (i := 1885) (by decide +kernel)⟩
theorem lw_p98 : lw_okq (⟨"ProtoDeskModel", "takeField", "(II)V"⟩, 115) := ⟨⟨by decide +kernel, by decide +kernel⟩, List.mem_of_getElem? (i := 1373) (by decide +kernel), List.mem_of_getElem? (i := 1888) (by decide +kernel), List.mem_of_getElem? (i := 1889) (by decide +kernel)⟩
theorem lw_p99 : lw_okq (⟨"ProtoDeskModel", "takeType", "(I)V"⟩, 115) := ⟨⟨by decide +kernel, by decide +kernel⟩, List.mem_of_getElem? (i := 1373) (by decide +kernel), List.mem_of_getElem? (i := 1893) (by decide +kernel), List.mem_of_getElem? (i := 1894) (by decide +kernel)⟩
theorem lw_p100 : lw_okq (⟨"ProtoDeskModel", "numberType", "()I"⟩, 115) := ⟨⟨by decide +kernel, by decide +kernel⟩, List.mem_of_getElem? (i := 1373) (by decide +kernel), List.mem_of_getElem? (i := 1897) (by decide +kernel), List.mem_of_getElem? (i := 1898) (by decide +kernel)⟩
theorem lw_p101 : lw_okq (⟨"ProtoDeskModel", "isReservedName", "()Z"⟩, 115) := ⟨⟨by decide +kernel, by decide +kernel⟩, List.mem_of_getElem? (i := 1373) (by decide +kernel), List.mem_of_getElem? (i := 1914) (by decide +kernel), List.mem_of_getElem? (i := 1915) (by decide +kernel)⟩
theorem lw_p102 : lw_okq (⟨"ProtoDeskModel", "takeParts", "(I)V"⟩, 115) := ⟨⟨by decide +kernel, by decide +kernel⟩, List.mem_of_getElem? (i := 1373) (by decide +kernel), List.mem_of_getElem? (i := 1918) (by decide +kernel), List.mem_of_getElem? (i := 1919) (by decide +kernel)⟩
theorem lw_p103 : lw_okq (⟨"ProtoDeskModel", "takePacked", "(I)V"⟩, 115) := ⟨⟨by decide +kernel, by decide +kernel⟩, List.mem_of_getElem? (i := 1373) (by decide +kernel), List.mem_of_getElem? (i := 1922) (by decide +kernel), List.mem_of_getElem? (i := 1923) (by decide +kernel)⟩
theorem lw_p104 : lw_okq (⟨"ProtoDeskModel", "checkNames", "()V"⟩, 115) := ⟨⟨by decide +kernel, by decide +kernel⟩, List.mem_of_getElem? (i := 1373) (by decide +kernel), List.mem_of_getElem? (i := 1929) (by decide +kernel), List.mem_of_getElem? (i := 1930) (by decide +kernel)⟩
theorem lw_p105 : lw_okq (⟨"ProtoDeskModel", "sameText", "(IIII)Z"⟩, 115) := ⟨⟨by decide +kernel, by decide +kernel⟩, List.mem_of_getElem? (i := 1373) (by decide +kernel), List.mem_of_getElem? (i := 1933) (by decide +kernel), List.mem_of_getElem? (i := 1934) (by decide +kernel)⟩
theorem lw_p106 : lw_okq (⟨"ProtoDeskModel", "earlier", "(II)V"⟩, 115) := ⟨⟨by decide +kernel, by decide +kernel⟩, List.mem_of_getElem? (i := 1373) (by decide +kernel), List.mem_of_getElem? (i := 1937) (by decide +kernel), List.mem_of_getElem? (i := 1938) (by decide +kernel)⟩
theorem lw_p107 : lw_okq (⟨"ProtoDeskModel", "checkNumbers", "()V"⟩, 115) := ⟨⟨by decide +kernel, by decide +kernel⟩, List.mem_of_getElem? (i := 1373) (by decide +kernel), List.mem_of_getElem? (i := 1941) (by decide +kernel), List.mem_of_getElem? (i := 1942) (by decide +kernel)⟩
theorem lw_p108 : lw_okq (⟨"ProtoDeskModel", "checkTypes", "()V"⟩, 115) := ⟨⟨by decide +kernel, by decide +kernel⟩, List.mem_of_getElem? (i := 1373) (by decide +kernel), List.mem_of_getElem? (i := 1950) (by decide +kernel), List.mem_of_getElem? (i := 1951) (by decide +kernel)⟩
theorem lw_p109 : lw_okq (⟨"ProtoDeskModel", "resolve", "(I)V"⟩, 115) := ⟨⟨by decide +kernel, by decide +kernel⟩, List.mem_of_getElem? (i := 1373) (by decide +kernel), List.mem_of_getElem? (i := 1954) (by decide +kernel), List.mem_of_getElem? (i := 1955) (by decide +kernel)⟩
theorem lw_p110 : lw_okq (⟨"ProtoDeskModel", "inScope", "(II)I"⟩, 115) := ⟨⟨by decide +kernel, by decide +kernel⟩, List.mem_of_getElem? (i := 1373) (by decide +kernel), List.mem_of_getElem? (i := 1958) (by decide +kernel), List.mem_of_getElem? (i := 1959) (by decide +kernel)⟩
theorem lw_p111 : lw_okq (⟨"ProtoDeskModel", "checkLimits", "()V"⟩, 115) := ⟨⟨by decide +kernel, by decide +kernel⟩, List.mem_of_getElem? (i := 1373) (by decide +kernel), List.mem_of_getElem? (i := 1965) (by decide +kernel), List.mem_of_getElem? (i := 1966) (by decide +kernel)⟩
def lw_privs_7 : List (MethodName × Nat) := [(⟨"ProtoDeskModel", "takeValue", "(I)V"⟩, 115), (⟨"ProtoDeskModel", "takeOneof", "(I)V"⟩, 115), (⟨"ProtoDeskModel", "takeField", "(II)V"⟩, 115), (⟨"ProtoDeskModel", "takeType", "(I)V"⟩, 115), (⟨"ProtoDeskModel", "numberType", "()I"⟩, 115), (⟨"ProtoDeskModel", "isReservedName", "()Z"⟩, 115), (⟨"ProtoDeskModel", "takeParts", "(I)V"⟩, 115), (⟨"ProtoDeskModel", "takePacked", "(I)V"⟩, 115), (⟨"ProtoDeskModel", "checkNames", "()V"⟩, 115), (⟨"ProtoDeskModel", "sameText", "(IIII)Z"⟩, 115), (⟨"ProtoDeskModel", "earlier", "(II)V"⟩, 115), (⟨"ProtoDeskModel", "checkNumbers", "()V"⟩, 115), (⟨"ProtoDeskModel", "checkTypes", "()V"⟩, 115), (⟨"ProtoDeskModel", "resolve", "(I)V"⟩, 115), (⟨"ProtoDeskModel", "inScope", "(II)I"⟩, 115), (⟨"ProtoDeskModel", "checkLimits", "()V"⟩, 115)]
theorem lw_r7 : ∀ q ∈ lw_privs_7, lw_okq q := List.forall_mem_cons.mpr ⟨lw_p96, List.forall_mem_cons.mpr ⟨lw_p97, List.forall_mem_cons.mpr ⟨lw_p98, List.forall_mem_cons.mpr ⟨lw_p99, List.forall_mem_cons.mpr ⟨lw_p100, List.forall_mem_cons.mpr ⟨lw_p101, List.forall_mem_cons.mpr ⟨lw_p102, List.forall_mem_cons.mpr ⟨lw_p103, List.forall_mem_cons.mpr ⟨lw_p104, List.forall_mem_cons.mpr ⟨lw_p105, List.forall_mem_cons.mpr ⟨lw_p106, List.forall_mem_cons.mpr ⟨lw_p107, List.forall_mem_cons.mpr ⟨lw_p108, List.forall_mem_cons.mpr ⟨lw_p109, List.forall_mem_cons.mpr ⟨lw_p110, List.forall_mem_cons.mpr ⟨lw_p111, fun _ h => absurd h List.not_mem_nil⟩⟩⟩⟩⟩⟩⟩⟩⟩⟩⟩⟩⟩⟩⟩⟩
theorem lw_p112 : lw_okq (⟨"ProtoDeskModel", "keep", "(I)V"⟩, 115) := ⟨⟨by decide +kernel, by decide +kernel⟩, List.mem_of_getElem? (i := 1373) (by decide +kernel), List.mem_of_getElem? (i := 1969) (by decide +kernel), List.mem_of_getElem? (i := 1970) (by decide +kernel)⟩
theorem lw_p113 : lw_okq (⟨"ProtoDeskModel", "keepName", "(II)I"⟩, 115) := ⟨⟨by decide +kernel, by decide +kernel⟩, List.mem_of_getElem? (i := 1373) (by decide +kernel), List.mem_of_getElem? (i := 1973) (by decide +kernel), List.mem_of_getElem? (i := 1974) (by decide +kernel)⟩
theorem lw_p114 : lw_okq (⟨"ProtoDeskModel", "isMessage", "(II)Z"⟩, 115) := ⟨⟨by decide +kernel, by decide +kernel⟩, List.mem_of_getElem? (i := 1373) (by decide +kernel), List.mem_of_getElem? (i := 1989) (by decide +kernel), List.mem_of_getElem? (i := 1990) (by decide +kernel)⟩
theorem lw_p115 : lw_okq (⟨"ProtoDeskModel", "fieldAt", "(III)I"⟩, 115) := ⟨⟨by decide +kernel, by decide +kernel⟩, List.mem_of_getElem? (i := 1373) (by decide +kernel), List.mem_of_getElem? (i := 1993) (by decide +kernel), List.mem_of_getElem? (i := 1994) (by decide +kernel)⟩
theorem lw_p116 : lw_okq (⟨"ProtoDeskModel", "named", "(III)I"⟩, 115) := ⟨⟨by decide +kernel, by decide +kernel⟩, List.mem_of_getElem? (i := 1373) (by decide +kernel), List.mem_of_getElem? (i := 2001) (by decide +kernel), List.mem_of_getElem? (i := 2002) (by decide +kernel)⟩
theorem lw_p117 : lw_okq (⟨"ProtoDeskModel", "isTape", "(III)Z"⟩, 115) := ⟨⟨by decide +kernel, by decide +kernel⟩, List.mem_of_getElem? (i := 1373) (by decide +kernel), List.mem_of_getElem? (i := 2005) (by decide +kernel), List.mem_of_getElem? (i := 2006) (by decide +kernel)⟩
theorem lw_p118 : lw_okq (⟨"ProtoDeskModel", "begins", "(III)Z"⟩, 115) := ⟨⟨by decide +kernel, by decide +kernel⟩, List.mem_of_getElem? (i := 1373) (by decide +kernel), List.mem_of_getElem? (i := 2013) (by decide +kernel), List.mem_of_getElem? (i := 2014) (by decide +kernel)⟩
theorem lw_p119 : lw_okq (⟨"ProtoDeskModel", "beginValue", "(III)V"⟩, 115) := ⟨⟨by decide +kernel, by decide +kernel⟩, List.mem_of_getElem? (i := 1373) (by decide +kernel), List.mem_of_getElem? (i := 2017) (by decide +kernel), List.mem_of_getElem? (i := 2018) (by decide +kernel)⟩
theorem lw_p120 : lw_okq (⟨"ProtoDeskModel", "addNode", "(III)I"⟩, 115) := ⟨⟨by decide +kernel, by decide +kernel⟩, List.mem_of_getElem? (i := 1373) (by decide +kernel), List.mem_of_getElem? (i := 2021) (by decide +kernel), List.mem_of_getElem? (i := 2022) (by decide +kernel)⟩
theorem lw_p121 : lw_okq (⟨"ProtoDeskModel", "takeNext", "(II)V"⟩, 115) := ⟨⟨by decide +kernel, by decide +kernel⟩, List.mem_of_getElem? (i := 1373) (by decide +kernel), List.mem_of_getElem? (i := 2025) (by decide +kernel), List.mem_of_getElem? (i := 2026) (by decide +kernel)⟩
theorem lw_p122 : lw_okq (⟨"ProtoDeskModel", "takeVarint", "(I)V"⟩, 115) := ⟨⟨by decide +kernel, by decide +kernel⟩, List.mem_of_getElem? (i := 1373) (by decide +kernel), List.mem_of_getElem? (i := 2029) (by decide +kernel), List.mem_of_getElem? (i := 2030) (by decide +kernel)⟩
theorem lw_p123 : lw_okq (⟨"ProtoDeskModel", "fieldNumbered", "(II)I"⟩, 115) := ⟨⟨by decide +kernel, by decide +kernel⟩, List.mem_of_getElem? (i := 1373) (by decide +kernel), List.mem_of_getElem? (i := 2035) (by decide +kernel), List.mem_of_getElem? (i := 2036) (by decide +kernel)⟩
theorem lw_p124 : lw_okq (⟨"ProtoDeskModel", "takeLength", "(III)V"⟩, 115) := ⟨⟨by decide +kernel, by decide +kernel⟩, List.mem_of_getElem? (i := 1373) (by decide +kernel), List.mem_of_getElem? (i := 2042) (by decide +kernel), List.mem_of_getElem? (i := 2043) (by decide +kernel)⟩
theorem lw_p125 : lw_okq (⟨"ProtoDeskModel", "putMessage", "(II)I"⟩, 115) := ⟨⟨by decide +kernel, by decide +kernel⟩, List.mem_of_getElem? (i := 1373) (by decide +kernel), List.mem_of_getElem? (i := 2046) (by decide +kernel), List.mem_of_getElem? (i := 2047) (by decide +kernel)⟩
theorem lw_p126 : lw_okq (⟨"ProtoDeskModel", "rowFor", "(II)I"⟩, 115) := ⟨⟨by decide +kernel, by decide +kernel⟩, List.mem_of_getElem? (i := 1373) (by decide +kernel), List.mem_of_getElem? (i := 2050) (by decide +kernel), List.mem_of_getElem? (i := 2051) (by decide +kernel)⟩
theorem lw_p127 : lw_okq (⟨"ProtoDeskModel", "addRow", "(II)I"⟩, 115) := ⟨⟨by decide +kernel, by decide +kernel⟩, List.mem_of_getElem? (i := 1373) (by decide +kernel), List.mem_of_getElem? (i := 2054) (by decide +kernel), List.mem_of_getElem? (i := 2055) (by decide +kernel)⟩
def lw_privs_8 : List (MethodName × Nat) := [(⟨"ProtoDeskModel", "keep", "(I)V"⟩, 115), (⟨"ProtoDeskModel", "keepName", "(II)I"⟩, 115), (⟨"ProtoDeskModel", "isMessage", "(II)Z"⟩, 115), (⟨"ProtoDeskModel", "fieldAt", "(III)I"⟩, 115), (⟨"ProtoDeskModel", "named", "(III)I"⟩, 115), (⟨"ProtoDeskModel", "isTape", "(III)Z"⟩, 115), (⟨"ProtoDeskModel", "begins", "(III)Z"⟩, 115), (⟨"ProtoDeskModel", "beginValue", "(III)V"⟩, 115), (⟨"ProtoDeskModel", "addNode", "(III)I"⟩, 115), (⟨"ProtoDeskModel", "takeNext", "(II)V"⟩, 115), (⟨"ProtoDeskModel", "takeVarint", "(I)V"⟩, 115), (⟨"ProtoDeskModel", "fieldNumbered", "(II)I"⟩, 115), (⟨"ProtoDeskModel", "takeLength", "(III)V"⟩, 115), (⟨"ProtoDeskModel", "putMessage", "(II)I"⟩, 115), (⟨"ProtoDeskModel", "rowFor", "(II)I"⟩, 115), (⟨"ProtoDeskModel", "addRow", "(II)I"⟩, 115)]
theorem lw_r8 : ∀ q ∈ lw_privs_8, lw_okq q := List.forall_mem_cons.mpr ⟨lw_p112, List.forall_mem_cons.mpr ⟨lw_p113, List.forall_mem_cons.mpr ⟨lw_p114, List.forall_mem_cons.mpr ⟨lw_p115, List.forall_mem_cons.mpr ⟨lw_p116, List.forall_mem_cons.mpr ⟨lw_p117, List.forall_mem_cons.mpr ⟨lw_p118, List.forall_mem_cons.mpr ⟨lw_p119, List.forall_mem_cons.mpr ⟨lw_p120, List.forall_mem_cons.mpr ⟨lw_p121, List.forall_mem_cons.mpr ⟨lw_p122, List.forall_mem_cons.mpr ⟨lw_p123, List.forall_mem_cons.mpr ⟨lw_p124, List.forall_mem_cons.mpr ⟨lw_p125, List.forall_mem_cons.mpr ⟨lw_p126, List.forall_mem_cons.mpr ⟨lw_p127, fun _ h => absurd h List.not_mem_nil⟩⟩⟩⟩⟩⟩⟩⟩⟩⟩⟩⟩⟩⟩⟩⟩
theorem lw_p128 : lw_okq (⟨"ProtoDeskModel", "rowOf", "(II)I"⟩, 115) := ⟨⟨by decide +kernel, by decide +kernel⟩, List.mem_of_getElem? (i := 1373) (by decide +kernel), List.mem_of_getElem? (i := 2058) (by decide +kernel), List.mem_of_getElem? (i := 2059) (by decide +kernel)⟩
theorem lw_p129 : lw_okq (⟨"ProtoDeskModel", "putText", "(III)V"⟩, 115) := ⟨⟨by decide +kernel, by decide +kernel⟩, List.mem_of_getElem? (i := 1373) (by decide +kernel), List.mem_of_getElem? (i := 2062) (by decide +kernel), List.mem_of_getElem? (i := 2063) (by decide +kernel)⟩
theorem lw_p130 : lw_okq (⟨"ProtoDeskModel", "isUtf8", "(II)Z"⟩, 115) := ⟨⟨by decide +kernel, by decide +kernel⟩, List.mem_of_getElem? (i := 1373) (by decide +kernel), List.mem_of_getElem? (i := 2066) (by decide +kernel), List.mem_of_getElem? (i := 2067) (by decide +kernel)⟩
theorem lw_p131 : lw_okq (⟨"ProtoDeskModel", "takeOne", "(II)V"⟩, 115) := ⟨⟨by decide +kernel, by decide +kernel⟩, List.mem_of_getElem? (i := 1373) (by decide +kernel), List.mem_of_getElem? (i := 2074) (by decide +kernel), List.mem_of_getElem? (i := 2075) (by decide +kernel)⟩
theorem lw_p132 : lw_okq (⟨"ProtoDeskModel", "takeFixed", "(II)V"⟩, 115) := ⟨⟨by decide +kernel, by decide +kernel⟩, List.mem_of_getElem? (i := 1373) (by decide +kernel), List.mem_of_getElem? (i := 2078) (by decide +kernel), List.mem_of_getElem? (i := 2079) (by decide +kernel)⟩
theorem lw_p133 : lw_okq (⟨"ProtoDeskModel", "putNumber", "(IIJ)V"⟩, 115) := ⟨⟨by decide +kernel, by decide +kernel⟩, List.mem_of_getElem? (i := 1373) (by decide +kernel), List.mem_of_getElem? (i := 2085) (by decide +kernel), List.mem_of_getElem? (i := 2086) (by decide +kernel)⟩
theorem lw_p134 : lw_okq (⟨"ProtoDeskModel", "skip", "(II)V"⟩, 115) := ⟨⟨by decide +kernel, by decide +kernel⟩, List.mem_of_getElem? (i := 1373) (by decide +kernel), List.mem_of_getElem? (i := 2089) (by decide +kernel), List.mem_of_getElem? (i := 2090) (by decide +kernel)⟩
theorem lw_p135 : lw_okq (⟨"ProtoDeskModel", "addUnknown", "(III)V"⟩, 115) := ⟨⟨by decide +kernel, by decide +kernel⟩, List.mem_of_getElem? (i := 1373) (by decide +kernel), List.mem_of_getElem? (i := 2093) (by decide +kernel), List.mem_of_getElem? (i := 2094) (by decide +kernel)⟩
theorem lw_p136 : lw_okq (⟨"ProtoDeskModel", "finish", "()I"⟩, 115) := ⟨⟨by decide +kernel, by decide +kernel⟩, List.mem_of_getElem? (i := 1373) (by decide +kernel), List.mem_of_getElem? (i := 2097) (by decide +kernel), List.mem_of_getElem? (i := 2098) (by decide +kernel)⟩
theorem lw_p137 : lw_okq (⟨"ProtoDeskModel", "liveValues", "()I"⟩, 115) := ⟨⟨by decide +kernel, by decide +kernel⟩, List.mem_of_getElem? (i := 1373) (by decide +kernel), List.mem_of_getElem? (i := 2101) (by decide +kernel), List.mem_of_getElem? (i := 2102) (by decide +kernel)⟩
theorem lw_p138 : lw_okq (⟨"ProtoDeskModel", "liveBytes", "()I"⟩, 115) := ⟨⟨by decide +kernel, by decide +kernel⟩, List.mem_of_getElem? (i := 1373) (by decide +kernel), List.mem_of_getElem? (i := 2105) (by decide +kernel), List.mem_of_getElem? (i := 2106) (by decide +kernel)⟩
theorem lw_p139 : lw_okq (⟨"ProtoDeskModel", "emptyOut", "()V"⟩, 115) := ⟨⟨by decide +kernel, by decide +kernel⟩, List.mem_of_getElem? (i := 1373) (by decide +kernel), List.mem_of_getElem? (i := 2113) (by decide +kernel), List.mem_of_getElem? (i := 2114) (by decide +kernel)⟩
theorem lw_p140 : lw_okq (⟨"ProtoDeskModel", "measure", "()V"⟩, 115) := ⟨⟨by decide +kernel, by decide +kernel⟩, List.mem_of_getElem? (i := 1373) (by decide +kernel), List.mem_of_getElem? (i := 2117) (by decide +kernel), List.mem_of_getElem? (i := 2118) (by decide +kernel)⟩
theorem lw_p141 : lw_okq (⟨"ProtoDeskModel", "rowBytes", "(I)I"⟩, 115) := ⟨⟨by decide +kernel, by decide +kernel⟩, List.mem_of_getElem? (i := 1373) (by decide +kernel), List.mem_of_getElem? (i := 2121) (by decide +kernel), List.mem_of_getElem? (i := 2122) (by decide +kernel)⟩
theorem lw_p142 : lw_okq (⟨"ProtoDeskModel", "tagOf", "(II)J"⟩, 115) := ⟨⟨by decide +kernel, by decide +kernel⟩, List.mem_of_getElem? (i := 1373) (by decide +kernel), List.mem_of_getElem? (i := 2125) (by decide +kernel), List.mem_of_getElem? (i := 2126) (by decide +kernel)⟩
theorem lw_p143 : lw_okq (⟨"ProtoDeskModel", "packedBytes", "(II)I"⟩, 115) := ⟨⟨by decide +kernel, by decide +kernel⟩, List.mem_of_getElem? (i := 1373) (by decide +kernel), List.mem_of_getElem? (i := 2138) (by decide +kernel), List.mem_of_getElem? (i := 2139) (by decide +kernel)⟩
def lw_privs_9 : List (MethodName × Nat) := [(⟨"ProtoDeskModel", "rowOf", "(II)I"⟩, 115), (⟨"ProtoDeskModel", "putText", "(III)V"⟩, 115), (⟨"ProtoDeskModel", "isUtf8", "(II)Z"⟩, 115), (⟨"ProtoDeskModel", "takeOne", "(II)V"⟩, 115), (⟨"ProtoDeskModel", "takeFixed", "(II)V"⟩, 115), (⟨"ProtoDeskModel", "putNumber", "(IIJ)V"⟩, 115), (⟨"ProtoDeskModel", "skip", "(II)V"⟩, 115), (⟨"ProtoDeskModel", "addUnknown", "(III)V"⟩, 115), (⟨"ProtoDeskModel", "finish", "()I"⟩, 115), (⟨"ProtoDeskModel", "liveValues", "()I"⟩, 115), (⟨"ProtoDeskModel", "liveBytes", "()I"⟩, 115), (⟨"ProtoDeskModel", "emptyOut", "()V"⟩, 115), (⟨"ProtoDeskModel", "measure", "()V"⟩, 115), (⟨"ProtoDeskModel", "rowBytes", "(I)I"⟩, 115), (⟨"ProtoDeskModel", "tagOf", "(II)J"⟩, 115), (⟨"ProtoDeskModel", "packedBytes", "(II)I"⟩, 115)]
theorem lw_r9 : ∀ q ∈ lw_privs_9, lw_okq q := List.forall_mem_cons.mpr ⟨lw_p128, List.forall_mem_cons.mpr ⟨lw_p129, List.forall_mem_cons.mpr ⟨lw_p130, List.forall_mem_cons.mpr ⟨lw_p131, List.forall_mem_cons.mpr ⟨lw_p132, List.forall_mem_cons.mpr ⟨lw_p133, List.forall_mem_cons.mpr ⟨lw_p134, List.forall_mem_cons.mpr ⟨lw_p135, List.forall_mem_cons.mpr ⟨lw_p136, List.forall_mem_cons.mpr ⟨lw_p137, List.forall_mem_cons.mpr ⟨lw_p138, List.forall_mem_cons.mpr ⟨lw_p139, List.forall_mem_cons.mpr ⟨lw_p140, List.forall_mem_cons.mpr ⟨lw_p141, List.forall_mem_cons.mpr ⟨lw_p142, List.forall_mem_cons.mpr ⟨lw_p143, fun _ h => absurd h List.not_mem_nil⟩⟩⟩⟩⟩⟩⟩⟩⟩⟩⟩⟩⟩⟩⟩⟩
theorem lw_p144 : lw_okq (⟨"ProtoDeskModel", "goInto", "(I)V"⟩, 115) := ⟨⟨by decide +kernel, by decide +kernel⟩, List.mem_of_getElem? (i := 1373) (by decide +kernel), List.mem_of_getElem? (i := 2142) (by decide +kernel), List.mem_of_getElem? (i := 2143) (by decide +kernel)⟩
theorem lw_p145 : lw_okq (⟨"ProtoDeskModel", "encodeStep", "()V"⟩, 115) := ⟨⟨by decide +kernel, by decide +kernel⟩, List.mem_of_getElem? (i := 1373) (by decide +kernel), List.mem_of_getElem? (i := 2146) (by decide +kernel), List.mem_of_getElem? (i := 2147) (by decide +kernel)⟩
theorem lw_p146 : lw_okq (⟨"ProtoDeskModel", "putUnknown", "(I)V"⟩, 115) := ⟨⟨by decide +kernel, by decide +kernel⟩, List.mem_of_getElem? (i := 1373) (by decide +kernel), List.mem_of_getElem? (i := 2150) (by decide +kernel), List.mem_of_getElem? (i := 2151) (by decide +kernel)⟩
theorem lw_p147 : lw_okq (⟨"ProtoDeskModel", "put", "(I)V"⟩, 115) := ⟨⟨by decide +kernel, by decide +kernel⟩, List.mem_of_getElem? (i := 1373) (by decide +kernel), List.mem_of_getElem? (i := 2154) (by decide +kernel), List.mem_of_getElem? (i := 2155) (by decide +kernel)⟩
theorem lw_p148 : lw_okq (⟨"ProtoDeskModel", "nextRow", "(III)I"⟩, 115) := ⟨⟨by decide +kernel, by decide +kernel⟩, List.mem_of_getElem? (i := 1373) (by decide +kernel), List.mem_of_getElem? (i := 2158) (by decide +kernel), List.mem_of_getElem? (i := 2159) (by decide +kernel)⟩
theorem lw_p149 : lw_okq (⟨"ProtoDeskModel", "putPacked", "(II)V"⟩, 115) := ⟨⟨by decide +kernel, by decide +kernel⟩, List.mem_of_getElem? (i := 1373) (by decide +kernel), List.mem_of_getElem? (i := 2162) (by decide +kernel), List.mem_of_getElem? (i := 2163) (by decide +kernel)⟩
theorem lw_p150 : lw_okq (⟨"ProtoDeskModel", "putVarint", "(J)V"⟩, 115) := ⟨⟨by decide +kernel, by decide +kernel⟩, List.mem_of_getElem? (i := 1373) (by decide +kernel), List.mem_of_getElem? (i := 2166) (by decide +kernel), List.mem_of_getElem? (i := 2167) (by decide +kernel)⟩
theorem lw_p151 : lw_okq (⟨"ProtoDeskModel", "putOne", "(IJ)V"⟩, 115) := ⟨⟨by decide +kernel, by decide +kernel⟩, List.mem_of_getElem? (i := 1373) (by decide +kernel), List.mem_of_getElem? (i := 2172) (by decide +kernel), List.mem_of_getElem? (i := 2173) (by decide +kernel)⟩
theorem lw_p152 : lw_okq (⟨"ProtoDeskModel", "printStep", "()V"⟩, 115) := ⟨⟨by decide +kernel, by decide +kernel⟩, List.mem_of_getElem? (i := 1373) (by decide +kernel), List.mem_of_getElem? (i := 2180) (by decide +kernel), List.mem_of_getElem? (i := 2181) (by decide +kernel)⟩
theorem lw_p153 : lw_okq (⟨"ProtoDeskModel", "blanks", "(I)V"⟩, 115) := ⟨⟨by decide +kernel, by decide +kernel⟩, List.mem_of_getElem? (i := 1373) (by decide +kernel), List.mem_of_getElem? (i := 2184) (by decide +kernel), List.mem_of_getElem? (i := 2185) (by decide +kernel)⟩
theorem lw_p154 : lw_okq (⟨"ProtoDeskModel", "putName", "(II)V"⟩, 115) := ⟨⟨by decide +kernel, by decide +kernel⟩, List.mem_of_getElem? (i := 1373) (by decide +kernel), List.mem_of_getElem? (i := 2188) (by decide +kernel), List.mem_of_getElem? (i := 2189) (by decide +kernel)⟩
theorem lw_p155 : lw_okq (⟨"ProtoDeskModel", "putWord", "(J)V"⟩, 115) := ⟨⟨by decide +kernel, by decide +kernel⟩, List.mem_of_getElem? (i := 1373) (by decide +kernel), List.mem_of_getElem? (i := 2193) (by decide +kernel), List.mem_of_getElem? (i := 2194) (by decide +kernel)⟩
theorem lw_p156 : lw_okq (⟨"ProtoDeskModel", "putPlain", "(I)V"⟩, 115) := ⟨⟨by decide +kernel, by decide +kernel⟩, List.mem_of_getElem? (i := 1373) (by decide +kernel), List.mem_of_getElem? (i := 2198) (by decide +kernel), List.mem_of_getElem? (i := 2199) (by decide +kernel)⟩
theorem lw_p157 : lw_okq (⟨"ProtoDeskModel", "valueNumbered", "(IJ)I"⟩, 115) := ⟨⟨by decide +kernel, by decide +kernel⟩, List.mem_of_getElem? (i := 1373) (by decide +kernel), List.mem_of_getElem? (i := 2202) (by decide +kernel), List.mem_of_getElem? (i := 2203) (by decide +kernel)⟩
theorem lw_p158 : lw_okq (⟨"ProtoDeskModel", "putText", "(II)V"⟩, 115) := ⟨⟨by decide +kernel, by decide +kernel⟩, List.mem_of_getElem? (i := 1373) (by decide +kernel), List.mem_of_getElem? (i := 2206) (by decide +kernel), List.mem_of_getElem? (i := 2207) (by decide +kernel)⟩
theorem lw_p159 : lw_okq (⟨"ProtoDeskModel", "putDecimal", "(J)V"⟩, 115) := ⟨⟨by decide +kernel, by decide +kernel⟩, List.mem_of_getElem? (i := 1373) (by decide +kernel), List.mem_of_getElem? (i := 2210) (by decide +kernel), List.mem_of_getElem? (i := 2211) (by decide +kernel)⟩
def lw_privs_10 : List (MethodName × Nat) := [(⟨"ProtoDeskModel", "goInto", "(I)V"⟩, 115), (⟨"ProtoDeskModel", "encodeStep", "()V"⟩, 115), (⟨"ProtoDeskModel", "putUnknown", "(I)V"⟩, 115), (⟨"ProtoDeskModel", "put", "(I)V"⟩, 115), (⟨"ProtoDeskModel", "nextRow", "(III)I"⟩, 115), (⟨"ProtoDeskModel", "putPacked", "(II)V"⟩, 115), (⟨"ProtoDeskModel", "putVarint", "(J)V"⟩, 115), (⟨"ProtoDeskModel", "putOne", "(IJ)V"⟩, 115), (⟨"ProtoDeskModel", "printStep", "()V"⟩, 115), (⟨"ProtoDeskModel", "blanks", "(I)V"⟩, 115), (⟨"ProtoDeskModel", "putName", "(II)V"⟩, 115), (⟨"ProtoDeskModel", "putWord", "(J)V"⟩, 115), (⟨"ProtoDeskModel", "putPlain", "(I)V"⟩, 115), (⟨"ProtoDeskModel", "valueNumbered", "(IJ)I"⟩, 115), (⟨"ProtoDeskModel", "putText", "(II)V"⟩, 115), (⟨"ProtoDeskModel", "putDecimal", "(J)V"⟩, 115)]
theorem lw_r10 : ∀ q ∈ lw_privs_10, lw_okq q := List.forall_mem_cons.mpr ⟨lw_p144, List.forall_mem_cons.mpr ⟨lw_p145, List.forall_mem_cons.mpr ⟨lw_p146, List.forall_mem_cons.mpr ⟨lw_p147, List.forall_mem_cons.mpr ⟨lw_p148, List.forall_mem_cons.mpr ⟨lw_p149, List.forall_mem_cons.mpr ⟨lw_p150, List.forall_mem_cons.mpr ⟨lw_p151, List.forall_mem_cons.mpr ⟨lw_p152, List.forall_mem_cons.mpr ⟨lw_p153, List.forall_mem_cons.mpr ⟨lw_p154, List.forall_mem_cons.mpr ⟨lw_p155, List.forall_mem_cons.mpr ⟨lw_p156, List.forall_mem_cons.mpr ⟨lw_p157, List.forall_mem_cons.mpr ⟨lw_p158, List.forall_mem_cons.mpr ⟨lw_p159, fun _ h => absurd h List.not_mem_nil⟩⟩⟩⟩⟩⟩⟩⟩⟩⟩⟩⟩⟩⟩⟩⟩
theorem lw_p160 : lw_okq (⟨"ProtoDeskModel", "putSigned", "(J)V"⟩, 115) := ⟨⟨by decide +kernel, by decide +kernel⟩, List.mem_of_getElem? (i := 1373) (by decide +kernel), List.mem_of_getElem? (i := 2216) (by decide +kernel), List.mem_of_getElem? (i := 2217) (by decide +kernel)⟩
theorem lw_p161 : lw_okq (⟨"ProtoDeskModel", "parseNext", "()V"⟩, 115) := ⟨⟨by decide +kernel, by decide +kernel⟩, List.mem_of_getElem? (i := 1373) (by decide +kernel), List.mem_of_getElem? (i := 2224) (by decide +kernel), List.mem_of_getElem? (i := 2225) (by decide +kernel)⟩
theorem lw_p162 : lw_okq (⟨"ProtoDeskModel", "textBlanks", "(I)I"⟩, 115) := ⟨⟨by decide +kernel, by decide +kernel⟩, List.mem_of_getElem? (i := 1373) (by decide +kernel), List.mem_of_getElem? (i := 2228) (by decide +kernel), List.mem_of_getElem? (i := 2229) (by decide +kernel)⟩
theorem lw_p163 : lw_okq (⟨"ProtoDeskModel", "nameEnd", "(I)I"⟩, 115) := ⟨⟨by decide +kernel, by decide +kernel⟩, List.mem_of_getElem? (i := 1373) (by decide +kernel), List.mem_of_getElem? (i := 2232) (by decide +kernel), List.mem_of_getElem? (i := 2233) (by decide +kernel)⟩
theorem lw_p164 : lw_okq (⟨"ProtoDeskModel", "fieldNamed", "(III)I"⟩, 115) := ⟨⟨by decide +kernel, by decide +kernel⟩, List.mem_of_getElem? (i := 1373) (by decide +kernel), List.mem_of_getElem? (i := 2236) (by decide +kernel), List.mem_of_getElem? (i := 2237) (by decide +kernel)⟩
theorem lw_p165 : lw_okq (⟨"ProtoDeskModel", "isNamed", "(IIII)Z"⟩, 115) := ⟨⟨by decide +kernel, by decide +kernel⟩, List.mem_of_getElem? (i := 1373) (by decide +kernel), List.mem_of_getElem? (i := 2240) (by decide +kernel), List.mem_of_getElem? (i := 2241) (by decide +kernel)⟩
theorem lw_p166 : lw_okq (⟨"ProtoDeskModel", "toldBefore", "(II)Z"⟩, 115) := ⟨⟨by decide +kernel, by decide +kernel⟩, List.mem_of_getElem? (i := 1373) (by decide +kernel), List.mem_of_getElem? (i := 2244) (by decide +kernel), List.mem_of_getElem? (i := 2245) (by decide +kernel)⟩
theorem lw_p167 : lw_okq (⟨"ProtoDeskModel", "parsePlain", "(II)V"⟩, 115) := ⟨⟨by decide +kernel, by decide +kernel⟩, List.mem_of_getElem? (i := 1373) (by decide +kernel), List.mem_of_getElem? (i := 2248) (by decide +kernel), List.mem_of_getElem? (i := 2249) (by decide +kernel)⟩
theorem lw_p168 : lw_okq (⟨"ProtoDeskModel", "parseText", "(II)V"⟩, 115) := ⟨⟨by decide +kernel, by decide +kernel⟩, List.mem_of_getElem? (i := 1373) (by decide +kernel), List.mem_of_getElem? (i := 2252) (by decide +kernel), List.mem_of_getElem? (i := 2253) (by decide +kernel)⟩
theorem lw_p169 : lw_okq (⟨"ProtoDeskModel", "parseEscape", "()V"⟩, 115) := ⟨⟨by decide +kernel, by decide +kernel⟩, List.mem_of_getElem? (i := 1373) (by decide +kernel), List.mem_of_getElem? (i := 2256) (by decide +kernel), List.mem_of_getElem? (i := 2257) (by decide +kernel)⟩
theorem lw_p170 : lw_okq (⟨"ProtoDeskModel", "isEight", "(I)Z"⟩, 115) := ⟨⟨by decide +kernel, by decide +kernel⟩, List.mem_of_getElem? (i := 1373) (by decide +kernel), List.mem_of_getElem? (i := 2260) (by decide +kernel), List.mem_of_getElem? (i := 2261) (by decide +kernel)⟩
theorem lw_p171 : lw_okq (⟨"ProtoDeskModel", "parseName", "(II)V"⟩, 115) := ⟨⟨by decide +kernel, by decide +kernel⟩, List.mem_of_getElem? (i := 1373) (by decide +kernel), List.mem_of_getElem? (i := 2264) (by decide +kernel), List.mem_of_getElem? (i := 2265) (by decide +kernel)⟩
theorem lw_p172 : lw_okq (⟨"ProtoDeskModel", "parseNumber", "(II)V"⟩, 115) := ⟨⟨by decide +kernel, by decide +kernel⟩, List.mem_of_getElem? (i := 1373) (by decide +kernel), List.mem_of_getElem? (i := 2269) (by decide +kernel), List.mem_of_getElem? (i := 2270) (by decide +kernel)⟩
theorem lw_p173 : lw_okq (⟨"ProtoDeskModel", "open", "(II)V"⟩, 115) := ⟨⟨by decide +kernel, by decide +kernel⟩, List.mem_of_getElem? (i := 1373) (by decide +kernel), List.mem_of_getElem? (i := 2289) (by decide +kernel), List.mem_of_getElem? (i := 2290) (by decide +kernel)⟩
theorem lw_p174 : lw_okq (⟨"ProtoDeskModel", "checkStep", "()I"⟩, 115) := ⟨⟨by decide +kernel, by decide +kernel⟩, List.mem_of_getElem? (i := 1373) (by decide +kernel), List.mem_of_getElem? (i := 2293) (by decide +kernel), List.mem_of_getElem? (i := 2294) (by decide +kernel)⟩
theorem lw_p175 : lw_okq (⟨"ProtoDeskModel", "freshNumbered", "(II)I"⟩, 115) := ⟨⟨by decide +kernel, by decide +kernel⟩, List.mem_of_getElem? (i := 1373) (by decide +kernel), List.mem_of_getElem? (i := 2297) (by decide +kernel), List.mem_of_getElem? (i := 2298) (by decide +kernel)⟩
def lw_privs_11 : List (MethodName × Nat) := [(⟨"ProtoDeskModel", "putSigned", "(J)V"⟩, 115), (⟨"ProtoDeskModel", "parseNext", "()V"⟩, 115), (⟨"ProtoDeskModel", "textBlanks", "(I)I"⟩, 115), (⟨"ProtoDeskModel", "nameEnd", "(I)I"⟩, 115), (⟨"ProtoDeskModel", "fieldNamed", "(III)I"⟩, 115), (⟨"ProtoDeskModel", "isNamed", "(IIII)Z"⟩, 115), (⟨"ProtoDeskModel", "toldBefore", "(II)Z"⟩, 115), (⟨"ProtoDeskModel", "parsePlain", "(II)V"⟩, 115), (⟨"ProtoDeskModel", "parseText", "(II)V"⟩, 115), (⟨"ProtoDeskModel", "parseEscape", "()V"⟩, 115), (⟨"ProtoDeskModel", "isEight", "(I)Z"⟩, 115), (⟨"ProtoDeskModel", "parseName", "(II)V"⟩, 115), (⟨"ProtoDeskModel", "parseNumber", "(II)V"⟩, 115), (⟨"ProtoDeskModel", "open", "(II)V"⟩, 115), (⟨"ProtoDeskModel", "checkStep", "()I"⟩, 115), (⟨"ProtoDeskModel", "freshNumbered", "(II)I"⟩, 115)]
theorem lw_r11 : ∀ q ∈ lw_privs_11, lw_okq q := List.forall_mem_cons.mpr ⟨lw_p160, List.forall_mem_cons.mpr ⟨lw_p161, List.forall_mem_cons.mpr ⟨lw_p162, List.forall_mem_cons.mpr ⟨lw_p163, List.forall_mem_cons.mpr ⟨lw_p164, List.forall_mem_cons.mpr ⟨lw_p165, List.forall_mem_cons.mpr ⟨lw_p166, List.forall_mem_cons.mpr ⟨lw_p167, List.forall_mem_cons.mpr ⟨lw_p168, List.forall_mem_cons.mpr ⟨lw_p169, List.forall_mem_cons.mpr ⟨lw_p170, List.forall_mem_cons.mpr ⟨lw_p171, List.forall_mem_cons.mpr ⟨lw_p172, List.forall_mem_cons.mpr ⟨lw_p173, List.forall_mem_cons.mpr ⟨lw_p174, List.forall_mem_cons.mpr ⟨lw_p175, fun _ h => absurd h List.not_mem_nil⟩⟩⟩⟩⟩⟩⟩⟩⟩⟩⟩⟩⟩⟩⟩⟩
theorem lw_p176 : lw_okq (⟨"ProtoDeskModel", "joined", "(IIII)Z"⟩, 115) := ⟨⟨by decide +kernel, by decide +kernel⟩, List.mem_of_getElem? (i := 1373) (by decide +kernel), List.mem_of_getElem? (i := 2301) (by decide +kernel), List.mem_of_getElem? (i := 2302) (by decide +kernel)⟩
def lw_privs_12 : List (MethodName × Nat) := [(⟨"ProtoDeskModel", "joined", "(IIII)Z"⟩, 115)]
theorem lw_r12 : ∀ q ∈ lw_privs_12, lw_okq q := List.forall_mem_cons.mpr ⟨lw_p176, fun _ h => absurd h List.not_mem_nil⟩
def lw_privs : List (MethodName × Nat) := lw_privs_1 ++ (lw_privs_2 ++ (lw_privs_3 ++ (lw_privs_4 ++ (lw_privs_5 ++ (lw_privs_6 ++ (lw_privs_7 ++ (lw_privs_8 ++ (lw_privs_9 ++ (lw_privs_10 ++ (lw_privs_11 ++ (lw_privs_12)))))))))))
def lw_tbl : List Cond := k2_sels lw_privs ++ tables_1
theorem lw_privs_ok : ∀ q ∈ lw_privs, lw_okq q := by
  show ∀ q ∈ lw_privs_1 ++ (lw_privs_2 ++ (lw_privs_3 ++ (lw_privs_4 ++ (lw_privs_5 ++ (lw_privs_6 ++ (lw_privs_7 ++ (lw_privs_8 ++ (lw_privs_9 ++ (lw_privs_10 ++ (lw_privs_11 ++ (lw_privs_12))))))))))), lw_okq q
  exact List.forall_mem_append.mpr ⟨lw_r1, List.forall_mem_append.mpr ⟨lw_r2, List.forall_mem_append.mpr ⟨lw_r3, List.forall_mem_append.mpr ⟨lw_r4, List.forall_mem_append.mpr ⟨lw_r5, List.forall_mem_append.mpr ⟨lw_r6, List.forall_mem_append.mpr ⟨lw_r7, List.forall_mem_append.mpr ⟨lw_r8, List.forall_mem_append.mpr ⟨lw_r9, List.forall_mem_append.mpr ⟨lw_r10, List.forall_mem_append.mpr ⟨lw_r11, lw_r12⟩⟩⟩⟩⟩⟩⟩⟩⟩⟩⟩
end
section
/-! ===== BEGIN words of one list among another's, by their places ===== -/
theorem goodIn_r {big : List Cond} (ws : List Cond) (ps : List Nat) (hp : ws = ps.filterMap (fun i => big[i]?)) (h : ws.all goodWord = true) : GoodIn big ws := by
  intro w hw
  have h1 := List.all_eq_true.mp h w hw
  rw [hp] at hw
  obtain ⟨i, -, hi⟩ := List.mem_filterMap.mp hw
  have hm : w ∈ big := by first | exact List.mem_of_getElem? hi | exact List.getElem?_mem hi
  exact ⟨hm, good_of_word h1⟩
theorem goodIn_app {big a b : List Cond} (ha : GoodIn big a) (hb : GoodIn big b) : GoodIn big (a ++ b) := fun w h => (List.mem_append.mp h).elim (ha w) (hb w)
theorem goodIn_ca {big a b : List Cond} {c : Cond} (ha : GoodIn big (c :: a)) (hb : GoodIn big b) : GoodIn big (c :: (a ++ b)) := fun w h => (List.mem_cons.mp h).elim (fun e => ha w (List.mem_cons.mpr (Or.inl e))) (fun h => (List.mem_append.mp h).elim (fun h => ha w (List.mem_cons.mpr (Or.inr h))) (hb w))
theorem goodIn_sub {big ws : List Cond} (hm : ∀ w ∈ ws, w ∈ big) (h : ws.all goodWord = true) : GoodIn big ws := fun w hw => ⟨hm w hw, good_of_word (List.all_eq_true.mp h w hw)⟩
/-! ===== END ===== -/

/-! ===== BEGIN exceptions that leave a method, and their catching by the caller (launches without stack traces) ===== -/
section VXA
/-! The laws vx_back, vx_callV, vx_callS, vx_callSW, vx_throw0, vx_throwS follow proofs of the library, with one case more: JvmDerived/Free/Laws.lean (Back.of_free), Shelf42/LK1.lean (callV, callS), Shelf/KitTraced.lean (throwNew0V, throwNewS). -/
/-- where a method has thrown q: the class by its name, the cell, what was written, the world -/
def vx_T (XC : String → State → State → Prop) (st : State) (q : Addr) (t : State) (mc ms : Nat) (free : Addr → Prop) : Prop :=
  ∃ (E : String) (ce : Cell) (L : List Loc), XC E st t ∧ t.heap[q]? = some ce ∧ ce.vm = .none ∧ st.vm.findClass E = some ce.cls ∧ st.WarmedH t.vm ∧ st.sameButNew ({ t with vm := st.vm } : State) L mc ms ∧ ∀ z ∈ L, free z.base
def vx_Q (Qc : Array Value → State → Outcome → State → Prop) (XC : String → State → State → Prop) (mc ms : Nat) (free : Addr → Prop) : Array Value → State → Outcome → State → Prop := fun a st o t =>
  (Qc a st o t ∧ ∃ L, FrameEnd st o t L mc ms ∧ ∀ q ∈ L, free q.base) ∨ ∃ q, o = .threw q ∧ vx_T XC st q t mc ms free
/-- a callee that returns or throws -/
def vx_Met (l : Launch) (y : MethodName) (ws : List Cond) (rm : Room) (Pc : Array Value → State → Prop) (Qc : Array Value → State → Outcome → State → Prop) (XC : String → State → State → Prop) (mc ms : Nat) (free : Addr → Prop) : Prop :=
  MetFree l y (headSpec ws rm) Pc (fun _ _ _ _ _ => True) (vx_Q Qc XC mc ms free)
def vx_Post (XC : String → State → State → Prop) (mc ms : Nat) (free : Addr → Prop) : Pt → Array Value → Addr → Pt → Prop := fun A a q B =>
  ∃ (g : JFrame) (mk : MethodId) (t : State) (L : List Loc) (E : String) (ce : Cell), B.U.heap = t.heap ∧ B.U.vm = t.vm ∧ XC E (A.U.calling g mk a) t ∧ t.heap[q]? = some ce ∧ ce.vm = .none ∧ A.U.vm.findClass E = some ce.cls ∧ B.locs = A.locs ++ L ∧ (∀ z ∈ L, free z.base) ∧ B.cells = A.cells + mc ∧ B.slots = A.slots + ms
def vx_Back (l : Launch) (R : Room) (p : Program) (e : Env) (below : List Frame) (s : State) (sargs : Array Value) (y : MethodName) (len W9 : Nat)
    (Pre : Pt → Array Value → Prop) (Post : Pt → Array Value → Option Value → Pt → Prop) (PostX : Pt → Array Value → Addr → Pt → Prop) : Prop :=
  ∀ (m : MethodId) (meth : Method) (c : Code) (A : Pt) (g : JFrame) (ig : Instr) (mk : MethodId) (a : Array Value),
    Stand p l e R s m sargs below meth c A.U A.locs A.cells A.slots → g.method = m → g.locals.size = c.maxLocals → decode c.code g.pc = .ok (ig, len) →
    2 * g.monitorRoom + (g.stack.map fun v => v.category).sum ≤ W9 → A.U.methodNamed? y = some mk → Pre A a →
    (∃ (v : Option Value) (B : Pt), Stand p l e R s m sargs below meth c B.U B.locs B.cells B.slots ∧ Post A a v B ∧
      Steps p.tables e below (doInvoke e (A.U.setTop g) [] mk a).1 (B.U.setTop { g with pc := g.pc + len, stack := v.toList ++ g.stack })) ∨
    (∃ (q : Addr) (B : Pt), Stand p l e R s m sargs below meth c B.U B.locs B.cells B.slots ∧ PostX A a q B ∧
      Steps p.tables e below (doInvoke e (A.U.setTop g) [] mk a).1 ((B.U.setTop g).pushFrame (.throwing q)))
section Payer
variable {l : Launch} {R : Room} {p : Program} {e : Env} {below : List Frame} {s : State} {sargs : Array Value} {y : MethodName} {len W9 : Nat}
theorem vx_back {ws : List Cond} {rm : Room} {Pc : Array Value → State → Prop} {Qc : Array Value → State → Outcome → State → Prop} {XC : String → State → State → Prop} {mc ms : Nat} {free : Addr → Prop} {bytes : ByteArray} {maxL : Nat} {ret : Option FieldType}
    (hM : vx_Met l y ws rm Pc Qc XC mc ms free) (hblind : FrameBlind Pc) (hrc : rm.cells = mc) (hrs : rm.slots = ms)
    (hframes : rm.frames + 1 ≤ R.frames) (hlocals : W9 + (maxL + 11) + rm.locals ≤ R.locals)
    (hws : ∀ w ∈ ws, ∀ a' U, s.WarmedH U.vm → w.before a' U = true) (hcode : Cond.code y bytes maxL ret ∈ ws) (hinit : ∀ a' U, s.WarmedH U.vm → (Cond.initialized y.cls).before a' U = true) :
    vx_Back l R p e below s sargs y len W9 (PreOf R mc ms Pc) (PostOf Qc mc ms free) (vx_Post XC mc ms free) := by
  intro m meth c A g ig mk a X hg hsize hdg hW hn hp
  have h1 : (headSpec ws rm).pre.before a A.U = true := atoms_intro fun w hw => hws w hw _ _ X.warmed
  have h2 : (Cond.code y bytes maxL ret).before a A.U = true := hws _ hcode _ _ X.warmed
  have h3 : (Cond.initialized y.cls).before a A.U = true := hinit _ _ X.warmed
  have h4 : A.cells + (headSpec ws rm).room.cells ≤ R.cells := by rw [show (headSpec ws rm).room.cells = mc from hrc]; exact hp.1
  have h5 : A.slots + (headSpec ws rm).room.slots ≤ R.slots := by rw [show (headSpec ws rm).room.slots = ms from hrs]; exact hp.2.1
  have hPc : Pc a (A.U.calling g mk a) := hblind _ _ _ _ hp.2.2
  obtain ⟨U, Ls, c0, s0⟩ := A
  dsimp only [Pt.U, Pt.locs, Pt.cells, Pt.slots] at h1 h2 h3 h4 h5 X hn hPc ⊢
  obtain ⟨methY, cY, hmY, hcY, -, hlY, -, -, -, -⟩ := Cond.code_spec hn h2
  obtain ⟨kY, hkY, -⟩ := className_of_methodNamed hn
  have hinitY : kY.init = .initialized := Cond.initialized_spec (findClass_of_methodNamed hn) hkY h3
  have h : At U g.method c below := by rw [hg]; exact X.here
  have hlocals9 : W9 + (maxL + 11) + (headSpec ws rm).room.locals ≤ R.locals := hlocals
  have happ : (headSpec ws rm).appliesLoose y e.platform (U.calling g mk a) = true :=
    Spec.appliesLoose_calling (g := g) h hdg hn hkY hinitY
      (X.room_calling (g := g) (R' := (headSpec ws rm).room) hsize hmY hcY hframes (by rw [hlY]; omega) h4 h5) h1
  obtain ⟨mid, hmid⟩ := h.above
  have hfr : (U.setTop g).frames = (.java g :: mid) ++ below := by rw [State.frames_setTop' g h.top, hmid]; rfl
  obtain ⟨o, s₂, hsteps, -, hend, hq⟩ := Steps.callFree hM p X.admits X.cas X.clock (acts := []) hfr happ hPc trivial
  have hq' : vx_Q Qc XC mc ms free a (U.calling g mk a) o s₂ := hq
  rw [State.frames_setTop' g h.top] at hend
  obtain ⟨g₀, hg0⟩ := Option.isSome_iff_exists.mp h.top
  obtain ⟨r, hr⟩ := State.topJava?_eq_some.mp hg0
  have hr' : (({ U with heap := s₂.heap, slotsUsed := s₂.slotsUsed } : State).setVm s₂.vm).frames = .java g₀ :: r := hr
  rcases hq' with ⟨hqc, L, hfe, hL⟩ | ⟨q, rfl, E, ce, L, hx, hce, hcv, hcl, hW₂, hsm, hL⟩
  · obtain ⟨⟨v, rfl⟩, hW₂, e2, q2, q3, q4, q5, q6⟩ := id hfe
    have e3 : s₂ = ({ (U.calling g mk a).setFrames s₂.frames with heap := s₂.heap, slotsUsed := s₂.slotsUsed } : State).setVm s₂.vm := by
      have : s₂ = ({ s₂ with vm := (U.calling g mk a).vm } : State).setVm s₂.vm := rfl
      rw [e2] at this
      exact this
    obtain ⟨c₂, i₂, len₂, hc₂, hd₂, hf₂⟩ := hend
    have hW' : U.WarmedH s₂.vm := hW₂
    have hcc : c₂ = c := by
      have h1 : s₂.code? g.method = U.code? g.method := by
        rw [State.code?_eq, State.code?_eq, hW'.alike.method?]
      exact Option.some.inj (hc₂.symm.trans (h1.trans h.code))
    subst hcc
    have hlen : len₂ = len := by rw [hdg] at hd₂; cases hd₂; rfl
    subst hlen
    have hs₂ : s₂ = (({ U with heap := s₂.heap, slotsUsed := s₂.slotsUsed } : State).setVm s₂.vm).setTop { g with pc := g.pc + len₂, stack := v.toList ++ g.stack } := by
      refine e3.trans ?_
      rw [hf₂, State.calling_eq h.top, State.setFrames_setFrames, State.setTop_of_frames _ hr', hr]
      rfl
    have hsame : U.sameButNew ({ U with heap := s₂.heap, slotsUsed := s₂.slotsUsed } : State) L mc ms := by
      refine ⟨?_, q2, q3, q4, q5, q6⟩
      obtain ⟨t, ht, -⟩ := State.frames_cons hr
      show ({ U with heap := s₂.heap, slotsUsed := s₂.slotsUsed } : State) = { U.setFrames U.frames with heap := s₂.heap, slotsUsed := s₂.slotsUsed }
      rw [State.setFrames_self ht]
    subst hg
    refine Or.inl ⟨v, ⟨(({ U with heap := s₂.heap, slotsUsed := s₂.slotsUsed } : State).setVm s₂.vm), Ls ++ L, c0 + mc, s0 + ms⟩,
      ⟨X.admits, X.cas, X.clock, X.frames, X.room, X.hears, X.method, X.code, (X.here.setHeapUsed s₂.heap s₂.slotsUsed).setVm hW'.alike, X.tail, State.WarmedH.trans X.warmed hW', X.limits, X.bytes, X.same.trans (hsame.setVm s.vm)⟩,
      ⟨g, mk, s₂, L, rfl, rfl, hqc, rfl, hL, rfl, rfl⟩, ?_⟩
    show Steps p.tables e below _ ((({ U with heap := s₂.heap, slotsUsed := s₂.slotsUsed } : State).setVm s₂.vm).setTop { g with pc := g.pc + len₂, stack := v.toList ++ g.stack })
    rw [← hs₂]
    exact hsteps
  · obtain ⟨e2, q2, q3, q4, q5, q6⟩ := id hsm
    have e3 : s₂ = ({ (U.calling g mk a).setFrames s₂.frames with heap := s₂.heap, slotsUsed := s₂.slotsUsed } : State).setVm s₂.vm := by
      have : s₂ = ({ s₂ with vm := (U.calling g mk a).vm } : State).setVm s₂.vm := rfl
      rw [e2] at this
      exact this
    have hf₂ : s₂.frames = .throwing q :: .java g :: U.frames.tail := hend
    have hW' : U.WarmedH s₂.vm := hW₂
    have hs₂ : s₂ = ((({ U with heap := s₂.heap, slotsUsed := s₂.slotsUsed } : State).setVm s₂.vm).setTop g).pushFrame (.throwing q) := by
      refine e3.trans ?_
      rw [hf₂, State.calling_eq h.top, State.setFrames_setFrames, State.pushFrame, State.frames_setTop _ hr', State.setTop_of_frames _ hr', State.setFrames_setFrames, hr]
      rfl
    have hsame : U.sameButNew ({ U with heap := s₂.heap, slotsUsed := s₂.slotsUsed } : State) L mc ms := by
      refine ⟨?_, q2, q3, q4, q5, q6⟩
      obtain ⟨t, ht, -⟩ := State.frames_cons hr
      show ({ U with heap := s₂.heap, slotsUsed := s₂.slotsUsed } : State) = { U.setFrames U.frames with heap := s₂.heap, slotsUsed := s₂.slotsUsed }
      rw [State.setFrames_self ht]
    subst hg
    refine Or.inr ⟨q, ⟨(({ U with heap := s₂.heap, slotsUsed := s₂.slotsUsed } : State).setVm s₂.vm), Ls ++ L, c0 + mc, s0 + ms⟩,
      ⟨X.admits, X.cas, X.clock, X.frames, X.room, X.hears, X.method, X.code, (X.here.setHeapUsed s₂.heap s₂.slotsUsed).setVm hW'.alike, X.tail, State.WarmedH.trans X.warmed hW', X.limits, X.bytes, X.same.trans (hsame.setVm s.vm)⟩,
      ⟨g, mk, s₂, L, E, ce, rfl, rfl, hx, hce, hcv, hcl, rfl, hL, rfl, rfl⟩, ?_⟩
    show Steps p.tables e below _ (((({ U with heap := s₂.heap, slotsUsed := s₂.slotsUsed } : State).setVm s₂.vm).setTop g).pushFrame (.throwing q))
    rw [← hs₂]
    exact hsteps
end Payer
section Calls
variable {p : Program} {l : Launch} {e : Env} {R : Room} {s : State} {m : MethodId} {args : Array Value} {below : List Frame} {meth : Method} {c : Code} {T : State} {locs : List Loc} {cells slots : Nat}
theorem vx_callV (X : Stand p l e R s m args below meth c T locs cells slots) (hexec : p.tables.exec = Jvm.exec) {own C : String} {index : Nat} {y : MethodName} {bytes : ByteArray} {maxL : Nat} {ret : Option FieldType}
    (hown : s.vm.findClass own = some m.cls) (hlink : (Cond.methodLink own index y).before args s = true) (hinst : (Cond.instanceMethod y).before args s = true) (hsel : (Cond.selects C y y).before args s = true)
    (hcode : (Cond.code y bytes maxL ret).before args s = true) (hy : y.cls ≠ "java/lang/invoke/MethodHandle" ∧ y.cls ≠ "java/lang/invoke/VarHandle")
    {W9 : Nat} {Pre : Pt → Array Value → Prop} {Post : Pt → Array Value → Option Value → Pt → Prop} {PostX : Pt → Array Value → Addr → Pt → Prop} (hK : vx_Back l R p e below s args y 3 W9 Pre Post PostX)
    {b : Addr} {cellB : Cell} (hcell : T.heap[b]? = some cellB) (hobj : cellB.vm.isStatics = false) (hcls : s.vm.findClass C = some cellB.cls)
    {g : JFrame} (hg : g.method = m) (hsize : g.locals.size = c.maxLocals) {argsL rest : List Value} (hlen : ∀ sig, parseMethodDescriptor y.desc = some sig → argsL.length = sig.parameters.length)
    (hstack : g.stack = argsL.reverse ++ .ref b :: rest) (hW : 2 * g.monitorRoom + (rest.map fun v => v.category).sum ≤ W9) (hdg : decode c.code g.pc = .ok (.invokevirtual index, 3))
    (hpre : ∀ vm₁, s.WarmedH vm₁ → Pre ⟨T.setVm vm₁, locs, cells, slots⟩ (Value.ref b :: argsL).toArray) :
    (∃ (v : Option Value) (vm₁ : Vm) (B : Pt), s.WarmedH vm₁ ∧ Stand p l e R s m args below meth c B.U B.locs B.cells B.slots ∧ Post ⟨T.setVm vm₁, locs, cells, slots⟩ (Value.ref b :: argsL).toArray v B ∧
      ∀ target, Steps p.tables e below (B.U.setTop { g with pc := g.pc + 3, stack := v.toList ++ rest }) target → Steps p.tables e below (T.setTop g) target) ∨
    (∃ (q : Addr) (vm₁ : Vm) (B : Pt), s.WarmedH vm₁ ∧ Stand p l e R s m args below meth c B.U B.locs B.cells B.slots ∧ PostX ⟨T.setVm vm₁, locs, cells, slots⟩ (Value.ref b :: argsL).toArray q B ∧
      Steps p.tables e below (T.setTop g) ((B.U.setTop { g with stack := rest }).pushFrame (.throwing q))) := by
  obtain ⟨mk, methM, hnamed, hmethM, hstM, habM⟩ := Cond.instanceMethod_spec hinst
  obtain ⟨methM', cM, hmethM', -, -, -, -, -, -, hsigM⟩ := Cond.code_spec hnamed hcode
  cases hmethM.symm.trans hmethM'
  obtain ⟨c2, r2, m2, q1, q2, q3, q4, kP, hkP, hkPi⟩ := Cond.selects_spec hsel
  cases hcls.symm.trans q1
  cases (State.methodFound?_of_named hnamed hy).symm.trans q2
  cases hnamed.symm.trans q3
  have hselP : selectMethod e.platform s.vm cellB.cls mk = .method mk := by rw [Launch.admits_selectMethod X.admits]; exact q4
  obtain ⟨vm₁, X₁, hstep₁⟩ := X.invokevirtual hexec hown hlink hnamed hmethM hstM hkP hkPi hy (a := b) (cell := cellB) hcell
    (fun z h => by rw [h] at hobj; cases hobj) hselP hmethM habM hkP hkPi (g := g) hg (argsL := argsL) (rest := rest) (hlen _ hsigM) hstack hdg
  rcases hK m meth c ⟨T.setVm vm₁, locs, cells, slots⟩ { g with stack := rest } (.invokevirtual index) mk (Value.ref b :: argsL).toArray X₁ hg hsize hdg hW (X₁.named hnamed) (hpre vm₁ X₁.warmed) with ⟨v, B, X', hpost, hsteps⟩ | ⟨q, B, X', hpost, hsteps⟩
  · exact Or.inl ⟨v, vm₁, B, X₁.warmed, X', hpost, fun target h => hstep₁ _ fun acts => by rw [doInvoke_state]; exact hsteps.trans h⟩
  · exact Or.inr ⟨q, vm₁, B, X₁.warmed, X', hpost, hstep₁ _ fun acts => by rw [doInvoke_state]; exact hsteps⟩
theorem vx_callS (X : Stand p l e R s m args below meth c T locs cells slots) (hexec : p.tables.exec = Jvm.exec) {own : String} {index : Nat} {y : MethodName} {bytes : ByteArray} {maxL : Nat} {ret : Option FieldType}
    (hown : s.vm.findClass own = some m.cls) (hlink : (Cond.methodLink own index y).before args s = true) (hstat : (Cond.static y).before args s = true) (hinit : (Cond.initialized y.cls).before args s = true)
    (hcode : (Cond.code y bytes maxL ret).before args s = true) (hy : y.cls ≠ "java/lang/invoke/MethodHandle" ∧ y.cls ≠ "java/lang/invoke/VarHandle")
    {W9 : Nat} {Pre : Pt → Array Value → Prop} {Post : Pt → Array Value → Option Value → Pt → Prop} {PostX : Pt → Array Value → Addr → Pt → Prop} (hK : vx_Back l R p e below s args y 3 W9 Pre Post PostX)
    {g : JFrame} (hg : g.method = m) (hsize : g.locals.size = c.maxLocals) {argsL rest : List Value} (hlen : ∀ sig, parseMethodDescriptor y.desc = some sig → argsL.length = sig.parameters.length)
    (hstack : g.stack = argsL.reverse ++ rest) (hW : 2 * g.monitorRoom + (rest.map fun v => v.category).sum ≤ W9) (hdg : decode c.code g.pc = .ok (.invokestatic index, 3))
    (hpre : ∀ vm₁, s.WarmedH vm₁ → Pre ⟨T.setVm vm₁, locs, cells, slots⟩ argsL.toArray) :
    (∃ (v : Option Value) (vm₁ : Vm) (B : Pt), s.WarmedH vm₁ ∧ Stand p l e R s m args below meth c B.U B.locs B.cells B.slots ∧ Post ⟨T.setVm vm₁, locs, cells, slots⟩ argsL.toArray v B ∧
      ∀ target, Steps p.tables e below (B.U.setTop { g with pc := g.pc + 3, stack := v.toList ++ rest }) target → Steps p.tables e below (T.setTop g) target) ∨
    (∃ (q : Addr) (vm₁ : Vm) (B : Pt), s.WarmedH vm₁ ∧ Stand p l e R s m args below meth c B.U B.locs B.cells B.slots ∧ PostX ⟨T.setVm vm₁, locs, cells, slots⟩ argsL.toArray q B ∧
      Steps p.tables e below (T.setTop g) ((B.U.setTop { g with stack := rest }).pushFrame (.throwing q))) := by
  obtain ⟨mk, hnamed⟩ := Cond.code_named hcode
  obtain ⟨methM, cM, hmethM, -, -, -, -, -, -, hsigM⟩ := Cond.code_spec hnamed hcode
  have hstatic : methM.isStatic = true := Cond.static_spec hnamed hmethM hstat
  obtain ⟨kP, hkP, -⟩ := className_of_methodNamed hnamed
  have hinitP : kP.init = .initialized := Cond.initialized_spec (findClass_of_methodNamed hnamed) hkP hinit
  obtain ⟨vm₁, X₁, hstep₁⟩ := X.invokestatic hexec hown hlink hnamed hmethM hstatic hkP hinitP hy (g := g) hg (argsL := argsL) (rest := rest) (hlen _ hsigM) hstack hdg
  rcases hK m meth c ⟨T.setVm vm₁, locs, cells, slots⟩ { g with stack := rest } (.invokestatic index) mk argsL.toArray X₁ hg hsize hdg hW (X₁.named hnamed) (hpre vm₁ X₁.warmed) with ⟨v, B, X', hpost, hsteps⟩ | ⟨q, B, X', hpost, hsteps⟩
  · exact Or.inl ⟨v, vm₁, B, X₁.warmed, X', hpost, fun target h => hstep₁ _ fun acts => by rw [doInvoke_state]; exact hsteps.trans h⟩
  · exact Or.inr ⟨q, vm₁, B, X₁.warmed, X', hpost, hstep₁ _ fun acts => by rw [doInvoke_state]; exact hsteps⟩
end Calls
theorem vx_cls {s : State} {T : State} {vm₁ : Vm} {E : String} {k : ClassId} (hW : s.WarmedH vm₁) (h : (T.setVm vm₁).vm.findClass E = some k) : s.vm.findClass E = some k := by
  have h1 : vm₁.findClass E = some k := h
  rw [hW.alike.findClass] at h1
  exact h1
/-- the method's frame g, with q thrown over it -/
def vx_W (p : Program) (l : Launch) (e : Env) (R : Room) (s : State) (m : MethodId) (args : Array Value) (below : List Frame) (meth : Method) (c : Code) (H : Heap) (locs : List Loc) (cells slots : Nat) (Q : State → Prop) (g : JFrame) (q : Addr) : Prop :=
  ∀ T : State, T.heap = H → Stand p l e R s m args below meth c T locs cells slots → ∃ t, Steps p.tables e below ((T.setTop g).pushFrame (.throwing q)) t ∧ Q t
def vx_Run (p : Program) (l : Launch) (e : Env) (R : Room) (s : State) (m : MethodId) (args : Array Value) (below : List Frame) (meth : Method) (c : Code) (H : Heap) (locs : List Loc) (cells slots mc ms : Nat) (g : JFrame) (rest : List Value) (Qa : State → Outcome → State → Prop) (XC : String → State → State → Prop) (free : Addr → Prop) : Prop :=
  ∀ T : State, T.heap = H → Stand p l e R s m args below meth c T locs cells slots →
    (∃ (v : Option Value) (st₀ t T' : State) (L : List Loc), st₀.heap = H ∧ Stand p l e R s m args below meth c T' (locs ++ L) (cells + mc) (slots + ms) ∧ (∀ q ∈ L, free q.base) ∧ T'.heap = t.heap ∧ T'.vm = t.vm ∧ Qa st₀ (.returned v) t ∧
      Goes p e below T g T' { g with pc := g.pc + 3, stack := v.toList ++ rest }) ∨
    (∃ (q : Addr) (st₀ t T' : State) (L : List Loc) (E : String) (ce : Cell), st₀.heap = H ∧ Stand p l e R s m args below meth c T' (locs ++ L) (cells + mc) (slots + ms) ∧ (∀ z ∈ L, free z.base) ∧ T'.heap = t.heap ∧ T'.vm = t.vm ∧ XC E st₀ t ∧ t.heap[q]? = some ce ∧ ce.vm = .none ∧ s.vm.findClass E = some ce.cls ∧
      Steps p.tables e below (T.setTop g) ((T'.setTop { g with stack := rest }).pushFrame (.throwing q)))
def vx_X {S : Type} (px : S → Prop) (B : String → S → State → Prop) (A : Nat → Prop) : String → State → State → Prop := fun E st t => ∃ u : S, px u ∧ B E u t ∧ va_F A st t
section Runs
variable {p : Program} {l : Launch} {e : Env} {R : Room} {s : State} {m : MethodId} {args : Array Value} {below : List Frame} {meth : Method} {c : Code} {H : Heap} {locs : List Loc} {cells slots : Nat}
variable {y : MethodName} {bytes cc : ByteArray} {maxL nL mc ms n index : Nat} {ret : Option FieldType} {ws : List Cond} {rm : Room} {Pc : Array Value → State → Prop} {Qc : Array Value → State → Outcome → State → Prop} {XC : String → State → State → Prop} {free : Addr → Prop} {Ts : List Cond} {own C : String} {b : Addr} {As rest : List Value} {g : JFrame}
theorem vx_callBack (cb : CallB R s args own index y bytes maxL ret ws rm mc ms n) (hM : vx_Met l y ws rm Pc Qc XC mc ms free) (hbl : FrameBlind Pc) : vx_Back l R p e below s args y 3 8 (PreOf R mc ms Pc) (PostOf Qc mc ms free) (vx_Post XC mc ms free) := by
  obtain ⟨hrc, hrs, hfr, hlo, hws, hcw, -, hini, -⟩ := cb
  exact vx_back (bytes := bytes) (maxL := maxL) (ret := ret) hM hbl hrc hrs hfr hlo hws hcw (fun a' U hW => word_at hW (Or.inl (by first | rfl | simp [Cond.onTables, Cond.keeps, Cond.steady])) hini)
theorem vx_runV (S : CallFix p m c cc nL s args Ts own) (hM : vx_Met l y ws rm Pc Qc XC mc ms free) (cw : CallW R s args own C index y bytes maxL ret ws rm mc ms n) (hp : PreV s H C b Pc As)
    (hg : g.method = m) (hn : As.length = n) (hsize : g.locals.size = nL) (hstack : g.stack = As.reverse ++ .ref b :: rest) (hW : 2 * g.monitorRoom + (rest.map fun v => v.category).sum ≤ 8) (hdg : decode cc g.pc = .ok (.invokevirtual index, 3)) (hf : cells + mc ≤ R.cells ∧ slots + ms ≤ R.slots) :
    vx_Run p l e R s m args below meth c H locs cells slots mc ms g rest (Qc (Value.ref b :: As).toArray) XC free := by
  have hK : vx_Back l R p e below s args y 3 8 (PreOf R mc ms Pc) (PostOf Qc mc ms free) (vx_Post XC mc ms free) := vx_callBack cw.1 hM hp.1
  obtain ⟨⟨-, -, -, -, -, -, hcode, -, hy, hlen, hl⟩, hin, hse⟩ := cw
  obtain ⟨hx, hb, hml, ho, -⟩ := S
  obtain ⟨-, ⟨cellB, hcB, hoB, hclB⟩, hPc⟩ := hp
  intro T hT X
  rcases vx_callV X hx (C := C) (bytes := bytes) (maxL := maxL) (ret := ret) ho hl hin hse hcode hy hK (by rw [hT]; exact hcB) hoB hclB hg (hsize.trans hml.symm) (argsL := As) (rest := rest) (fun sig h => hn.trans (hlen sig h)) hstack hW (by rw [hb]; exact hdg)
    (fun vm₁ hW₁ => ⟨hf.1, hf.2, hPc (T.setVm vm₁) hT hW₁⟩) with ⟨v, vm₁, ⟨U', l2, c2, s2⟩, hW₁, X', ⟨g', mk, t, L, e1, e2, hq, h1, hL, h2, h3⟩, st⟩ | ⟨q, vm₁, ⟨U', l2, c2, s2⟩, hW₁, X', ⟨g', mk, t, L, E, ce, e1, e2, hq, hce, hcv, hcl, h1, hL, h2, h3⟩, st⟩
  · dsimp only [Pt.U, Pt.locs, Pt.cells, Pt.slots] at X' e1 e2 h1 h2 h3 st
    subst h1; subst h2; subst h3
    exact Or.inl ⟨v, (T.setVm vm₁).calling g' mk (Value.ref b :: As).toArray, t, U', L, hT, X', hL, e1, e2, hq, st⟩
  · dsimp only [Pt.U, Pt.locs, Pt.cells, Pt.slots] at X' e1 e2 h1 h2 h3 st hcl
    subst h1; subst h2; subst h3
    exact Or.inr ⟨q, (T.setVm vm₁).calling g' mk (Value.ref b :: As).toArray, t, U', L, E, ce, hT, X', hL, e1, e2, hq, hce, hcv, vx_cls hW₁ hcl, st⟩
theorem vx_runS (S : CallFix p m c cc nL s args Ts own) (hM : vx_Met l y ws rm Pc Qc XC mc ms free) (cw : CallB R s args own index y bytes maxL ret ws rm mc ms n ∧ (Cond.static y).before args s = true) (hp : PreS s H Pc As)
    (hg : g.method = m) (hn : As.length = n) (hsize : g.locals.size = nL) (hstack : g.stack = As.reverse ++ rest) (hW : 2 * g.monitorRoom + (rest.map fun v => v.category).sum ≤ 8) (hdg : decode cc g.pc = .ok (.invokestatic index, 3)) (hf : cells + mc ≤ R.cells ∧ slots + ms ≤ R.slots) :
    vx_Run p l e R s m args below meth c H locs cells slots mc ms g rest (Qc As.toArray) XC free := by
  have hK : vx_Back l R p e below s args y 3 8 (PreOf R mc ms Pc) (PostOf Qc mc ms free) (vx_Post XC mc ms free) := vx_callBack cw.1 hM hp.1
  obtain ⟨⟨-, -, -, -, -, -, hcode, hini, hy, hlen, hl⟩, hstt⟩ := cw
  obtain ⟨hx, hb, hml, ho, -⟩ := S
  intro T hT X
  rcases vx_callS X hx (bytes := bytes) (maxL := maxL) (ret := ret) ho hl hstt hini hcode hy hK hg (hsize.trans hml.symm) (argsL := As) (rest := rest) (fun sig h => hn.trans (hlen sig h)) hstack hW (by rw [hb]; exact hdg)
    (fun vm₁ hW₁ => ⟨hf.1, hf.2, hp.2 (T.setVm vm₁) hT hW₁⟩) with ⟨v, vm₁, ⟨U', l2, c2, s2⟩, hW₁, X', ⟨g', mk, t, L, e1, e2, hq, h1, hL, h2, h3⟩, st⟩ | ⟨q, vm₁, ⟨U', l2, c2, s2⟩, hW₁, X', ⟨g', mk, t, L, E, ce, e1, e2, hq, hce, hcv, hcl, h1, hL, h2, h3⟩, st⟩
  · dsimp only [Pt.U, Pt.locs, Pt.cells, Pt.slots] at X' e1 e2 h1 h2 h3 st
    subst h1; subst h2; subst h3
    exact Or.inl ⟨v, (T.setVm vm₁).calling g' mk As.toArray, t, U', L, hT, X', hL, e1, e2, hq, st⟩
  · dsimp only [Pt.U, Pt.locs, Pt.cells, Pt.slots] at X' e1 e2 h1 h2 h3 st hcl
    subst h1; subst h2; subst h3
    exact Or.inr ⟨q, (T.setVm vm₁).calling g' mk As.toArray, t, U', L, E, ce, hT, X', hL, e1, e2, hq, hce, hcv, vx_cls hW₁ hcl, st⟩
end Runs
section Rows
variable {p : Program} {l : Launch} {e : Env} {R : Room} {s : State} {m : MethodId} {args : Array Value} {below : List Frame} {meth : Method} {c : Code} {H : Heap} {locs : List Loc} {cells slots : Nat} {Q : State → Prop}
variable {mc ms : Nat} {free : Addr → Prop} {A0 A1 : Nat → Prop} {H0 : Heap} {a : Array Value} {pc : Nat} {ls : Array Slot} {st0 rest : List Value}
theorem vx_keep {st₀ t T' : State} {L : List Loc} (h0 : st₀.heap = H) (e1 : T'.heap = t.heap) (hS : va_S A0 H0 H locs) (hA : ∀ q, q < H.size → A1 q → A0 q) (hf : ∀ q, free q → A0 q) (hL : ∀ q ∈ L, free q.base) (hF : va_F A1 st₀ t) :
    H.size ≤ T'.heap.size ∧ (∀ q : Nat, q < H.size → ¬ A1 q → T'.heap[q]? = H[q]?) ∧ va_S A0 H0 T'.heap (locs ++ L) := by
  obtain ⟨hz, hk⟩ := hF
  rw [h0] at hz hk
  exact ⟨by rw [e1]; exact hz, fun q h1 h2 => by rw [e1]; exact hk q h1 h2,
    ⟨Nat.le_trans hS.1 (by rw [e1]; exact hz), fun q h1 h2 => by rw [e1, hk q (Nat.lt_of_lt_of_le h1 hS.1) (fun z => h2 (hA q (Nat.lt_of_lt_of_le h1 hS.1) z))]; exact hS.2.1 q h1 h2, fun q hq => by
      rcases List.mem_append.mp hq with h | h
      · exact hS.2.2 q h
      · exact hf _ (hL q h)⟩⟩
theorem vx_calli {S SX : Type} {post : Int32 → S → Prop} {px : SX → Prop} {B : S → State → Prop} {BX : String → SX → State → Prop} {AX : Nat → Prop} (hr : vx_Run p l e R s m args below meth c H locs cells slots mc ms (F0 m pc ls st0) rest (va_Qi post B A1 a) (vx_X px BX AX) free) (hS : va_S A0 H0 H locs) (hA : ∀ q, q < H.size → A1 q → A0 q) (hf : ∀ q, free q → A0 q) (hAX : ∀ q, q < H.size → AX q → A0 q)
    (kx : ∀ (E : String) (ce : Cell) (q9 : Addr) (u : SX) (t : State) (H1 : Heap) (locs1 : List Loc), t.heap = H1 → s.vm.Alike t.vm → px u → BX E u t → H.size ≤ H1.size → (∀ q : Nat, q < H.size → ¬ AX q → H1[q]? = H[q]?) → va_S A0 H0 H1 locs1 → H1[q9]? = some ce → ce.vm = .none → s.vm.findClass E = some ce.cls → vx_W p l e R s m args below meth c H1 locs1 (cells + mc) (slots + ms) Q (F0 m pc ls rest) q9)
    (kk : ∀ (r : Int32) (u : S) (t : State) (H1 : Heap) (locs1 : List Loc), t.heap = H1 → s.vm.Alike t.vm → post r u → B u t → H.size ≤ H1.size → (∀ q : Nat, q < H.size → ¬ A1 q → H1[q]? = H[q]?) → va_S A0 H0 H1 locs1 → W p l e R s m args below meth c H1 locs1 (cells + mc) (slots + ms) Q (F0 m (pc + 3) ls (.int r :: rest))) : W p l e R s m args below meth c H locs cells slots Q (F0 m pc ls st0) := by
  intro T hT X
  rcases hr T hT X with ⟨v, st₀, t, T', L, h0, X', hL, e1, e2, ⟨⟨r, u, hv, hp, hb⟩, hF⟩, st⟩ | ⟨q, st₀, t, T', L, E, ce, h0, X', hL, e1, e2, ⟨u, hp, hb, hF⟩, hce, hcv, hcl, st⟩
  · cases hv
    obtain ⟨k1, k2, k3⟩ := vx_keep h0 e1 hS hA hf hL hF
    obtain ⟨t2, a1, b1⟩ := kk r u t T'.heap (locs ++ L) e1.symm (by rw [← e2]; exact X'.warmed.alike) hp hb k1 k2 k3 T' rfl X'
    exact ⟨t2, st t2 a1, b1⟩
  · obtain ⟨k1, k2, k3⟩ := vx_keep h0 e1 hS hAX hf hL hF
    obtain ⟨t2, a1, b1⟩ := kx E ce q u t T'.heap (locs ++ L) e1.symm (by rw [← e2]; exact X'.warmed.alike) hp hb k1 k2 k3 (by rw [e1]; exact hce) hcv hcl T' rfl X'
    exact ⟨t2, st.trans a1, b1⟩
theorem vx_calll {S SX : Type} {post : Int64 → S → Prop} {px : SX → Prop} {B : S → State → Prop} {BX : String → SX → State → Prop} {AX : Nat → Prop} (hr : vx_Run p l e R s m args below meth c H locs cells slots mc ms (F0 m pc ls st0) rest (va_Ql post B A1 a) (vx_X px BX AX) free) (hS : va_S A0 H0 H locs) (hA : ∀ q, q < H.size → A1 q → A0 q) (hf : ∀ q, free q → A0 q) (hAX : ∀ q, q < H.size → AX q → A0 q)
    (kx : ∀ (E : String) (ce : Cell) (q9 : Addr) (u : SX) (t : State) (H1 : Heap) (locs1 : List Loc), t.heap = H1 → s.vm.Alike t.vm → px u → BX E u t → H.size ≤ H1.size → (∀ q : Nat, q < H.size → ¬ AX q → H1[q]? = H[q]?) → va_S A0 H0 H1 locs1 → H1[q9]? = some ce → ce.vm = .none → s.vm.findClass E = some ce.cls → vx_W p l e R s m args below meth c H1 locs1 (cells + mc) (slots + ms) Q (F0 m pc ls rest) q9)
    (kk : ∀ (r : Int64) (u : S) (t : State) (H1 : Heap) (locs1 : List Loc), t.heap = H1 → s.vm.Alike t.vm → post r u → B u t → H.size ≤ H1.size → (∀ q : Nat, q < H.size → ¬ A1 q → H1[q]? = H[q]?) → va_S A0 H0 H1 locs1 → W p l e R s m args below meth c H1 locs1 (cells + mc) (slots + ms) Q (F0 m (pc + 3) ls (.long r :: rest))) : W p l e R s m args below meth c H locs cells slots Q (F0 m pc ls st0) := by
  intro T hT X
  rcases hr T hT X with ⟨v, st₀, t, T', L, h0, X', hL, e1, e2, ⟨⟨r, u, hv, hp, hb⟩, hF⟩, st⟩ | ⟨q, st₀, t, T', L, E, ce, h0, X', hL, e1, e2, ⟨u, hp, hb, hF⟩, hce, hcv, hcl, st⟩
  · cases hv
    obtain ⟨k1, k2, k3⟩ := vx_keep h0 e1 hS hA hf hL hF
    obtain ⟨t2, a1, b1⟩ := kk r u t T'.heap (locs ++ L) e1.symm (by rw [← e2]; exact X'.warmed.alike) hp hb k1 k2 k3 T' rfl X'
    exact ⟨t2, st t2 a1, b1⟩
  · obtain ⟨k1, k2, k3⟩ := vx_keep h0 e1 hS hAX hf hL hF
    obtain ⟨t2, a1, b1⟩ := kx E ce q u t T'.heap (locs ++ L) e1.symm (by rw [← e2]; exact X'.warmed.alike) hp hb k1 k2 k3 (by rw [e1]; exact hce) hcv hcl T' rfl X'
    exact ⟨t2, st.trans a1, b1⟩
theorem vx_callf {S SX : Type} {post : UInt32 → S → Prop} {px : SX → Prop} {B : S → State → Prop} {BX : String → SX → State → Prop} {AX : Nat → Prop} (hr : vx_Run p l e R s m args below meth c H locs cells slots mc ms (F0 m pc ls st0) rest (va_Qf post B A1 a) (vx_X px BX AX) free) (hS : va_S A0 H0 H locs) (hA : ∀ q, q < H.size → A1 q → A0 q) (hf : ∀ q, free q → A0 q) (hAX : ∀ q, q < H.size → AX q → A0 q)
    (kx : ∀ (E : String) (ce : Cell) (q9 : Addr) (u : SX) (t : State) (H1 : Heap) (locs1 : List Loc), t.heap = H1 → s.vm.Alike t.vm → px u → BX E u t → H.size ≤ H1.size → (∀ q : Nat, q < H.size → ¬ AX q → H1[q]? = H[q]?) → va_S A0 H0 H1 locs1 → H1[q9]? = some ce → ce.vm = .none → s.vm.findClass E = some ce.cls → vx_W p l e R s m args below meth c H1 locs1 (cells + mc) (slots + ms) Q (F0 m pc ls rest) q9)
    (kk : ∀ (r : UInt32) (u : S) (t : State) (H1 : Heap) (locs1 : List Loc), t.heap = H1 → s.vm.Alike t.vm → post r u → B u t → H.size ≤ H1.size → (∀ q : Nat, q < H.size → ¬ A1 q → H1[q]? = H[q]?) → va_S A0 H0 H1 locs1 → W p l e R s m args below meth c H1 locs1 (cells + mc) (slots + ms) Q (F0 m (pc + 3) ls (.float r :: rest))) : W p l e R s m args below meth c H locs cells slots Q (F0 m pc ls st0) := by
  intro T hT X
  rcases hr T hT X with ⟨v, st₀, t, T', L, h0, X', hL, e1, e2, ⟨⟨r, u, hv, hp, hb⟩, hF⟩, st⟩ | ⟨q, st₀, t, T', L, E, ce, h0, X', hL, e1, e2, ⟨u, hp, hb, hF⟩, hce, hcv, hcl, st⟩
  · cases hv
    obtain ⟨k1, k2, k3⟩ := vx_keep h0 e1 hS hA hf hL hF
    obtain ⟨t2, a1, b1⟩ := kk r u t T'.heap (locs ++ L) e1.symm (by rw [← e2]; exact X'.warmed.alike) hp hb k1 k2 k3 T' rfl X'
    exact ⟨t2, st t2 a1, b1⟩
  · obtain ⟨k1, k2, k3⟩ := vx_keep h0 e1 hS hAX hf hL hF
    obtain ⟨t2, a1, b1⟩ := kx E ce q u t T'.heap (locs ++ L) e1.symm (by rw [← e2]; exact X'.warmed.alike) hp hb k1 k2 k3 (by rw [e1]; exact hce) hcv hcl T' rfl X'
    exact ⟨t2, st.trans a1, b1⟩
theorem vx_calld {S SX : Type} {post : UInt64 → S → Prop} {px : SX → Prop} {B : S → State → Prop} {BX : String → SX → State → Prop} {AX : Nat → Prop} (hr : vx_Run p l e R s m args below meth c H locs cells slots mc ms (F0 m pc ls st0) rest (va_Qd post B A1 a) (vx_X px BX AX) free) (hS : va_S A0 H0 H locs) (hA : ∀ q, q < H.size → A1 q → A0 q) (hf : ∀ q, free q → A0 q) (hAX : ∀ q, q < H.size → AX q → A0 q)
    (kx : ∀ (E : String) (ce : Cell) (q9 : Addr) (u : SX) (t : State) (H1 : Heap) (locs1 : List Loc), t.heap = H1 → s.vm.Alike t.vm → px u → BX E u t → H.size ≤ H1.size → (∀ q : Nat, q < H.size → ¬ AX q → H1[q]? = H[q]?) → va_S A0 H0 H1 locs1 → H1[q9]? = some ce → ce.vm = .none → s.vm.findClass E = some ce.cls → vx_W p l e R s m args below meth c H1 locs1 (cells + mc) (slots + ms) Q (F0 m pc ls rest) q9)
    (kk : ∀ (r : UInt64) (u : S) (t : State) (H1 : Heap) (locs1 : List Loc), t.heap = H1 → s.vm.Alike t.vm → post r u → B u t → H.size ≤ H1.size → (∀ q : Nat, q < H.size → ¬ A1 q → H1[q]? = H[q]?) → va_S A0 H0 H1 locs1 → W p l e R s m args below meth c H1 locs1 (cells + mc) (slots + ms) Q (F0 m (pc + 3) ls (.double r :: rest))) : W p l e R s m args below meth c H locs cells slots Q (F0 m pc ls st0) := by
  intro T hT X
  rcases hr T hT X with ⟨v, st₀, t, T', L, h0, X', hL, e1, e2, ⟨⟨r, u, hv, hp, hb⟩, hF⟩, st⟩ | ⟨q, st₀, t, T', L, E, ce, h0, X', hL, e1, e2, ⟨u, hp, hb, hF⟩, hce, hcv, hcl, st⟩
  · cases hv
    obtain ⟨k1, k2, k3⟩ := vx_keep h0 e1 hS hA hf hL hF
    obtain ⟨t2, a1, b1⟩ := kk r u t T'.heap (locs ++ L) e1.symm (by rw [← e2]; exact X'.warmed.alike) hp hb k1 k2 k3 T' rfl X'
    exact ⟨t2, st t2 a1, b1⟩
  · obtain ⟨k1, k2, k3⟩ := vx_keep h0 e1 hS hAX hf hL hF
    obtain ⟨t2, a1, b1⟩ := kx E ce q u t T'.heap (locs ++ L) e1.symm (by rw [← e2]; exact X'.warmed.alike) hp hb k1 k2 k3 (by rw [e1]; exact hce) hcv hcl T' rfl X'
    exact ⟨t2, st.trans a1, b1⟩
theorem vx_callv {S SX : Type} {post : S → Prop} {px : SX → Prop} {B : S → State → Prop} {BX : String → SX → State → Prop} {AX : Nat → Prop} (hr : vx_Run p l e R s m args below meth c H locs cells slots mc ms (F0 m pc ls st0) rest (va_Qv post B A1 a) (vx_X px BX AX) free) (hS : va_S A0 H0 H locs) (hA : ∀ q, q < H.size → A1 q → A0 q) (hf : ∀ q, free q → A0 q) (hAX : ∀ q, q < H.size → AX q → A0 q)
    (kx : ∀ (E : String) (ce : Cell) (q9 : Addr) (u : SX) (t : State) (H1 : Heap) (locs1 : List Loc), t.heap = H1 → s.vm.Alike t.vm → px u → BX E u t → H.size ≤ H1.size → (∀ q : Nat, q < H.size → ¬ AX q → H1[q]? = H[q]?) → va_S A0 H0 H1 locs1 → H1[q9]? = some ce → ce.vm = .none → s.vm.findClass E = some ce.cls → vx_W p l e R s m args below meth c H1 locs1 (cells + mc) (slots + ms) Q (F0 m pc ls rest) q9)
    (kk : ∀ (u : S) (t : State) (H1 : Heap) (locs1 : List Loc), t.heap = H1 → s.vm.Alike t.vm → post u → B u t → H.size ≤ H1.size → (∀ q : Nat, q < H.size → ¬ A1 q → H1[q]? = H[q]?) → va_S A0 H0 H1 locs1 → W p l e R s m args below meth c H1 locs1 (cells + mc) (slots + ms) Q (F0 m (pc + 3) ls (rest))) : W p l e R s m args below meth c H locs cells slots Q (F0 m pc ls st0) := by
  intro T hT X
  rcases hr T hT X with ⟨v, st₀, t, T', L, h0, X', hL, e1, e2, ⟨⟨u, hv, hp, hb⟩, hF⟩, st⟩ | ⟨q, st₀, t, T', L, E, ce, h0, X', hL, e1, e2, ⟨u, hp, hb, hF⟩, hce, hcv, hcl, st⟩
  · cases hv
    obtain ⟨k1, k2, k3⟩ := vx_keep h0 e1 hS hA hf hL hF
    obtain ⟨t2, a1, b1⟩ := kk u t T'.heap (locs ++ L) e1.symm (by rw [← e2]; exact X'.warmed.alike) hp hb k1 k2 k3 T' rfl X'
    exact ⟨t2, st t2 a1, b1⟩
  · obtain ⟨k1, k2, k3⟩ := vx_keep h0 e1 hS hAX hf hL hF
    obtain ⟨t2, a1, b1⟩ := kx E ce q u t T'.heap (locs ++ L) e1.symm (by rw [← e2]; exact X'.warmed.alike) hp hb k1 k2 k3 (by rw [e1]; exact hce) hcv hcl T' rfl X'
    exact ⟨t2, st.trans a1, b1⟩
end Rows
section Ends
variable {p : Program} {l : Launch} {e : Env} {R : Room} {s : State} {m : MethodId} {args : Array Value} {below : List Frame} {meth : Method} {c : Code} {H : Heap} {locs : List Loc} {cells slots : Nat} {Q : State → Prop}
variable {mc ms : Nat} {free : Addr → Prop} {A0 A1 : Nat → Prop} {H0 : Heap} {a : Array Value} {ls : Array Slot} {st0 rest : List Value}
variable {Qc : Array Value → State → Outcome → State → Prop} {XC : String → State → State → Prop}
/-- what a body that may throw owes at its end -/
def vx_MQ (below : List Frame) (Qc : Array Value → State → Outcome → State → Prop) (XC : String → State → State → Prop) (a : Array Value) (s : State) (mc ms : Nat) (free : Addr → Prop) : State → Prop := fun t =>
  ∃ o, t.status = .running ∧ Ended t below o ∧ vx_Q Qc XC mc ms free a s o t
theorem vx_ret {g : JFrame} {mc ms : Nat} (k : W p l e R s m args below meth c H locs cells slots (MQ below Qc args s mc ms free) g) : W p l e R s m args below meth c H locs cells slots (vx_MQ below Qc XC args s mc ms free) g := by
  intro T hT X
  obtain ⟨t, a1, o, b1, b2, b3, b4⟩ := k T hT X
  exact ⟨t, a1, o, b1, b2, Or.inl ⟨b3, b4⟩⟩
/-- not caught here: it goes on to the caller -/
theorem vx_widen {g : JFrame} {q : Addr} {k n : Nat} (h1 : cells ≤ k) (h2 : slots ≤ n) (kk : vx_W p l e R s m args below meth c H locs k n Q g q) : vx_W p l e R s m args below meth c H locs cells slots Q g q := fun T hT X => kk T hT (stand_widen X h1 h2)
theorem vx_out {pc : Nat} {E : String} {ce : Cell} {q : Addr} {mc ms : Nat} (hout : ∀ x ∈ c.exceptionTable.toList, covers x pc = false) (hlocks : meth.locks = false) (hcell : H[q]? = some ce) (hv : ce.vm = .none) (hcl : s.vm.findClass E = some ce.cls)
    (hx : ∀ t : State, t.heap = H → s.vm.Alike t.vm → XC E s t) (hf : ∀ z ∈ locs, free z.base) (hc : cells ≤ mc) (hs : slots ≤ ms) :
    vx_W p l e R s m args below meth c H locs cells slots (vx_MQ below Qc XC args s mc ms free) (F0 m pc ls rest) q := by
  intro T hT X
  obtain ⟨st1, hrun, hend, hW, hsm⟩ := X.leaveThrown q (g := F0 m pc ls rest) rfl rfl rfl hout hlocks
  have hcell9 : (T.setFrames (.throwing q :: below)).heap[q]? = some ce := by
    show T.heap[q]? = some ce
    rw [hT]; exact hcell
  exact ⟨_, st1, .threw q, hrun, hend, Or.inr ⟨q, rfl, E, ce, locs, hx _ hT hW.alike, hcell9, hv, hcl, hW, hsm.mono hc hs, hf⟩⟩
theorem vx_frame {U : State} {k n : Nat} (h : s.sameButNew ({ U with vm := s.vm } : State) locs k n) : s.heap.size ≤ U.heap.size ∧ ∀ q : Nat, q < s.heap.size → (∀ z ∈ locs, z.base ≠ q) → U.heap[q]? = s.heap[q]? := by
  obtain ⟨-, h2, -, -, -, h6⟩ := h
  refine ⟨h2, fun q hq hz => ?_⟩
  obtain ⟨c9, e1, e2, e3, e4⟩ := h6 q _ (Array.getElem?_eq_getElem hq)
  have hs : c9.slots = (s.heap[q]).slots := Array.ext_getElem? fun i => e4 i fun hm => hz _ hm rfl
  have h9 : c9 = s.heap[q] := by
    rw [hs] at e2
    exact e2
  have e5 : U.heap[q]? = some c9 := e1
  rw [e5, h9, Array.getElem?_eq_getElem hq]
/-- the words of a throw but the four that speak of the heap -/
def vx_no (w : Cond) : Bool := decide (w ≠ .isRef (.static Bundle.tN "UNASSIGNED_STACK" Bundle.steD)) && decide (w ≠ .isRef (.static Bundle.tN "SUPPRESSED_SENTINEL" Bundle.listD)) && decide (w ≠ .laysStatic Bundle.tN "UNASSIGNED_STACK" Bundle.steD) && decide (w ≠ .laysStatic Bundle.tN "SUPPRESSED_SENTINEL" Bundle.listD)
def vx_at0 (own : String) (ic : Nat) (X : String) (names : List String) : List Cond := (Bundle.ownAtoms0 own ic X names).filter vx_no
def vx_atS (own : String) (ic : Nat) (X : String) (names : List String) : List Cond := (Bundle.ownAtoms own ic X names).filter vx_no
/-- a word that the tables alone decide, or a good one -/
def vx_ot (w : Cond) : Bool := w.onTables || goodWord w
theorem vx_ot_at {args a' : Array Value} {s U : State} {w : Cond} (hW : s.WarmedH U.vm) (hvm : s.vm = U.vm) (hg : vx_ot w = true) (h : w.before args s = true) : w.before a' U = true := by
  simp only [vx_ot, Bool.or_eq_true] at hg
  rcases hg with hg | hg
  · exact va_tabs hg hvm h
  · exact word_at hW (good_of_word hg) h
/-- a list's words: the good ones out of the method's own list, the others by premises of their own -/
theorem vx_hat {args : Array Value} {s : State} {L B : List Cond} (h1 : ∀ w ∈ L.filter goodWord, w.before args s = true) (h2 : ∀ w ∈ L.filter (fun w => !goodWord w), w ∈ B) (h3 : ∀ w ∈ B, w.before args s = true) : ∀ w ∈ L, w.before args s = true := by
  intro w hw
  by_cases g : goodWord w = true
  · exact h1 w (List.mem_filter.mpr ⟨hw, g⟩)
  · refine h3 w (h2 w (List.mem_filter.mpr ⟨hw, ?_⟩))
    show (!goodWord w) = true
    cases hgw : goodWord w
    · rfl
    · exact absurd hgw g
theorem vx_c {args : Array Value} {s : State} {w : Cond} {B : List Cond} (h : w.before args s = true) (t : ∀ w ∈ B, w.before args s = true) : ∀ w' ∈ w :: B, w'.before args s = true := fun w' h' => (List.mem_cons.mp h').elim (fun e => by rw [e]; exact h) (t w')
theorem vx_n {args : Array Value} {s : State} : ∀ w ∈ ([] : List Cond), w.before args s = true := fun _ h => nomatch h
theorem vx_own {args : Array Value} {s : State} {L : List Cond} (h1 : ∀ w ∈ L.filter vx_no, w.before args s = true)
    (hU : (Cond.isRef (.static Bundle.tN "UNASSIGNED_STACK" Bundle.steD)).before args s = true) (hN : (Cond.isRef (.static Bundle.tN "SUPPRESSED_SENTINEL" Bundle.listD)).before args s = true)
    (lU : (Cond.laysStatic Bundle.tN "UNASSIGNED_STACK" Bundle.steD).before args s = true) (lN : (Cond.laysStatic Bundle.tN "SUPPRESSED_SENTINEL" Bundle.listD).before args s = true) : ∀ w ∈ L, w.before args s = true := by
  intro w hw
  by_cases e1 : w = .isRef (.static Bundle.tN "UNASSIGNED_STACK" Bundle.steD)
  · rw [e1]; exact hU
  · by_cases e2 : w = .isRef (.static Bundle.tN "SUPPRESSED_SENTINEL" Bundle.listD)
    · rw [e2]; exact hN
    · by_cases e3 : w = .laysStatic Bundle.tN "UNASSIGNED_STACK" Bundle.steD
      · rw [e3]; exact lU
      · by_cases e4 : w = .laysStatic Bundle.tN "SUPPRESSED_SENTINEL" Bundle.listD
        · rw [e4]; exact lN
        · exact h1 w (List.mem_filter.mpr ⟨hw, by unfold vx_no; rw [decide_eq_true e1, decide_eq_true e2, decide_eq_true e3, decide_eq_true e4]; rfl⟩)
/-- where a static field lies, its class's statics cell in H -/
def vx_L (C n d : String) (A : Nat → Prop) (U : State) (H : Heap) : Prop := ∃ (c : ClassId) (k : Class) (i : Nat) (f : Field) (a : Nat) (cell : Cell), U.vm.findClass C = some c ∧ U.fieldFound? C n d = some (c, k, i, f) ∧ f.isStatic = true ∧ k.statics = some a ∧ H[a]? = some cell ∧ cell.vm.isStatics = true ∧ cell.cls = c ∧ f.slot < cell.slots.size ∧ k.staticTypes[f.slot]? = some f.type ∧ ¬ A a
theorem vx_L.moved {C n d : String} {A : Nat → Prop} {u U : State} {H : Heap} (hvm : u.vm.Alike U.vm) (h : vx_L C n d A u H) : vx_L C n d A U H := by
  obtain ⟨c, k, i, f, a, cell, h1, h2, h3, h4, h5, h6, h7, h8, h9, h10⟩ := h
  obtain ⟨k', hi', he⟩ := State.fieldFound?_setVm hvm h2
  exact ⟨c, k', i, f, a, cell, by rw [hvm.findClass]; exact h1, hi', h3, by rw [he]; exact h4, h5, h6, h7, h8, by rw [he]; exact h9, h10⟩
theorem vx_L.kept {C n d : String} {A : Nat → Prop} {U : State} {H H1 : Heap} (h : vx_L C n d A U H) (hq : ∀ a : Nat, a < H.size → ¬ A a → H1[a]? = H[a]?) : vx_L C n d A U H1 := by
  obtain ⟨c, k, i, f, a, cell, h1, h2, h3, h4, h5, h6, h7, h8, h9, h10⟩ := h
  exact ⟨c, k, i, f, a, cell, h1, h2, h3, h4, by rw [hq a (Array.getElem?_eq_some_iff.mp h5).1 h10]; exact h5, h6, h7, h8, h9, h10⟩
theorem vx_L.narrow {C n d : String} {A B : Nat → Prop} {U : State} {H : Heap} (h : vx_L C n d A U H) (hAB : ∀ q, B q → A q) : vx_L C n d B U H := by
  obtain ⟨c, k, i, f, a, cell, h1, h2, h3, h4, h5, h6, h7, h8, h9, h10⟩ := h
  exact ⟨c, k, i, f, a, cell, h1, h2, h3, h4, h5, h6, h7, h8, h9, fun z => h10 (hAB _ z)⟩
theorem vx_L.word {C n d : String} {A : Nat → Prop} {s : State} {args : Array Value} (h : vx_L C n d A s s.heap) : (Cond.laysStatic C n d).before args s = true := by
  obtain ⟨c, k, i, f, a, cell, h1, h2, h3, h4, h5, h6, h7, h8, h9, -⟩ := h
  show (Cond.laysStatic C n d).holds args s none s [] = true
  exact Cond.laysStatic_of h1 h2 h3 h4 h5 h6 h7 h8 h9
/-- .. and what it holds: null or some reference -/
def vx_Zq (C n d : String) (A : Nat → Prop) (U : State) (H : Heap) : Prop := va_Zq C n d A U H ∧ vx_L C n d A U H
theorem vx_Zq.moved {C n d : String} {A : Nat → Prop} {u U : State} {H : Heap} (hvm : u.vm.Alike U.vm) (h : vx_Zq C n d A u H) : vx_Zq C n d A U H := ⟨va_Zq.moved hvm h.1, vx_L.moved hvm h.2⟩
theorem vx_Zq.kept {C n d : String} {A : Nat → Prop} {U : State} {H H1 : Heap} (h : vx_Zq C n d A U H) (hq : ∀ a : Nat, a < H.size → ¬ A a → H1[a]? = H[a]?) : vx_Zq C n d A U H1 := ⟨va_Zq.kept h.1 hq, vx_L.kept h.2 hq⟩
theorem vx_Zq.narrow {C n d : String} {A B : Nat → Prop} {U : State} {H : Heap} (h : vx_Zq C n d A U H) (hAB : ∀ q, B q → A q) : vx_Zq C n d B U H := ⟨va_Zq.narrow h.1 hAB, vx_L.narrow h.2 hAB⟩
theorem vx_Zqof {args : Array Value} {s : State} {C n d : String} {A : Nat → Prop} (hl : (Cond.laysStatic C n d).before args s = true) (hini : (Cond.initialized C).before args s = true) (h : (Cond.isRef (.static C n d)).before args s = true) (hA : ∀ a : Nat, a < s.heap.size → ¬ A a) : vx_Zq C n d A s s.heap := by
  refine ⟨va_Zqof hl hini h hA, ?_⟩
  obtain ⟨c, k, i, f, a, cell, h1, h2, h3, h4, h5, h6, h7, h8, h9⟩ := Cond.laysStatic_spec hl
  exact ⟨c, k, i, f, a, cell, h1, h2, h3, h4, h5, h6, h7, h8, h9, hA a (Array.getElem?_eq_some_iff.mp h5).1⟩
theorem vx_isRef {C n d : String} {v : Value} {A : Nat → Prop} {s : State} {args : Array Value} (h : va_Z C n d v A s s.heap) (hv : v.isRef = true) : (Cond.isRef (.static C n d)).before args s = true := by
  obtain ⟨cf, kf, fi, f, a, cell, h1, h2, h3, h4, h5, h6, h7, -⟩ := h
  have he : (Term.static C n d).eval args s none [] s = some v := by
    simp [Term.eval, State.fieldNamed?, h1, h2, h4, h5, h6, h7]
  simp only [Cond.before, Cond.holds, Cond.value, he]
  cases v <;> simp_all [Value.isRef]
theorem vx_isRefq {C n d : String} {A : Nat → Prop} {s : State} {args : Array Value} (h : va_Zq C n d A s s.heap) : (Cond.isRef (.static C n d)).before args s = true := by
  rcases h with h | ⟨t, h⟩
  · exact vx_isRef h rfl
  · exact vx_isRef h rfl
/-- the same frame, seen from here: as if the method were called anew in this heap -/
theorem vx_rebase {T : State} (X : Stand p l e R s m args below meth c T locs cells slots) {R' : Room} (hf : R'.frames ≤ R.frames) (hl : R'.locals ≤ R.locals) (hc : cells + R'.cells ≤ R.cells) (hs : slots + R'.slots ≤ R.slots) :
    Stand p l e R' ((T.setVm s.vm).setFrames (.invoking m args :: below)) m args below meth c T [] 0 0 := by
  have htop : (T.setVm s.vm).topJava?.isSome := X.here.top
  have hF : ((T.setVm s.vm).setFrames (.invoking m args :: below)).frames = .invoking m args :: below := State.frames_setFrames _ (State.cur_lt_of_top htop)
  obtain ⟨g₀, hg0⟩ := Option.isSome_iff_exists.mp htop
  obtain ⟨r, hr⟩ := State.topJava?_eq_some.mp hg0
  have hl9 : e.platform.stackLimits (T.setVm s.vm).me = e.platform.stackLimits s.me := X.limits
  have hb9 : (T.setVm s.vm).me.stackBytes = s.me.stackBytes := X.bytes
  refine ⟨X.admits, X.cas, X.clock, hF, ?_, X.hears, X.method, X.code, X.here, X.tail, X.warmed, ?_, ?_, ?_⟩
  · have h := X.room
    have hU : ((T.setVm s.vm).setFrames (.invoking m args :: below)).localsInUse = s.localsInUse := by
      rw [State.localsInUse_invoking hF (meth := meth) (c := c) X.method X.code, State.localsInUse_invoking X.frames X.method X.code]
    simp only [State.hasRoom, Bool.and_eq_true, decide_eq_true_eq] at h ⊢
    obtain ⟨⟨⟨⟨h1, h2, h3, h4, h5, h6⟩, h7⟩, h8⟩, h9⟩ := h
    rw [X.frames, List.length_cons] at h2 h3
    have q1 := X.heapSize
    have q2 := X.used
    simp only [hF, hU, List.length_cons, State.stackLimits_setFrames, State.stackBytes_setFrames, hl9, hb9]
    refine ⟨⟨⟨⟨by omega, by omega, by omega, by omega, by omega, h6⟩, ?_⟩, ?_⟩, X.book⟩
    · show T.heap.size + R'.cells ≤ e.platform.maxCells
      omega
    · show T.slotsUsed + R'.slots ≤ e.platform.maxSlots
      omega
  · rw [State.stackLimits_setFrames]; rfl
  · rw [State.stackBytes_setFrames]; rfl
  · refine ⟨?_, Nat.le_refl _, Nat.le_refl _, ?_, ?_, fun a c9 h9 => ⟨c9, h9, rfl, rfl, fun _ _ => rfl⟩⟩
    · obtain ⟨t, ht, -⟩ := State.frames_cons hr
      show T.setVm s.vm = { ((T.setVm s.vm).setFrames (.invoking m args :: below)).setFrames (T.setVm s.vm).frames with heap := T.heap, slotsUsed := T.slotsUsed }
      rw [State.setFrames_setFrames, State.setFrames_self ht]
      rfl
    · show T.slotsUsed = T.slotsUsed + ((T.heap.toList.drop T.heap.size).map (·.slots.size)).sum
      rw [List.drop_eq_nil_of_le (Nat.le_of_eq Array.length_toList)]
      rfl
    · show ((T.heap.toList.drop T.heap.size).map (·.slots.size)).sum ≤ 0
      rw [List.drop_eq_nil_of_le (Nat.le_of_eq Array.length_toList)]
      exact Nat.le_refl _
/-- 'throw new E()': new; dup; invokespecial; athrow -/
theorem vx_throw0 {cc : ByteArray} {pc : Nat} (hexec : p.tables.exec = Jvm.exec) (hb : c.code = cc) (hl : l.stackTraces = false) {own cls : String} {names : List String} {ik ic mc ms : Nat} {A : Nat → Prop}
    (hown : s.vm.findClass own = some m.cls) (hcls : Bundle.fit cls = true) (hnames : ∀ n ∈ names, Bundle.fit n = true)
    (hk : (Cond.classLink own ik cls).before args s = true) (hini : (Cond.initialized cls).before args s = true) (hat : ∀ w ∈ vx_at0 own ic cls names, w.before args s = true)
    (hgood : ∀ w ∈ Cond.classLink own ik cls :: Cond.initialized cls :: vx_at0 own ic cls names, vx_ot w = true)
    (hU : vx_Zq Bundle.tN "UNASSIGNED_STACK" Bundle.steD A s s.heap) (hN : vx_Zq Bundle.tN "SUPPRESSED_SENTINEL" Bundle.listD A s s.heap) (hS : va_S A s.heap H locs) (hsize : ls.size = c.maxLocals)
    (d0 : decode cc pc = .ok (.new ik, 3)) (d3 : decode cc (pc + 3) = .ok (.dup, 1)) (d4 : decode cc (pc + 4) = .ok (.invokespecial ic, 3)) (d7 : decode cc (pc + 7) = .ok (.athrow, 1))
    (hout : ∀ x ∈ c.exceptionTable.toList, covers x (pc + 7) = false)
    (hRframes : names.length + 3 < R.frames) (hRlocals : (rest.map fun v => v.category).sum + (13 * (names.length + 1) + 42) ≤ R.locals) (hRcells : cells + 1 ≤ R.cells) (hRslots : slots + 6 ≤ R.slots) (hlocks : meth.locks = false)
    (hx : ∀ t : State, s.vm.Alike t.vm → H.size ≤ t.heap.size → (∀ q : Nat, q < H.size → t.heap[q]? = H[q]?) → XC cls s t)
    (hf : ∀ z ∈ locs, free z.base) (hc : cells + 1 ≤ mc) (hs : slots + 6 ≤ ms) :
    W p l e R s m args below meth c H locs cells slots (vx_MQ below Qc XC args s mc ms free) (F0 m pc ls rest) := by
  intro T hT X
  have htr : e.platform.stackTraces = false := (show e.platform.stackTraces = l.stackTraces by rw [X.admits.platform]).trans hl
  have Y := vx_rebase X (R' := { frames := R.frames, locals := R.locals, cells := 1, slots := 6 }) (Nat.le_refl _) (Nat.le_refl _) hRcells hRslots
  obtain ⟨s', hA⟩ : ∃ z, z = (T.setVm s.vm).setFrames (.invoking m args :: below) := ⟨_, rfl⟩
  rw [← hA] at Y
  have hvm : s'.vm = s.vm := by rw [hA]; rfl
  have hhp : s'.heap = H := by rw [hA]; exact hT
  have hW0 : s.WarmedH s'.vm := by rw [hvm]; exact State.WarmedH.refl s
  have hat' : ∀ w ∈ vx_at0 own ic cls names, w.before args s' = true := fun w hw => vx_ot_at hW0 hvm.symm (hgood w (List.mem_cons_of_mem _ (List.mem_cons_of_mem _ hw))) (hat w hw)
  have hk' : (Cond.classLink own ik cls).before args s' = true := vx_ot_at hW0 hvm.symm (hgood _ List.mem_cons_self) hk
  have hini' : (Cond.initialized cls).before args s' = true := vx_ot_at hW0 hvm.symm (hgood _ (List.mem_cons_of_mem _ List.mem_cons_self)) hini
  have hU' : vx_Zq Bundle.tN "UNASSIGNED_STACK" Bundle.steD A s' s'.heap := by rw [hhp]; exact vx_Zq.moved hW0.alike (hU.kept hS.2.1)
  have hN' : vx_Zq Bundle.tN "SUPPRESSED_SENTINEL" Bundle.listD A s' s'.heap := by rw [hhp]; exact vx_Zq.moved hW0.alike (hN.kept hS.2.1)
  have h : ∀ w ∈ Bundle.ownAtoms0 own ic cls names, w.before args s' = true := vx_own hat' (vx_isRefq hU'.1) (vx_isRefq hN'.1) hU'.2.word hN'.2.word
  have hown' : s'.vm.findClass own = some m.cls := by rw [hvm]; exact hown
  have hins : (Cond.instantiable cls 6).before args s' = true := h _ (by simp [Bundle.ownAtoms0])
  obtain ⟨vm₁, cX, kX, hfX, hkX, -, -, X₁, st1⟩ := Y.newCold hexec (own := own) (C := cls) (index := ik) (n := 6) hown' hk' hins hini'
    (g := F0 m pc ls rest) rfl (by rw [hb]; exact d0) (Nat.le_refl _) (Nat.le_refl _)
  generalize hT1 : (T.setVm vm₁).pushCell { cls := cX, slots := kX.instanceTypes.map defaultValue, vm := .none } = T1 at X₁ st1
  have hcat : (Value.ref T.heap.size).category = 1 := rfl
  have hcellA : T1.heap[T.heap.size]? = some (freshCell cX kX) := by rw [← hT1]; exact State.heap_pushCell_size _ _
  have d3' : decode c.code (pc + 3) = .ok (.dup, 1) := by rw [hb]; exact d3
  obtain ⟨U, hsteps, hrun, hend, hW, hsame, ce, hce, hO⟩ := X₁.ctorThrow0 hexec htr (own := own) (cls := cls) (names := names) (ic := ic) hown' hcls hnames h (fun x hx => nomatch hx) hfX hkX hcellA (by rw [hhp, hT]; exact Nat.le_refl _)
    (g := { method := m, pc := pc + 4, locals := ls, stack := .ref T.heap.size :: .ref T.heap.size :: rest, locked := none }) rfl hsize rfl rfl (rest := rest) rfl
    (by rw [hb]; exact d4) (by rw [hb]; exact d7) hout hRframes (by simp only [List.map_cons, List.sum_cons, hcat]; omega) hlocks
  obtain ⟨f1, f2⟩ := vx_frame hsame
  rw [hhp] at f1 f2
  have hWs : s.WarmedH U.vm := State.WarmedH.trans hW0 hW
  have hcl : s.vm.findClass cls = some ce.cls := by
    have h9 := hO.cls
    rw [hvm] at h9
    exact h9
  have hall : s.sameButNew ({ U with vm := s.vm } : State) locs mc ms := by
    subst hA
    obtain ⟨e1, e2⟩ := hsame
    rw [State.setFrames_setFrames] at e1
    have h2 : (T.setVm s.vm).sameButNew ({ U with vm := s.vm } : State) [] (0 + 1) (0 + 6) := ⟨e1, e2⟩
    have h3 := X.same.trans h2
    rw [List.append_nil] at h3
    exact h3.mono hc hs
  refine ⟨U, ?_, .threw T.heap.size, hrun, hend, Or.inr ⟨T.heap.size, rfl, cls, ce, locs, hx U hWs.alike f1 (fun q hq => f2 q hq (fun z hz => nomatch hz)), hce, hO.vm, hcl, hWs, hall, hf⟩⟩
  refine st1 _ ?_
  show Steps p.tables e below (T1.setTop { method := m, pc := pc + 3, locals := ls, stack := .ref T.heap.size :: rest, locked := none }) _
  jvm_step X₁.here [X₁.here.top, hexec, d3', Value.category]
  exact hsteps
/-- 'throw new E("text")': new; dup; ldc; invokespecial; athrow -/
theorem vx_throwS {cc : ByteArray} {pc : Nat} (hexec : p.tables.exec = Jvm.exec) (hb : c.code = cc) (hl : l.stackTraces = false) {own cls text : String} {names : List String} {ik is ic mc ms sa : Nat} {A : Nat → Prop}
    (hown : s.vm.findClass own = some m.cls) (hcls : Bundle.fit cls = true) (hnames : ∀ n ∈ names, Bundle.fit n = true)
    (hk : (Cond.classLink own ik cls).before args s = true) (hini : (Cond.initialized cls).before args s = true) (hstr : vk_R own is text sa s) (hat : ∀ w ∈ vx_atS own ic cls names, w.before args s = true)
    (hgood : ∀ w ∈ Cond.classLink own ik cls :: Cond.initialized cls :: vx_atS own ic cls names, vx_ot w = true)
    (hU : vx_Zq Bundle.tN "UNASSIGNED_STACK" Bundle.steD A s s.heap) (hN : vx_Zq Bundle.tN "SUPPRESSED_SENTINEL" Bundle.listD A s s.heap) (hS : va_S A s.heap H locs) (hsize : ls.size = c.maxLocals)
    (d0 : decode cc pc = .ok (.new ik, 3)) (d3 : decode cc (pc + 3) = .ok (.dup, 1)) (d4 : decode cc (pc + 4) = .ok (.ldc is, 2)) (d6 : decode cc (pc + 6) = .ok (.invokespecial ic, 3)) (d9 : decode cc (pc + 9) = .ok (.athrow, 1))
    (hout : ∀ x ∈ c.exceptionTable.toList, covers x (pc + 9) = false)
    (hRframes : names.length + 3 < R.frames) (hRlocals : (rest.map fun v => v.category).sum + (13 * (names.length + 1) + 43) ≤ R.locals) (hRcells : cells + 1 ≤ R.cells) (hRslots : slots + 6 ≤ R.slots) (hlocks : meth.locks = false)
    (hx : ∀ t : State, s.vm.Alike t.vm → H.size ≤ t.heap.size → (∀ q : Nat, q < H.size → t.heap[q]? = H[q]?) → XC cls s t)
    (hf : ∀ z ∈ locs, free z.base) (hc : cells + 1 ≤ mc) (hs : slots + 6 ≤ ms) :
    W p l e R s m args below meth c H locs cells slots (vx_MQ below Qc XC args s mc ms free) (F0 m pc ls rest) := by
  intro T hT X
  have htr : e.platform.stackTraces = false := (show e.platform.stackTraces = l.stackTraces by rw [X.admits.platform]).trans hl
  have Y := vx_rebase X (R' := { frames := R.frames, locals := R.locals, cells := 1, slots := 6 }) (Nat.le_refl _) (Nat.le_refl _) hRcells hRslots
  obtain ⟨s', hA⟩ : ∃ z, z = (T.setVm s.vm).setFrames (.invoking m args :: below) := ⟨_, rfl⟩
  rw [← hA] at Y
  have hvm : s'.vm = s.vm := by rw [hA]; rfl
  have hhp : s'.heap = H := by rw [hA]; exact hT
  have hW0 : s.WarmedH s'.vm := by rw [hvm]; exact State.WarmedH.refl s
  have hat' : ∀ w ∈ vx_atS own ic cls names, w.before args s' = true := fun w hw => vx_ot_at hW0 hvm.symm (hgood w (List.mem_cons_of_mem _ (List.mem_cons_of_mem _ hw))) (hat w hw)
  have hk' : (Cond.classLink own ik cls).before args s' = true := vx_ot_at hW0 hvm.symm (hgood _ List.mem_cons_self) hk
  have hini' : (Cond.initialized cls).before args s' = true := vx_ot_at hW0 hvm.symm (hgood _ (List.mem_cons_of_mem _ List.mem_cons_self)) hini
  have hU' : vx_Zq Bundle.tN "UNASSIGNED_STACK" Bundle.steD A s' s'.heap := by rw [hhp]; exact vx_Zq.moved hW0.alike (hU.kept hS.2.1)
  have hN' : vx_Zq Bundle.tN "SUPPRESSED_SENTINEL" Bundle.listD A s' s'.heap := by rw [hhp]; exact vx_Zq.moved hW0.alike (hN.kept hS.2.1)
  have h : ∀ w ∈ Bundle.ownAtoms own ic cls names, w.before args s' = true := vx_own hat' (vx_isRefq hU'.1) (vx_isRefq hN'.1) hU'.2.word hN'.2.word
  have hown' : s'.vm.findClass own = some m.cls := by rw [hvm]; exact hown
  have hins : (Cond.instantiable cls 6).before args s' = true := h _ (by simp [Bundle.ownAtoms])
  obtain ⟨vm₁, cX, kX, hfX, hkX, -, -, X₁, st1⟩ := Y.newCold hexec (own := own) (C := cls) (index := ik) (n := 6) hown' hk' hins hini'
    (g := F0 m pc ls rest) rfl (by rw [hb]; exact d0) (Nat.le_refl _) (Nat.le_refl _)
  generalize hT1 : (T.setVm vm₁).pushCell { cls := cX, slots := kX.instanceTypes.map defaultValue, vm := .none } = T1 at X₁ st1
  have hcat : (Value.ref T.heap.size).category = 1 := rfl
  have hcellA : T1.heap[T.heap.size]? = some (freshCell cX kX) := by rw [← hT1]; exact State.heap_pushCell_size _ _
  have d3' : decode c.code (pc + 3) = .ok (.dup, 1) := by rw [hb]; exact d3
  have d4' : decode c.code (pc + 4) = .ok (.ldc is, 2) := by rw [hb]; exact d4
  have hstr' : vk_R own is text sa s' := vk_R.warm hW0 hstr
  obtain ⟨U, hsteps, hrun, hend, hW, hsame, ce, hce, hO⟩ := X₁.ctorThrowS hexec htr (own := own) (cls := cls) (names := names) (ic := ic) hown' hcls hnames h (fun x hx => nomatch hx) hfX hkX hcellA (by rw [hhp, hT]; exact Nat.le_refl _) (msg := .ref sa) rfl
    (g := { method := m, pc := pc + 6, locals := ls, stack := .ref sa :: .ref T.heap.size :: .ref T.heap.size :: rest, locked := none }) rfl hsize rfl rfl (rest := rest) rfl
    (by rw [hb]; exact d6) (by rw [hb]; exact d9) hout hRframes (by simp only [List.map_cons, List.sum_cons, hcat]; omega) hlocks
  obtain ⟨f1, f2⟩ := vx_frame hsame
  rw [hhp] at f1 f2
  have hWs : s.WarmedH U.vm := State.WarmedH.trans hW0 hW
  have hcl : s.vm.findClass cls = some ce.cls := by
    have h9 := hO.cls
    rw [hvm] at h9
    exact h9
  have hall : s.sameButNew ({ U with vm := s.vm } : State) locs mc ms := by
    subst hA
    obtain ⟨e1, e2⟩ := hsame
    rw [State.setFrames_setFrames] at e1
    have h2 : (T.setVm s.vm).sameButNew ({ U with vm := s.vm } : State) [] (0 + 1) (0 + 6) := ⟨e1, e2⟩
    have h3 := X.same.trans h2
    rw [List.append_nil] at h3
    exact h3.mono hc hs
  refine ⟨U, ?_, .threw T.heap.size, hrun, hend, Or.inr ⟨T.heap.size, rfl, cls, ce, locs, hx U hWs.alike f1 (fun q hq => f2 q hq (fun z hz => nomatch hz)), hce, hO.vm, hcl, hWs, hall, hf⟩⟩
  refine st1 _ ?_
  show Steps p.tables e below (T1.setTop { method := m, pc := pc + 3, locals := ls, stack := .ref T.heap.size :: rest, locked := none }) _
  jvm_step X₁.here [X₁.here.top, hexec, d3', Value.category]
  exact X₁.ldcString hexec (own := own) (text := text) (index := is) (a := sa) hown' hstr'.1 hstr'.2
    (g := { method := m, pc := pc + 4, locals := ls, stack := .ref T.heap.size :: .ref T.heap.size :: rest, locked := none }) rfl d4' _ hsteps
/-- 'throw new E("text")', the text by a wide index -/
theorem vx_throwSW {cc : ByteArray} {pc : Nat} (hexec : p.tables.exec = Jvm.exec) (hb : c.code = cc) (hl : l.stackTraces = false) {own cls text : String} {names : List String} {ik is ic mc ms sa : Nat} {A : Nat → Prop}
    (hown : s.vm.findClass own = some m.cls) (hcls : Bundle.fit cls = true) (hnames : ∀ n ∈ names, Bundle.fit n = true)
    (hk : (Cond.classLink own ik cls).before args s = true) (hini : (Cond.initialized cls).before args s = true) (hstr : vk_R own is text sa s) (hat : ∀ w ∈ vx_atS own ic cls names, w.before args s = true)
    (hgood : ∀ w ∈ Cond.classLink own ik cls :: Cond.initialized cls :: vx_atS own ic cls names, vx_ot w = true)
    (hU : vx_Zq Bundle.tN "UNASSIGNED_STACK" Bundle.steD A s s.heap) (hN : vx_Zq Bundle.tN "SUPPRESSED_SENTINEL" Bundle.listD A s s.heap) (hS : va_S A s.heap H locs) (hsize : ls.size = c.maxLocals)
    (d0 : decode cc pc = .ok (.new ik, 3)) (d3 : decode cc (pc + 3) = .ok (.dup, 1)) (d4 : decode cc (pc + 4) = .ok (.ldc_w is, 3)) (d7 : decode cc (pc + 7) = .ok (.invokespecial ic, 3)) (d10 : decode cc (pc + 10) = .ok (.athrow, 1))
    (hout : ∀ x ∈ c.exceptionTable.toList, covers x (pc + 10) = false)
    (hRframes : names.length + 3 < R.frames) (hRlocals : (rest.map fun v => v.category).sum + (13 * (names.length + 1) + 43) ≤ R.locals) (hRcells : cells + 1 ≤ R.cells) (hRslots : slots + 6 ≤ R.slots) (hlocks : meth.locks = false)
    (hx : ∀ t : State, s.vm.Alike t.vm → H.size ≤ t.heap.size → (∀ q : Nat, q < H.size → t.heap[q]? = H[q]?) → XC cls s t)
    (hf : ∀ z ∈ locs, free z.base) (hc : cells + 1 ≤ mc) (hs : slots + 6 ≤ ms) :
    W p l e R s m args below meth c H locs cells slots (vx_MQ below Qc XC args s mc ms free) (F0 m pc ls rest) := by
  intro T hT X
  have htr : e.platform.stackTraces = false := (show e.platform.stackTraces = l.stackTraces by rw [X.admits.platform]).trans hl
  have Y := vx_rebase X (R' := { frames := R.frames, locals := R.locals, cells := 1, slots := 6 }) (Nat.le_refl _) (Nat.le_refl _) hRcells hRslots
  obtain ⟨s', hA⟩ : ∃ z, z = (T.setVm s.vm).setFrames (.invoking m args :: below) := ⟨_, rfl⟩
  rw [← hA] at Y
  have hvm : s'.vm = s.vm := by rw [hA]; rfl
  have hhp : s'.heap = H := by rw [hA]; exact hT
  have hW0 : s.WarmedH s'.vm := by rw [hvm]; exact State.WarmedH.refl s
  have hat' : ∀ w ∈ vx_atS own ic cls names, w.before args s' = true := fun w hw => vx_ot_at hW0 hvm.symm (hgood w (List.mem_cons_of_mem _ (List.mem_cons_of_mem _ hw))) (hat w hw)
  have hk' : (Cond.classLink own ik cls).before args s' = true := vx_ot_at hW0 hvm.symm (hgood _ List.mem_cons_self) hk
  have hini' : (Cond.initialized cls).before args s' = true := vx_ot_at hW0 hvm.symm (hgood _ (List.mem_cons_of_mem _ List.mem_cons_self)) hini
  have hU' : vx_Zq Bundle.tN "UNASSIGNED_STACK" Bundle.steD A s' s'.heap := by rw [hhp]; exact vx_Zq.moved hW0.alike (hU.kept hS.2.1)
  have hN' : vx_Zq Bundle.tN "SUPPRESSED_SENTINEL" Bundle.listD A s' s'.heap := by rw [hhp]; exact vx_Zq.moved hW0.alike (hN.kept hS.2.1)
  have h : ∀ w ∈ Bundle.ownAtoms own ic cls names, w.before args s' = true := vx_own hat' (vx_isRefq hU'.1) (vx_isRefq hN'.1) hU'.2.word hN'.2.word
  have hown' : s'.vm.findClass own = some m.cls := by rw [hvm]; exact hown
  have hins : (Cond.instantiable cls 6).before args s' = true := h _ (by simp [Bundle.ownAtoms])
  obtain ⟨vm₁, cX, kX, hfX, hkX, -, -, X₁, st1⟩ := Y.newCold hexec (own := own) (C := cls) (index := ik) (n := 6) hown' hk' hins hini'
    (g := F0 m pc ls rest) rfl (by rw [hb]; exact d0) (Nat.le_refl _) (Nat.le_refl _)
  generalize hT1 : (T.setVm vm₁).pushCell { cls := cX, slots := kX.instanceTypes.map defaultValue, vm := .none } = T1 at X₁ st1
  have hcat : (Value.ref T.heap.size).category = 1 := rfl
  have hcellA : T1.heap[T.heap.size]? = some (freshCell cX kX) := by rw [← hT1]; exact State.heap_pushCell_size _ _
  have d3' : decode c.code (pc + 3) = .ok (.dup, 1) := by rw [hb]; exact d3
  have d4' : decode c.code (pc + 4) = .ok (.ldc_w is, 3) := by rw [hb]; exact d4
  have hstr' : vk_R own is text sa s' := vk_R.warm hW0 hstr
  obtain ⟨U, hsteps, hrun, hend, hW, hsame, ce, hce, hO⟩ := X₁.ctorThrowS hexec htr (own := own) (cls := cls) (names := names) (ic := ic) hown' hcls hnames h (fun x hx => nomatch hx) hfX hkX hcellA (by rw [hhp, hT]; exact Nat.le_refl _) (msg := .ref sa) rfl
    (g := { method := m, pc := pc + 7, locals := ls, stack := .ref sa :: .ref T.heap.size :: .ref T.heap.size :: rest, locked := none }) rfl hsize rfl rfl (rest := rest) rfl
    (by rw [hb]; exact d7) (by rw [hb]; exact d10) hout hRframes (by simp only [List.map_cons, List.sum_cons, hcat]; omega) hlocks
  obtain ⟨f1, f2⟩ := vx_frame hsame
  rw [hhp] at f1 f2
  have hWs : s.WarmedH U.vm := State.WarmedH.trans hW0 hW
  have hcl : s.vm.findClass cls = some ce.cls := by
    have h9 := hO.cls
    rw [hvm] at h9
    exact h9
  have hall : s.sameButNew ({ U with vm := s.vm } : State) locs mc ms := by
    subst hA
    obtain ⟨e1, e2⟩ := hsame
    rw [State.setFrames_setFrames] at e1
    have h2 : (T.setVm s.vm).sameButNew ({ U with vm := s.vm } : State) [] (0 + 1) (0 + 6) := ⟨e1, e2⟩
    have h3 := X.same.trans h2
    rw [List.append_nil] at h3
    exact h3.mono hc hs
  refine ⟨U, ?_, .threw T.heap.size, hrun, hend, Or.inr ⟨T.heap.size, rfl, cls, ce, locs, hx U hWs.alike f1 (fun q hq => f2 q hq (fun z hz => nomatch hz)), hce, hO.vm, hcl, hWs, hall, hf⟩⟩
  refine st1 _ ?_
  show Steps p.tables e below (T1.setTop { method := m, pc := pc + 3, locals := ls, stack := .ref T.heap.size :: rest, locked := none }) _
  jvm_step X₁.here [X₁.here.top, hexec, d3', Value.category]
  exact X₁.ldcStringW hexec (own := own) (text := text) (index := is) (a := sa) hown' hstr'.1 hstr'.2
    (g := { method := m, pc := pc + 4, locals := ls, stack := .ref T.heap.size :: .ref T.heap.size :: rest, locked := none }) rfl d4' _ hsteps
end Ends
section Bodies
variable {l : Launch}
theorem vx_ofW {y : MethodName} {ws ws' : List Cond} {rm : Room} {Pc : Array Value → State → Prop} {Qc : Array Value → State → Outcome → State → Prop} {XC : String → State → State → Prop} {mc ms : Nat} {free : Addr → Prop} {cc : ByteArray} {maxL : Nat} {ret : Option FieldType}
    (hy : plainName y.cls = true) (hw : ws = Cond.code y cc maxL ret :: ws')
    (body : ∀ p e s m args below meth c s₁, BodyLoose p l y (headSpec ws rm) cc maxL ret e s m args below meth c s₁ → c.maxLocals = maxL → (∀ x ∈ c.exceptionTable.toList, False) → Pc args s →
      W p l e (headSpec ws rm).room s m args below meth c s.heap [] 0 0 (vx_MQ below Qc XC args s mc ms free) (entryFrame m args maxL)) : vx_Met l y ws rm Pc Qc XC mc ms free := by
  refine MetFree.of_bodyS (code := cc) (maxLocals := maxL) (ret := ret) hy ?_ ?_
  · intro args s m h hn
    obtain ⟨meth, c, h1, h2, h3, h4, h5, h6, -, -⟩ := Cond.code_spec hn (atoms_spec (ws := ws) h _ (by rw [hw]; exact List.mem_cons_self))
    exact ⟨meth, c, h1, h2, h3, h4, h5, h6⟩
  · intro p e s m args below meth c s₁ B hml hP _
    have hh0 : s₁.heap = s.heap := by rw [B.state]; rfl
    have ht : ∀ x ∈ c.exceptionTable.toList, False := by
      obtain ⟨meth9, c9, h1, h2, -, -, -, -, h7, -⟩ := Cond.code_spec B.named (atoms_spec (ws := ws) B.pre _ (by rw [hw]; exact List.mem_cons_self))
      cases Option.some.inj (h1.symm.trans B.method)
      cases Option.some.inj (h2.symm.trans (Stand.of_body B).code)
      intro x hx
      rw [Array.isEmpty_iff.mp h7] at hx
      cases hx
    obtain ⟨t, a1, o, b1, b2, b3⟩ := body p e s m args below meth c s₁ B hml ht hP s₁ hh0 (Stand.of_body B)
    exact ⟨t, o, a1, b1, b2, b3⟩
/-- the table of a body with handlers -/
theorem vx_table {p : Program} {x y : MethodName} {S : Spec} {cc bytes : ByteArray} {maxL maxL' : Nat} {ret ret' : Option FieldType} {e : Env} {s s₁ : State} {m : MethodId} {args : Array Value} {below : List Frame} {meth : Method} {c : Code} {hh : List (Nat × Nat × Nat × Nat)}
    (B : BodyLoose p l y S cc maxL ret e s m args below meth c s₁) (h : (Cond.codeWith y bytes maxL' ret' hh).before args s = true) : c.exceptionTable.toList = tableOf hh := by
  obtain ⟨m9, meth9, c9, hn9, h1, h2, -, -, h6, -⟩ := Cond.codeWith_spec h
  cases Option.some.inj (hn9.symm.trans B.named)
  cases Option.some.inj (h1.symm.trans B.method)
  cases Option.some.inj (h2.symm.trans (Stand.of_body B).code)
  rw [← h6, table_eq]
end Bodies
end VXA
/-! ===== END ===== -/
/-! ===== BEGIN a static call of a method with an exception table ===== -/
section VXS
variable {p : Program} {l : Launch} {e : Env} {R : Room} {s : State} {m : MethodId} {args : Array Value} {below : List Frame} {meth : Method} {c : Code} {T : State} {H : Heap} {locs : List Loc} {cells slots : Nat}
abbrev vx_CSW (R : Room) (s : State) (args : Array Value) (own : String) (index : Nat) (y : MethodName) (bytes : ByteArray) (maxL : Nat) (ret : Option FieldType) (hh : List (Nat × Nat × Nat × Nat)) (ws : List Cond) (rm : Room) (mc ms n : Nat) : Prop :=
  (rm.cells = mc ∧ rm.slots = ms ∧ rm.frames + 1 ≤ R.frames ∧ 8 + (maxL + 11) + rm.locals ≤ R.locals ∧ (∀ w ∈ ws, ∀ (a' : Array Value) (U : State), s.WarmedH U.vm → w.before a' U = true) ∧ Cond.codeWith y bytes maxL ret hh ∈ ws) ∧
  (Cond.codeWith y bytes maxL ret hh).before args s = true ∧ (Cond.initialized y.cls).before args s = true ∧ (y.cls ≠ "java/lang/invoke/MethodHandle" ∧ y.cls ≠ "java/lang/invoke/VarHandle") ∧
  (∀ sig, parseMethodDescriptor y.desc = some sig → n = sig.parameters.length) ∧ (Cond.methodLink own index y).before args s = true ∧ (Cond.static y).before args s = true
theorem vx_cwSW {own : String} {index maxL mc ms : Nat} {y : MethodName} {bytes : ByteArray} {ret : Option FieldType} {hh : List (Nat × Nat × Nat × Nat)} {Ts ws ws' : List Cond} {rm : Room} (n : Nat) (ht : ∀ w ∈ Ts, w.before args s = true) (hT : GoodIn Ts (va_wsS own index y ws)) (hw : ws = Cond.codeWith y bytes maxL ret hh :: ws') (hrc : rm.cells = mc) (hrs : rm.slots = ms)
    (hd : y.cls ≠ "java/lang/invoke/MethodHandle" ∧ y.cls ≠ "java/lang/invoke/VarHandle" ∧ (parseMethodDescriptor y.desc).map (fun d => d.parameters.length) = some n) (hR : rm.frames + 1 ≤ R.frames ∧ 8 + (maxL + 11) + rm.locals ≤ R.locals) :
    vx_CSW R s args own index y bytes maxL ret hh ws rm mc ms n := by
  have ok : ∀ w ∈ va_wsS own index y ws, w.before args s = true := fun w h => ht w (hT w h).1
  have hG : GoodIn Ts ws := fun w h => hT w (by unfold va_wsS; exact List.mem_append_right _ h)
  have hc : Cond.codeWith y bytes maxL ret hh ∈ ws := by rw [hw]; exact List.mem_cons_self
  refine ⟨⟨hrc, hrs, hR.1, hR.2, pay_in ht hG, hc⟩, ht _ (hG _ hc).1, ok _ (by simp [va_wsS]), ⟨hd.1, hd.2.1⟩, fun sig h => ?_, ok _ (by simp [va_wsS]), ok _ (by simp [va_wsS])⟩
  have h2 := hd.2.2
  rw [h] at h2
  exact (Option.some.inj h2).symm
theorem vx_callSW (X : Stand p l e R s m args below meth c T locs cells slots) (hexec : p.tables.exec = Jvm.exec) {own : String} {index : Nat} {y : MethodName} {bytes : ByteArray} {maxL : Nat} {ret : Option FieldType} {hh : List (Nat × Nat × Nat × Nat)}
    (hown : s.vm.findClass own = some m.cls) (hlink : (Cond.methodLink own index y).before args s = true) (hstat : (Cond.static y).before args s = true) (hinit : (Cond.initialized y.cls).before args s = true)
    (hcode : (Cond.codeWith y bytes maxL ret hh).before args s = true) (hy : y.cls ≠ "java/lang/invoke/MethodHandle" ∧ y.cls ≠ "java/lang/invoke/VarHandle")
    {W9 : Nat} {Pre : Pt → Array Value → Prop} {Post : Pt → Array Value → Option Value → Pt → Prop} (hK : Back l R p e below s args y 3 W9 Pre Post)
    {g : JFrame} (hg : g.method = m) (hsize : g.locals.size = c.maxLocals) {argsL rest : List Value} (hlen : ∀ sig, parseMethodDescriptor y.desc = some sig → argsL.length = sig.parameters.length)
    (hstack : g.stack = argsL.reverse ++ rest) (hW : 2 * g.monitorRoom + (rest.map fun v => v.category).sum ≤ W9) (hdg : decode c.code g.pc = .ok (.invokestatic index, 3))
    (hpre : ∀ vm₁, s.WarmedH vm₁ → Pre ⟨T.setVm vm₁, locs, cells, slots⟩ argsL.toArray) :
    ∃ (v : Option Value) (vm₁ : Vm) (B : Pt), s.WarmedH vm₁ ∧ Stand p l e R s m args below meth c B.U B.locs B.cells B.slots ∧ Post ⟨T.setVm vm₁, locs, cells, slots⟩ argsL.toArray v B ∧
      ∀ target, Steps p.tables e below (B.U.setTop { g with pc := g.pc + 3, stack := v.toList ++ rest }) target → Steps p.tables e below (T.setTop g) target := by
  obtain ⟨mk, methM, cM, hnamed, hmethM, -, -, -, -, -, -, hsigM⟩ := Cond.codeWith_spec hcode
  have hstatic : methM.isStatic = true := Cond.static_spec hnamed hmethM hstat
  obtain ⟨kP, hkP, -⟩ := className_of_methodNamed hnamed
  have hinitP : kP.init = .initialized := Cond.initialized_spec (findClass_of_methodNamed hnamed) hkP hinit
  obtain ⟨vm₁, X₁, hstep₁⟩ := X.invokestatic hexec hown hlink hnamed hmethM hstatic hkP hinitP hy (g := g) hg (argsL := argsL) (rest := rest) (hlen _ hsigM) hstack hdg
  obtain ⟨v, B, X', hpost, hsteps⟩ := hK m meth c ⟨T.setVm vm₁, locs, cells, slots⟩ { g with stack := rest } (.invokestatic index) mk argsL.toArray X₁ hg hsize hdg hW (X₁.named hnamed) (hpre vm₁ X₁.warmed)
  exact ⟨v, vm₁, B, X₁.warmed, X', hpost, fun target h => hstep₁ _ fun acts => by rw [doInvoke_state]; exact hsteps.trans h⟩
theorem vx_runSW {y : MethodName} {bytes cc : ByteArray} {maxL nL mc ms n index : Nat} {ret : Option FieldType} {hh : List (Nat × Nat × Nat × Nat)} {ws : List Cond} {rm : Room} {Pc : Array Value → State → Prop} {Qc : Array Value → State → Outcome → State → Prop} {free : Addr → Prop} {Ts : List Cond} {own : String} {As rest : List Value} {g : JFrame}
    (S : CallFix p m c cc nL s args Ts own) (hM : Met l y ws rm Pc Qc mc ms free) (cw : vx_CSW R s args own index y bytes maxL ret hh ws rm mc ms n) (hp : PreS s H Pc As)
    (hg : g.method = m) (hn : As.length = n) (hsize : g.locals.size = nL) (hstack : g.stack = As.reverse ++ rest) (hW : 2 * g.monitorRoom + (rest.map fun v => v.category).sum ≤ 8) (hdg : decode cc g.pc = .ok (.invokestatic index, 3)) (hf : cells + mc ≤ R.cells ∧ slots + ms ≤ R.slots) :
    va_Run p l e R s m args below meth c H locs cells slots mc ms g rest (Qc As.toArray) (free) := by
  obtain ⟨⟨hrc, hrs, hfr, hlo, hws, hcw⟩, hcode, hini, hy, hlen, hl, hstt⟩ := cw
  have hK : Back l R p e below s args y 3 8 (PreOf R mc ms Pc) (PostOf Qc mc ms free) := va_backW (hh := hh) (bytes := bytes) (maxL := maxL) (ret := ret) hM hp.1 hrc hrs hfr hlo hws hcw (fun a' U hW => word_at hW (Or.inl (by first | rfl | simp [Cond.onTables, Cond.keeps, Cond.steady])) hini)
  obtain ⟨hx, hb, hml, ho, -⟩ := S
  intro T hT X
  obtain ⟨v, vm₁, ⟨U', l2, c2, s2⟩, hW₁, X', ⟨g', mk, t, L, e1, e2, hq, h1, hL, h2, h3⟩, st⟩ := vx_callSW X hx (hh := hh) (bytes := bytes) (maxL := maxL) (ret := ret) ho hl hstt hini hcode hy hK hg (hsize.trans hml.symm) (argsL := As) (rest := rest) (fun sig h => hn.trans (hlen sig h)) hstack hW (by rw [hb]; exact hdg)
    (fun vm₁ hW₁ => ⟨hf.1, hf.2, hp.2 (T.setVm vm₁) hT hW₁⟩)
  dsimp only [Pt.U, Pt.locs, Pt.cells, Pt.slots] at X' e1 e2 h1 h2 h3 st
  subst h1; subst h2; subst h3
  exact ⟨v, (T.setVm vm₁).calling g' mk As.toArray, t, U', L, hT, X', hL, e1, e2, hq, st⟩
/-- a thing of a world lies in the heap -/
theorem vx_lt {D : va_G} {cl : List vw_C} {ws : va_W} {H1 : Heap} (h : va_P D cl ws H1) {k : Nat} {q : Nat × va_E} (hk : ws[k]? = some q) : q.1 < H1.size := (h k q hk).lt
end VXS
/-! ===== END ===== -/
/-! ===== BEGIN methods with a table of their own: called by a name, returning or throwing ===== -/
section VXH
/-! vx_backW, vx_callVX, vx_callSX, vx_callVW, vx_runVW, vx_runVX, vx_runSX, vx_ofWH follow the same proofs as their sisters above (Free/Laws.lean, Shelf42/LK1.lean); vx_outP calls Shelf42/NT130.lean (outThrough). -/
section
variable {l : Launch} {R : Room} {p : Program} {e : Env} {below : List Frame} {s : State} {sargs : Array Value} {y : MethodName} {len W9 : Nat}
theorem vx_backW {ws : List Cond} {rm : Room} {Pc : Array Value → State → Prop} {Qc : Array Value → State → Outcome → State → Prop} {XC : String → State → State → Prop} {mc ms : Nat} {free : Addr → Prop} {bytes : ByteArray} {maxL : Nat} {ret : Option FieldType} {hh : List (Nat × Nat × Nat × Nat)}
    (hM : vx_Met l y ws rm Pc Qc XC mc ms free) (hblind : FrameBlind Pc) (hrc : rm.cells = mc) (hrs : rm.slots = ms)
    (hframes : rm.frames + 1 ≤ R.frames) (hlocals : W9 + (maxL + 11) + rm.locals ≤ R.locals)
    (hws : ∀ w ∈ ws, ∀ a' U, s.WarmedH U.vm → w.before a' U = true) (hcode : Cond.codeWith y bytes maxL ret hh ∈ ws) (hinit : ∀ a' U, s.WarmedH U.vm → (Cond.initialized y.cls).before a' U = true) :
    vx_Back l R p e below s sargs y len W9 (PreOf R mc ms Pc) (PostOf Qc mc ms free) (vx_Post XC mc ms free) := by
  intro m meth c A g ig mk a X hg hsize hdg hW hn hp
  have h1 : (headSpec ws rm).pre.before a A.U = true := atoms_intro fun w hw => hws w hw _ _ X.warmed
  have h2 : (Cond.codeWith y bytes maxL ret hh).before a A.U = true := hws _ hcode _ _ X.warmed
  have h3 : (Cond.initialized y.cls).before a A.U = true := hinit _ _ X.warmed
  have h4 : A.cells + (headSpec ws rm).room.cells ≤ R.cells := by rw [show (headSpec ws rm).room.cells = mc from hrc]; exact hp.1
  have h5 : A.slots + (headSpec ws rm).room.slots ≤ R.slots := by rw [show (headSpec ws rm).room.slots = ms from hrs]; exact hp.2.1
  have hPc : Pc a (A.U.calling g mk a) := hblind _ _ _ _ hp.2.2
  obtain ⟨U, Ls, c0, s0⟩ := A
  dsimp only [Pt.U, Pt.locs, Pt.cells, Pt.slots] at h1 h2 h3 h4 h5 X hn hPc ⊢
  obtain ⟨m9, methY, cY, hn9, hmY, hcY, -, hlY, -⟩ := Cond.codeWith_spec h2
  cases Option.some.inj (hn9.symm.trans hn)
  obtain ⟨kY, hkY, -⟩ := className_of_methodNamed hn
  have hinitY : kY.init = .initialized := Cond.initialized_spec (findClass_of_methodNamed hn) hkY h3
  have h : At U g.method c below := by rw [hg]; exact X.here
  have hlocals9 : W9 + (maxL + 11) + (headSpec ws rm).room.locals ≤ R.locals := hlocals
  have happ : (headSpec ws rm).appliesLoose y e.platform (U.calling g mk a) = true :=
    Spec.appliesLoose_calling (g := g) h hdg hn hkY hinitY
      (X.room_calling (g := g) (R' := (headSpec ws rm).room) hsize hmY hcY hframes (by rw [hlY]; omega) h4 h5) h1
  obtain ⟨mid, hmid⟩ := h.above
  have hfr : (U.setTop g).frames = (.java g :: mid) ++ below := by rw [State.frames_setTop' g h.top, hmid]; rfl
  obtain ⟨o, s₂, hsteps, -, hend, hq⟩ := Steps.callFree hM p X.admits X.cas X.clock (acts := []) hfr happ hPc trivial
  have hq' : vx_Q Qc XC mc ms free a (U.calling g mk a) o s₂ := hq
  rw [State.frames_setTop' g h.top] at hend
  obtain ⟨g₀, hg0⟩ := Option.isSome_iff_exists.mp h.top
  obtain ⟨r, hr⟩ := State.topJava?_eq_some.mp hg0
  have hr' : (({ U with heap := s₂.heap, slotsUsed := s₂.slotsUsed } : State).setVm s₂.vm).frames = .java g₀ :: r := hr
  rcases hq' with ⟨hqc, L, hfe, hL⟩ | ⟨q, rfl, E, ce, L, hx, hce, hcv, hcl, hW₂, hsm, hL⟩
  · obtain ⟨⟨v, rfl⟩, hW₂, e2, q2, q3, q4, q5, q6⟩ := id hfe
    have e3 : s₂ = ({ (U.calling g mk a).setFrames s₂.frames with heap := s₂.heap, slotsUsed := s₂.slotsUsed } : State).setVm s₂.vm := by
      have : s₂ = ({ s₂ with vm := (U.calling g mk a).vm } : State).setVm s₂.vm := rfl
      rw [e2] at this
      exact this
    obtain ⟨c₂, i₂, len₂, hc₂, hd₂, hf₂⟩ := hend
    have hW' : U.WarmedH s₂.vm := hW₂
    have hcc : c₂ = c := by
      have h1 : s₂.code? g.method = U.code? g.method := by
        rw [State.code?_eq, State.code?_eq, hW'.alike.method?]
      exact Option.some.inj (hc₂.symm.trans (h1.trans h.code))
    subst hcc
    have hlen : len₂ = len := by rw [hdg] at hd₂; cases hd₂; rfl
    subst hlen
    have hs₂ : s₂ = (({ U with heap := s₂.heap, slotsUsed := s₂.slotsUsed } : State).setVm s₂.vm).setTop { g with pc := g.pc + len₂, stack := v.toList ++ g.stack } := by
      refine e3.trans ?_
      rw [hf₂, State.calling_eq h.top, State.setFrames_setFrames, State.setTop_of_frames _ hr', hr]
      rfl
    have hsame : U.sameButNew ({ U with heap := s₂.heap, slotsUsed := s₂.slotsUsed } : State) L mc ms := by
      refine ⟨?_, q2, q3, q4, q5, q6⟩
      obtain ⟨t, ht, -⟩ := State.frames_cons hr
      show ({ U with heap := s₂.heap, slotsUsed := s₂.slotsUsed } : State) = { U.setFrames U.frames with heap := s₂.heap, slotsUsed := s₂.slotsUsed }
      rw [State.setFrames_self ht]
    subst hg
    refine Or.inl ⟨v, ⟨(({ U with heap := s₂.heap, slotsUsed := s₂.slotsUsed } : State).setVm s₂.vm), Ls ++ L, c0 + mc, s0 + ms⟩,
      ⟨X.admits, X.cas, X.clock, X.frames, X.room, X.hears, X.method, X.code, (X.here.setHeapUsed s₂.heap s₂.slotsUsed).setVm hW'.alike, X.tail, State.WarmedH.trans X.warmed hW', X.limits, X.bytes, X.same.trans (hsame.setVm s.vm)⟩,
      ⟨g, mk, s₂, L, rfl, rfl, hqc, rfl, hL, rfl, rfl⟩, ?_⟩
    show Steps p.tables e below _ ((({ U with heap := s₂.heap, slotsUsed := s₂.slotsUsed } : State).setVm s₂.vm).setTop { g with pc := g.pc + len₂, stack := v.toList ++ g.stack })
    rw [← hs₂]
    exact hsteps
  · obtain ⟨e2, q2, q3, q4, q5, q6⟩ := id hsm
    have e3 : s₂ = ({ (U.calling g mk a).setFrames s₂.frames with heap := s₂.heap, slotsUsed := s₂.slotsUsed } : State).setVm s₂.vm := by
      have : s₂ = ({ s₂ with vm := (U.calling g mk a).vm } : State).setVm s₂.vm := rfl
      rw [e2] at this
      exact this
    have hf₂ : s₂.frames = .throwing q :: .java g :: U.frames.tail := hend
    have hW' : U.WarmedH s₂.vm := hW₂
    have hs₂ : s₂ = ((({ U with heap := s₂.heap, slotsUsed := s₂.slotsUsed } : State).setVm s₂.vm).setTop g).pushFrame (.throwing q) := by
      refine e3.trans ?_
      rw [hf₂, State.calling_eq h.top, State.setFrames_setFrames, State.pushFrame, State.frames_setTop _ hr', State.setTop_of_frames _ hr', State.setFrames_setFrames, hr]
      rfl
    have hsame : U.sameButNew ({ U with heap := s₂.heap, slotsUsed := s₂.slotsUsed } : State) L mc ms := by
      refine ⟨?_, q2, q3, q4, q5, q6⟩
      obtain ⟨t, ht, -⟩ := State.frames_cons hr
      show ({ U with heap := s₂.heap, slotsUsed := s₂.slotsUsed } : State) = { U.setFrames U.frames with heap := s₂.heap, slotsUsed := s₂.slotsUsed }
      rw [State.setFrames_self ht]
    subst hg
    refine Or.inr ⟨q, ⟨(({ U with heap := s₂.heap, slotsUsed := s₂.slotsUsed } : State).setVm s₂.vm), Ls ++ L, c0 + mc, s0 + ms⟩,
      ⟨X.admits, X.cas, X.clock, X.frames, X.room, X.hears, X.method, X.code, (X.here.setHeapUsed s₂.heap s₂.slotsUsed).setVm hW'.alike, X.tail, State.WarmedH.trans X.warmed hW', X.limits, X.bytes, X.same.trans (hsame.setVm s.vm)⟩,
      ⟨g, mk, s₂, L, E, ce, rfl, rfl, hx, hce, hcv, hcl, rfl, hL, rfl, rfl⟩, ?_⟩
    show Steps p.tables e below _ (((({ U with heap := s₂.heap, slotsUsed := s₂.slotsUsed } : State).setVm s₂.vm).setTop g).pushFrame (.throwing q))
    rw [← hs₂]
    exact hsteps
end
variable {p : Program} {l : Launch} {e : Env} {R : Room} {s : State} {m : MethodId} {args : Array Value} {below : List Frame} {meth : Method} {c : Code} {T : State} {H : Heap} {locs : List Loc} {cells slots : Nat}
theorem vx_callVX (X : Stand p l e R s m args below meth c T locs cells slots) (hexec : p.tables.exec = Jvm.exec) {own C : String} {index : Nat} {y : MethodName} {bytes : ByteArray} {maxL : Nat} {ret : Option FieldType} {hh : List (Nat × Nat × Nat × Nat)}
    (hown : s.vm.findClass own = some m.cls) (hlink : (Cond.methodLink own index y).before args s = true) (hinst : (Cond.instanceMethod y).before args s = true) (hsel : (Cond.selects C y y).before args s = true)
    (hcode : (Cond.codeWith y bytes maxL ret hh).before args s = true) (hy : y.cls ≠ "java/lang/invoke/MethodHandle" ∧ y.cls ≠ "java/lang/invoke/VarHandle")
    {W9 : Nat} {Pre : Pt → Array Value → Prop} {Post : Pt → Array Value → Option Value → Pt → Prop} {PostX : Pt → Array Value → Addr → Pt → Prop} (hK : vx_Back l R p e below s args y 3 W9 Pre Post PostX)
    {b : Addr} {cellB : Cell} (hcell : T.heap[b]? = some cellB) (hobj : cellB.vm.isStatics = false) (hcls : s.vm.findClass C = some cellB.cls)
    {g : JFrame} (hg : g.method = m) (hsize : g.locals.size = c.maxLocals) {argsL rest : List Value} (hlen : ∀ sig, parseMethodDescriptor y.desc = some sig → argsL.length = sig.parameters.length)
    (hstack : g.stack = argsL.reverse ++ .ref b :: rest) (hW : 2 * g.monitorRoom + (rest.map fun v => v.category).sum ≤ W9) (hdg : decode c.code g.pc = .ok (.invokevirtual index, 3))
    (hpre : ∀ vm₁, s.WarmedH vm₁ → Pre ⟨T.setVm vm₁, locs, cells, slots⟩ (Value.ref b :: argsL).toArray) :
    (∃ (v : Option Value) (vm₁ : Vm) (B : Pt), s.WarmedH vm₁ ∧ Stand p l e R s m args below meth c B.U B.locs B.cells B.slots ∧ Post ⟨T.setVm vm₁, locs, cells, slots⟩ (Value.ref b :: argsL).toArray v B ∧
      ∀ target, Steps p.tables e below (B.U.setTop { g with pc := g.pc + 3, stack := v.toList ++ rest }) target → Steps p.tables e below (T.setTop g) target) ∨
    (∃ (q : Addr) (vm₁ : Vm) (B : Pt), s.WarmedH vm₁ ∧ Stand p l e R s m args below meth c B.U B.locs B.cells B.slots ∧ PostX ⟨T.setVm vm₁, locs, cells, slots⟩ (Value.ref b :: argsL).toArray q B ∧
      Steps p.tables e below (T.setTop g) ((B.U.setTop { g with stack := rest }).pushFrame (.throwing q))) := by
  obtain ⟨mk, methM, hnamed, hmethM, hstM, habM⟩ := Cond.instanceMethod_spec hinst
  obtain ⟨m8, methM', cM, hn8, hmethM', -, -, -, -, -, -, hsigM⟩ := Cond.codeWith_spec hcode
  cases Option.some.inj (hn8.symm.trans hnamed)
  cases hmethM.symm.trans hmethM'
  obtain ⟨c2, r2, m2, q1, q2, q3, q4, kP, hkP, hkPi⟩ := Cond.selects_spec hsel
  cases hcls.symm.trans q1
  cases (State.methodFound?_of_named hnamed hy).symm.trans q2
  cases hnamed.symm.trans q3
  have hselP : selectMethod e.platform s.vm cellB.cls mk = .method mk := by rw [Launch.admits_selectMethod X.admits]; exact q4
  obtain ⟨vm₁, X₁, hstep₁⟩ := X.invokevirtual hexec hown hlink hnamed hmethM hstM hkP hkPi hy (a := b) (cell := cellB) hcell
    (fun z h => by rw [h] at hobj; cases hobj) hselP hmethM habM hkP hkPi (g := g) hg (argsL := argsL) (rest := rest) (hlen _ hsigM) hstack hdg
  rcases hK m meth c ⟨T.setVm vm₁, locs, cells, slots⟩ { g with stack := rest } (.invokevirtual index) mk (Value.ref b :: argsL).toArray X₁ hg hsize hdg hW (X₁.named hnamed) (hpre vm₁ X₁.warmed) with ⟨v, B, X', hpost, hsteps⟩ | ⟨q, B, X', hpost, hsteps⟩
  · exact Or.inl ⟨v, vm₁, B, X₁.warmed, X', hpost, fun target h => hstep₁ _ fun acts => by rw [doInvoke_state]; exact hsteps.trans h⟩
  · exact Or.inr ⟨q, vm₁, B, X₁.warmed, X', hpost, hstep₁ _ fun acts => by rw [doInvoke_state]; exact hsteps⟩
theorem vx_callSX (X : Stand p l e R s m args below meth c T locs cells slots) (hexec : p.tables.exec = Jvm.exec) {own : String} {index : Nat} {y : MethodName} {bytes : ByteArray} {maxL : Nat} {ret : Option FieldType} {hh : List (Nat × Nat × Nat × Nat)}
    (hown : s.vm.findClass own = some m.cls) (hlink : (Cond.methodLink own index y).before args s = true) (hstat : (Cond.static y).before args s = true) (hinit : (Cond.initialized y.cls).before args s = true)
    (hcode : (Cond.codeWith y bytes maxL ret hh).before args s = true) (hy : y.cls ≠ "java/lang/invoke/MethodHandle" ∧ y.cls ≠ "java/lang/invoke/VarHandle")
    {W9 : Nat} {Pre : Pt → Array Value → Prop} {Post : Pt → Array Value → Option Value → Pt → Prop} {PostX : Pt → Array Value → Addr → Pt → Prop} (hK : vx_Back l R p e below s args y 3 W9 Pre Post PostX)
    {g : JFrame} (hg : g.method = m) (hsize : g.locals.size = c.maxLocals) {argsL rest : List Value} (hlen : ∀ sig, parseMethodDescriptor y.desc = some sig → argsL.length = sig.parameters.length)
    (hstack : g.stack = argsL.reverse ++ rest) (hW : 2 * g.monitorRoom + (rest.map fun v => v.category).sum ≤ W9) (hdg : decode c.code g.pc = .ok (.invokestatic index, 3))
    (hpre : ∀ vm₁, s.WarmedH vm₁ → Pre ⟨T.setVm vm₁, locs, cells, slots⟩ argsL.toArray) :
    (∃ (v : Option Value) (vm₁ : Vm) (B : Pt), s.WarmedH vm₁ ∧ Stand p l e R s m args below meth c B.U B.locs B.cells B.slots ∧ Post ⟨T.setVm vm₁, locs, cells, slots⟩ argsL.toArray v B ∧
      ∀ target, Steps p.tables e below (B.U.setTop { g with pc := g.pc + 3, stack := v.toList ++ rest }) target → Steps p.tables e below (T.setTop g) target) ∨
    (∃ (q : Addr) (vm₁ : Vm) (B : Pt), s.WarmedH vm₁ ∧ Stand p l e R s m args below meth c B.U B.locs B.cells B.slots ∧ PostX ⟨T.setVm vm₁, locs, cells, slots⟩ argsL.toArray q B ∧
      Steps p.tables e below (T.setTop g) ((B.U.setTop { g with stack := rest }).pushFrame (.throwing q))) := by
  obtain ⟨mk, methM, cM, hnamed, hmethM, -, -, -, -, -, -, hsigM⟩ := Cond.codeWith_spec hcode
  have hstatic : methM.isStatic = true := Cond.static_spec hnamed hmethM hstat
  obtain ⟨kP, hkP, -⟩ := className_of_methodNamed hnamed
  have hinitP : kP.init = .initialized := Cond.initialized_spec (findClass_of_methodNamed hnamed) hkP hinit
  obtain ⟨vm₁, X₁, hstep₁⟩ := X.invokestatic hexec hown hlink hnamed hmethM hstatic hkP hinitP hy (g := g) hg (argsL := argsL) (rest := rest) (hlen _ hsigM) hstack hdg
  rcases hK m meth c ⟨T.setVm vm₁, locs, cells, slots⟩ { g with stack := rest } (.invokestatic index) mk argsL.toArray X₁ hg hsize hdg hW (X₁.named hnamed) (hpre vm₁ X₁.warmed) with ⟨v, B, X', hpost, hsteps⟩ | ⟨q, B, X', hpost, hsteps⟩
  · exact Or.inl ⟨v, vm₁, B, X₁.warmed, X', hpost, fun target h => hstep₁ _ fun acts => by rw [doInvoke_state]; exact hsteps.trans h⟩
  · exact Or.inr ⟨q, vm₁, B, X₁.warmed, X', hpost, hstep₁ _ fun acts => by rw [doInvoke_state]; exact hsteps⟩
theorem vx_callVW (X : Stand p l e R s m args below meth c T locs cells slots) (hexec : p.tables.exec = Jvm.exec) {own C : String} {index : Nat} {y : MethodName} {bytes : ByteArray} {maxL : Nat} {ret : Option FieldType} {hh : List (Nat × Nat × Nat × Nat)}
    (hown : s.vm.findClass own = some m.cls) (hlink : (Cond.methodLink own index y).before args s = true) (hinst : (Cond.instanceMethod y).before args s = true) (hsel : (Cond.selects C y y).before args s = true)
    (hcode : (Cond.codeWith y bytes maxL ret hh).before args s = true) (hy : y.cls ≠ "java/lang/invoke/MethodHandle" ∧ y.cls ≠ "java/lang/invoke/VarHandle")
    {W9 : Nat} {Pre : Pt → Array Value → Prop} {Post : Pt → Array Value → Option Value → Pt → Prop} (hK : Back l R p e below s args y 3 W9 Pre Post)
    {b : Addr} {cellB : Cell} (hcell : T.heap[b]? = some cellB) (hobj : cellB.vm.isStatics = false) (hcls : s.vm.findClass C = some cellB.cls)
    {g : JFrame} (hg : g.method = m) (hsize : g.locals.size = c.maxLocals) {argsL rest : List Value} (hlen : ∀ sig, parseMethodDescriptor y.desc = some sig → argsL.length = sig.parameters.length)
    (hstack : g.stack = argsL.reverse ++ .ref b :: rest) (hW : 2 * g.monitorRoom + (rest.map fun v => v.category).sum ≤ W9) (hdg : decode c.code g.pc = .ok (.invokevirtual index, 3))
    (hpre : ∀ vm₁, s.WarmedH vm₁ → Pre ⟨T.setVm vm₁, locs, cells, slots⟩ (Value.ref b :: argsL).toArray) :
    ∃ (v : Option Value) (vm₁ : Vm) (B : Pt), s.WarmedH vm₁ ∧ Stand p l e R s m args below meth c B.U B.locs B.cells B.slots ∧ Post ⟨T.setVm vm₁, locs, cells, slots⟩ (Value.ref b :: argsL).toArray v B ∧
      ∀ target, Steps p.tables e below (B.U.setTop { g with pc := g.pc + 3, stack := v.toList ++ rest }) target → Steps p.tables e below (T.setTop g) target := by
  obtain ⟨mk, methM, hnamed, hmethM, hstM, habM⟩ := Cond.instanceMethod_spec hinst
  obtain ⟨m8, methM', cM, hn8, hmethM', -, -, -, -, -, -, hsigM⟩ := Cond.codeWith_spec hcode
  cases Option.some.inj (hn8.symm.trans hnamed)
  cases hmethM.symm.trans hmethM'
  obtain ⟨c2, r2, m2, q1, q2, q3, q4, kP, hkP, hkPi⟩ := Cond.selects_spec hsel
  cases hcls.symm.trans q1
  cases (State.methodFound?_of_named hnamed hy).symm.trans q2
  cases hnamed.symm.trans q3
  have hselP : selectMethod e.platform s.vm cellB.cls mk = .method mk := by rw [Launch.admits_selectMethod X.admits]; exact q4
  obtain ⟨vm₁, X₁, hstep₁⟩ := X.invokevirtual hexec hown hlink hnamed hmethM hstM hkP hkPi hy (a := b) (cell := cellB) hcell
    (fun z h => by rw [h] at hobj; cases hobj) hselP hmethM habM hkP hkPi (g := g) hg (argsL := argsL) (rest := rest) (hlen _ hsigM) hstack hdg
  obtain ⟨v, B, X', hpost, hsteps⟩ := hK m meth c ⟨T.setVm vm₁, locs, cells, slots⟩ { g with stack := rest } (.invokevirtual index) mk (Value.ref b :: argsL).toArray X₁ hg hsize hdg hW (X₁.named hnamed) (hpre vm₁ X₁.warmed)
  exact ⟨v, vm₁, B, X₁.warmed, X', hpost, fun target h => hstep₁ _ fun acts => by rw [doInvoke_state]; exact hsteps.trans h⟩
abbrev vx_CVW (R : Room) (s : State) (args : Array Value) (own C : String) (index : Nat) (y : MethodName) (bytes : ByteArray) (maxL : Nat) (ret : Option FieldType) (hh : List (Nat × Nat × Nat × Nat)) (ws : List Cond) (rm : Room) (mc ms n : Nat) : Prop :=
  (rm.cells = mc ∧ rm.slots = ms ∧ rm.frames + 1 ≤ R.frames ∧ 8 + (maxL + 11) + rm.locals ≤ R.locals ∧ (∀ w ∈ ws, ∀ (a' : Array Value) (U : State), s.WarmedH U.vm → w.before a' U = true) ∧ Cond.codeWith y bytes maxL ret hh ∈ ws) ∧
  (Cond.codeWith y bytes maxL ret hh).before args s = true ∧ (Cond.initialized y.cls).before args s = true ∧ (y.cls ≠ "java/lang/invoke/MethodHandle" ∧ y.cls ≠ "java/lang/invoke/VarHandle") ∧
  (∀ sig, parseMethodDescriptor y.desc = some sig → n = sig.parameters.length) ∧ (Cond.methodLink own index y).before args s = true ∧ (Cond.instanceMethod y).before args s = true ∧ (Cond.selects C y y).before args s = true
theorem vx_cwVW {own C : String} {index maxL mc ms : Nat} {y : MethodName} {bytes : ByteArray} {ret : Option FieldType} {hh : List (Nat × Nat × Nat × Nat)} {Ts ws ws' : List Cond} {rm : Room} (n : Nat) (ht : ∀ w ∈ Ts, w.before args s = true) (hT : GoodIn Ts (wsV own index C y ws)) (hw : ws = Cond.codeWith y bytes maxL ret hh :: ws') (hrc : rm.cells = mc) (hrs : rm.slots = ms)
    (hd : y.cls = C ∧ y.cls ≠ "java/lang/invoke/MethodHandle" ∧ y.cls ≠ "java/lang/invoke/VarHandle" ∧ (parseMethodDescriptor y.desc).map (fun d => d.parameters.length) = some n) (hR : rm.frames + 1 ≤ R.frames ∧ 8 + (maxL + 11) + rm.locals ≤ R.locals) :
    vx_CVW R s args own C index y bytes maxL ret hh ws rm mc ms n := by
  obtain ⟨hC, hd⟩ := hd
  subst hC
  have ok : ∀ w ∈ wsV own index y.cls y ws, w.before args s = true := fun w h => ht w (hT w h).1
  have hG : GoodIn Ts ws := fun w h => hT w (by unfold wsV; exact List.mem_append_right _ h)
  have hc : Cond.codeWith y bytes maxL ret hh ∈ ws := by rw [hw]; exact List.mem_cons_self
  refine ⟨⟨hrc, hrs, hR.1, hR.2, pay_in ht hG, hc⟩, ht _ (hG _ hc).1, ok _ (by simp [wsV]), ⟨hd.1, hd.2.1⟩, fun sig h => ?_, ok _ (by simp [wsV]), ok _ (by simp [wsV]), ok _ (by simp [wsV])⟩
  have h2 := hd.2.2
  rw [h] at h2
  exact (Option.some.inj h2).symm
theorem vx_runVW {y : MethodName} {bytes cc : ByteArray} {maxL nL mc ms n index : Nat} {ret : Option FieldType} {hh : List (Nat × Nat × Nat × Nat)} {ws : List Cond} {rm : Room} {Pc : Array Value → State → Prop} {Qc : Array Value → State → Outcome → State → Prop} {free : Addr → Prop} {Ts : List Cond} {own C : String} {b : Addr} {As rest : List Value} {g : JFrame}
    (S : CallFix p m c cc nL s args Ts own) (hM : Met l y ws rm Pc Qc mc ms free) (cw : vx_CVW R s args own C index y bytes maxL ret hh ws rm mc ms n) (hp : PreV s H C b Pc As)
    (hg : g.method = m) (hn : As.length = n) (hsize : g.locals.size = nL) (hstack : g.stack = As.reverse ++ .ref b :: rest) (hW : 2 * g.monitorRoom + (rest.map fun v => v.category).sum ≤ 8) (hdg : decode cc g.pc = .ok (.invokevirtual index, 3)) (hf : cells + mc ≤ R.cells ∧ slots + ms ≤ R.slots) :
    va_Run p l e R s m args below meth c H locs cells slots mc ms g rest (Qc (Value.ref b :: As).toArray) free := by
  obtain ⟨⟨hrc, hrs, hfr, hlo, hws, hcw⟩, hcode, hini, hy, hlen, hl, hin, hse⟩ := cw
  have hK : Back l R p e below s args y 3 8 (PreOf R mc ms Pc) (PostOf Qc mc ms free) := va_backW (hh := hh) (bytes := bytes) (maxL := maxL) (ret := ret) hM hp.1 hrc hrs hfr hlo hws hcw (fun a' U hW => word_at hW (Or.inl (by first | rfl | simp [Cond.onTables, Cond.keeps, Cond.steady])) hini)
  obtain ⟨hx, hb, hml, ho, -⟩ := S
  obtain ⟨-, ⟨cellB, hcB, hoB, hclB⟩, hPc⟩ := hp
  intro T hT X
  obtain ⟨v, vm₁, ⟨U', l2, c2, s2⟩, hW₁, X', ⟨g', mk, t, L, e1, e2, hq, h1, hL, h2, h3⟩, st⟩ := vx_callVW X hx (C := C) (hh := hh) (bytes := bytes) (maxL := maxL) (ret := ret) ho hl hin hse hcode hy hK (by rw [hT]; exact hcB) hoB hclB hg (hsize.trans hml.symm) (argsL := As) (rest := rest) (fun sig h => hn.trans (hlen sig h)) hstack hW (by rw [hb]; exact hdg)
    (fun vm₁ hW₁ => ⟨hf.1, hf.2, hPc (T.setVm vm₁) hT hW₁⟩)
  dsimp only [Pt.U, Pt.locs, Pt.cells, Pt.slots] at X' e1 e2 h1 h2 h3 st
  subst h1; subst h2; subst h3
  exact ⟨v, (T.setVm vm₁).calling g' mk (Value.ref b :: As).toArray, t, U', L, hT, X', hL, e1, e2, hq, st⟩
section
variable {y : MethodName} {bytes cc : ByteArray} {maxL nL mc ms n index : Nat} {ret : Option FieldType} {ws : List Cond} {rm : Room} {Pc : Array Value → State → Prop} {Qc : Array Value → State → Outcome → State → Prop} {XC : String → State → State → Prop} {free : Addr → Prop} {Ts : List Cond} {own C : String} {b : Addr} {As rest : List Value} {g : JFrame}
theorem vx_runVX {hh : List (Nat × Nat × Nat × Nat)} (S : CallFix p m c cc nL s args Ts own) (hM : vx_Met l y ws rm Pc Qc XC mc ms free) (cw : vx_CVW R s args own C index y bytes maxL ret hh ws rm mc ms n) (hp : PreV s H C b Pc As)
    (hg : g.method = m) (hn : As.length = n) (hsize : g.locals.size = nL) (hstack : g.stack = As.reverse ++ .ref b :: rest) (hW : 2 * g.monitorRoom + (rest.map fun v => v.category).sum ≤ 8) (hdg : decode cc g.pc = .ok (.invokevirtual index, 3)) (hf : cells + mc ≤ R.cells ∧ slots + ms ≤ R.slots) :
    vx_Run p l e R s m args below meth c H locs cells slots mc ms g rest (Qc (Value.ref b :: As).toArray) XC free := by
  obtain ⟨⟨hrc, hrs, hfr, hlo, hws, hcw⟩, hcode, hini, hy, hlen, hl, hin, hse⟩ := cw
  have hK : vx_Back l R p e below s args y 3 8 (PreOf R mc ms Pc) (PostOf Qc mc ms free) (vx_Post XC mc ms free) := vx_backW (hh := hh) (bytes := bytes) (maxL := maxL) (ret := ret) hM hp.1 hrc hrs hfr hlo hws hcw (fun a' U hW => word_at hW (Or.inl (by first | rfl | simp [Cond.onTables, Cond.keeps, Cond.steady])) hini)
  obtain ⟨hx, hb, hml, ho, -⟩ := S
  obtain ⟨-, ⟨cellB, hcB, hoB, hclB⟩, hPc⟩ := hp
  intro T hT X
  rcases vx_callVX X hx (C := C) (hh := hh) (bytes := bytes) (maxL := maxL) (ret := ret) ho hl hin hse hcode hy hK (by rw [hT]; exact hcB) hoB hclB hg (hsize.trans hml.symm) (argsL := As) (rest := rest) (fun sig h => hn.trans (hlen sig h)) hstack hW (by rw [hb]; exact hdg)
    (fun vm₁ hW₁ => ⟨hf.1, hf.2, hPc (T.setVm vm₁) hT hW₁⟩) with ⟨v, vm₁, ⟨U', l2, c2, s2⟩, hW₁, X', ⟨g', mk, t, L, e1, e2, hq, h1, hL, h2, h3⟩, st⟩ | ⟨q, vm₁, ⟨U', l2, c2, s2⟩, hW₁, X', ⟨g', mk, t, L, E, ce, e1, e2, hq, hce, hcv, hcl, h1, hL, h2, h3⟩, st⟩
  · dsimp only [Pt.U, Pt.locs, Pt.cells, Pt.slots] at X' e1 e2 h1 h2 h3 st
    subst h1; subst h2; subst h3
    exact Or.inl ⟨v, (T.setVm vm₁).calling g' mk (Value.ref b :: As).toArray, t, U', L, hT, X', hL, e1, e2, hq, st⟩
  · dsimp only [Pt.U, Pt.locs, Pt.cells, Pt.slots] at X' e1 e2 h1 h2 h3 st hcl
    subst h1; subst h2; subst h3
    exact Or.inr ⟨q, (T.setVm vm₁).calling g' mk (Value.ref b :: As).toArray, t, U', L, E, ce, hT, X', hL, e1, e2, hq, hce, hcv, vx_cls hW₁ hcl, st⟩
theorem vx_runSX {hh : List (Nat × Nat × Nat × Nat)} (S : CallFix p m c cc nL s args Ts own) (hM : vx_Met l y ws rm Pc Qc XC mc ms free) (cw : vx_CSW R s args own index y bytes maxL ret hh ws rm mc ms n) (hp : PreS s H Pc As)
    (hg : g.method = m) (hn : As.length = n) (hsize : g.locals.size = nL) (hstack : g.stack = As.reverse ++ rest) (hW : 2 * g.monitorRoom + (rest.map fun v => v.category).sum ≤ 8) (hdg : decode cc g.pc = .ok (.invokestatic index, 3)) (hf : cells + mc ≤ R.cells ∧ slots + ms ≤ R.slots) :
    vx_Run p l e R s m args below meth c H locs cells slots mc ms g rest (Qc As.toArray) XC free := by
  obtain ⟨⟨hrc, hrs, hfr, hlo, hws, hcw⟩, hcode, hini, hy, hlen, hl, hstt⟩ := cw
  have hK : vx_Back l R p e below s args y 3 8 (PreOf R mc ms Pc) (PostOf Qc mc ms free) (vx_Post XC mc ms free) := vx_backW (hh := hh) (bytes := bytes) (maxL := maxL) (ret := ret) hM hp.1 hrc hrs hfr hlo hws hcw (fun a' U hW => word_at hW (Or.inl (by first | rfl | simp [Cond.onTables, Cond.keeps, Cond.steady])) hini)
  obtain ⟨hx, hb, hml, ho, -⟩ := S
  intro T hT X
  rcases vx_callSX X hx (hh := hh) (bytes := bytes) (maxL := maxL) (ret := ret) ho hl hstt hini hcode hy hK hg (hsize.trans hml.symm) (argsL := As) (rest := rest) (fun sig h => hn.trans (hlen sig h)) hstack hW (by rw [hb]; exact hdg)
    (fun vm₁ hW₁ => ⟨hf.1, hf.2, hp.2 (T.setVm vm₁) hT hW₁⟩) with ⟨v, vm₁, ⟨U', l2, c2, s2⟩, hW₁, X', ⟨g', mk, t, L, e1, e2, hq, h1, hL, h2, h3⟩, st⟩ | ⟨q, vm₁, ⟨U', l2, c2, s2⟩, hW₁, X', ⟨g', mk, t, L, E, ce, e1, e2, hq, hce, hcv, hcl, h1, hL, h2, h3⟩, st⟩
  · dsimp only [Pt.U, Pt.locs, Pt.cells, Pt.slots] at X' e1 e2 h1 h2 h3 st
    subst h1; subst h2; subst h3
    exact Or.inl ⟨v, (T.setVm vm₁).calling g' mk As.toArray, t, U', L, hT, X', hL, e1, e2, hq, st⟩
  · dsimp only [Pt.U, Pt.locs, Pt.cells, Pt.slots] at X' e1 e2 h1 h2 h3 st hcl
    subst h1; subst h2; subst h3
    exact Or.inr ⟨q, (T.setVm vm₁).calling g' mk As.toArray, t, U', L, E, ce, hT, X', hL, e1, e2, hq, hce, hcv, vx_cls hW₁ hcl, st⟩
end
end VXH
theorem vx_ofWH {l : Launch} {y : MethodName} {ws ws' : List Cond} {rm : Room} {Pc : Array Value → State → Prop} {Qc : Array Value → State → Outcome → State → Prop} {XC : String → State → State → Prop} {mc ms : Nat} {free : Addr → Prop} {cc : ByteArray} {maxL : Nat} {ret : Option FieldType} {hh : List (Nat × Nat × Nat × Nat)}
    (hy : plainName y.cls = true) (hw : ws = Cond.codeWith y cc maxL ret hh :: ws')
    (body : ∀ p e s m args below meth c s₁, BodyLoose p l y (headSpec ws rm) cc maxL ret e s m args below meth c s₁ → c.maxLocals = maxL → Pc args s →
      W p l e (headSpec ws rm).room s m args below meth c s.heap [] 0 0 (vx_MQ below Qc XC args s mc ms free) (entryFrame m args maxL)) : vx_Met l y ws rm Pc Qc XC mc ms free := by
  refine MetFree.of_bodyS (code := cc) (maxLocals := maxL) (ret := ret) hy ?_ ?_
  · intro args s m h hn
    obtain ⟨m9, meth, c, hn9, h1, h2, h3, h4, -, h5, h6, -⟩ := Cond.codeWith_spec (atoms_spec (ws := ws) h _ (by rw [hw]; exact List.mem_cons_self))
    cases hn.symm.trans hn9
    exact ⟨meth, c, h1, h2, h3, h4, h5, h6⟩
  · intro p e s m args below meth c s₁ B hml hP _
    have hh0 : s₁.heap = s.heap := by rw [B.state]; rfl
    obtain ⟨t, a1, o, b1, b2, b3⟩ := body p e s m args below meth c s₁ B hml hP s₁ hh0 (Stand.of_body B)
    exact ⟨t, o, a1, b1, b2, b3⟩
/-! ===== END ===== -/
end
section
def RX0 : String := "ProtoDesk$Bytes"
def TX0 : u_T := fun k => match k with
  | 0 => ("ProtoDesk$Bytes", "row", "[B", true)
  | 1 => ("ProtoDesk$Bytes", "size", "I", false)
  | _ => ("ProtoDesk$Bytes", "spilt", "Z", false)
def tyX0 : Nat → FieldType := fun k => match k with
  | 0 => .array .byte
  | 1 => .int
  | _ => .boolean
abbrev wsX00 : List Cond := u_ws RX0 TX0 3
theorem nmX0 : ∀ a, a < 3 → ∀ b, b < 3 → a ≠ b → (TX0 a).2.1 ≠ (TX0 b).2.1 := by decide +kernel
theorem tyX0_ok : ∀ k, k < 3 → parseFieldDescriptor (TX0 k).2.2.1 = some (tyX0 k) := by decide +kernel
abbrev cX0_init : ByteArray := prog_2_method_1_code
def yX0_init : MethodName := ⟨RX0, "<init>", "(I)V"⟩
abbrev cX0_size : ByteArray := prog_2_method_2_code
def yX0_size : MethodName := ⟨RX0, "size", "()I"⟩
abbrev cX0_isSpilt : ByteArray := prog_2_method_3_code
def yX0_isSpilt : MethodName := ⟨RX0, "isSpilt", "()Z"⟩
abbrev cX0_clear : ByteArray := prog_2_method_4_code
def yX0_clear : MethodName := ⟨RX0, "clear", "()V"⟩
abbrev cX0_at : ByteArray := prog_2_method_5_code
def yX0_at : MethodName := ⟨RX0, "at", "(I)I"⟩
abbrev cX0_add : ByteArray := prog_2_method_6_code
def yX0_add : MethodName := ⟨RX0, "add", "(I)V"⟩
abbrev cX0_addAll : ByteArray := prog_2_method_7_code
def yX0_addAll : MethodName := ⟨RX0, "addAll", "(LProtoDesk$Bytes;II)V"⟩
abbrev cX0_addText : ByteArray := prog_2_method_8_code
def yX0_addText : MethodName := ⟨RX0, "addText", "(Ljava/lang/String;)V"⟩
abbrev cX0_addVarint : ByteArray := prog_2_method_9_code
def yX0_addVarint : MethodName := ⟨RX0, "addVarint", "(J)V"⟩
abbrev cX0_addFixed : ByteArray := prog_2_method_10_code
def yX0_addFixed : MethodName := ⟨RX0, "addFixed", "(JI)V"⟩
abbrev cX0_insertLength : ByteArray := prog_2_method_11_code
def yX0_insertLength : MethodName := ⟨RX0, "insertLength", "(I)V"⟩
abbrev cX0_isSame : ByteArray := prog_2_method_12_code
def yX0_isSame : MethodName := ⟨RX0, "isSame", "(ILProtoDesk$Bytes;II)Z"⟩
abbrev cX0_wordIn : ByteArray := prog_2_method_13_code
def yX0_wordIn : MethodName := ⟨RX0, "wordIn", "(Ljava/lang/String;II)I"⟩
abbrev cX0_isUtf8 : ByteArray := prog_2_method_14_code
def yX0_isUtf8 : MethodName := ⟨RX0, "isUtf8", "(II)Z"⟩
def RX1 : String := "ProtoDesk$Checker"
def TX1 : u_T := fun k => match k with
  | 0 => ("ProtoDesk$Checker", "given", "LProtoDesk$Bytes;", true)
  | 1 => ("ProtoDesk$Checker", "fields", "[LProtoDesk$Item;", true)
  | 2 => ("ProtoDesk$Checker", "messages", "[LProtoDesk$Item;", true)
  | 3 => ("ProtoDesk$Checker", "met", "[Z", true)
  | _ => ("ProtoDesk$Checker", "steps", "I", false)
def tyX1 : Nat → FieldType := fun k => match k with
  | 0 => .object "ProtoDesk$Bytes"
  | 1 => .array (.object "ProtoDesk$Item")
  | 2 => .array (.object "ProtoDesk$Item")
  | 3 => .array .boolean
  | _ => .int
abbrev wsX10 : List Cond := u_ws RX1 TX1 5
theorem nmX1 : ∀ a, a < 5 → ∀ b, b < 5 → a ≠ b → (TX1 a).2.1 ≠ (TX1 b).2.1 := by decide +kernel
theorem tyX1_ok : ∀ k, k < 5 → parseFieldDescriptor (TX1 k).2.2.1 = some (tyX1 k) := by decide +kernel
abbrev cX1_init : ByteArray := prog_3_method_1_code
def yX1_init : MethodName := ⟨RX1, "<init>", "(LProtoDesk$Bytes;)V"⟩
abbrev cX1_compare : ByteArray := prog_3_method_2_code
def yX1_compare : MethodName := ⟨RX1, "compare", "(LProtoDesk$Item;LProtoDesk$Item;)I"⟩
abbrev cX1_enter : ByteArray := prog_3_method_3_code
def yX1_enter : MethodName := ⟨RX1, "enter", "(LProtoDesk$Item;LProtoDesk$Item;)Z"⟩
abbrev cX1_look : ByteArray := prog_3_method_4_code
def yX1_look : MethodName := ⟨RX1, "look", "()I"⟩
abbrev cX1_isTornApart : ByteArray := prog_3_method_5_code
def yX1_isTornApart : MethodName := ⟨RX1, "isTornApart", "(LProtoDesk$Item;LProtoDesk$Item;LProtoDesk$Item;)Z"⟩
abbrev cX1_isUnderstood : ByteArray := prog_3_method_6_code
def yX1_isUnderstood : MethodName := ⟨RX1, "isUnderstood", "(II)Z"⟩
abbrev cX1_tellWay : ByteArray := prog_3_method_7_code
def yX1_tellWay : MethodName := ⟨RX1, "tellWay", "()V"⟩
def RX2 : String := "ProtoDesk$Compiler"
def TX2 : u_T := fun k => match k with
  | 0 => ("ProtoDesk$Compiler", "schema", "LProtoDesk$Schema;", true)
  | 1 => ("ProtoDesk$Compiler", "words", "LProtoDesk$Words;", true)
  | 2 => ("ProtoDesk$Compiler", "reader", "LProtoDesk$Reader;", true)
  | 3 => ("ProtoDesk$Compiler", "fault", "I", false)
  | _ => ("ProtoDesk$Compiler", "faultAt", "I", false)
def tyX2 : Nat → FieldType := fun k => match k with
  | 0 => .object "ProtoDesk$Schema"
  | 1 => .object "ProtoDesk$Words"
  | 2 => .object "ProtoDesk$Reader"
  | 3 => .int
  | _ => .int
abbrev wsX20 : List Cond := u_ws RX2 TX2 5
theorem nmX2 : ∀ a, a < 5 → ∀ b, b < 5 → a ≠ b → (TX2 a).2.1 ≠ (TX2 b).2.1 := by decide +kernel
theorem tyX2_ok : ∀ k, k < 5 → parseFieldDescriptor (TX2 k).2.2.1 = some (tyX2 k) := by decide +kernel
abbrev cX2_init : ByteArray := prog_4_method_1_code
def yX2_init : MethodName := ⟨RX2, "<init>", "()V"⟩
abbrev cX2_schema : ByteArray := prog_4_method_2_code
def yX2_schema : MethodName := ⟨RX2, "schema", "()LProtoDesk$Schema;"⟩
abbrev cX2_faultAt : ByteArray := prog_4_method_3_code
def yX2_faultAt : MethodName := ⟨RX2, "faultAt", "()I"⟩
abbrev cX2_run : ByteArray := prog_4_method_4_code
def yX2_run : MethodName := ⟨RX2, "run", "(LProtoDesk$Bytes;)I"⟩
abbrev cX2_fail : ByteArray := prog_4_method_5_code
def yX2_fail : MethodName := ⟨RX2, "fail", "(II)V"⟩
abbrev cX2_judge : ByteArray := prog_4_method_6_code
def yX2_judge : MethodName := ⟨RX2, "judge", "(LProtoDesk$Item;I)V"⟩
abbrev cX2_isTaken : ByteArray := prog_4_method_7_code
def yX2_isTaken : MethodName := ⟨RX2, "isTaken", "(LProtoDesk$Item;I)Z"⟩
abbrev cX2_judgeField : ByteArray := prog_4_method_8_code
def yX2_judgeField : MethodName := ⟨RX2, "judgeField", "(LProtoDesk$Item;)V"⟩
abbrev cX2_judgeValue : ByteArray := prog_4_method_9_code
def yX2_judgeValue : MethodName := ⟨RX2, "judgeValue", "(LProtoDesk$Item;)V"⟩
abbrev cX2_findsType : ByteArray := prog_4_method_10_code
def yX2_findsType : MethodName := ⟨RX2, "findsType", "(LProtoDesk$Item;)Z"⟩
abbrev cX2_typeAround : ByteArray := prog_4_method_11_code
def yX2_typeAround : MethodName := ⟨RX2, "typeAround", "(LProtoDesk$Item;I)LProtoDesk$Item;"⟩
abbrev cX2_isTooMuch : ByteArray := prog_4_method_12_code
def yX2_isTooMuch : MethodName := ⟨RX2, "isTooMuch", "()Z"⟩
def RX3 : String := "ProtoDesk$Item"
def TX3 : u_T := fun k => match k with
  | 0 => ("ProtoDesk$Item", "kind", "I", false)
  | 1 => ("ProtoDesk$Item", "index", "I", false)
  | 2 => ("ProtoDesk$Item", "scope", "LProtoDesk$Item;", false)
  | 3 => ("ProtoDesk$Item", "owner", "LProtoDesk$Item;", false)
  | 4 => ("ProtoDesk$Item", "nameAt", "I", false)
  | 5 => ("ProtoDesk$Item", "nameEnd", "I", false)
  | 6 => ("ProtoDesk$Item", "number", "J", false)
  | 7 => ("ProtoDesk$Item", "numberAt", "I", false)
  | 8 => ("ProtoDesk$Item", "type", "I", false)
  | 9 => ("ProtoDesk$Item", "typeWord", "I", false)
  | 10 => ("ProtoDesk$Item", "target", "LProtoDesk$Item;", false)
  | 11 => ("ProtoDesk$Item", "repeated", "Z", false)
  | 12 => ("ProtoDesk$Item", "packed", "Z", false)
  | 13 => ("ProtoDesk$Item", "unpacked", "Z", false)
  | 14 => ("ProtoDesk$Item", "packedAt", "I", false)
  | 15 => ("ProtoDesk$Item", "first", "LProtoDesk$Item;", false)
  | _ => ("ProtoDesk$Item", "next", "LProtoDesk$Item;", false)
def tyX3 : Nat → FieldType := fun k => match k with
  | 0 => .int
  | 1 => .int
  | 2 => .object "ProtoDesk$Item"
  | 3 => .object "ProtoDesk$Item"
  | 4 => .int
  | 5 => .int
  | 6 => .long
  | 7 => .int
  | 8 => .int
  | 9 => .int
  | 10 => .object "ProtoDesk$Item"
  | 11 => .boolean
  | 12 => .boolean
  | 13 => .boolean
  | 14 => .int
  | 15 => .object "ProtoDesk$Item"
  | _ => .object "ProtoDesk$Item"
abbrev wsX30 : List Cond := u_ws RX3 TX3 17
theorem nmX3 : ∀ a, a < 17 → ∀ b, b < 17 → a ≠ b → (TX3 a).2.1 ≠ (TX3 b).2.1 := by decide +kernel
theorem tyX3_ok : ∀ k, k < 17 → parseFieldDescriptor (TX3 k).2.2.1 = some (tyX3 k) := by decide +kernel
abbrev cX3_init : ByteArray := prog_5_method_1_code
def yX3_init : MethodName := ⟨RX3, "<init>", "()V"⟩
abbrev cX3_begin : ByteArray := prog_5_method_2_code
def yX3_begin : MethodName := ⟨RX3, "begin", "(IILProtoDesk$Item;LProtoDesk$Item;II)V"⟩
abbrev cX3_isType : ByteArray := prog_5_method_3_code
def yX3_isType : MethodName := ⟨RX3, "isType", "()Z"⟩
abbrev cX3_memberAt : ByteArray := prog_5_method_4_code
def yX3_memberAt : MethodName := ⟨RX3, "memberAt", "(I)LProtoDesk$Item;"⟩
abbrev cX3_memberNumbered : ByteArray := prog_5_method_5_code
def yX3_memberNumbered : MethodName := ⟨RX3, "memberNumbered", "(J)LProtoDesk$Item;"⟩
abbrev cX3_insert : ByteArray := prog_5_method_6_code
def yX3_insert : MethodName := ⟨RX3, "insert", "(LProtoDesk$Item;)V"⟩
abbrev cX3_append : ByteArray := prog_5_method_7_code
def yX3_append : MethodName := ⟨RX3, "append", "(LProtoDesk$Item;)V"⟩
def RX4 : String := "ProtoDesk$Node"
def TX4 : u_T := fun k => match k with
  | 0 => ("ProtoDesk$Node", "field", "LProtoDesk$Item;", false)
  | 1 => ("ProtoDesk$Node", "next", "LProtoDesk$Node;", false)
  | 2 => ("ProtoDesk$Node", "first", "LProtoDesk$Node;", false)
  | 3 => ("ProtoDesk$Node", "recent", "LProtoDesk$Node;", false)
  | 4 => ("ProtoDesk$Node", "number", "J", false)
  | 5 => ("ProtoDesk$Node", "from", "I", false)
  | _ => ("ProtoDesk$Node", "to", "I", false)
def tyX4 : Nat → FieldType := fun k => match k with
  | 0 => .object "ProtoDesk$Item"
  | 1 => .object "ProtoDesk$Node"
  | 2 => .object "ProtoDesk$Node"
  | 3 => .object "ProtoDesk$Node"
  | 4 => .long
  | 5 => .int
  | _ => .int
abbrev wsX40 : List Cond := u_ws RX4 TX4 7
theorem nmX4 : ∀ a, a < 7 → ∀ b, b < 7 → a ≠ b → (TX4 a).2.1 ≠ (TX4 b).2.1 := by decide +kernel
theorem tyX4_ok : ∀ k, k < 7 → parseFieldDescriptor (TX4 k).2.2.1 = some (tyX4 k) := by decide +kernel
abbrev cX4_init : ByteArray := prog_6_method_1_code
def yX4_init : MethodName := ⟨RX4, "<init>", "()V"⟩
abbrev cX4_begin : ByteArray := prog_6_method_2_code
def yX4_begin : MethodName := ⟨RX4, "begin", "(LProtoDesk$Item;)V"⟩
abbrev cX4_isNothing : ByteArray := prog_6_method_3_code
def yX4_isNothing : MethodName := ⟨RX4, "isNothing", "()Z"⟩
def RX5 : String := "ProtoDesk$Reader"
def TX5 : u_T := fun k => match k with
  | 0 => ("ProtoDesk$Reader", "schema", "LProtoDesk$Schema;", true)
  | 1 => ("ProtoDesk$Reader", "words", "LProtoDesk$Words;", true)
  | 2 => ("ProtoDesk$Reader", "message", "LProtoDesk$Item;", false)
  | 3 => ("ProtoDesk$Reader", "oneof", "LProtoDesk$Item;", false)
  | 4 => ("ProtoDesk$Reader", "enumeration", "LProtoDesk$Item;", false)
  | 5 => ("ProtoDesk$Reader", "bare", "Z", false)
  | 6 => ("ProtoDesk$Reader", "at", "I", false)
  | _ => ("ProtoDesk$Reader", "fault", "I", false)
def tyX5 : Nat → FieldType := fun k => match k with
  | 0 => .object "ProtoDesk$Schema"
  | 1 => .object "ProtoDesk$Words"
  | 2 => .object "ProtoDesk$Item"
  | 3 => .object "ProtoDesk$Item"
  | 4 => .object "ProtoDesk$Item"
  | 5 => .boolean
  | 6 => .int
  | _ => .int
abbrev wsX50 : List Cond := u_ws RX5 TX5 8
theorem nmX5 : ∀ a, a < 8 → ∀ b, b < 8 → a ≠ b → (TX5 a).2.1 ≠ (TX5 b).2.1 := by decide +kernel
theorem tyX5_ok : ∀ k, k < 8 → parseFieldDescriptor (TX5 k).2.2.1 = some (tyX5 k) := by decide +kernel
abbrev cX5_init : ByteArray := prog_7_method_1_code
def yX5_init : MethodName := ⟨RX5, "<init>", "(LProtoDesk$Schema;LProtoDesk$Words;)V"⟩
abbrev cX5_read : ByteArray := prog_7_method_2_code
def yX5_read : MethodName := ⟨RX5, "read", "()I"⟩
abbrev cX5_endPlace : ByteArray := prog_7_method_3_code
def yX5_endPlace : MethodName := ⟨RX5, "endPlace", "()I"⟩
abbrev cX5_isAtEnd : ByteArray := prog_7_method_4_code
def yX5_isAtEnd : MethodName := ⟨RX5, "isAtEnd", "()Z"⟩
abbrev cX5_takes : ByteArray := prog_7_method_5_code
def yX5_takes : MethodName := ⟨RX5, "takes", "(I)Z"⟩
abbrev cX5_takesWord : ByteArray := prog_7_method_6_code
def yX5_takesWord : MethodName := ⟨RX5, "takesWord", "(I)Z"⟩
abbrev cX5_readSyntax : ByteArray := prog_7_method_7_code
def yX5_readSyntax : MethodName := ⟨RX5, "readSyntax", "()Z"⟩
abbrev cX5_isForbidden : ByteArray := prog_7_method_8_code
def yX5_isForbidden : MethodName := ⟨RX5, "isForbidden", "()Z"⟩
abbrev cX5_readMember : ByteArray := prog_7_method_9_code
def yX5_readMember : MethodName := ⟨RX5, "readMember", "()Z"⟩
abbrev cX5_begin : ByteArray := prog_7_method_10_code
def yX5_begin : MethodName := ⟨RX5, "begin", "(I)Z"⟩
abbrev cX5_readName : ByteArray := prog_7_method_11_code
def yX5_readName : MethodName := ⟨RX5, "readName", "(I)LProtoDesk$Item;"⟩
abbrev cX5_readValue : ByteArray := prog_7_method_12_code
def yX5_readValue : MethodName := ⟨RX5, "readValue", "()Z"⟩
abbrev cX5_readChoice : ByteArray := prog_7_method_13_code
def yX5_readChoice : MethodName := ⟨RX5, "readChoice", "()Z"⟩
abbrev cX5_readField : ByteArray := prog_7_method_14_code
def yX5_readField : MethodName := ⟨RX5, "readField", "()Z"⟩
abbrev cX5_readTypeName : ByteArray := prog_7_method_15_code
def yX5_readTypeName : MethodName := ⟨RX5, "readTypeName", "()Z"⟩
abbrev cX5_readNumber : ByteArray := prog_7_method_16_code
def yX5_readNumber : MethodName := ⟨RX5, "readNumber", "(LProtoDesk$Item;Z)Z"⟩
abbrev cX5_readPacked : ByteArray := prog_7_method_17_code
def yX5_readPacked : MethodName := ⟨RX5, "readPacked", "(LProtoDesk$Item;)Z"⟩
def RX6 : String := "ProtoDesk$Schema"
def TX6 : u_T := fun k => match k with
  | 0 => ("ProtoDesk$Schema", "text", "LProtoDesk$Bytes;", true)
  | 1 => ("ProtoDesk$Schema", "items", "[LProtoDesk$Item;", true)
  | 2 => ("ProtoDesk$Schema", "counts", "[I", true)
  | 3 => ("ProtoDesk$Schema", "used", "I", false)
  | _ => ("ProtoDesk$Schema", "nameBytes", "I", false)
def tyX6 : Nat → FieldType := fun k => match k with
  | 0 => .object "ProtoDesk$Bytes"
  | 1 => .array (.object "ProtoDesk$Item")
  | 2 => .array .int
  | 3 => .int
  | _ => .int
abbrev wsX60 : List Cond := u_ws RX6 TX6 5
theorem nmX6 : ∀ a, a < 5 → ∀ b, b < 5 → a ≠ b → (TX6 a).2.1 ≠ (TX6 b).2.1 := by decide +kernel
theorem tyX6_ok : ∀ k, k < 5 → parseFieldDescriptor (TX6 k).2.2.1 = some (tyX6 k) := by decide +kernel
abbrev cX6_init : ByteArray := prog_8_method_1_code
def yX6_init : MethodName := ⟨RX6, "<init>", "()V"⟩
abbrev cX6_text : ByteArray := prog_8_method_2_code
def yX6_text : MethodName := ⟨RX6, "text", "()LProtoDesk$Bytes;"⟩
abbrev cX6_clear : ByteArray := prog_8_method_3_code
def yX6_clear : MethodName := ⟨RX6, "clear", "()V"⟩
abbrev cX6_count : ByteArray := prog_8_method_4_code
def yX6_count : MethodName := ⟨RX6, "count", "(I)I"⟩
abbrev cX6_nameBytes : ByteArray := prog_8_method_5_code
def yX6_nameBytes : MethodName := ⟨RX6, "nameBytes", "()I"⟩
abbrev cX6_used : ByteArray := prog_8_method_6_code
def yX6_used : MethodName := ⟨RX6, "used", "()I"⟩
abbrev cX6_item : ByteArray := prog_8_method_7_code
def yX6_item : MethodName := ⟨RX6, "item", "(I)LProtoDesk$Item;"⟩
abbrev cX6_declare : ByteArray := prog_8_method_8_code
def yX6_declare : MethodName := ⟨RX6, "declare", "(ILProtoDesk$Item;LProtoDesk$Item;II)LProtoDesk$Item;"⟩
abbrev cX6_message : ByteArray := prog_8_method_9_code
def yX6_message : MethodName := ⟨RX6, "message", "(I)LProtoDesk$Item;"⟩
abbrev cX6_isCalled : ByteArray := prog_8_method_10_code
def yX6_isCalled : MethodName := ⟨RX6, "isCalled", "(LProtoDesk$Item;LProtoDesk$Bytes;II)Z"⟩
abbrev cX6_typeIn : ByteArray := prog_8_method_11_code
def yX6_typeIn : MethodName := ⟨RX6, "typeIn", "(LProtoDesk$Item;II)LProtoDesk$Item;"⟩
abbrev cX6_memberCalled : ByteArray := prog_8_method_12_code
def yX6_memberCalled : MethodName := ⟨RX6, "memberCalled", "(LProtoDesk$Item;LProtoDesk$Bytes;II)LProtoDesk$Item;"⟩
abbrev cX6_numberOf : ByteArray := prog_8_method_13_code
def yX6_numberOf : MethodName := ⟨RX6, "numberOf", "(LProtoDesk$Bytes;)I"⟩
abbrev cX6_isFullName : ByteArray := prog_8_method_14_code
def yX6_isFullName : MethodName := ⟨RX6, "isFullName", "(LProtoDesk$Item;LProtoDesk$Bytes;)Z"⟩
def RX7 : String := "ProtoDesk$TextForm"
def TX7 : u_T := fun k => match k with
  | 0 => ("ProtoDesk$TextForm", "tape", "LProtoDesk$Bytes;", true)
  | 1 => ("ProtoDesk$TextForm", "value", "LProtoDesk$Tree;", true)
  | 2 => ("ProtoDesk$TextForm", "given", "LProtoDesk$Bytes;", true)
  | 3 => ("ProtoDesk$TextForm", "digits", "[B", true)
  | 4 => ("ProtoDesk$TextForm", "at", "I", false)
  | 5 => ("ProtoDesk$TextForm", "limit", "I", false)
  | _ => ("ProtoDesk$TextForm", "number", "J", false)
def tyX7 : Nat → FieldType := fun k => match k with
  | 0 => .object "ProtoDesk$Bytes"
  | 1 => .object "ProtoDesk$Tree"
  | 2 => .object "ProtoDesk$Bytes"
  | 3 => .array .byte
  | 4 => .int
  | 5 => .int
  | _ => .long
abbrev wsX70 : List Cond := u_ws RX7 TX7 7
theorem nmX7 : ∀ a, a < 7 → ∀ b, b < 7 → a ≠ b → (TX7 a).2.1 ≠ (TX7 b).2.1 := by decide +kernel
theorem tyX7_ok : ∀ k, k < 7 → parseFieldDescriptor (TX7 k).2.2.1 = some (tyX7 k) := by decide +kernel
abbrev cX7_init : ByteArray := prog_9_method_1_code
def yX7_init : MethodName := ⟨RX7, "<init>", "(LProtoDesk$Bytes;LProtoDesk$Tree;LProtoDesk$Bytes;)V"⟩
abbrev cX7_read : ByteArray := prog_9_method_2_code
def yX7_read : MethodName := ⟨RX7, "read", "(I)Z"⟩
abbrev cX7_readMessage : ByteArray := prog_9_method_3_code
def yX7_readMessage : MethodName := ⟨RX7, "readMessage", "(LProtoDesk$Node;LProtoDesk$Item;I)Z"⟩
abbrev cX7_skipBlanks : ByteArray := prog_9_method_4_code
def yX7_skipBlanks : MethodName := ⟨RX7, "skipBlanks", "()V"⟩
abbrev cX7_skipWord : ByteArray := prog_9_method_5_code
def yX7_skipWord : MethodName := ⟨RX7, "skipWord", "()V"⟩
abbrev cX7_readField : ByteArray := prog_9_method_6_code
def yX7_readField : MethodName := ⟨RX7, "readField", "(LProtoDesk$Node;LProtoDesk$Item;I)Z"⟩
abbrev cX7_readValue : ByteArray := prog_9_method_7_code
def yX7_readValue : MethodName := ⟨RX7, "readValue", "(LProtoDesk$Node;LProtoDesk$Item;)Z"⟩
abbrev cX7_readBool : ByteArray := prog_9_method_8_code
def yX7_readBool : MethodName := ⟨RX7, "readBool", "()Z"⟩
abbrev cX7_readEnumName : ByteArray := prog_9_method_9_code
def yX7_readEnumName : MethodName := ⟨RX7, "readEnumName", "(LProtoDesk$Item;)Z"⟩
abbrev cX7_readNumber : ByteArray := prog_9_method_10_code
def yX7_readNumber : MethodName := ⟨RX7, "readNumber", "(I)Z"⟩
abbrev cX7_isInRange : ByteArray := prog_9_method_11_code
def yX7_isInRange : MethodName := ⟨RX7, "isInRange", "(IZJ)Z"⟩
abbrev cX7_readText : ByteArray := prog_9_method_12_code
def yX7_readText : MethodName := ⟨RX7, "readText", "(LProtoDesk$Node;I)Z"⟩
abbrev cX7_readEscape : ByteArray := prog_9_method_13_code
def yX7_readEscape : MethodName := ⟨RX7, "readEscape", "()I"⟩
abbrev cX7_write : ByteArray := prog_9_method_14_code
def yX7_write : MethodName := ⟨RX7, "write", "()V"⟩
abbrev cX7_writeMessage : ByteArray := prog_9_method_15_code
def yX7_writeMessage : MethodName := ⟨RX7, "writeMessage", "(LProtoDesk$Node;LProtoDesk$Bytes;I)V"⟩
abbrev cX7_writeField : ByteArray := prog_9_method_16_code
def yX7_writeField : MethodName := ⟨RX7, "writeField", "(LProtoDesk$Node;LProtoDesk$Item;LProtoDesk$Bytes;I)V"⟩
abbrev cX7_writeIndent : ByteArray := prog_9_method_17_code
def yX7_writeIndent : MethodName := ⟨RX7, "writeIndent", "(I)V"⟩
abbrev cX7_writeNumber : ByteArray := prog_9_method_18_code
def yX7_writeNumber : MethodName := ⟨RX7, "writeNumber", "(LProtoDesk$Item;JLProtoDesk$Bytes;)V"⟩
abbrev cX7_writeDecimal : ByteArray := prog_9_method_19_code
def yX7_writeDecimal : MethodName := ⟨RX7, "writeDecimal", "(J)V"⟩
abbrev cX7_writeText : ByteArray := prog_9_method_20_code
def yX7_writeText : MethodName := ⟨RX7, "writeText", "(LProtoDesk$Node;)V"⟩
abbrev cX7_writeTextByte : ByteArray := prog_9_method_21_code
def yX7_writeTextByte : MethodName := ⟨RX7, "writeTextByte", "(I)V"⟩
def RX8 : String := "ProtoDesk$Tree"
def TX8 : u_T := fun k => match k with
  | 0 => ("ProtoDesk$Tree", "nodes", "[LProtoDesk$Node;", true)
  | 1 => ("ProtoDesk$Tree", "root", "LProtoDesk$Node;", true)
  | 2 => ("ProtoDesk$Tree", "texts", "LProtoDesk$Bytes;", true)
  | 3 => ("ProtoDesk$Tree", "used", "I", false)
  | 4 => ("ProtoDesk$Tree", "schema", "LProtoDesk$Schema;", false)
  | _ => ("ProtoDesk$Tree", "message", "LProtoDesk$Item;", false)
def tyX8 : Nat → FieldType := fun k => match k with
  | 0 => .array (.object "ProtoDesk$Node")
  | 1 => .object "ProtoDesk$Node"
  | 2 => .object "ProtoDesk$Bytes"
  | 3 => .int
  | 4 => .object "ProtoDesk$Schema"
  | _ => .object "ProtoDesk$Item"
abbrev wsX80 : List Cond := u_ws RX8 TX8 6
theorem nmX8 : ∀ a, a < 6 → ∀ b, b < 6 → a ≠ b → (TX8 a).2.1 ≠ (TX8 b).2.1 := by decide +kernel
theorem tyX8_ok : ∀ k, k < 6 → parseFieldDescriptor (TX8 k).2.2.1 = some (tyX8 k) := by decide +kernel
abbrev cX8_init : ByteArray := prog_10_method_1_code
def yX8_init : MethodName := ⟨RX8, "<init>", "()V"⟩
abbrev cX8_isThere : ByteArray := prog_10_method_2_code
def yX8_isThere : MethodName := ⟨RX8, "isThere", "()Z"⟩
abbrev cX8_isSpilt : ByteArray := prog_10_method_3_code
def yX8_isSpilt : MethodName := ⟨RX8, "isSpilt", "()Z"⟩
abbrev cX8_drop : ByteArray := prog_10_method_4_code
def yX8_drop : MethodName := ⟨RX8, "drop", "()V"⟩
abbrev cX8_begin : ByteArray := prog_10_method_5_code
def yX8_begin : MethodName := ⟨RX8, "begin", "(LProtoDesk$Schema;LProtoDesk$Item;)V"⟩
abbrev cX8_count : ByteArray := prog_10_method_6_code
def yX8_count : MethodName := ⟨RX8, "count", "()I"⟩
abbrev cX8_countIn : ByteArray := prog_10_method_7_code
def yX8_countIn : MethodName := ⟨RX8, "countIn", "(LProtoDesk$Node;I)I"⟩
abbrev cX8_put : ByteArray := prog_10_method_8_code
def yX8_put : MethodName := ⟨RX8, "put", "(LProtoDesk$Node;LProtoDesk$Item;)LProtoDesk$Node;"⟩
abbrev cX8_lastUpTo : ByteArray := prog_10_method_9_code
def yX8_lastUpTo : MethodName := ⟨RX8, "lastUpTo", "(LProtoDesk$Node;J)LProtoDesk$Node;"⟩
abbrev cX8_dropRivals : ByteArray := prog_10_method_10_code
def yX8_dropRivals : MethodName := ⟨RX8, "dropRivals", "(LProtoDesk$Node;LProtoDesk$Item;)V"⟩
abbrev cX8_isTaken : ByteArray := prog_10_method_11_code
def yX8_isTaken : MethodName := ⟨RX8, "isTaken", "(LProtoDesk$Node;LProtoDesk$Item;)Z"⟩
def RX9 : String := "ProtoDesk$Wire"
def TX9 : u_T := fun k => match k with
  | 0 => ("ProtoDesk$Wire", "tape", "LProtoDesk$Bytes;", true)
  | 1 => ("ProtoDesk$Wire", "value", "LProtoDesk$Tree;", true)
  | 2 => ("ProtoDesk$Wire", "given", "LProtoDesk$Bytes;", true)
  | 3 => ("ProtoDesk$Wire", "at", "I", false)
  | 4 => ("ProtoDesk$Wire", "number", "J", false)
  | _ => ("ProtoDesk$Wire", "limit", "I", false)
def tyX9 : Nat → FieldType := fun k => match k with
  | 0 => .object "ProtoDesk$Bytes"
  | 1 => .object "ProtoDesk$Tree"
  | 2 => .object "ProtoDesk$Bytes"
  | 3 => .int
  | 4 => .long
  | _ => .int
abbrev wsX90 : List Cond := u_ws RX9 TX9 6
theorem nmX9 : ∀ a, a < 6 → ∀ b, b < 6 → a ≠ b → (TX9 a).2.1 ≠ (TX9 b).2.1 := by decide +kernel
theorem tyX9_ok : ∀ k, k < 6 → parseFieldDescriptor (TX9 k).2.2.1 = some (tyX9 k) := by decide +kernel
abbrev cX9_init : ByteArray := prog_11_method_1_code
def yX9_init : MethodName := ⟨RX9, "<init>", "(LProtoDesk$Bytes;LProtoDesk$Tree;LProtoDesk$Bytes;)V"⟩
abbrev cX9_read : ByteArray := prog_11_method_2_code
def yX9_read : MethodName := ⟨RX9, "read", "(I)Z"⟩
abbrev cX9_readMessage : ByteArray := prog_11_method_3_code
def yX9_readMessage : MethodName := ⟨RX9, "readMessage", "(LProtoDesk$Node;LProtoDesk$Item;II)Z"⟩
abbrev cX9_takeNumber : ByteArray := prog_11_method_4_code
def yX9_takeNumber : MethodName := ⟨RX9, "takeNumber", "(LProtoDesk$Node;LProtoDesk$Item;III)Z"⟩
abbrev cX9_takeLength : ByteArray := prog_11_method_5_code
def yX9_takeLength : MethodName := ⟨RX9, "takeLength", "(LProtoDesk$Node;LProtoDesk$Item;III)Z"⟩
abbrev cX9_takeRow : ByteArray := prog_11_method_6_code
def yX9_takeRow : MethodName := ⟨RX9, "takeRow", "(LProtoDesk$Node;LProtoDesk$Item;I)Z"⟩
abbrev cX9_putNumber : ByteArray := prog_11_method_7_code
def yX9_putNumber : MethodName := ⟨RX9, "putNumber", "(LProtoDesk$Node;LProtoDesk$Item;)Z"⟩
abbrev cX9_keep : ByteArray := prog_11_method_8_code
def yX9_keep : MethodName := ⟨RX9, "keep", "(LProtoDesk$Node;I)Z"⟩
abbrev cX9_copy : ByteArray := prog_11_method_9_code
def yX9_copy : MethodName := ⟨RX9, "copy", "(LProtoDesk$Node;II)Z"⟩
abbrev cX9_readNumber : ByteArray := prog_11_method_10_code
def yX9_readNumber : MethodName := ⟨RX9, "readNumber", "(II)Z"⟩
abbrev cX9_kindOf : ByteArray := prog_11_method_11_code
def yX9_kindOf : MethodName := ⟨RX9, "kindOf", "(I)I"⟩
abbrev cX9_meaning : ByteArray := prog_11_method_12_code
def yX9_meaning : MethodName := ⟨RX9, "meaning", "(IJ)J"⟩
abbrev cX9_write : ByteArray := prog_11_method_13_code
def yX9_write : MethodName := ⟨RX9, "write", "()V"⟩
abbrev cX9_writeMessage : ByteArray := prog_11_method_14_code
def yX9_writeMessage : MethodName := ⟨RX9, "writeMessage", "(LProtoDesk$Node;I)V"⟩
abbrev cX9_writeRow : ByteArray := prog_11_method_15_code
def yX9_writeRow : MethodName := ⟨RX9, "writeRow", "(LProtoDesk$Node;LProtoDesk$Item;)LProtoDesk$Node;"⟩
abbrev cX9_writeField : ByteArray := prog_11_method_16_code
def yX9_writeField : MethodName := ⟨RX9, "writeField", "(LProtoDesk$Node;LProtoDesk$Item;I)V"⟩
abbrev cX9_writeNumber : ByteArray := prog_11_method_17_code
def yX9_writeNumber : MethodName := ⟨RX9, "writeNumber", "(IJ)V"⟩
def RX10 : String := "ProtoDesk$Words"
def TX10 : u_T := fun k => match k with
  | 0 => ("ProtoDesk$Words", "text", "LProtoDesk$Bytes;", true)
  | 1 => ("ProtoDesk$Words", "kinds", "[I", true)
  | 2 => ("ProtoDesk$Words", "starts", "[I", true)
  | 3 => ("ProtoDesk$Words", "ends", "[I", true)
  | 4 => ("ProtoDesk$Words", "values", "[J", true)
  | 5 => ("ProtoDesk$Words", "count", "I", false)
  | 6 => ("ProtoDesk$Words", "length", "I", false)
  | _ => ("ProtoDesk$Words", "unclosed", "Z", false)
def tyX10 : Nat → FieldType := fun k => match k with
  | 0 => .object "ProtoDesk$Bytes"
  | 1 => .array .int
  | 2 => .array .int
  | 3 => .array .int
  | 4 => .array .long
  | 5 => .int
  | 6 => .int
  | _ => .boolean
abbrev wsX100 : List Cond := u_ws RX10 TX10 8
theorem nmX10 : ∀ a, a < 8 → ∀ b, b < 8 → a ≠ b → (TX10 a).2.1 ≠ (TX10 b).2.1 := by decide +kernel
theorem tyX10_ok : ∀ k, k < 8 → parseFieldDescriptor (TX10 k).2.2.1 = some (tyX10 k) := by decide +kernel
abbrev cX10_init : ByteArray := prog_12_method_1_code
def yX10_init : MethodName := ⟨RX10, "<init>", "(LProtoDesk$Bytes;)V"⟩
abbrev cX10_count : ByteArray := prog_12_method_2_code
def yX10_count : MethodName := ⟨RX10, "count", "()I"⟩
abbrev cX10_startOf : ByteArray := prog_12_method_3_code
def yX10_startOf : MethodName := ⟨RX10, "startOf", "(I)I"⟩
abbrev cX10_endOf : ByteArray := prog_12_method_4_code
def yX10_endOf : MethodName := ⟨RX10, "endOf", "(I)I"⟩
abbrev cX10_kindOf : ByteArray := prog_12_method_5_code
def yX10_kindOf : MethodName := ⟨RX10, "kindOf", "(I)I"⟩
abbrev cX10_valueOf : ByteArray := prog_12_method_6_code
def yX10_valueOf : MethodName := ⟨RX10, "valueOf", "(I)J"⟩
abbrev cX10_isSign : ByteArray := prog_12_method_7_code
def yX10_isSign : MethodName := ⟨RX10, "isSign", "(II)Z"⟩
abbrev cX10_codeOf : ByteArray := prog_12_method_8_code
def yX10_codeOf : MethodName := ⟨RX10, "codeOf", "(I)I"⟩
abbrev cX10_split : ByteArray := prog_12_method_9_code
def yX10_split : MethodName := ⟨RX10, "split", "()V"⟩
abbrev cX10_addWord : ByteArray := prog_12_method_10_code
def yX10_addWord : MethodName := ⟨RX10, "addWord", "(I)I"⟩
abbrev cX10_push : ByteArray := prog_12_method_11_code
def yX10_push : MethodName := ⟨RX10, "push", "(IIIJ)I"⟩
abbrev cX10_addNumber : ByteArray := prog_12_method_12_code
def yX10_addNumber : MethodName := ⟨RX10, "addNumber", "(I)I"⟩
abbrev cX10_digit : ByteArray := prog_12_method_13_code
def yX10_digit : MethodName := ⟨RX10, "digit", "(II)I"⟩
abbrev cX10_addText : ByteArray := prog_12_method_14_code
def yX10_addText : MethodName := ⟨RX10, "addText", "(I)I"⟩
abbrev cX10_nameEnd : ByteArray := prog_12_method_15_code
def yX10_nameEnd : MethodName := ⟨RX10, "nameEnd", "(I)I"⟩
abbrev cX10_codeBetween : ByteArray := prog_12_method_16_code
def yX10_codeBetween : MethodName := ⟨RX10, "codeBetween", "(II)I"⟩
abbrev cX10_behindBlanks : ByteArray := prog_12_method_17_code
def yX10_behindBlanks : MethodName := ⟨RX10, "behindBlanks", "(I)I"⟩
abbrev cX10_lineEnd : ByteArray := prog_12_method_18_code
def yX10_lineEnd : MethodName := ⟨RX10, "lineEnd", "(I)I"⟩
abbrev cX10_commentEnd : ByteArray := prog_12_method_19_code
def yX10_commentEnd : MethodName := ⟨RX10, "commentEnd", "(I)I"⟩
def RX11 : String := "ProtoDesk"
def TX11 : u_T := fun k => match k with
  | 0 => ("ProtoDesk", "tape", "LProtoDesk$Bytes;", true)
  | 1 => ("ProtoDesk", "given", "LProtoDesk$Bytes;", true)
  | 2 => ("ProtoDesk", "first", "LProtoDesk$Compiler;", true)
  | 3 => ("ProtoDesk", "second", "LProtoDesk$Compiler;", true)
  | 4 => ("ProtoDesk", "value", "LProtoDesk$Tree;", true)
  | 5 => ("ProtoDesk", "wire", "LProtoDesk$Wire;", true)
  | 6 => ("ProtoDesk", "textForm", "LProtoDesk$TextForm;", true)
  | 7 => ("ProtoDesk", "checker", "LProtoDesk$Checker;", true)
  | _ => ("ProtoDesk", "errorPlace", "I", false)
def tyX11 : Nat → FieldType := fun k => match k with
  | 0 => .object "ProtoDesk$Bytes"
  | 1 => .object "ProtoDesk$Bytes"
  | 2 => .object "ProtoDesk$Compiler"
  | 3 => .object "ProtoDesk$Compiler"
  | 4 => .object "ProtoDesk$Tree"
  | 5 => .object "ProtoDesk$Wire"
  | 6 => .object "ProtoDesk$TextForm"
  | 7 => .object "ProtoDesk$Checker"
  | _ => .int
abbrev wsX110 : List Cond := u_ws RX11 TX11 9
theorem nmX11 : ∀ a, a < 9 → ∀ b, b < 9 → a ≠ b → (TX11 a).2.1 ≠ (TX11 b).2.1 := by decide +kernel
theorem tyX11_ok : ∀ k, k < 9 → parseFieldDescriptor (TX11 k).2.2.1 = some (tyX11 k) := by decide +kernel
abbrev cX11_init : ByteArray := prog_1_method_1_code
def yX11_init : MethodName := ⟨RX11, "<init>", "()V"⟩
abbrev cX11_feed : ByteArray := prog_1_method_2_code
def yX11_feed : MethodName := ⟨RX11, "feed", "(JI)I"⟩
abbrev cX11_compile : ByteArray := prog_1_method_3_code
def yX11_compile : MethodName := ⟨RX11, "compile", "(I)I"⟩
abbrev cX11_place : ByteArray := prog_1_method_4_code
def yX11_place : MethodName := ⟨RX11, "place", "()I"⟩
abbrev cX11_many : ByteArray := prog_1_method_5_code
def yX11_many : MethodName := ⟨RX11, "many", "(II)I"⟩
abbrev cX11_field : ByteArray := prog_1_method_6_code
def yX11_field : MethodName := ⟨RX11, "field", "(IIII)I"⟩
abbrev cX11_find : ByteArray := prog_1_method_7_code
def yX11_find : MethodName := ⟨RX11, "find", "(I)I"⟩
abbrev cX11_decode : ByteArray := prog_1_method_8_code
def yX11_decode : MethodName := ⟨RX11, "decode", "(III)I"⟩
abbrev cX11_parse : ByteArray := prog_1_method_9_code
def yX11_parse : MethodName := ⟨RX11, "parse", "(III)I"⟩
abbrev cX11_encode : ByteArray := prog_1_method_10_code
def yX11_encode : MethodName := ⟨RX11, "encode", "()I"⟩
abbrev cX11_print : ByteArray := prog_1_method_11_code
def yX11_print : MethodName := ⟨RX11, "print", "()I"⟩
abbrev cX11_check : ByteArray := prog_1_method_12_code
def yX11_check : MethodName := ⟨RX11, "check", "(II)I"⟩
abbrev cX11_out : ByteArray := prog_1_method_13_code
def yX11_out : MethodName := ⟨RX11, "out", "(I)J"⟩
abbrev cX11_turn : ByteArray := prog_1_method_14_code
def yX11_turn : MethodName := ⟨RX11, "turn", "()I"⟩
abbrev cX11_compilerOf : ByteArray := prog_1_method_15_code
def yX11_compilerOf : MethodName := ⟨RX11, "compilerOf", "(I)LProtoDesk$Compiler;"⟩
abbrev cX11_messageOf : ByteArray := prog_1_method_16_code
def yX11_messageOf : MethodName := ⟨RX11, "messageOf", "(II)LProtoDesk$Item;"⟩
abbrev cX11_opens : ByteArray := prog_1_method_17_code
def yX11_opens : MethodName := ⟨RX11, "opens", "(III)Z"⟩
abbrev cX11_settle : ByteArray := prog_1_method_18_code
def yX11_settle : MethodName := ⟨RX11, "settle", "(Z)I"⟩
abbrev cX11_isBlank : ByteArray := prog_1_method_19_code
def yX11_isBlank : MethodName := ⟨RX11, "isBlank", "(I)Z"⟩
abbrev cX11_isLetter : ByteArray := prog_1_method_20_code
def yX11_isLetter : MethodName := ⟨RX11, "isLetter", "(I)Z"⟩
abbrev cX11_isWordByte : ByteArray := prog_1_method_21_code
def yX11_isWordByte : MethodName := ⟨RX11, "isWordByte", "(I)Z"⟩
abbrev cX11_isNumeric : ByteArray := prog_1_method_22_code
def yX11_isNumeric : MethodName := ⟨RX11, "isNumeric", "(I)Z"⟩
def RX12 : String := "ProtoDeskModel"
def TX12 : u_T := fun k => match k with
  | 0 => ("ProtoDeskModel", "tape", "[I", true)
  | 1 => ("ProtoDeskModel", "tapeLong", "I", false)
  | 2 => ("ProtoDeskModel", "out", "[I", true)
  | 3 => ("ProtoDeskModel", "outLong", "I", false)
  | 4 => ("ProtoDeskModel", "over", "Z", false)
  | 5 => ("ProtoDeskModel", "thrown", "I", false)
  | 6 => ("ProtoDeskModel", "told", "I", false)
  | 7 => ("ProtoDeskModel", "messages", "[I", true)
  | 8 => ("ProtoDeskModel", "enums", "[I", true)
  | 9 => ("ProtoDeskModel", "fields", "[I", true)
  | 10 => ("ProtoDeskModel", "enumValues", "[I", true)
  | 11 => ("ProtoDeskModel", "around", "[I", true)
  | 12 => ("ProtoDeskModel", "messageName", "[I", true)
  | 13 => ("ProtoDeskModel", "messageNameLong", "[I", true)
  | 14 => ("ProtoDeskModel", "enumAround", "[I", true)
  | 15 => ("ProtoDeskModel", "enumName", "[I", true)
  | 16 => ("ProtoDeskModel", "enumNameLong", "[I", true)
  | 17 => ("ProtoDeskModel", "fieldOf", "[I", true)
  | 18 => ("ProtoDeskModel", "fieldName", "[I", true)
  | 19 => ("ProtoDeskModel", "fieldNameLong", "[I", true)
  | 20 => ("ProtoDeskModel", "fieldNumber", "[I", true)
  | 21 => ("ProtoDeskModel", "fieldType", "[I", true)
  | 22 => ("ProtoDeskModel", "fieldRef", "[I", true)
  | 23 => ("ProtoDeskModel", "repeated", "[Z", true)
  | 24 => ("ProtoDeskModel", "packed", "[Z", true)
  | 25 => ("ProtoDeskModel", "oneof", "[I", true)
  | 26 => ("ProtoDeskModel", "valueOf", "[I", true)
  | 27 => ("ProtoDeskModel", "valueName", "[I", true)
  | 28 => ("ProtoDeskModel", "valueNameLong", "[I", true)
  | 29 => ("ProtoDeskModel", "valueNumber", "[I", true)
  | 30 => ("ProtoDeskModel", "names", "[I", true)
  | 31 => ("ProtoDeskModel", "namesLong", "I", false)
  | 32 => ("ProtoDeskModel", "dMessages", "I", false)
  | 33 => ("ProtoDeskModel", "dEnums", "I", false)
  | 34 => ("ProtoDeskModel", "dFields", "I", false)
  | 35 => ("ProtoDeskModel", "dValues", "I", false)
  | 36 => ("ProtoDeskModel", "dOneofs", "I", false)
  | 37 => ("ProtoDeskModel", "dParts", "I", false)
  | 38 => ("ProtoDeskModel", "dNames", "I", false)
  | 39 => ("ProtoDeskModel", "dmAround", "[I", true)
  | 40 => ("ProtoDeskModel", "dmName", "[I", true)
  | 41 => ("ProtoDeskModel", "dmLong", "[I", true)
  | 42 => ("ProtoDeskModel", "deAround", "[I", true)
  | 43 => ("ProtoDeskModel", "deName", "[I", true)
  | 44 => ("ProtoDeskModel", "deLong", "[I", true)
  | 45 => ("ProtoDeskModel", "dfOf", "[I", true)
  | 46 => ("ProtoDeskModel", "dfName", "[I", true)
  | 47 => ("ProtoDeskModel", "dfLong", "[I", true)
  | 48 => ("ProtoDeskModel", "dfNumber", "[J", true)
  | 49 => ("ProtoDeskModel", "dfNumberAt", "[I", true)
  | 50 => ("ProtoDeskModel", "dfType", "[I", true)
  | 51 => ("ProtoDeskModel", "dfTypeAt", "[I", true)
  | 52 => ("ProtoDeskModel", "dfRef", "[I", true)
  | 53 => ("ProtoDeskModel", "dfFromTop", "[Z", true)
  | 54 => ("ProtoDeskModel", "dfPart", "[I", true)
  | 55 => ("ProtoDeskModel", "dfParts", "[I", true)
  | 56 => ("ProtoDeskModel", "dfRepeated", "[Z", true)
  | 57 => ("ProtoDeskModel", "dfPacked", "[I", true)
  | 58 => ("ProtoDeskModel", "dfPackedAt", "[I", true)
  | 59 => ("ProtoDeskModel", "dfOneof", "[I", true)
  | 60 => ("ProtoDeskModel", "dvOf", "[I", true)
  | 61 => ("ProtoDeskModel", "dvName", "[I", true)
  | 62 => ("ProtoDeskModel", "dvLong", "[I", true)
  | 63 => ("ProtoDeskModel", "dvNumber", "[J", true)
  | 64 => ("ProtoDeskModel", "dvNumberAt", "[I", true)
  | 65 => ("ProtoDeskModel", "partAt", "[I", true)
  | 66 => ("ProtoDeskModel", "partLong", "[I", true)
  | 67 => ("ProtoDeskModel", "nameIn", "[I", true)
  | 68 => ("ProtoDeskModel", "nameAt", "[I", true)
  | 69 => ("ProtoDeskModel", "nameLong", "[I", true)
  | 70 => ("ProtoDeskModel", "kind", "I", false)
  | 71 => ("ProtoDeskModel", "wordAt", "I", false)
  | 72 => ("ProtoDeskModel", "wordEnd", "I", false)
  | 73 => ("ProtoDeskModel", "size", "I", false)
  | 74 => ("ProtoDeskModel", "error", "I", false)
  | 75 => ("ProtoDeskModel", "errorAt", "I", false)
  | 76 => ("ProtoDeskModel", "unclosed", "Z", false)
  | 77 => ("ProtoDeskModel", "wordValue", "J", false)
  | 78 => ("ProtoDeskModel", "open", "[I", true)
  | 79 => ("ProtoDeskModel", "hasValue", "Z", false)
  | 80 => ("ProtoDeskModel", "schema", "I", false)
  | 81 => ("ProtoDeskModel", "nodes", "I", false)
  | 82 => ("ProtoDeskModel", "rows", "I", false)
  | 83 => ("ProtoDeskModel", "unknowns", "I", false)
  | 84 => ("ProtoDeskModel", "poolLong", "I", false)
  | 85 => ("ProtoDeskModel", "deepest", "I", false)
  | 86 => ("ProtoDeskModel", "nodeMessage", "[I", true)
  | 87 => ("ProtoDeskModel", "nodeRow", "[I", true)
  | 88 => ("ProtoDeskModel", "nodeDeep", "[I", true)
  | 89 => ("ProtoDeskModel", "nodeBytes", "[I", true)
  | 90 => ("ProtoDeskModel", "nodeAlive", "[Z", true)
  | 91 => ("ProtoDeskModel", "rowNode", "[I", true)
  | 92 => ("ProtoDeskModel", "rowField", "[I", true)
  | 93 => ("ProtoDeskModel", "rowValue", "[J", true)
  | 94 => ("ProtoDeskModel", "rowAt", "[I", true)
  | 95 => ("ProtoDeskModel", "rowLong", "[I", true)
  | 96 => ("ProtoDeskModel", "rowChild", "[I", true)
  | 97 => ("ProtoDeskModel", "alive", "[Z", true)
  | 98 => ("ProtoDeskModel", "unknownNode", "[I", true)
  | 99 => ("ProtoDeskModel", "unknownAt", "[I", true)
  | 100 => ("ProtoDeskModel", "unknownLong", "[I", true)
  | 101 => ("ProtoDeskModel", "pool", "[I", true)
  | 102 => ("ProtoDeskModel", "stackNode", "[I", true)
  | 103 => ("ProtoDeskModel", "stackEnd", "[I", true)
  | 104 => ("ProtoDeskModel", "stackRow", "[I", true)
  | 105 => ("ProtoDeskModel", "stackNumber", "[I", true)
  | 106 => ("ProtoDeskModel", "deep", "I", false)
  | 107 => ("ProtoDeskModel", "wrong", "Z", false)
  | 108 => ("ProtoDeskModel", "got", "J", false)
  | 109 => ("ProtoDeskModel", "at", "I", false)
  | 110 => ("ProtoDeskModel", "digits", "[I", true)
  | 111 => ("ProtoDeskModel", "looked", "[Z", true)
  | 112 => ("ProtoDeskModel", "pairOld", "[I", true)
  | 113 => ("ProtoDeskModel", "pairNew", "[I", true)
  | _ => ("ProtoDeskModel", "pairField", "[I", true)
def tyX12 : Nat → FieldType := fun k => match k with
  | 0 => .array .int
  | 1 => .int
  | 2 => .array .int
  | 3 => .int
  | 4 => .boolean
  | 5 => .int
  | 6 => .int
  | 7 => .array .int
  | 8 => .array .int
  | 9 => .array .int
  | 10 => .array .int
  | 11 => .array .int
  | 12 => .array .int
  | 13 => .array .int
  | 14 => .array .int
  | 15 => .array .int
  | 16 => .array .int
  | 17 => .array .int
  | 18 => .array .int
  | 19 => .array .int
  | 20 => .array .int
  | 21 => .array .int
  | 22 => .array .int
  | 23 => .array .boolean
  | 24 => .array .boolean
  | 25 => .array .int
  | 26 => .array .int
  | 27 => .array .int
  | 28 => .array .int
  | 29 => .array .int
  | 30 => .array .int
  | 31 => .int
  | 32 => .int
  | 33 => .int
  | 34 => .int
  | 35 => .int
  | 36 => .int
  | 37 => .int
  | 38 => .int
  | 39 => .array .int
  | 40 => .array .int
  | 41 => .array .int
  | 42 => .array .int
  | 43 => .array .int
  | 44 => .array .int
  | 45 => .array .int
  | 46 => .array .int
  | 47 => .array .int
  | 48 => .array .long
  | 49 => .array .int
  | 50 => .array .int
  | 51 => .array .int
  | 52 => .array .int
  | 53 => .array .boolean
  | 54 => .array .int
  | 55 => .array .int
  | 56 => .array .boolean
  | 57 => .array .int
  | 58 => .array .int
  | 59 => .array .int
  | 60 => .array .int
  | 61 => .array .int
  | 62 => .array .int
  | 63 => .array .long
  | 64 => .array .int
  | 65 => .array .int
  | 66 => .array .int
  | 67 => .array .int
  | 68 => .array .int
  | 69 => .array .int
  | 70 => .int
  | 71 => .int
  | 72 => .int
  | 73 => .int
  | 74 => .int
  | 75 => .int
  | 76 => .boolean
  | 77 => .long
  | 78 => .array .int
  | 79 => .boolean
  | 80 => .int
  | 81 => .int
  | 82 => .int
  | 83 => .int
  | 84 => .int
  | 85 => .int
  | 86 => .array .int
  | 87 => .array .int
  | 88 => .array .int
  | 89 => .array .int
  | 90 => .array .boolean
  | 91 => .array .int
  | 92 => .array .int
  | 93 => .array .long
  | 94 => .array .int
  | 95 => .array .int
  | 96 => .array .int
  | 97 => .array .boolean
  | 98 => .array .int
  | 99 => .array .int
  | 100 => .array .int
  | 101 => .array .int
  | 102 => .array .int
  | 103 => .array .int
  | 104 => .array .int
  | 105 => .array .int
  | 106 => .int
  | 107 => .boolean
  | 108 => .long
  | 109 => .int
  | 110 => .array .int
  | 111 => .array .boolean
  | 112 => .array .int
  | 113 => .array .int
  | _ => .array .int
abbrev wsX120 : List Cond := u_ws RX12 TX12 115
theorem nmX12 : ∀ a, a < 115 → ∀ b, b < 115 → a ≠ b → (TX12 a).2.1 ≠ (TX12 b).2.1 := by decide +kernel
theorem tyX12_ok : ∀ k, k < 115 → parseFieldDescriptor (TX12 k).2.2.1 = some (tyX12 k) := by decide +kernel
abbrev cX12_init : ByteArray := prog_14_method_1_code
def yX12_init : MethodName := ⟨RX12, "<init>", "()V"⟩
abbrev cX12_thrown : ByteArray := prog_14_method_2_code
def yX12_thrown : MethodName := ⟨RX12, "thrown", "()I"⟩
abbrev cX12_feed : ByteArray := prog_14_method_3_code
def yX12_feed : MethodName := ⟨RX12, "feed", "(JI)I"⟩
abbrev cX12_out : ByteArray := prog_14_method_4_code
def yX12_out : MethodName := ⟨RX12, "out", "(I)J"⟩
abbrev cX12_turn : ByteArray := prog_14_method_5_code
def yX12_turn : MethodName := ⟨RX12, "turn", "()I"⟩
abbrev cX12_byteAt : ByteArray := prog_14_method_6_code
def yX12_byteAt : MethodName := ⟨RX12, "byteAt", "(I)I"⟩
abbrev cX12_isLetter : ByteArray := prog_14_method_7_code
def yX12_isLetter : MethodName := ⟨RX12, "isLetter", "(I)Z"⟩
abbrev cX12_isDigit : ByteArray := prog_14_method_8_code
def yX12_isDigit : MethodName := ⟨RX12, "isDigit", "(I)Z"⟩
abbrev cX12_isPart : ByteArray := prog_14_method_9_code
def yX12_isPart : MethodName := ⟨RX12, "isPart", "(I)Z"⟩
abbrev cX12_isBlank : ByteArray := prog_14_method_10_code
def yX12_isBlank : MethodName := ⟨RX12, "isBlank", "(I)Z"⟩
abbrev cX12_sixteenth : ByteArray := prog_14_method_11_code
def yX12_sixteenth : MethodName := ⟨RX12, "sixteenth", "(I)I"⟩
abbrev cX12_behindComment : ByteArray := prog_14_method_12_code
def yX12_behindComment : MethodName := ⟨RX12, "behindComment", "(I)I"⟩
abbrev cX12_behindBlanks : ByteArray := prog_14_method_13_code
def yX12_behindBlanks : MethodName := ⟨RX12, "behindBlanks", "(I)I"⟩
abbrev cX12_readNumber : ByteArray := prog_14_method_14_code
def yX12_readNumber : MethodName := ⟨RX12, "readNumber", "()V"⟩
abbrev cX12_readText : ByteArray := prog_14_method_15_code
def yX12_readText : MethodName := ⟨RX12, "readText", "()V"⟩
abbrev cX12_look : ByteArray := prog_14_method_16_code
def yX12_look : MethodName := ⟨RX12, "look", "(I)V"⟩
abbrev cX12_fail : ByteArray := prog_14_method_17_code
def yX12_fail : MethodName := ⟨RX12, "fail", "(II)V"⟩
abbrev cX12_letters : ByteArray := prog_14_method_18_code
def yX12_letters : MethodName := ⟨RX12, "letters", "(J)I"⟩
abbrev cX12_letter : ByteArray := prog_14_method_19_code
def yX12_letter : MethodName := ⟨RX12, "letter", "(JI)I"⟩
abbrev cX12_isPlain : ByteArray := prog_14_method_20_code
def yX12_isPlain : MethodName := ⟨RX12, "isPlain", "(IIJ)Z"⟩
abbrev cX12_isWord : ByteArray := prog_14_method_21_code
def yX12_isWord : MethodName := ⟨RX12, "isWord", "(J)Z"⟩
abbrev cX12_isExtensions : ByteArray := prog_14_method_22_code
def yX12_isExtensions : MethodName := ⟨RX12, "isExtensions", "()Z"⟩
abbrev cX12_isSign : ByteArray := prog_14_method_23_code
def yX12_isSign : MethodName := ⟨RX12, "isSign", "(I)Z"⟩
abbrev cX12_next : ByteArray := prog_14_method_24_code
def yX12_next : MethodName := ⟨RX12, "next", "()V"⟩
abbrev cX12_takeSign : ByteArray := prog_14_method_25_code
def yX12_takeSign : MethodName := ⟨RX12, "takeSign", "(I)V"⟩
abbrev cX12_takeWord : ByteArray := prog_14_method_26_code
def yX12_takeWord : MethodName := ⟨RX12, "takeWord", "(J)V"⟩
abbrev cX12_isForeign : ByteArray := prog_14_method_27_code
def yX12_isForeign : MethodName := ⟨RX12, "isForeign", "()Z"⟩
abbrev cX12_declare : ByteArray := prog_14_method_28_code
def yX12_declare : MethodName := ⟨RX12, "declare", "(I)V"⟩
abbrev cX12_lastAt : ByteArray := prog_14_method_29_code
def yX12_lastAt : MethodName := ⟨RX12, "lastAt", "()I"⟩
abbrev cX12_lastLong : ByteArray := prog_14_method_30_code
def yX12_lastLong : MethodName := ⟨RX12, "lastLong", "()I"⟩
abbrev cX12_numberType : ByteArray := prog_14_method_31_code
def yX12_numberType : MethodName := ⟨RX12, "numberType", "()I"⟩
abbrev cX12_isReservedName : ByteArray := prog_14_method_32_code
def yX12_isReservedName : MethodName := ⟨RX12, "isReservedName", "()Z"⟩
abbrev cX12_takeParts : ByteArray := prog_14_method_33_code
def yX12_takeParts : MethodName := ⟨RX12, "takeParts", "(I)V"⟩
abbrev cX12_takeType : ByteArray := prog_14_method_34_code
def yX12_takeType : MethodName := ⟨RX12, "takeType", "(I)V"⟩
abbrev cX12_takePacked : ByteArray := prog_14_method_35_code
def yX12_takePacked : MethodName := ⟨RX12, "takePacked", "(I)V"⟩
abbrev cX12_takeField : ByteArray := prog_14_method_36_code
def yX12_takeField : MethodName := ⟨RX12, "takeField", "(II)V"⟩
abbrev cX12_takeOneof : ByteArray := prog_14_method_37_code
def yX12_takeOneof : MethodName := ⟨RX12, "takeOneof", "(I)V"⟩
abbrev cX12_takeValue : ByteArray := prog_14_method_38_code
def yX12_takeValue : MethodName := ⟨RX12, "takeValue", "(I)V"⟩
abbrev cX12_takeEnum : ByteArray := prog_14_method_39_code
def yX12_takeEnum : MethodName := ⟨RX12, "takeEnum", "(I)V"⟩
abbrev cX12_beginMessage : ByteArray := prog_14_method_40_code
def yX12_beginMessage : MethodName := ⟨RX12, "beginMessage", "(I)I"⟩
abbrev cX12_takeMember : ByteArray := prog_14_method_41_code
def yX12_takeMember : MethodName := ⟨RX12, "takeMember", "(I)I"⟩
abbrev cX12_isProto3 : ByteArray := prog_14_method_42_code
def yX12_isProto3 : MethodName := ⟨RX12, "isProto3", "()Z"⟩
abbrev cX12_readSchema : ByteArray := prog_14_method_43_code
def yX12_readSchema : MethodName := ⟨RX12, "readSchema", "()V"⟩
abbrev cX12_sameText : ByteArray := prog_14_method_44_code
def yX12_sameText : MethodName := ⟨RX12, "sameText", "(IIII)Z"⟩
abbrev cX12_earlier : ByteArray := prog_14_method_45_code
def yX12_earlier : MethodName := ⟨RX12, "earlier", "(II)V"⟩
abbrev cX12_checkNames : ByteArray := prog_14_method_46_code
def yX12_checkNames : MethodName := ⟨RX12, "checkNames", "()V"⟩
abbrev cX12_checkNumbers : ByteArray := prog_14_method_47_code
def yX12_checkNumbers : MethodName := ⟨RX12, "checkNumbers", "()V"⟩
abbrev cX12_inScope : ByteArray := prog_14_method_48_code
def yX12_inScope : MethodName := ⟨RX12, "inScope", "(II)I"⟩
abbrev cX12_resolve : ByteArray := prog_14_method_49_code
def yX12_resolve : MethodName := ⟨RX12, "resolve", "(I)V"⟩
abbrev cX12_isNumbers : ByteArray := prog_14_method_50_code
def yX12_isNumbers : MethodName := ⟨RX12, "isNumbers", "(I)Z"⟩
abbrev cX12_checkTypes : ByteArray := prog_14_method_51_code
def yX12_checkTypes : MethodName := ⟨RX12, "checkTypes", "()V"⟩
abbrev cX12_checkLimits : ByteArray := prog_14_method_52_code
def yX12_checkLimits : MethodName := ⟨RX12, "checkLimits", "()V"⟩
abbrev cX12_keepName : ByteArray := prog_14_method_53_code
def yX12_keepName : MethodName := ⟨RX12, "keepName", "(II)I"⟩
abbrev cX12_keep : ByteArray := prog_14_method_54_code
def yX12_keep : MethodName := ⟨RX12, "keep", "(I)V"⟩
abbrev cX12_isSchema : ByteArray := prog_14_method_55_code
def yX12_isSchema : MethodName := ⟨RX12, "isSchema", "(I)Z"⟩
abbrev cX12_compile : ByteArray := prog_14_method_56_code
def yX12_compile : MethodName := ⟨RX12, "compile", "(I)I"⟩
abbrev cX12_place : ByteArray := prog_14_method_57_code
def yX12_place : MethodName := ⟨RX12, "place", "()I"⟩
abbrev cX12_many : ByteArray := prog_14_method_58_code
def yX12_many : MethodName := ⟨RX12, "many", "(II)I"⟩
abbrev cX12_fieldAt : ByteArray := prog_14_method_59_code
def yX12_fieldAt : MethodName := ⟨RX12, "fieldAt", "(III)I"⟩
abbrev cX12_isMessage : ByteArray := prog_14_method_60_code
def yX12_isMessage : MethodName := ⟨RX12, "isMessage", "(II)Z"⟩
abbrev cX12_field : ByteArray := prog_14_method_61_code
def yX12_field : MethodName := ⟨RX12, "field", "(IIII)I"⟩
abbrev cX12_isTape : ByteArray := prog_14_method_62_code
def yX12_isTape : MethodName := ⟨RX12, "isTape", "(III)Z"⟩
abbrev cX12_named : ByteArray := prog_14_method_63_code
def yX12_named : MethodName := ⟨RX12, "named", "(III)I"⟩
abbrev cX12_find : ByteArray := prog_14_method_64_code
def yX12_find : MethodName := ⟨RX12, "find", "(I)I"⟩
abbrev cX12_beginValue : ByteArray := prog_14_method_65_code
def yX12_beginValue : MethodName := ⟨RX12, "beginValue", "(III)V"⟩
abbrev cX12_addNode : ByteArray := prog_14_method_66_code
def yX12_addNode : MethodName := ⟨RX12, "addNode", "(III)I"⟩
abbrev cX12_addRow : ByteArray := prog_14_method_67_code
def yX12_addRow : MethodName := ⟨RX12, "addRow", "(II)I"⟩
abbrev cX12_rowOf : ByteArray := prog_14_method_68_code
def yX12_rowOf : MethodName := ⟨RX12, "rowOf", "(II)I"⟩
abbrev cX12_rowFor : ByteArray := prog_14_method_69_code
def yX12_rowFor : MethodName := ⟨RX12, "rowFor", "(II)I"⟩
abbrev cX12_fieldNumbered : ByteArray := prog_14_method_70_code
def yX12_fieldNumbered : MethodName := ⟨RX12, "fieldNumbered", "(II)I"⟩
abbrev cX12_putNumber : ByteArray := prog_14_method_71_code
def yX12_putNumber : MethodName := ⟨RX12, "putNumber", "(IIJ)V"⟩
abbrev cX12_isUtf8 : ByteArray := prog_14_method_72_code
def yX12_isUtf8 : MethodName := ⟨RX12, "isUtf8", "(II)Z"⟩
abbrev cX12_putText : ByteArray := prog_14_method_73_code
def yX12_putText : MethodName := ⟨RX12, "putText", "(III)V"⟩
abbrev cX12_putMessage : ByteArray := prog_14_method_74_code
def yX12_putMessage : MethodName := ⟨RX12, "putMessage", "(II)I"⟩
abbrev cX12_liveValues : ByteArray := prog_14_method_75_code
def yX12_liveValues : MethodName := ⟨RX12, "liveValues", "()I"⟩
abbrev cX12_liveBytes : ByteArray := prog_14_method_76_code
def yX12_liveBytes : MethodName := ⟨RX12, "liveBytes", "()I"⟩
abbrev cX12_finish : ByteArray := prog_14_method_77_code
def yX12_finish : MethodName := ⟨RX12, "finish", "()I"⟩
abbrev cX12_takeVarint : ByteArray := prog_14_method_78_code
def yX12_takeVarint : MethodName := ⟨RX12, "takeVarint", "(I)V"⟩
abbrev cX12_takeFixed : ByteArray := prog_14_method_79_code
def yX12_takeFixed : MethodName := ⟨RX12, "takeFixed", "(II)V"⟩
abbrev cX12_kindOf : ByteArray := prog_14_method_80_code
def yX12_kindOf : MethodName := ⟨RX12, "kindOf", "(I)I"⟩
abbrev cX12_valueFor : ByteArray := prog_14_method_81_code
def yX12_valueFor : MethodName := ⟨RX12, "valueFor", "(IJ)J"⟩
abbrev cX12_takeOne : ByteArray := prog_14_method_82_code
def yX12_takeOne : MethodName := ⟨RX12, "takeOne", "(II)V"⟩
abbrev cX12_addUnknown : ByteArray := prog_14_method_83_code
def yX12_addUnknown : MethodName := ⟨RX12, "addUnknown", "(III)V"⟩
abbrev cX12_skip : ByteArray := prog_14_method_84_code
def yX12_skip : MethodName := ⟨RX12, "skip", "(II)V"⟩
abbrev cX12_takeLength : ByteArray := prog_14_method_85_code
def yX12_takeLength : MethodName := ⟨RX12, "takeLength", "(III)V"⟩
abbrev cX12_takeNext : ByteArray := prog_14_method_86_code
def yX12_takeNext : MethodName := ⟨RX12, "takeNext", "(II)V"⟩
abbrev cX12_begins : ByteArray := prog_14_method_87_code
def yX12_begins : MethodName := ⟨RX12, "begins", "(III)Z"⟩
abbrev cX12_decode : ByteArray := prog_14_method_88_code
def yX12_decode : MethodName := ⟨RX12, "decode", "(III)I"⟩
abbrev cX12_put : ByteArray := prog_14_method_89_code
def yX12_put : MethodName := ⟨RX12, "put", "(I)V"⟩
abbrev cX12_putVarint : ByteArray := prog_14_method_90_code
def yX12_putVarint : MethodName := ⟨RX12, "putVarint", "(J)V"⟩
abbrev cX12_varintBytes : ByteArray := prog_14_method_91_code
def yX12_varintBytes : MethodName := ⟨RX12, "varintBytes", "(J)I"⟩
abbrev cX12_varintOf : ByteArray := prog_14_method_92_code
def yX12_varintOf : MethodName := ⟨RX12, "varintOf", "(IJ)J"⟩
abbrev cX12_kindBytes : ByteArray := prog_14_method_93_code
def yX12_kindBytes : MethodName := ⟨RX12, "kindBytes", "(IJ)I"⟩
abbrev cX12_putOne : ByteArray := prog_14_method_94_code
def yX12_putOne : MethodName := ⟨RX12, "putOne", "(IJ)V"⟩
abbrev cX12_tagOf : ByteArray := prog_14_method_95_code
def yX12_tagOf : MethodName := ⟨RX12, "tagOf", "(II)J"⟩
abbrev cX12_packedBytes : ByteArray := prog_14_method_96_code
def yX12_packedBytes : MethodName := ⟨RX12, "packedBytes", "(II)I"⟩
abbrev cX12_rowBytes : ByteArray := prog_14_method_97_code
def yX12_rowBytes : MethodName := ⟨RX12, "rowBytes", "(I)I"⟩
abbrev cX12_measure : ByteArray := prog_14_method_98_code
def yX12_measure : MethodName := ⟨RX12, "measure", "()V"⟩
abbrev cX12_putPacked : ByteArray := prog_14_method_99_code
def yX12_putPacked : MethodName := ⟨RX12, "putPacked", "(II)V"⟩
abbrev cX12_putUnknown : ByteArray := prog_14_method_100_code
def yX12_putUnknown : MethodName := ⟨RX12, "putUnknown", "(I)V"⟩
abbrev cX12_nextRow : ByteArray := prog_14_method_101_code
def yX12_nextRow : MethodName := ⟨RX12, "nextRow", "(III)I"⟩
abbrev cX12_goInto : ByteArray := prog_14_method_102_code
def yX12_goInto : MethodName := ⟨RX12, "goInto", "(I)V"⟩
abbrev cX12_encodeStep : ByteArray := prog_14_method_103_code
def yX12_encodeStep : MethodName := ⟨RX12, "encodeStep", "()V"⟩
abbrev cX12_emptyOut : ByteArray := prog_14_method_104_code
def yX12_emptyOut : MethodName := ⟨RX12, "emptyOut", "()V"⟩
abbrev cX12_encode : ByteArray := prog_14_method_105_code
def yX12_encode : MethodName := ⟨RX12, "encode", "()I"⟩
abbrev cX12_putName : ByteArray := prog_14_method_106_code
def yX12_putName : MethodName := ⟨RX12, "putName", "(II)V"⟩
abbrev cX12_blanks : ByteArray := prog_14_method_107_code
def yX12_blanks : MethodName := ⟨RX12, "blanks", "(I)V"⟩
abbrev cX12_putWord : ByteArray := prog_14_method_108_code
def yX12_putWord : MethodName := ⟨RX12, "putWord", "(J)V"⟩
abbrev cX12_putDecimal : ByteArray := prog_14_method_109_code
def yX12_putDecimal : MethodName := ⟨RX12, "putDecimal", "(J)V"⟩
abbrev cX12_putSigned : ByteArray := prog_14_method_110_code
def yX12_putSigned : MethodName := ⟨RX12, "putSigned", "(J)V"⟩
abbrev cX12_putText_ : ByteArray := prog_14_method_111_code
def yX12_putText_ : MethodName := ⟨RX12, "putText", "(II)V"⟩
abbrev cX12_valueNumbered : ByteArray := prog_14_method_112_code
def yX12_valueNumbered : MethodName := ⟨RX12, "valueNumbered", "(IJ)I"⟩
abbrev cX12_putPlain : ByteArray := prog_14_method_113_code
def yX12_putPlain : MethodName := ⟨RX12, "putPlain", "(I)V"⟩
abbrev cX12_printStep : ByteArray := prog_14_method_114_code
def yX12_printStep : MethodName := ⟨RX12, "printStep", "()V"⟩
abbrev cX12_print : ByteArray := prog_14_method_115_code
def yX12_print : MethodName := ⟨RX12, "print", "()I"⟩
abbrev cX12_textBlanks : ByteArray := prog_14_method_116_code
def yX12_textBlanks : MethodName := ⟨RX12, "textBlanks", "(I)I"⟩
abbrev cX12_nameEnd : ByteArray := prog_14_method_117_code
def yX12_nameEnd : MethodName := ⟨RX12, "nameEnd", "(I)I"⟩
abbrev cX12_isNamed : ByteArray := prog_14_method_118_code
def yX12_isNamed : MethodName := ⟨RX12, "isNamed", "(IIII)Z"⟩
abbrev cX12_fieldNamed : ByteArray := prog_14_method_119_code
def yX12_fieldNamed : MethodName := ⟨RX12, "fieldNamed", "(III)I"⟩
abbrev cX12_toldBefore : ByteArray := prog_14_method_120_code
def yX12_toldBefore : MethodName := ⟨RX12, "toldBefore", "(II)Z"⟩
abbrev cX12_leastOf : ByteArray := prog_14_method_121_code
def yX12_leastOf : MethodName := ⟨RX12, "leastOf", "(I)J"⟩
abbrev cX12_mostOf : ByteArray := prog_14_method_122_code
def yX12_mostOf : MethodName := ⟨RX12, "mostOf", "(I)J"⟩
abbrev cX12_above : ByteArray := prog_14_method_123_code
def yX12_above : MethodName := ⟨RX12, "above", "(JJ)Z"⟩
abbrev cX12_parseNumber : ByteArray := prog_14_method_124_code
def yX12_parseNumber : MethodName := ⟨RX12, "parseNumber", "(II)V"⟩
abbrev cX12_parseName : ByteArray := prog_14_method_125_code
def yX12_parseName : MethodName := ⟨RX12, "parseName", "(II)V"⟩
abbrev cX12_isEight : ByteArray := prog_14_method_126_code
def yX12_isEight : MethodName := ⟨RX12, "isEight", "(I)Z"⟩
abbrev cX12_parseEscape : ByteArray := prog_14_method_127_code
def yX12_parseEscape : MethodName := ⟨RX12, "parseEscape", "()V"⟩
abbrev cX12_parseText : ByteArray := prog_14_method_128_code
def yX12_parseText : MethodName := ⟨RX12, "parseText", "(II)V"⟩
abbrev cX12_parsePlain : ByteArray := prog_14_method_129_code
def yX12_parsePlain : MethodName := ⟨RX12, "parsePlain", "(II)V"⟩
abbrev cX12_parseNext : ByteArray := prog_14_method_130_code
def yX12_parseNext : MethodName := ⟨RX12, "parseNext", "()V"⟩
abbrev cX12_parse : ByteArray := prog_14_method_131_code
def yX12_parse : MethodName := ⟨RX12, "parse", "(III)I"⟩
abbrev cX12_widens : ByteArray := prog_14_method_132_code
def yX12_widens : MethodName := ⟨RX12, "widens", "(II)Z"⟩
abbrev cX12_freshNumbered : ByteArray := prog_14_method_133_code
def yX12_freshNumbered : MethodName := ⟨RX12, "freshNumbered", "(II)I"⟩
abbrev cX12_joined : ByteArray := prog_14_method_134_code
def yX12_joined : MethodName := ⟨RX12, "joined", "(IIII)Z"⟩
abbrev cX12_open : ByteArray := prog_14_method_135_code
def yX12_open : MethodName := ⟨RX12, "open", "(II)V"⟩
abbrev cX12_checkStep : ByteArray := prog_14_method_136_code
def yX12_checkStep : MethodName := ⟨RX12, "checkStep", "()I"⟩
abbrev cX12_check : ByteArray := prog_14_method_137_code
def yX12_check : MethodName := ⟨RX12, "check", "(II)I"⟩
def TJ9 : u_T := fun k => match k with
  | _ => ("", "", "", false)
def TJ0 : u_T := fun k => match k with
  | _ => ("", "", "", false)
def TJ1 : u_T := fun k => match k with
  | _ => ("", "", "", false)
def TJ2 : u_T := fun k => match k with
  | _ => ("", "", "", false)
def TJ10 : u_T := fun k => match k with
  | _ => ("", "", "", false)
def TJ3 : u_T := fun k => match k with
  | _ => ("", "", "", false)
def RL : String := "ProtoDeskLaw"
abbrev cL_feed : ByteArray := method_3_code
def yL_feed : MethodName := ⟨RL, "feed", "(LProtoDesk;JI[J)I"⟩
abbrev cL_compile : ByteArray := method_4_code
def yL_compile : MethodName := ⟨RL, "compile", "(LProtoDesk;I[J)I"⟩
abbrev cL_many : ByteArray := method_5_code
def yL_many : MethodName := ⟨RL, "many", "(LProtoDesk;II[J)I"⟩
abbrev cL_field : ByteArray := method_6_code
def yL_field : MethodName := ⟨RL, "field", "(LProtoDesk;IIII[J)I"⟩
abbrev cL_find : ByteArray := method_7_code
def yL_find : MethodName := ⟨RL, "find", "(LProtoDesk;I[J)I"⟩
abbrev cL_decode : ByteArray := method_8_code
def yL_decode : MethodName := ⟨RL, "decode", "(LProtoDesk;III[J)I"⟩
abbrev cL_parse : ByteArray := method_9_code
def yL_parse : MethodName := ⟨RL, "parse", "(LProtoDesk;III[J)I"⟩
abbrev cL_encode : ByteArray := method_10_code
def yL_encode : MethodName := ⟨RL, "encode", "(LProtoDesk;[J)I"⟩
abbrev cL_print : ByteArray := method_11_code
def yL_print : MethodName := ⟨RL, "print", "(LProtoDesk;[J)I"⟩
abbrev cL_check : ByteArray := method_12_code
def yL_check : MethodName := ⟨RL, "check", "(LProtoDesk;II[J)I"⟩
abbrev cL_out : ByteArray := method_13_code
def yL_out : MethodName := ⟨RL, "out", "(LProtoDesk;I[J)I"⟩
abbrev cL_turn : ByteArray := method_14_code
def yL_turn : MethodName := ⟨RL, "turn", "(LProtoDesk;[J)I"⟩
abbrev cL_law : ByteArray := code
def yL_law : MethodName := ⟨RL, "law", "([I)Z"⟩
abbrev vwCl : List vw_C := [(RX0, TX0, 3), (RX1, TX1, 5), (RX2, TX2, 5), (RX3, TX3, 17), (RX4, TX4, 7), (RX5, TX5, 8), (RX6, TX6, 5), (RX7, TX7, 7), (RX8, TX8, 6), (RX9, TX9, 6), (RX10, TX10, 8), (RX11, TX11, 9), (RX12, TX12, 115)]
end
section
/-- the text constants: class, entry, text -/
def mm_strs : List (String × Nat × String) := [("ProtoDesk", 69, "not 1 to 8 bytes"), ("ProtoDesk", 80, "the tape would be too long"), ("ProtoDesk", 90, "no such schema"), ("ProtoDesk$Words", 93, "int32 int64 uint32 uint64 sint32 sint64 fixed32 fixed64 sfixed32 sfixed64 bool string bytes"), ("ProtoDesk$Words", 99, "message enum oneof repeated syntax packed true false proto3"), ("ProtoDesk$Words", 101, "import package option service extend map optional required group extensions reserved rpc"), ("ProtoDesk", 105, "no such schema, or no such question"), ("ProtoDesk", 127, "no such schema, message or field, or no such question"), ("ProtoDesk", 229, "no such schema, message or depth, or the tape is wrong"), ("ProtoDesk", 231, "the value is beyond the limits"), ("ProtoDesk$TextForm", 174, "nrt\"\\'"), ("ProtoDesk$TextForm", 181, "\n\r\t\"\\'"), ("ProtoDesk$TextForm", 129, "false true"), ("ProtoDesk", 179, "there is no value"), ("ProtoDesk$TextForm", 242, "  "), ("ProtoDesk$TextForm", 224, " {\n"), ("ProtoDesk$TextForm", 230, "}\n"), ("ProtoDesk$TextForm", 232, ": "), ("ProtoDesk$TextForm", 248, "true"), ("ProtoDesk$TextForm", 250, "false"), ("ProtoDesk", 190, "the text is too long"), ("ProtoDesk", 196, "no such message"), ("ProtoDesk", 204, "not a place of what was given"), ("ProtoDesk", 216, "too long for the tape")]
/-- exception classes that are not castable to one another -/
def mm_ncs : List (String × String) := [("java/lang/IllegalStateException", "java/lang/IllegalArgumentException"), ("java/lang/UnsupportedOperationException", "java/lang/IllegalArgumentException"), ("java/lang/IndexOutOfBoundsException", "java/lang/IllegalArgumentException"), ("java/lang/IllegalArgumentException", "java/lang/IllegalStateException"), ("java/lang/UnsupportedOperationException", "java/lang/IllegalStateException"), ("java/lang/IndexOutOfBoundsException", "java/lang/IllegalStateException"), ("java/lang/IllegalArgumentException", "java/lang/UnsupportedOperationException"), ("java/lang/IllegalStateException", "java/lang/UnsupportedOperationException"), ("java/lang/IndexOutOfBoundsException", "java/lang/UnsupportedOperationException"), ("java/lang/IllegalArgumentException", "java/lang/IndexOutOfBoundsException"), ("java/lang/IllegalStateException", "java/lang/IndexOutOfBoundsException"), ("java/lang/UnsupportedOperationException", "java/lang/IndexOutOfBoundsException")]
end
section
/-! ===== the abstract machine: states with addresses counted from the law's first cell, one judgement mm_V (a body from a pc on), one contract mm_Ct ===== -/
/-- a cell: an array (its type's number, its length, its contents) or an object (its class's number in vwCl, its fields) -/
abbrev mm_C : Type := (Nat × Nat × ((Nat → Int32) ⊕ (Nat → Int64) ⊕ (Nat → Option Nat))) ⊕ (Nat × List Value)
/-- the memory: cells by number, how many, whether an exception has been made since (then nothing new is made) -/
abbrev mm_S : Type := (Nat → mm_C) × Nat × Bool
/-- how a method ended: with a value or none, or by a throw of a class -/
abbrev mm_R : Type := Option Value ⊕ String
/-- the fixed world: class numbers and slots, array classes, the first new cell, the script, the texts' addresses -/
abbrev mm_G : Type := va_G × (Nat → ClassId) × Nat × (Nat × Nat × (Nat → Int32)) × (Nat → Nat)
abbrev mm_D (g : mm_G) : va_G := g.1
abbrev mm_cA (g : mm_G) : Nat → ClassId := g.2.1
abbrev mm_b (g : mm_G) : Nat := g.2.2.1
abbrev mm_X (g : mm_G) : Nat × Nat × (Nat → Int32) := g.2.2.2.1
abbrev mm_sA (g : mm_G) : Nat → Nat := g.2.2.2.2
abbrev mm_A (g : mm_G) : Nat → Prop := fun q => mm_b g ≤ q
/-- a value as the machine has it: .ref i is the i-th new cell, .retAddr 0 the script, .retAddr (k + 1) the k-th text -/
def mm_cv (g : mm_G) (v : Value) : Value := match v with
  | .ref i => .ref (mm_b g + i)
  | .retAddr 0 => .ref (mm_X g).1
  | .retAddr (k + 1) => .ref (mm_sA g k)
  | .int x => .int x
  | .long x => .long x
  | .float x => .float x
  | .double x => .double x
  | .null => .null
theorem mm_cv_cat (g : mm_G) (v : Value) : (mm_cv g v).category = v.category := by
  cases v with
  | retAddr k => cases k <;> rfl
  | _ => rfl
def mm_cc (g : mm_G) (c : mm_C) : va_E := match c with
  | .inl (t, n, .inl f) => .inl (mm_cA g t, n, .inl f)
  | .inl (t, n, .inr (.inl f)) => .inl (mm_cA g t, n, .inr (.inl f))
  | .inl (t, n, .inr (.inr f)) => .inl (mm_cA g t, n, .inr (.inr (.inr (.inr (fun j => (f j).map (fun i => mm_b g + i))))))
  | .inr (c, fs) => .inr (c, fs.map (mm_cv g))
def mm_tys (g : mm_G) : List (ClassId × FieldType) := [(mm_cA g 0, .int), (mm_cA g 1, .long), (mm_cA g 2, .byte), (mm_cA g 3, .boolean), (mm_cA g 4, .object "ProtoDesk$Item"), (mm_cA g 5, .object "ProtoDesk$Node")]
def mm_wl (g : mm_G) (M : Nat → mm_C) (n : Nat) : va_W := (List.range n).map (fun i => (mm_b g + i, mm_cc g (M i)))
def mm_up (M : Nat → mm_C) (i : Nat) (c : mm_C) : Nat → mm_C := fun j => if j = i then c else M j
theorem mm_up_s {M : Nat → mm_C} {i : Nat} {c : mm_C} : mm_up M i c i = c := if_pos rfl
theorem mm_up_n {M : Nat → mm_C} {i j : Nat} {c : mm_C} (h : j ≠ i) : mm_up M i c j = M j := if_neg h
theorem mm_wl_at {g : mm_G} {M : Nat → mm_C} {n i : Nat} (h : i < n) : (mm_wl g M n)[i]? = some (mm_b g + i, mm_cc g (M i)) := by
  simp [mm_wl, h]
theorem mm_wl_inv {g : mm_G} {M : Nat → mm_C} {n i : Nat} {q : Nat × va_E} (h : (mm_wl g M n)[i]? = some q) : i < n ∧ q = (mm_b g + i, mm_cc g (M i)) := by
  have hl : i < (mm_wl g M n).length := (List.getElem?_eq_some_iff.mp h).1
  have hi : i < n := by simpa [mm_wl] using hl
  rw [mm_wl_at hi] at h
  exact ⟨hi, (Option.some.inj h).symm⟩
theorem mm_wl_set {g : mm_G} {M : Nat → mm_C} {n i : Nat} {c : mm_C} {e : va_E} (he : e = mm_cc g c) (h : i < n) : (mm_wl g M n).set i (mm_b g + i, e) = mm_wl g (mm_up M i c) n := by
  subst he
  apply List.ext_getElem?
  intro j
  by_cases hj : j < n
  · rw [mm_wl_at hj]
    by_cases hji : j = i
    · subst hji
      rw [mm_up_s, List.getElem?_set_self (by simpa [mm_wl] using h)]
    · rw [mm_up_n hji, List.getElem?_set_ne (Ne.symm hji), mm_wl_at hj]
  · rw [List.getElem?_eq_none (by simpa [mm_wl] using hj), List.getElem?_eq_none (by simpa [mm_wl] using hj)]
theorem mm_wl_push {g : mm_G} {M : Nat → mm_C} {n : Nat} {c : mm_C} {e : va_E} (he : e = mm_cc g c) : mm_wl g M n ++ [(mm_b g + n, e)] = mm_wl g (mm_up M n c) (n + 1) := by
  subst he
  unfold mm_wl
  rw [List.range_succ, List.map_append]
  congr 1
  · apply List.map_congr_left
    intro i hi
    rw [mm_up_n (Nat.ne_of_lt (List.mem_range.mp hi))]
  · simp [mm_up_s]
theorem mm_wl_D (g : mm_G) (M : Nat → mm_C) (n : Nat) : va_D (mm_A g) (mm_wl g M n) := by
  refine ⟨fun i j p q h1 h2 h => ?_, fun k q h => ?_⟩
  · obtain ⟨-, rfl⟩ := mm_wl_inv h1
    obtain ⟨-, rfl⟩ := mm_wl_inv h2
    exact Nat.add_left_cancel h
  · obtain ⟨-, rfl⟩ := mm_wl_inv h
    exact Nat.le_add_right _ _
/-- the memory in the heap -/
def mm_Rp (g : mm_G) (S : mm_S) (H : Heap) : Prop := va_P (mm_D g) vwCl (mm_wl g S.1 S.2.1) H ∧ mm_b g ≤ H.size
/-- the words of the tables that stay, and those that go along by rows of their own -/
def mm_ws : List Cond := lw_tbl.filter goodWord
def mm_isN (w : Cond) : Bool := match w with
  | .fieldLinkNest _ _ _ _ _ _ => true
  | .methodLinkNest _ _ _ _ => true
  | .castable _ _ => true
  | .declares _ => true
  | _ => false
def mm_nest : List Cond := lw_tbl.filter mm_isN
theorem mm_in {w : Cond} (i : Nat) (h : lw_tbl[i]? = some w) (hg : goodWord w = true) : w ∈ mm_ws := List.mem_filter.mpr ⟨List.mem_of_getElem? h, hg⟩
theorem mm_inN {w : Cond} (i : Nat) (h : lw_tbl[i]? = some w) (hg : mm_isN w = true) : w ∈ mm_nest := List.mem_filter.mpr ⟨List.mem_of_getElem? h, hg⟩
def mm_Zs (g : mm_G) (U : State) (H : Heap) : Prop := vx_Zq Bundle.tN "UNASSIGNED_STACK" Bundle.steD (mm_A g) U H ∧ vx_Zq Bundle.tN "SUPPRESSED_SENTINEL" Bundle.listD (mm_A g) U H
/-- what holds of the tables and of the old cells all along -/
def mm_St (g : mm_G) (U : State) (H : Heap) : Prop :=
  va_K (mm_D g) vwCl (mm_tys g) U ∧ (∀ w ∈ mm_nest, va_Nw w U) ∧ (∀ (k : Nat) (q : String × Nat × String), mm_strs[k]? = some q → vk_R q.1 q.2.1 q.2.2 (mm_sA g k) U) ∧ (va_AO "ProtoDesk$Item" U ∧ va_AO "ProtoDesk$Node" U) ∧
  (∀ q ∈ mm_ncs, va_Nc q.1 q.2 U) ∧ mm_Zs g U H ∧ va_X (mm_X g).1 (mm_X g).2.1 (mm_X g).2.2 U H ∧ (mm_X g).1 < mm_b g ∧ mm_b g ≤ H.size
theorem mm_cast_warm {C T : String} {s U : State} (hW : s.WarmedH U.vm) (h : va_Nw (.castable C T) s) : va_Nw (.castable C T) U := by
  obtain ⟨c3, c4, h1, h2, h3⟩ := Cond.castable_spec (args := #[]) h
  have g1 : U.vm.findClass C = some c3 := by rw [hW.alike.findClass]; exact h1
  have g2 : U.vm.findClass T = some c4 := by rw [hW.alike.findClass]; exact h2
  have g3 : U.vm.assignable c3 c4 = true := by rw [hW.alike.assignable]; exact h3
  simp [va_Nw, Cond.before, Cond.holds, Cond.value, g1, g2, g3]
theorem mm_isN_on {w : Cond} (hw : mm_isN w = true) : w.onTables = true := by
  cases w <;> first | (cases hw; done) | rfl
theorem mm_nest_warm {w : Cond} {s U : State} (hW : s.WarmedH U.vm) (hw : mm_isN w = true) (h : va_Nw w s) : va_Nw w U := by
  cases w <;> first | (cases hw; done) | exact va_Nw.warmF hW h | exact va_Nw.warmM hW h | exact mm_cast_warm hW h | exact va_Nw.warmD hW h
theorem mm_St.warm {g : mm_G} {s U : State} {H : Heap} (hW : s.WarmedH U.vm) (h : mm_St g s H) : mm_St g U H := by
  obtain ⟨h1, h2, h3, h4, h5, h6, h7, h8⟩ := h
  exact ⟨va_K.moved hW.alike h1, fun w hw => mm_nest_warm hW (List.mem_filter.mp hw).2 (h2 w hw), fun k q hq => vk_R.warm hW (h3 k q hq), ⟨va_AO.moved hW.alike h4.1, va_AO.moved hW.alike h4.2⟩,
    fun q hq => va_Nc.moved hW.alike (h5 q hq), ⟨vx_Zq.moved hW.alike h6.1, vx_Zq.moved hW.alike h6.2⟩, va_X.moved hW.alike h7, h8⟩
theorem mm_St.same {g : mm_G} {s U : State} {H : Heap} (hv : U.vm = s.vm) (h : mm_St g s H) : mm_St g U H := h.warm (by rw [hv]; exact State.WarmedH.refl s)
theorem mm_St.kept {g : mm_G} {s : State} {H H1 : Heap} (hz : H.size ≤ H1.size) (hq : ∀ q : Nat, q < mm_b g → H1[q]? = H[q]?) (h : mm_St g s H) : mm_St g s H1 := by
  obtain ⟨h1, h2, h3, h4, h5, h6, h7, h8, h9⟩ := h
  have hq' : ∀ a : Nat, a < H.size → ¬ mm_A g a → H1[a]? = H[a]? := fun a _ ha => hq a (Nat.not_le.mp ha)
  exact ⟨h1, h2, h3, h4, h5, ⟨vx_Zq.kept h6.1 hq', vx_Zq.kept h6.2 hq'⟩, va_X.kept h7 (hq _ h8), h8, Nat.le_trans h9 hz⟩
/-- the locals -/
def mm_al (g : mm_G) (ls : List (Option Value)) : List (Nat × Value) := (List.range ls.length).filterMap (fun i => match ls[i]? with
  | some (some v) => some (i, mm_cv g v)
  | _ => none)
theorem mm_al_mem {g : mm_G} {ls : List (Option Value)} {i : Nat} {v : Value} (h : ls[i]? = some (some v)) : (i, mm_cv g v) ∈ mm_al g ls := by
  refine List.mem_filterMap.mpr ⟨i, List.mem_range.mpr (List.getElem?_eq_some_iff.mp h).1, ?_⟩
  rw [h]
theorem mm_al_inv {g : mm_G} {ls : List (Option Value)} {q : Nat × Value} (h : q ∈ mm_al g ls) : ∃ v, ls[q.1]? = some (some v) ∧ q.2 = mm_cv g v := by
  obtain ⟨i, -, hi⟩ := List.mem_filterMap.mp h
  cases hv : ls[i]? with
  | none => rw [hv] at hi; cases hi
  | some o =>
    cases o with
    | none => rw [hv] at hi; cases hi
    | some v =>
      rw [hv] at hi
      cases hi
      exact ⟨v, hv, rfl⟩
def mm_ls (g : mm_G) (la : Array Slot) (nL : Nat) (ls : List (Option Value)) : Prop := lv_has la nL (mm_al g ls)
theorem mm_ls_at {g : mm_G} {la : Array Slot} {nL i : Nat} {ls : List (Option Value)} {v : Value} (h : mm_ls g la nL ls) (hv : ls[i]? = some (some v)) : la[i]? = some (.val (mm_cv g v)) := h.2.2 _ (mm_al_mem hv)
theorem mm_lv_sub {la : Array Slot} {nL : Nat} {l l' : List (Nat × Value)} (h : lv_has la nL l) (hs : ∀ q ∈ l', q ∈ l) : lv_has la nL l' := ⟨h.1, h.2.1, fun q hq => h.2.2 q (hs q hq)⟩
theorem mm_ls_sub {g : mm_G} {la : Array Slot} {nL : Nat} {ls ls' : List (Option Value)} (h : mm_ls g la nL ls) (hs : ∀ (i : Nat) (v : Value), ls'[i]? = some (some v) → ls[i]? = some (some v)) : mm_ls g la nL ls' :=
  mm_lv_sub h (fun q hq => by
    obtain ⟨v, h1, h2⟩ := mm_al_inv hq
    have := mm_al_mem (g := g) (hs _ _ h1)
    rw [← h2] at this
    exact this)
/-- does the place before hold a value of two places -/
def mm_c2 (ls : List (Option Value)) (i : Nat) : Bool := match i with
  | 0 => false
  | j + 1 => match ls[j]? with
    | some (some v) => v.category == 2
    | _ => false
def mm_clr (ls : List (Option Value)) (i : Nat) : List (Option Value) := if mm_c2 ls i then ls.set (i - 1) none else ls
def mm_st1 (ls : List (Option Value)) (i : Nat) (v : Value) : List (Option Value) := (mm_clr ls i).set i (some v)
def mm_st2 (ls : List (Option Value)) (i : Nat) (v : Value) : List (Option Value) := ((mm_clr ls i).set (i + 1) none).set i (some v)
theorem mm_clr_at {ls : List (Option Value)} {i j : Nat} {v : Value} (hj : j ≠ i) (h : (mm_clr ls i)[j]? = some (some v)) : ls[j]? = some (some v) ∧ ¬ (j + 1 = i ∧ v.category = 2) := by
  unfold mm_clr at h
  split at h
  · next hc =>
    by_cases e : j = i - 1
    · exfalso
      subst e
      rw [List.getElem?_set] at h
      split at h
      · split at h <;> cases h
      · next hn => exact hn rfl
    · rw [List.getElem?_set_ne (Ne.symm e)] at h
      exact ⟨h, fun q => e (by omega)⟩
  · next hc =>
    refine ⟨h, fun q => hc ?_⟩
    obtain ⟨rfl, q2⟩ := q
    simp [mm_c2, h, q2]
theorem mm_ls_st1 {g : mm_G} {la : Array Slot} {nL i : Nat} {ls : List (Option Value)} {v : Value} (h : lv_has la nL ((i, mm_cv g v) :: (mm_al g ls).filter (fun q => !(q.1 == i) && !(q.1 + 1 == i && q.2.category == 2)))) : mm_ls g la nL (mm_st1 ls i v) := by
  refine mm_lv_sub h (fun q hq => ?_)
  obtain ⟨w, h1, h2⟩ := mm_al_inv hq
  obtain ⟨j, x⟩ := q
  dsimp only at h1 h2
  subst h2
  unfold mm_st1 at h1
  by_cases hj : j = i
  · subst hj
    rw [List.getElem?_set] at h1
    simp only [if_true] at h1
    split at h1
    · cases h1
      exact List.mem_cons_self
    · cases h1
  · rw [List.getElem?_set_ne (Ne.symm hj)] at h1
    obtain ⟨h3, h4⟩ := mm_clr_at hj h1
    refine List.mem_cons_of_mem _ (List.mem_filter.mpr ⟨mm_al_mem h3, ?_⟩)
    simp only [mm_cv_cat, Bool.and_eq_true, Bool.not_eq_true', beq_eq_false_iff_ne, Bool.and_eq_false_iff]
    refine ⟨by simpa using hj, ?_⟩
    by_cases hc : w.category = 2
    · exact Or.inl (by simpa using fun q => h4 ⟨q, hc⟩)
    · exact Or.inr (by simpa using hc)
theorem mm_ls_st2 {g : mm_G} {la : Array Slot} {nL i : Nat} {ls : List (Option Value)} {v : Value} (h : lv_has la nL ((i, mm_cv g v) :: (mm_al g ls).filter (fun q => !(q.1 == i) && (!(q.1 == i + 1) && !(q.1 + 1 == i && q.2.category == 2))))) : mm_ls g la nL (mm_st2 ls i v) := by
  refine mm_lv_sub h (fun q hq => ?_)
  obtain ⟨w, h1, h2⟩ := mm_al_inv hq
  obtain ⟨j, x⟩ := q
  dsimp only at h1 h2
  subst h2
  unfold mm_st2 at h1
  by_cases hj : j = i
  · subst hj
    rw [List.getElem?_set] at h1
    simp only [if_true] at h1
    split at h1
    · cases h1
      exact List.mem_cons_self
    · cases h1
  · rw [List.getElem?_set_ne (Ne.symm hj)] at h1
    by_cases hj1 : j = i + 1
    · exfalso
      subst hj1
      rw [List.getElem?_set] at h1
      simp only [if_true] at h1
      split at h1 <;> cases h1
    · rw [List.getElem?_set_ne (Ne.symm hj1)] at h1
      obtain ⟨h3, h4⟩ := mm_clr_at hj h1
      refine List.mem_cons_of_mem _ (List.mem_filter.mpr ⟨mm_al_mem h3, ?_⟩)
      simp only [mm_cv_cat, Bool.and_eq_true, Bool.not_eq_true', beq_eq_false_iff_ne, Bool.and_eq_false_iff]
      refine ⟨by simpa using hj, by simpa using hj1, ?_⟩
      by_cases hc : w.category = 2
      · exact Or.inl (by simpa using fun q => h4 ⟨q, hc⟩)
      · exact Or.inr (by simpa using hc)
/-- the room of a call d deep -/
def mm_rm (d dc ds : Nat) : Room := { frames := d + 8, cells := dc, slots := ds, locals := 60 * d + 120 }
/-- what stands while a body runs -/
def mm_Cx (g : mm_G) (l : Launch) (p : Program) (R : Room) (s : State) (m : MethodId) (args : Array Value) (meth : Method) (c : Code) (own nm : String) (cc : ByteArray) (nL : Nat) (ret : Option FieldType) (hh : List ExceptionTableEntry) (d dc ds : Nat) : Prop :=
  p.tables.exec = Jvm.exec ∧ c.code = cc ∧ c.maxLocals = nL ∧ meth.sig.returnType = ret ∧ meth.locks = false ∧ s.vm.findClass own = some m.cls ∧ c.exceptionTable.toList = hh ∧ (∀ w ∈ mm_ws, w.before args s = true) ∧ l.stackTraces = false ∧
  d + 8 ≤ R.frames ∧ 60 * d + 120 ≤ R.locals ∧ R.cells = dc ∧ R.slots = ds ∧ meth.name = nm ∧ mm_b g ≤ s.heap.size
/-- a return that fits the method's type -/
def mm_ok (ret : Option FieldType) (i : Instr) (v : Option Value) : Prop :=
  (∃ (x : Int32) (ty : FieldType), i = .ireturn ∧ v = some (.int x) ∧ ret = some ty ∧ narrow ty (.int x) = .int x) ∨ (∃ x : Int64, i = .lreturn ∧ v = some (.long x) ∧ ret = some .long) ∨
  (i = .return_ ∧ v = none ∧ ret = none) ∨ (∃ (a : Option Nat) (C : String), i = .areturn ∧ v = some (va_rf a) ∧ ret = some (.object C))
/-- what the end asks -/
def mm_En (g : mm_G) (l : Launch) (p : Program) (e : Env) (R : Room) (s : State) (m : MethodId) (args : Array Value) (below : List Frame) (meth : Method) (c : Code) (cc : ByteArray) (ret : Option FieldType) (dc ds : Nat) (Q : mm_R → mm_S → Prop) (QQ : State → Prop) : Prop :=
  (∀ (i : Instr) (v : Option Value) (S : mm_S) (H : Heap) (locs : List Loc) (uc us pc : Nat) (la : Array Slot), mm_ok ret i v → decode cc pc = .ok (i, 1) → Q (.inl v) S → mm_Rp g S H → va_S (mm_A g) s.heap H locs → uc ≤ dc → us ≤ ds →
    W p l e R s m args below meth c H locs uc us QQ (F0 m pc la (v.toList.map (mm_cv g)))) ∧
  ((∃ (Qc : Array Value → State → Outcome → State → Prop) (XC : String → State → State → Prop), QQ = vx_MQ below Qc XC args s dc ds (mm_A g) ∧ ∀ (E : String) (S : mm_S) (t : State), Q (.inr E) S → mm_Rp g S t.heap → va_F (mm_A g) s t → XC E s t) ∨ ∀ (E : String) (S : mm_S), ¬ Q (.inr E) S)
def mm_V (g : mm_G) (l : Launch) (own nm : String) (cc : ByteArray) (nL : Nat) (ret : Option FieldType) (hh : List ExceptionTableEntry) (d dc ds : Nat) (Q : mm_R → mm_S → Prop) (pc : Nat) (ls : List (Option Value)) (st : List Value) (S : mm_S) (uc us : Nat) : Prop :=
  ∀ (p : Program) (e : Env) (R : Room) (s : State) (m : MethodId) (args : Array Value) (below : List Frame) (meth : Method) (c : Code) (QQ : State → Prop),
    mm_Cx g l p R s m args meth c own nm cc nL ret hh d dc ds → mm_En g l p e R s m args below meth c cc ret dc ds Q QQ →
    ∀ (H : Heap) (locs : List Loc) (la : Array Slot), mm_Rp g S H → mm_St g s H → va_S (mm_A g) s.heap H locs → (S.2.2 = false → s.heap.size + uc = mm_b g + S.2.1) → mm_ls g la nL ls →
      W p l e R s m args below meth c H locs uc us QQ (F0 m pc la (st.map (mm_cv g)))
/-- a method's end, and its throw, as contracts have them -/
def mm_Qc (g : mm_G) (Q : mm_R → mm_S → Prop) : Array Value → State → Outcome → State → Prop := fun _ st o t => ∃ (v : Option Value) (S : mm_S), o = .returned (v.map (mm_cv g)) ∧ Q (.inl v) S ∧ mm_Rp g S t.heap ∧ va_F (mm_A g) st t
def mm_XC (g : mm_G) (Q : mm_R → mm_S → Prop) : String → State → State → Prop := fun E st t => ∃ S : mm_S, Q (.inr E) S ∧ mm_Rp g S t.heap ∧ va_F (mm_A g) st t
def mm_Pc (g : mm_G) (as : List Value) (S : mm_S) : Array Value → State → Prop := fun a U => a = (as.map (mm_cv g)).toArray ∧ mm_Rp g S U.heap ∧ (S.2.2 = false → U.heap.size = mm_b g + S.2.1) ∧ mm_St g U U.heap
def mm_Ct (g : mm_G) (l : Launch) (y : MethodName) (cw : Cond) (d dc ds : Nat) (as : List Value) (S : mm_S) (Q : mm_R → mm_S → Prop) : Prop :=
  vx_Met l y (cw :: mm_ws) (mm_rm d dc ds) (mm_Pc g as S) (mm_Qc g Q) (mm_XC g Q) dc ds (mm_A g)
theorem mm_Pc_blind (g : mm_G) (as : List Value) (S : mm_S) : FrameBlind (mm_Pc g as S) := fun a U f mk h => ⟨h.1, h.2.1, h.2.2.1, (show mm_St g (U.calling f mk a) U.heap from mm_St.same (s := U) rfl h.2.2.2)⟩
section MMV
variable {g : mm_G} {l : Launch} {own nm : String} {cc : ByteArray} {nL : Nat} {ret : Option FieldType} {hh : List ExceptionTableEntry} {d dc ds : Nat} {Q : mm_R → mm_S → Prop} {pc : Nat} {ls : List (Option Value)} {st : List Value} {S : mm_S} {uc us : Nat}
theorem mm_iconst {n : Int} {v : Int32} (hd : decode cc pc = .ok (.iconst n, 1)) (hv : Int32.ofInt n = v) (k : mm_V g l own nm cc nL ret hh d dc ds Q (pc + 1) ls (.int v :: st) S uc us) : mm_V g l own nm cc nL ret hh d dc ds Q pc ls st S uc us := by
  intro p e R s m args below meth c QQ hc he H locs la hR hS hF hZ hl
  exact lv_iconst hc.1 hc.2.1 hd hv (k p e R s m args below meth c QQ hc he H locs la hR hS hF hZ hl)
theorem mm_bipush {n : Int} {v : Int32} (hd : decode cc pc = .ok (.bipush n, 2)) (hv : (Int8.ofInt n).toInt32 = v) (k : mm_V g l own nm cc nL ret hh d dc ds Q (pc + 2) ls (.int v :: st) S uc us) : mm_V g l own nm cc nL ret hh d dc ds Q pc ls st S uc us := by
  intro p e R s m args below meth c QQ hc he H locs la hR hS hF hZ hl
  exact lv_bipush hc.1 hc.2.1 hd hv (k p e R s m args below meth c QQ hc he H locs la hR hS hF hZ hl)
theorem mm_sipush {n : Int} {v : Int32} (hd : decode cc pc = .ok (.sipush n, 3)) (hv : (Int16.ofInt n).toInt32 = v) (k : mm_V g l own nm cc nL ret hh d dc ds Q (pc + 3) ls (.int v :: st) S uc us) : mm_V g l own nm cc nL ret hh d dc ds Q pc ls st S uc us := by
  intro p e R s m args below meth c QQ hc he H locs la hR hS hF hZ hl
  exact lv_sipush hc.1 hc.2.1 hd hv (k p e R s m args below meth c QQ hc he H locs la hR hS hF hZ hl)
theorem mm_lconst {n : Fin 2} {v : Int64} (hd : decode cc pc = .ok (.lconst n, 1)) (hv : Int64.ofNat (n : Nat) = v) (k : mm_V g l own nm cc nL ret hh d dc ds Q (pc + 1) ls (.long v :: st) S uc us) : mm_V g l own nm cc nL ret hh d dc ds Q pc ls st S uc us := by
  intro p e R s m args below meth c QQ hc he H locs la hR hS hF hZ hl
  exact lv_lconst hc.1 hc.2.1 hd hv (k p e R s m args below meth c QQ hc he H locs la hR hS hF hZ hl)
theorem mm_null (hd : decode cc pc = .ok (.aconst_null, 1)) (k : mm_V g l own nm cc nL ret hh d dc ds Q (pc + 1) ls (.null :: st) S uc us) : mm_V g l own nm cc nL ret hh d dc ds Q pc ls st S uc us := by
  intro p e R s m args below meth c QQ hc he H locs la hR hS hF hZ hl
  exact lv_null hc.1 hc.2.1 hd (k p e R s m args below meth c QQ hc he H locs la hR hS hF hZ hl)
theorem mm_ldc {i : Nat} {v : Int32} (hw : Cond.constant own i v ∈ mm_ws) (hd : decode cc pc = .ok (.ldc i, 2)) (k : mm_V g l own nm cc nL ret hh d dc ds Q (pc + 2) ls (.int v :: st) S uc us) : mm_V g l own nm cc nL ret hh d dc ds Q pc ls st S uc us := by
  intro p e R s m args below meth c QQ hc he H locs la hR hS hF hZ hl
  exact lv_ldc hc.1 hc.2.1 hc.2.2.2.2.2.1 (hc.2.2.2.2.2.2.2.1 _ hw) hd (k p e R s m args below meth c QQ hc he H locs la hR hS hF hZ hl)
theorem mm_ldcw {i : Nat} {v : Int32} (hw : Cond.constant own i v ∈ mm_ws) (hd : decode cc pc = .ok (.ldc_w i, 3)) (k : mm_V g l own nm cc nL ret hh d dc ds Q (pc + 3) ls (.int v :: st) S uc us) : mm_V g l own nm cc nL ret hh d dc ds Q pc ls st S uc us := by
  intro p e R s m args below meth c QQ hc he H locs la hR hS hF hZ hl
  exact lv_ldcw hc.1 hc.2.1 hc.2.2.2.2.2.1 (hc.2.2.2.2.2.2.2.1 _ hw) hd (k p e R s m args below meth c QQ hc he H locs la hR hS hF hZ hl)
theorem mm_ldc2 {i : Nat} {v : Int64} (hw : Cond.constantLong own i v ∈ mm_ws) (hd : decode cc pc = .ok (.ldc2_w i, 3)) (k : mm_V g l own nm cc nL ret hh d dc ds Q (pc + 3) ls (.long v :: st) S uc us) : mm_V g l own nm cc nL ret hh d dc ds Q pc ls st S uc us := by
  intro p e R s m args below meth c QQ hc he H locs la hR hS hF hZ hl
  exact lv_ldc2 hc.1 hc.2.1 hc.2.2.2.2.2.1 (hc.2.2.2.2.2.2.2.1 _ hw) hd (k p e R s m args below meth c QQ hc he H locs la hR hS hF hZ hl)
theorem mm_iload {i : Nat} {x : Int32} (hd : decode cc pc = .ok (.iload i, 2)) (hv : ls[i]? = some (some (.int x))) (k : mm_V g l own nm cc nL ret hh d dc ds Q (pc + 2) ls (.int x :: st) S uc us) : mm_V g l own nm cc nL ret hh d dc ds Q pc ls st S uc us := by
  intro p e R s m args below meth c QQ hc he H locs la hR hS hF hZ hl
  exact lv_iload hc.1 hc.2.1 hd (mm_ls_at hl hv) (k p e R s m args below meth c QQ hc he H locs la hR hS hF hZ hl)
theorem mm_iload_n {i : Fin 4} {x : Int32} (hd : decode cc pc = .ok (.iload_n i, 1)) (hv : ls[(i : Nat)]? = some (some (.int x))) (k : mm_V g l own nm cc nL ret hh d dc ds Q (pc + 1) ls (.int x :: st) S uc us) : mm_V g l own nm cc nL ret hh d dc ds Q pc ls st S uc us := by
  intro p e R s m args below meth c QQ hc he H locs la hR hS hF hZ hl
  exact lv_iload_n hc.1 hc.2.1 hd rfl (mm_ls_at hl hv) (k p e R s m args below meth c QQ hc he H locs la hR hS hF hZ hl)
theorem mm_lload {i : Nat} {x : Int64} (hd : decode cc pc = .ok (.lload i, 2)) (hv : ls[i]? = some (some (.long x))) (k : mm_V g l own nm cc nL ret hh d dc ds Q (pc + 2) ls (.long x :: st) S uc us) : mm_V g l own nm cc nL ret hh d dc ds Q pc ls st S uc us := by
  intro p e R s m args below meth c QQ hc he H locs la hR hS hF hZ hl
  exact lv_lload hc.1 hc.2.1 hd (mm_ls_at hl hv) (k p e R s m args below meth c QQ hc he H locs la hR hS hF hZ hl)
theorem mm_lload_n {i : Fin 4} {x : Int64} (hd : decode cc pc = .ok (.lload_n i, 1)) (hv : ls[(i : Nat)]? = some (some (.long x))) (k : mm_V g l own nm cc nL ret hh d dc ds Q (pc + 1) ls (.long x :: st) S uc us) : mm_V g l own nm cc nL ret hh d dc ds Q pc ls st S uc us := by
  intro p e R s m args below meth c QQ hc he H locs la hR hS hF hZ hl
  exact lv_lload_n hc.1 hc.2.1 hd rfl (mm_ls_at hl hv) (k p e R s m args below meth c QQ hc he H locs la hR hS hF hZ hl)
/-- a reference value -/
def mm_isr (v : Value) : Bool := match v with
  | .ref _ => true
  | .null => true
  | .retAddr _ => true
  | _ => false
theorem mm_aload {i : Nat} {v : Value} (hd : decode cc pc = .ok (.aload i, 2)) (hv : ls[i]? = some (some v)) (hr : mm_isr v = true) (k : mm_V g l own nm cc nL ret hh d dc ds Q (pc + 2) ls (v :: st) S uc us) : mm_V g l own nm cc nL ret hh d dc ds Q pc ls st S uc us := by
  intro p e R s m args below meth c QQ hc he H locs la hR hS hF hZ hl
  have hk := k p e R s m args below meth c QQ hc he H locs la hR hS hF hZ hl
  have ha := mm_ls_at hl hv
  cases v with
  | ref a => exact lv_aload hc.1 hc.2.1 hd ha hk
  | null => exact lv_aloadN hc.1 hc.2.1 hd ha hk
  | retAddr a => cases a <;> exact lv_aload hc.1 hc.2.1 hd ha hk
  | _ => cases hr
theorem mm_aload_n {i : Fin 4} {v : Value} (hd : decode cc pc = .ok (.aload_n i, 1)) (hv : ls[(i : Nat)]? = some (some v)) (hr : mm_isr v = true) (k : mm_V g l own nm cc nL ret hh d dc ds Q (pc + 1) ls (v :: st) S uc us) : mm_V g l own nm cc nL ret hh d dc ds Q pc ls st S uc us := by
  intro p e R s m args below meth c QQ hc he H locs la hR hS hF hZ hl
  have hk := k p e R s m args below meth c QQ hc he H locs la hR hS hF hZ hl
  have ha := mm_ls_at hl hv
  cases v with
  | ref a => exact lv_aload_n hc.1 hc.2.1 hd rfl ha hk
  | null => exact lv_aload_nN hc.1 hc.2.1 hd rfl ha hk
  | retAddr a => cases a <;> exact lv_aload_n hc.1 hc.2.1 hd rfl ha hk
  | _ => cases hr
theorem mm_istore {i : Nat} {x : Int32} (ls1 : List (Option Value)) (hd : decode cc pc = .ok (.istore i, 2)) (hi : i < nL) (he1 : mm_st1 ls i (.int x) = ls1) (k : mm_V g l own nm cc nL ret hh d dc ds Q (pc + 2) ls1 st S uc us) : mm_V g l own nm cc nL ret hh d dc ds Q pc ls (.int x :: st) S uc us := by
  intro p e R s m args below meth c QQ hc he H locs la hR hS hF hZ hl
  subst he1
  exact lv_istore hc.1 hc.2.1 hd hl hi rfl (fun la hl => k p e R s m args below meth c QQ hc he H locs la hR hS hF hZ (mm_ls_st1 (v := .int x) hl))
theorem mm_istore_n {i : Fin 4} {x : Int32} (ls1 : List (Option Value)) (hd : decode cc pc = .ok (.istore_n i, 1)) (hi : (i : Nat) < nL) (he1 : mm_st1 ls (i : Nat) (.int x) = ls1) (k : mm_V g l own nm cc nL ret hh d dc ds Q (pc + 1) ls1 st S uc us) : mm_V g l own nm cc nL ret hh d dc ds Q pc ls (.int x :: st) S uc us := by
  intro p e R s m args below meth c QQ hc he H locs la hR hS hF hZ hl
  subst he1
  exact lv_istore_n hc.1 hc.2.1 hd rfl hl hi rfl (fun la hl => k p e R s m args below meth c QQ hc he H locs la hR hS hF hZ (mm_ls_st1 (v := .int x) hl))
theorem mm_lstore {i : Nat} {x : Int64} (ls1 : List (Option Value)) (hd : decode cc pc = .ok (.lstore i, 2)) (hi : i + 1 < nL) (he1 : mm_st2 ls i (.long x) = ls1) (k : mm_V g l own nm cc nL ret hh d dc ds Q (pc + 2) ls1 st S uc us) : mm_V g l own nm cc nL ret hh d dc ds Q pc ls (.long x :: st) S uc us := by
  intro p e R s m args below meth c QQ hc he H locs la hR hS hF hZ hl
  subst he1
  exact lv_lstore hc.1 hc.2.1 hd hl hi rfl (fun la hl => k p e R s m args below meth c QQ hc he H locs la hR hS hF hZ (mm_ls_st2 (v := .long x) hl))
theorem mm_lstore_n {i : Fin 4} {x : Int64} (ls1 : List (Option Value)) (hd : decode cc pc = .ok (.lstore_n i, 1)) (hi : (i : Nat) + 1 < nL) (he1 : mm_st2 ls (i : Nat) (.long x) = ls1) (k : mm_V g l own nm cc nL ret hh d dc ds Q (pc + 1) ls1 st S uc us) : mm_V g l own nm cc nL ret hh d dc ds Q pc ls (.long x :: st) S uc us := by
  intro p e R s m args below meth c QQ hc he H locs la hR hS hF hZ hl
  subst he1
  exact lv_lstore_n hc.1 hc.2.1 hd rfl hl hi rfl (fun la hl => k p e R s m args below meth c QQ hc he H locs la hR hS hF hZ (mm_ls_st2 (v := .long x) hl))
theorem mm_astore {i : Nat} {v : Value} (ls1 : List (Option Value)) (hd : decode cc pc = .ok (.astore i, 2)) (hi : i < nL) (hr : mm_isr v = true) (he1 : mm_st1 ls i v = ls1) (k : mm_V g l own nm cc nL ret hh d dc ds Q (pc + 2) ls1 st S uc us) : mm_V g l own nm cc nL ret hh d dc ds Q pc ls (v :: st) S uc us := by
  intro p e R s m args below meth c QQ hc he H locs la hR hS hF hZ hl
  subst he1
  cases v with
  | ref a => exact lv_astore hc.1 hc.2.1 hd hl hi rfl (fun la hl => k p e R s m args below meth c QQ hc he H locs la hR hS hF hZ (mm_ls_st1 (v := .ref a) hl))
  | null => exact lv_astoreN hc.1 hc.2.1 hd hl hi rfl (fun la hl => k p e R s m args below meth c QQ hc he H locs la hR hS hF hZ (mm_ls_st1 (v := .null) hl))
  | retAddr a =>
    cases a with
    | zero => exact lv_astore hc.1 hc.2.1 hd hl hi rfl (fun la hl => k p e R s m args below meth c QQ hc he H locs la hR hS hF hZ (mm_ls_st1 (v := .retAddr 0) hl))
    | succ a => exact lv_astore hc.1 hc.2.1 hd hl hi rfl (fun la hl => k p e R s m args below meth c QQ hc he H locs la hR hS hF hZ (mm_ls_st1 (v := .retAddr (a + 1)) hl))
  | _ => cases hr
theorem mm_astore_n {i : Fin 4} {v : Value} (ls1 : List (Option Value)) (hd : decode cc pc = .ok (.astore_n i, 1)) (hi : (i : Nat) < nL) (hr : mm_isr v = true) (he1 : mm_st1 ls (i : Nat) v = ls1) (k : mm_V g l own nm cc nL ret hh d dc ds Q (pc + 1) ls1 st S uc us) : mm_V g l own nm cc nL ret hh d dc ds Q pc ls (v :: st) S uc us := by
  intro p e R s m args below meth c QQ hc he H locs la hR hS hF hZ hl
  subst he1
  cases v with
  | ref a => exact lv_astore_n hc.1 hc.2.1 hd rfl hl hi rfl (fun la hl => k p e R s m args below meth c QQ hc he H locs la hR hS hF hZ (mm_ls_st1 (v := .ref a) hl))
  | null => exact lv_astore_nN hc.1 hc.2.1 hd rfl hl hi rfl (fun la hl => k p e R s m args below meth c QQ hc he H locs la hR hS hF hZ (mm_ls_st1 (v := .null) hl))
  | retAddr a =>
    cases a with
    | zero => exact lv_astore_n hc.1 hc.2.1 hd rfl hl hi rfl (fun la hl => k p e R s m args below meth c QQ hc he H locs la hR hS hF hZ (mm_ls_st1 (v := .retAddr 0) hl))
    | succ a => exact lv_astore_n hc.1 hc.2.1 hd rfl hl hi rfl (fun la hl => k p e R s m args below meth c QQ hc he H locs la hR hS hF hZ (mm_ls_st1 (v := .retAddr (a + 1)) hl))
  | _ => cases hr
theorem mm_iinc {i : Nat} {n : Int} {x v : Int32} (ls1 : List (Option Value)) (hd : decode cc pc = .ok (.iinc i n, 3)) (hx : ls[i]? = some (some (.int x))) (hv : x + Int32.ofInt n = v) (hi : i < nL) (he1 : mm_st1 ls i (.int v) = ls1) (k : mm_V g l own nm cc nL ret hh d dc ds Q (pc + 3) ls1 st S uc us) : mm_V g l own nm cc nL ret hh d dc ds Q pc ls st S uc us := by
  intro p e R s m args below meth c QQ hc he H locs la hR hS hF hZ hl
  subst he1
  obtain ⟨j, hj⟩ := List.getElem?_of_mem (mm_al_mem (g := g) hx)
  exact lv_iinc hc.1 hc.2.1 hd hl hj hv hi rfl (fun la hl => k p e R s m args below meth c QQ hc he H locs la hR hS hF hZ (mm_ls_st1 (v := .int v) hl))
theorem mm_iadd {x y : Int32} (hd : decode cc pc = .ok (.iadd, 1)) (k : mm_V g l own nm cc nL ret hh d dc ds Q (pc + 1) ls (.int (x + y) :: st) S uc us) : mm_V g l own nm cc nL ret hh d dc ds Q pc ls (.int y :: .int x :: st) S uc us := by
  intro p e R s m args below meth c QQ hc he H locs la hR hS hF hZ hl
  exact lv_iadd hc.1 hc.2.1 hd (k p e R s m args below meth c QQ hc he H locs la hR hS hF hZ hl)
theorem mm_isub {x y : Int32} (hd : decode cc pc = .ok (.isub, 1)) (k : mm_V g l own nm cc nL ret hh d dc ds Q (pc + 1) ls (.int (x - y) :: st) S uc us) : mm_V g l own nm cc nL ret hh d dc ds Q pc ls (.int y :: .int x :: st) S uc us := by
  intro p e R s m args below meth c QQ hc he H locs la hR hS hF hZ hl
  exact lv_isub hc.1 hc.2.1 hd (k p e R s m args below meth c QQ hc he H locs la hR hS hF hZ hl)
theorem mm_imul {x y : Int32} (hd : decode cc pc = .ok (.imul, 1)) (k : mm_V g l own nm cc nL ret hh d dc ds Q (pc + 1) ls (.int (x * y) :: st) S uc us) : mm_V g l own nm cc nL ret hh d dc ds Q pc ls (.int y :: .int x :: st) S uc us := by
  intro p e R s m args below meth c QQ hc he H locs la hR hS hF hZ hl
  exact lv_imul hc.1 hc.2.1 hd (k p e R s m args below meth c QQ hc he H locs la hR hS hF hZ hl)
theorem mm_iand {x y : Int32} (hd : decode cc pc = .ok (.iand, 1)) (k : mm_V g l own nm cc nL ret hh d dc ds Q (pc + 1) ls (.int (x &&& y) :: st) S uc us) : mm_V g l own nm cc nL ret hh d dc ds Q pc ls (.int y :: .int x :: st) S uc us := by
  intro p e R s m args below meth c QQ hc he H locs la hR hS hF hZ hl
  exact lv_iand hc.1 hc.2.1 hd (k p e R s m args below meth c QQ hc he H locs la hR hS hF hZ hl)
theorem mm_ior {x y : Int32} (hd : decode cc pc = .ok (.ior, 1)) (k : mm_V g l own nm cc nL ret hh d dc ds Q (pc + 1) ls (.int (x ||| y) :: st) S uc us) : mm_V g l own nm cc nL ret hh d dc ds Q pc ls (.int y :: .int x :: st) S uc us := by
  intro p e R s m args below meth c QQ hc he H locs la hR hS hF hZ hl
  exact lv_ior hc.1 hc.2.1 hd (k p e R s m args below meth c QQ hc he H locs la hR hS hF hZ hl)
theorem mm_ixor {x y : Int32} (hd : decode cc pc = .ok (.ixor, 1)) (k : mm_V g l own nm cc nL ret hh d dc ds Q (pc + 1) ls (.int (x ^^^ y) :: st) S uc us) : mm_V g l own nm cc nL ret hh d dc ds Q pc ls (.int y :: .int x :: st) S uc us := by
  intro p e R s m args below meth c QQ hc he H locs la hR hS hF hZ hl
  exact lv_ixor hc.1 hc.2.1 hd (k p e R s m args below meth c QQ hc he H locs la hR hS hF hZ hl)
theorem mm_ladd {x y : Int64} (hd : decode cc pc = .ok (.ladd, 1)) (k : mm_V g l own nm cc nL ret hh d dc ds Q (pc + 1) ls (.long (x + y) :: st) S uc us) : mm_V g l own nm cc nL ret hh d dc ds Q pc ls (.long y :: .long x :: st) S uc us := by
  intro p e R s m args below meth c QQ hc he H locs la hR hS hF hZ hl
  exact lv_ladd hc.1 hc.2.1 hd (k p e R s m args below meth c QQ hc he H locs la hR hS hF hZ hl)
theorem mm_lsub {x y : Int64} (hd : decode cc pc = .ok (.lsub, 1)) (k : mm_V g l own nm cc nL ret hh d dc ds Q (pc + 1) ls (.long (x - y) :: st) S uc us) : mm_V g l own nm cc nL ret hh d dc ds Q pc ls (.long y :: .long x :: st) S uc us := by
  intro p e R s m args below meth c QQ hc he H locs la hR hS hF hZ hl
  exact lv_lsub hc.1 hc.2.1 hd (k p e R s m args below meth c QQ hc he H locs la hR hS hF hZ hl)
theorem mm_lmul {x y : Int64} (hd : decode cc pc = .ok (.lmul, 1)) (k : mm_V g l own nm cc nL ret hh d dc ds Q (pc + 1) ls (.long (x * y) :: st) S uc us) : mm_V g l own nm cc nL ret hh d dc ds Q pc ls (.long y :: .long x :: st) S uc us := by
  intro p e R s m args below meth c QQ hc he H locs la hR hS hF hZ hl
  exact lv_lmul hc.1 hc.2.1 hd (k p e R s m args below meth c QQ hc he H locs la hR hS hF hZ hl)
theorem mm_land {x y : Int64} (hd : decode cc pc = .ok (.land, 1)) (k : mm_V g l own nm cc nL ret hh d dc ds Q (pc + 1) ls (.long (x &&& y) :: st) S uc us) : mm_V g l own nm cc nL ret hh d dc ds Q pc ls (.long y :: .long x :: st) S uc us := by
  intro p e R s m args below meth c QQ hc he H locs la hR hS hF hZ hl
  exact lv_land hc.1 hc.2.1 hd (k p e R s m args below meth c QQ hc he H locs la hR hS hF hZ hl)
theorem mm_lor {x y : Int64} (hd : decode cc pc = .ok (.lor, 1)) (k : mm_V g l own nm cc nL ret hh d dc ds Q (pc + 1) ls (.long (x ||| y) :: st) S uc us) : mm_V g l own nm cc nL ret hh d dc ds Q pc ls (.long y :: .long x :: st) S uc us := by
  intro p e R s m args below meth c QQ hc he H locs la hR hS hF hZ hl
  exact lv_lor hc.1 hc.2.1 hd (k p e R s m args below meth c QQ hc he H locs la hR hS hF hZ hl)
theorem mm_lxor {x y : Int64} (hd : decode cc pc = .ok (.lxor, 1)) (k : mm_V g l own nm cc nL ret hh d dc ds Q (pc + 1) ls (.long (x ^^^ y) :: st) S uc us) : mm_V g l own nm cc nL ret hh d dc ds Q pc ls (.long y :: .long x :: st) S uc us := by
  intro p e R s m args below meth c QQ hc he H locs la hR hS hF hZ hl
  exact lv_lxor hc.1 hc.2.1 hd (k p e R s m args below meth c QQ hc he H locs la hR hS hF hZ hl)
theorem mm_idiv {x y : Int32} (hd : decode cc pc = .ok (.idiv, 1)) (hne : ¬ y = 0) (k : mm_V g l own nm cc nL ret hh d dc ds Q (pc + 1) ls (.int (x / y) :: st) S uc us) : mm_V g l own nm cc nL ret hh d dc ds Q pc ls (.int y :: .int x :: st) S uc us := by
  intro p e R s m args below meth c QQ hc he H locs la hR hS hF hZ hl
  exact lv_idiv hc.1 hc.2.1 hd hne (k p e R s m args below meth c QQ hc he H locs la hR hS hF hZ hl)
theorem mm_irem {x y : Int32} (hd : decode cc pc = .ok (.irem, 1)) (hne : ¬ y = 0) (k : mm_V g l own nm cc nL ret hh d dc ds Q (pc + 1) ls (.int (x - x / y * y) :: st) S uc us) : mm_V g l own nm cc nL ret hh d dc ds Q pc ls (.int y :: .int x :: st) S uc us := by
  intro p e R s m args below meth c QQ hc he H locs la hR hS hF hZ hl
  exact lv_irem hc.1 hc.2.1 hd hne (k p e R s m args below meth c QQ hc he H locs la hR hS hF hZ hl)
theorem mm_ldiv {x y : Int64} (hd : decode cc pc = .ok (.ldiv, 1)) (hne : ¬ y = 0) (k : mm_V g l own nm cc nL ret hh d dc ds Q (pc + 1) ls (.long (x / y) :: st) S uc us) : mm_V g l own nm cc nL ret hh d dc ds Q pc ls (.long y :: .long x :: st) S uc us := by
  intro p e R s m args below meth c QQ hc he H locs la hR hS hF hZ hl
  exact lv_ldiv hc.1 hc.2.1 hd hne (k p e R s m args below meth c QQ hc he H locs la hR hS hF hZ hl)
theorem mm_ineg {x : Int32} (hd : decode cc pc = .ok (.ineg, 1)) (k : mm_V g l own nm cc nL ret hh d dc ds Q (pc + 1) ls (.int (-x) :: st) S uc us) : mm_V g l own nm cc nL ret hh d dc ds Q pc ls (.int x :: st) S uc us := by
  intro p e R s m args below meth c QQ hc he H locs la hR hS hF hZ hl
  exact lv_ineg hc.1 hc.2.1 hd (k p e R s m args below meth c QQ hc he H locs la hR hS hF hZ hl)
theorem mm_lneg {x : Int64} (hd : decode cc pc = .ok (.lneg, 1)) (k : mm_V g l own nm cc nL ret hh d dc ds Q (pc + 1) ls (.long (-x) :: st) S uc us) : mm_V g l own nm cc nL ret hh d dc ds Q pc ls (.long x :: st) S uc us := by
  intro p e R s m args below meth c QQ hc he H locs la hR hS hF hZ hl
  exact lv_lneg hc.1 hc.2.1 hd (k p e R s m args below meth c QQ hc he H locs la hR hS hF hZ hl)
theorem mm_ishl {x y : Int32} (hd : decode cc pc = .ok (.ishl, 1)) (k : mm_V g l own nm cc nL ret hh d dc ds Q (pc + 1) ls (.int (x <<< (y &&& 31)) :: st) S uc us) : mm_V g l own nm cc nL ret hh d dc ds Q pc ls (.int y :: .int x :: st) S uc us := by
  intro p e R s m args below meth c QQ hc he H locs la hR hS hF hZ hl
  exact lv_ishl hc.1 hc.2.1 hd (k p e R s m args below meth c QQ hc he H locs la hR hS hF hZ hl)
theorem mm_ishr {x y : Int32} (hd : decode cc pc = .ok (.ishr, 1)) (k : mm_V g l own nm cc nL ret hh d dc ds Q (pc + 1) ls (.int (x >>> (y &&& 31)) :: st) S uc us) : mm_V g l own nm cc nL ret hh d dc ds Q pc ls (.int y :: .int x :: st) S uc us := by
  intro p e R s m args below meth c QQ hc he H locs la hR hS hF hZ hl
  exact lv_ishr hc.1 hc.2.1 hd (k p e R s m args below meth c QQ hc he H locs la hR hS hF hZ hl)
theorem mm_iushr {x y : Int32} (hd : decode cc pc = .ok (.iushr, 1)) (k : mm_V g l own nm cc nL ret hh d dc ds Q (pc + 1) ls (.int (x.toUInt32 >>> (y.toUInt32 &&& Int32.toUInt32 31)).toInt32 :: st) S uc us) : mm_V g l own nm cc nL ret hh d dc ds Q pc ls (.int y :: .int x :: st) S uc us := by
  intro p e R s m args below meth c QQ hc he H locs la hR hS hF hZ hl
  exact lv_iushr hc.1 hc.2.1 hd rfl (k p e R s m args below meth c QQ hc he H locs la hR hS hF hZ hl)
theorem mm_lushr {x : Int64} {y : Int32} (hd : decode cc pc = .ok (.lushr, 1)) (k : mm_V g l own nm cc nL ret hh d dc ds Q (pc + 1) ls (.long (x.toUInt64 >>> (y.toInt64.toUInt64 &&& Int64.toUInt64 63)).toInt64 :: st) S uc us) : mm_V g l own nm cc nL ret hh d dc ds Q pc ls (.int y :: .long x :: st) S uc us := by
  intro p e R s m args below meth c QQ hc he H locs la hR hS hF hZ hl
  exact lv_lushr hc.1 hc.2.1 hd rfl (k p e R s m args below meth c QQ hc he H locs la hR hS hF hZ hl)
theorem mm_lshl {x : Int64} {y : Int32} (hd : decode cc pc = .ok (.lshl, 1)) (k : mm_V g l own nm cc nL ret hh d dc ds Q (pc + 1) ls (.long (x <<< (y.toInt64 &&& 63)) :: st) S uc us) : mm_V g l own nm cc nL ret hh d dc ds Q pc ls (.int y :: .long x :: st) S uc us := by
  intro p e R s m args below meth c QQ hc he H locs la hR hS hF hZ hl
  exact lv_lshl hc.1 hc.2.1 hd rfl (k p e R s m args below meth c QQ hc he H locs la hR hS hF hZ hl)
theorem mm_lshr {x : Int64} {y : Int32} (hd : decode cc pc = .ok (.lshr, 1)) (k : mm_V g l own nm cc nL ret hh d dc ds Q (pc + 1) ls (.long (x >>> (y.toInt64 &&& 63)) :: st) S uc us) : mm_V g l own nm cc nL ret hh d dc ds Q pc ls (.int y :: .long x :: st) S uc us := by
  intro p e R s m args below meth c QQ hc he H locs la hR hS hF hZ hl
  exact lv_lshr hc.1 hc.2.1 hd rfl (k p e R s m args below meth c QQ hc he H locs la hR hS hF hZ hl)
theorem mm_i2l {x : Int32} (hd : decode cc pc = .ok (.i2l, 1)) (k : mm_V g l own nm cc nL ret hh d dc ds Q (pc + 1) ls (.long x.toInt64 :: st) S uc us) : mm_V g l own nm cc nL ret hh d dc ds Q pc ls (.int x :: st) S uc us := by
  intro p e R s m args below meth c QQ hc he H locs la hR hS hF hZ hl
  exact lv_i2l hc.1 hc.2.1 hd rfl (k p e R s m args below meth c QQ hc he H locs la hR hS hF hZ hl)
theorem mm_l2i {x : Int64} (hd : decode cc pc = .ok (.l2i, 1)) (k : mm_V g l own nm cc nL ret hh d dc ds Q (pc + 1) ls (.int x.toInt32 :: st) S uc us) : mm_V g l own nm cc nL ret hh d dc ds Q pc ls (.long x :: st) S uc us := by
  intro p e R s m args below meth c QQ hc he H locs la hR hS hF hZ hl
  exact lv_l2i hc.1 hc.2.1 hd rfl (k p e R s m args below meth c QQ hc he H locs la hR hS hF hZ hl)
theorem mm_i2b {x : Int32} (hd : decode cc pc = .ok (.i2b, 1)) (k : mm_V g l own nm cc nL ret hh d dc ds Q (pc + 1) ls (.int x.toInt8.toInt32 :: st) S uc us) : mm_V g l own nm cc nL ret hh d dc ds Q pc ls (.int x :: st) S uc us := by
  intro p e R s m args below meth c QQ hc he H locs la hR hS hF hZ hl
  exact lv_i2b hc.1 hc.2.1 hd rfl (k p e R s m args below meth c QQ hc he H locs la hR hS hF hZ hl)
theorem mm_lcmp {x y : Int64} (hd : decode cc pc = .ok (.lcmp, 1)) (k : mm_V g l own nm cc nL ret hh d dc ds Q (pc + 1) ls (.int (lg_cmp x y) :: st) S uc us) : mm_V g l own nm cc nL ret hh d dc ds Q pc ls (.long y :: .long x :: st) S uc us := by
  intro p e R s m args below meth c QQ hc he H locs la hR hS hF hZ hl
  exact W.lcmp hc.1 hc.2.1 hd (k p e R s m args below meth c QQ hc he H locs la hR hS hF hZ hl)
theorem mm_dup {v : Value} (hd : decode cc pc = .ok (.dup, 1)) (hv : v.category = 1) (k : mm_V g l own nm cc nL ret hh d dc ds Q (pc + 1) ls (v :: v :: st) S uc us) : mm_V g l own nm cc nL ret hh d dc ds Q pc ls (v :: st) S uc us := by
  intro p e R s m args below meth c QQ hc he H locs la hR hS hF hZ hl
  exact lv_dup hc.1 hc.2.1 hd ((mm_cv_cat g v).trans hv) (k p e R s m args below meth c QQ hc he H locs la hR hS hF hZ hl)
theorem mm_pop {v : Value} (hd : decode cc pc = .ok (.pop, 1)) (hv : v.category = 1) (k : mm_V g l own nm cc nL ret hh d dc ds Q (pc + 1) ls st S uc us) : mm_V g l own nm cc nL ret hh d dc ds Q pc ls (v :: st) S uc us := by
  intro p e R s m args below meth c QQ hc he H locs la hR hS hF hZ hl
  exact lv_pop hc.1 hc.2.1 hd ((mm_cv_cat g v).trans hv) (k p e R s m args below meth c QQ hc he H locs la hR hS hF hZ hl)
theorem mm_dup2 {v w : Value} (hd : decode cc pc = .ok (.dup2, 1)) (hv : v.category = 1) (hw : w.category = 1) (k : mm_V g l own nm cc nL ret hh d dc ds Q (pc + 1) ls (v :: w :: v :: w :: st) S uc us) : mm_V g l own nm cc nL ret hh d dc ds Q pc ls (v :: w :: st) S uc us := by
  intro p e R s m args below meth c QQ hc he H locs la hR hS hF hZ hl
  exact lv_dup2_11 hc.1 hc.2.1 hd ((mm_cv_cat g v).trans hv) ((mm_cv_cat g w).trans hw) (k p e R s m args below meth c QQ hc he H locs la hR hS hF hZ hl)
theorem mm_if_eq {x : Int32} {off : Int} (tgt : Nat) (hd : decode cc pc = .ok (.ifCond .eq off, 3)) (ht : (pc : Int) + off = (tgt : Int)) (kt : x = 0 → mm_V g l own nm cc nL ret hh d dc ds Q tgt ls st S uc us) (kf : ¬ (x = 0) → mm_V g l own nm cc nL ret hh d dc ds Q (pc + 3) ls st S uc us) : mm_V g l own nm cc nL ret hh d dc ds Q pc ls (.int x :: st) S uc us := by
  intro p e R s m args below meth c QQ hc he H locs la hR hS hF hZ hl
  exact lv_if_eq hc.1 hc.2.1 hd ht (fun q => kt q p e R s m args below meth c QQ hc he H locs la hR hS hF hZ hl) (fun q => kf q p e R s m args below meth c QQ hc he H locs la hR hS hF hZ hl)
theorem mm_icmp_eq {x y : Int32} {off : Int} (tgt : Nat) (hd : decode cc pc = .ok (.if_icmp .eq off, 3)) (ht : (pc : Int) + off = (tgt : Int)) (kt : x = y → mm_V g l own nm cc nL ret hh d dc ds Q tgt ls st S uc us) (kf : ¬ (x = y) → mm_V g l own nm cc nL ret hh d dc ds Q (pc + 3) ls st S uc us) : mm_V g l own nm cc nL ret hh d dc ds Q pc ls (.int y :: .int x :: st) S uc us := by
  intro p e R s m args below meth c QQ hc he H locs la hR hS hF hZ hl
  exact lv_icmp_eq hc.1 hc.2.1 hd ht (fun q => kt q p e R s m args below meth c QQ hc he H locs la hR hS hF hZ hl) (fun q => kf q p e R s m args below meth c QQ hc he H locs la hR hS hF hZ hl)
theorem mm_if_ne {x : Int32} {off : Int} (tgt : Nat) (hd : decode cc pc = .ok (.ifCond .ne off, 3)) (ht : (pc : Int) + off = (tgt : Int)) (kt : ¬ x = 0 → mm_V g l own nm cc nL ret hh d dc ds Q tgt ls st S uc us) (kf : x = 0 → mm_V g l own nm cc nL ret hh d dc ds Q (pc + 3) ls st S uc us) : mm_V g l own nm cc nL ret hh d dc ds Q pc ls (.int x :: st) S uc us := by
  intro p e R s m args below meth c QQ hc he H locs la hR hS hF hZ hl
  exact lv_if_ne hc.1 hc.2.1 hd ht (fun q => kt q p e R s m args below meth c QQ hc he H locs la hR hS hF hZ hl) (fun q => kf q p e R s m args below meth c QQ hc he H locs la hR hS hF hZ hl)
theorem mm_icmp_ne {x y : Int32} {off : Int} (tgt : Nat) (hd : decode cc pc = .ok (.if_icmp .ne off, 3)) (ht : (pc : Int) + off = (tgt : Int)) (kt : ¬ x = y → mm_V g l own nm cc nL ret hh d dc ds Q tgt ls st S uc us) (kf : x = y → mm_V g l own nm cc nL ret hh d dc ds Q (pc + 3) ls st S uc us) : mm_V g l own nm cc nL ret hh d dc ds Q pc ls (.int y :: .int x :: st) S uc us := by
  intro p e R s m args below meth c QQ hc he H locs la hR hS hF hZ hl
  exact lv_icmp_ne hc.1 hc.2.1 hd ht (fun q => kt q p e R s m args below meth c QQ hc he H locs la hR hS hF hZ hl) (fun q => kf q p e R s m args below meth c QQ hc he H locs la hR hS hF hZ hl)
theorem mm_if_lt {x : Int32} {off : Int} (tgt : Nat) (hd : decode cc pc = .ok (.ifCond .lt off, 3)) (ht : (pc : Int) + off = (tgt : Int)) (kt : x < 0 → mm_V g l own nm cc nL ret hh d dc ds Q tgt ls st S uc us) (kf : ¬ (x < 0) → mm_V g l own nm cc nL ret hh d dc ds Q (pc + 3) ls st S uc us) : mm_V g l own nm cc nL ret hh d dc ds Q pc ls (.int x :: st) S uc us := by
  intro p e R s m args below meth c QQ hc he H locs la hR hS hF hZ hl
  exact lv_if_lt hc.1 hc.2.1 hd ht (fun q => kt q p e R s m args below meth c QQ hc he H locs la hR hS hF hZ hl) (fun q => kf q p e R s m args below meth c QQ hc he H locs la hR hS hF hZ hl)
theorem mm_icmp_lt {x y : Int32} {off : Int} (tgt : Nat) (hd : decode cc pc = .ok (.if_icmp .lt off, 3)) (ht : (pc : Int) + off = (tgt : Int)) (kt : x < y → mm_V g l own nm cc nL ret hh d dc ds Q tgt ls st S uc us) (kf : ¬ (x < y) → mm_V g l own nm cc nL ret hh d dc ds Q (pc + 3) ls st S uc us) : mm_V g l own nm cc nL ret hh d dc ds Q pc ls (.int y :: .int x :: st) S uc us := by
  intro p e R s m args below meth c QQ hc he H locs la hR hS hF hZ hl
  exact lv_icmp_lt hc.1 hc.2.1 hd ht (fun q => kt q p e R s m args below meth c QQ hc he H locs la hR hS hF hZ hl) (fun q => kf q p e R s m args below meth c QQ hc he H locs la hR hS hF hZ hl)
theorem mm_if_ge {x : Int32} {off : Int} (tgt : Nat) (hd : decode cc pc = .ok (.ifCond .ge off, 3)) (ht : (pc : Int) + off = (tgt : Int)) (kt : 0 ≤ x → mm_V g l own nm cc nL ret hh d dc ds Q tgt ls st S uc us) (kf : ¬ (0 ≤ x) → mm_V g l own nm cc nL ret hh d dc ds Q (pc + 3) ls st S uc us) : mm_V g l own nm cc nL ret hh d dc ds Q pc ls (.int x :: st) S uc us := by
  intro p e R s m args below meth c QQ hc he H locs la hR hS hF hZ hl
  exact lv_if_ge hc.1 hc.2.1 hd ht (fun q => kt q p e R s m args below meth c QQ hc he H locs la hR hS hF hZ hl) (fun q => kf q p e R s m args below meth c QQ hc he H locs la hR hS hF hZ hl)
theorem mm_icmp_ge {x y : Int32} {off : Int} (tgt : Nat) (hd : decode cc pc = .ok (.if_icmp .ge off, 3)) (ht : (pc : Int) + off = (tgt : Int)) (kt : y ≤ x → mm_V g l own nm cc nL ret hh d dc ds Q tgt ls st S uc us) (kf : ¬ (y ≤ x) → mm_V g l own nm cc nL ret hh d dc ds Q (pc + 3) ls st S uc us) : mm_V g l own nm cc nL ret hh d dc ds Q pc ls (.int y :: .int x :: st) S uc us := by
  intro p e R s m args below meth c QQ hc he H locs la hR hS hF hZ hl
  exact lv_icmp_ge hc.1 hc.2.1 hd ht (fun q => kt q p e R s m args below meth c QQ hc he H locs la hR hS hF hZ hl) (fun q => kf q p e R s m args below meth c QQ hc he H locs la hR hS hF hZ hl)
theorem mm_if_gt {x : Int32} {off : Int} (tgt : Nat) (hd : decode cc pc = .ok (.ifCond .gt off, 3)) (ht : (pc : Int) + off = (tgt : Int)) (kt : 0 < x → mm_V g l own nm cc nL ret hh d dc ds Q tgt ls st S uc us) (kf : ¬ (0 < x) → mm_V g l own nm cc nL ret hh d dc ds Q (pc + 3) ls st S uc us) : mm_V g l own nm cc nL ret hh d dc ds Q pc ls (.int x :: st) S uc us := by
  intro p e R s m args below meth c QQ hc he H locs la hR hS hF hZ hl
  exact lv_if_gt hc.1 hc.2.1 hd ht (fun q => kt q p e R s m args below meth c QQ hc he H locs la hR hS hF hZ hl) (fun q => kf q p e R s m args below meth c QQ hc he H locs la hR hS hF hZ hl)
theorem mm_icmp_gt {x y : Int32} {off : Int} (tgt : Nat) (hd : decode cc pc = .ok (.if_icmp .gt off, 3)) (ht : (pc : Int) + off = (tgt : Int)) (kt : y < x → mm_V g l own nm cc nL ret hh d dc ds Q tgt ls st S uc us) (kf : ¬ (y < x) → mm_V g l own nm cc nL ret hh d dc ds Q (pc + 3) ls st S uc us) : mm_V g l own nm cc nL ret hh d dc ds Q pc ls (.int y :: .int x :: st) S uc us := by
  intro p e R s m args below meth c QQ hc he H locs la hR hS hF hZ hl
  exact lv_icmp_gt hc.1 hc.2.1 hd ht (fun q => kt q p e R s m args below meth c QQ hc he H locs la hR hS hF hZ hl) (fun q => kf q p e R s m args below meth c QQ hc he H locs la hR hS hF hZ hl)
theorem mm_if_le {x : Int32} {off : Int} (tgt : Nat) (hd : decode cc pc = .ok (.ifCond .le off, 3)) (ht : (pc : Int) + off = (tgt : Int)) (kt : x ≤ 0 → mm_V g l own nm cc nL ret hh d dc ds Q tgt ls st S uc us) (kf : ¬ (x ≤ 0) → mm_V g l own nm cc nL ret hh d dc ds Q (pc + 3) ls st S uc us) : mm_V g l own nm cc nL ret hh d dc ds Q pc ls (.int x :: st) S uc us := by
  intro p e R s m args below meth c QQ hc he H locs la hR hS hF hZ hl
  exact lv_if_le hc.1 hc.2.1 hd ht (fun q => kt q p e R s m args below meth c QQ hc he H locs la hR hS hF hZ hl) (fun q => kf q p e R s m args below meth c QQ hc he H locs la hR hS hF hZ hl)
theorem mm_icmp_le {x y : Int32} {off : Int} (tgt : Nat) (hd : decode cc pc = .ok (.if_icmp .le off, 3)) (ht : (pc : Int) + off = (tgt : Int)) (kt : x ≤ y → mm_V g l own nm cc nL ret hh d dc ds Q tgt ls st S uc us) (kf : ¬ (x ≤ y) → mm_V g l own nm cc nL ret hh d dc ds Q (pc + 3) ls st S uc us) : mm_V g l own nm cc nL ret hh d dc ds Q pc ls (.int y :: .int x :: st) S uc us := by
  intro p e R s m args below meth c QQ hc he H locs la hR hS hF hZ hl
  exact lv_icmp_le hc.1 hc.2.1 hd ht (fun q => kt q p e R s m args below meth c QQ hc he H locs la hR hS hF hZ hl) (fun q => kf q p e R s m args below meth c QQ hc he H locs la hR hS hF hZ hl)
theorem mm_goto {off : Int} (tgt : Nat) (hd : decode cc pc = .ok (.goto off, 3)) (ht : (pc : Int) + off = (tgt : Int)) (k : mm_V g l own nm cc nL ret hh d dc ds Q tgt ls st S uc us) : mm_V g l own nm cc nL ret hh d dc ds Q pc ls st S uc us := by
  intro p e R s m args below meth c QQ hc he H locs la hR hS hF hZ hl
  exact lv_goto hc.1 hc.2.1 hd ht (k p e R s m args below meth c QQ hc he H locs la hR hS hF hZ hl)
theorem mm_ifnull {r : Option Nat} {off : Int} (tgt : Nat) (hd : decode cc pc = .ok (.ifnull off, 3)) (ht : (pc : Int) + off = (tgt : Int)) (kt : r = none → mm_V g l own nm cc nL ret hh d dc ds Q tgt ls st S uc us) (kf : ¬ r = none → mm_V g l own nm cc nL ret hh d dc ds Q (pc + 3) ls st S uc us) : mm_V g l own nm cc nL ret hh d dc ds Q pc ls (va_rf r :: st) S uc us := by
  intro p e R s m args below meth c QQ hc he H locs la hR hS hF hZ hl
  cases r with
  | none => exact lv_ifnullN hc.1 hc.2.1 hd ht (kt rfl p e R s m args below meth c QQ hc he H locs la hR hS hF hZ hl)
  | some a => exact lv_ifnull hc.1 hc.2.1 hd (kf (fun q => by cases q) p e R s m args below meth c QQ hc he H locs la hR hS hF hZ hl)
theorem mm_ifnonnull {r : Option Nat} {off : Int} (tgt : Nat) (hd : decode cc pc = .ok (.ifnonnull off, 3)) (ht : (pc : Int) + off = (tgt : Int)) (kt : ¬ r = none → mm_V g l own nm cc nL ret hh d dc ds Q tgt ls st S uc us) (kf : r = none → mm_V g l own nm cc nL ret hh d dc ds Q (pc + 3) ls st S uc us) : mm_V g l own nm cc nL ret hh d dc ds Q pc ls (va_rf r :: st) S uc us := by
  intro p e R s m args below meth c QQ hc he H locs la hR hS hF hZ hl
  cases r with
  | none => exact lv_ifnonnullN hc.1 hc.2.1 hd (kf rfl p e R s m args below meth c QQ hc he H locs la hR hS hF hZ hl)
  | some a => exact lv_ifnonnull hc.1 hc.2.1 hd ht (kt (fun q => by cases q) p e R s m args below meth c QQ hc he H locs la hR hS hF hZ hl)
theorem mm_acmp_eq {rx ry : Option Nat} {off : Int} (tgt : Nat) (hd : decode cc pc = .ok (.if_acmp .eq off, 3)) (ht : (pc : Int) + off = (tgt : Int)) (kt : rx = ry → mm_V g l own nm cc nL ret hh d dc ds Q tgt ls st S uc us) (kf : ¬ rx = ry → mm_V g l own nm cc nL ret hh d dc ds Q (pc + 3) ls st S uc us) : mm_V g l own nm cc nL ret hh d dc ds Q pc ls (va_rf ry :: va_rf rx :: st) S uc us := by
  intro p e R s m args below meth c QQ hc he H locs la hR hS hF hZ hl
  have e1 : ∀ r : Option Nat, mm_cv g (va_rf r) = va_rf (r.map (fun i => mm_b g + i)) := fun r => by cases r <;> rfl
  have e2 : rx.map (fun i => mm_b g + i) = ry.map (fun i => mm_b g + i) → rx = ry := fun q => by cases rx <;> cases ry <;> simp at q ⊢ <;> exact q
  show W p l e R s m args below meth c H locs uc us QQ (F0 m pc la (mm_cv g (va_rf ry) :: mm_cv g (va_rf rx) :: st.map (mm_cv g)))
  rw [e1, e1]
  exact lv_acmp_eq hc.1 hc.2.1 hd ht (fun q => kt (e2 q) p e R s m args below meth c QQ hc he H locs la hR hS hF hZ hl) (fun q => kf (fun z => q (by rw [z])) p e R s m args below meth c QQ hc he H locs la hR hS hF hZ hl)
theorem mm_acmp_ne {rx ry : Option Nat} {off : Int} (tgt : Nat) (hd : decode cc pc = .ok (.if_acmp .ne off, 3)) (ht : (pc : Int) + off = (tgt : Int)) (kt : ¬ rx = ry → mm_V g l own nm cc nL ret hh d dc ds Q tgt ls st S uc us) (kf : rx = ry → mm_V g l own nm cc nL ret hh d dc ds Q (pc + 3) ls st S uc us) : mm_V g l own nm cc nL ret hh d dc ds Q pc ls (va_rf ry :: va_rf rx :: st) S uc us := by
  intro p e R s m args below meth c QQ hc he H locs la hR hS hF hZ hl
  have e1 : ∀ r : Option Nat, mm_cv g (va_rf r) = va_rf (r.map (fun i => mm_b g + i)) := fun r => by cases r <;> rfl
  have e2 : rx.map (fun i => mm_b g + i) = ry.map (fun i => mm_b g + i) → rx = ry := fun q => by cases rx <;> cases ry <;> simp at q ⊢ <;> exact q
  show W p l e R s m args below meth c H locs uc us QQ (F0 m pc la (mm_cv g (va_rf ry) :: mm_cv g (va_rf rx) :: st.map (mm_cv g)))
  rw [e1, e1]
  exact lv_acmp_ne hc.1 hc.2.1 hd ht (fun q => kt (fun z => q (by rw [z])) p e R s m args below meth c QQ hc he H locs la hR hS hF hZ hl) (fun q => kf (e2 q) p e R s m args below meth c QQ hc he H locs la hR hS hF hZ hl)
-- returns
theorem mm_iret {x : Int32} {ty : FieldType} (hd : decode cc pc = .ok (.ireturn, 1)) (hr : ret = some ty) (hn : narrow ty (.int x) = .int x) (hq : Q (.inl (some (.int x))) S) (h1 : uc ≤ dc) (h2 : us ≤ ds) : mm_V g l own nm cc nL ret hh d dc ds Q pc ls [.int x] S uc us := by
  intro p e R s m args below meth c QQ hc he H locs la hR hS hF hZ hl
  exact he.1 .ireturn (some (.int x)) S H locs uc us pc la (Or.inl ⟨x, ty, rfl, rfl, hr, hn⟩) hd hq hR hF h1 h2
theorem mm_lret {x : Int64} (hd : decode cc pc = .ok (.lreturn, 1)) (hr : ret = some .long) (hq : Q (.inl (some (.long x))) S) (h1 : uc ≤ dc) (h2 : us ≤ ds) : mm_V g l own nm cc nL ret hh d dc ds Q pc ls [.long x] S uc us := by
  intro p e R s m args below meth c QQ hc he H locs la hR hS hF hZ hl
  exact he.1 .lreturn (some (.long x)) S H locs uc us pc la (Or.inr (Or.inl ⟨x, rfl, rfl, hr⟩)) hd hq hR hF h1 h2
theorem mm_vret (hd : decode cc pc = .ok (.return_, 1)) (hr : ret = none) (hq : Q (.inl none) S) (h1 : uc ≤ dc) (h2 : us ≤ ds) : mm_V g l own nm cc nL ret hh d dc ds Q pc ls [] S uc us := by
  intro p e R s m args below meth c QQ hc he H locs la hR hS hF hZ hl
  exact he.1 .return_ none S H locs uc us pc la (Or.inr (Or.inr (Or.inl ⟨rfl, rfl, hr⟩))) hd hq hR hF h1 h2
theorem mm_aret {a : Option Nat} {C : String} (hd : decode cc pc = .ok (.areturn, 1)) (hr : ret = some (.object C)) (hq : Q (.inl (some (va_rf a))) S) (h1 : uc ≤ dc) (h2 : us ≤ ds) : mm_V g l own nm cc nL ret hh d dc ds Q pc ls [va_rf a] S uc us := by
  intro p e R s m args below meth c QQ hc he H locs la hR hS hF hZ hl
  exact he.1 .areturn (some (va_rf a)) S H locs uc us pc la (Or.inr (Or.inr (Or.inr ⟨a, C, rfl, rfl, hr⟩))) hd hq hR hF h1 h2
/-- fewer locals known -/
theorem mm_fewer (ls' : List (Option Value)) (h : ∀ (i : Nat) (v : Value), ls'[i]? = some (some v) → ls[i]? = some (some v)) (k : mm_V g l own nm cc nL ret hh d dc ds Q pc ls' st S uc us) : mm_V g l own nm cc nL ret hh d dc ds Q pc ls st S uc us := by
  intro p e R s m args below meth c QQ hc he H locs la hR hS hF hZ hl
  exact k p e R s m args below meth c QQ hc he H locs la hR hS hF hZ (mm_ls_sub hl h)
/-- how large the heap is, while no exception has been made -/
theorem mm_sz {p : Program} {e : Env} {R : Room} {s : State} {m : MethodId} {args : Array Value} {below : List Frame} {meth : Method} {c : Code} {T : State} {locs : List Loc} (X : Stand p l e R s m args below meth c T locs uc us) (hR : mm_Rp g S T.heap) (hZ : S.2.2 = false → s.heap.size + uc = mm_b g + S.2.1) : S.2.2 = false → T.heap.size = mm_b g + S.2.1 := by
  intro h
  have h1 := X.heapSize
  have h2 := hZ h
  have h3 : mm_b g + S.2.1 ≤ T.heap.size := by
    rcases Nat.eq_zero_or_pos S.2.1 with h0 | h0
    · rw [h0]; exact hR.2
    · have h4 := (hR.1 (S.2.1 - 1) _ (mm_wl_at (g := g) (M := S.1) (n := S.2.1) (by omega))).lt
      dsimp only at h4
      omega
  omega
-- fields
theorem mm_get {C : String} {T : u_T} {N ci index a k : Nat} {v : Value} {fs : List Value} (hin : ∀ w ∈ u_ws C T N, w ∈ mm_ws) (hc0 : vwCl[ci]? = some (C, T, N)) (hk : k < N) (ho : (T k).1 = C) (hlk : Cond.fieldLink own index C (T k).2.1 (T k).2.2.1 ∈ mm_ws) (hd : decode cc pc = .ok (.getfield index, 3))
    (hm : S.1 a = .inr (ci, fs)) (ha : a < S.2.1) (hv : fs[k]? = some v) (kk : mm_V g l own nm cc nL ret hh d dc ds Q (pc + 3) ls (v :: st) S uc us) : mm_V g l own nm cc nL ret hh d dc ds Q pc ls (.ref a :: st) S uc us := by
  intro p e R s m args below meth c QQ hc he H locs la hR hS hF hZ hl
  obtain ⟨hx, hb, hml, hr, hlk2, hown, htb, hws, hrest⟩ := id hc
  refine va_get (D := mm_D g) (v := mm_cv g v) (fs := fs.map (mm_cv g)) hx hb hws hin hown hS.1 hR.1 a (by rw [mm_wl_at ha, hm]; rfl) hc0 k hk (hws _ hlk) (fun x h => by rw [ho] at h; exact h) (by rw [List.getElem?_map, hv]; rfl) hd ?_
  exact kk p e R s m args below meth c QQ hc he H locs la hR hS hF hZ hl
theorem mm_getN {C host : String} {T : u_T} {N ci index a k : Nat} {v : Value} {fs : List Value} (hin : ∀ w ∈ u_ws C T N, w ∈ mm_ws) (hc0 : vwCl[ci]? = some (C, T, N)) (hk : k < N) (ho : (T k).1 = C) (hlk : Cond.fieldLinkNest own index C (T k).2.1 (T k).2.2.1 host ∈ mm_nest) (hd : decode cc pc = .ok (.getfield index, 3))
    (hm : S.1 a = .inr (ci, fs)) (ha : a < S.2.1) (hv : fs[k]? = some v) (kk : mm_V g l own nm cc nL ret hh d dc ds Q (pc + 3) ls (v :: st) S uc us) : mm_V g l own nm cc nL ret hh d dc ds Q pc ls (.ref a :: st) S uc us := by
  intro p e R s m args below meth c QQ hc he H locs la hR hS hF hZ hl
  obtain ⟨hx, hb, hml, hr, hlk2, hown, htb, hws, hrest⟩ := id hc
  refine va_getN (D := mm_D g) (v := mm_cv g v) (fs := fs.map (mm_cv g)) hx hb hws hin hown hS.1 hR.1 a (by rw [mm_wl_at ha, hm]; rfl) hc0 k hk (va_Nw.use rfl (hS.2.1 _ hlk)) (fun x h => by rw [ho] at h; exact h) (by rw [List.getElem?_map, hv]; rfl) hd ?_
  exact kk p e R s m args below meth c QQ hc he H locs la hR hS hF hZ hl
/-- a value that a field of this type may hold -/
def mm_fit (ty : FieldType) (v : Value) : Prop := (∀ g : mm_G, narrow ty (mm_cv g v) = mm_cv g v) ∧ ∀ g : mm_G, fits ty (mm_cv g v) = true
theorem mm_set_map (g : mm_G) (fs : List Value) (k : Nat) (v : Value) : (fs.map (mm_cv g)).set k (mm_cv g v) = (fs.set k v).map (mm_cv g) := by rw [List.map_set]
theorem mm_kept_of {g : mm_G} {s : State} {H H1 : Heap} {locs locs1 : List Loc} (hb : mm_b g ≤ s.heap.size) (hS : mm_St g s H) (hF : va_S (mm_A g) s.heap H locs) (hF1 : va_S (mm_A g) s.heap H1 locs1) (hz : mm_b g ≤ H1.size) : mm_St g s H1 := by
  obtain ⟨h1, h2, h3, h4, h5, h6, h7, h8, h9⟩ := hS
  have hq : ∀ q : Nat, q < mm_b g → H1[q]? = H[q]? := fun q hq => (hF1.2.1 q (Nat.lt_of_lt_of_le hq hb) (Nat.not_le.mpr hq)).trans (hF.2.1 q (Nat.lt_of_lt_of_le hq hb) (Nat.not_le.mpr hq)).symm
  have hq' : ∀ a : Nat, a < H.size → ¬ mm_A g a → H1[a]? = H[a]? := fun a _ ha => hq a (Nat.not_le.mp ha)
  exact ⟨h1, h2, h3, h4, h5, ⟨vx_Zq.kept h6.1 hq', vx_Zq.kept h6.2 hq'⟩, va_X.kept h7 (hq _ h8), h8, hz⟩
theorem mm_put {C : String} {T : u_T} {ty0 : Nat → FieldType} {N ci index a k : Nat} {v : Value} {fs : List Value} (hin : ∀ w ∈ u_ws C T N, w ∈ mm_ws) (hty : ∀ k, k < N → parseFieldDescriptor (T k).2.2.1 = some (ty0 k)) (hnm : ∀ a, a < N → ∀ b, b < N → a ≠ b → (T a).2.1 ≠ (T b).2.1) (hc0 : vwCl[ci]? = some (C, T, N)) (hk : k < N) (ho : (T k).1 = C) (hfin : (T k).2.2.2 = false) (hlk : Cond.fieldLink own index C (T k).2.1 (T k).2.2.1 ∈ mm_ws) (hd : decode cc pc = .ok (.putfield index, 3))
    (hf : mm_fit (ty0 k) v) (hm : S.1 a = .inr (ci, fs)) (ha : a < S.2.1) (hl9 : k < fs.length) (kk : mm_V g l own nm cc nL ret hh d dc ds Q (pc + 3) ls st (mm_up S.1 a (.inr (ci, fs.set k v)), S.2) uc us) : mm_V g l own nm cc nL ret hh d dc ds Q pc ls (v :: .ref a :: st) S uc us := by
  intro p e R s m args below meth c QQ hc he H locs la hR hS hF hZ hl
  obtain ⟨hx, hb, hml, hr, hlk2, hown, htb, hws, -, -, -, -, -, -, hbs⟩ := id hc
  refine va_put (D := mm_D g) (v := mm_cv g v) (fs := fs.map (mm_cv g)) hx hb hws hin ty0 hty hnm hown hS.1 hR.1 (mm_wl_D g S.1 S.2.1) hF a (by rw [mm_wl_at ha, hm]; rfl) hc0 k hk (hws _ hlk) (fun x h => by rw [ho] at h; exact h) hfin (hty k hk) (hf.1 g) (hf.2 g) (by simpa using hl9) hd (fun H1 locs1 hP1 hD1 hF1 => ?_)
  rw [mm_wl_set (c := .inr (ci, fs.set k v)) (by rw [mm_set_map]; rfl) ha] at hP1
  have hz : mm_b g ≤ H1.size := Nat.le_trans hbs hF1.1
  exact kk p e R s m args below meth c QQ hc he H1 locs1 la ⟨hP1, hz⟩ (mm_kept_of hbs hS hF hF1 hz) hF1 hZ hl
theorem mm_putN {C host : String} {T : u_T} {ty0 : Nat → FieldType} {N ci index a k : Nat} {v : Value} {fs : List Value} (hin : ∀ w ∈ u_ws C T N, w ∈ mm_ws) (hty : ∀ k, k < N → parseFieldDescriptor (T k).2.2.1 = some (ty0 k)) (hnm : ∀ a, a < N → ∀ b, b < N → a ≠ b → (T a).2.1 ≠ (T b).2.1) (hc0 : vwCl[ci]? = some (C, T, N)) (hk : k < N) (ho : (T k).1 = C) (hfin : (T k).2.2.2 = false) (hlk : Cond.fieldLinkNest own index C (T k).2.1 (T k).2.2.1 host ∈ mm_nest) (hd : decode cc pc = .ok (.putfield index, 3))
    (hf : mm_fit (ty0 k) v) (hm : S.1 a = .inr (ci, fs)) (ha : a < S.2.1) (hl9 : k < fs.length) (kk : mm_V g l own nm cc nL ret hh d dc ds Q (pc + 3) ls st (mm_up S.1 a (.inr (ci, fs.set k v)), S.2) uc us) : mm_V g l own nm cc nL ret hh d dc ds Q pc ls (v :: .ref a :: st) S uc us := by
  intro p e R s m args below meth c QQ hc he H locs la hR hS hF hZ hl
  obtain ⟨hx, hb, hml, hr, hlk2, hown, htb, hws, -, -, -, -, -, -, hbs⟩ := id hc
  refine va_putN (D := mm_D g) (v := mm_cv g v) (fs := fs.map (mm_cv g)) hx hb hws hin ty0 hty hnm hown hS.1 hR.1 (mm_wl_D g S.1 S.2.1) hF a (by rw [mm_wl_at ha, hm]; rfl) hc0 k hk (va_Nw.use rfl (hS.2.1 _ hlk)) (fun x h => by rw [ho] at h; exact h) hfin (hty k hk) (hf.1 g) (hf.2 g) (by simpa using hl9) hd (fun H1 locs1 hP1 hD1 hF1 => ?_)
  rw [mm_wl_set (c := .inr (ci, fs.set k v)) (by rw [mm_set_map]; rfl) ha] at hP1
  have hz : mm_b g ≤ H1.size := Nat.le_trans hbs hF1.1
  exact kk p e R s m args below meth c QQ hc he H1 locs1 la ⟨hP1, hz⟩ (mm_kept_of hbs hS hF hF1 hz) hF1 hZ hl
theorem mm_putF {C : String} {T : u_T} {ty0 : Nat → FieldType} {N ci index a k : Nat} {v : Value} {fs : List Value} (hin : ∀ w ∈ u_ws C T N, w ∈ mm_ws) (hty : ∀ k, k < N → parseFieldDescriptor (T k).2.2.1 = some (ty0 k)) (hnm : ∀ a, a < N → ∀ b, b < N → a ≠ b → (T a).2.1 ≠ (T b).2.1) (hc0 : vwCl[ci]? = some (C, T, N)) (hk : k < N) (ho : (T k).1 = C) (ho2 : (T k).1 = own) (hin2 : nm = "<init>") (hfin : (T k).2.2.2 = true) (hlk : Cond.fieldLink own index C (T k).2.1 (T k).2.2.1 ∈ mm_ws) (hd : decode cc pc = .ok (.putfield index, 3))
    (hf : mm_fit (ty0 k) v) (hm : S.1 a = .inr (ci, fs)) (ha : a < S.2.1) (hl9 : k < fs.length) (kk : mm_V g l own nm cc nL ret hh d dc ds Q (pc + 3) ls st (mm_up S.1 a (.inr (ci, fs.set k v)), S.2) uc us) : mm_V g l own nm cc nL ret hh d dc ds Q pc ls (v :: .ref a :: st) S uc us := by
  intro p e R s m args below meth c QQ hc he H locs la hR hS hF hZ hl
  obtain ⟨hx, hb, hml, hr, hlk2, hown, htb, hws, -, -, -, -, -, hnm9, hbs⟩ := id hc
  refine va_putF (D := mm_D g) (v := mm_cv g v) (fs := fs.map (mm_cv g)) hx hb hws hin ty0 hty hnm hown hS.1 hR.1 (mm_wl_D g S.1 S.2.1) hF a (by rw [mm_wl_at ha, hm]; rfl) hc0 k hk (hws _ hlk) (fun x h => by rw [ho] at h; exact h) hfin (hnm9.trans hin2) ho2 (hty k hk) (hf.1 g) (hf.2 g) (by simpa using hl9) hd (fun H1 locs1 hP1 hD1 hF1 => ?_)
  rw [mm_wl_set (c := .inr (ci, fs.set k v)) (by rw [mm_set_map]; rfl) ha] at hP1
  have hz : mm_b g ≤ H1.size := Nat.le_trans hbs hF1.1
  exact kk p e R s m args below meth c QQ hc he H1 locs1 la ⟨hP1, hz⟩ (mm_kept_of hbs hS hF hF1 hz) hF1 hZ hl
end MMV
end
section
section MMW
variable {g : mm_G} {l : Launch} {own nm : String} {cc : ByteArray} {nL : Nat} {ret : Option FieldType} {hh : List ExceptionTableEntry} {d dc ds : Nat} {Q : mm_R → mm_S → Prop} {pc : Nat} {ls : List (Option Value)} {st : List Value} {S : mm_S} {uc us : Nat}
theorem mm_pushP {g : mm_G} {M : Nat → mm_C} {n : Nat} {e : va_E} {H : Heap} (c : mm_C) (h : va_P (mm_D g) vwCl (mm_wl g M n ++ [(mm_b g + n, e)]) H) (he : e = mm_cc g c) : va_P (mm_D g) vwCl (mm_wl g (mm_up M n c) (n + 1)) H := by
  rw [← mm_wl_push he]; exact h
theorem mm_setP {g : mm_G} {M : Nat → mm_C} {n i : Nat} {e : va_E} {H : Heap} (c : mm_C) (h : va_P (mm_D g) vwCl ((mm_wl g M n).set i (mm_b g + i, e)) H) (hi : i < n) (he : e = mm_cc g c) : va_P (mm_D g) vwCl (mm_wl g (mm_up M i c) n) H := by
  rw [← mm_wl_set he hi]; exact h
/-- a new cell lies right behind the others -/
theorem mm_q {g : mm_G} {M : Nat → mm_C} {n q : Nat} {e : va_E} {H1 : Heap} (hP1 : va_P (mm_D g) vwCl (mm_wl g M n ++ [(q, e)]) H1) (hD1 : va_D (mm_A g) (mm_wl g M n ++ [(q, e)])) (hz : H1.size ≤ mm_b g + n + 1) : q = mm_b g + n := by
  have hl : (mm_wl g M n).length = n := by simp [mm_wl]
  have hat : (mm_wl g M n ++ [(q, e)])[n]? = some (q, e) := by
    rw [List.getElem?_append_right (by omega), hl, Nat.sub_self]; rfl
  have h1 := (hP1 n _ hat).lt
  have h2 : mm_b g ≤ q := hD1.2 n _ hat
  dsimp only at h1
  by_cases h : q < mm_b g + n
  · exfalso
    have hi : q - mm_b g < n := by omega
    have hat2 : (mm_wl g M n ++ [(q, e)])[q - mm_b g]? = some (mm_b g + (q - mm_b g), mm_cc g (M (q - mm_b g))) := by
      rw [List.getElem?_append_left (by omega)]; exact mm_wl_at hi
    have := hD1.1 _ _ _ _ hat2 hat (by show mm_b g + (q - mm_b g) = q; omega)
    omega
  · omega
theorem mm_new {C : String} {T : u_T} {ty0 : Nat → FieldType} {N ci index : Nat} {fs : List Value} (hin : ∀ w ∈ u_ws C T N, w ∈ mm_ws) (hty : ∀ k, k < N → parseFieldDescriptor (T k).2.2.1 = some (ty0 k)) (hc0 : vwCl[ci]? = some (C, T, N)) (hcl : Cond.classLink own index C ∈ mm_ws) (hins : Cond.instantiable C N ∈ mm_ws) (hini : Cond.initialized C ∈ mm_ws)
    (hfs : ∀ j, j < N → defaultValue (ty0 j) = vp_V fs j) (hfm : ∀ g : mm_G, fs.map (mm_cv g) = fs) (hz0 : S.2.2 = false) (hu1 : uc + 1 ≤ dc) (hu2 : us + N ≤ ds) (hd : decode cc pc = .ok (.new index, 3))
    (kk : mm_V g l own nm cc nL ret hh d dc ds Q (pc + 3) ls (.ref S.2.1 :: st) (mm_up S.1 S.2.1 (.inr (ci, fs)), S.2.1 + 1, false) (uc + 1) (us + N)) : mm_V g l own nm cc nL ret hh d dc ds Q pc ls st S uc us := by
  intro p e R s m args below meth c QQ hc he H locs la hR hS hF hZ hl
  obtain ⟨hx, hb, hml, hr, hlk2, hown, htb, hws, hst, hfr, hlo, hcel, hsl, hnm9, hbs⟩ := id hc
  refine va_new (ci := ci) (fs := fs) hx hb hws hin ty0 hty hown (hws _ hcl) (hws _ hins) (hws _ hini) hS.1 hR.1 (mm_wl_D g S.1 S.2.1) hF (fun q hq => Nat.le_trans hbs hq) hc0 hfs (by rw [hcel]; exact hu1) (by rw [hsl]; exact hu2) hd (fun q H1 hP1 hD1 hF1 => ?_)
  intro T1 hT1 X1
  have hz1 := X1.heapSize
  have hz2 := hZ hz0
  have hq := mm_q hP1 hD1 (by rw [← hT1]; omega)
  subst hq
  have hP1 := mm_pushP (.inr (ci, fs)) hP1 (by show _ = Sum.inr (ci, fs.map (mm_cv g)); rw [hfm])
  have hz : mm_b g ≤ H1.size := Nat.le_trans hbs hF1.1
  exact kk p e R s m args below meth c QQ hc he H1 locs la ⟨hP1, hz⟩ (mm_kept_of hbs hS hF hF1 hz) hF1 (fun _ => by show _ = mm_b g + (S.2.1 + 1); omega) hl T1 hT1 X1
theorem mm_RA_one {U : State} {c1 c2 : ClassId} {ty : FieldType} (h1 : va_RA U c1 ty) (h2 : va_RA U c2 ty) : c1 = c2 := by
  cases ty with
  | object C =>
    obtain ⟨_, _, _, _, _, h3⟩ := h1
    obtain ⟨_, _, _, _, _, h4⟩ := h2
    exact Option.some.inj (h3.symm.trans h4)
  | _ => exact Option.some.inj (h1.symm.trans h2)
theorem mm_newa {atype : ArrayType} {t N : Nat} {ty : FieldType} {a0 : vp_A} {cl : mm_C} {n : Int32} (ht : ∀ g : mm_G, (mm_tys g)[t]? = some (mm_cA g t, ty)) (hca : ∀ g : mm_G, mm_cc g cl = .inl (mm_cA g t, a0)) (haw : Cond.arrayClass (newarray.typeOf atype) ∈ mm_ws) (hty : newarray.typeOf atype = ty)
    (ha : ∀ cA : ClassId, vp_cell cA a0 = arrV cA N (fun _ => defaultValue ty)) (hn : ¬ n < 0) (hN : n.toNatClampNeg = N) (hbytes : N * componentBytes ty ≤ 536870912) (hz0 : S.2.2 = false) (hu1 : uc + 1 ≤ dc) (hu2 : us + N ≤ ds) (hd : decode cc pc = .ok (.newarray atype, 2))
    (kk : mm_V g l own nm cc nL ret hh d dc ds Q (pc + 2) ls (.ref S.2.1 :: st) (mm_up S.1 S.2.1 cl, S.2.1 + 1, false) (uc + 1) (us + N)) : mm_V g l own nm cc nL ret hh d dc ds Q pc ls (.int n :: st) S uc us := by
  intro p e R s m args below meth c QQ hc he H locs la hR hS hF hZ hl
  obtain ⟨hx, hb, hml, hr, hlk2, hown, htb, hws, hst, hfr, hlo, hcel, hsl, hnm9, hbs⟩ := id hc
  refine va_newa (a0 := a0) hx hb (hws _ haw) hty hS.1 hR.1 (mm_wl_D g S.1 S.2.1) hF (fun q hq => Nat.le_trans hbs hq) ha hn hN hbytes (by rw [hcel]; exact hu1) (by rw [hsl]; exact hu2) hd (fun q cA H1 hK1 hP1 hD1 hF1 => ?_)
  intro T1 hT1 X1
  have hz1 := X1.heapSize
  have hz2 := hZ hz0
  have hq := mm_q hP1 hD1 (by rw [← hT1]; omega)
  subst hq
  have hcA : cA = mm_cA g t := mm_RA_one ((hK1.2 (mm_tys g).length (cA, ty) (by simp)).2) ((hS.1.2 t _ (ht g)).2)
  subst hcA
  have hP1 := mm_pushP (cl) hP1 (hca g).symm
  have hz : mm_b g ≤ H1.size := Nat.le_trans hbs hF1.1
  exact kk p e R s m args below meth c QQ hc he H1 locs la ⟨hP1, hz⟩ (mm_kept_of hbs hS hF hF1 hz) hF1 (fun _ => by show _ = mm_b g + (S.2.1 + 1); omega) hl T1 hT1 X1
theorem mm_newq {C : String} {index t N : Nat} {n : Int32} (ht : ∀ g : mm_G, (mm_tys g)[t]? = some (mm_cA g t, .object C)) (hC : C = "ProtoDesk$Item" ∨ C = "ProtoDesk$Node") (hcl : Cond.classLink own index C ∈ mm_ws)
    (hn : ¬ n < 0) (hN : n.toNatClampNeg = N) (hbytes : N * 4 ≤ 536870912) (hz0 : S.2.2 = false) (hu1 : uc + 1 ≤ dc) (hu2 : us + N ≤ ds) (hd : decode cc pc = .ok (.anewarray index, 3))
    (kk : mm_V g l own nm cc nL ret hh d dc ds Q (pc + 3) ls (.ref S.2.1 :: st) (mm_up S.1 S.2.1 (.inl (t, N, .inr (.inr (fun _ => none)))), S.2.1 + 1, false) (uc + 1) (us + N)) : mm_V g l own nm cc nL ret hh d dc ds Q pc ls (.int n :: st) S uc us := by
  intro p e R s m args below meth c QQ hc he H locs la hR hS hF hZ hl
  obtain ⟨hx, hb, hml, hr, hlk2, hown, htb, hws, hst, hfr, hlo, hcel, hsl, hnm9, hbs⟩ := id hc
  have hao : va_AO C s := by rcases hC with rfl | rfl; exact hS.2.2.2.1.1; exact hS.2.2.2.1.2
  refine va_newq (C := C) hx hb hown (hws _ hcl) hao hS.1 hR.1 (mm_wl_D g S.1 S.2.1) hF (fun q hq => Nat.le_trans hbs hq) hn hN hbytes (by rw [hcel]; exact hu1) (by rw [hsl]; exact hu2) hd (fun q cA H1 hK1 hP1 hD1 hF1 => ?_)
  intro T1 hT1 X1
  have hz1 := X1.heapSize
  have hz2 := hZ hz0
  have hq := mm_q hP1 hD1 (by rw [← hT1]; omega)
  subst hq
  have hcA : cA = mm_cA g t := mm_RA_one ((hK1.2 (mm_tys g).length (cA, .object C) (by simp)).2) ((hS.1.2 t _ (ht g)).2)
  subst hcA
  have hP1 := mm_pushP (.inl (t, N, .inr (.inr (fun _ => none)))) hP1 rfl
  have hz : mm_b g ≤ H1.size := Nat.le_trans hbs hF1.1
  exact kk p e R s m args below meth c QQ hc he H1 locs la ⟨hP1, hz⟩ (mm_kept_of hbs hS hF hF1 hz) hF1 (fun _ => by show _ = mm_b g + (S.2.1 + 1); omega) hl T1 hT1 X1
-- arrays: loads
theorem mm_iald {a n : Nat} {f : Nat → Int32} {i : Int32} (hm : S.1 a = .inl (0, n, .inl f)) (ha : a < S.2.1) (hi : vp_in i n) (hd : decode cc pc = .ok (.iaload, 1)) (kk : mm_V g l own nm cc nL ret hh d dc ds Q (pc + 1) ls (.int (f i.toNatClampNeg) :: st) S uc us) : mm_V g l own nm cc nL ret hh d dc ds Q pc ls (.int i :: .ref a :: st) S uc us := by
  intro p e R s m args below meth c QQ hc he H locs la hR hS hF hZ hl
  exact va_iald hc.1 hc.2.1 hS.1 hR.1 a 0 (by rw [mm_wl_at ha, hm]; rfl) rfl hi hd (kk p e R s m args below meth c QQ hc he H locs la hR hS hF hZ hl)
theorem mm_lald {a n : Nat} {f : Nat → Int64} {i : Int32} (hm : S.1 a = .inl (1, n, .inr (.inl f))) (ha : a < S.2.1) (hi : vp_in i n) (hd : decode cc pc = .ok (.laload, 1)) (kk : mm_V g l own nm cc nL ret hh d dc ds Q (pc + 1) ls (.long (f i.toNatClampNeg) :: st) S uc us) : mm_V g l own nm cc nL ret hh d dc ds Q pc ls (.int i :: .ref a :: st) S uc us := by
  intro p e R s m args below meth c QQ hc he H locs la hR hS hF hZ hl
  exact va_lald hc.1 hc.2.1 hS.1 hR.1 a 1 (by rw [mm_wl_at ha, hm]; rfl) rfl hi hd (kk p e R s m args below meth c QQ hc he H locs la hR hS hF hZ hl)
theorem mm_bald {a n : Nat} {f : Nat → Int32} {i : Int32} (hm : S.1 a = .inl (2, n, .inl f)) (ha : a < S.2.1) (hi : vp_in i n) (hd : decode cc pc = .ok (.baload, 1)) (kk : mm_V g l own nm cc nL ret hh d dc ds Q (pc + 1) ls (.int (f i.toNatClampNeg) :: st) S uc us) : mm_V g l own nm cc nL ret hh d dc ds Q pc ls (.int i :: .ref a :: st) S uc us := by
  intro p e R s m args below meth c QQ hc he H locs la hR hS hF hZ hl
  exact va_bald hc.1 hc.2.1 hS.1 hR.1 a 2 (by rw [mm_wl_at ha, hm]; rfl) rfl hi hd (kk p e R s m args below meth c QQ hc he H locs la hR hS hF hZ hl)
theorem mm_zald {a n : Nat} {f : Nat → Int32} {i : Int32} (hm : S.1 a = .inl (3, n, .inl f)) (ha : a < S.2.1) (hi : vp_in i n) (hd : decode cc pc = .ok (.baload, 1)) (kk : mm_V g l own nm cc nL ret hh d dc ds Q (pc + 1) ls (.int (f i.toNatClampNeg) :: st) S uc us) : mm_V g l own nm cc nL ret hh d dc ds Q pc ls (.int i :: .ref a :: st) S uc us := by
  intro p e R s m args below meth c QQ hc he H locs la hR hS hF hZ hl
  exact va_zald hc.1 hc.2.1 hS.1 hR.1 a 3 (by rw [mm_wl_at ha, hm]; rfl) rfl hi hd (kk p e R s m args below meth c QQ hc he H locs la hR hS hF hZ hl)
theorem mm_cv_rf (g : mm_G) (r : Option Nat) : mm_cv g (va_rf r) = va_rf (r.map (fun i => mm_b g + i)) := by cases r <;> rfl
theorem mm_aald {a n t : Nat} {C : String} {f : Nat → Option Nat} {i : Int32} (ht : ∀ g : mm_G, (mm_tys g)[t]? = some (mm_cA g t, .object C)) (hm : S.1 a = .inl (t, n, .inr (.inr f))) (ha : a < S.2.1) (hi : vp_in i n) (hd : decode cc pc = .ok (.aaload, 1)) (kk : mm_V g l own nm cc nL ret hh d dc ds Q (pc + 1) ls (va_rf (f i.toNatClampNeg) :: st) S uc us) : mm_V g l own nm cc nL ret hh d dc ds Q pc ls (.int i :: .ref a :: st) S uc us := by
  intro p e R s m args below meth c QQ hc he H locs la hR hS hF hZ hl
  have hk := kk p e R s m args below meth c QQ hc he H locs la hR hS hF hZ hl
  rw [List.map_cons, mm_cv_rf] at hk
  exact va_aldq (C := C) (f := fun j => (f j).map (fun i => mm_b g + i)) hc.1 hc.2.1 hS.1 hR.1 a t (by rw [mm_wl_at ha, hm]; rfl) (ht g) hi hd hk
theorem mm_sald {i : Int32} (hi : vp_in i (mm_X g).2.1) (hd : decode cc pc = .ok (.iaload, 1)) (kk : mm_V g l own nm cc nL ret hh d dc ds Q (pc + 1) ls (.int ((mm_X g).2.2 i.toNatClampNeg) :: st) S uc us) : mm_V g l own nm cc nL ret hh d dc ds Q pc ls (.int i :: .retAddr 0 :: st) S uc us := by
  intro p e R s m args below meth c QQ hc he H locs la hR hS hF hZ hl
  have hS9 := hS
  obtain ⟨-, -, -, -, -, -, hX, hX1, hX2⟩ := hS
  exact va_sld (H0 := H) (A := mm_A g) hc.1 hc.2.1 hX (Nat.lt_of_lt_of_le hX1 hX2) (Nat.not_le.mpr hX1) ⟨Nat.le_refl _, fun _ _ _ => rfl, hF.2.2⟩ hi hd (kk p e R s m args below meth c QQ hc he H locs la hR hS9 hF hZ hl)
theorem mm_slen (hd : decode cc pc = .ok (.arraylength, 1)) (kk : mm_V g l own nm cc nL ret hh d dc ds Q (pc + 1) ls (.int (Int32.ofNat (mm_X g).2.1) :: st) S uc us) : mm_V g l own nm cc nL ret hh d dc ds Q pc ls (.retAddr 0 :: st) S uc us := by
  intro p e R s m args below meth c QQ hc he H locs la hR hS hF hZ hl
  have hS9 := hS
  obtain ⟨-, -, -, -, -, -, hX, hX1, hX2⟩ := hS
  exact va_slen (H0 := H) (A := mm_A g) hc.1 hc.2.1 hX (Nat.lt_of_lt_of_le hX1 hX2) (Nat.not_le.mpr hX1) ⟨Nat.le_refl _, fun _ _ _ => rfl, hF.2.2⟩ hd (kk p e R s m args below meth c QQ hc he H locs la hR hS9 hF hZ hl)
theorem mm_alen {a n t : Nat} {ty : FieldType} {x : (Nat → Int32) ⊕ (Nat → Int64) ⊕ (Nat → Option Nat)} {v : Int32} (ht : ∀ g : mm_G, (mm_tys g)[t]? = some (mm_cA g t, ty)) (hm : S.1 a = .inl (t, n, x)) (ha : a < S.2.1) (hv : Int32.ofNat n = v) (hd : decode cc pc = .ok (.arraylength, 1)) (kk : mm_V g l own nm cc nL ret hh d dc ds Q (pc + 1) ls (.int v :: st) S uc us) : mm_V g l own nm cc nL ret hh d dc ds Q pc ls (.ref a :: st) S uc us := by
  intro p e R s m args below meth c QQ hc he H locs la hR hS hF hZ hl
  obtain ⟨y, hy, hn⟩ : ∃ y : vp_A, mm_cc g (.inl (t, n, x)) = .inl (mm_cA g t, y) ∧ y.1 = n := by
    rcases x with f | f | f <;> exact ⟨(n, _), rfl, rfl⟩
  exact va_alen (x := y) hc.1 hc.2.1 hS.1 hR.1 a t (by rw [mm_wl_at ha, hm, hy]) (ht g) (by rw [hn]; exact hv) hd (kk p e R s m args below meth c QQ hc he H locs la hR hS hF hZ hl)
-- arrays: stores
theorem mm_iast {a n : Nat} {f : Nat → Int32} {i x : Int32} (hm : S.1 a = .inl (0, n, .inl f)) (ha : a < S.2.1) (hi : vp_in i n) (hd : decode cc pc = .ok (.iastore, 1)) (kk : mm_V g l own nm cc nL ret hh d dc ds Q (pc + 1) ls st (mm_up S.1 a (.inl (0, n, .inl (upd f i.toNatClampNeg x))), S.2) uc us) : mm_V g l own nm cc nL ret hh d dc ds Q pc ls (.int x :: .int i :: .ref a :: st) S uc us := by
  intro p e R s m args below meth c QQ hc he H locs la hR hS hF hZ hl
  obtain ⟨hx, hb, hml, hr, hlk2, hown, htb, hws, -, -, -, -, -, -, hbs⟩ := id hc
  refine va_iast hx hb hS.1 hR.1 (mm_wl_D g S.1 S.2.1) hF a 0 (by rw [mm_wl_at ha, hm]; rfl) rfl hi hd (fun H1 locs1 hP1 hD1 hF1 => ?_)
  have hP1 := mm_setP (.inl (0, n, .inl (upd f i.toNatClampNeg x))) hP1 ha rfl
  have hz : mm_b g ≤ H1.size := Nat.le_trans hbs hF1.1
  exact kk p e R s m args below meth c QQ hc he H1 locs1 la ⟨hP1, hz⟩ (mm_kept_of hbs hS hF hF1 hz) hF1 hZ hl
theorem mm_last {a n : Nat} {f : Nat → Int64} {i : Int32} {x : Int64} (hm : S.1 a = .inl (1, n, .inr (.inl f))) (ha : a < S.2.1) (hi : vp_in i n) (hd : decode cc pc = .ok (.lastore, 1)) (kk : mm_V g l own nm cc nL ret hh d dc ds Q (pc + 1) ls st (mm_up S.1 a (.inl (1, n, .inr (.inl (vp_updL f i.toNatClampNeg x)))), S.2) uc us) : mm_V g l own nm cc nL ret hh d dc ds Q pc ls (.long x :: .int i :: .ref a :: st) S uc us := by
  intro p e R s m args below meth c QQ hc he H locs la hR hS hF hZ hl
  obtain ⟨hx, hb, hml, hr, hlk2, hown, htb, hws, -, -, -, -, -, -, hbs⟩ := id hc
  refine va_last hx hb hS.1 hR.1 (mm_wl_D g S.1 S.2.1) hF a 1 (by rw [mm_wl_at ha, hm]; rfl) rfl hi hd (fun H1 locs1 hP1 hD1 hF1 => ?_)
  have hP1 := mm_setP (.inl (1, n, .inr (.inl (vp_updL f i.toNatClampNeg x)))) hP1 ha rfl
  have hz : mm_b g ≤ H1.size := Nat.le_trans hbs hF1.1
  exact kk p e R s m args below meth c QQ hc he H1 locs1 la ⟨hP1, hz⟩ (mm_kept_of hbs hS hF hF1 hz) hF1 hZ hl
theorem mm_bast {a n : Nat} {f : Nat → Int32} {i x : Int32} (hm : S.1 a = .inl (2, n, .inl f)) (ha : a < S.2.1) (hi : vp_in i n) (hd : decode cc pc = .ok (.bastore, 1)) (kk : mm_V g l own nm cc nL ret hh d dc ds Q (pc + 1) ls st (mm_up S.1 a (.inl (2, n, .inl (upd f i.toNatClampNeg (vp_nar .byte x)))), S.2) uc us) : mm_V g l own nm cc nL ret hh d dc ds Q pc ls (.int x :: .int i :: .ref a :: st) S uc us := by
  intro p e R s m args below meth c QQ hc he H locs la hR hS hF hZ hl
  obtain ⟨hx, hb, hml, hr, hlk2, hown, htb, hws, -, -, -, -, -, -, hbs⟩ := id hc
  refine va_bast hx hb hS.1 hR.1 (mm_wl_D g S.1 S.2.1) hF a 2 (by rw [mm_wl_at ha, hm]; rfl) rfl hi hd (fun H1 locs1 hP1 hD1 hF1 => ?_)
  have hP1 := mm_setP (.inl (2, n, .inl (upd f i.toNatClampNeg (vp_nar .byte x)))) hP1 ha rfl
  have hz : mm_b g ≤ H1.size := Nat.le_trans hbs hF1.1
  exact kk p e R s m args below meth c QQ hc he H1 locs1 la ⟨hP1, hz⟩ (mm_kept_of hbs hS hF hF1 hz) hF1 hZ hl
theorem mm_zast {a n : Nat} {f : Nat → Int32} {i x : Int32} (hm : S.1 a = .inl (3, n, .inl f)) (ha : a < S.2.1) (hi : vp_in i n) (hd : decode cc pc = .ok (.bastore, 1)) (kk : mm_V g l own nm cc nL ret hh d dc ds Q (pc + 1) ls st (mm_up S.1 a (.inl (3, n, .inl (upd f i.toNatClampNeg (vp_nar .boolean x)))), S.2) uc us) : mm_V g l own nm cc nL ret hh d dc ds Q pc ls (.int x :: .int i :: .ref a :: st) S uc us := by
  intro p e R s m args below meth c QQ hc he H locs la hR hS hF hZ hl
  obtain ⟨hx, hb, hml, hr, hlk2, hown, htb, hws, -, -, -, -, -, -, hbs⟩ := id hc
  refine va_zast hx hb hS.1 hR.1 (mm_wl_D g S.1 S.2.1) hF a 3 (by rw [mm_wl_at ha, hm]; rfl) rfl hi hd (fun H1 locs1 hP1 hD1 hF1 => ?_)
  have hP1 := mm_setP (.inl (3, n, .inl (upd f i.toNatClampNeg (vp_nar .boolean x)))) hP1 ha rfl
  have hz : mm_b g ≤ H1.size := Nat.le_trans hbs hF1.1
  exact kk p e R s m args below meth c QQ hc he H1 locs1 la ⟨hP1, hz⟩ (mm_kept_of hbs hS hF hF1 hz) hF1 hZ hl
theorem mm_up_map (g : mm_G) (f : Nat → Option Nat) (k : Nat) (r : Option Nat) : va_up (fun j => (f j).map (fun i => mm_b g + i)) k (r.map (fun i => mm_b g + i)) = fun j => (va_up f k r j).map (fun i => mm_b g + i) := by
  funext j
  unfold va_up
  split <;> rfl
/-- an object of class number cv goes into an array of that class -/
theorem mm_aast {a n t v cv : Nat} {r : vw_C} {fs : List Value} {f : Nat → Option Nat} {i : Int32} (ht : ∀ g : mm_G, (mm_tys g)[t]? = some (mm_cA g t, .object r.1)) (hr0 : vwCl[cv]? = some r) (hm : S.1 a = .inl (t, n, .inr (.inr f))) (ha : a < S.2.1) (hmv : S.1 v = .inr (cv, fs)) (hv : v < S.2.1) (hi : vp_in i n) (hd : decode cc pc = .ok (.aastore, 1))
    (kk : mm_V g l own nm cc nL ret hh d dc ds Q (pc + 1) ls st (mm_up S.1 a (.inl (t, n, .inr (.inr (va_up f i.toNatClampNeg (some v))))), S.2) uc us) : mm_V g l own nm cc nL ret hh d dc ds Q pc ls (.ref v :: .int i :: .ref a :: st) S uc us := by
  intro p e R s m args below meth c QQ hc he H locs la hR hS hF hZ hl
  obtain ⟨hx, hb, hml, hr, hlk2, hown, htb, hws, -, -, -, -, -, -, hbs⟩ := id hc
  refine va_astq (r := r) (vs := fs.map (mm_cv g)) (f := fun j => (f j).map (fun i => mm_b g + i)) hx hb hS.1 hR.1 (mm_wl_D g S.1 S.2.1) hF a t v cv (by rw [mm_wl_at ha, hm]; rfl) (ht g) (by rw [mm_wl_at hv, hmv]; rfl) hr0 hi hd (fun H1 locs1 hP1 hD1 hF1 => ?_)
  have hP1 := mm_setP (.inl (t, n, .inr (.inr (va_up f i.toNatClampNeg (some v))))) hP1 ha (by rw [show (some (mm_b g + v) : Option Nat) = (some v).map (fun i => mm_b g + i) from rfl, mm_up_map]; rfl)
  have hz : mm_b g ≤ H1.size := Nat.le_trans hbs hF1.1
  exact kk p e R s m args below meth c QQ hc he H1 locs1 la ⟨hP1, hz⟩ (mm_kept_of hbs hS hF hF1 hz) hF1 hZ hl
theorem mm_aastN {a n t : Nat} {C : String} {f : Nat → Option Nat} {i : Int32} (ht : ∀ g : mm_G, (mm_tys g)[t]? = some (mm_cA g t, .object C)) (hm : S.1 a = .inl (t, n, .inr (.inr f))) (ha : a < S.2.1) (hi : vp_in i n) (hd : decode cc pc = .ok (.aastore, 1))
    (kk : mm_V g l own nm cc nL ret hh d dc ds Q (pc + 1) ls st (mm_up S.1 a (.inl (t, n, .inr (.inr (va_up f i.toNatClampNeg none)))), S.2) uc us) : mm_V g l own nm cc nL ret hh d dc ds Q pc ls (.null :: .int i :: .ref a :: st) S uc us := by
  intro p e R s m args below meth c QQ hc he H locs la hR hS hF hZ hl
  obtain ⟨hx, hb, hml, hr, hlk2, hown, htb, hws, -, -, -, -, -, -, hbs⟩ := id hc
  refine va_astqN (C := C) (f := fun j => (f j).map (fun i => mm_b g + i)) hx hb hS.1 hR.1 (mm_wl_D g S.1 S.2.1) hF a t (by rw [mm_wl_at ha, hm]; rfl) (ht g) hi hd (fun H1 locs1 hP1 hD1 hF1 => ?_)
  have hP1 := mm_setP (.inl (t, n, .inr (.inr (va_up f i.toNatClampNeg none)))) hP1 ha (by rw [show (none : Option Nat) = (none : Option Nat).map (fun i => mm_b g + i) from rfl, mm_up_map]; rfl)
  have hz : mm_b g ≤ H1.size := Nat.le_trans hbs hF1.1
  exact kk p e R s m args below meth c QQ hc he H1 locs1 la ⟨hP1, hz⟩ (mm_kept_of hbs hS hF hF1 hz) hF1 hZ hl
theorem mm_oinit {index a : Nat} (hw1 : Cond.methodLink own index objectInit ∈ mm_ws) (hw2 : Cond.instanceMethod objectInit ∈ mm_ws) (hw3 : Cond.code objectInit ⟨#[0xb1]⟩ 1 none ∈ mm_ws) (hsum : (st.map fun v => v.category).sum ≤ 8) (hd : decode cc pc = .ok (.invokespecial index, 3)) (kk : mm_V g l own nm cc nL ret hh d dc ds Q (pc + 3) ls st S uc us) : mm_V g l own nm cc nL ret hh d dc ds Q pc ls (.ref a :: st) S uc us := by
  intro p e R s m args below meth c QQ hc he H locs la hR hS hF hZ hl
  obtain ⟨hx, hb, hml, hr, hlk2, hown, htb, hws, hst, hfr, hlo, -, -, -, hbs⟩ := id hc
  have hsum2 : ((st.map (mm_cv g)).map fun v => v.category).sum ≤ 8 := by
    rw [List.map_map, show ((fun v : Value => v.category) ∘ mm_cv g) = fun v : Value => v.category from funext (mm_cv_cat g)]; exact hsum
  exact W.objInit (a := mm_b g + a) (rest := st.map (mm_cv g)) hx hb hown (hws _ hw1) (hws _ hw2) (hws _ hw3) rfl (by rw [hml]; exact hl.1) rfl hd (by omega) (by have := lv_room (m := m) (pc := pc) (ls := la) (rest := (.ref a :: st).map (mm_cv g)) hsum2; omega) (kk p e R s m args below meth c QQ hc he H locs la hR hS hF hZ hl)
end MMW
end
section
section MMX
variable {g : mm_G} {l : Launch} {own nm : String} {cc : ByteArray} {nL : Nat} {ret : Option FieldType} {hh : List ExceptionTableEntry} {d dc ds : Nat} {Q : mm_R → mm_S → Prop} {pc : Nat} {ls : List (Option Value)} {st : List Value} {S : mm_S} {uc us : Nat}
/-- a method that doesn't throw -/
def mm_nt (Q : Option Value → mm_S → Prop) : mm_R → mm_S → Prop := fun r S => match r with
  | .inl v => Q v S
  | .inr _ => False
def mm_Qm (g : mm_G) (Q : Option Value → mm_S → Prop) : Array Value → State → Outcome → State → Prop := mm_Qc g (mm_nt Q)
/-- the contract of a method that doesn't throw -/
def mm_Cm (g : mm_G) (l : Launch) (y : MethodName) (cw : Cond) (d dc ds : Nat) (as : List Value) (S : mm_S) (Q : Option Value → mm_S → Prop) : Prop :=
  Met l y (cw :: mm_ws) (mm_rm d dc ds) (mm_Pc g as S) (mm_Qm g Q) dc ds (mm_A g)
theorem mm_pay {args : Array Value} {s : State} (h : ∀ w ∈ mm_ws, w.before args s = true) {cw : Cond} (hcw : cw ∈ mm_ws) : ∀ w ∈ cw :: mm_ws, ∀ (a' : Array Value) (U : State), s.WarmedH U.vm → w.before a' U = true := by
  intro w hw a' U hW
  have hm : w ∈ mm_ws := by
    rcases List.mem_cons.mp hw with rfl | h1
    · exact hcw
    · exact h1
  exact word_at hW (good_of_word (List.mem_filter.mp hm).2) (h w hm)
theorem mm_sum (g : mm_G) (st : List Value) : ((st.map (mm_cv g)).map fun v => v.category).sum = (st.map fun v => v.category).sum := by
  rw [List.map_map, show ((fun v : Value => v.category) ∘ mm_cv g) = fun v : Value => v.category from funext (mm_cv_cat g)]
theorem mm_rest (g : mm_G) (v : Option Value) (st : List Value) : (v.map (mm_cv g)).toList ++ st.map (mm_cv g) = (v.toList ++ st).map (mm_cv g) := by cases v <;> rfl
/-- the common facts of a call's words -/
def mm_W (y : MethodName) (bytes : ByteArray) (maxL : Nat) (rt : Option FieldType) (n : Nat) : Prop :=
  Cond.code y bytes maxL rt ∈ mm_ws ∧ Cond.initialized y.cls ∈ mm_ws ∧ (y.cls ≠ "java/lang/invoke/MethodHandle" ∧ y.cls ≠ "java/lang/invoke/VarHandle") ∧ (parseMethodDescriptor y.desc).map (fun d => d.parameters.length) = some n ∧ maxL ≤ 41
theorem mm_callB {y : MethodName} {bytes : ByteArray} {maxL n index dc' ds' : Nat} {rt : Option FieldType} {p : Program} {R : Room} {s : State} {m : MethodId} {args : Array Value} {meth : Method} {c : Code} (hc : mm_Cx g l p R s m args meth c own nm cc nL ret hh (d + 1) dc ds) (hw : mm_W y bytes maxL rt n) (hml : Cond.methodLink own index y ∈ mm_ws) :
    CallB R s args own index y bytes maxL rt (Cond.code y bytes maxL rt :: mm_ws) (mm_rm d dc' ds') dc' ds' n := by
  obtain ⟨hx, hb, hml9, hr, hlk2, hown, htb, hws, hst, hfr, hlo, hcel, hsl, hnm9, hbs⟩ := hc
  obtain ⟨h1, h2, h3, h4, h5⟩ := hw
  refine ⟨rfl, rfl, ?_, ?_, mm_pay hws h1, List.mem_cons_self, hws _ h1, hws _ h2, h3, fun sig h => ?_, hws _ hml⟩
  · show d + 8 + 1 ≤ R.frames; omega
  · show 8 + (maxL + 11) + (60 * d + 120) ≤ R.locals; omega
  · rw [h] at h4; exact (Option.some.inj h4).symm
theorem mm_preP {as : List Value} {p : Program} {e : Env} {R : Room} {s : State} {m : MethodId} {args : Array Value} {below : List Frame} {meth : Method} {c : Code} {T : State} {locs : List Loc} (X : Stand p l e R s m args below meth c T locs uc us) (hR : mm_Rp g S T.heap) (hS : mm_St g s T.heap) (hZ : S.2.2 = false → s.heap.size + uc = mm_b g + S.2.1) : ∀ U : State, U.heap = T.heap → s.WarmedH U.vm → mm_Pc g as S (as.map (mm_cv g)).toArray U := by
  intro U hU hW
  exact ⟨rfl, by rw [hU]; exact hR, fun h => by rw [hU]; exact mm_sz X hR hZ h, by rw [hU]; exact hS.warm hW⟩
theorem mm_recv {s : State} {H : Heap} {a ci : Nat} {fs : List Value} {C : String} (hR : mm_Rp g S H) (hS : mm_St g s H) (hm : S.1 a = .inr (ci, fs)) (ha : a < S.2.1) (hcl : (vwCl[ci]?).map (fun r => r.1) = some C) : ∃ cell : Cell, H[mm_b g + a]? = some cell ∧ cell.vm.isStatics = false ∧ s.vm.findClass C = some cell.cls := by
  cases hr : vwCl[ci]? with
  | none => rw [hr] at hcl; cases hcl
  | some r =>
    rw [hr] at hcl
    cases hcl
    exact va_recv hS.1 hR.1 hr (fs := fs.map (mm_cv g)) (q0 := a) (by rw [mm_wl_at ha, hm]; rfl)
/-- behind a call that came back -/
theorem mm_back {dc' ds' : Nat} {Qc : mm_R → mm_S → Prop} {p : Program} {e : Env} {R : Room} {s : State} {m : MethodId} {args a9 : Array Value} {below : List Frame} {meth : Method} {c : Code} {QQ : State → Prop} {T st₀ t T' : State} {locs L : List Loc} {v : Option Value} {la : Array Slot} {stk : List Value}
    (hc : mm_Cx g l p R s m args meth c own nm cc nL ret hh d dc ds) (he : mm_En g l p e R s m args below meth c cc ret dc ds Q QQ) (hS : mm_St g s T.heap) (hF : va_S (mm_A g) s.heap T.heap locs) (hl : mm_ls g la nL ls)
    (h0 : st₀.heap = T.heap) (X' : Stand p l e R s m args below meth c T' (locs ++ L) (uc + dc') (us + ds')) (hL : ∀ q ∈ L, mm_A g q.base) (e1 : T'.heap = t.heap) (hq : mm_Qc g Qc a9 st₀ (.returned v) t)
    (st1 : Goes p e below T (F0 m pc la stk) T' { F0 m pc la stk with pc := pc + 3, stack := v.toList ++ st.map (mm_cv g) }) (hZ : S.2.2 = false → s.heap.size + uc = mm_b g + S.2.1)
    (kk : ∀ (v : Option Value) (S' : mm_S), Qc (.inl v) S' → (S'.2.2 = false → S.2.2 = false ∧ S'.2.1 = S.2.1 + dc') ∧ mm_V g l own nm cc nL ret hh d dc ds Q (pc + 3) ls (v.toList ++ st) S' (uc + dc') (us + ds')) :
    ∃ t, Steps p.tables e below (T.setTop (F0 m pc la stk)) t ∧ QQ t := by
  obtain ⟨w, S', ho, hqq, hRp, hFr⟩ := hq
  have hv : v = w.map (mm_cv g) := by cases ho; rfl
  subst hv
  obtain ⟨kz, kV⟩ := kk w S' hqq
  have hbs := hc.2.2.2.2.2.2.2.2.2.2.2.2.2.2
  obtain ⟨k1, k2, k3⟩ := vx_keep (A1 := mm_A g) (free := mm_A g) h0 e1 hF (fun _ _ h => h) (fun _ h => h) hL hFr
  have hz : mm_b g ≤ T'.heap.size := by rw [e1]; exact hRp.2
  rw [mm_rest] at st1
  obtain ⟨t2, a1, b1⟩ := kV p e R s m args below meth c QQ hc he T'.heap (locs ++ L) la (by rw [e1]; exact hRp) (mm_kept_of hbs hS hF k3 hz) k3 (fun h => by obtain ⟨i1, i2⟩ := kz h; have := hZ i1; omega) hl T' rfl X'
  exact ⟨t2, st1 t2 a1, b1⟩
theorem mm_callV {y : MethodName} {bytes : ByteArray} {maxL n index dc' ds' a ci : Nat} {rt : Option FieldType} {fs as stk : List Value} {Qc : Option Value → mm_S → Prop} (hw : mm_W y bytes maxL rt n) (hml : Cond.methodLink own index y ∈ mm_ws) (him : Cond.instanceMethod y ∈ mm_ws) (hse : Cond.selects y.cls y y ∈ mm_ws) (hd : decode cc pc = .ok (.invokevirtual index, 3))
    (hM : mm_Cm g l y (.code y bytes maxL rt) d dc' ds' (.ref a :: as) S Qc) (hm : S.1 a = .inr (ci, fs)) (ha : a < S.2.1) (hcl : (vwCl[ci]?).map (fun r => r.1) = some y.cls) (hn : as.length = n) (hstk : stk = as.reverse ++ .ref a :: st) (hsum : (st.map fun v => v.category).sum ≤ 8) (hu1 : uc + dc' ≤ dc) (hu2 : us + ds' ≤ ds)
    (kk : ∀ (v : Option Value) (S' : mm_S), Qc v S' → (S'.2.2 = false → S.2.2 = false ∧ S'.2.1 = S.2.1 + dc') ∧ mm_V g l own nm cc nL ret hh (d + 1) dc ds Q (pc + 3) ls (v.toList ++ st) S' (uc + dc') (us + ds')) : mm_V g l own nm cc nL ret hh (d + 1) dc ds Q pc ls stk S uc us := by
  intro p e R s m args below meth c QQ hc he H locs la hR hS hF hZ hl T hT X
  subst hT
  subst hstk
  obtain ⟨hx, hb, hml9, hr, hlk2, hown, htb, hws, hst, hfr, hlo, hcel, hsl, hnm9, hbs⟩ := id hc
  obtain ⟨v, st₀, t, T', L, h0, X', hL, e1, e2, hq, st1⟩ := va_runV (As := as.map (mm_cv g)) (rest := st.map (mm_cv g)) (b := mm_b g + a) (g := F0 m pc la ((as.reverse ++ .ref a :: st).map (mm_cv g))) (nL := nL) ⟨hx, hb, hml9, hown, hws⟩ hM
    ⟨mm_callB hc hw hml, hws _ him, hws _ hse⟩ ⟨mm_Pc_blind g _ S, mm_recv hR hS hm ha hcl, mm_preP (as := .ref a :: as) X hR hS hZ⟩ rfl (by rw [List.length_map]; exact hn) hl.1 (by show (as.reverse ++ .ref a :: st).map (mm_cv g) = _; rw [List.map_append, List.map_reverse]; rfl) (lv_room (by rw [mm_sum]; exact hsum)) hd (by rw [hcel, hsl]; exact ⟨hu1, hu2⟩) T rfl X
  exact mm_back (Qc := mm_nt Qc) hc he hS hF hl h0 X' hL e1 hq st1 hZ (fun v S' h => kk v S' h)
theorem mm_callS {y : MethodName} {bytes : ByteArray} {maxL n index dc' ds' : Nat} {rt : Option FieldType} {as stk : List Value} {Qc : Option Value → mm_S → Prop} (hw : mm_W y bytes maxL rt n) (hml : Cond.methodLink own index y ∈ mm_ws) (hsta : Cond.static y ∈ mm_ws) (hd : decode cc pc = .ok (.invokestatic index, 3))
    (hM : mm_Cm g l y (.code y bytes maxL rt) d dc' ds' as S Qc) (hn : as.length = n) (hstk : stk = as.reverse ++ st) (hsum : (st.map fun v => v.category).sum ≤ 8) (hu1 : uc + dc' ≤ dc) (hu2 : us + ds' ≤ ds)
    (kk : ∀ (v : Option Value) (S' : mm_S), Qc v S' → (S'.2.2 = false → S.2.2 = false ∧ S'.2.1 = S.2.1 + dc') ∧ mm_V g l own nm cc nL ret hh (d + 1) dc ds Q (pc + 3) ls (v.toList ++ st) S' (uc + dc') (us + ds')) : mm_V g l own nm cc nL ret hh (d + 1) dc ds Q pc ls stk S uc us := by
  intro p e R s m args below meth c QQ hc he H locs la hR hS hF hZ hl T hT X
  subst hT
  subst hstk
  obtain ⟨hx, hb, hml9, hr, hlk2, hown, htb, hws, hst, hfr, hlo, hcel, hsl, hnm9, hbs⟩ := id hc
  obtain ⟨v, st₀, t, T', L, h0, X', hL, e1, e2, hq, st1⟩ := va_runS (As := as.map (mm_cv g)) (rest := st.map (mm_cv g)) (g := F0 m pc la ((as.reverse ++ st).map (mm_cv g))) (nL := nL) ⟨hx, hb, hml9, hown, hws⟩ hM
    ⟨mm_callB hc hw hml, hws _ hsta⟩ ⟨mm_Pc_blind g _ S, mm_preP (as := as) X hR hS hZ⟩ rfl (by rw [List.length_map]; exact hn) hl.1 (by show (as.reverse ++ st).map (mm_cv g) = _; rw [List.map_append, List.map_reverse]) (lv_room (by rw [mm_sum]; exact hsum)) hd (by rw [hcel, hsl]; exact ⟨hu1, hu2⟩) T rfl X
  exact mm_back (Qc := mm_nt Qc) hc he hS hF hl h0 X' hL e1 hq st1 hZ (fun v S' h => kk v S' h)
theorem mm_callSN {y : MethodName} {host : String} {bytes : ByteArray} {maxL n index dc' ds' : Nat} {rt : Option FieldType} {as stk : List Value} {Qc : Option Value → mm_S → Prop} (hw : mm_W y bytes maxL rt n) (hml : Cond.methodLinkNest own index y host ∈ mm_nest) (hsta : Cond.static y ∈ mm_ws) (hd : decode cc pc = .ok (.invokestatic index, 3))
    (hM : mm_Cm g l y (.code y bytes maxL rt) d dc' ds' as S Qc) (hn : as.length = n) (hstk : stk = as.reverse ++ st) (hsum : (st.map fun v => v.category).sum ≤ 8) (hu1 : uc + dc' ≤ dc) (hu2 : us + ds' ≤ ds)
    (kk : ∀ (v : Option Value) (S' : mm_S), Qc v S' → (S'.2.2 = false → S.2.2 = false ∧ S'.2.1 = S.2.1 + dc') ∧ mm_V g l own nm cc nL ret hh (d + 1) dc ds Q (pc + 3) ls (v.toList ++ st) S' (uc + dc') (us + ds')) : mm_V g l own nm cc nL ret hh (d + 1) dc ds Q pc ls stk S uc us := by
  intro p e R s m args below meth c QQ hc he H locs la hR hS hF hZ hl T hT X
  subst hT
  subst hstk
  obtain ⟨hx, hb, hml9, hr, hlk2, hown, htb, hws, hst, hfr, hlo, hcel, hsl, hnm9, hbs⟩ := id hc
  obtain ⟨w1, w2, w3, w4, w5⟩ := hw
  have hcn : va_CN R s args own index y host bytes maxL rt (Cond.code y bytes maxL rt :: mm_ws) (mm_rm d dc' ds') dc' ds' n :=
    ⟨⟨rfl, rfl, (show d + 8 + 1 ≤ R.frames by omega), (show 8 + (maxL + 11) + (60 * d + 120) ≤ R.locals by omega), mm_pay hws w1, List.mem_cons_self⟩, hws _ w1, hws _ w2, w3, fun sig h => by rw [h] at w4; exact (Option.some.inj w4).symm, va_Nw.use rfl (hS.2.1 _ hml)⟩
  obtain ⟨v, st₀, t, T', L, h0, X', hL, e1, e2, hq, st1⟩ := va_runSN (As := as.map (mm_cv g)) (rest := st.map (mm_cv g)) (g := F0 m pc la ((as.reverse ++ st).map (mm_cv g))) (nL := nL) ⟨hx, hb, hml9, hown, hws⟩ hM
    ⟨hcn, hws _ hsta, trivial⟩ ⟨mm_Pc_blind g _ S, mm_preP (as := as) X hR hS hZ⟩ rfl (by rw [List.length_map]; exact hn) hl.1 (by show (as.reverse ++ st).map (mm_cv g) = _; rw [List.map_append, List.map_reverse]) (lv_room (by rw [mm_sum]; exact hsum)) hd (by rw [hcel, hsl]; exact ⟨hu1, hu2⟩) T rfl X
  exact mm_back (Qc := mm_nt Qc) hc he hS hF hl h0 X' hL e1 hq st1 hZ (fun v S' h => kk v S' h)
theorem mm_callI {y : MethodName} {bytes : ByteArray} {maxL n index dc' ds' a : Nat} {as stk : List Value} {Qc : Option Value → mm_S → Prop} (hw : mm_W y bytes maxL none n) (hyn : y.name = "<init>") (hml : Cond.methodLink own index y ∈ mm_ws) (him : Cond.instanceMethod y ∈ mm_ws) (hd : decode cc pc = .ok (.invokespecial index, 3))
    (hM : mm_Cm g l y (.code y bytes maxL none) d dc' ds' (.ref a :: as) S Qc) (hn : as.length = n) (hstk : stk = as.reverse ++ .ref a :: st) (hsum : (st.map fun v => v.category).sum ≤ 8) (hu1 : uc + dc' ≤ dc) (hu2 : us + ds' ≤ ds)
    (kk : ∀ (v : Option Value) (S' : mm_S), Qc v S' → (S'.2.2 = false → S.2.2 = false ∧ S'.2.1 = S.2.1 + dc') ∧ mm_V g l own nm cc nL ret hh (d + 1) dc ds Q (pc + 3) ls (v.toList ++ st) S' (uc + dc') (us + ds')) : mm_V g l own nm cc nL ret hh (d + 1) dc ds Q pc ls stk S uc us := by
  intro p e R s m args below meth c QQ hc he H locs la hR hS hF hZ hl T hT X
  subst hT
  subst hstk
  obtain ⟨hx, hb, hml9, hr, hlk2, hown, htb, hws, hst, hfr, hlo, hcel, hsl, hnm9, hbs⟩ := id hc
  obtain ⟨v, st₀, t, T', L, h0, X', hL, e1, e2, hq, st1⟩ := va_runI (As := as.map (mm_cv g)) (rest := st.map (mm_cv g)) (b := mm_b g + a) (g := F0 m pc la ((as.reverse ++ .ref a :: st).map (mm_cv g))) (nL := nL) ⟨hx, hb, hml9, hown, hws⟩ hM
    ⟨mm_callB hc hw hml, hyn, hws _ him⟩ ⟨mm_Pc_blind g _ S, mm_preP (as := .ref a :: as) X hR hS hZ⟩ rfl (by rw [List.length_map]; exact hn) hl.1 (by show (as.reverse ++ .ref a :: st).map (mm_cv g) = _; rw [List.map_append, List.map_reverse]; rfl) (lv_room (by rw [mm_sum]; exact hsum)) hd (by rw [hcel, hsl]; exact ⟨hu1, hu2⟩) T rfl X
  exact mm_back (Qc := mm_nt Qc) hc he hS hF hl h0 X' hL e1 hq st1 hZ (fun v S' h => kk v S' h)
/-- a call of a method that may throw; what it throws goes on -/
theorem mm_callX {y : MethodName} {bytes : ByteArray} {maxL n index dc' ds' a ci : Nat} {rt : Option FieldType} {fs as stk : List Value} {Qc : mm_R → mm_S → Prop} (hw : mm_W y bytes maxL rt n) (hml : Cond.methodLink own index y ∈ mm_ws) (him : Cond.instanceMethod y ∈ mm_ws) (hse : Cond.selects y.cls y y ∈ mm_ws) (hd : decode cc pc = .ok (.invokevirtual index, 3))
    (hM : mm_Ct g l y (.code y bytes maxL rt) d dc' ds' (.ref a :: as) S Qc) (hm : S.1 a = .inr (ci, fs)) (ha : a < S.2.1) (hcl : (vwCl[ci]?).map (fun r => r.1) = some y.cls) (hn : as.length = n) (hstk : stk = as.reverse ++ .ref a :: st) (hsum : (st.map fun v => v.category).sum ≤ 8) (hu1 : uc + dc' ≤ dc) (hu2 : us + ds' ≤ ds)
    (kk : ∀ (v : Option Value) (S' : mm_S), Qc (.inl v) S' → (S'.2.2 = false → S.2.2 = false ∧ S'.2.1 = S.2.1 + dc') ∧ mm_V g l own nm cc nL ret hh (d + 1) dc ds Q (pc + 3) ls (v.toList ++ st) S' (uc + dc') (us + ds'))
    (hnh : hh = []) (kx : ∀ (E : String) (S' : mm_S), Qc (.inr E) S' → Q (.inr E) S') : mm_V g l own nm cc nL ret hh (d + 1) dc ds Q pc ls stk S uc us := by
  intro p e R s m args below meth c QQ hc he H locs la hR hS hF hZ hl T hT X
  subst hT
  subst hstk
  obtain ⟨hx, hb, hml9, hr, hlk2, hown, htb, hws, hst, hfr, hlo, hcel, hsl, hnm9, hbs⟩ := id hc
  rcases vx_runV (As := as.map (mm_cv g)) (rest := st.map (mm_cv g)) (b := mm_b g + a) (g := F0 m pc la ((as.reverse ++ .ref a :: st).map (mm_cv g))) (nL := nL) ⟨hx, hb, hml9, hown, hws⟩ hM
    ⟨mm_callB hc hw hml, hws _ him, hws _ hse⟩ ⟨mm_Pc_blind g _ S, mm_recv hR hS hm ha hcl, mm_preP (as := .ref a :: as) X hR hS hZ⟩ rfl (by rw [List.length_map]; exact hn) hl.1 (by show (as.reverse ++ .ref a :: st).map (mm_cv g) = _; rw [List.map_append, List.map_reverse]; rfl) (lv_room (by rw [mm_sum]; exact hsum)) hd (by rw [hcel, hsl]; exact ⟨hu1, hu2⟩) T rfl X
    with ⟨v, st₀, t, T', L, h0, X', hL, e1, e2, hq, st1⟩ | ⟨q, st₀, t, T', L, E, ce, h0, X', hL, e1, e2, ⟨S', hq, hRp, hFr⟩, hce, hcv, hcl9, st1⟩
  · exact mm_back hc he hS hF hl h0 X' hL e1 hq st1 hZ kk
  · obtain ⟨k1, k2, k3⟩ := vx_keep (A1 := mm_A g) (free := mm_A g) h0 e1 hF (fun _ _ h => h) (fun _ h => h) hL hFr
    rcases he.2 with ⟨Qd, XC, hQ, hXC⟩ | hno
    · subst hQ
      obtain ⟨t2, a1, b1⟩ := vx_out (mc := dc) (ms := ds) (free := mm_A g) (Qc := Qd) (XC := XC) (p := p) (l := l) (e := e) (R := R) (s := s) (m := m) (args := args) (below := below) (meth := meth) (c := c) (H := T'.heap) (locs := locs ++ L) (cells := uc + dc') (slots := us + ds') (ls := la) (rest := st.map (mm_cv g)) (pc := pc) (E := E) (ce := ce) (q := q)
        (by rw [htb, hnh]; intro x hx9; cases hx9) hlk2 (by rw [e1]; exact hce) hcv hcl9 (fun t9 ht9 _ => hXC E S' t9 (kx E S' hq) (by rw [ht9, e1]; exact hRp) ⟨by rw [ht9]; exact k3.1, fun q9 h1 h2 => by rw [ht9]; exact k3.2.1 q9 h1 h2⟩) k3.2.2 hu1 hu2 T' rfl X'
      exact ⟨t2, st1.trans a1, b1⟩
    · exact absurd (kx E S' hq) (hno E S')
/-- 'throw new E("text")' -/
theorem mm_throw {E text : String} {ik is ic k : Nat} (hcls : Bundle.fit E = true) (hk : Cond.classLink own ik E ∈ mm_ws) (hini : Cond.initialized E ∈ mm_ws) (hstr : mm_strs[k]? = some (own, is, text)) (hat : ∀ w ∈ vx_atS own ic E ["java/lang/RuntimeException", "java/lang/Exception"], w ∈ mm_ws ∨ w ∈ mm_nest) (hnh : hh = [])
    (d0 : decode cc pc = .ok (.new ik, 3)) (d3 : decode cc (pc + 3) = .ok (.dup, 1)) (d4 : decode cc (pc + 4) = .ok (.ldc is, 2)) (d6 : decode cc (pc + 6) = .ok (.invokespecial ic, 3)) (d9 : decode cc (pc + 9) = .ok (.athrow, 1))
    (hsum : (st.map fun v => v.category).sum ≤ 8) (hu1 : uc + 1 ≤ dc) (hu2 : us + 6 ≤ ds) (hq : Q (.inr E) (S.1, S.2.1, true)) : mm_V g l own nm cc nL ret hh d dc ds Q pc ls st S uc us := by
  intro p e R s m args below meth c QQ hc he H locs la hR hS hF hZ hl
  obtain ⟨hx, hb, hml9, hr, hlk2, hown, htb, hws, hst, hfr, hlo, hcel, hsl, hnm9, hbs⟩ := id hc
  rcases he.2 with ⟨Qd, XC, hQ, hXC⟩ | hno
  · subst hQ
    have hU : vx_Zq Bundle.tN "UNASSIGNED_STACK" Bundle.steD (mm_A g) s s.heap := vx_Zq.kept (H := H) hS.2.2.2.2.2.1.1 (fun a h1 h2 => ?_)
    have hN : vx_Zq Bundle.tN "SUPPRESSED_SENTINEL" Bundle.listD (mm_A g) s s.heap := vx_Zq.kept (H := H) hS.2.2.2.2.2.1.2 (fun a h1 h2 => ?_)
    refine vx_throwS (text := text) (names := ["java/lang/RuntimeException", "java/lang/Exception"]) hx hb hst hown hcls (by decide) (hws _ hk) (hws _ hini) (hS.2.2.1 k _ hstr) (fun w hw => (hat w hw).elim (fun h => hws _ h) (fun h => va_Nw.use (mm_isN_on (List.mem_filter.mp h).2) (hS.2.1 _ h))) (fun w hw => ?_) hU hN hF (by rw [hml9]; exact hl.1) d0 d3 d4 d6 d9 (by rw [htb, hnh]; intro x hx9; cases hx9) (by simp only [List.length_cons, List.length_nil]; omega) (by rw [mm_sum]; simp only [List.length_cons, List.length_nil]; omega) (by rw [hcel]; exact hu1) (by rw [hsl]; exact hu2) hlk2 (fun t hA h1 h2 => ?_) hF.2.2 hu1 hu2
    · have hm : w ∈ mm_ws ∨ w ∈ mm_nest := by
        rcases List.mem_cons.mp hw with rfl | hw
        · exact Or.inl hk
        · rcases List.mem_cons.mp hw with rfl | hw
          · exact Or.inl hini
          · exact hat w hw
      rcases hm with hm | hm
      · have := (List.mem_filter.mp hm).2
        simp only [vx_ot, this, Bool.or_true]
      · have := mm_isN_on (List.mem_filter.mp hm).2
        simp only [vx_ot, this, Bool.true_or]
    · refine hXC E _ t hq ⟨hR.1.kept (fun k9 q9 h9 => h2 _ (hR.1 k9 q9 h9).lt), Nat.le_trans hR.2 h1⟩ ⟨Nat.le_trans hF.1 h1, fun q9 h3 h4 => (h2 q9 (Nat.lt_of_lt_of_le h3 hF.1)).trans (hF.2.1 q9 h3 h4)⟩
    all_goals exact (hF.2.1 a (Nat.lt_of_lt_of_le (Nat.not_le.mp h2) hbs) h2).symm
  · exact absurd hq (hno E _)
end MMX
end
section
/-! ===== a throw that is caught by the method's own table, its rows' classes cold or warm (our own: the round's library has no such law) ===== -/
/-- the table's search for a thrown class th at pc ends at the handler hp -/
def mm_sr (pl : Platform) (s0 : State) (dcl : ClassId) (pc : Nat) (th : ClassId) (hp : Nat) : List ExceptionTableEntry → Prop
  | [] => False
  | x :: r => (covers x pc = false ∧ mm_sr pl s0 dcl pc th hp r) ∨ (covers x pc = true ∧ x.catchType ≠ 0 ∧ ∃ c : ClassId, s0.vm.ClassLinks pl dcl x.catchType c ∧ ((s0.vm.assignable th c = false ∧ mm_sr pl s0 dcl pc th hp r) ∨ (s0.vm.assignable th c = true ∧ x.handlerPc = hp)))
theorem mm_go1 {e : Env} {U : State} {f : JFrame} {a : Addr} {cell : Cell} {x : ExceptionTableEntry} {t : List ExceptionTableEntry} {c : ClassId} {Q : Handler → Pre} {E : CtlPost} {d : Bool} {acts : List Action} (hx : covers x f.pc = true) (h0 : x.catchType ≠ 0) (hl : U.vm.ClassLinks e.platform f.method.cls x.catchType c)
    (hcell : U.heap[a]? = some cell) (hobj : ∀ k, cell.vm ≠ .statics k) (hk : ∃ k, U.vm.classes[cell.cls]? = some k) (hc : ∃ k, U.vm.classes[c]? = some k) :
    wp (findHandler.go f a (x :: t)) Q E e d acts U ↔ if U.vm.assignable cell.cls c = true then Q (.found x.handlerPc) d acts (U.setVm (U.vm.noted f.method.cls x.catchType (.cls c))) else wp (findHandler.go f a t) Q E e d acts (U.setVm (U.vm.noted f.method.cls x.catchType (.cls c))) := by
  have hx' : (decide (x.startPc ≤ f.pc) && decide (f.pc < x.endPc)) = true := hx
  obtain ⟨r1, r2⟩ := (resolveClass_links e.toSetting hl).op (op := VmOp.resolveClass f.method.cls x.catchType) rfl
  have hal : U.vm.Alike (U.vm.noted f.method.cls x.catchType (.cls c)) := (Vm.Alike.refl U.vm).noted _ _ _
  obtain ⟨k1, hk1⟩ := hk
  obtain ⟨k2, hk2⟩ := hc
  obtain ⟨k1', hk1', -⟩ := hal.2.2 _ _ hk1
  obtain ⟨k2', hk2', -⟩ := hal.2.2 _ _ hk2
  have has : (U.vm.noted f.method.cls x.catchType (.cls c)).assignable cell.cls c = U.vm.assignable cell.cls c := hal.assignable _ _
  cases hfit : U.vm.assignable cell.cls c <;> rw [hfit] at has <;> simp [findHandler.go, hx', h0, r1, r2, hcell, hobj, hk1', hk2', has, VmOp.dirties, VmOp.acts]
theorem mm_go {e : Env} {s0 : State} {f : JFrame} {a : Addr} {cell : Cell} {hp : Nat} (hobj : ∀ k, cell.vm ≠ .statics k) (hk0 : ∃ k, s0.vm.classes[cell.cls]? = some k) : ∀ (rows : List ExceptionTableEntry) (U : State), s0.WarmedH U.vm → U.heap[a]? = some cell → mm_sr e.platform s0 f.method.cls f.pc cell.cls hp rows →
    ∃ vm', s0.WarmedH vm' ∧ ∀ (Q : Handler → Pre) (E : CtlPost) (d : Bool) (acts : List Action), wp (findHandler.go f a rows) Q E e d acts U ↔ Q (.found hp) d acts (U.setVm vm') := by
  intro rows
  induction rows with
  | nil => intro U _ _ h; exact absurd h id
  | cons x r ih =>
    intro U hW hcell h
    rcases h with ⟨h1, h2⟩ | ⟨h1, h2, c, h3, h4⟩
    · obtain ⟨vm', i1, i2⟩ := ih U hW hcell h2
      exact ⟨vm', i1, fun Q E d acts => (Jvm.W.findHandler_go_skip h1).trans (i2 Q E d acts)⟩
    · obtain ⟨k0, hk0'⟩ := hk0
      obtain ⟨kU, hkU, -⟩ := hW.alike.2.2 _ _ hk0'
      obtain ⟨dk, _, _, kt, hd9, _, _, _, _, hkt, _, hopen⟩ := h3.here
      obtain ⟨ktU, hktU, -⟩ := hW.alike.2.2 _ _ hkt
      have hW1 : s0.WarmedH (U.vm.noted f.method.cls x.catchType (.cls c)) := hW.noted hd9 hopen (State.rightAt_cls h3)
      have has : U.vm.assignable cell.cls c = s0.vm.assignable cell.cls c := hW.alike.assignable _ _
      rcases h4 with ⟨h5, h6⟩ | ⟨h5, h6⟩
      · obtain ⟨vm', i1, i2⟩ := ih (U.setVm (U.vm.noted f.method.cls x.catchType (.cls c))) hW1 hcell h6
        refine ⟨vm', i1, fun Q E d acts => ?_⟩
        rw [mm_go1 h1 h2 (hW.classLinks h3) hcell hobj ⟨kU, hkU⟩ ⟨ktU, hktU⟩, has, h5, if_neg (by decide)]
        exact i2 Q E d acts
      · refine ⟨_, hW1, fun Q E d acts => ?_⟩
        rw [mm_go1 h1 h2 (hW.classLinks h3) hcell hobj ⟨kU, hkU⟩ ⟨ktU, hktU⟩, has, h5, if_pos rfl, h6]
theorem mm_stepTo {e : Env} {s : State} {a : Addr} {f : JFrame} {r : List Frame} {pc : Nat} {vm' : Vm} (hfind : ∀ (Q : Handler → Pre) (E : CtlPost) (d : Bool) (acts : List Action), wp (findHandler f a) Q E e d acts s ↔ Q (.found pc) d acts (s.setVm vm')) :
    (stepThrowing e s a (.java f :: r)).Is ((s.setVm vm').setFrames (.java { f with pc := pc, stack := [.ref a] } :: r)) [] := by
  simp only [stepThrowing, searchFrame, vmDo]
  generalize hr : Sem.go _ e false [] s = res
  obtain ⟨as, rfl, ha⟩ := Sem.eq_ok_of hr (a := Handler.found pc) (s' := s.setVm vm') (acts' := []) (by simp [hfind _ _ _ _])
  exact ⟨rfl, ha⟩
theorem mm_caught {p : Program} {l : Launch} {e : Env} {R : Room} {s : State} {m : MethodId} {args : Array Value} {below : List Frame} {meth : Method} {c : Code} {T : State} {locs : List Loc} {cells slots : Nat} (X : Stand p l e R s m args below meth c T locs cells slots) (q : Addr) {g : JFrame} (hg : g.method = m) {cell : Cell} (hcell : T.heap[q]? = some cell) (hobj : cell.vm.isStatics = false)
    (hk0 : ∃ k, s.vm.classes[cell.cls]? = some k) {hp : Nat} (hsr : mm_sr e.platform s m.cls g.pc cell.cls hp c.exceptionTable.toList) :
    ∃ vm', Stand p l e R s m args below meth c (T.setVm vm') locs cells slots ∧ ∀ target, Steps p.tables e below ((T.setVm vm').setTop { g with pc := hp, stack := [.ref q] }) target → Steps p.tables e below ((T.setTop g).pushFrame (.throwing q)) target := by
  subst hg
  obtain ⟨vm', hW', hq⟩ := mm_go (e := e) (f := g) (a := q) (VmData.ne_statics_of hobj) hk0 c.exceptionTable.toList ((T.setTop g).pushFrame (.throwing q)) X.warmed hcell hsr
  refine ⟨vm', X.noted hW', fun target hrest => ?_⟩
  obtain ⟨hgo, hw⟩ := X.here.throwing q
  refine Steps.head hgo hw ?_
  have hfind : ∀ (Q : Handler → Pre) (E : CtlPost) (d : Bool) (acts : List Action), wp (findHandler g q) Q E e d acts ((T.setTop g).pushFrame (.throwing q)) ↔ Q (.found hp) d acts (((T.setTop g).pushFrame (.throwing q)).setVm vm') := fun Q E d acts => (Jvm.W.findHandler_eq (s := (T.setTop g).pushFrame (.throwing q)) (meth := meth) (code := c) X.method' X.code).trans (hq Q E d acts)
  rw [stepThread_throwing (frames_entered X.here.top _), (mm_stepTo hfind).1]
  obtain ⟨g₀, hg0⟩ := Option.isSome_iff_exists.mp X.here.top
  obtain ⟨r, hr⟩ := State.topJava?_eq_some.mp hg0
  have hr' : (T.setVm vm').frames = .java g₀ :: r := hr
  rw [State.setTop_of_frames _ hr'] at hrest
  have hsw : ∀ (F G : List Frame) (u : State), ((u.setFrames F).setVm vm').setFrames G = (u.setVm vm').setFrames G := fun F G u => by
    rw [show (u.setFrames F).setVm vm' = (u.setVm vm').setFrames F from rfl, State.setFrames_setFrames]
  rw [hr, List.tail_cons, State.pushFrame, hsw, State.setTop_of_frames _ hr, hsw]
  exact hrest
end
section
/-! ===== contracts out of a body ===== -/
/-- the locals with which a method begins -/
def mm_ent (as : List Value) (nL : Nat) : List (Option Value) := (List.range nL).map (fun i => ((lv_args 0 as).find? (fun q => q.1 == i)).map (fun q => q.2))
theorem mm_args_cv (g : mm_G) : ∀ (as : List Value) (i : Nat), lv_args i (as.map (mm_cv g)) = (lv_args i as).map (fun q => (q.1, mm_cv g q.2))
  | [], _ => rfl
  | v :: vs, i => by
    simp only [List.map_cons, lv_args, mm_cv_cat]
    rw [mm_args_cv g vs]
theorem mm_sl_len (g : mm_G) : ∀ as : List Value, (lg_sl (as.map (mm_cv g))).length = (lg_sl as).length
  | [] => rfl
  | v :: vs => by
    have ih := mm_sl_len g vs
    unfold lg_sl at ih ⊢
    simp only [List.map_cons, List.flatMap_cons, List.length_append, mm_cv_cat, ih]
    congr 1
    split <;> rfl
theorem mm_ls_ent (g : mm_G) (as : List Value) (nL : Nat) (h : (lg_sl as).length ≤ nL) : mm_ls g ((lg_sl (as.map (mm_cv g)) ++ List.replicate (nL - (lg_sl (as.map (mm_cv g))).length) Slot.unset).toArray) nL (mm_ent as nL) := by
  refine mm_lv_sub (lv_entry (as.map (mm_cv g)) (n := nL) (by rw [mm_sl_len]; exact h)) (fun q hq => ?_)
  obtain ⟨v, h1, h2⟩ := mm_al_inv hq
  obtain ⟨i, w⟩ := q
  dsimp only at h1 h2
  subst h2
  rw [mm_args_cv]
  unfold mm_ent at h1
  rw [List.getElem?_map] at h1
  cases hr : (List.range nL)[i]? with
  | none => rw [hr] at h1; cases h1
  | some j =>
    have hj : j = i := by
      have := List.getElem?_eq_some_iff.mp hr
      obtain ⟨hlt, he⟩ := this
      simpa using he.symm
    subst hj
    rw [hr] at h1
    simp only [Option.map_some, Option.some.injEq, Option.map_eq_some_iff] at h1
    obtain ⟨z, hz, hz2⟩ := h1
    have hm := List.mem_of_find?_eq_some hz
    have hp := List.find?_some hz
    simp only [beq_iff_eq] at hp
    refine List.mem_map.mpr ⟨z, hm, ?_⟩
    rw [hz2, hp]
section MMC
variable {g : mm_G} {l : Launch} {y : MethodName} {cc : ByteArray} {nL : Nat} {ret : Option FieldType} {d dc ds : Nat} {as : List Value} {S : mm_S}
theorem mm_ret {p : Program} {e : Env} {R : Room} {s : State} {m : MethodId} {args : Array Value} {below : List Frame} {meth : Method} {c : Code} {Q : mm_R → mm_S → Prop} (hx : p.tables.exec = Jvm.exec) (hb : c.code = cc) (hr : meth.sig.returnType = ret) (hlocks : meth.locks = false)
    {i : Instr} {v : Option Value} {S' : mm_S} {H : Heap} {locs : List Loc} {uc us pc : Nat} {la : Array Slot} (hok : mm_ok ret i v) (hd : decode cc pc = .ok (i, 1)) (hq : Q (.inl v) S') (hR : mm_Rp g S' H) (hF : va_S (mm_A g) s.heap H locs) (h1 : uc ≤ dc) (h2 : us ≤ ds) :
    W p l e R s m args below meth c H locs uc us (MQ below (mm_Qc g Q) args s dc ds (mm_A g)) (F0 m pc la (v.toList.map (mm_cv g))) := by
  have hqc : ∀ t : State, t.heap = H → mm_Qc g Q args s (.returned (v.map (mm_cv g))) t := fun t ht => ⟨v, S', rfl, hq, by rw [ht]; exact hR, ⟨by rw [ht]; exact hF.1, fun q h1 h2 => by rw [ht]; exact hF.2.1 q h1 h2⟩⟩
  refine W.widen h1 h2 ?_
  rcases hok with ⟨x, ty, rfl, rfl, h4, h5⟩ | ⟨x, rfl, rfl, h4⟩ | ⟨rfl, rfl, h4⟩ | ⟨a, C, rfl, rfl, h4⟩
  · exact W.zret hx hb (hr.trans h4) h5 (fun t ht _ => hqc t ht) hF.2.2 hd
  · exact W.lret hx hb (hr.trans h4) (fun t ht _ => hqc t ht) hF.2.2 hd
  · exact W.vret hx hb (hr.trans h4) (fun t ht _ => hqc t ht) hF.2.2 hd
  · refine W.aret (v := mm_cv g (va_rf a)) hx hb (hr.trans h4) (Or.inl ⟨C, rfl⟩) ?_ (fun t ht _ => hqc t ht) hF.2.2 hd
    cases a with
    | none => exact Or.inl rfl
    | some a => exact Or.inr ⟨_, rfl⟩
theorem mm_body {p : Program} {e : Env} {s : State} {m : MethodId} {args : Array Value} {below : List Frame} {meth : Method} {c : Code} {s₁ : State} {cw : Cond} {hh : List ExceptionTableEntry} {Q : mm_R → mm_S → Prop} {QQ : State → Prop} (hst : l.stackTraces = false) (B : BodyLoose p l y (headSpec (cw :: mm_ws) (mm_rm d dc ds)) cc nL ret e s m args below meth c s₁) (hml : c.maxLocals = nL) (htb : c.exceptionTable.toList = hh) (hv : mm_Pc g as S args s) (hlen : (lg_sl as).length ≤ nL)
    (he : mm_En g l p e (headSpec (cw :: mm_ws) (mm_rm d dc ds)).room s m args below meth c cc ret dc ds Q QQ) (hV : mm_V g l y.cls y.name cc nL ret hh d dc ds Q 0 (mm_ent as nL) [] S 0 0) :
    W p l e (headSpec (cw :: mm_ws) (mm_rm d dc ds)).room s m args below meth c s.heap [] 0 0 QQ (entryFrame m args nL) := by
  obtain ⟨rfl, hRp, hz, hSt⟩ := hv
  have hts := atoms_spec (ws := cw :: mm_ws) B.pre
  rw [lg_entry_eq]
  exact hV p e _ s m _ below meth c QQ ⟨B.exec, B.bytes, hml, B.returns, B.notSynchronized, findClass_of_methodNamed B.named, htb, fun w hw => hts w (List.mem_cons_of_mem _ hw), hst, Nat.le_refl _, Nat.le_refl _, rfl, rfl, (name_of_methodNamed B.named B.method).1, hRp.2⟩ he s.heap [] _ hRp hSt va_S.rf (fun h => by rw [Nat.add_zero]; exact hz h) (mm_ls_ent g as nL hlen)
theorem mm_noT {p : Program} {e : Env} {s : State} {m : MethodId} {args : Array Value} {below : List Frame} {meth : Method} {c : Code} {s₁ : State} {S0 : Spec} {ws : List Cond} (B : BodyLoose p l y S0 cc nL ret e s m args below meth c s₁) (hts : ∀ w ∈ ws, w.before args s = true) (hw : Cond.code y cc nL ret ∈ ws) : c.exceptionTable.toList = [] := by
  obtain ⟨meth9, c9, h1, h2, -, -, -, -, h7, -⟩ := Cond.code_spec B.named (hts _ hw)
  cases Option.some.inj (h1.symm.trans B.method)
  cases Option.some.inj (h2.symm.trans (Stand.of_body B).code)
  rw [Array.isEmpty_iff.mp h7]
/-- a method that doesn't throw -/
theorem mm_Cm_of {Q : Option Value → mm_S → Prop} (hst : l.stackTraces = false) (hy : plainName y.cls = true) (hlen : (lg_sl as).length ≤ nL) (hV : mm_V g l y.cls y.name cc nL ret [] d dc ds (mm_nt Q) 0 (mm_ent as nL) [] S 0 0) : mm_Cm g l y (.code y cc nL ret) d dc ds as S Q := by
  refine Met.ofW (cc := cc) (maxL := nL) (ret := ret) hy rfl ?_
  intro p e s m args below meth c s₁ B hml hv
  exact mm_body hst B hml (mm_noT B (atoms_spec (ws := Cond.code y cc nL ret :: mm_ws) B.pre) List.mem_cons_self) hv hlen ⟨fun i v S' H locs uc us pc la hok hd hq hR hF h1 h2 => mm_ret B.exec B.bytes B.returns B.notSynchronized hok hd hq hR hF h1 h2, Or.inr (fun E S' h => h)⟩ hV
/-- a method that may throw -/
theorem mm_Ct_of {Q : mm_R → mm_S → Prop} (hst : l.stackTraces = false) (hy : plainName y.cls = true) (hlen : (lg_sl as).length ≤ nL) (hV : mm_V g l y.cls y.name cc nL ret [] d dc ds Q 0 (mm_ent as nL) [] S 0 0) : mm_Ct g l y (.code y cc nL ret) d dc ds as S Q := by
  refine vx_ofW (cc := cc) (maxL := nL) (ret := ret) hy rfl ?_
  intro p e s m args below meth c s₁ B hml _ hv
  exact mm_body hst B hml (mm_noT B (atoms_spec (ws := Cond.code y cc nL ret :: mm_ws) B.pre) List.mem_cons_self) hv hlen ⟨fun i v S' H locs uc us pc la hok hd hq hR hF h1 h2 => vx_ret (mm_ret B.exec B.bytes B.returns B.notSynchronized hok hd hq hR hF h1 h2), Or.inl ⟨_, _, rfl, fun E S' t h1 h2 h3 => ⟨S', h1, h2, h3⟩⟩⟩ hV
/-- a method with a table of its own that doesn't throw -/
theorem mm_Cw_of {hh : List (Nat × Nat × Nat × Nat)} {Q : Option Value → mm_S → Prop} (hst : l.stackTraces = false) (hy : plainName y.cls = true) (hlen : (lg_sl as).length ≤ nL) (hV : mm_V g l y.cls y.name cc nL ret (tableOf hh) d dc ds (mm_nt Q) 0 (mm_ent as nL) [] S 0 0) : mm_Ct g l y (.codeWith y cc nL ret hh) d dc ds as S (mm_nt Q) := by
  refine vx_ofWH (cc := cc) (maxL := nL) (ret := ret) (hh := hh) hy rfl ?_
  intro p e s m args below meth c s₁ B hml hv
  exact mm_body hst B hml (vx_table (x := y) B (atoms_spec (ws := Cond.codeWith y cc nL ret hh :: mm_ws) B.pre _ List.mem_cons_self)) hv hlen ⟨fun i v S' H locs uc us pc la hok hd hq hR hF h1 h2 => vx_ret (mm_ret B.exec B.bytes B.returns B.notSynchronized hok hd hq hR hF h1 h2), Or.inr (fun E S' h => h)⟩ hV
end MMC
section MMH
variable {g : mm_G} {l : Launch} {own nm : String} {cc : ByteArray} {nL : Nat} {ret : Option FieldType} {hh : List ExceptionTableEntry} {d dc ds : Nat} {Q : mm_R → mm_S → Prop} {pc : Nat} {ls : List (Option Value)} {st : List Value} {S : mm_S} {uc us : Nat}
/-- the search through a table by words -/
def mm_sw (own : String) (E : String) (pc hp : Nat) : List ExceptionTableEntry → Prop
  | [] => False
  | x :: r => (covers x pc = false ∧ mm_sw own E pc hp r) ∨ (covers x pc = true ∧ x.catchType ≠ 0 ∧ ∃ n : String, Cond.classLink own x.catchType n ∈ mm_ws ∧ (((E, n) ∈ mm_ncs ∧ mm_sw own E pc hp r) ∨ (Cond.castable E n ∈ mm_nest ∧ x.handlerPc = hp)))
theorem mm_sr_of {pl : Platform} (hpl : pl.magicAccessors = ({} : Platform).magicAccessors) {s : State} {args : Array Value} {dcl th : ClassId} {E : String} {hp : Nat} (hown : s.vm.findClass own = some dcl) (hws : ∀ w ∈ mm_ws, w.before args s = true) (hnc : ∀ q ∈ mm_ncs, va_Nc q.1 q.2 s) (hne : ∀ w ∈ mm_nest, va_Nw w s) (hth : s.vm.findClass E = some th) : ∀ rows : List ExceptionTableEntry, mm_sw own E pc hp rows → mm_sr pl s dcl pc th hp rows
  | [], h => h
  | x :: r, h => by
    rcases h with ⟨h1, h2⟩ | ⟨h1, h2, n, h3, h4⟩
    · exact Or.inl ⟨h1, mm_sr_of hpl hown hws hnc hne hth r h2⟩
    · obtain ⟨c', hc', hcl⟩ := Cond.classLink_spec hown (hws _ h3) pl hpl
      refine Or.inr ⟨h1, h2, c', hcl, ?_⟩
      rcases h4 with ⟨h5, h6⟩ | ⟨h5, h6⟩
      · obtain ⟨a, b, i1, i2, i3⟩ := hnc _ h5
        cases Option.some.inj (i1.symm.trans hth)
        cases Option.some.inj (i2.symm.trans hc')
        exact Or.inl ⟨i3, mm_sr_of hpl hown hws hnc hne hth r h6⟩
      · obtain ⟨c3, c4, i1, i2, i3⟩ := Cond.castable_spec (args := #[]) (hne _ h5)
        cases Option.some.inj (i1.symm.trans hth)
        cases Option.some.inj (i2.symm.trans hc')
        exact Or.inr ⟨i3, h6⟩
/-- a place of the locals forgotten -/
def mm_er (ls : List (Option Value)) (i : Nat) : List (Option Value) := (mm_clr ls i).set i none
theorem mm_ls_er {la : Array Slot} {i : Nat} {w : Value} (h : lv_has la nL ((i, w) :: (mm_al g ls).filter (fun q => !(q.1 == i) && !(q.1 + 1 == i && q.2.category == 2)))) : mm_ls g la nL (mm_er ls i) := by
  refine mm_lv_sub h (fun q hq => ?_)
  obtain ⟨v, h1, h2⟩ := mm_al_inv hq
  obtain ⟨j, x⟩ := q
  dsimp only at h1 h2
  subst h2
  unfold mm_er at h1
  by_cases hj : j = i
  · exfalso
    subst hj
    rw [List.getElem?_set] at h1
    simp only [if_true] at h1
    split at h1 <;> cases h1
  · rw [List.getElem?_set_ne (Ne.symm hj)] at h1
    obtain ⟨h3, h4⟩ := mm_clr_at hj h1
    refine List.mem_cons_of_mem _ (List.mem_filter.mpr ⟨mm_al_mem h3, ?_⟩)
    simp only [mm_cv_cat, Bool.and_eq_true, Bool.not_eq_true', beq_eq_false_iff_ne, Bool.and_eq_false_iff]
    refine ⟨by simpa using hj, ?_⟩
    by_cases hc : v.category = 2
    · exact Or.inl (by simpa using fun q => h4 ⟨q, hc⟩)
    · exact Or.inr (by simpa using hc)
/-- a call of a method that may throw; what it throws is caught here, and stored away -/
theorem mm_callH {y : MethodName} {bytes : ByteArray} {maxL n index dc' ds' a ci : Nat} {rt : Option FieldType} {fs as stk : List Value} {Qc : mm_R → mm_S → Prop} (hw : mm_W y bytes maxL rt n) (hml : Cond.methodLink own index y ∈ mm_ws) (him : Cond.instanceMethod y ∈ mm_ws) (hse : Cond.selects y.cls y y ∈ mm_ws) (hd : decode cc pc = .ok (.invokevirtual index, 3))
    (hM : mm_Ct g l y (.code y bytes maxL rt) d dc' ds' (.ref a :: as) S Qc) (hm : S.1 a = .inr (ci, fs)) (ha : a < S.2.1) (hcl : (vwCl[ci]?).map (fun r => r.1) = some y.cls) (hn : as.length = n) (hstk : stk = as.reverse ++ .ref a :: st) (hsum : (st.map fun v => v.category).sum ≤ 8) (hu1 : uc + dc' ≤ dc) (hu2 : us + ds' ≤ ds)
    (kk : ∀ (v : Option Value) (S' : mm_S), Qc (.inl v) S' → (S'.2.2 = false → S.2.2 = false ∧ S'.2.1 = S.2.1 + dc') ∧ mm_V g l own nm cc nL ret hh (d + 1) dc ds Q (pc + 3) ls (v.toList ++ st) S' (uc + dc') (us + ds'))
    (kx : ∀ (E : String) (S' : mm_S), Qc (.inr E) S' → S'.2.2 = true ∧ ∃ hp i : Nat, mm_sw own E pc hp hh ∧ i < nL ∧ ((∃ k : Fin 4, (k : Nat) = i ∧ decode cc hp = .ok (.astore_n k, 1) ∧ mm_V g l own nm cc nL ret hh (d + 1) dc ds Q (hp + 1) (mm_er ls i) [] S' (uc + dc') (us + ds')) ∨ (decode cc hp = .ok (.astore i, 2) ∧ mm_V g l own nm cc nL ret hh (d + 1) dc ds Q (hp + 2) (mm_er ls i) [] S' (uc + dc') (us + ds')))) : mm_V g l own nm cc nL ret hh (d + 1) dc ds Q pc ls stk S uc us := by
  intro p e R s m args below meth c QQ hc he H locs la hR hS hF hZ hl T hT X
  subst hT
  subst hstk
  obtain ⟨hx, hb, hml9, hr, hlk2, hown, htb, hws, hst, hfr, hlo, hcel, hsl, hnm9, hbs⟩ := id hc
  rcases vx_runV (As := as.map (mm_cv g)) (rest := st.map (mm_cv g)) (b := mm_b g + a) (g := F0 m pc la ((as.reverse ++ .ref a :: st).map (mm_cv g))) (nL := nL) ⟨hx, hb, hml9, hown, hws⟩ hM
    ⟨mm_callB hc hw hml, hws _ him, hws _ hse⟩ ⟨mm_Pc_blind g _ S, mm_recv hR hS hm ha hcl, mm_preP (as := .ref a :: as) X hR hS hZ⟩ rfl (by rw [List.length_map]; exact hn) hl.1 (by show (as.reverse ++ .ref a :: st).map (mm_cv g) = _; rw [List.map_append, List.map_reverse]; rfl) (lv_room (by rw [mm_sum]; exact hsum)) hd (by rw [hcel, hsl]; exact ⟨hu1, hu2⟩) T rfl X
    with ⟨v, st₀, t, T', L, h0, X', hL, e1, e2, hq, st1⟩ | ⟨q, st₀, t, T', L, E, ce, h0, X', hL, e1, e2, ⟨S', hq, hRp, hFr⟩, hce, hcv, hcl9, st1⟩
  · exact mm_back hc he hS hF hl h0 X' hL e1 hq st1 hZ kk
  · obtain ⟨k1, k2, k3⟩ := vx_keep (A1 := mm_A g) (free := mm_A g) h0 e1 hF (fun _ _ h => h) (fun _ h => h) hL hFr
    obtain ⟨hfz, hp, i, hsw, hi, hV⟩ := kx E S' hq
    have hpl : e.platform.magicAccessors = ({} : Platform).magicAccessors := by rw [X'.admits.platform]
    obtain ⟨k9, hk9, -⟩ := Vm.findClass_spec hcl9
    obtain ⟨vm', X'', st2⟩ := mm_caught X' q (g := F0 m pc la (st.map (mm_cv g))) rfl (cell := ce) (by rw [e1]; exact hce) (by rw [hcv]; rfl) ⟨k9, hk9⟩ (hp := hp) (by rw [htb]; exact mm_sr_of hpl hown hws hS.2.2.2.2.1 hS.2.1 hcl9 _ hsw)
    have hz : mm_b g ≤ T'.heap.size := by rw [e1]; exact hRp.2
    have hRp' : mm_Rp g S' T'.heap := by rw [e1]; exact hRp
    have hSt' := mm_kept_of hbs hS hF k3 hz
    have hW : W p l e R s m args below meth c T'.heap (locs ++ L) (uc + dc') (us + ds') QQ (F0 m hp la [.ref q]) := by
      rcases hV with ⟨k, hk, hdk, hV⟩ | ⟨hdk, hV⟩
      · exact lv_astore_n hx hb hdk hk hl hi rfl (fun la' hl' => hV p e R s m args below meth c QQ hc he T'.heap (locs ++ L) la' hRp' hSt' k3 (fun h => by rw [hfz] at h; cases h) (mm_ls_er hl'))
      · exact lv_astore hx hb hdk hl hi rfl (fun la' hl' => hV p e R s m args below meth c QQ hc he T'.heap (locs ++ L) la' hRp' hSt' k3 (fun h => by rw [hfz] at h; cases h) (mm_ls_er hl'))
    obtain ⟨t2, a1, b1⟩ := hW (T'.setVm vm') rfl X''
    exact ⟨t2, st1.trans (st2 t2 a1), b1⟩
/-- a static call of a method with a table of its own that doesn't throw -/
theorem mm_callC {y : MethodName} {bytes : ByteArray} {maxL n index dc' ds' : Nat} {rt : Option FieldType} {h9 : List (Nat × Nat × Nat × Nat)} {as stk : List Value} {Qc : Option Value → mm_S → Prop} (hcw : Cond.codeWith y bytes maxL rt h9 ∈ mm_ws) (hini : Cond.initialized y.cls ∈ mm_ws) (hy : y.cls ≠ "java/lang/invoke/MethodHandle" ∧ y.cls ≠ "java/lang/invoke/VarHandle") (hpd : (parseMethodDescriptor y.desc).map (fun d => d.parameters.length) = some n) (hmx : maxL ≤ 41) (hml : Cond.methodLink own index y ∈ mm_ws) (hsta : Cond.static y ∈ mm_ws) (hd : decode cc pc = .ok (.invokestatic index, 3))
    (hM : mm_Ct g l y (.codeWith y bytes maxL rt h9) d dc' ds' as S (mm_nt Qc)) (hn : as.length = n) (hstk : stk = as.reverse ++ st) (hsum : (st.map fun v => v.category).sum ≤ 8) (hu1 : uc + dc' ≤ dc) (hu2 : us + ds' ≤ ds)
    (kk : ∀ (v : Option Value) (S' : mm_S), Qc v S' → (S'.2.2 = false → S.2.2 = false ∧ S'.2.1 = S.2.1 + dc') ∧ mm_V g l own nm cc nL ret hh (d + 1) dc ds Q (pc + 3) ls (v.toList ++ st) S' (uc + dc') (us + ds')) : mm_V g l own nm cc nL ret hh (d + 1) dc ds Q pc ls stk S uc us := by
  intro p e R s m args below meth c QQ hc he H locs la hR hS hF hZ hl T hT X
  subst hT
  subst hstk
  obtain ⟨hx, hb, hml9, hr, hlk2, hown, htb, hws, hst, hfr, hlo, hcel, hsl, hnm9, hbs⟩ := id hc
  have hcs : vx_CSW R s args own index y bytes maxL rt h9 (Cond.codeWith y bytes maxL rt h9 :: mm_ws) (mm_rm d dc' ds') dc' ds' n :=
    ⟨⟨rfl, rfl, (show d + 8 + 1 ≤ R.frames by omega), (show 8 + (maxL + 11) + (60 * d + 120) ≤ R.locals by omega), mm_pay hws hcw, List.mem_cons_self⟩, hws _ hcw, hws _ hini, hy, fun sig h => by rw [h] at hpd; exact (Option.some.inj hpd).symm, hws _ hml, hws _ hsta⟩
  rcases vx_runSX (As := as.map (mm_cv g)) (rest := st.map (mm_cv g)) (g := F0 m pc la ((as.reverse ++ st).map (mm_cv g))) (nL := nL) ⟨hx, hb, hml9, hown, hws⟩ hM
    hcs ⟨mm_Pc_blind g _ S, mm_preP (as := as) X hR hS hZ⟩ rfl (by rw [List.length_map]; exact hn) hl.1 (by show (as.reverse ++ st).map (mm_cv g) = _; rw [List.map_append, List.map_reverse]) (lv_room (by rw [mm_sum]; exact hsum)) hd (by rw [hcel, hsl]; exact ⟨hu1, hu2⟩) T rfl X
    with ⟨v, st₀, t, T', L, h0, X', hL, e1, e2, hq, st1⟩ | ⟨q, st₀, t, T', L, E, ce, h0, X', hL, e1, e2, ⟨S', hq, hRp, hFr⟩, hce, hcv, hcl9, st1⟩
  · exact mm_back (Qc := mm_nt Qc) hc he hS hF hl h0 X' hL e1 hq st1 hZ (fun v S' h => kk v S' h)
  · exact absurd hq id
end MMH
section MMS
variable {g : mm_G} {l : Launch} {own nm : String} {cc : ByteArray} {nL : Nat} {ret : Option FieldType} {hh : List ExceptionTableEntry} {d dc ds : Nat} {Q : mm_R → mm_S → Prop} {pc : Nat} {ls : List (Option Value)} {st : List Value} {S : mm_S} {uc us : Nat}
theorem mm_tsIn {dflt lo hi : Int} {offs : Array Int} {len : Nat} {x : Int32} {off : Int} (tgt : Nat) (hd : decode cc pc = .ok (.tableswitch dflt lo hi offs, len)) (h1 : ¬ x.toInt < lo) (h2 : ¬ hi < x.toInt) (ho : offs[(x.toInt - lo).toNat]? = some off) (ht : (pc : Int) + off = (tgt : Int)) (k : mm_V g l own nm cc nL ret hh d dc ds Q tgt ls st S uc us) : mm_V g l own nm cc nL ret hh d dc ds Q pc ls (.int x :: st) S uc us := by
  intro p e R s m args below meth c QQ hc he H locs la hR hS hF hZ hl
  exact lv_tableIn hc.1 hc.2.1 hd h1 h2 ho ht (k p e R s m args below meth c QQ hc he H locs la hR hS hF hZ hl)
theorem mm_tsOut {dflt lo hi : Int} {offs : Array Int} {len : Nat} {x : Int32} (tgt : Nat) (hd : decode cc pc = .ok (.tableswitch dflt lo hi offs, len)) (h1 : x.toInt < lo ∨ hi < x.toInt) (ht : (pc : Int) + dflt = (tgt : Int)) (k : mm_V g l own nm cc nL ret hh d dc ds Q tgt ls st S uc us) : mm_V g l own nm cc nL ret hh d dc ds Q pc ls (.int x :: st) S uc us := by
  intro p e R s m args below meth c QQ hc he H locs la hR hS hF hZ hl
  exact lv_tableOut hc.1 hc.2.1 hd h1 ht (k p e R s m args below meth c QQ hc he H locs la hR hS hF hZ hl)
theorem mm_inL (ws : List Cond) (ps : List Nat) (hp : ws = ps.filterMap (fun i => lw_tbl[i]?)) (hg : ws.all goodWord = true) : ∀ w ∈ ws, w ∈ mm_ws := by
  intro w hw
  have hg1 := List.all_eq_true.mp hg w hw
  rw [hp] at hw
  obtain ⟨i, -, hi⟩ := List.mem_filterMap.mp hw
  exact mm_in i hi hg1
theorem mm_inL2 (ws : List Cond) (ps : List Nat) (hp : ws = ps.filterMap (fun i => lw_tbl[i]?)) (hg : ws.all (fun w => goodWord w || mm_isN w) = true) : ∀ w ∈ ws, w ∈ mm_ws ∨ w ∈ mm_nest := by
  intro w hw
  have hg1 := List.all_eq_true.mp hg w hw
  rw [hp] at hw
  obtain ⟨i, -, hi⟩ := List.mem_filterMap.mp hw
  rcases Bool.or_eq_true_iff.mp hg1 with h | h
  · exact Or.inl (mm_in i hi h)
  · exact Or.inr (mm_inN i hi h)
theorem mm_fit_r (C : String) (r : Option Nat) : mm_fit (.object C) (va_rf r) := ⟨fun g => by cases r <;> rfl, fun g => by cases r <;> rfl⟩
theorem mm_fit_ref (C : String) (a : Nat) : mm_fit (.object C) (.ref a) := ⟨fun g => rfl, fun g => rfl⟩
theorem mm_fit_arr (t : FieldType) (a : Nat) : mm_fit (.array t) (.ref a) := ⟨fun g => rfl, fun g => rfl⟩
theorem mm_fit_null (C : String) : mm_fit (.object C) .null := ⟨fun g => rfl, fun g => rfl⟩
theorem mm_fit_int (x : Int32) : mm_fit .int (.int x) := ⟨fun g => rfl, fun g => rfl⟩
theorem mm_fit_long (x : Int64) : mm_fit .long (.long x) := ⟨fun g => rfl, fun g => rfl⟩
theorem mm_fit_z0 : mm_fit .boolean (.int 0) := ⟨fun g => rfl, fun g => rfl⟩
theorem mm_fit_z1 : mm_fit .boolean (.int 1) := ⟨fun g => rfl, fun g => rfl⟩
end MMS
end
section
theorem mm_tt_1 {w : Cond} (i : Nat) (h : tables_1_1[i]? = some w) : w ∈ lw_tbl := List.mem_append_right _ (show w ∈ tables_1 from (List.mem_append_left _ (List.mem_of_getElem? h)))
theorem mm_t_1 {w : Cond} (i : Nat) (h : tables_1_1[i]? = some w) (hg : goodWord w = true) : w ∈ mm_ws := List.mem_filter.mpr ⟨mm_tt_1 i h, hg⟩
theorem mm_tN_1 {w : Cond} (i : Nat) (h : tables_1_1[i]? = some w) (hg : mm_isN w = true) : w ∈ mm_nest := List.mem_filter.mpr ⟨mm_tt_1 i h, hg⟩
theorem mm_tt_2 {w : Cond} (i : Nat) (h : tables_1_2[i]? = some w) : w ∈ lw_tbl := List.mem_append_right _ (show w ∈ tables_1 from (List.mem_append_right _ (List.mem_append_left _ (List.mem_of_getElem? h))))
theorem mm_t_2 {w : Cond} (i : Nat) (h : tables_1_2[i]? = some w) (hg : goodWord w = true) : w ∈ mm_ws := List.mem_filter.mpr ⟨mm_tt_2 i h, hg⟩
theorem mm_tN_2 {w : Cond} (i : Nat) (h : tables_1_2[i]? = some w) (hg : mm_isN w = true) : w ∈ mm_nest := List.mem_filter.mpr ⟨mm_tt_2 i h, hg⟩
theorem mm_tt_3 {w : Cond} (i : Nat) (h : tables_1_3[i]? = some w) : w ∈ lw_tbl := List.mem_append_right _ (show w ∈ tables_1 from (List.mem_append_right _ (List.mem_append_right _ (List.mem_append_left _ (List.mem_of_getElem? h)))))
theorem mm_t_3 {w : Cond} (i : Nat) (h : tables_1_3[i]? = some w) (hg : goodWord w = true) : w ∈ mm_ws := List.mem_filter.mpr ⟨mm_tt_3 i h, hg⟩
theorem mm_tN_3 {w : Cond} (i : Nat) (h : tables_1_3[i]? = some w) (hg : mm_isN w = true) : w ∈ mm_nest := List.mem_filter.mpr ⟨mm_tt_3 i h, hg⟩
theorem mm_tt_4 {w : Cond} (i : Nat) (h : tables_1_4[i]? = some w) : w ∈ lw_tbl := List.mem_append_right _ (show w ∈ tables_1 from (List.mem_append_right _ (List.mem_append_right _ (List.mem_append_right _ (List.mem_append_left _ (List.mem_of_getElem? h))))))
theorem mm_t_4 {w : Cond} (i : Nat) (h : tables_1_4[i]? = some w) (hg : goodWord w = true) : w ∈ mm_ws := List.mem_filter.mpr ⟨mm_tt_4 i h, hg⟩
theorem mm_tN_4 {w : Cond} (i : Nat) (h : tables_1_4[i]? = some w) (hg : mm_isN w = true) : w ∈ mm_nest := List.mem_filter.mpr ⟨mm_tt_4 i h, hg⟩
theorem mm_tt_5 {w : Cond} (i : Nat) (h : tables_1_5[i]? = some w) : w ∈ lw_tbl := List.mem_append_right _ (show w ∈ tables_1 from (List.mem_append_right _ (List.mem_append_right _ (List.mem_append_right _ (List.mem_append_right _ (List.mem_append_left _ (List.mem_of_getElem? h)))))))
theorem mm_t_5 {w : Cond} (i : Nat) (h : tables_1_5[i]? = some w) (hg : goodWord w = true) : w ∈ mm_ws := List.mem_filter.mpr ⟨mm_tt_5 i h, hg⟩
theorem mm_tN_5 {w : Cond} (i : Nat) (h : tables_1_5[i]? = some w) (hg : mm_isN w = true) : w ∈ mm_nest := List.mem_filter.mpr ⟨mm_tt_5 i h, hg⟩
theorem mm_tt_6 {w : Cond} (i : Nat) (h : tables_1_6[i]? = some w) : w ∈ lw_tbl := List.mem_append_right _ (show w ∈ tables_1 from (List.mem_append_right _ (List.mem_append_right _ (List.mem_append_right _ (List.mem_append_right _ (List.mem_append_right _ (List.mem_append_left _ (List.mem_of_getElem? h))))))))
theorem mm_t_6 {w : Cond} (i : Nat) (h : tables_1_6[i]? = some w) (hg : goodWord w = true) : w ∈ mm_ws := List.mem_filter.mpr ⟨mm_tt_6 i h, hg⟩
theorem mm_tN_6 {w : Cond} (i : Nat) (h : tables_1_6[i]? = some w) (hg : mm_isN w = true) : w ∈ mm_nest := List.mem_filter.mpr ⟨mm_tt_6 i h, hg⟩
theorem mm_tt_7 {w : Cond} (i : Nat) (h : tables_1_7[i]? = some w) : w ∈ lw_tbl := List.mem_append_right _ (show w ∈ tables_1 from (List.mem_append_right _ (List.mem_append_right _ (List.mem_append_right _ (List.mem_append_right _ (List.mem_append_right _ (List.mem_append_right _ (List.mem_append_left _ (List.mem_of_getElem? h)))))))))
theorem mm_t_7 {w : Cond} (i : Nat) (h : tables_1_7[i]? = some w) (hg : goodWord w = true) : w ∈ mm_ws := List.mem_filter.mpr ⟨mm_tt_7 i h, hg⟩
theorem mm_tN_7 {w : Cond} (i : Nat) (h : tables_1_7[i]? = some w) (hg : mm_isN w = true) : w ∈ mm_nest := List.mem_filter.mpr ⟨mm_tt_7 i h, hg⟩
theorem mm_tt_8 {w : Cond} (i : Nat) (h : tables_1_8[i]? = some w) : w ∈ lw_tbl := List.mem_append_right _ (show w ∈ tables_1 from (List.mem_append_right _ (List.mem_append_right _ (List.mem_append_right _ (List.mem_append_right _ (List.mem_append_right _ (List.mem_append_right _ (List.mem_append_right _ (List.mem_append_left _ (List.mem_of_getElem? h))))))))))
theorem mm_t_8 {w : Cond} (i : Nat) (h : tables_1_8[i]? = some w) (hg : goodWord w = true) : w ∈ mm_ws := List.mem_filter.mpr ⟨mm_tt_8 i h, hg⟩
theorem mm_tN_8 {w : Cond} (i : Nat) (h : tables_1_8[i]? = some w) (hg : mm_isN w = true) : w ∈ mm_nest := List.mem_filter.mpr ⟨mm_tt_8 i h, hg⟩
theorem mm_tt_9 {w : Cond} (i : Nat) (h : tables_1_9[i]? = some w) : w ∈ lw_tbl := List.mem_append_right _ (show w ∈ tables_1 from (List.mem_append_right _ (List.mem_append_right _ (List.mem_append_right _ (List.mem_append_right _ (List.mem_append_right _ (List.mem_append_right _ (List.mem_append_right _ (List.mem_append_right _ (List.mem_append_left _ (List.mem_of_getElem? h)))))))))))
theorem mm_t_9 {w : Cond} (i : Nat) (h : tables_1_9[i]? = some w) (hg : goodWord w = true) : w ∈ mm_ws := List.mem_filter.mpr ⟨mm_tt_9 i h, hg⟩
theorem mm_tN_9 {w : Cond} (i : Nat) (h : tables_1_9[i]? = some w) (hg : mm_isN w = true) : w ∈ mm_nest := List.mem_filter.mpr ⟨mm_tt_9 i h, hg⟩
theorem mm_tt_10 {w : Cond} (i : Nat) (h : tables_1_10[i]? = some w) : w ∈ lw_tbl := List.mem_append_right _ (show w ∈ tables_1 from (List.mem_append_right _ (List.mem_append_right _ (List.mem_append_right _ (List.mem_append_right _ (List.mem_append_right _ (List.mem_append_right _ (List.mem_append_right _ (List.mem_append_right _ (List.mem_append_right _ (List.mem_of_getElem? h)))))))))))
theorem mm_t_10 {w : Cond} (i : Nat) (h : tables_1_10[i]? = some w) (hg : goodWord w = true) : w ∈ mm_ws := List.mem_filter.mpr ⟨mm_tt_10 i h, hg⟩
theorem mm_tN_10 {w : Cond} (i : Nat) (h : tables_1_10[i]? = some w) (hg : mm_isN w = true) : w ∈ mm_nest := List.mem_filter.mpr ⟨mm_tt_10 i h, hg⟩
theorem wi_X0 : Cond.initialized RX0 ∈ mm_ws := mm_t_1 2 rfl rfl
theorem wi_X1 : Cond.initialized RX1 ∈ mm_ws := mm_t_1 13 rfl rfl
theorem wi_X2 : Cond.initialized RX2 ∈ mm_ws := mm_t_1 4 rfl rfl
theorem wi_X3 : Cond.initialized RX3 ∈ mm_ws := mm_t_1 6 rfl rfl
theorem wi_X4 : Cond.initialized RX4 ∈ mm_ws := mm_t_1 10 rfl rfl
theorem wi_X5 : Cond.initialized RX5 ∈ mm_ws := mm_t_1 8 rfl rfl
theorem wi_X6 : Cond.initialized RX6 ∈ mm_ws := mm_t_1 5 rfl rfl
theorem wi_X7 : Cond.initialized RX7 ∈ mm_ws := mm_t_1 12 rfl rfl
theorem wi_X8 : Cond.initialized RX8 ∈ mm_ws := mm_t_1 9 rfl rfl
theorem wi_X9 : Cond.initialized RX9 ∈ mm_ws := mm_t_1 11 rfl rfl
theorem wi_X10 : Cond.initialized RX10 ∈ mm_ws := mm_t_1 7 rfl rfl
theorem wi_X11 : Cond.initialized RX11 ∈ mm_ws := mm_t_1 1 rfl rfl
theorem wi_X12 : Cond.initialized RX12 ∈ mm_ws := mm_t_1 14 rfl rfl
theorem wi_L : Cond.initialized RL ∈ mm_ws := mm_t_1 0 rfl rfl
set_option maxRecDepth 20000 in
theorem in_X0 : ∀ w ∈ u_ws RX0 TX0 3, w ∈ mm_ws := mm_inL _ [224, 226, 228] (by decide +kernel) (by decide +kernel)
theorem wn_X0 : Cond.instantiable RX0 3 ∈ mm_ws := mm_t_1 36 rfl rfl
set_option maxRecDepth 20000 in
theorem in_X1 : ∀ w ∈ u_ws RX1 TX1 5, w ∈ mm_ws := mm_inL _ [613, 615, 617, 619, 621] (by decide +kernel) (by decide +kernel)
theorem wn_X1 : Cond.instantiable RX1 5 ∈ mm_ws := mm_t_2 185 rfl rfl
set_option maxRecDepth 20000 in
theorem in_X2 : ∀ w ∈ u_ws RX2 TX2 5, w ∈ mm_ws := mm_inL _ [458, 460, 462, 464, 466] (by decide +kernel) (by decide +kernel)
theorem wn_X2 : Cond.instantiable RX2 5 ∈ mm_ws := mm_t_1 56 rfl rfl
set_option maxRecDepth 20000 in
theorem in_X3 : ∀ w ∈ u_ws RX3 TX3 17, w ∈ mm_ws := mm_inL _ [334, 336, 338, 340, 342, 344, 346, 348, 350, 352, 354, 356, 358, 360, 362, 364, 366] (by decide +kernel) (by decide +kernel)
theorem wn_X3 : Cond.instantiable RX3 17 ∈ mm_ws := mm_t_1 71 rfl rfl
set_option maxRecDepth 20000 in
theorem in_X4 : ∀ w ∈ u_ws RX4 TX4 7, w ∈ mm_ws := mm_inL _ [505, 507, 509, 511, 513, 515, 517] (by decide +kernel) (by decide +kernel)
theorem wn_X4 : Cond.instantiable RX4 7 ∈ mm_ws := mm_t_2 60 rfl rfl
set_option maxRecDepth 20000 in
theorem in_X5 : ∀ w ∈ u_ws RX5 TX5 8, w ∈ mm_ws := mm_inL _ [436, 438, 440, 442, 444, 446, 448, 450] (by decide +kernel) (by decide +kernel)
theorem wn_X5 : Cond.instantiable RX5 8 ∈ mm_ws := mm_t_2 6 rfl rfl
set_option maxRecDepth 20000 in
theorem in_X6 : ∀ w ∈ u_ws RX6 TX6 5, w ∈ mm_ws := mm_inL _ [374, 376, 378, 380, 382] (by decide +kernel) (by decide +kernel)
theorem wn_X6 : Cond.instantiable RX6 5 ∈ mm_ws := mm_t_1 62 rfl rfl
set_option maxRecDepth 20000 in
theorem in_X7 : ∀ w ∈ u_ws RX7 TX7 7, w ∈ mm_ws := mm_inL _ [586, 588, 590, 592, 594, 596, 598] (by decide +kernel) (by decide +kernel)
theorem wn_X7 : Cond.instantiable RX7 7 ∈ mm_ws := mm_t_2 157 rfl rfl
set_option maxRecDepth 20000 in
theorem in_X8 : ∀ w ∈ u_ws RX8 TX8 6, w ∈ mm_ws := mm_inL _ [535, 537, 539, 541, 543, 545] (by decide +kernel) (by decide +kernel)
theorem wn_X8 : Cond.instantiable RX8 6 ∈ mm_ws := mm_t_2 53 rfl rfl
set_option maxRecDepth 20000 in
theorem in_X9 : ∀ w ∈ u_ws RX9 TX9 6, w ∈ mm_ws := mm_inL _ [560, 562, 564, 566, 568, 570] (by decide +kernel) (by decide +kernel)
theorem wn_X9 : Cond.instantiable RX9 6 ∈ mm_ws := mm_t_2 132 rfl rfl
set_option maxRecDepth 20000 in
theorem in_X10 : ∀ w ∈ u_ws RX10 TX10 8, w ∈ mm_ws := mm_inL _ [404, 406, 408, 410, 412, 414, 416, 418] (by decide +kernel) (by decide +kernel)
theorem wn_X10 : Cond.instantiable RX10 8 ∈ mm_ws := mm_t_1 210 rfl rfl
set_option maxRecDepth 20000 in
theorem in_X11 : ∀ w ∈ u_ws RX11 TX11 9, w ∈ mm_ws := mm_inL _ [634, 636, 638, 640, 642, 644, 646, 648, 650] (by decide +kernel) (by decide +kernel)
theorem wn_X11 : Cond.instantiable RX11 9 ∈ mm_ws := mm_t_1 28 rfl rfl
set_option maxRecDepth 20000 in
theorem in_X12 : ∀ w ∈ u_ws RX12 TX12 115, w ∈ mm_ws := mm_inL _ [1670, 1672, 1674, 1676, 1678, 1680, 1682, 1684, 1686, 1688, 1690, 1692, 1694, 1696, 1698, 1700, 1702, 1704, 1706, 1708, 1710, 1712, 1714, 1716, 1718, 1720, 1722, 1724, 1726, 1728, 1730, 1732, 1734, 1736, 1738, 1740, 1742, 1744, 1746, 1748, 1750, 1752, 1754, 1756, 1758, 1760, 1762, 1764, 1766, 1768, 1770, 1772, 1774, 1776, 1778, 1780, 1782, 1784, 1786, 1788, 1790, 1792, 1794, 1796, 1798, 1800, 1802, 1804, 1806, 1808, 1810, 1812, 1814, 1816, 1818, 1820, 1822, 1824, 1826, 1828, 1830, 1832, 1834, 1836, 1838, 1840, 1842, 1844, 1846, 1848, 1850, 1852, 1854, 1856, 1858, 1860, 1862, 1864, 1866, 1868, 1870, 1872, 1874, 1876, 1878, 1880, 1882, 1884, 1886, 1888, 1890, 1892, 1894, 1896, 1898] (by decide +kernel) (by decide +kernel)
theorem wn_X12 : Cond.instantiable RX12 115 ∈ mm_ws := mm_t_6 173 rfl rfl
theorem wM_X11_init : mm_W yX11_init cX11_init 1 none 0 := ⟨mm_t_1 31 rfl rfl, wi_X11, ⟨by decide, by decide⟩, by decide +kernel, by decide⟩
theorem wI_X11_init : Cond.instanceMethod yX11_init ∈ mm_ws := mm_t_1 30 rfl rfl
theorem wM_X0_init : mm_W yX0_init cX0_init 2 none 1 := ⟨mm_t_1 39 rfl rfl, wi_X0, ⟨by decide, by decide⟩, by decide +kernel, by decide⟩
theorem wI_X0_init : Cond.instanceMethod yX0_init ∈ mm_ws := mm_t_1 38 rfl rfl
theorem wM_X2_init : mm_W yX2_init cX2_init 1 none 0 := ⟨mm_t_1 59 rfl rfl, wi_X2, ⟨by decide, by decide⟩, by decide +kernel, by decide⟩
theorem wI_X2_init : Cond.instanceMethod yX2_init ∈ mm_ws := mm_t_1 58 rfl rfl
theorem wM_X6_init : mm_W yX6_init cX6_init 2 none 0 := ⟨mm_t_1 65 rfl rfl, wi_X6, ⟨by decide, by decide⟩, by decide +kernel, by decide⟩
theorem wI_X6_init : Cond.instanceMethod yX6_init ∈ mm_ws := mm_t_1 64 rfl rfl
theorem wM_X3_init : mm_W yX3_init cX3_init 1 none 0 := ⟨mm_t_1 74 rfl rfl, wi_X3, ⟨by decide, by decide⟩, by decide +kernel, by decide⟩
theorem wI_X3_init : Cond.instanceMethod yX3_init ∈ mm_ws := mm_t_1 73 rfl rfl
theorem wM_X6_text : mm_W yX6_text cX6_text 1 (some (.object "ProtoDesk$Bytes")) 0 := ⟨mm_t_1 214 rfl rfl, wi_X6, ⟨by decide, by decide⟩, by decide +kernel, by decide⟩
theorem wI_X6_text : Cond.instanceMethod yX6_text ∈ mm_ws := mm_t_1 212 rfl rfl
theorem wS_X6_text : Cond.selects RX6 yX6_text yX6_text ∈ mm_ws := mm_t_1 213 rfl rfl
theorem wM_X10_init : mm_W yX10_init cX10_init 3 none 1 := ⟨mm_t_1 217 rfl rfl, wi_X10, ⟨by decide, by decide⟩, by decide +kernel, by decide⟩
theorem wI_X10_init : Cond.instanceMethod yX10_init ∈ mm_ws := mm_t_1 216 rfl rfl
theorem wM_X5_init : mm_W yX5_init cX5_init 3 none 2 := ⟨mm_t_2 9 rfl rfl, wi_X5, ⟨by decide, by decide⟩, by decide +kernel, by decide⟩
theorem wI_X5_init : Cond.instanceMethod yX5_init ∈ mm_ws := mm_t_2 8 rfl rfl
theorem wM_X8_init : mm_W yX8_init cX8_init 2 none 0 := ⟨mm_t_2 56 rfl rfl, wi_X8, ⟨by decide, by decide⟩, by decide +kernel, by decide⟩
theorem wI_X8_init : Cond.instanceMethod yX8_init ∈ mm_ws := mm_t_2 55 rfl rfl
theorem wM_X4_init : mm_W yX4_init cX4_init 1 none 0 := ⟨mm_t_2 63 rfl rfl, wi_X4, ⟨by decide, by decide⟩, by decide +kernel, by decide⟩
theorem wI_X4_init : Cond.instanceMethod yX4_init ∈ mm_ws := mm_t_2 62 rfl rfl
theorem wM_X9_init : mm_W yX9_init cX9_init 4 none 3 := ⟨mm_t_2 135 rfl rfl, wi_X9, ⟨by decide, by decide⟩, by decide +kernel, by decide⟩
theorem wI_X9_init : Cond.instanceMethod yX9_init ∈ mm_ws := mm_t_2 134 rfl rfl
theorem wM_X7_init : mm_W yX7_init cX7_init 4 none 3 := ⟨mm_t_2 160 rfl rfl, wi_X7, ⟨by decide, by decide⟩, by decide +kernel, by decide⟩
theorem wI_X7_init : Cond.instanceMethod yX7_init ∈ mm_ws := mm_t_2 159 rfl rfl
theorem wM_X1_init : mm_W yX1_init cX1_init 2 none 1 := ⟨mm_t_2 188 rfl rfl, wi_X1, ⟨by decide, by decide⟩, by decide +kernel, by decide⟩
theorem wI_X1_init : Cond.instanceMethod yX1_init ∈ mm_ws := mm_t_2 187 rfl rfl
theorem wM_X11_place : mm_W yX11_place cX11_place 1 (some .int) 0 := ⟨mm_t_2 239 rfl rfl, wi_X11, ⟨by decide, by decide⟩, by decide +kernel, by decide⟩
theorem wI_X11_place : Cond.instanceMethod yX11_place ∈ mm_ws := mm_t_2 237 rfl rfl
theorem wS_X11_place : Cond.selects RX11 yX11_place yX11_place ∈ mm_ws := mm_t_2 238 rfl rfl
def hL_feed : List (Nat × Nat × Nat × Nat) := [(0, 11, 14, 13), (0, 11, 18, 15)]
theorem wC_L_feed : Cond.codeWith yL_feed cL_feed 6 (some .int) hL_feed ∈ mm_ws := mm_t_3 2 rfl rfl
theorem wT_L_feed : Cond.static yL_feed ∈ mm_ws := mm_t_3 1 rfl rfl
theorem wM_X11_feed : mm_W yX11_feed cX11_feed 5 (some .int) 2 := ⟨mm_t_3 8 rfl rfl, wi_X11, ⟨by decide, by decide⟩, by decide +kernel, by decide⟩
theorem wI_X11_feed : Cond.instanceMethod yX11_feed ∈ mm_ws := mm_t_3 6 rfl rfl
theorem wS_X11_feed : Cond.selects RX11 yX11_feed yX11_feed ∈ mm_ws := mm_t_3 7 rfl rfl
theorem wM_X0_size : mm_W yX0_size cX0_size 1 (some .int) 0 := ⟨mm_t_3 80 rfl rfl, wi_X0, ⟨by decide, by decide⟩, by decide +kernel, by decide⟩
theorem wI_X0_size : Cond.instanceMethod yX0_size ∈ mm_ws := mm_t_3 78 rfl rfl
theorem wS_X0_size : Cond.selects RX0 yX0_size yX0_size ∈ mm_ws := mm_t_3 79 rfl rfl
theorem wM_X0_add : mm_W yX0_add cX0_add 2 none 1 := ⟨mm_t_3 100 rfl rfl, wi_X0, ⟨by decide, by decide⟩, by decide +kernel, by decide⟩
theorem wI_X0_add : Cond.instanceMethod yX0_add ∈ mm_ws := mm_t_3 98 rfl rfl
theorem wS_X0_add : Cond.selects RX0 yX0_add yX0_add ∈ mm_ws := mm_t_3 99 rfl rfl
def hL_compile : List (Nat × Nat × Nat × Nat) := [(0, 9, 12, 13)]
theorem wC_L_compile : Cond.codeWith yL_compile cL_compile 4 (some .int) hL_compile ∈ mm_ws := mm_t_3 103 rfl rfl
theorem wT_L_compile : Cond.static yL_compile ∈ mm_ws := mm_t_3 102 rfl rfl
theorem wM_X11_compile : mm_W yX11_compile cX11_compile 4 (some .int) 1 := ⟨mm_t_3 107 rfl rfl, wi_X11, ⟨by decide, by decide⟩, by decide +kernel, by decide⟩
theorem wI_X11_compile : Cond.instanceMethod yX11_compile ∈ mm_ws := mm_t_3 105 rfl rfl
theorem wS_X11_compile : Cond.selects RX11 yX11_compile yX11_compile ∈ mm_ws := mm_t_3 106 rfl rfl
theorem wM_X11_compilerOf : mm_W yX11_compilerOf cX11_compilerOf 2 (some (.object "ProtoDesk$Compiler")) 1 := ⟨mm_t_3 111 rfl rfl, wi_X11, ⟨by decide, by decide⟩, by decide +kernel, by decide⟩
theorem wI_X11_compilerOf : Cond.instanceMethod yX11_compilerOf ∈ mm_ws := mm_t_3 110 rfl rfl
theorem wS_X11_compilerOf : Cond.selects RX11 yX11_compilerOf yX11_compilerOf ∈ mm_ws := mm_in 1 rfl rfl
theorem wM_X8_drop : mm_W yX8_drop cX8_drop 1 none 0 := ⟨mm_t_3 116 rfl rfl, wi_X8, ⟨by decide, by decide⟩, by decide +kernel, by decide⟩
theorem wI_X8_drop : Cond.instanceMethod yX8_drop ∈ mm_ws := mm_t_3 114 rfl rfl
theorem wS_X8_drop : Cond.selects RX8 yX8_drop yX8_drop ∈ mm_ws := mm_t_3 115 rfl rfl
theorem wM_X0_clear : mm_W yX0_clear cX0_clear 1 none 0 := ⟨mm_t_3 120 rfl rfl, wi_X0, ⟨by decide, by decide⟩, by decide +kernel, by decide⟩
theorem wI_X0_clear : Cond.instanceMethod yX0_clear ∈ mm_ws := mm_t_3 118 rfl rfl
theorem wS_X0_clear : Cond.selects RX0 yX0_clear yX0_clear ∈ mm_ws := mm_t_3 119 rfl rfl
theorem wM_X4_begin : mm_W yX4_begin cX4_begin 2 none 1 := ⟨mm_t_3 124 rfl rfl, wi_X4, ⟨by decide, by decide⟩, by decide +kernel, by decide⟩
theorem wI_X4_begin : Cond.instanceMethod yX4_begin ∈ mm_ws := mm_t_3 122 rfl rfl
theorem wS_X4_begin : Cond.selects RX4 yX4_begin yX4_begin ∈ mm_ws := mm_t_3 123 rfl rfl
theorem wM_X2_run : mm_W yX2_run cX2_run 3 (some .int) 1 := ⟨mm_t_3 128 rfl rfl, wi_X2, ⟨by decide, by decide⟩, by decide +kernel, by decide⟩
theorem wI_X2_run : Cond.instanceMethod yX2_run ∈ mm_ws := mm_t_3 126 rfl rfl
theorem wS_X2_run : Cond.selects RX2 yX2_run yX2_run ∈ mm_ws := mm_t_3 127 rfl rfl
theorem wM_X6_clear : mm_W yX6_clear cX6_clear 2 none 0 := ⟨mm_t_3 132 rfl rfl, wi_X6, ⟨by decide, by decide⟩, by decide +kernel, by decide⟩
theorem wI_X6_clear : Cond.instanceMethod yX6_clear ∈ mm_ws := mm_t_3 130 rfl rfl
theorem wS_X6_clear : Cond.selects RX6 yX6_clear yX6_clear ∈ mm_ws := mm_t_3 131 rfl rfl
theorem wM_X0_addAll : mm_W yX0_addAll cX0_addAll 5 none 3 := ⟨mm_t_3 138 rfl rfl, wi_X0, ⟨by decide, by decide⟩, by decide +kernel, by decide⟩
theorem wI_X0_addAll : Cond.instanceMethod yX0_addAll ∈ mm_ws := mm_t_3 136 rfl rfl
theorem wS_X0_addAll : Cond.selects RX0 yX0_addAll yX0_addAll ∈ mm_ws := mm_t_3 137 rfl rfl
theorem wM_X0_at : mm_W yX0_at cX0_at 2 (some .int) 1 := ⟨mm_t_3 142 rfl rfl, wi_X0, ⟨by decide, by decide⟩, by decide +kernel, by decide⟩
theorem wI_X0_at : Cond.instanceMethod yX0_at ∈ mm_ws := mm_t_3 140 rfl rfl
theorem wS_X0_at : Cond.selects RX0 yX0_at yX0_at ∈ mm_ws := mm_t_3 141 rfl rfl
theorem wM_X10_split : mm_W yX10_split cX10_split 4 none 0 := ⟨mm_t_3 147 rfl rfl, wi_X10, ⟨by decide, by decide⟩, by decide +kernel, by decide⟩
theorem wI_X10_split : Cond.instanceMethod yX10_split ∈ mm_ws := mm_t_3 145 rfl rfl
theorem wS_X10_split : Cond.selects RX10 yX10_split yX10_split ∈ mm_ws := mm_t_3 146 rfl rfl
theorem wM_X10_behindBlanks : mm_W yX10_behindBlanks cX10_behindBlanks 5 (some .int) 1 := ⟨mm_t_3 152 rfl rfl, wi_X10, ⟨by decide, by decide⟩, by decide +kernel, by decide⟩
theorem wI_X10_behindBlanks : Cond.instanceMethod yX10_behindBlanks ∈ mm_ws := mm_t_3 151 rfl rfl
theorem wS_X10_behindBlanks : Cond.selects RX10 yX10_behindBlanks yX10_behindBlanks ∈ mm_ws := mm_in 2 rfl rfl
theorem wM_X10_lineEnd : mm_W yX10_lineEnd cX10_lineEnd 3 (some .int) 1 := ⟨mm_t_3 157 rfl rfl, wi_X10, ⟨by decide, by decide⟩, by decide +kernel, by decide⟩
theorem wI_X10_lineEnd : Cond.instanceMethod yX10_lineEnd ∈ mm_ws := mm_t_3 156 rfl rfl
theorem wS_X10_lineEnd : Cond.selects RX10 yX10_lineEnd yX10_lineEnd ∈ mm_ws := mm_in 3 rfl rfl
theorem wM_X10_commentEnd : mm_W yX10_commentEnd cX10_commentEnd 3 (some .int) 1 := ⟨mm_t_3 161 rfl rfl, wi_X10, ⟨by decide, by decide⟩, by decide +kernel, by decide⟩
theorem wI_X10_commentEnd : Cond.instanceMethod yX10_commentEnd ∈ mm_ws := mm_t_3 160 rfl rfl
theorem wS_X10_commentEnd : Cond.selects RX10 yX10_commentEnd yX10_commentEnd ∈ mm_ws := mm_in 4 rfl rfl
theorem wM_X11_isBlank : mm_W yX11_isBlank cX11_isBlank 1 (some .boolean) 1 := ⟨mm_t_3 164 rfl rfl, wi_X11, ⟨by decide, by decide⟩, by decide +kernel, by decide⟩
theorem wT_X11_isBlank : Cond.static yX11_isBlank ∈ mm_ws := mm_t_3 163 rfl rfl
theorem wM_X10_addWord : mm_W yX10_addWord cX10_addWord 4 (some .int) 1 := ⟨mm_t_3 168 rfl rfl, wi_X10, ⟨by decide, by decide⟩, by decide +kernel, by decide⟩
theorem wI_X10_addWord : Cond.instanceMethod yX10_addWord ∈ mm_ws := mm_t_3 167 rfl rfl
theorem wS_X10_addWord : Cond.selects RX10 yX10_addWord yX10_addWord ∈ mm_ws := mm_in 5 rfl rfl
theorem wM_X10_push : mm_W yX10_push cX10_push 6 (some .int) 4 := ⟨mm_t_3 173 rfl rfl, wi_X10, ⟨by decide, by decide⟩, by decide +kernel, by decide⟩
theorem wI_X10_push : Cond.instanceMethod yX10_push ∈ mm_ws := mm_t_3 172 rfl rfl
theorem wS_X10_push : Cond.selects RX10 yX10_push yX10_push ∈ mm_ws := mm_in 6 rfl rfl
theorem wM_X11_isLetter : mm_W yX11_isLetter cX11_isLetter 1 (some .boolean) 1 := ⟨mm_t_3 176 rfl rfl, wi_X11, ⟨by decide, by decide⟩, by decide +kernel, by decide⟩
theorem wT_X11_isLetter : Cond.static yX11_isLetter ∈ mm_ws := mm_t_3 175 rfl rfl
theorem wM_X10_nameEnd : mm_W yX10_nameEnd cX10_nameEnd 3 (some .int) 1 := ⟨mm_t_3 180 rfl rfl, wi_X10, ⟨by decide, by decide⟩, by decide +kernel, by decide⟩
theorem wI_X10_nameEnd : Cond.instanceMethod yX10_nameEnd ∈ mm_ws := mm_t_3 179 rfl rfl
theorem wS_X10_nameEnd : Cond.selects RX10 yX10_nameEnd yX10_nameEnd ∈ mm_ws := mm_in 7 rfl rfl
theorem wM_X11_isWordByte : mm_W yX11_isWordByte cX11_isWordByte 1 (some .boolean) 1 := ⟨mm_t_3 183 rfl rfl, wi_X11, ⟨by decide, by decide⟩, by decide +kernel, by decide⟩
theorem wT_X11_isWordByte : Cond.static yX11_isWordByte ∈ mm_ws := mm_t_3 182 rfl rfl
theorem wM_X10_codeBetween : mm_W yX10_codeBetween cX10_codeBetween 5 (some .int) 2 := ⟨mm_t_3 187 rfl rfl, wi_X10, ⟨by decide, by decide⟩, by decide +kernel, by decide⟩
theorem wI_X10_codeBetween : Cond.instanceMethod yX10_codeBetween ∈ mm_ws := mm_t_3 186 rfl rfl
theorem wS_X10_codeBetween : Cond.selects RX10 yX10_codeBetween yX10_codeBetween ∈ mm_ws := mm_in 8 rfl rfl
theorem wM_X0_wordIn : mm_W yX0_wordIn cX0_wordIn 9 (some .int) 3 := ⟨mm_t_3 192 rfl rfl, wi_X0, ⟨by decide, by decide⟩, by decide +kernel, by decide⟩
theorem wI_X0_wordIn : Cond.instanceMethod yX0_wordIn ∈ mm_ws := mm_t_3 190 rfl rfl
theorem wS_X0_wordIn : Cond.selects RX0 yX0_wordIn yX0_wordIn ∈ mm_ws := mm_t_3 191 rfl rfl
theorem wM_X10_addNumber : mm_W yX10_addNumber cX10_addNumber 10 (some .int) 1 := ⟨mm_t_4 6 rfl rfl, wi_X10, ⟨by decide, by decide⟩, by decide +kernel, by decide⟩
theorem wI_X10_addNumber : Cond.instanceMethod yX10_addNumber ∈ mm_ws := mm_t_4 5 rfl rfl
theorem wS_X10_addNumber : Cond.selects RX10 yX10_addNumber yX10_addNumber ∈ mm_ws := mm_in 9 rfl rfl
theorem wM_X10_digit : mm_W yX10_digit cX10_digit 4 (some .int) 2 := ⟨mm_t_4 10 rfl rfl, wi_X10, ⟨by decide, by decide⟩, by decide +kernel, by decide⟩
theorem wI_X10_digit : Cond.instanceMethod yX10_digit ∈ mm_ws := mm_t_4 9 rfl rfl
theorem wS_X10_digit : Cond.selects RX10 yX10_digit yX10_digit ∈ mm_ws := mm_in 10 rfl rfl
theorem wM_X10_addText : mm_W yX10_addText cX10_addText 4 (some .int) 1 := ⟨mm_t_4 18 rfl rfl, wi_X10, ⟨by decide, by decide⟩, by decide +kernel, by decide⟩
theorem wI_X10_addText : Cond.instanceMethod yX10_addText ∈ mm_ws := mm_t_4 17 rfl rfl
theorem wS_X10_addText : Cond.selects RX10 yX10_addText yX10_addText ∈ mm_ws := mm_in 11 rfl rfl
theorem wM_X5_read : mm_W yX5_read cX5_read 3 (some .int) 0 := ⟨mm_t_4 22 rfl rfl, wi_X5, ⟨by decide, by decide⟩, by decide +kernel, by decide⟩
theorem wI_X5_read : Cond.instanceMethod yX5_read ∈ mm_ws := mm_t_4 20 rfl rfl
theorem wS_X5_read : Cond.selects RX5 yX5_read yX5_read ∈ mm_ws := mm_t_4 21 rfl rfl
theorem wM_X5_readSyntax : mm_W yX5_readSyntax cX5_readSyntax 1 (some .boolean) 0 := ⟨mm_t_4 26 rfl rfl, wi_X5, ⟨by decide, by decide⟩, by decide +kernel, by decide⟩
theorem wI_X5_readSyntax : Cond.instanceMethod yX5_readSyntax ∈ mm_ws := mm_t_4 25 rfl rfl
theorem wS_X5_readSyntax : Cond.selects RX5 yX5_readSyntax yX5_readSyntax ∈ mm_ws := mm_in 12 rfl rfl
theorem wM_X5_takesWord : mm_W yX5_takesWord cX5_takesWord 2 (some .boolean) 1 := ⟨mm_t_4 30 rfl rfl, wi_X5, ⟨by decide, by decide⟩, by decide +kernel, by decide⟩
theorem wI_X5_takesWord : Cond.instanceMethod yX5_takesWord ∈ mm_ws := mm_t_4 29 rfl rfl
theorem wS_X5_takesWord : Cond.selects RX5 yX5_takesWord yX5_takesWord ∈ mm_ws := mm_in 13 rfl rfl
theorem wM_X10_codeOf : mm_W yX10_codeOf cX10_codeOf 3 (some .int) 1 := ⟨mm_t_4 34 rfl rfl, wi_X10, ⟨by decide, by decide⟩, by decide +kernel, by decide⟩
theorem wI_X10_codeOf : Cond.instanceMethod yX10_codeOf ∈ mm_ws := mm_t_4 32 rfl rfl
theorem wS_X10_codeOf : Cond.selects RX10 yX10_codeOf yX10_codeOf ∈ mm_ws := mm_t_4 33 rfl rfl
theorem wM_X5_takes : mm_W yX5_takes cX5_takes 2 (some .boolean) 1 := ⟨mm_t_4 38 rfl rfl, wi_X5, ⟨by decide, by decide⟩, by decide +kernel, by decide⟩
theorem wI_X5_takes : Cond.instanceMethod yX5_takes ∈ mm_ws := mm_t_4 37 rfl rfl
theorem wS_X5_takes : Cond.selects RX5 yX5_takes yX5_takes ∈ mm_ws := mm_in 14 rfl rfl
theorem wM_X10_isSign : mm_W yX10_isSign cX10_isSign 3 (some .boolean) 2 := ⟨mm_t_4 42 rfl rfl, wi_X10, ⟨by decide, by decide⟩, by decide +kernel, by decide⟩
theorem wI_X10_isSign : Cond.instanceMethod yX10_isSign ∈ mm_ws := mm_t_4 40 rfl rfl
theorem wS_X10_isSign : Cond.selects RX10 yX10_isSign yX10_isSign ∈ mm_ws := mm_t_4 41 rfl rfl
theorem wM_X10_kindOf : mm_W yX10_kindOf cX10_kindOf 2 (some .int) 1 := ⟨mm_t_4 46 rfl rfl, wi_X10, ⟨by decide, by decide⟩, by decide +kernel, by decide⟩
theorem wI_X10_kindOf : Cond.instanceMethod yX10_kindOf ∈ mm_ws := mm_t_4 44 rfl rfl
theorem wS_X10_kindOf : Cond.selects RX10 yX10_kindOf yX10_kindOf ∈ mm_ws := mm_t_4 45 rfl rfl
theorem wM_X10_valueOf : mm_W yX10_valueOf cX10_valueOf 2 (some .long) 1 := ⟨mm_t_4 50 rfl rfl, wi_X10, ⟨by decide, by decide⟩, by decide +kernel, by decide⟩
theorem wI_X10_valueOf : Cond.instanceMethod yX10_valueOf ∈ mm_ws := mm_t_4 48 rfl rfl
theorem wS_X10_valueOf : Cond.selects RX10 yX10_valueOf yX10_valueOf ∈ mm_ws := mm_t_4 49 rfl rfl
theorem wM_X10_count : mm_W yX10_count cX10_count 1 (some .int) 0 := ⟨mm_t_4 55 rfl rfl, wi_X10, ⟨by decide, by decide⟩, by decide +kernel, by decide⟩
theorem wI_X10_count : Cond.instanceMethod yX10_count ∈ mm_ws := mm_t_4 53 rfl rfl
theorem wS_X10_count : Cond.selects RX10 yX10_count yX10_count ∈ mm_ws := mm_t_4 54 rfl rfl
theorem wM_X5_isAtEnd : mm_W yX5_isAtEnd cX5_isAtEnd 1 (some .boolean) 0 := ⟨mm_t_4 59 rfl rfl, wi_X5, ⟨by decide, by decide⟩, by decide +kernel, by decide⟩
theorem wI_X5_isAtEnd : Cond.instanceMethod yX5_isAtEnd ∈ mm_ws := mm_t_4 58 rfl rfl
theorem wS_X5_isAtEnd : Cond.selects RX5 yX5_isAtEnd yX5_isAtEnd ∈ mm_ws := mm_in 15 rfl rfl
theorem wM_X5_readValue : mm_W yX5_readValue cX5_readValue 2 (some .boolean) 0 := ⟨mm_t_4 63 rfl rfl, wi_X5, ⟨by decide, by decide⟩, by decide +kernel, by decide⟩
theorem wI_X5_readValue : Cond.instanceMethod yX5_readValue ∈ mm_ws := mm_t_4 62 rfl rfl
theorem wS_X5_readValue : Cond.selects RX5 yX5_readValue yX5_readValue ∈ mm_ws := mm_in 16 rfl rfl
theorem wM_X5_isForbidden : mm_W yX5_isForbidden cX5_isForbidden 1 (some .boolean) 0 := ⟨mm_t_4 67 rfl rfl, wi_X5, ⟨by decide, by decide⟩, by decide +kernel, by decide⟩
theorem wI_X5_isForbidden : Cond.instanceMethod yX5_isForbidden ∈ mm_ws := mm_t_4 66 rfl rfl
theorem wS_X5_isForbidden : Cond.selects RX5 yX5_isForbidden yX5_isForbidden ∈ mm_ws := mm_in 17 rfl rfl
theorem wM_X5_readName : mm_W yX5_readName cX5_readName 4 (some (.object "ProtoDesk$Item")) 1 := ⟨mm_t_4 71 rfl rfl, wi_X5, ⟨by decide, by decide⟩, by decide +kernel, by decide⟩
theorem wI_X5_readName : Cond.instanceMethod yX5_readName ∈ mm_ws := mm_t_4 70 rfl rfl
theorem wS_X5_readName : Cond.selects RX5 yX5_readName yX5_readName ∈ mm_ws := mm_in 18 rfl rfl
theorem wM_X10_startOf : mm_W yX10_startOf cX10_startOf 2 (some .int) 1 := ⟨mm_t_4 75 rfl rfl, wi_X10, ⟨by decide, by decide⟩, by decide +kernel, by decide⟩
theorem wI_X10_startOf : Cond.instanceMethod yX10_startOf ∈ mm_ws := mm_t_4 73 rfl rfl
theorem wS_X10_startOf : Cond.selects RX10 yX10_startOf yX10_startOf ∈ mm_ws := mm_t_4 74 rfl rfl
theorem wM_X10_endOf : mm_W yX10_endOf cX10_endOf 2 (some .int) 1 := ⟨mm_t_4 79 rfl rfl, wi_X10, ⟨by decide, by decide⟩, by decide +kernel, by decide⟩
theorem wI_X10_endOf : Cond.instanceMethod yX10_endOf ∈ mm_ws := mm_t_4 77 rfl rfl
theorem wS_X10_endOf : Cond.selects RX10 yX10_endOf yX10_endOf ∈ mm_ws := mm_t_4 78 rfl rfl
theorem wM_X6_declare : mm_W yX6_declare cX6_declare 7 (some (.object "ProtoDesk$Item")) 5 := ⟨mm_t_4 83 rfl rfl, wi_X6, ⟨by decide, by decide⟩, by decide +kernel, by decide⟩
theorem wI_X6_declare : Cond.instanceMethod yX6_declare ∈ mm_ws := mm_t_4 81 rfl rfl
theorem wS_X6_declare : Cond.selects RX6 yX6_declare yX6_declare ∈ mm_ws := mm_t_4 82 rfl rfl
theorem wM_X3_begin : mm_W yX3_begin cX3_begin 7 none 6 := ⟨mm_t_4 87 rfl rfl, wi_X3, ⟨by decide, by decide⟩, by decide +kernel, by decide⟩
theorem wI_X3_begin : Cond.instanceMethod yX3_begin ∈ mm_ws := mm_t_4 85 rfl rfl
theorem wS_X3_begin : Cond.selects RX3 yX3_begin yX3_begin ∈ mm_ws := mm_t_4 86 rfl rfl
theorem wM_X5_readNumber : mm_W yX5_readNumber cX5_readNumber 4 (some .boolean) 2 := ⟨mm_t_4 91 rfl rfl, wi_X5, ⟨by decide, by decide⟩, by decide +kernel, by decide⟩
theorem wI_X5_readNumber : Cond.instanceMethod yX5_readNumber ∈ mm_ws := mm_t_4 90 rfl rfl
theorem wS_X5_readNumber : Cond.selects RX5 yX5_readNumber yX5_readNumber ∈ mm_ws := mm_in 19 rfl rfl
theorem wM_X5_readChoice : mm_W yX5_readChoice cX5_readChoice 1 (some .boolean) 0 := ⟨mm_t_4 95 rfl rfl, wi_X5, ⟨by decide, by decide⟩, by decide +kernel, by decide⟩
theorem wI_X5_readChoice : Cond.instanceMethod yX5_readChoice ∈ mm_ws := mm_t_4 94 rfl rfl
theorem wS_X5_readChoice : Cond.selects RX5 yX5_readChoice yX5_readChoice ∈ mm_ws := mm_in 20 rfl rfl
theorem wM_X5_readField : mm_W yX5_readField cX5_readField 6 (some .boolean) 0 := ⟨mm_t_4 99 rfl rfl, wi_X5, ⟨by decide, by decide⟩, by decide +kernel, by decide⟩
theorem wI_X5_readField : Cond.instanceMethod yX5_readField ∈ mm_ws := mm_t_4 98 rfl rfl
theorem wS_X5_readField : Cond.selects RX5 yX5_readField yX5_readField ∈ mm_ws := mm_in 21 rfl rfl
theorem wM_X5_readTypeName : mm_W yX5_readTypeName cX5_readTypeName 3 (some .boolean) 0 := ⟨mm_t_4 103 rfl rfl, wi_X5, ⟨by decide, by decide⟩, by decide +kernel, by decide⟩
theorem wI_X5_readTypeName : Cond.instanceMethod yX5_readTypeName ∈ mm_ws := mm_t_4 102 rfl rfl
theorem wS_X5_readTypeName : Cond.selects RX5 yX5_readTypeName yX5_readTypeName ∈ mm_ws := mm_in 22 rfl rfl
theorem wM_X5_readPacked : mm_W yX5_readPacked cX5_readPacked 2 (some .boolean) 1 := ⟨mm_t_4 107 rfl rfl, wi_X5, ⟨by decide, by decide⟩, by decide +kernel, by decide⟩
theorem wI_X5_readPacked : Cond.instanceMethod yX5_readPacked ∈ mm_ws := mm_t_4 106 rfl rfl
theorem wS_X5_readPacked : Cond.selects RX5 yX5_readPacked yX5_readPacked ∈ mm_ws := mm_in 23 rfl rfl
theorem wM_X5_readMember : mm_W yX5_readMember cX5_readMember 1 (some .boolean) 0 := ⟨mm_t_4 111 rfl rfl, wi_X5, ⟨by decide, by decide⟩, by decide +kernel, by decide⟩
theorem wI_X5_readMember : Cond.instanceMethod yX5_readMember ∈ mm_ws := mm_t_4 110 rfl rfl
theorem wS_X5_readMember : Cond.selects RX5 yX5_readMember yX5_readMember ∈ mm_ws := mm_in 24 rfl rfl
theorem wM_X5_begin : mm_W yX5_begin cX5_begin 3 (some .boolean) 1 := ⟨mm_t_4 115 rfl rfl, wi_X5, ⟨by decide, by decide⟩, by decide +kernel, by decide⟩
theorem wI_X5_begin : Cond.instanceMethod yX5_begin ∈ mm_ws := mm_t_4 114 rfl rfl
theorem wS_X5_begin : Cond.selects RX5 yX5_begin yX5_begin ∈ mm_ws := mm_in 25 rfl rfl
theorem wM_X5_endPlace : mm_W yX5_endPlace cX5_endPlace 1 (some .int) 0 := ⟨mm_t_4 119 rfl rfl, wi_X5, ⟨by decide, by decide⟩, by decide +kernel, by decide⟩
theorem wI_X5_endPlace : Cond.instanceMethod yX5_endPlace ∈ mm_ws := mm_t_4 117 rfl rfl
theorem wS_X5_endPlace : Cond.selects RX5 yX5_endPlace yX5_endPlace ∈ mm_ws := mm_t_4 118 rfl rfl
theorem wM_X6_used : mm_W yX6_used cX6_used 1 (some .int) 0 := ⟨mm_t_4 123 rfl rfl, wi_X6, ⟨by decide, by decide⟩, by decide +kernel, by decide⟩
theorem wI_X6_used : Cond.instanceMethod yX6_used ∈ mm_ws := mm_t_4 121 rfl rfl
theorem wS_X6_used : Cond.selects RX6 yX6_used yX6_used ∈ mm_ws := mm_t_4 122 rfl rfl
theorem wM_X6_item : mm_W yX6_item cX6_item 2 (some (.object "ProtoDesk$Item")) 1 := ⟨mm_t_4 127 rfl rfl, wi_X6, ⟨by decide, by decide⟩, by decide +kernel, by decide⟩
theorem wI_X6_item : Cond.instanceMethod yX6_item ∈ mm_ws := mm_t_4 125 rfl rfl
theorem wS_X6_item : Cond.selects RX6 yX6_item yX6_item ∈ mm_ws := mm_t_4 126 rfl rfl
theorem wM_X2_judge : mm_W yX2_judge cX2_judge 4 none 2 := ⟨mm_t_4 131 rfl rfl, wi_X2, ⟨by decide, by decide⟩, by decide +kernel, by decide⟩
theorem wI_X2_judge : Cond.instanceMethod yX2_judge ∈ mm_ws := mm_t_4 130 rfl rfl
theorem wS_X2_judge : Cond.selects RX2 yX2_judge yX2_judge ∈ mm_ws := mm_in 26 rfl rfl
theorem wM_X2_findsType : mm_W yX2_findsType cX2_findsType 5 (some .boolean) 1 := ⟨mm_t_4 135 rfl rfl, wi_X2, ⟨by decide, by decide⟩, by decide +kernel, by decide⟩
theorem wI_X2_findsType : Cond.instanceMethod yX2_findsType ∈ mm_ws := mm_t_4 134 rfl rfl
theorem wS_X2_findsType : Cond.selects RX2 yX2_findsType yX2_findsType ∈ mm_ws := mm_in 27 rfl rfl
theorem wM_X6_typeIn : mm_W yX6_typeIn cX6_typeIn 6 (some (.object "ProtoDesk$Item")) 3 := ⟨mm_t_4 142 rfl rfl, wi_X6, ⟨by decide, by decide⟩, by decide +kernel, by decide⟩
theorem wI_X6_typeIn : Cond.instanceMethod yX6_typeIn ∈ mm_ws := mm_t_4 140 rfl rfl
theorem wS_X6_typeIn : Cond.selects RX6 yX6_typeIn yX6_typeIn ∈ mm_ws := mm_t_4 141 rfl rfl
theorem wM_X3_isType : mm_W yX3_isType cX3_isType 1 (some .boolean) 0 := ⟨mm_t_4 147 rfl rfl, wi_X3, ⟨by decide, by decide⟩, by decide +kernel, by decide⟩
theorem wI_X3_isType : Cond.instanceMethod yX3_isType ∈ mm_ws := mm_t_4 145 rfl rfl
theorem wS_X3_isType : Cond.selects RX3 yX3_isType yX3_isType ∈ mm_ws := mm_t_4 146 rfl rfl
theorem wM_X6_isCalled : mm_W yX6_isCalled cX6_isCalled 5 (some .boolean) 4 := ⟨mm_t_4 151 rfl rfl, wi_X6, ⟨by decide, by decide⟩, by decide +kernel, by decide⟩
theorem wI_X6_isCalled : Cond.instanceMethod yX6_isCalled ∈ mm_ws := mm_t_4 149 rfl rfl
theorem wS_X6_isCalled : Cond.selects RX6 yX6_isCalled yX6_isCalled ∈ mm_ws := mm_t_4 150 rfl rfl
theorem wM_X0_isSame : mm_W yX0_isSame cX0_isSame 7 (some .boolean) 4 := ⟨mm_t_4 155 rfl rfl, wi_X0, ⟨by decide, by decide⟩, by decide +kernel, by decide⟩
theorem wI_X0_isSame : Cond.instanceMethod yX0_isSame ∈ mm_ws := mm_t_4 153 rfl rfl
theorem wS_X0_isSame : Cond.selects RX0 yX0_isSame yX0_isSame ∈ mm_ws := mm_t_4 154 rfl rfl
theorem wM_X2_typeAround : mm_W yX2_typeAround cX2_typeAround 7 (some (.object "ProtoDesk$Item")) 2 := ⟨mm_t_4 159 rfl rfl, wi_X2, ⟨by decide, by decide⟩, by decide +kernel, by decide⟩
theorem wI_X2_typeAround : Cond.instanceMethod yX2_typeAround ∈ mm_ws := mm_t_4 158 rfl rfl
theorem wS_X2_typeAround : Cond.selects RX2 yX2_typeAround yX2_typeAround ∈ mm_ws := mm_in 28 rfl rfl
theorem wM_X2_fail : mm_W yX2_fail cX2_fail 3 none 2 := ⟨mm_t_4 164 rfl rfl, wi_X2, ⟨by decide, by decide⟩, by decide +kernel, by decide⟩
theorem wI_X2_fail : Cond.instanceMethod yX2_fail ∈ mm_ws := mm_t_4 163 rfl rfl
theorem wS_X2_fail : Cond.selects RX2 yX2_fail yX2_fail ∈ mm_ws := mm_in 29 rfl rfl
theorem wM_X2_isTaken : mm_W yX2_isTaken cX2_isTaken 5 (some .boolean) 2 := ⟨mm_t_4 168 rfl rfl, wi_X2, ⟨by decide, by decide⟩, by decide +kernel, by decide⟩
theorem wI_X2_isTaken : Cond.instanceMethod yX2_isTaken ∈ mm_ws := mm_t_4 167 rfl rfl
theorem wS_X2_isTaken : Cond.selects RX2 yX2_isTaken yX2_isTaken ∈ mm_ws := mm_in 30 rfl rfl
theorem wM_X2_judgeField : mm_W yX2_judgeField cX2_judgeField 7 none 1 := ⟨mm_t_4 173 rfl rfl, wi_X2, ⟨by decide, by decide⟩, by decide +kernel, by decide⟩
theorem wI_X2_judgeField : Cond.instanceMethod yX2_judgeField ∈ mm_ws := mm_t_4 172 rfl rfl
theorem wS_X2_judgeField : Cond.selects RX2 yX2_judgeField yX2_judgeField ∈ mm_ws := mm_in 31 rfl rfl
theorem wM_X3_memberNumbered : mm_W yX3_memberNumbered cX3_memberNumbered 4 (some (.object "ProtoDesk$Item")) 1 := ⟨mm_t_4 180 rfl rfl, wi_X3, ⟨by decide, by decide⟩, by decide +kernel, by decide⟩
theorem wI_X3_memberNumbered : Cond.instanceMethod yX3_memberNumbered ∈ mm_ws := mm_t_4 178 rfl rfl
theorem wS_X3_memberNumbered : Cond.selects RX3 yX3_memberNumbered yX3_memberNumbered ∈ mm_ws := mm_t_4 179 rfl rfl
theorem wM_X3_insert : mm_W yX3_insert cX3_insert 4 none 1 := ⟨mm_t_4 184 rfl rfl, wi_X3, ⟨by decide, by decide⟩, by decide +kernel, by decide⟩
theorem wI_X3_insert : Cond.instanceMethod yX3_insert ∈ mm_ws := mm_t_4 182 rfl rfl
theorem wS_X3_insert : Cond.selects RX3 yX3_insert yX3_insert ∈ mm_ws := mm_t_4 183 rfl rfl
theorem wM_X11_isNumeric : mm_W yX11_isNumeric cX11_isNumeric 1 (some .boolean) 1 := ⟨mm_t_4 187 rfl rfl, wi_X11, ⟨by decide, by decide⟩, by decide +kernel, by decide⟩
theorem wT_X11_isNumeric : Cond.static yX11_isNumeric ∈ mm_ws := mm_t_4 186 rfl rfl
theorem wM_X2_judgeValue : mm_W yX2_judgeValue cX2_judgeValue 4 none 1 := ⟨mm_t_4 191 rfl rfl, wi_X2, ⟨by decide, by decide⟩, by decide +kernel, by decide⟩
theorem wI_X2_judgeValue : Cond.instanceMethod yX2_judgeValue ∈ mm_ws := mm_t_4 190 rfl rfl
theorem wS_X2_judgeValue : Cond.selects RX2 yX2_judgeValue yX2_judgeValue ∈ mm_ws := mm_in 32 rfl rfl
theorem wM_X3_append : mm_W yX3_append cX3_append 3 none 1 := ⟨mm_t_4 197 rfl rfl, wi_X3, ⟨by decide, by decide⟩, by decide +kernel, by decide⟩
theorem wI_X3_append : Cond.instanceMethod yX3_append ∈ mm_ws := mm_t_4 195 rfl rfl
theorem wS_X3_append : Cond.selects RX3 yX3_append yX3_append ∈ mm_ws := mm_t_4 196 rfl rfl
theorem wM_X2_isTooMuch : mm_W yX2_isTooMuch cX2_isTooMuch 1 (some .boolean) 0 := ⟨mm_t_4 201 rfl rfl, wi_X2, ⟨by decide, by decide⟩, by decide +kernel, by decide⟩
theorem wI_X2_isTooMuch : Cond.instanceMethod yX2_isTooMuch ∈ mm_ws := mm_t_4 200 rfl rfl
theorem wS_X2_isTooMuch : Cond.selects RX2 yX2_isTooMuch yX2_isTooMuch ∈ mm_ws := mm_in 33 rfl rfl
theorem wM_X6_count : mm_W yX6_count cX6_count 2 (some .int) 1 := ⟨mm_t_4 205 rfl rfl, wi_X6, ⟨by decide, by decide⟩, by decide +kernel, by decide⟩
theorem wI_X6_count : Cond.instanceMethod yX6_count ∈ mm_ws := mm_t_4 203 rfl rfl
theorem wS_X6_count : Cond.selects RX6 yX6_count yX6_count ∈ mm_ws := mm_t_4 204 rfl rfl
theorem wM_X6_nameBytes : mm_W yX6_nameBytes cX6_nameBytes 1 (some .int) 0 := ⟨mm_t_4 209 rfl rfl, wi_X6, ⟨by decide, by decide⟩, by decide +kernel, by decide⟩
theorem wI_X6_nameBytes : Cond.instanceMethod yX6_nameBytes ∈ mm_ws := mm_t_4 207 rfl rfl
theorem wS_X6_nameBytes : Cond.selects RX6 yX6_nameBytes yX6_nameBytes ∈ mm_ws := mm_t_4 208 rfl rfl
theorem wM_X2_faultAt : mm_W yX2_faultAt cX2_faultAt 1 (some .int) 0 := ⟨mm_t_4 214 rfl rfl, wi_X2, ⟨by decide, by decide⟩, by decide +kernel, by decide⟩
theorem wI_X2_faultAt : Cond.instanceMethod yX2_faultAt ∈ mm_ws := mm_t_4 212 rfl rfl
theorem wS_X2_faultAt : Cond.selects RX2 yX2_faultAt yX2_faultAt ∈ mm_ws := mm_t_4 213 rfl rfl
def hL_many : List (Nat × Nat × Nat × Nat) := [(0, 10, 13, 13)]
theorem wC_L_many : Cond.codeWith yL_many cL_many 5 (some .int) hL_many ∈ mm_ws := mm_t_4 217 rfl rfl
theorem wT_L_many : Cond.static yL_many ∈ mm_ws := mm_t_4 216 rfl rfl
theorem wM_X11_many : mm_W yX11_many cX11_many 5 (some .int) 2 := ⟨mm_t_4 221 rfl rfl, wi_X11, ⟨by decide, by decide⟩, by decide +kernel, by decide⟩
theorem wI_X11_many : Cond.instanceMethod yX11_many ∈ mm_ws := mm_t_4 219 rfl rfl
theorem wS_X11_many : Cond.selects RX11 yX11_many yX11_many ∈ mm_ws := mm_t_4 220 rfl rfl
theorem wM_X2_schema : mm_W yX2_schema cX2_schema 1 (some (.object "ProtoDesk$Schema")) 0 := ⟨mm_t_4 226 rfl rfl, wi_X2, ⟨by decide, by decide⟩, by decide +kernel, by decide⟩
theorem wI_X2_schema : Cond.instanceMethod yX2_schema ∈ mm_ws := mm_t_4 224 rfl rfl
theorem wS_X2_schema : Cond.selects RX2 yX2_schema yX2_schema ∈ mm_ws := mm_t_4 225 rfl rfl
def hL_field : List (Nat × Nat × Nat × Nat) := [(0, 14, 17, 13)]
theorem wC_L_field : Cond.codeWith yL_field cL_field 7 (some .int) hL_field ∈ mm_ws := mm_t_4 230 rfl rfl
theorem wT_L_field : Cond.static yL_field ∈ mm_ws := mm_t_4 229 rfl rfl
theorem wM_X11_field : mm_W yX11_field cX11_field 7 (some .int) 4 := ⟨mm_t_4 234 rfl rfl, wi_X11, ⟨by decide, by decide⟩, by decide +kernel, by decide⟩
theorem wI_X11_field : Cond.instanceMethod yX11_field ∈ mm_ws := mm_t_4 232 rfl rfl
theorem wS_X11_field : Cond.selects RX11 yX11_field yX11_field ∈ mm_ws := mm_t_4 233 rfl rfl
theorem wM_X11_messageOf : mm_W yX11_messageOf cX11_messageOf 4 (some (.object "ProtoDesk$Item")) 2 := ⟨mm_t_4 238 rfl rfl, wi_X11, ⟨by decide, by decide⟩, by decide +kernel, by decide⟩
theorem wI_X11_messageOf : Cond.instanceMethod yX11_messageOf ∈ mm_ws := mm_t_4 237 rfl rfl
theorem wS_X11_messageOf : Cond.selects RX11 yX11_messageOf yX11_messageOf ∈ mm_ws := mm_in 34 rfl rfl
theorem wM_X6_message : mm_W yX6_message cX6_message 4 (some (.object "ProtoDesk$Item")) 1 := ⟨mm_t_5 2 rfl rfl, wi_X6, ⟨by decide, by decide⟩, by decide +kernel, by decide⟩
theorem wI_X6_message : Cond.instanceMethod yX6_message ∈ mm_ws := mm_t_5 0 rfl rfl
theorem wS_X6_message : Cond.selects RX6 yX6_message yX6_message ∈ mm_ws := mm_t_5 1 rfl rfl
theorem wM_X3_memberAt : mm_W yX3_memberAt cX3_memberAt 4 (some (.object "ProtoDesk$Item")) 1 := ⟨mm_t_5 6 rfl rfl, wi_X3, ⟨by decide, by decide⟩, by decide +kernel, by decide⟩
theorem wI_X3_memberAt : Cond.instanceMethod yX3_memberAt ∈ mm_ws := mm_t_5 4 rfl rfl
theorem wS_X3_memberAt : Cond.selects RX3 yX3_memberAt yX3_memberAt ∈ mm_ws := mm_t_5 5 rfl rfl
def hL_find : List (Nat × Nat × Nat × Nat) := [(0, 9, 12, 13)]
theorem wC_L_find : Cond.codeWith yL_find cL_find 4 (some .int) hL_find ∈ mm_ws := mm_t_5 10 rfl rfl
theorem wT_L_find : Cond.static yL_find ∈ mm_ws := mm_t_5 9 rfl rfl
theorem wM_X11_find : mm_W yX11_find cX11_find 4 (some .int) 1 := ⟨mm_t_5 14 rfl rfl, wi_X11, ⟨by decide, by decide⟩, by decide +kernel, by decide⟩
theorem wI_X11_find : Cond.instanceMethod yX11_find ∈ mm_ws := mm_t_5 12 rfl rfl
theorem wS_X11_find : Cond.selects RX11 yX11_find yX11_find ∈ mm_ws := mm_t_5 13 rfl rfl
theorem wM_X6_numberOf : mm_W yX6_numberOf cX6_numberOf 4 (some .int) 1 := ⟨mm_t_5 18 rfl rfl, wi_X6, ⟨by decide, by decide⟩, by decide +kernel, by decide⟩
theorem wI_X6_numberOf : Cond.instanceMethod yX6_numberOf ∈ mm_ws := mm_t_5 16 rfl rfl
theorem wS_X6_numberOf : Cond.selects RX6 yX6_numberOf yX6_numberOf ∈ mm_ws := mm_t_5 17 rfl rfl
theorem wM_X6_isFullName : mm_W yX6_isFullName cX6_isFullName 6 (some .boolean) 2 := ⟨mm_t_5 22 rfl rfl, wi_X6, ⟨by decide, by decide⟩, by decide +kernel, by decide⟩
theorem wI_X6_isFullName : Cond.instanceMethod yX6_isFullName ∈ mm_ws := mm_t_5 21 rfl rfl
theorem wS_X6_isFullName : Cond.selects RX6 yX6_isFullName yX6_isFullName ∈ mm_ws := mm_in 35 rfl rfl
def hL_decode : List (Nat × Nat × Nat × Nat) := [(0, 12, 15, 13), (0, 12, 19, 15)]
theorem wC_L_decode : Cond.codeWith yL_decode cL_decode 6 (some .int) hL_decode ∈ mm_ws := mm_t_5 28 rfl rfl
theorem wT_L_decode : Cond.static yL_decode ∈ mm_ws := mm_t_5 27 rfl rfl
theorem wM_X11_decode : mm_W yX11_decode cX11_decode 4 (some .int) 3 := ⟨mm_t_5 32 rfl rfl, wi_X11, ⟨by decide, by decide⟩, by decide +kernel, by decide⟩
theorem wI_X11_decode : Cond.instanceMethod yX11_decode ∈ mm_ws := mm_t_5 30 rfl rfl
theorem wS_X11_decode : Cond.selects RX11 yX11_decode yX11_decode ∈ mm_ws := mm_t_5 31 rfl rfl
theorem wM_X11_opens : mm_W yX11_opens cX11_opens 6 (some .boolean) 3 := ⟨mm_t_5 36 rfl rfl, wi_X11, ⟨by decide, by decide⟩, by decide +kernel, by decide⟩
theorem wI_X11_opens : Cond.instanceMethod yX11_opens ∈ mm_ws := mm_t_5 35 rfl rfl
theorem wS_X11_opens : Cond.selects RX11 yX11_opens yX11_opens ∈ mm_ws := mm_in 36 rfl rfl
theorem wM_X8_begin : mm_W yX8_begin cX8_begin 3 none 2 := ⟨mm_t_5 40 rfl rfl, wi_X8, ⟨by decide, by decide⟩, by decide +kernel, by decide⟩
theorem wI_X8_begin : Cond.instanceMethod yX8_begin ∈ mm_ws := mm_t_5 38 rfl rfl
theorem wS_X8_begin : Cond.selects RX8 yX8_begin yX8_begin ∈ mm_ws := mm_t_5 39 rfl rfl
theorem wM_X9_read : mm_W yX9_read cX9_read 2 (some .boolean) 1 := ⟨mm_t_5 45 rfl rfl, wi_X9, ⟨by decide, by decide⟩, by decide +kernel, by decide⟩
theorem wI_X9_read : Cond.instanceMethod yX9_read ∈ mm_ws := mm_t_5 43 rfl rfl
theorem wS_X9_read : Cond.selects RX9 yX9_read yX9_read ∈ mm_ws := mm_t_5 44 rfl rfl
theorem wM_X9_readMessage : mm_W yX9_readMessage cX9_readMessage 10 (some .boolean) 4 := ⟨mm_t_5 50 rfl rfl, wi_X9, ⟨by decide, by decide⟩, by decide +kernel, by decide⟩
theorem wI_X9_readMessage : Cond.instanceMethod yX9_readMessage ∈ mm_ws := mm_t_5 49 rfl rfl
theorem wS_X9_readMessage : Cond.selects RX9 yX9_readMessage yX9_readMessage ∈ mm_ws := mm_in 37 rfl rfl
theorem wM_X9_readNumber : mm_W yX9_readNumber cX9_readNumber 8 (some .boolean) 2 := ⟨mm_t_5 54 rfl rfl, wi_X9, ⟨by decide, by decide⟩, by decide +kernel, by decide⟩
theorem wI_X9_readNumber : Cond.instanceMethod yX9_readNumber ∈ mm_ws := mm_t_5 53 rfl rfl
theorem wS_X9_readNumber : Cond.selects RX9 yX9_readNumber yX9_readNumber ∈ mm_ws := mm_in 38 rfl rfl
theorem wM_X9_takeLength : mm_W yX9_takeLength cX9_takeLength 9 (some .boolean) 5 := ⟨mm_t_5 64 rfl rfl, wi_X9, ⟨by decide, by decide⟩, by decide +kernel, by decide⟩
theorem wI_X9_takeLength : Cond.instanceMethod yX9_takeLength ∈ mm_ws := mm_t_5 63 rfl rfl
theorem wS_X9_takeLength : Cond.selects RX9 yX9_takeLength yX9_takeLength ∈ mm_ws := mm_in 39 rfl rfl
theorem wM_X9_takeRow : mm_W yX9_takeRow cX9_takeRow 5 (some .boolean) 3 := ⟨mm_t_5 69 rfl rfl, wi_X9, ⟨by decide, by decide⟩, by decide +kernel, by decide⟩
theorem wI_X9_takeRow : Cond.instanceMethod yX9_takeRow ∈ mm_ws := mm_t_5 68 rfl rfl
theorem wS_X9_takeRow : Cond.selects RX9 yX9_takeRow yX9_takeRow ∈ mm_ws := mm_in 40 rfl rfl
theorem wM_X9_kindOf : mm_W yX9_kindOf cX9_kindOf 1 (some .int) 1 := ⟨mm_t_5 72 rfl rfl, wi_X9, ⟨by decide, by decide⟩, by decide +kernel, by decide⟩
theorem wT_X9_kindOf : Cond.static yX9_kindOf ∈ mm_ws := mm_t_5 71 rfl rfl
theorem wM_X9_putNumber : mm_W yX9_putNumber cX9_putNumber 4 (some .boolean) 2 := ⟨mm_t_5 76 rfl rfl, wi_X9, ⟨by decide, by decide⟩, by decide +kernel, by decide⟩
theorem wI_X9_putNumber : Cond.instanceMethod yX9_putNumber ∈ mm_ws := mm_t_5 75 rfl rfl
theorem wS_X9_putNumber : Cond.selects RX9 yX9_putNumber yX9_putNumber ∈ mm_ws := mm_in 41 rfl rfl
theorem wM_X8_put : mm_W yX8_put cX8_put 5 (some (.object "ProtoDesk$Node")) 2 := ⟨mm_t_5 80 rfl rfl, wi_X8, ⟨by decide, by decide⟩, by decide +kernel, by decide⟩
theorem wI_X8_put : Cond.instanceMethod yX8_put ∈ mm_ws := mm_t_5 78 rfl rfl
theorem wS_X8_put : Cond.selects RX8 yX8_put yX8_put ∈ mm_ws := mm_t_5 79 rfl rfl
theorem wM_X8_dropRivals : mm_W yX8_dropRivals cX8_dropRivals 6 none 2 := ⟨mm_t_5 84 rfl rfl, wi_X8, ⟨by decide, by decide⟩, by decide +kernel, by decide⟩
theorem wI_X8_dropRivals : Cond.instanceMethod yX8_dropRivals ∈ mm_ws := mm_t_5 83 rfl rfl
theorem wS_X8_dropRivals : Cond.selects RX8 yX8_dropRivals yX8_dropRivals ∈ mm_ws := mm_in 42 rfl rfl
theorem wM_X8_lastUpTo : mm_W yX8_lastUpTo cX8_lastUpTo 6 (some (.object "ProtoDesk$Node")) 2 := ⟨mm_t_5 89 rfl rfl, wi_X8, ⟨by decide, by decide⟩, by decide +kernel, by decide⟩
theorem wI_X8_lastUpTo : Cond.instanceMethod yX8_lastUpTo ∈ mm_ws := mm_t_5 88 rfl rfl
theorem wS_X8_lastUpTo : Cond.selects RX8 yX8_lastUpTo yX8_lastUpTo ∈ mm_ws := mm_in 43 rfl rfl
theorem wM_X9_meaning : mm_W yX9_meaning cX9_meaning 3 (some .long) 2 := ⟨mm_t_5 92 rfl rfl, wi_X9, ⟨by decide, by decide⟩, by decide +kernel, by decide⟩
theorem wT_X9_meaning : Cond.static yX9_meaning ∈ mm_ws := mm_t_5 91 rfl rfl
theorem wM_X9_keep : mm_W yX9_keep cX9_keep 4 (some .boolean) 2 := ⟨mm_t_5 97 rfl rfl, wi_X9, ⟨by decide, by decide⟩, by decide +kernel, by decide⟩
theorem wI_X9_keep : Cond.instanceMethod yX9_keep ∈ mm_ws := mm_t_5 96 rfl rfl
theorem wS_X9_keep : Cond.selects RX9 yX9_keep yX9_keep ∈ mm_ws := mm_in 44 rfl rfl
theorem wM_X9_copy : mm_W yX9_copy cX9_copy 4 (some .boolean) 3 := ⟨mm_t_5 101 rfl rfl, wi_X9, ⟨by decide, by decide⟩, by decide +kernel, by decide⟩
theorem wI_X9_copy : Cond.instanceMethod yX9_copy ∈ mm_ws := mm_t_5 100 rfl rfl
theorem wS_X9_copy : Cond.selects RX9 yX9_copy yX9_copy ∈ mm_ws := mm_in 45 rfl rfl
theorem wM_X0_isUtf8 : mm_W yX0_isUtf8 cX0_isUtf8 9 (some .boolean) 2 := ⟨mm_t_5 106 rfl rfl, wi_X0, ⟨by decide, by decide⟩, by decide +kernel, by decide⟩
theorem wI_X0_isUtf8 : Cond.instanceMethod yX0_isUtf8 ∈ mm_ws := mm_t_5 104 rfl rfl
theorem wS_X0_isUtf8 : Cond.selects RX0 yX0_isUtf8 yX0_isUtf8 ∈ mm_ws := mm_t_5 105 rfl rfl
theorem wM_X9_takeNumber : mm_W yX9_takeNumber cX9_takeNumber 6 (some .boolean) 5 := ⟨mm_t_5 110 rfl rfl, wi_X9, ⟨by decide, by decide⟩, by decide +kernel, by decide⟩
theorem wI_X9_takeNumber : Cond.instanceMethod yX9_takeNumber ∈ mm_ws := mm_t_5 109 rfl rfl
theorem wS_X9_takeNumber : Cond.selects RX9 yX9_takeNumber yX9_takeNumber ∈ mm_ws := mm_in 46 rfl rfl
theorem wM_X11_settle : mm_W yX11_settle cX11_settle 4 (some .int) 1 := ⟨mm_t_5 114 rfl rfl, wi_X11, ⟨by decide, by decide⟩, by decide +kernel, by decide⟩
theorem wI_X11_settle : Cond.instanceMethod yX11_settle ∈ mm_ws := mm_t_5 113 rfl rfl
theorem wS_X11_settle : Cond.selects RX11 yX11_settle yX11_settle ∈ mm_ws := mm_in 47 rfl rfl
theorem wM_X8_count : mm_W yX8_count cX8_count 1 (some .int) 0 := ⟨mm_t_5 118 rfl rfl, wi_X8, ⟨by decide, by decide⟩, by decide +kernel, by decide⟩
theorem wI_X8_count : Cond.instanceMethod yX8_count ∈ mm_ws := mm_t_5 116 rfl rfl
theorem wS_X8_count : Cond.selects RX8 yX8_count yX8_count ∈ mm_ws := mm_t_5 117 rfl rfl
theorem wM_X8_countIn : mm_W yX8_countIn cX8_countIn 5 (some .int) 2 := ⟨mm_t_5 122 rfl rfl, wi_X8, ⟨by decide, by decide⟩, by decide +kernel, by decide⟩
theorem wI_X8_countIn : Cond.instanceMethod yX8_countIn ∈ mm_ws := mm_t_5 121 rfl rfl
theorem wS_X8_countIn : Cond.selects RX8 yX8_countIn yX8_countIn ∈ mm_ws := mm_in 48 rfl rfl
theorem wM_X4_isNothing : mm_W yX4_isNothing cX4_isNothing 1 (some .boolean) 0 := ⟨mm_t_5 126 rfl rfl, wi_X4, ⟨by decide, by decide⟩, by decide +kernel, by decide⟩
theorem wI_X4_isNothing : Cond.instanceMethod yX4_isNothing ∈ mm_ws := mm_t_5 124 rfl rfl
theorem wS_X4_isNothing : Cond.selects RX4 yX4_isNothing yX4_isNothing ∈ mm_ws := mm_t_5 125 rfl rfl
theorem wM_X8_isSpilt : mm_W yX8_isSpilt cX8_isSpilt 1 (some .boolean) 0 := ⟨mm_t_5 131 rfl rfl, wi_X8, ⟨by decide, by decide⟩, by decide +kernel, by decide⟩
theorem wI_X8_isSpilt : Cond.instanceMethod yX8_isSpilt ∈ mm_ws := mm_t_5 129 rfl rfl
theorem wS_X8_isSpilt : Cond.selects RX8 yX8_isSpilt yX8_isSpilt ∈ mm_ws := mm_t_5 130 rfl rfl
theorem wM_X0_isSpilt : mm_W yX0_isSpilt cX0_isSpilt 1 (some .boolean) 0 := ⟨mm_t_5 135 rfl rfl, wi_X0, ⟨by decide, by decide⟩, by decide +kernel, by decide⟩
theorem wI_X0_isSpilt : Cond.instanceMethod yX0_isSpilt ∈ mm_ws := mm_t_5 133 rfl rfl
theorem wS_X0_isSpilt : Cond.selects RX0 yX0_isSpilt yX0_isSpilt ∈ mm_ws := mm_t_5 134 rfl rfl
def hL_parse : List (Nat × Nat × Nat × Nat) := [(0, 12, 15, 13), (0, 12, 19, 15)]
theorem wC_L_parse : Cond.codeWith yL_parse cL_parse 6 (some .int) hL_parse ∈ mm_ws := mm_t_5 140 rfl rfl
theorem wT_L_parse : Cond.static yL_parse ∈ mm_ws := mm_t_5 139 rfl rfl
theorem wM_X11_parse : mm_W yX11_parse cX11_parse 4 (some .int) 3 := ⟨mm_t_5 144 rfl rfl, wi_X11, ⟨by decide, by decide⟩, by decide +kernel, by decide⟩
theorem wI_X11_parse : Cond.instanceMethod yX11_parse ∈ mm_ws := mm_t_5 142 rfl rfl
theorem wS_X11_parse : Cond.selects RX11 yX11_parse yX11_parse ∈ mm_ws := mm_t_5 143 rfl rfl
theorem wM_X7_read : mm_W yX7_read cX7_read 2 (some .boolean) 1 := ⟨mm_t_5 148 rfl rfl, wi_X7, ⟨by decide, by decide⟩, by decide +kernel, by decide⟩
theorem wI_X7_read : Cond.instanceMethod yX7_read ∈ mm_ws := mm_t_5 146 rfl rfl
theorem wS_X7_read : Cond.selects RX7 yX7_read yX7_read ∈ mm_ws := mm_t_5 147 rfl rfl
theorem wM_X7_readMessage : mm_W yX7_readMessage cX7_readMessage 6 (some .boolean) 3 := ⟨mm_t_5 152 rfl rfl, wi_X7, ⟨by decide, by decide⟩, by decide +kernel, by decide⟩
theorem wI_X7_readMessage : Cond.instanceMethod yX7_readMessage ∈ mm_ws := mm_t_5 151 rfl rfl
theorem wS_X7_readMessage : Cond.selects RX7 yX7_readMessage yX7_readMessage ∈ mm_ws := mm_in 49 rfl rfl
theorem wM_X7_skipBlanks : mm_W yX7_skipBlanks cX7_skipBlanks 3 none 0 := ⟨mm_t_5 156 rfl rfl, wi_X7, ⟨by decide, by decide⟩, by decide +kernel, by decide⟩
theorem wI_X7_skipBlanks : Cond.instanceMethod yX7_skipBlanks ∈ mm_ws := mm_t_5 155 rfl rfl
theorem wS_X7_skipBlanks : Cond.selects RX7 yX7_skipBlanks yX7_skipBlanks ∈ mm_ws := mm_in 50 rfl rfl
theorem wM_X7_readField : mm_W yX7_readField cX7_readField 7 (some .boolean) 3 := ⟨mm_t_5 163 rfl rfl, wi_X7, ⟨by decide, by decide⟩, by decide +kernel, by decide⟩
theorem wI_X7_readField : Cond.instanceMethod yX7_readField ∈ mm_ws := mm_t_5 162 rfl rfl
theorem wS_X7_readField : Cond.selects RX7 yX7_readField yX7_readField ∈ mm_ws := mm_in 51 rfl rfl
theorem wM_X7_skipWord : mm_W yX7_skipWord cX7_skipWord 1 none 0 := ⟨mm_t_5 167 rfl rfl, wi_X7, ⟨by decide, by decide⟩, by decide +kernel, by decide⟩
theorem wI_X7_skipWord : Cond.instanceMethod yX7_skipWord ∈ mm_ws := mm_t_5 166 rfl rfl
theorem wS_X7_skipWord : Cond.selects RX7 yX7_skipWord yX7_skipWord ∈ mm_ws := mm_in 52 rfl rfl
theorem wM_X6_memberCalled : mm_W yX6_memberCalled cX6_memberCalled 6 (some (.object "ProtoDesk$Item")) 4 := ⟨mm_t_5 172 rfl rfl, wi_X6, ⟨by decide, by decide⟩, by decide +kernel, by decide⟩
theorem wI_X6_memberCalled : Cond.instanceMethod yX6_memberCalled ∈ mm_ws := mm_t_5 170 rfl rfl
theorem wS_X6_memberCalled : Cond.selects RX6 yX6_memberCalled yX6_memberCalled ∈ mm_ws := mm_t_5 171 rfl rfl
theorem wM_X8_isTaken : mm_W yX8_isTaken cX8_isTaken 5 (some .boolean) 2 := ⟨mm_t_5 176 rfl rfl, wi_X8, ⟨by decide, by decide⟩, by decide +kernel, by decide⟩
theorem wI_X8_isTaken : Cond.instanceMethod yX8_isTaken ∈ mm_ws := mm_t_5 174 rfl rfl
theorem wS_X8_isTaken : Cond.selects RX8 yX8_isTaken yX8_isTaken ∈ mm_ws := mm_t_5 175 rfl rfl
theorem wM_X7_readValue : mm_W yX7_readValue cX7_readValue 4 (some .boolean) 2 := ⟨mm_t_5 181 rfl rfl, wi_X7, ⟨by decide, by decide⟩, by decide +kernel, by decide⟩
theorem wI_X7_readValue : Cond.instanceMethod yX7_readValue ∈ mm_ws := mm_t_5 180 rfl rfl
theorem wS_X7_readValue : Cond.selects RX7 yX7_readValue yX7_readValue ∈ mm_ws := mm_in 53 rfl rfl
theorem wM_X7_readText : mm_W yX7_readText cX7_readText 6 (some .boolean) 2 := ⟨mm_t_5 186 rfl rfl, wi_X7, ⟨by decide, by decide⟩, by decide +kernel, by decide⟩
theorem wI_X7_readText : Cond.instanceMethod yX7_readText ∈ mm_ws := mm_t_5 185 rfl rfl
theorem wS_X7_readText : Cond.selects RX7 yX7_readText yX7_readText ∈ mm_ws := mm_in 54 rfl rfl
theorem wM_X7_readEscape : mm_W yX7_readEscape cX7_readEscape 5 (some .int) 0 := ⟨mm_t_5 190 rfl rfl, wi_X7, ⟨by decide, by decide⟩, by decide +kernel, by decide⟩
theorem wI_X7_readEscape : Cond.instanceMethod yX7_readEscape ∈ mm_ws := mm_t_5 189 rfl rfl
theorem wS_X7_readEscape : Cond.selects RX7 yX7_readEscape yX7_readEscape ∈ mm_ws := mm_in 55 rfl rfl
theorem wM_X7_readBool : mm_W yX7_readBool cX7_readBool 2 (some .boolean) 0 := ⟨mm_t_5 200 rfl rfl, wi_X7, ⟨by decide, by decide⟩, by decide +kernel, by decide⟩
theorem wI_X7_readBool : Cond.instanceMethod yX7_readBool ∈ mm_ws := mm_t_5 199 rfl rfl
theorem wS_X7_readBool : Cond.selects RX7 yX7_readBool yX7_readBool ∈ mm_ws := mm_in 56 rfl rfl
theorem wM_X7_readEnumName : mm_W yX7_readEnumName cX7_readEnumName 4 (some .boolean) 1 := ⟨mm_t_5 207 rfl rfl, wi_X7, ⟨by decide, by decide⟩, by decide +kernel, by decide⟩
theorem wI_X7_readEnumName : Cond.instanceMethod yX7_readEnumName ∈ mm_ws := mm_t_5 206 rfl rfl
theorem wS_X7_readEnumName : Cond.selects RX7 yX7_readEnumName yX7_readEnumName ∈ mm_ws := mm_in 57 rfl rfl
theorem wM_X7_readNumber : mm_W yX7_readNumber cX7_readNumber 7 (some .boolean) 1 := ⟨mm_t_5 211 rfl rfl, wi_X7, ⟨by decide, by decide⟩, by decide +kernel, by decide⟩
theorem wI_X7_readNumber : Cond.instanceMethod yX7_readNumber ∈ mm_ws := mm_t_5 210 rfl rfl
theorem wS_X7_readNumber : Cond.selects RX7 yX7_readNumber yX7_readNumber ∈ mm_ws := mm_in 58 rfl rfl
theorem wM_X7_isInRange : mm_W yX7_isInRange cX7_isInRange 5 (some .boolean) 3 := ⟨mm_t_5 216 rfl rfl, wi_X7, ⟨by decide, by decide⟩, by decide +kernel, by decide⟩
theorem wT_X7_isInRange : Cond.static yX7_isInRange ∈ mm_ws := mm_t_5 215 rfl rfl
def hL_encode : List (Nat × Nat × Nat × Nat) := [(0, 8, 11, 15)]
theorem wC_L_encode : Cond.codeWith yL_encode cL_encode 3 (some .int) hL_encode ∈ mm_ws := mm_t_5 223 rfl rfl
theorem wT_L_encode : Cond.static yL_encode ∈ mm_ws := mm_t_5 222 rfl rfl
theorem wM_X11_encode : mm_W yX11_encode cX11_encode 1 (some .int) 0 := ⟨mm_t_5 227 rfl rfl, wi_X11, ⟨by decide, by decide⟩, by decide +kernel, by decide⟩
theorem wI_X11_encode : Cond.instanceMethod yX11_encode ∈ mm_ws := mm_t_5 225 rfl rfl
theorem wS_X11_encode : Cond.selects RX11 yX11_encode yX11_encode ∈ mm_ws := mm_t_5 226 rfl rfl
theorem wM_X8_isThere : mm_W yX8_isThere cX8_isThere 1 (some .boolean) 0 := ⟨mm_t_5 231 rfl rfl, wi_X8, ⟨by decide, by decide⟩, by decide +kernel, by decide⟩
theorem wI_X8_isThere : Cond.instanceMethod yX8_isThere ∈ mm_ws := mm_t_5 229 rfl rfl
theorem wS_X8_isThere : Cond.selects RX8 yX8_isThere yX8_isThere ∈ mm_ws := mm_t_5 230 rfl rfl
theorem wM_X9_write : mm_W yX9_write cX9_write 1 none 0 := ⟨mm_t_5 236 rfl rfl, wi_X9, ⟨by decide, by decide⟩, by decide +kernel, by decide⟩
theorem wI_X9_write : Cond.instanceMethod yX9_write ∈ mm_ws := mm_t_5 234 rfl rfl
theorem wS_X9_write : Cond.selects RX9 yX9_write yX9_write ∈ mm_ws := mm_t_5 235 rfl rfl
theorem wM_X9_writeMessage : mm_W yX9_writeMessage cX9_writeMessage 5 none 2 := ⟨mm_t_6 0 rfl rfl, wi_X9, ⟨by decide, by decide⟩, by decide +kernel, by decide⟩
theorem wI_X9_writeMessage : Cond.instanceMethod yX9_writeMessage ∈ mm_ws := mm_t_5 239 rfl rfl
theorem wS_X9_writeMessage : Cond.selects RX9 yX9_writeMessage yX9_writeMessage ∈ mm_ws := mm_in 59 rfl rfl
theorem wM_X9_writeRow : mm_W yX9_writeRow cX9_writeRow 6 (some (.object "ProtoDesk$Node")) 2 := ⟨mm_t_6 4 rfl rfl, wi_X9, ⟨by decide, by decide⟩, by decide +kernel, by decide⟩
theorem wI_X9_writeRow : Cond.instanceMethod yX9_writeRow ∈ mm_ws := mm_t_6 3 rfl rfl
theorem wS_X9_writeRow : Cond.selects RX9 yX9_writeRow yX9_writeRow ∈ mm_ws := mm_in 60 rfl rfl
theorem wM_X0_addVarint : mm_W yX0_addVarint cX0_addVarint 6 none 1 := ⟨mm_t_6 9 rfl rfl, wi_X0, ⟨by decide, by decide⟩, by decide +kernel, by decide⟩
theorem wI_X0_addVarint : Cond.instanceMethod yX0_addVarint ∈ mm_ws := mm_t_6 7 rfl rfl
theorem wS_X0_addVarint : Cond.selects RX0 yX0_addVarint yX0_addVarint ∈ mm_ws := mm_t_6 8 rfl rfl
theorem wM_X9_writeNumber : mm_W yX9_writeNumber cX9_writeNumber 5 none 2 := ⟨mm_t_6 14 rfl rfl, wi_X9, ⟨by decide, by decide⟩, by decide +kernel, by decide⟩
theorem wI_X9_writeNumber : Cond.instanceMethod yX9_writeNumber ∈ mm_ws := mm_t_6 13 rfl rfl
theorem wS_X9_writeNumber : Cond.selects RX9 yX9_writeNumber yX9_writeNumber ∈ mm_ws := mm_in 61 rfl rfl
theorem wM_X0_addFixed : mm_W yX0_addFixed cX0_addFixed 5 none 2 := ⟨mm_t_6 18 rfl rfl, wi_X0, ⟨by decide, by decide⟩, by decide +kernel, by decide⟩
theorem wI_X0_addFixed : Cond.instanceMethod yX0_addFixed ∈ mm_ws := mm_t_6 16 rfl rfl
theorem wS_X0_addFixed : Cond.selects RX0 yX0_addFixed yX0_addFixed ∈ mm_ws := mm_t_6 17 rfl rfl
theorem wM_X0_insertLength : mm_W yX0_insertLength cX0_insertLength 4 none 1 := ⟨mm_t_6 22 rfl rfl, wi_X0, ⟨by decide, by decide⟩, by decide +kernel, by decide⟩
theorem wI_X0_insertLength : Cond.instanceMethod yX0_insertLength ∈ mm_ws := mm_t_6 20 rfl rfl
theorem wS_X0_insertLength : Cond.selects RX0 yX0_insertLength yX0_insertLength ∈ mm_ws := mm_t_6 21 rfl rfl
theorem wM_X9_writeField : mm_W yX9_writeField cX9_writeField 6 none 3 := ⟨mm_t_6 31 rfl rfl, wi_X9, ⟨by decide, by decide⟩, by decide +kernel, by decide⟩
theorem wI_X9_writeField : Cond.instanceMethod yX9_writeField ∈ mm_ws := mm_t_6 30 rfl rfl
theorem wS_X9_writeField : Cond.selects RX9 yX9_writeField yX9_writeField ∈ mm_ws := mm_in 62 rfl rfl
def hL_print : List (Nat × Nat × Nat × Nat) := [(0, 8, 11, 15), (0, 8, 14, 46)]
theorem wC_L_print : Cond.codeWith yL_print cL_print 3 (some .int) hL_print ∈ mm_ws := mm_t_6 34 rfl rfl
theorem wT_L_print : Cond.static yL_print ∈ mm_ws := mm_t_6 33 rfl rfl
theorem wM_X11_print : mm_W yX11_print cX11_print 1 (some .int) 0 := ⟨mm_t_6 39 rfl rfl, wi_X11, ⟨by decide, by decide⟩, by decide +kernel, by decide⟩
theorem wI_X11_print : Cond.instanceMethod yX11_print ∈ mm_ws := mm_t_6 37 rfl rfl
theorem wS_X11_print : Cond.selects RX11 yX11_print yX11_print ∈ mm_ws := mm_t_6 38 rfl rfl
theorem wM_X7_write : mm_W yX7_write cX7_write 1 none 0 := ⟨mm_t_6 43 rfl rfl, wi_X7, ⟨by decide, by decide⟩, by decide +kernel, by decide⟩
theorem wI_X7_write : Cond.instanceMethod yX7_write ∈ mm_ws := mm_t_6 41 rfl rfl
theorem wS_X7_write : Cond.selects RX7 yX7_write yX7_write ∈ mm_ws := mm_t_6 42 rfl rfl
theorem wM_X7_writeMessage : mm_W yX7_writeMessage cX7_writeMessage 5 none 3 := ⟨mm_t_6 48 rfl rfl, wi_X7, ⟨by decide, by decide⟩, by decide +kernel, by decide⟩
theorem wI_X7_writeMessage : Cond.instanceMethod yX7_writeMessage ∈ mm_ws := mm_t_6 47 rfl rfl
theorem wS_X7_writeMessage : Cond.selects RX7 yX7_writeMessage yX7_writeMessage ∈ mm_ws := mm_in 63 rfl rfl
theorem wM_X7_writeField : mm_W yX7_writeField cX7_writeField 5 none 4 := ⟨mm_t_6 53 rfl rfl, wi_X7, ⟨by decide, by decide⟩, by decide +kernel, by decide⟩
theorem wI_X7_writeField : Cond.instanceMethod yX7_writeField ∈ mm_ws := mm_t_6 52 rfl rfl
theorem wS_X7_writeField : Cond.selects RX7 yX7_writeField yX7_writeField ∈ mm_ws := mm_in 64 rfl rfl
theorem wM_X7_writeIndent : mm_W yX7_writeIndent cX7_writeIndent 3 none 1 := ⟨mm_t_6 57 rfl rfl, wi_X7, ⟨by decide, by decide⟩, by decide +kernel, by decide⟩
theorem wI_X7_writeIndent : Cond.instanceMethod yX7_writeIndent ∈ mm_ws := mm_t_6 56 rfl rfl
theorem wS_X7_writeIndent : Cond.selects RX7 yX7_writeIndent yX7_writeIndent ∈ mm_ws := mm_in 65 rfl rfl
theorem wM_X0_addText : mm_W yX0_addText cX0_addText 3 none 1 := ⟨mm_t_6 62 rfl rfl, wi_X0, ⟨by decide, by decide⟩, by decide +kernel, by decide⟩
theorem wI_X0_addText : Cond.instanceMethod yX0_addText ∈ mm_ws := mm_t_6 60 rfl rfl
theorem wS_X0_addText : Cond.selects RX0 yX0_addText yX0_addText ∈ mm_ws := mm_t_6 61 rfl rfl
theorem wM_X7_writeNumber : mm_W yX7_writeNumber cX7_writeNumber 6 none 3 := ⟨mm_t_6 70 rfl rfl, wi_X7, ⟨by decide, by decide⟩, by decide +kernel, by decide⟩
theorem wI_X7_writeNumber : Cond.instanceMethod yX7_writeNumber ∈ mm_ws := mm_t_6 69 rfl rfl
theorem wS_X7_writeNumber : Cond.selects RX7 yX7_writeNumber yX7_writeNumber ∈ mm_ws := mm_in 66 rfl rfl
theorem wM_X7_writeDecimal : mm_W yX7_writeDecimal cX7_writeDecimal 8 none 1 := ⟨mm_t_6 77 rfl rfl, wi_X7, ⟨by decide, by decide⟩, by decide +kernel, by decide⟩
theorem wI_X7_writeDecimal : Cond.instanceMethod yX7_writeDecimal ∈ mm_ws := mm_t_6 76 rfl rfl
theorem wS_X7_writeDecimal : Cond.selects RX7 yX7_writeDecimal yX7_writeDecimal ∈ mm_ws := mm_in 67 rfl rfl
theorem wM_X7_writeText : mm_W yX7_writeText cX7_writeText 3 none 1 := ⟨mm_t_6 82 rfl rfl, wi_X7, ⟨by decide, by decide⟩, by decide +kernel, by decide⟩
theorem wI_X7_writeText : Cond.instanceMethod yX7_writeText ∈ mm_ws := mm_t_6 81 rfl rfl
theorem wS_X7_writeText : Cond.selects RX7 yX7_writeText yX7_writeText ∈ mm_ws := mm_in 68 rfl rfl
theorem wM_X7_writeTextByte : mm_W yX7_writeTextByte cX7_writeTextByte 3 none 1 := ⟨mm_t_6 86 rfl rfl, wi_X7, ⟨by decide, by decide⟩, by decide +kernel, by decide⟩
theorem wI_X7_writeTextByte : Cond.instanceMethod yX7_writeTextByte ∈ mm_ws := mm_t_6 85 rfl rfl
theorem wS_X7_writeTextByte : Cond.selects RX7 yX7_writeTextByte yX7_writeTextByte ∈ mm_ws := mm_in 69 rfl rfl
def hL_check : List (Nat × Nat × Nat × Nat) := [(0, 10, 13, 13)]
theorem wC_L_check : Cond.codeWith yL_check cL_check 5 (some .int) hL_check ∈ mm_ws := mm_t_6 106 rfl rfl
theorem wT_L_check : Cond.static yL_check ∈ mm_ws := mm_t_6 105 rfl rfl
theorem wM_X11_check : mm_W yX11_check cX11_check 5 (some .int) 2 := ⟨mm_t_6 110 rfl rfl, wi_X11, ⟨by decide, by decide⟩, by decide +kernel, by decide⟩
theorem wI_X11_check : Cond.instanceMethod yX11_check ∈ mm_ws := mm_t_6 108 rfl rfl
theorem wS_X11_check : Cond.selects RX11 yX11_check yX11_check ∈ mm_ws := mm_t_6 109 rfl rfl
theorem wM_X1_compare : mm_W yX1_compare cX1_compare 5 (some .int) 2 := ⟨mm_t_6 115 rfl rfl, wi_X1, ⟨by decide, by decide⟩, by decide +kernel, by decide⟩
theorem wI_X1_compare : Cond.instanceMethod yX1_compare ∈ mm_ws := mm_t_6 113 rfl rfl
theorem wS_X1_compare : Cond.selects RX1 yX1_compare yX1_compare ∈ mm_ws := mm_t_6 114 rfl rfl
theorem wM_X1_enter : mm_W yX1_enter cX1_enter 4 (some .boolean) 2 := ⟨mm_t_6 119 rfl rfl, wi_X1, ⟨by decide, by decide⟩, by decide +kernel, by decide⟩
theorem wI_X1_enter : Cond.instanceMethod yX1_enter ∈ mm_ws := mm_t_6 118 rfl rfl
theorem wS_X1_enter : Cond.selects RX1 yX1_enter yX1_enter ∈ mm_ws := mm_in 70 rfl rfl
theorem wM_X1_look : mm_W yX1_look cX1_look 4 (some .int) 0 := ⟨mm_t_6 124 rfl rfl, wi_X1, ⟨by decide, by decide⟩, by decide +kernel, by decide⟩
theorem wI_X1_look : Cond.instanceMethod yX1_look ∈ mm_ws := mm_t_6 123 rfl rfl
theorem wS_X1_look : Cond.selects RX1 yX1_look yX1_look ∈ mm_ws := mm_in 71 rfl rfl
theorem wM_X1_isUnderstood : mm_W yX1_isUnderstood cX1_isUnderstood 2 (some .boolean) 2 := ⟨mm_t_6 128 rfl rfl, wi_X1, ⟨by decide, by decide⟩, by decide +kernel, by decide⟩
theorem wT_X1_isUnderstood : Cond.static yX1_isUnderstood ∈ mm_ws := mm_t_6 127 rfl rfl
theorem wM_X1_isTornApart : mm_W yX1_isTornApart cX1_isTornApart 6 (some .boolean) 3 := ⟨mm_t_6 131 rfl rfl, wi_X1, ⟨by decide, by decide⟩, by decide +kernel, by decide⟩
theorem wT_X1_isTornApart : Cond.static yX1_isTornApart ∈ mm_ws := mm_t_6 130 rfl rfl
theorem wM_X1_tellWay : mm_W yX1_tellWay cX1_tellWay 2 none 0 := ⟨mm_t_6 135 rfl rfl, wi_X1, ⟨by decide, by decide⟩, by decide +kernel, by decide⟩
theorem wI_X1_tellWay : Cond.instanceMethod yX1_tellWay ∈ mm_ws := mm_t_6 134 rfl rfl
theorem wS_X1_tellWay : Cond.selects RX1 yX1_tellWay yX1_tellWay ∈ mm_ws := mm_in 72 rfl rfl
def hL_out : List (Nat × Nat × Nat × Nat) := [(0, 8, 11, 55)]
theorem wC_L_out : Cond.codeWith yL_out cL_out 4 (some .int) hL_out ∈ mm_ws := mm_t_6 139 rfl rfl
theorem wT_L_out : Cond.static yL_out ∈ mm_ws := mm_t_6 138 rfl rfl
theorem wM_X11_out : mm_W yX11_out cX11_out 5 (some .long) 1 := ⟨mm_t_6 144 rfl rfl, wi_X11, ⟨by decide, by decide⟩, by decide +kernel, by decide⟩
theorem wI_X11_out : Cond.instanceMethod yX11_out ∈ mm_ws := mm_t_6 142 rfl rfl
theorem wS_X11_out : Cond.selects RX11 yX11_out yX11_out ∈ mm_ws := mm_t_6 143 rfl rfl
def hL_turn : List (Nat × Nat × Nat × Nat) := [(0, 8, 11, 15)]
theorem wC_L_turn : Cond.codeWith yL_turn cL_turn 3 (some .int) hL_turn ∈ mm_ws := mm_t_6 165 rfl rfl
theorem wT_L_turn : Cond.static yL_turn ∈ mm_ws := mm_t_6 164 rfl rfl
theorem wM_X11_turn : mm_W yX11_turn cX11_turn 1 (some .int) 0 := ⟨mm_t_6 169 rfl rfl, wi_X11, ⟨by decide, by decide⟩, by decide +kernel, by decide⟩
theorem wI_X11_turn : Cond.instanceMethod yX11_turn ∈ mm_ws := mm_t_6 167 rfl rfl
theorem wS_X11_turn : Cond.selects RX11 yX11_turn yX11_turn ∈ mm_ws := mm_t_6 168 rfl rfl
theorem wM_X12_init : mm_W yX12_init cX12_init 1 none 0 := ⟨mm_t_6 176 rfl rfl, wi_X12, ⟨by decide, by decide⟩, by decide +kernel, by decide⟩
theorem wI_X12_init : Cond.instanceMethod yX12_init ∈ mm_ws := mm_t_6 175 rfl rfl
theorem wM_X12_thrown : mm_W yX12_thrown cX12_thrown 1 (some .int) 0 := ⟨mm_t_8 47 rfl rfl, wi_X12, ⟨by decide, by decide⟩, by decide +kernel, by decide⟩
theorem wI_X12_thrown : Cond.instanceMethod yX12_thrown ∈ mm_ws := mm_t_8 45 rfl rfl
theorem wS_X12_thrown : Cond.selects RX12 yX12_thrown yX12_thrown ∈ mm_ws := mm_t_8 46 rfl rfl
theorem wM_X12_feed : mm_W yX12_feed cX12_feed 5 (some .int) 2 := ⟨mm_t_8 51 rfl rfl, wi_X12, ⟨by decide, by decide⟩, by decide +kernel, by decide⟩
theorem wI_X12_feed : Cond.instanceMethod yX12_feed ∈ mm_ws := mm_t_8 49 rfl rfl
theorem wS_X12_feed : Cond.selects RX12 yX12_feed yX12_feed ∈ mm_ws := mm_t_8 50 rfl rfl
theorem wM_X12_out : mm_W yX12_out cX12_out 5 (some .long) 1 := ⟨mm_t_8 55 rfl rfl, wi_X12, ⟨by decide, by decide⟩, by decide +kernel, by decide⟩
theorem wI_X12_out : Cond.instanceMethod yX12_out ∈ mm_ws := mm_t_8 53 rfl rfl
theorem wS_X12_out : Cond.selects RX12 yX12_out yX12_out ∈ mm_ws := mm_t_8 54 rfl rfl
theorem wM_X12_turn : mm_W yX12_turn cX12_turn 2 (some .int) 0 := ⟨mm_t_8 59 rfl rfl, wi_X12, ⟨by decide, by decide⟩, by decide +kernel, by decide⟩
theorem wI_X12_turn : Cond.instanceMethod yX12_turn ∈ mm_ws := mm_t_8 57 rfl rfl
theorem wS_X12_turn : Cond.selects RX12 yX12_turn yX12_turn ∈ mm_ws := mm_t_8 58 rfl rfl
theorem wM_X12_compile : mm_W yX12_compile cX12_compile 2 (some .int) 1 := ⟨mm_t_8 63 rfl rfl, wi_X12, ⟨by decide, by decide⟩, by decide +kernel, by decide⟩
theorem wI_X12_compile : Cond.instanceMethod yX12_compile ∈ mm_ws := mm_t_8 61 rfl rfl
theorem wS_X12_compile : Cond.selects RX12 yX12_compile yX12_compile ∈ mm_ws := mm_t_8 62 rfl rfl
theorem wM_X12_isSchema : mm_W yX12_isSchema cX12_isSchema 1 (some .boolean) 1 := ⟨mm_t_8 66 rfl rfl, wi_X12, ⟨by decide, by decide⟩, by decide +kernel, by decide⟩
theorem wT_X12_isSchema : Cond.static yX12_isSchema ∈ mm_ws := mm_t_8 65 rfl rfl
theorem wM_X12_readSchema : mm_W yX12_readSchema cX12_readSchema 2 none 0 := ⟨mm_t_8 70 rfl rfl, wi_X12, ⟨by decide, by decide⟩, by decide +kernel, by decide⟩
theorem wI_X12_readSchema : Cond.instanceMethod yX12_readSchema ∈ mm_ws := mm_t_8 69 rfl rfl
theorem wS_X12_readSchema : Cond.selects RX12 yX12_readSchema yX12_readSchema ∈ mm_ws := mm_in 73 rfl rfl
theorem wM_X12_look : mm_W yX12_look cX12_look 3 none 1 := ⟨mm_t_8 74 rfl rfl, wi_X12, ⟨by decide, by decide⟩, by decide +kernel, by decide⟩
theorem wI_X12_look : Cond.instanceMethod yX12_look ∈ mm_ws := mm_t_8 73 rfl rfl
theorem wS_X12_look : Cond.selects RX12 yX12_look yX12_look ∈ mm_ws := mm_in 74 rfl rfl
theorem wM_X12_behindBlanks : mm_W yX12_behindBlanks cX12_behindBlanks 5 (some .int) 1 := ⟨mm_t_8 78 rfl rfl, wi_X12, ⟨by decide, by decide⟩, by decide +kernel, by decide⟩
theorem wI_X12_behindBlanks : Cond.instanceMethod yX12_behindBlanks ∈ mm_ws := mm_t_8 77 rfl rfl
theorem wS_X12_behindBlanks : Cond.selects RX12 yX12_behindBlanks yX12_behindBlanks ∈ mm_ws := mm_in 75 rfl rfl
theorem wM_X12_byteAt : mm_W yX12_byteAt cX12_byteAt 2 (some .int) 1 := ⟨mm_t_8 82 rfl rfl, wi_X12, ⟨by decide, by decide⟩, by decide +kernel, by decide⟩
theorem wI_X12_byteAt : Cond.instanceMethod yX12_byteAt ∈ mm_ws := mm_t_8 81 rfl rfl
theorem wS_X12_byteAt : Cond.selects RX12 yX12_byteAt yX12_byteAt ∈ mm_ws := mm_in 76 rfl rfl
theorem wM_X12_isBlank : mm_W yX12_isBlank cX12_isBlank 1 (some .boolean) 1 := ⟨mm_t_8 85 rfl rfl, wi_X12, ⟨by decide, by decide⟩, by decide +kernel, by decide⟩
theorem wT_X12_isBlank : Cond.static yX12_isBlank ∈ mm_ws := mm_t_8 84 rfl rfl
theorem wM_X12_behindComment : mm_W yX12_behindComment cX12_behindComment 3 (some .int) 1 := ⟨mm_t_8 89 rfl rfl, wi_X12, ⟨by decide, by decide⟩, by decide +kernel, by decide⟩
theorem wI_X12_behindComment : Cond.instanceMethod yX12_behindComment ∈ mm_ws := mm_t_8 88 rfl rfl
theorem wS_X12_behindComment : Cond.selects RX12 yX12_behindComment yX12_behindComment ∈ mm_ws := mm_in 77 rfl rfl
theorem wM_X12_isLetter : mm_W yX12_isLetter cX12_isLetter 1 (some .boolean) 1 := ⟨mm_t_8 92 rfl rfl, wi_X12, ⟨by decide, by decide⟩, by decide +kernel, by decide⟩
theorem wT_X12_isLetter : Cond.static yX12_isLetter ∈ mm_ws := mm_t_8 91 rfl rfl
theorem wM_X12_isPart : mm_W yX12_isPart cX12_isPart 1 (some .boolean) 1 := ⟨mm_t_8 95 rfl rfl, wi_X12, ⟨by decide, by decide⟩, by decide +kernel, by decide⟩
theorem wT_X12_isPart : Cond.static yX12_isPart ∈ mm_ws := mm_t_8 94 rfl rfl
theorem wM_X12_isDigit : mm_W yX12_isDigit cX12_isDigit 1 (some .boolean) 1 := ⟨mm_t_8 98 rfl rfl, wi_X12, ⟨by decide, by decide⟩, by decide +kernel, by decide⟩
theorem wT_X12_isDigit : Cond.static yX12_isDigit ∈ mm_ws := mm_t_8 97 rfl rfl
theorem wM_X12_readNumber : mm_W yX12_readNumber cX12_readNumber 4 none 0 := ⟨mm_t_8 102 rfl rfl, wi_X12, ⟨by decide, by decide⟩, by decide +kernel, by decide⟩
theorem wI_X12_readNumber : Cond.instanceMethod yX12_readNumber ∈ mm_ws := mm_t_8 101 rfl rfl
theorem wS_X12_readNumber : Cond.selects RX12 yX12_readNumber yX12_readNumber ∈ mm_ws := mm_in 78 rfl rfl
theorem wM_X12_sixteenth : mm_W yX12_sixteenth cX12_sixteenth 1 (some .int) 1 := ⟨mm_t_8 105 rfl rfl, wi_X12, ⟨by decide, by decide⟩, by decide +kernel, by decide⟩
theorem wT_X12_sixteenth : Cond.static yX12_sixteenth ∈ mm_ws := mm_t_8 104 rfl rfl
theorem wM_X12_readText : mm_W yX12_readText cX12_readText 2 none 0 := ⟨mm_t_8 110 rfl rfl, wi_X12, ⟨by decide, by decide⟩, by decide +kernel, by decide⟩
theorem wI_X12_readText : Cond.instanceMethod yX12_readText ∈ mm_ws := mm_t_8 109 rfl rfl
theorem wS_X12_readText : Cond.selects RX12 yX12_readText yX12_readText ∈ mm_ws := mm_in 79 rfl rfl
theorem wM_X12_takeWord : mm_W yX12_takeWord cX12_takeWord 3 none 1 := ⟨mm_t_8 115 rfl rfl, wi_X12, ⟨by decide, by decide⟩, by decide +kernel, by decide⟩
theorem wI_X12_takeWord : Cond.instanceMethod yX12_takeWord ∈ mm_ws := mm_t_8 114 rfl rfl
theorem wS_X12_takeWord : Cond.selects RX12 yX12_takeWord yX12_takeWord ∈ mm_ws := mm_in 80 rfl rfl
theorem wM_X12_isWord : mm_W yX12_isWord cX12_isWord 3 (some .boolean) 1 := ⟨mm_t_8 119 rfl rfl, wi_X12, ⟨by decide, by decide⟩, by decide +kernel, by decide⟩
theorem wI_X12_isWord : Cond.instanceMethod yX12_isWord ∈ mm_ws := mm_t_8 118 rfl rfl
theorem wS_X12_isWord : Cond.selects RX12 yX12_isWord yX12_isWord ∈ mm_ws := mm_in 81 rfl rfl
theorem wM_X12_isPlain : mm_W yX12_isPlain cX12_isPlain 6 (some .boolean) 3 := ⟨mm_t_8 123 rfl rfl, wi_X12, ⟨by decide, by decide⟩, by decide +kernel, by decide⟩
theorem wI_X12_isPlain : Cond.instanceMethod yX12_isPlain ∈ mm_ws := mm_t_8 122 rfl rfl
theorem wS_X12_isPlain : Cond.selects RX12 yX12_isPlain yX12_isPlain ∈ mm_ws := mm_in 82 rfl rfl
theorem wM_X12_letters : mm_W yX12_letters cX12_letters 3 (some .int) 1 := ⟨mm_t_8 126 rfl rfl, wi_X12, ⟨by decide, by decide⟩, by decide +kernel, by decide⟩
theorem wT_X12_letters : Cond.static yX12_letters ∈ mm_ws := mm_t_8 125 rfl rfl
theorem wM_X12_letter : mm_W yX12_letter cX12_letter 3 (some .int) 2 := ⟨mm_t_8 129 rfl rfl, wi_X12, ⟨by decide, by decide⟩, by decide +kernel, by decide⟩
theorem wT_X12_letter : Cond.static yX12_letter ∈ mm_ws := mm_t_8 128 rfl rfl
theorem wM_X12_next : mm_W yX12_next cX12_next 1 none 0 := ⟨mm_t_8 133 rfl rfl, wi_X12, ⟨by decide, by decide⟩, by decide +kernel, by decide⟩
theorem wI_X12_next : Cond.instanceMethod yX12_next ∈ mm_ws := mm_t_8 132 rfl rfl
theorem wS_X12_next : Cond.selects RX12 yX12_next yX12_next ∈ mm_ws := mm_in 83 rfl rfl
theorem wM_X12_fail : mm_W yX12_fail cX12_fail 3 none 2 := ⟨mm_t_8 137 rfl rfl, wi_X12, ⟨by decide, by decide⟩, by decide +kernel, by decide⟩
theorem wI_X12_fail : Cond.instanceMethod yX12_fail ∈ mm_ws := mm_t_8 136 rfl rfl
theorem wS_X12_fail : Cond.selects RX12 yX12_fail yX12_fail ∈ mm_ws := mm_in 84 rfl rfl
theorem wM_X12_takeSign : mm_W yX12_takeSign cX12_takeSign 2 none 1 := ⟨mm_t_8 141 rfl rfl, wi_X12, ⟨by decide, by decide⟩, by decide +kernel, by decide⟩
theorem wI_X12_takeSign : Cond.instanceMethod yX12_takeSign ∈ mm_ws := mm_t_8 140 rfl rfl
theorem wS_X12_takeSign : Cond.selects RX12 yX12_takeSign yX12_takeSign ∈ mm_ws := mm_in 85 rfl rfl
theorem wM_X12_isSign : mm_W yX12_isSign cX12_isSign 2 (some .boolean) 1 := ⟨mm_t_8 145 rfl rfl, wi_X12, ⟨by decide, by decide⟩, by decide +kernel, by decide⟩
theorem wI_X12_isSign : Cond.instanceMethod yX12_isSign ∈ mm_ws := mm_t_8 144 rfl rfl
theorem wS_X12_isSign : Cond.selects RX12 yX12_isSign yX12_isSign ∈ mm_ws := mm_in 86 rfl rfl
theorem wM_X12_isProto3 : mm_W yX12_isProto3 cX12_isProto3 1 (some .boolean) 0 := ⟨mm_t_8 149 rfl rfl, wi_X12, ⟨by decide, by decide⟩, by decide +kernel, by decide⟩
theorem wI_X12_isProto3 : Cond.instanceMethod yX12_isProto3 ∈ mm_ws := mm_t_8 148 rfl rfl
theorem wS_X12_isProto3 : Cond.selects RX12 yX12_isProto3 yX12_isProto3 ∈ mm_ws := mm_in 87 rfl rfl
theorem wM_X12_takeMember : mm_W yX12_takeMember cX12_takeMember 3 (some .int) 1 := ⟨mm_t_8 154 rfl rfl, wi_X12, ⟨by decide, by decide⟩, by decide +kernel, by decide⟩
theorem wI_X12_takeMember : Cond.instanceMethod yX12_takeMember ∈ mm_ws := mm_t_8 153 rfl rfl
theorem wS_X12_takeMember : Cond.selects RX12 yX12_takeMember yX12_takeMember ∈ mm_ws := mm_in 88 rfl rfl
theorem wM_X12_isForeign : mm_W yX12_isForeign cX12_isForeign 1 (some .boolean) 0 := ⟨mm_t_8 158 rfl rfl, wi_X12, ⟨by decide, by decide⟩, by decide +kernel, by decide⟩
theorem wI_X12_isForeign : Cond.instanceMethod yX12_isForeign ∈ mm_ws := mm_t_8 157 rfl rfl
theorem wS_X12_isForeign : Cond.selects RX12 yX12_isForeign yX12_isForeign ∈ mm_ws := mm_in 89 rfl rfl
theorem wM_X12_isExtensions : mm_W yX12_isExtensions cX12_isExtensions 1 (some .boolean) 0 := ⟨mm_t_8 171 rfl rfl, wi_X12, ⟨by decide, by decide⟩, by decide +kernel, by decide⟩
theorem wI_X12_isExtensions : Cond.instanceMethod yX12_isExtensions ∈ mm_ws := mm_t_8 170 rfl rfl
theorem wS_X12_isExtensions : Cond.selects RX12 yX12_isExtensions yX12_isExtensions ∈ mm_ws := mm_in 90 rfl rfl
theorem wM_X12_beginMessage : mm_W yX12_beginMessage cX12_beginMessage 3 (some .int) 1 := ⟨mm_t_8 180 rfl rfl, wi_X12, ⟨by decide, by decide⟩, by decide +kernel, by decide⟩
theorem wI_X12_beginMessage : Cond.instanceMethod yX12_beginMessage ∈ mm_ws := mm_t_8 179 rfl rfl
theorem wS_X12_beginMessage : Cond.selects RX12 yX12_beginMessage yX12_beginMessage ∈ mm_ws := mm_in 91 rfl rfl
theorem wM_X12_declare : mm_W yX12_declare cX12_declare 2 none 1 := ⟨mm_t_8 184 rfl rfl, wi_X12, ⟨by decide, by decide⟩, by decide +kernel, by decide⟩
theorem wI_X12_declare : Cond.instanceMethod yX12_declare ∈ mm_ws := mm_t_8 183 rfl rfl
theorem wS_X12_declare : Cond.selects RX12 yX12_declare yX12_declare ∈ mm_ws := mm_in 92 rfl rfl
theorem wM_X12_lastAt : mm_W yX12_lastAt cX12_lastAt 1 (some .int) 0 := ⟨mm_t_8 188 rfl rfl, wi_X12, ⟨by decide, by decide⟩, by decide +kernel, by decide⟩
theorem wI_X12_lastAt : Cond.instanceMethod yX12_lastAt ∈ mm_ws := mm_t_8 187 rfl rfl
theorem wS_X12_lastAt : Cond.selects RX12 yX12_lastAt yX12_lastAt ∈ mm_ws := mm_in 93 rfl rfl
theorem wM_X12_lastLong : mm_W yX12_lastLong cX12_lastLong 1 (some .int) 0 := ⟨mm_t_8 192 rfl rfl, wi_X12, ⟨by decide, by decide⟩, by decide +kernel, by decide⟩
theorem wI_X12_lastLong : Cond.instanceMethod yX12_lastLong ∈ mm_ws := mm_t_8 191 rfl rfl
theorem wS_X12_lastLong : Cond.selects RX12 yX12_lastLong yX12_lastLong ∈ mm_ws := mm_in 94 rfl rfl
theorem wM_X12_takeEnum : mm_W yX12_takeEnum cX12_takeEnum 3 none 1 := ⟨mm_t_8 197 rfl rfl, wi_X12, ⟨by decide, by decide⟩, by decide +kernel, by decide⟩
theorem wI_X12_takeEnum : Cond.instanceMethod yX12_takeEnum ∈ mm_ws := mm_t_8 196 rfl rfl
theorem wS_X12_takeEnum : Cond.selects RX12 yX12_takeEnum yX12_takeEnum ∈ mm_ws := mm_in 95 rfl rfl
theorem wM_X12_takeValue : mm_W yX12_takeValue cX12_takeValue 4 none 1 := ⟨mm_t_8 201 rfl rfl, wi_X12, ⟨by decide, by decide⟩, by decide +kernel, by decide⟩
theorem wI_X12_takeValue : Cond.instanceMethod yX12_takeValue ∈ mm_ws := mm_t_8 200 rfl rfl
theorem wS_X12_takeValue : Cond.selects RX12 yX12_takeValue yX12_takeValue ∈ mm_ws := mm_in 96 rfl rfl
theorem wM_X12_takeOneof : mm_W yX12_takeOneof cX12_takeOneof 4 none 1 := ⟨mm_t_8 206 rfl rfl, wi_X12, ⟨by decide, by decide⟩, by decide +kernel, by decide⟩
theorem wI_X12_takeOneof : Cond.instanceMethod yX12_takeOneof ∈ mm_ws := mm_t_8 205 rfl rfl
theorem wS_X12_takeOneof : Cond.selects RX12 yX12_takeOneof yX12_takeOneof ∈ mm_ws := mm_in 97 rfl rfl
theorem wM_X12_takeField : mm_W yX12_takeField cX12_takeField 4 none 2 := ⟨mm_t_8 210 rfl rfl, wi_X12, ⟨by decide, by decide⟩, by decide +kernel, by decide⟩
theorem wI_X12_takeField : Cond.instanceMethod yX12_takeField ∈ mm_ws := mm_t_8 209 rfl rfl
theorem wS_X12_takeField : Cond.selects RX12 yX12_takeField yX12_takeField ∈ mm_ws := mm_in 98 rfl rfl
theorem wM_X12_takeType : mm_W yX12_takeType cX12_takeType 2 none 1 := ⟨mm_t_8 215 rfl rfl, wi_X12, ⟨by decide, by decide⟩, by decide +kernel, by decide⟩
theorem wI_X12_takeType : Cond.instanceMethod yX12_takeType ∈ mm_ws := mm_t_8 214 rfl rfl
theorem wS_X12_takeType : Cond.selects RX12 yX12_takeType yX12_takeType ∈ mm_ws := mm_in 99 rfl rfl
theorem wM_X12_numberType : mm_W yX12_numberType cX12_numberType 1 (some .int) 0 := ⟨mm_t_8 219 rfl rfl, wi_X12, ⟨by decide, by decide⟩, by decide +kernel, by decide⟩
theorem wI_X12_numberType : Cond.instanceMethod yX12_numberType ∈ mm_ws := mm_t_8 218 rfl rfl
theorem wS_X12_numberType : Cond.selects RX12 yX12_numberType yX12_numberType ∈ mm_ws := mm_in 100 rfl rfl
theorem wM_X12_isReservedName : mm_W yX12_isReservedName cX12_isReservedName 1 (some .boolean) 0 := ⟨mm_t_8 236 rfl rfl, wi_X12, ⟨by decide, by decide⟩, by decide +kernel, by decide⟩
theorem wI_X12_isReservedName : Cond.instanceMethod yX12_isReservedName ∈ mm_ws := mm_t_8 235 rfl rfl
theorem wS_X12_isReservedName : Cond.selects RX12 yX12_isReservedName yX12_isReservedName ∈ mm_ws := mm_in 101 rfl rfl
theorem wM_X12_takeParts : mm_W yX12_takeParts cX12_takeParts 3 none 1 := ⟨mm_t_9 0 rfl rfl, wi_X12, ⟨by decide, by decide⟩, by decide +kernel, by decide⟩
theorem wI_X12_takeParts : Cond.instanceMethod yX12_takeParts ∈ mm_ws := mm_t_8 239 rfl rfl
theorem wS_X12_takeParts : Cond.selects RX12 yX12_takeParts yX12_takeParts ∈ mm_ws := mm_in 102 rfl rfl
theorem wM_X12_takePacked : mm_W yX12_takePacked cX12_takePacked 2 none 1 := ⟨mm_t_9 4 rfl rfl, wi_X12, ⟨by decide, by decide⟩, by decide +kernel, by decide⟩
theorem wI_X12_takePacked : Cond.instanceMethod yX12_takePacked ∈ mm_ws := mm_t_9 3 rfl rfl
theorem wS_X12_takePacked : Cond.selects RX12 yX12_takePacked yX12_takePacked ∈ mm_ws := mm_in 103 rfl rfl
theorem wM_X12_checkNames : mm_W yX12_checkNames cX12_checkNames 3 none 0 := ⟨mm_t_9 11 rfl rfl, wi_X12, ⟨by decide, by decide⟩, by decide +kernel, by decide⟩
theorem wI_X12_checkNames : Cond.instanceMethod yX12_checkNames ∈ mm_ws := mm_t_9 10 rfl rfl
theorem wS_X12_checkNames : Cond.selects RX12 yX12_checkNames yX12_checkNames ∈ mm_ws := mm_in 104 rfl rfl
theorem wM_X12_sameText : mm_W yX12_sameText cX12_sameText 6 (some .boolean) 4 := ⟨mm_t_9 15 rfl rfl, wi_X12, ⟨by decide, by decide⟩, by decide +kernel, by decide⟩
theorem wI_X12_sameText : Cond.instanceMethod yX12_sameText ∈ mm_ws := mm_t_9 14 rfl rfl
theorem wS_X12_sameText : Cond.selects RX12 yX12_sameText yX12_sameText ∈ mm_ws := mm_in 105 rfl rfl
theorem wM_X12_earlier : mm_W yX12_earlier cX12_earlier 3 none 2 := ⟨mm_t_9 19 rfl rfl, wi_X12, ⟨by decide, by decide⟩, by decide +kernel, by decide⟩
theorem wI_X12_earlier : Cond.instanceMethod yX12_earlier ∈ mm_ws := mm_t_9 18 rfl rfl
theorem wS_X12_earlier : Cond.selects RX12 yX12_earlier yX12_earlier ∈ mm_ws := mm_in 106 rfl rfl
theorem wM_X12_checkNumbers : mm_W yX12_checkNumbers cX12_checkNumbers 6 none 0 := ⟨mm_t_9 23 rfl rfl, wi_X12, ⟨by decide, by decide⟩, by decide +kernel, by decide⟩
theorem wI_X12_checkNumbers : Cond.instanceMethod yX12_checkNumbers ∈ mm_ws := mm_t_9 22 rfl rfl
theorem wS_X12_checkNumbers : Cond.selects RX12 yX12_checkNumbers yX12_checkNumbers ∈ mm_ws := mm_in 107 rfl rfl
theorem wM_X12_checkTypes : mm_W yX12_checkTypes cX12_checkTypes 2 none 0 := ⟨mm_t_9 32 rfl rfl, wi_X12, ⟨by decide, by decide⟩, by decide +kernel, by decide⟩
theorem wI_X12_checkTypes : Cond.instanceMethod yX12_checkTypes ∈ mm_ws := mm_t_9 31 rfl rfl
theorem wS_X12_checkTypes : Cond.selects RX12 yX12_checkTypes yX12_checkTypes ∈ mm_ws := mm_in 108 rfl rfl
theorem wM_X12_resolve : mm_W yX12_resolve cX12_resolve 5 none 1 := ⟨mm_t_9 36 rfl rfl, wi_X12, ⟨by decide, by decide⟩, by decide +kernel, by decide⟩
theorem wI_X12_resolve : Cond.instanceMethod yX12_resolve ∈ mm_ws := mm_t_9 35 rfl rfl
theorem wS_X12_resolve : Cond.selects RX12 yX12_resolve yX12_resolve ∈ mm_ws := mm_in 109 rfl rfl
theorem wM_X12_inScope : mm_W yX12_inScope cX12_inScope 4 (some .int) 2 := ⟨mm_t_9 40 rfl rfl, wi_X12, ⟨by decide, by decide⟩, by decide +kernel, by decide⟩
theorem wI_X12_inScope : Cond.instanceMethod yX12_inScope ∈ mm_ws := mm_t_9 39 rfl rfl
theorem wS_X12_inScope : Cond.selects RX12 yX12_inScope yX12_inScope ∈ mm_ws := mm_in 110 rfl rfl
theorem wM_X12_isNumbers : mm_W yX12_isNumbers cX12_isNumbers 1 (some .boolean) 1 := ⟨mm_t_9 43 rfl rfl, wi_X12, ⟨by decide, by decide⟩, by decide +kernel, by decide⟩
theorem wT_X12_isNumbers : Cond.static yX12_isNumbers ∈ mm_ws := mm_t_9 42 rfl rfl
theorem wM_X12_checkLimits : mm_W yX12_checkLimits cX12_checkLimits 3 none 0 := ⟨mm_t_9 47 rfl rfl, wi_X12, ⟨by decide, by decide⟩, by decide +kernel, by decide⟩
theorem wI_X12_checkLimits : Cond.instanceMethod yX12_checkLimits ∈ mm_ws := mm_t_9 46 rfl rfl
theorem wS_X12_checkLimits : Cond.selects RX12 yX12_checkLimits yX12_checkLimits ∈ mm_ws := mm_in 111 rfl rfl
theorem wM_X12_keep : mm_W yX12_keep cX12_keep 4 none 1 := ⟨mm_t_9 51 rfl rfl, wi_X12, ⟨by decide, by decide⟩, by decide +kernel, by decide⟩
theorem wI_X12_keep : Cond.instanceMethod yX12_keep ∈ mm_ws := mm_t_9 50 rfl rfl
theorem wS_X12_keep : Cond.selects RX12 yX12_keep yX12_keep ∈ mm_ws := mm_in 112 rfl rfl
theorem wM_X12_keepName : mm_W yX12_keepName cX12_keepName 5 (some .int) 2 := ⟨mm_t_9 55 rfl rfl, wi_X12, ⟨by decide, by decide⟩, by decide +kernel, by decide⟩
theorem wI_X12_keepName : Cond.instanceMethod yX12_keepName ∈ mm_ws := mm_t_9 54 rfl rfl
theorem wS_X12_keepName : Cond.selects RX12 yX12_keepName yX12_keepName ∈ mm_ws := mm_in 113 rfl rfl
theorem wM_X12_place : mm_W yX12_place cX12_place 1 (some .int) 0 := ⟨mm_t_9 59 rfl rfl, wi_X12, ⟨by decide, by decide⟩, by decide +kernel, by decide⟩
theorem wI_X12_place : Cond.instanceMethod yX12_place ∈ mm_ws := mm_t_9 57 rfl rfl
theorem wS_X12_place : Cond.selects RX12 yX12_place yX12_place ∈ mm_ws := mm_t_9 58 rfl rfl
theorem wM_X12_many : mm_W yX12_many cX12_many 3 (some .int) 2 := ⟨mm_t_9 63 rfl rfl, wi_X12, ⟨by decide, by decide⟩, by decide +kernel, by decide⟩
theorem wI_X12_many : Cond.instanceMethod yX12_many ∈ mm_ws := mm_t_9 61 rfl rfl
theorem wS_X12_many : Cond.selects RX12 yX12_many yX12_many ∈ mm_ws := mm_t_9 62 rfl rfl
theorem wM_X12_field : mm_W yX12_field cX12_field 6 (some .int) 4 := ⟨mm_t_9 67 rfl rfl, wi_X12, ⟨by decide, by decide⟩, by decide +kernel, by decide⟩
theorem wI_X12_field : Cond.instanceMethod yX12_field ∈ mm_ws := mm_t_9 65 rfl rfl
theorem wS_X12_field : Cond.selects RX12 yX12_field yX12_field ∈ mm_ws := mm_t_9 66 rfl rfl
theorem wM_X12_isMessage : mm_W yX12_isMessage cX12_isMessage 3 (some .boolean) 2 := ⟨mm_t_9 71 rfl rfl, wi_X12, ⟨by decide, by decide⟩, by decide +kernel, by decide⟩
theorem wI_X12_isMessage : Cond.instanceMethod yX12_isMessage ∈ mm_ws := mm_t_9 70 rfl rfl
theorem wS_X12_isMessage : Cond.selects RX12 yX12_isMessage yX12_isMessage ∈ mm_ws := mm_in 114 rfl rfl
theorem wM_X12_fieldAt : mm_W yX12_fieldAt cX12_fieldAt 7 (some .int) 3 := ⟨mm_t_9 75 rfl rfl, wi_X12, ⟨by decide, by decide⟩, by decide +kernel, by decide⟩
theorem wI_X12_fieldAt : Cond.instanceMethod yX12_fieldAt ∈ mm_ws := mm_t_9 74 rfl rfl
theorem wS_X12_fieldAt : Cond.selects RX12 yX12_fieldAt yX12_fieldAt ∈ mm_ws := mm_in 115 rfl rfl
theorem wM_X12_find : mm_W yX12_find cX12_find 7 (some .int) 1 := ⟨mm_t_9 79 rfl rfl, wi_X12, ⟨by decide, by decide⟩, by decide +kernel, by decide⟩
theorem wI_X12_find : Cond.instanceMethod yX12_find ∈ mm_ws := mm_t_9 77 rfl rfl
theorem wS_X12_find : Cond.selects RX12 yX12_find yX12_find ∈ mm_ws := mm_t_9 78 rfl rfl
theorem wM_X12_named : mm_W yX12_named cX12_named 5 (some .int) 3 := ⟨mm_t_9 83 rfl rfl, wi_X12, ⟨by decide, by decide⟩, by decide +kernel, by decide⟩
theorem wI_X12_named : Cond.instanceMethod yX12_named ∈ mm_ws := mm_t_9 82 rfl rfl
theorem wS_X12_named : Cond.selects RX12 yX12_named yX12_named ∈ mm_ws := mm_in 116 rfl rfl
theorem wM_X12_isTape : mm_W yX12_isTape cX12_isTape 5 (some .boolean) 3 := ⟨mm_t_9 87 rfl rfl, wi_X12, ⟨by decide, by decide⟩, by decide +kernel, by decide⟩
theorem wI_X12_isTape : Cond.instanceMethod yX12_isTape ∈ mm_ws := mm_t_9 86 rfl rfl
theorem wS_X12_isTape : Cond.selects RX12 yX12_isTape yX12_isTape ∈ mm_ws := mm_in 117 rfl rfl
theorem wM_X12_decode : mm_W yX12_decode cX12_decode 5 (some .int) 3 := ⟨mm_t_9 91 rfl rfl, wi_X12, ⟨by decide, by decide⟩, by decide +kernel, by decide⟩
theorem wI_X12_decode : Cond.instanceMethod yX12_decode ∈ mm_ws := mm_t_9 89 rfl rfl
theorem wS_X12_decode : Cond.selects RX12 yX12_decode yX12_decode ∈ mm_ws := mm_t_9 90 rfl rfl
theorem wM_X12_begins : mm_W yX12_begins cX12_begins 4 (some .boolean) 3 := ⟨mm_t_9 95 rfl rfl, wi_X12, ⟨by decide, by decide⟩, by decide +kernel, by decide⟩
theorem wI_X12_begins : Cond.instanceMethod yX12_begins ∈ mm_ws := mm_t_9 94 rfl rfl
theorem wS_X12_begins : Cond.selects RX12 yX12_begins yX12_begins ∈ mm_ws := mm_in 118 rfl rfl
theorem wM_X12_beginValue : mm_W yX12_beginValue cX12_beginValue 4 none 3 := ⟨mm_t_9 99 rfl rfl, wi_X12, ⟨by decide, by decide⟩, by decide +kernel, by decide⟩
theorem wI_X12_beginValue : Cond.instanceMethod yX12_beginValue ∈ mm_ws := mm_t_9 98 rfl rfl
theorem wS_X12_beginValue : Cond.selects RX12 yX12_beginValue yX12_beginValue ∈ mm_ws := mm_in 119 rfl rfl
theorem wM_X12_addNode : mm_W yX12_addNode cX12_addNode 5 (some .int) 3 := ⟨mm_t_9 103 rfl rfl, wi_X12, ⟨by decide, by decide⟩, by decide +kernel, by decide⟩
theorem wI_X12_addNode : Cond.instanceMethod yX12_addNode ∈ mm_ws := mm_t_9 102 rfl rfl
theorem wS_X12_addNode : Cond.selects RX12 yX12_addNode yX12_addNode ∈ mm_ws := mm_in 120 rfl rfl
theorem wM_X12_takeNext : mm_W yX12_takeNext cX12_takeNext 7 none 2 := ⟨mm_t_9 107 rfl rfl, wi_X12, ⟨by decide, by decide⟩, by decide +kernel, by decide⟩
theorem wI_X12_takeNext : Cond.instanceMethod yX12_takeNext ∈ mm_ws := mm_t_9 106 rfl rfl
theorem wS_X12_takeNext : Cond.selects RX12 yX12_takeNext yX12_takeNext ∈ mm_ws := mm_in 121 rfl rfl
theorem wM_X12_takeVarint : mm_W yX12_takeVarint cX12_takeVarint 4 none 1 := ⟨mm_t_9 111 rfl rfl, wi_X12, ⟨by decide, by decide⟩, by decide +kernel, by decide⟩
theorem wI_X12_takeVarint : Cond.instanceMethod yX12_takeVarint ∈ mm_ws := mm_t_9 110 rfl rfl
theorem wS_X12_takeVarint : Cond.selects RX12 yX12_takeVarint yX12_takeVarint ∈ mm_ws := mm_in 122 rfl rfl
theorem wM_X12_fieldNumbered : mm_W yX12_fieldNumbered cX12_fieldNumbered 4 (some .int) 2 := ⟨mm_t_9 117 rfl rfl, wi_X12, ⟨by decide, by decide⟩, by decide +kernel, by decide⟩
theorem wI_X12_fieldNumbered : Cond.instanceMethod yX12_fieldNumbered ∈ mm_ws := mm_t_9 116 rfl rfl
theorem wS_X12_fieldNumbered : Cond.selects RX12 yX12_fieldNumbered yX12_fieldNumbered ∈ mm_ws := mm_in 123 rfl rfl
theorem wM_X12_kindOf : mm_W yX12_kindOf cX12_kindOf 1 (some .int) 1 := ⟨mm_t_9 120 rfl rfl, wi_X12, ⟨by decide, by decide⟩, by decide +kernel, by decide⟩
theorem wT_X12_kindOf : Cond.static yX12_kindOf ∈ mm_ws := mm_t_9 119 rfl rfl
theorem wM_X12_takeLength : mm_W yX12_takeLength cX12_takeLength 7 none 3 := ⟨mm_t_9 124 rfl rfl, wi_X12, ⟨by decide, by decide⟩, by decide +kernel, by decide⟩
theorem wI_X12_takeLength : Cond.instanceMethod yX12_takeLength ∈ mm_ws := mm_t_9 123 rfl rfl
theorem wS_X12_takeLength : Cond.selects RX12 yX12_takeLength yX12_takeLength ∈ mm_ws := mm_in 124 rfl rfl
theorem wM_X12_putMessage : mm_W yX12_putMessage cX12_putMessage 4 (some .int) 2 := ⟨mm_t_9 128 rfl rfl, wi_X12, ⟨by decide, by decide⟩, by decide +kernel, by decide⟩
theorem wI_X12_putMessage : Cond.instanceMethod yX12_putMessage ∈ mm_ws := mm_t_9 127 rfl rfl
theorem wS_X12_putMessage : Cond.selects RX12 yX12_putMessage yX12_putMessage ∈ mm_ws := mm_in 125 rfl rfl
theorem wM_X12_rowFor : mm_W yX12_rowFor cX12_rowFor 5 (some .int) 2 := ⟨mm_t_9 132 rfl rfl, wi_X12, ⟨by decide, by decide⟩, by decide +kernel, by decide⟩
theorem wI_X12_rowFor : Cond.instanceMethod yX12_rowFor ∈ mm_ws := mm_t_9 131 rfl rfl
theorem wS_X12_rowFor : Cond.selects RX12 yX12_rowFor yX12_rowFor ∈ mm_ws := mm_in 126 rfl rfl
theorem wM_X12_addRow : mm_W yX12_addRow cX12_addRow 4 (some .int) 2 := ⟨mm_t_9 136 rfl rfl, wi_X12, ⟨by decide, by decide⟩, by decide +kernel, by decide⟩
theorem wI_X12_addRow : Cond.instanceMethod yX12_addRow ∈ mm_ws := mm_t_9 135 rfl rfl
theorem wS_X12_addRow : Cond.selects RX12 yX12_addRow yX12_addRow ∈ mm_ws := mm_in 127 rfl rfl
theorem wM_X12_rowOf : mm_W yX12_rowOf cX12_rowOf 4 (some .int) 2 := ⟨mm_t_9 140 rfl rfl, wi_X12, ⟨by decide, by decide⟩, by decide +kernel, by decide⟩
theorem wI_X12_rowOf : Cond.instanceMethod yX12_rowOf ∈ mm_ws := mm_t_9 139 rfl rfl
theorem wS_X12_rowOf : Cond.selects RX12 yX12_rowOf yX12_rowOf ∈ mm_ws := mm_in 128 rfl rfl
theorem wM_X12_putText : mm_W yX12_putText cX12_putText 6 none 3 := ⟨mm_t_9 144 rfl rfl, wi_X12, ⟨by decide, by decide⟩, by decide +kernel, by decide⟩
theorem wI_X12_putText : Cond.instanceMethod yX12_putText ∈ mm_ws := mm_t_9 143 rfl rfl
theorem wS_X12_putText : Cond.selects RX12 yX12_putText yX12_putText ∈ mm_ws := mm_in 129 rfl rfl
theorem wM_X12_isUtf8 : mm_W yX12_isUtf8 cX12_isUtf8 8 (some .boolean) 2 := ⟨mm_t_9 148 rfl rfl, wi_X12, ⟨by decide, by decide⟩, by decide +kernel, by decide⟩
theorem wI_X12_isUtf8 : Cond.instanceMethod yX12_isUtf8 ∈ mm_ws := mm_t_9 147 rfl rfl
theorem wS_X12_isUtf8 : Cond.selects RX12 yX12_isUtf8 yX12_isUtf8 ∈ mm_ws := mm_in 130 rfl rfl
theorem wM_X12_takeOne : mm_W yX12_takeOne cX12_takeOne 3 none 2 := ⟨mm_t_9 156 rfl rfl, wi_X12, ⟨by decide, by decide⟩, by decide +kernel, by decide⟩
theorem wI_X12_takeOne : Cond.instanceMethod yX12_takeOne ∈ mm_ws := mm_t_9 155 rfl rfl
theorem wS_X12_takeOne : Cond.selects RX12 yX12_takeOne yX12_takeOne ∈ mm_ws := mm_in 131 rfl rfl
theorem wM_X12_takeFixed : mm_W yX12_takeFixed cX12_takeFixed 4 none 2 := ⟨mm_t_9 160 rfl rfl, wi_X12, ⟨by decide, by decide⟩, by decide +kernel, by decide⟩
theorem wI_X12_takeFixed : Cond.instanceMethod yX12_takeFixed ∈ mm_ws := mm_t_9 159 rfl rfl
theorem wS_X12_takeFixed : Cond.selects RX12 yX12_takeFixed yX12_takeFixed ∈ mm_ws := mm_in 132 rfl rfl
theorem wM_X12_valueFor : mm_W yX12_valueFor cX12_valueFor 3 (some .long) 2 := ⟨mm_t_9 163 rfl rfl, wi_X12, ⟨by decide, by decide⟩, by decide +kernel, by decide⟩
theorem wT_X12_valueFor : Cond.static yX12_valueFor ∈ mm_ws := mm_t_9 162 rfl rfl
theorem wM_X12_putNumber : mm_W yX12_putNumber cX12_putNumber 6 none 3 := ⟨mm_t_9 167 rfl rfl, wi_X12, ⟨by decide, by decide⟩, by decide +kernel, by decide⟩
theorem wI_X12_putNumber : Cond.instanceMethod yX12_putNumber ∈ mm_ws := mm_t_9 166 rfl rfl
theorem wS_X12_putNumber : Cond.selects RX12 yX12_putNumber yX12_putNumber ∈ mm_ws := mm_in 133 rfl rfl
theorem wM_X12_skip : mm_W yX12_skip cX12_skip 3 none 2 := ⟨mm_t_9 171 rfl rfl, wi_X12, ⟨by decide, by decide⟩, by decide +kernel, by decide⟩
theorem wI_X12_skip : Cond.instanceMethod yX12_skip ∈ mm_ws := mm_t_9 170 rfl rfl
theorem wS_X12_skip : Cond.selects RX12 yX12_skip yX12_skip ∈ mm_ws := mm_in 134 rfl rfl
theorem wM_X12_addUnknown : mm_W yX12_addUnknown cX12_addUnknown 5 none 3 := ⟨mm_t_9 175 rfl rfl, wi_X12, ⟨by decide, by decide⟩, by decide +kernel, by decide⟩
theorem wI_X12_addUnknown : Cond.instanceMethod yX12_addUnknown ∈ mm_ws := mm_t_9 174 rfl rfl
theorem wS_X12_addUnknown : Cond.selects RX12 yX12_addUnknown yX12_addUnknown ∈ mm_ws := mm_in 135 rfl rfl
theorem wM_X12_finish : mm_W yX12_finish cX12_finish 2 (some .int) 0 := ⟨mm_t_9 179 rfl rfl, wi_X12, ⟨by decide, by decide⟩, by decide +kernel, by decide⟩
theorem wI_X12_finish : Cond.instanceMethod yX12_finish ∈ mm_ws := mm_t_9 178 rfl rfl
theorem wS_X12_finish : Cond.selects RX12 yX12_finish yX12_finish ∈ mm_ws := mm_in 136 rfl rfl
theorem wM_X12_liveValues : mm_W yX12_liveValues cX12_liveValues 3 (some .int) 0 := ⟨mm_t_9 183 rfl rfl, wi_X12, ⟨by decide, by decide⟩, by decide +kernel, by decide⟩
theorem wI_X12_liveValues : Cond.instanceMethod yX12_liveValues ∈ mm_ws := mm_t_9 182 rfl rfl
theorem wS_X12_liveValues : Cond.selects RX12 yX12_liveValues yX12_liveValues ∈ mm_ws := mm_in 137 rfl rfl
theorem wM_X12_liveBytes : mm_W yX12_liveBytes cX12_liveBytes 3 (some .int) 0 := ⟨mm_t_9 187 rfl rfl, wi_X12, ⟨by decide, by decide⟩, by decide +kernel, by decide⟩
theorem wI_X12_liveBytes : Cond.instanceMethod yX12_liveBytes ∈ mm_ws := mm_t_9 186 rfl rfl
theorem wS_X12_liveBytes : Cond.selects RX12 yX12_liveBytes yX12_liveBytes ∈ mm_ws := mm_in 138 rfl rfl
theorem wM_X12_encode : mm_W yX12_encode cX12_encode 1 (some .int) 0 := ⟨mm_t_9 191 rfl rfl, wi_X12, ⟨by decide, by decide⟩, by decide +kernel, by decide⟩
theorem wI_X12_encode : Cond.instanceMethod yX12_encode ∈ mm_ws := mm_t_9 189 rfl rfl
theorem wS_X12_encode : Cond.selects RX12 yX12_encode yX12_encode ∈ mm_ws := mm_t_9 190 rfl rfl
theorem wM_X12_emptyOut : mm_W yX12_emptyOut cX12_emptyOut 1 none 0 := ⟨mm_t_9 195 rfl rfl, wi_X12, ⟨by decide, by decide⟩, by decide +kernel, by decide⟩
theorem wI_X12_emptyOut : Cond.instanceMethod yX12_emptyOut ∈ mm_ws := mm_t_9 194 rfl rfl
theorem wS_X12_emptyOut : Cond.selects RX12 yX12_emptyOut yX12_emptyOut ∈ mm_ws := mm_in 139 rfl rfl
theorem wM_X12_measure : mm_W yX12_measure cX12_measure 5 none 0 := ⟨mm_t_9 199 rfl rfl, wi_X12, ⟨by decide, by decide⟩, by decide +kernel, by decide⟩
theorem wI_X12_measure : Cond.instanceMethod yX12_measure ∈ mm_ws := mm_t_9 198 rfl rfl
theorem wS_X12_measure : Cond.selects RX12 yX12_measure yX12_measure ∈ mm_ws := mm_in 140 rfl rfl
theorem wM_X12_rowBytes : mm_W yX12_rowBytes cX12_rowBytes 5 (some .int) 1 := ⟨mm_t_9 203 rfl rfl, wi_X12, ⟨by decide, by decide⟩, by decide +kernel, by decide⟩
theorem wI_X12_rowBytes : Cond.instanceMethod yX12_rowBytes ∈ mm_ws := mm_t_9 202 rfl rfl
theorem wS_X12_rowBytes : Cond.selects RX12 yX12_rowBytes yX12_rowBytes ∈ mm_ws := mm_in 141 rfl rfl
theorem wM_X12_tagOf : mm_W yX12_tagOf cX12_tagOf 3 (some .long) 2 := ⟨mm_t_9 207 rfl rfl, wi_X12, ⟨by decide, by decide⟩, by decide +kernel, by decide⟩
theorem wI_X12_tagOf : Cond.instanceMethod yX12_tagOf ∈ mm_ws := mm_t_9 206 rfl rfl
theorem wS_X12_tagOf : Cond.selects RX12 yX12_tagOf yX12_tagOf ∈ mm_ws := mm_in 142 rfl rfl
theorem wM_X12_varintBytes : mm_W yX12_varintBytes cX12_varintBytes 5 (some .int) 1 := ⟨mm_t_9 210 rfl rfl, wi_X12, ⟨by decide, by decide⟩, by decide +kernel, by decide⟩
theorem wT_X12_varintBytes : Cond.static yX12_varintBytes ∈ mm_ws := mm_t_9 209 rfl rfl
theorem wM_X12_kindBytes : mm_W yX12_kindBytes cX12_kindBytes 4 (some .int) 2 := ⟨mm_t_9 213 rfl rfl, wi_X12, ⟨by decide, by decide⟩, by decide +kernel, by decide⟩
theorem wT_X12_kindBytes : Cond.static yX12_kindBytes ∈ mm_ws := mm_t_9 212 rfl rfl
theorem wM_X12_varintOf : mm_W yX12_varintOf cX12_varintOf 3 (some .long) 2 := ⟨mm_t_9 216 rfl rfl, wi_X12, ⟨by decide, by decide⟩, by decide +kernel, by decide⟩
theorem wT_X12_varintOf : Cond.static yX12_varintOf ∈ mm_ws := mm_t_9 215 rfl rfl
theorem wM_X12_packedBytes : mm_W yX12_packedBytes cX12_packedBytes 5 (some .int) 2 := ⟨mm_t_9 220 rfl rfl, wi_X12, ⟨by decide, by decide⟩, by decide +kernel, by decide⟩
theorem wI_X12_packedBytes : Cond.instanceMethod yX12_packedBytes ∈ mm_ws := mm_t_9 219 rfl rfl
theorem wS_X12_packedBytes : Cond.selects RX12 yX12_packedBytes yX12_packedBytes ∈ mm_ws := mm_in 143 rfl rfl
theorem wM_X12_goInto : mm_W yX12_goInto cX12_goInto 2 none 1 := ⟨mm_t_9 224 rfl rfl, wi_X12, ⟨by decide, by decide⟩, by decide +kernel, by decide⟩
theorem wI_X12_goInto : Cond.instanceMethod yX12_goInto ∈ mm_ws := mm_t_9 223 rfl rfl
theorem wS_X12_goInto : Cond.selects RX12 yX12_goInto yX12_goInto ∈ mm_ws := mm_in 144 rfl rfl
theorem wM_X12_encodeStep : mm_W yX12_encodeStep cX12_encodeStep 6 none 0 := ⟨mm_t_9 228 rfl rfl, wi_X12, ⟨by decide, by decide⟩, by decide +kernel, by decide⟩
theorem wI_X12_encodeStep : Cond.instanceMethod yX12_encodeStep ∈ mm_ws := mm_t_9 227 rfl rfl
theorem wS_X12_encodeStep : Cond.selects RX12 yX12_encodeStep yX12_encodeStep ∈ mm_ws := mm_in 145 rfl rfl
theorem wM_X12_putUnknown : mm_W yX12_putUnknown cX12_putUnknown 4 none 1 := ⟨mm_t_9 232 rfl rfl, wi_X12, ⟨by decide, by decide⟩, by decide +kernel, by decide⟩
theorem wI_X12_putUnknown : Cond.instanceMethod yX12_putUnknown ∈ mm_ws := mm_t_9 231 rfl rfl
theorem wS_X12_putUnknown : Cond.selects RX12 yX12_putUnknown yX12_putUnknown ∈ mm_ws := mm_in 146 rfl rfl
theorem wM_X12_put : mm_W yX12_put cX12_put 2 none 1 := ⟨mm_t_9 236 rfl rfl, wi_X12, ⟨by decide, by decide⟩, by decide +kernel, by decide⟩
theorem wI_X12_put : Cond.instanceMethod yX12_put ∈ mm_ws := mm_t_9 235 rfl rfl
theorem wS_X12_put : Cond.selects RX12 yX12_put yX12_put ∈ mm_ws := mm_in 147 rfl rfl
theorem wM_X12_nextRow : mm_W yX12_nextRow cX12_nextRow 5 (some .int) 3 := ⟨mm_t_10 0 rfl rfl, wi_X12, ⟨by decide, by decide⟩, by decide +kernel, by decide⟩
theorem wI_X12_nextRow : Cond.instanceMethod yX12_nextRow ∈ mm_ws := mm_t_9 239 rfl rfl
theorem wS_X12_nextRow : Cond.selects RX12 yX12_nextRow yX12_nextRow ∈ mm_ws := mm_in 148 rfl rfl
theorem wM_X12_putPacked : mm_W yX12_putPacked cX12_putPacked 5 none 2 := ⟨mm_t_10 4 rfl rfl, wi_X12, ⟨by decide, by decide⟩, by decide +kernel, by decide⟩
theorem wI_X12_putPacked : Cond.instanceMethod yX12_putPacked ∈ mm_ws := mm_t_10 3 rfl rfl
theorem wS_X12_putPacked : Cond.selects RX12 yX12_putPacked yX12_putPacked ∈ mm_ws := mm_in 149 rfl rfl
theorem wM_X12_putVarint : mm_W yX12_putVarint cX12_putVarint 5 none 1 := ⟨mm_t_10 8 rfl rfl, wi_X12, ⟨by decide, by decide⟩, by decide +kernel, by decide⟩
theorem wI_X12_putVarint : Cond.instanceMethod yX12_putVarint ∈ mm_ws := mm_t_10 7 rfl rfl
theorem wS_X12_putVarint : Cond.selects RX12 yX12_putVarint yX12_putVarint ∈ mm_ws := mm_in 150 rfl rfl
theorem wM_X12_putOne : mm_W yX12_putOne cX12_putOne 6 none 2 := ⟨mm_t_10 14 rfl rfl, wi_X12, ⟨by decide, by decide⟩, by decide +kernel, by decide⟩
theorem wI_X12_putOne : Cond.instanceMethod yX12_putOne ∈ mm_ws := mm_t_10 13 rfl rfl
theorem wS_X12_putOne : Cond.selects RX12 yX12_putOne yX12_putOne ∈ mm_ws := mm_in 151 rfl rfl
theorem wM_X12_print : mm_W yX12_print cX12_print 1 (some .int) 0 := ⟨mm_t_10 18 rfl rfl, wi_X12, ⟨by decide, by decide⟩, by decide +kernel, by decide⟩
theorem wI_X12_print : Cond.instanceMethod yX12_print ∈ mm_ws := mm_t_10 16 rfl rfl
theorem wS_X12_print : Cond.selects RX12 yX12_print yX12_print ∈ mm_ws := mm_t_10 17 rfl rfl
theorem wM_X12_printStep : mm_W yX12_printStep cX12_printStep 5 none 0 := ⟨mm_t_10 22 rfl rfl, wi_X12, ⟨by decide, by decide⟩, by decide +kernel, by decide⟩
theorem wI_X12_printStep : Cond.instanceMethod yX12_printStep ∈ mm_ws := mm_t_10 21 rfl rfl
theorem wS_X12_printStep : Cond.selects RX12 yX12_printStep yX12_printStep ∈ mm_ws := mm_in 152 rfl rfl
theorem wM_X12_blanks : mm_W yX12_blanks cX12_blanks 3 none 1 := ⟨mm_t_10 26 rfl rfl, wi_X12, ⟨by decide, by decide⟩, by decide +kernel, by decide⟩
theorem wI_X12_blanks : Cond.instanceMethod yX12_blanks ∈ mm_ws := mm_t_10 25 rfl rfl
theorem wS_X12_blanks : Cond.selects RX12 yX12_blanks yX12_blanks ∈ mm_ws := mm_in 153 rfl rfl
theorem wM_X12_putName : mm_W yX12_putName cX12_putName 4 none 2 := ⟨mm_t_10 30 rfl rfl, wi_X12, ⟨by decide, by decide⟩, by decide +kernel, by decide⟩
theorem wI_X12_putName : Cond.instanceMethod yX12_putName ∈ mm_ws := mm_t_10 29 rfl rfl
theorem wS_X12_putName : Cond.selects RX12 yX12_putName yX12_putName ∈ mm_ws := mm_in 154 rfl rfl
theorem wM_X12_putWord : mm_W yX12_putWord cX12_putWord 4 none 1 := ⟨mm_t_10 35 rfl rfl, wi_X12, ⟨by decide, by decide⟩, by decide +kernel, by decide⟩
theorem wI_X12_putWord : Cond.instanceMethod yX12_putWord ∈ mm_ws := mm_t_10 34 rfl rfl
theorem wS_X12_putWord : Cond.selects RX12 yX12_putWord yX12_putWord ∈ mm_ws := mm_in 155 rfl rfl
theorem wM_X12_putPlain : mm_W yX12_putPlain cX12_putPlain 5 none 1 := ⟨mm_t_10 40 rfl rfl, wi_X12, ⟨by decide, by decide⟩, by decide +kernel, by decide⟩
theorem wI_X12_putPlain : Cond.instanceMethod yX12_putPlain ∈ mm_ws := mm_t_10 39 rfl rfl
theorem wS_X12_putPlain : Cond.selects RX12 yX12_putPlain yX12_putPlain ∈ mm_ws := mm_in 156 rfl rfl
theorem wM_X12_valueNumbered : mm_W yX12_valueNumbered cX12_valueNumbered 5 (some .int) 2 := ⟨mm_t_10 44 rfl rfl, wi_X12, ⟨by decide, by decide⟩, by decide +kernel, by decide⟩
theorem wI_X12_valueNumbered : Cond.instanceMethod yX12_valueNumbered ∈ mm_ws := mm_t_10 43 rfl rfl
theorem wS_X12_valueNumbered : Cond.selects RX12 yX12_valueNumbered yX12_valueNumbered ∈ mm_ws := mm_in 157 rfl rfl
theorem wM_X12_putText_ : mm_W yX12_putText_ cX12_putText_ 5 none 2 := ⟨mm_t_10 48 rfl rfl, wi_X12, ⟨by decide, by decide⟩, by decide +kernel, by decide⟩
theorem wI_X12_putText_ : Cond.instanceMethod yX12_putText_ ∈ mm_ws := mm_t_10 47 rfl rfl
theorem wS_X12_putText_ : Cond.selects RX12 yX12_putText_ yX12_putText_ ∈ mm_ws := mm_in 158 rfl rfl
theorem wM_X12_putDecimal : mm_W yX12_putDecimal cX12_putDecimal 8 none 1 := ⟨mm_t_10 52 rfl rfl, wi_X12, ⟨by decide, by decide⟩, by decide +kernel, by decide⟩
theorem wI_X12_putDecimal : Cond.instanceMethod yX12_putDecimal ∈ mm_ws := mm_t_10 51 rfl rfl
theorem wS_X12_putDecimal : Cond.selects RX12 yX12_putDecimal yX12_putDecimal ∈ mm_ws := mm_in 159 rfl rfl
theorem wM_X12_putSigned : mm_W yX12_putSigned cX12_putSigned 3 none 1 := ⟨mm_t_10 58 rfl rfl, wi_X12, ⟨by decide, by decide⟩, by decide +kernel, by decide⟩
theorem wI_X12_putSigned : Cond.instanceMethod yX12_putSigned ∈ mm_ws := mm_t_10 57 rfl rfl
theorem wS_X12_putSigned : Cond.selects RX12 yX12_putSigned yX12_putSigned ∈ mm_ws := mm_in 160 rfl rfl
theorem wM_X12_parse : mm_W yX12_parse cX12_parse 4 (some .int) 3 := ⟨mm_t_10 62 rfl rfl, wi_X12, ⟨by decide, by decide⟩, by decide +kernel, by decide⟩
theorem wI_X12_parse : Cond.instanceMethod yX12_parse ∈ mm_ws := mm_t_10 60 rfl rfl
theorem wS_X12_parse : Cond.selects RX12 yX12_parse yX12_parse ∈ mm_ws := mm_t_10 61 rfl rfl
theorem wM_X12_parseNext : mm_W yX12_parseNext cX12_parseNext 5 none 0 := ⟨mm_t_10 66 rfl rfl, wi_X12, ⟨by decide, by decide⟩, by decide +kernel, by decide⟩
theorem wI_X12_parseNext : Cond.instanceMethod yX12_parseNext ∈ mm_ws := mm_t_10 65 rfl rfl
theorem wS_X12_parseNext : Cond.selects RX12 yX12_parseNext yX12_parseNext ∈ mm_ws := mm_in 161 rfl rfl
theorem wM_X12_textBlanks : mm_W yX12_textBlanks cX12_textBlanks 3 (some .int) 1 := ⟨mm_t_10 70 rfl rfl, wi_X12, ⟨by decide, by decide⟩, by decide +kernel, by decide⟩
theorem wI_X12_textBlanks : Cond.instanceMethod yX12_textBlanks ∈ mm_ws := mm_t_10 69 rfl rfl
theorem wS_X12_textBlanks : Cond.selects RX12 yX12_textBlanks yX12_textBlanks ∈ mm_ws := mm_in 162 rfl rfl
theorem wM_X12_nameEnd : mm_W yX12_nameEnd cX12_nameEnd 3 (some .int) 1 := ⟨mm_t_10 74 rfl rfl, wi_X12, ⟨by decide, by decide⟩, by decide +kernel, by decide⟩
theorem wI_X12_nameEnd : Cond.instanceMethod yX12_nameEnd ∈ mm_ws := mm_t_10 73 rfl rfl
theorem wS_X12_nameEnd : Cond.selects RX12 yX12_nameEnd yX12_nameEnd ∈ mm_ws := mm_in 163 rfl rfl
theorem wM_X12_fieldNamed : mm_W yX12_fieldNamed cX12_fieldNamed 5 (some .int) 3 := ⟨mm_t_10 78 rfl rfl, wi_X12, ⟨by decide, by decide⟩, by decide +kernel, by decide⟩
theorem wI_X12_fieldNamed : Cond.instanceMethod yX12_fieldNamed ∈ mm_ws := mm_t_10 77 rfl rfl
theorem wS_X12_fieldNamed : Cond.selects RX12 yX12_fieldNamed yX12_fieldNamed ∈ mm_ws := mm_in 164 rfl rfl
theorem wM_X12_isNamed : mm_W yX12_isNamed cX12_isNamed 6 (some .boolean) 4 := ⟨mm_t_10 82 rfl rfl, wi_X12, ⟨by decide, by decide⟩, by decide +kernel, by decide⟩
theorem wI_X12_isNamed : Cond.instanceMethod yX12_isNamed ∈ mm_ws := mm_t_10 81 rfl rfl
theorem wS_X12_isNamed : Cond.selects RX12 yX12_isNamed yX12_isNamed ∈ mm_ws := mm_in 165 rfl rfl
theorem wM_X12_toldBefore : mm_W yX12_toldBefore cX12_toldBefore 4 (some .boolean) 2 := ⟨mm_t_10 86 rfl rfl, wi_X12, ⟨by decide, by decide⟩, by decide +kernel, by decide⟩
theorem wI_X12_toldBefore : Cond.instanceMethod yX12_toldBefore ∈ mm_ws := mm_t_10 85 rfl rfl
theorem wS_X12_toldBefore : Cond.selects RX12 yX12_toldBefore yX12_toldBefore ∈ mm_ws := mm_in 166 rfl rfl
theorem wM_X12_parsePlain : mm_W yX12_parsePlain cX12_parsePlain 5 none 2 := ⟨mm_t_10 90 rfl rfl, wi_X12, ⟨by decide, by decide⟩, by decide +kernel, by decide⟩
theorem wI_X12_parsePlain : Cond.instanceMethod yX12_parsePlain ∈ mm_ws := mm_t_10 89 rfl rfl
theorem wS_X12_parsePlain : Cond.selects RX12 yX12_parsePlain yX12_parsePlain ∈ mm_ws := mm_in 167 rfl rfl
theorem wM_X12_parseText : mm_W yX12_parseText cX12_parseText 6 none 2 := ⟨mm_t_10 94 rfl rfl, wi_X12, ⟨by decide, by decide⟩, by decide +kernel, by decide⟩
theorem wI_X12_parseText : Cond.instanceMethod yX12_parseText ∈ mm_ws := mm_t_10 93 rfl rfl
theorem wS_X12_parseText : Cond.selects RX12 yX12_parseText yX12_parseText ∈ mm_ws := mm_in 168 rfl rfl
theorem wM_X12_parseEscape : mm_W yX12_parseEscape cX12_parseEscape 4 none 0 := ⟨mm_t_10 98 rfl rfl, wi_X12, ⟨by decide, by decide⟩, by decide +kernel, by decide⟩
theorem wI_X12_parseEscape : Cond.instanceMethod yX12_parseEscape ∈ mm_ws := mm_t_10 97 rfl rfl
theorem wS_X12_parseEscape : Cond.selects RX12 yX12_parseEscape yX12_parseEscape ∈ mm_ws := mm_in 169 rfl rfl
theorem wM_X12_isEight : mm_W yX12_isEight cX12_isEight 2 (some .boolean) 1 := ⟨mm_t_10 102 rfl rfl, wi_X12, ⟨by decide, by decide⟩, by decide +kernel, by decide⟩
theorem wI_X12_isEight : Cond.instanceMethod yX12_isEight ∈ mm_ws := mm_t_10 101 rfl rfl
theorem wS_X12_isEight : Cond.selects RX12 yX12_isEight yX12_isEight ∈ mm_ws := mm_in 170 rfl rfl
theorem wM_X12_parseName : mm_W yX12_parseName cX12_parseName 9 none 2 := ⟨mm_t_10 106 rfl rfl, wi_X12, ⟨by decide, by decide⟩, by decide +kernel, by decide⟩
theorem wI_X12_parseName : Cond.instanceMethod yX12_parseName ∈ mm_ws := mm_t_10 105 rfl rfl
theorem wS_X12_parseName : Cond.selects RX12 yX12_parseName yX12_parseName ∈ mm_ws := mm_in 171 rfl rfl
theorem wM_X12_parseNumber : mm_W yX12_parseNumber cX12_parseNumber 11 none 2 := ⟨mm_t_10 111 rfl rfl, wi_X12, ⟨by decide, by decide⟩, by decide +kernel, by decide⟩
theorem wI_X12_parseNumber : Cond.instanceMethod yX12_parseNumber ∈ mm_ws := mm_t_10 110 rfl rfl
theorem wS_X12_parseNumber : Cond.selects RX12 yX12_parseNumber yX12_parseNumber ∈ mm_ws := mm_in 172 rfl rfl
theorem wM_X12_above : mm_W yX12_above cX12_above 4 (some .boolean) 2 := ⟨mm_t_10 115 rfl rfl, wi_X12, ⟨by decide, by decide⟩, by decide +kernel, by decide⟩
theorem wT_X12_above : Cond.static yX12_above ∈ mm_ws := mm_t_10 114 rfl rfl
theorem wM_X12_leastOf : mm_W yX12_leastOf cX12_leastOf 1 (some .long) 1 := ⟨mm_t_10 118 rfl rfl, wi_X12, ⟨by decide, by decide⟩, by decide +kernel, by decide⟩
theorem wT_X12_leastOf : Cond.static yX12_leastOf ∈ mm_ws := mm_t_10 117 rfl rfl
theorem wM_X12_mostOf : mm_W yX12_mostOf cX12_mostOf 1 (some .long) 1 := ⟨mm_t_10 122 rfl rfl, wi_X12, ⟨by decide, by decide⟩, by decide +kernel, by decide⟩
theorem wT_X12_mostOf : Cond.static yX12_mostOf ∈ mm_ws := mm_t_10 121 rfl rfl
theorem wM_X12_check : mm_W yX12_check cX12_check 5 (some .int) 2 := ⟨mm_t_10 127 rfl rfl, wi_X12, ⟨by decide, by decide⟩, by decide +kernel, by decide⟩
theorem wI_X12_check : Cond.instanceMethod yX12_check ∈ mm_ws := mm_t_10 125 rfl rfl
theorem wS_X12_check : Cond.selects RX12 yX12_check yX12_check ∈ mm_ws := mm_t_10 126 rfl rfl
theorem wM_X12_open : mm_W yX12_open cX12_open 3 none 2 := ⟨mm_t_10 131 rfl rfl, wi_X12, ⟨by decide, by decide⟩, by decide +kernel, by decide⟩
theorem wI_X12_open : Cond.instanceMethod yX12_open ∈ mm_ws := mm_t_10 130 rfl rfl
theorem wS_X12_open : Cond.selects RX12 yX12_open yX12_open ∈ mm_ws := mm_in 173 rfl rfl
theorem wM_X12_checkStep : mm_W yX12_checkStep cX12_checkStep 5 (some .int) 0 := ⟨mm_t_10 135 rfl rfl, wi_X12, ⟨by decide, by decide⟩, by decide +kernel, by decide⟩
theorem wI_X12_checkStep : Cond.instanceMethod yX12_checkStep ∈ mm_ws := mm_t_10 134 rfl rfl
theorem wS_X12_checkStep : Cond.selects RX12 yX12_checkStep yX12_checkStep ∈ mm_ws := mm_in 174 rfl rfl
theorem wM_X12_freshNumbered : mm_W yX12_freshNumbered cX12_freshNumbered 4 (some .int) 2 := ⟨mm_t_10 139 rfl rfl, wi_X12, ⟨by decide, by decide⟩, by decide +kernel, by decide⟩
theorem wI_X12_freshNumbered : Cond.instanceMethod yX12_freshNumbered ∈ mm_ws := mm_t_10 138 rfl rfl
theorem wS_X12_freshNumbered : Cond.selects RX12 yX12_freshNumbered yX12_freshNumbered ∈ mm_ws := mm_in 175 rfl rfl
theorem wM_X12_joined : mm_W yX12_joined cX12_joined 8 (some .boolean) 4 := ⟨mm_t_10 143 rfl rfl, wi_X12, ⟨by decide, by decide⟩, by decide +kernel, by decide⟩
theorem wI_X12_joined : Cond.instanceMethod yX12_joined ∈ mm_ws := mm_t_10 142 rfl rfl
theorem wS_X12_joined : Cond.selects RX12 yX12_joined yX12_joined ∈ mm_ws := mm_in 176 rfl rfl
theorem wM_X12_widens : mm_W yX12_widens cX12_widens 2 (some .boolean) 2 := ⟨mm_t_10 146 rfl rfl, wi_X12, ⟨by decide, by decide⟩, by decide +kernel, by decide⟩
theorem wT_X12_widens : Cond.static yX12_widens ∈ mm_ws := mm_t_10 145 rfl rfl
theorem wj_Math : Cond.initialized "java/lang/Math" ∈ mm_ws := mm_t_1 3 rfl rfl
theorem wj_Throwable : Cond.initialized "java/lang/Throwable" ∈ mm_ws := mm_t_1 15 rfl rfl
theorem wj_Exception : Cond.initialized "java/lang/Exception" ∈ mm_ws := mm_t_1 16 rfl rfl
theorem wj_RuntimeException : Cond.initialized "java/lang/RuntimeException" ∈ mm_ws := mm_t_1 17 rfl rfl
theorem wj_IllegalArgumentException : Cond.initialized "java/lang/IllegalArgumentException" ∈ mm_ws := mm_t_1 18 rfl rfl
theorem wj_IllegalStateException : Cond.initialized "java/lang/IllegalStateException" ∈ mm_ws := mm_t_1 19 rfl rfl
theorem wj_String : Cond.initialized "java/lang/String" ∈ mm_ws := mm_t_1 20 rfl rfl
theorem wj_StringLatin1 : Cond.initialized "java/lang/StringLatin1" ∈ mm_ws := mm_t_1 21 rfl rfl
theorem wj_StringUTF16 : Cond.initialized "java/lang/StringUTF16" ∈ mm_ws := mm_t_1 23 rfl rfl
theorem wj_System : Cond.initialized "java/lang/System" ∈ mm_ws := mm_t_1 24 rfl rfl
theorem wj_UnsupportedOperationException : Cond.initialized "java/lang/UnsupportedOperationException" ∈ mm_ws := mm_t_1 25 rfl rfl
theorem wj_IndexOutOfBoundsException : Cond.initialized "java/lang/IndexOutOfBoundsException" ∈ mm_ws := mm_t_1 26 rfl rfl
theorem kC_L_8 : Cond.classLink RL 8 RX11 ∈ mm_ws := mm_t_1 27 rfl rfl
theorem kM_L_60 : Cond.methodLink RL 60 yX11_init ∈ mm_ws := mm_t_1 29 rfl rfl
theorem kM_X11_1 : Cond.methodLink RX11 1 objectInit ∈ mm_ws := mm_t_1 32 rfl rfl
theorem kC_X11_7 : Cond.classLink RX11 7 RX0 ∈ mm_ws := mm_t_1 35 rfl rfl
theorem kM_X11_11 : Cond.methodLink RX11 11 yX0_init ∈ mm_ws := mm_t_1 37 rfl rfl
theorem kM_X0_1 : Cond.methodLink RX0 1 objectInit ∈ mm_ws := mm_t_1 40 rfl rfl
theorem kF_X0_13 : Cond.fieldLink RX0 13 RX0 "row" "[B" ∈ mm_ws := mm_t_1 44 rfl rfl
theorem kF_X0_19 : Cond.fieldLink RX0 19 RX0 "size" "I" ∈ mm_ws := mm_t_1 45 rfl rfl
theorem kF_X0_23 : Cond.fieldLink RX0 23 RX0 "spilt" "Z" ∈ mm_ws := mm_t_1 46 rfl rfl
theorem wA_byte : Cond.arrayClass .byte ∈ mm_ws := mm_t_1 54 rfl rfl
theorem kC_X11_21 : Cond.classLink RX11 21 RX2 ∈ mm_ws := mm_t_1 55 rfl rfl
theorem kM_X11_23 : Cond.methodLink RX11 23 yX2_init ∈ mm_ws := mm_t_1 57 rfl rfl
theorem kM_X2_3 : Cond.methodLink RX2 3 objectInit ∈ mm_ws := mm_t_1 60 rfl rfl
theorem kC_X2_9 : Cond.classLink RX2 9 RX6 ∈ mm_ws := mm_t_1 61 rfl rfl
theorem kM_X2_11 : Cond.methodLink RX2 11 yX6_init ∈ mm_ws := mm_t_1 63 rfl rfl
theorem kM_X6_3 : Cond.methodLink RX6 3 objectInit ∈ mm_ws := mm_t_1 66 rfl rfl
theorem kC_X6_9 : Cond.classLink RX6 9 RX0 ∈ mm_ws := mm_t_1 67 rfl rfl
theorem kM_X6_11 : Cond.methodLink RX6 11 yX0_init ∈ mm_ws := mm_t_1 68 rfl rfl
theorem kC_X6_20 : Cond.classLink RX6 20 RX3 ∈ mm_ws := mm_t_1 69 rfl rfl
theorem kM_X6_26 : Cond.methodLink RX6 26 yX3_init ∈ mm_ws := mm_t_1 72 rfl rfl
theorem kM_X3_3 : Cond.methodLink RX3 3 objectInit ∈ mm_ws := mm_t_1 75 rfl rfl
theorem kF_X3_9 : Cond.fieldLink RX3 9 RX3 "kind" "I" ∈ mm_ws := mm_t_1 76 rfl rfl
theorem kF_X2_88 : Cond.fieldLinkNest RX2 88 RX3 "kind" "I" "ProtoDesk" ∈ mm_nest := mm_tN_1 77 rfl rfl
theorem kF_X6_49 : Cond.fieldLinkNest RX6 49 RX3 "kind" "I" "ProtoDesk" ∈ mm_nest := mm_tN_1 78 rfl rfl
theorem kF_X3_15 : Cond.fieldLink RX3 15 RX3 "index" "I" ∈ mm_ws := mm_t_1 79 rfl rfl
theorem kF_X1_44 : Cond.fieldLinkNest RX1 44 RX3 "index" "I" "ProtoDesk" ∈ mm_nest := mm_tN_1 80 rfl rfl
theorem kF_X11_140 : Cond.fieldLinkNest RX11 140 RX3 "index" "I" "ProtoDesk" ∈ mm_nest := mm_tN_1 81 rfl rfl
theorem kF_X6_52 : Cond.fieldLinkNest RX6 52 RX3 "index" "I" "ProtoDesk" ∈ mm_nest := mm_tN_1 82 rfl rfl
theorem kF_X3_18 : Cond.fieldLink RX3 18 RX3 "scope" "LProtoDesk$Item;" ∈ mm_ws := mm_t_1 83 rfl rfl
theorem kF_X1_83 : Cond.fieldLinkNest RX1 83 RX3 "scope" "LProtoDesk$Item;" "ProtoDesk" ∈ mm_nest := mm_tN_1 84 rfl rfl
theorem kF_X2_121 : Cond.fieldLinkNest RX2 121 RX3 "scope" "LProtoDesk$Item;" "ProtoDesk" ∈ mm_nest := mm_tN_1 85 rfl rfl
theorem kF_X5_93 : Cond.fieldLinkNest RX5 93 RX3 "scope" "LProtoDesk$Item;" "ProtoDesk" ∈ mm_nest := mm_tN_1 86 rfl rfl
theorem kF_X6_65 : Cond.fieldLinkNest RX6 65 RX3 "scope" "LProtoDesk$Item;" "ProtoDesk" ∈ mm_nest := mm_tN_1 87 rfl rfl
theorem kF_X3_22 : Cond.fieldLink RX3 22 RX3 "owner" "LProtoDesk$Item;" ∈ mm_ws := mm_t_1 88 rfl rfl
theorem kF_X4_42 : Cond.fieldLinkNest RX4 42 RX3 "owner" "LProtoDesk$Item;" "ProtoDesk" ∈ mm_nest := mm_tN_1 89 rfl rfl
theorem kF_X1_80 : Cond.fieldLinkNest RX1 80 RX3 "owner" "LProtoDesk$Item;" "ProtoDesk" ∈ mm_nest := mm_tN_1 90 rfl rfl
theorem kF_X11_150 : Cond.fieldLinkNest RX11 150 RX3 "owner" "LProtoDesk$Item;" "ProtoDesk" ∈ mm_nest := mm_tN_1 91 rfl rfl
theorem kF_X8_75 : Cond.fieldLinkNest RX8 75 RX3 "owner" "LProtoDesk$Item;" "ProtoDesk" ∈ mm_nest := mm_tN_1 92 rfl rfl
theorem kF_X2_169 : Cond.fieldLinkNest RX2 169 RX3 "owner" "LProtoDesk$Item;" "ProtoDesk" ∈ mm_nest := mm_tN_1 93 rfl rfl
theorem kF_X3_25 : Cond.fieldLink RX3 25 RX3 "nameAt" "I" ∈ mm_ws := mm_t_1 94 rfl rfl
theorem kF_X2_111 : Cond.fieldLinkNest RX2 111 RX3 "nameAt" "I" "ProtoDesk" ∈ mm_nest := mm_tN_1 95 rfl rfl
theorem kF_X11_156 : Cond.fieldLinkNest RX11 156 RX3 "nameAt" "I" "ProtoDesk" ∈ mm_nest := mm_tN_1 96 rfl rfl
theorem kF_X6_58 : Cond.fieldLinkNest RX6 58 RX3 "nameAt" "I" "ProtoDesk" ∈ mm_nest := mm_tN_1 97 rfl rfl
theorem kF_X7_214 : Cond.fieldLinkNest RX7 214 RX3 "nameAt" "I" "ProtoDesk" ∈ mm_nest := mm_tN_1 98 rfl rfl
theorem kF_X3_28 : Cond.fieldLink RX3 28 RX3 "nameEnd" "I" ∈ mm_ws := mm_t_1 99 rfl rfl
theorem kF_X11_153 : Cond.fieldLinkNest RX11 153 RX3 "nameEnd" "I" "ProtoDesk" ∈ mm_nest := mm_tN_1 100 rfl rfl
theorem kF_X2_125 : Cond.fieldLinkNest RX2 125 RX3 "nameEnd" "I" "ProtoDesk" ∈ mm_nest := mm_tN_1 101 rfl rfl
theorem kF_X6_55 : Cond.fieldLinkNest RX6 55 RX3 "nameEnd" "I" "ProtoDesk" ∈ mm_nest := mm_tN_1 102 rfl rfl
theorem kF_X7_217 : Cond.fieldLinkNest RX7 217 RX3 "nameEnd" "I" "ProtoDesk" ∈ mm_nest := mm_tN_1 103 rfl rfl
theorem kF_X3_31 : Cond.fieldLink RX3 31 RX3 "number" "J" ∈ mm_ws := mm_t_1 104 rfl rfl
theorem kF_X1_51 : Cond.fieldLinkNest RX1 51 RX3 "number" "J" "ProtoDesk" ∈ mm_nest := mm_tN_1 105 rfl rfl
theorem kF_X11_129 : Cond.fieldLinkNest RX11 129 RX3 "number" "J" "ProtoDesk" ∈ mm_nest := mm_tN_1 106 rfl rfl
theorem kF_X2_132 : Cond.fieldLinkNest RX2 132 RX3 "number" "J" "ProtoDesk" ∈ mm_nest := mm_tN_1 107 rfl rfl
theorem kF_X8_86 : Cond.fieldLinkNest RX8 86 RX3 "number" "J" "ProtoDesk" ∈ mm_nest := mm_tN_1 108 rfl rfl
theorem kF_X7_135 : Cond.fieldLinkNest RX7 135 RX3 "number" "J" "ProtoDesk" ∈ mm_nest := mm_tN_1 109 rfl rfl
theorem kF_X9_170 : Cond.fieldLinkNest RX9 170 RX3 "number" "J" "ProtoDesk" ∈ mm_nest := mm_tN_1 110 rfl rfl
theorem kF_X5_139 : Cond.fieldLinkNest RX5 139 RX3 "number" "J" "ProtoDesk" ∈ mm_nest := mm_tN_1 111 rfl rfl
theorem kF_X3_35 : Cond.fieldLink RX3 35 RX3 "numberAt" "I" ∈ mm_ws := mm_t_1 112 rfl rfl
theorem kF_X2_146 : Cond.fieldLinkNest RX2 146 RX3 "numberAt" "I" "ProtoDesk" ∈ mm_nest := mm_tN_1 113 rfl rfl
theorem kF_X5_136 : Cond.fieldLinkNest RX5 136 RX3 "numberAt" "I" "ProtoDesk" ∈ mm_nest := mm_tN_1 114 rfl rfl
theorem kF_X3_38 : Cond.fieldLink RX3 38 RX3 "type" "I" ∈ mm_ws := mm_t_1 115 rfl rfl
theorem kF_X4_45 : Cond.fieldLinkNest RX4 45 RX3 "type" "I" "ProtoDesk" ∈ mm_nest := mm_tN_1 116 rfl rfl
theorem kF_X9_74 : Cond.fieldLinkNest RX9 74 RX3 "type" "I" "ProtoDesk" ∈ mm_nest := mm_tN_1 117 rfl rfl
theorem kF_X1_66 : Cond.fieldLinkNest RX1 66 RX3 "type" "I" "ProtoDesk" ∈ mm_nest := mm_tN_1 118 rfl rfl
theorem kF_X2_93 : Cond.fieldLinkNest RX2 93 RX3 "type" "I" "ProtoDesk" ∈ mm_nest := mm_tN_1 119 rfl rfl
theorem kF_X7_86 : Cond.fieldLinkNest RX7 86 RX3 "type" "I" "ProtoDesk" ∈ mm_nest := mm_tN_1 120 rfl rfl
theorem kF_X11_133 : Cond.fieldLinkNest RX11 133 RX3 "type" "I" "ProtoDesk" ∈ mm_nest := mm_tN_1 121 rfl rfl
theorem kF_X5_126 : Cond.fieldLinkNest RX5 126 RX3 "type" "I" "ProtoDesk" ∈ mm_nest := mm_tN_1 122 rfl rfl
theorem kF_X3_41 : Cond.fieldLink RX3 41 RX3 "typeWord" "I" ∈ mm_ws := mm_t_1 123 rfl rfl
theorem kF_X2_100 : Cond.fieldLinkNest RX2 100 RX3 "typeWord" "I" "ProtoDesk" ∈ mm_nest := mm_tN_1 124 rfl rfl
theorem kF_X5_129 : Cond.fieldLinkNest RX5 129 RX3 "typeWord" "I" "ProtoDesk" ∈ mm_nest := mm_tN_1 125 rfl rfl
theorem kF_X3_44 : Cond.fieldLink RX3 44 RX3 "target" "LProtoDesk$Item;" ∈ mm_ws := mm_t_1 126 rfl rfl
theorem kF_X1_73 : Cond.fieldLinkNest RX1 73 RX3 "target" "LProtoDesk$Item;" "ProtoDesk" ∈ mm_nest := mm_tN_1 127 rfl rfl
theorem kF_X9_108 : Cond.fieldLinkNest RX9 108 RX3 "target" "LProtoDesk$Item;" "ProtoDesk" ∈ mm_nest := mm_tN_1 128 rfl rfl
theorem kF_X11_136 : Cond.fieldLinkNest RX11 136 RX3 "target" "LProtoDesk$Item;" "ProtoDesk" ∈ mm_nest := mm_tN_1 129 rfl rfl
theorem kF_X7_95 : Cond.fieldLinkNest RX7 95 RX3 "target" "LProtoDesk$Item;" "ProtoDesk" ∈ mm_nest := mm_tN_1 130 rfl rfl
theorem kF_X2_200 : Cond.fieldLinkNest RX2 200 RX3 "target" "LProtoDesk$Item;" "ProtoDesk" ∈ mm_nest := mm_tN_1 131 rfl rfl
theorem kF_X3_47 : Cond.fieldLink RX3 47 RX3 "repeated" "Z" ∈ mm_ws := mm_t_1 132 rfl rfl
theorem kF_X4_36 : Cond.fieldLinkNest RX4 36 RX3 "repeated" "Z" "ProtoDesk" ∈ mm_nest := mm_tN_1 133 rfl rfl
theorem kF_X1_62 : Cond.fieldLinkNest RX1 62 RX3 "repeated" "Z" "ProtoDesk" ∈ mm_nest := mm_tN_1 134 rfl rfl
theorem kF_X9_89 : Cond.fieldLinkNest RX9 89 RX3 "repeated" "Z" "ProtoDesk" ∈ mm_nest := mm_tN_1 135 rfl rfl
theorem kF_X11_147 : Cond.fieldLinkNest RX11 147 RX3 "repeated" "Z" "ProtoDesk" ∈ mm_nest := mm_tN_1 136 rfl rfl
theorem kF_X8_94 : Cond.fieldLinkNest RX8 94 RX3 "repeated" "Z" "ProtoDesk" ∈ mm_nest := mm_tN_1 137 rfl rfl
theorem kF_X2_152 : Cond.fieldLinkNest RX2 152 RX3 "repeated" "Z" "ProtoDesk" ∈ mm_nest := mm_tN_1 138 rfl rfl
theorem kF_X5_123 : Cond.fieldLinkNest RX5 123 RX3 "repeated" "Z" "ProtoDesk" ∈ mm_nest := mm_tN_1 139 rfl rfl
theorem kF_X3_51 : Cond.fieldLink RX3 51 RX3 "packed" "Z" ∈ mm_ws := mm_t_1 140 rfl rfl
theorem kF_X11_143 : Cond.fieldLinkNest RX11 143 RX3 "packed" "Z" "ProtoDesk" ∈ mm_nest := mm_tN_1 141 rfl rfl
theorem kF_X2_163 : Cond.fieldLinkNest RX2 163 RX3 "packed" "Z" "ProtoDesk" ∈ mm_nest := mm_tN_1 142 rfl rfl
theorem kF_X9_153 : Cond.fieldLinkNest RX9 153 RX3 "packed" "Z" "ProtoDesk" ∈ mm_nest := mm_tN_1 143 rfl rfl
theorem kF_X3_54 : Cond.fieldLink RX3 54 RX3 "unpacked" "Z" ∈ mm_ws := mm_t_1 144 rfl rfl
theorem kF_X2_160 : Cond.fieldLinkNest RX2 160 RX3 "unpacked" "Z" "ProtoDesk" ∈ mm_nest := mm_tN_1 145 rfl rfl
theorem kF_X5_146 : Cond.fieldLinkNest RX5 146 RX3 "unpacked" "Z" "ProtoDesk" ∈ mm_nest := mm_tN_1 146 rfl rfl
theorem kF_X3_57 : Cond.fieldLink RX3 57 RX3 "packedAt" "I" ∈ mm_ws := mm_t_1 147 rfl rfl
theorem kF_X2_166 : Cond.fieldLinkNest RX2 166 RX3 "packedAt" "I" "ProtoDesk" ∈ mm_nest := mm_tN_1 148 rfl rfl
theorem kF_X5_143 : Cond.fieldLinkNest RX5 143 RX3 "packedAt" "I" "ProtoDesk" ∈ mm_nest := mm_tN_1 149 rfl rfl
theorem kF_X3_60 : Cond.fieldLink RX3 60 RX3 "first" "LProtoDesk$Item;" ∈ mm_ws := mm_t_1 150 rfl rfl
theorem kF_X1_47 : Cond.fieldLinkNest RX1 47 RX3 "first" "LProtoDesk$Item;" "ProtoDesk" ∈ mm_nest := mm_tN_1 151 rfl rfl
theorem kF_X2_176 : Cond.fieldLinkNest RX2 176 RX3 "first" "LProtoDesk$Item;" "ProtoDesk" ∈ mm_nest := mm_tN_1 152 rfl rfl
theorem kF_X6_77 : Cond.fieldLinkNest RX6 77 RX3 "first" "LProtoDesk$Item;" "ProtoDesk" ∈ mm_nest := mm_tN_1 153 rfl rfl
theorem kF_X3_63 : Cond.fieldLink RX3 63 RX3 "next" "LProtoDesk$Item;" ∈ mm_ws := mm_t_1 154 rfl rfl
theorem kF_X1_59 : Cond.fieldLinkNest RX1 59 RX3 "next" "LProtoDesk$Item;" "ProtoDesk" ∈ mm_nest := mm_tN_1 155 rfl rfl
theorem kF_X6_80 : Cond.fieldLinkNest RX6 80 RX3 "next" "LProtoDesk$Item;" "ProtoDesk" ∈ mm_nest := mm_tN_1 156 rfl rfl
theorem kF_X6_14 : Cond.fieldLink RX6 14 RX6 "text" "LProtoDesk$Bytes;" ∈ mm_ws := mm_t_1 192 rfl rfl
theorem kF_X6_22 : Cond.fieldLink RX6 22 RX6 "items" "[LProtoDesk$Item;" ∈ mm_ws := mm_t_1 193 rfl rfl
theorem kF_X6_27 : Cond.fieldLink RX6 27 RX6 "counts" "[I" ∈ mm_ws := mm_t_1 194 rfl rfl
theorem kF_X6_34 : Cond.fieldLink RX6 34 RX6 "used" "I" ∈ mm_ws := mm_t_1 195 rfl rfl
theorem kF_X6_38 : Cond.fieldLink RX6 38 RX6 "nameBytes" "I" ∈ mm_ws := mm_t_1 196 rfl rfl
theorem wA_int : Cond.arrayClass .int ∈ mm_ws := mm_t_1 208 rfl rfl
theorem kC_X2_18 : Cond.classLink RX2 18 RX10 ∈ mm_ws := mm_t_1 209 rfl rfl
theorem kM_X2_20 : Cond.methodLink RX2 20 yX6_text ∈ mm_ws := mm_t_1 211 rfl rfl
theorem kM_X2_24 : Cond.methodLink RX2 24 yX10_init ∈ mm_ws := mm_t_1 215 rfl rfl
theorem kM_X10_3 : Cond.methodLink RX10 3 objectInit ∈ mm_ws := mm_t_1 218 rfl rfl
theorem kF_X10_9 : Cond.fieldLink RX10 9 RX10 "text" "LProtoDesk$Bytes;" ∈ mm_ws := mm_t_1 219 rfl rfl
theorem kF_X10_15 : Cond.fieldLink RX10 15 RX10 "kinds" "[I" ∈ mm_ws := mm_t_1 220 rfl rfl
theorem kF_X10_19 : Cond.fieldLink RX10 19 RX10 "starts" "[I" ∈ mm_ws := mm_t_1 221 rfl rfl
theorem kF_X10_22 : Cond.fieldLink RX10 22 RX10 "ends" "[I" ∈ mm_ws := mm_t_1 222 rfl rfl
theorem kF_X10_25 : Cond.fieldLink RX10 25 RX10 "values" "[J" ∈ mm_ws := mm_t_1 223 rfl rfl
theorem kF_X10_29 : Cond.fieldLink RX10 29 RX10 "count" "I" ∈ mm_ws := mm_t_1 224 rfl rfl
theorem kF_X10_33 : Cond.fieldLink RX10 33 RX10 "length" "I" ∈ mm_ws := mm_t_1 225 rfl rfl
theorem kF_X10_44 : Cond.fieldLink RX10 44 RX10 "unclosed" "Z" ∈ mm_ws := mm_t_1 226 rfl rfl
theorem wA_long : Cond.arrayClass .long ∈ mm_ws := mm_t_2 4 rfl rfl
theorem kC_X2_31 : Cond.classLink RX2 31 RX5 ∈ mm_ws := mm_t_2 5 rfl rfl
theorem kM_X2_33 : Cond.methodLink RX2 33 yX5_init ∈ mm_ws := mm_t_2 7 rfl rfl
theorem kM_X5_3 : Cond.methodLink RX5 3 objectInit ∈ mm_ws := mm_t_2 10 rfl rfl
theorem kF_X5_9 : Cond.fieldLink RX5 9 RX5 "schema" "LProtoDesk$Schema;" ∈ mm_ws := mm_t_2 11 rfl rfl
theorem kF_X5_15 : Cond.fieldLink RX5 15 RX5 "words" "LProtoDesk$Words;" ∈ mm_ws := mm_t_2 12 rfl rfl
theorem kF_X5_19 : Cond.fieldLink RX5 19 RX5 "message" "LProtoDesk$Item;" ∈ mm_ws := mm_t_2 13 rfl rfl
theorem kF_X5_23 : Cond.fieldLink RX5 23 RX5 "oneof" "LProtoDesk$Item;" ∈ mm_ws := mm_t_2 14 rfl rfl
theorem kF_X5_26 : Cond.fieldLink RX5 26 RX5 "enumeration" "LProtoDesk$Item;" ∈ mm_ws := mm_t_2 15 rfl rfl
theorem kF_X5_103 : Cond.fieldLink RX5 103 RX5 "bare" "Z" ∈ mm_ws := mm_t_2 16 rfl rfl
theorem kF_X5_29 : Cond.fieldLink RX5 29 RX5 "at" "I" ∈ mm_ws := mm_t_2 17 rfl rfl
theorem kF_X5_33 : Cond.fieldLink RX5 33 RX5 "fault" "I" ∈ mm_ws := mm_t_2 18 rfl rfl
theorem kF_X2_12 : Cond.fieldLink RX2 12 RX2 "schema" "LProtoDesk$Schema;" ∈ mm_ws := mm_t_2 36 rfl rfl
theorem kF_X2_27 : Cond.fieldLink RX2 27 RX2 "words" "LProtoDesk$Words;" ∈ mm_ws := mm_t_2 37 rfl rfl
theorem kF_X2_36 : Cond.fieldLink RX2 36 RX2 "reader" "LProtoDesk$Reader;" ∈ mm_ws := mm_t_2 38 rfl rfl
theorem kF_X2_63 : Cond.fieldLink RX2 63 RX2 "fault" "I" ∈ mm_ws := mm_t_2 39 rfl rfl
theorem kF_X2_40 : Cond.fieldLink RX2 40 RX2 "faultAt" "I" ∈ mm_ws := mm_t_2 40 rfl rfl
theorem kC_X11_31 : Cond.classLink RX11 31 RX8 ∈ mm_ws := mm_t_2 52 rfl rfl
theorem kM_X11_33 : Cond.methodLink RX11 33 yX8_init ∈ mm_ws := mm_t_2 54 rfl rfl
theorem kM_X8_5 : Cond.methodLink RX8 5 objectInit ∈ mm_ws := mm_t_2 57 rfl rfl
theorem kC_X8_13 : Cond.classLink RX8 13 RX4 ∈ mm_ws := mm_t_2 58 rfl rfl
theorem kM_X8_19 : Cond.methodLink RX8 19 yX4_init ∈ mm_ws := mm_t_2 61 rfl rfl
theorem kM_X4_3 : Cond.methodLink RX4 3 objectInit ∈ mm_ws := mm_t_2 64 rfl rfl
theorem kF_X4_9 : Cond.fieldLink RX4 9 RX4 "field" "LProtoDesk$Item;" ∈ mm_ws := mm_t_2 65 rfl rfl
theorem kF_X8_66 : Cond.fieldLinkNest RX8 66 RX4 "field" "LProtoDesk$Item;" "ProtoDesk" ∈ mm_nest := mm_tN_2 66 rfl rfl
theorem kF_X9_150 : Cond.fieldLinkNest RX9 150 RX4 "field" "LProtoDesk$Item;" "ProtoDesk" ∈ mm_nest := mm_tN_2 67 rfl rfl
theorem kF_X7_198 : Cond.fieldLinkNest RX7 198 RX4 "field" "LProtoDesk$Item;" "ProtoDesk" ∈ mm_nest := mm_tN_2 68 rfl rfl
theorem kF_X4_15 : Cond.fieldLink RX4 15 RX4 "next" "LProtoDesk$Node;" ∈ mm_ws := mm_t_2 69 rfl rfl
theorem kF_X8_72 : Cond.fieldLinkNest RX8 72 RX4 "next" "LProtoDesk$Node;" "ProtoDesk" ∈ mm_nest := mm_tN_2 70 rfl rfl
theorem kF_X9_167 : Cond.fieldLinkNest RX9 167 RX4 "next" "LProtoDesk$Node;" "ProtoDesk" ∈ mm_nest := mm_tN_2 71 rfl rfl
theorem kF_X7_208 : Cond.fieldLinkNest RX7 208 RX4 "next" "LProtoDesk$Node;" "ProtoDesk" ∈ mm_nest := mm_tN_2 72 rfl rfl
theorem kF_X4_19 : Cond.fieldLink RX4 19 RX4 "first" "LProtoDesk$Node;" ∈ mm_ws := mm_t_2 73 rfl rfl
theorem kF_X8_63 : Cond.fieldLinkNest RX8 63 RX4 "first" "LProtoDesk$Node;" "ProtoDesk" ∈ mm_nest := mm_tN_2 74 rfl rfl
theorem kF_X9_147 : Cond.fieldLinkNest RX9 147 RX4 "first" "LProtoDesk$Node;" "ProtoDesk" ∈ mm_nest := mm_tN_2 75 rfl rfl
theorem kF_X7_195 : Cond.fieldLinkNest RX7 195 RX4 "first" "LProtoDesk$Node;" "ProtoDesk" ∈ mm_nest := mm_tN_2 76 rfl rfl
theorem kF_X4_22 : Cond.fieldLink RX4 22 RX4 "recent" "LProtoDesk$Node;" ∈ mm_ws := mm_t_2 77 rfl rfl
theorem kF_X8_98 : Cond.fieldLinkNest RX8 98 RX4 "recent" "LProtoDesk$Node;" "ProtoDesk" ∈ mm_nest := mm_tN_2 78 rfl rfl
theorem kF_X4_25 : Cond.fieldLink RX4 25 RX4 "number" "J" ∈ mm_ws := mm_t_2 79 rfl rfl
theorem kF_X9_119 : Cond.fieldLinkNest RX9 119 RX4 "number" "J" "ProtoDesk" ∈ mm_nest := mm_tN_2 80 rfl rfl
theorem kF_X7_126 : Cond.fieldLinkNest RX7 126 RX4 "number" "J" "ProtoDesk" ∈ mm_nest := mm_tN_2 81 rfl rfl
theorem kF_X4_29 : Cond.fieldLink RX4 29 RX4 "from" "I" ∈ mm_ws := mm_t_2 82 rfl rfl
theorem kF_X9_125 : Cond.fieldLinkNest RX9 125 RX4 "from" "I" "ProtoDesk" ∈ mm_nest := mm_tN_2 83 rfl rfl
theorem kF_X7_157 : Cond.fieldLinkNest RX7 157 RX4 "from" "I" "ProtoDesk" ∈ mm_nest := mm_tN_2 84 rfl rfl
theorem kF_X4_33 : Cond.fieldLink RX4 33 RX4 "to" "I" ∈ mm_ws := mm_t_2 85 rfl rfl
theorem kF_X9_132 : Cond.fieldLinkNest RX9 132 RX4 "to" "I" "ProtoDesk" ∈ mm_nest := mm_tN_2 86 rfl rfl
theorem kF_X7_167 : Cond.fieldLinkNest RX7 167 RX4 "to" "I" "ProtoDesk" ∈ mm_nest := mm_tN_2 87 rfl rfl
theorem kC_X8_24 : Cond.classLink RX8 24 RX0 ∈ mm_ws := mm_t_2 103 rfl rfl
theorem kM_X8_26 : Cond.methodLink RX8 26 yX0_init ∈ mm_ws := mm_t_2 104 rfl rfl
theorem kF_X8_15 : Cond.fieldLink RX8 15 RX8 "nodes" "[LProtoDesk$Node;" ∈ mm_ws := mm_t_2 105 rfl rfl
theorem kF_X8_20 : Cond.fieldLink RX8 20 RX8 "root" "LProtoDesk$Node;" ∈ mm_ws := mm_t_2 106 rfl rfl
theorem kF_X9_29 : Cond.fieldLinkNest RX9 29 RX8 "root" "LProtoDesk$Node;" "ProtoDesk" ∈ mm_nest := mm_tN_2 107 rfl rfl
theorem kF_X7_33 : Cond.fieldLinkNest RX7 33 RX8 "root" "LProtoDesk$Node;" "ProtoDesk" ∈ mm_nest := mm_tN_2 108 rfl rfl
theorem kF_X8_29 : Cond.fieldLink RX8 29 RX8 "texts" "LProtoDesk$Bytes;" ∈ mm_ws := mm_t_2 109 rfl rfl
theorem kF_X9_122 : Cond.fieldLinkNest RX9 122 RX8 "texts" "LProtoDesk$Bytes;" "ProtoDesk" ∈ mm_nest := mm_tN_2 110 rfl rfl
theorem kF_X7_154 : Cond.fieldLinkNest RX7 154 RX8 "texts" "LProtoDesk$Bytes;" "ProtoDesk" ∈ mm_nest := mm_tN_2 111 rfl rfl
theorem kF_X8_48 : Cond.fieldLink RX8 48 RX8 "used" "I" ∈ mm_ws := mm_t_2 112 rfl rfl
theorem kF_X8_37 : Cond.fieldLink RX8 37 RX8 "schema" "LProtoDesk$Schema;" ∈ mm_ws := mm_t_2 113 rfl rfl
theorem kF_X7_72 : Cond.fieldLinkNest RX7 72 RX8 "schema" "LProtoDesk$Schema;" "ProtoDesk" ∈ mm_nest := mm_tN_2 114 rfl rfl
theorem kF_X8_33 : Cond.fieldLink RX8 33 RX8 "message" "LProtoDesk$Item;" ∈ mm_ws := mm_t_2 115 rfl rfl
theorem kF_X9_35 : Cond.fieldLinkNest RX9 35 RX8 "message" "LProtoDesk$Item;" "ProtoDesk" ∈ mm_nest := mm_tN_2 116 rfl rfl
theorem kF_X7_39 : Cond.fieldLinkNest RX7 39 RX8 "message" "LProtoDesk$Item;" "ProtoDesk" ∈ mm_nest := mm_tN_2 117 rfl rfl
theorem kC_X11_38 : Cond.classLink RX11 38 RX9 ∈ mm_ws := mm_t_2 131 rfl rfl
theorem kM_X11_40 : Cond.methodLink RX11 40 yX9_init ∈ mm_ws := mm_t_2 133 rfl rfl
theorem kM_X9_3 : Cond.methodLink RX9 3 objectInit ∈ mm_ws := mm_t_2 136 rfl rfl
theorem kF_X9_9 : Cond.fieldLink RX9 9 RX9 "tape" "LProtoDesk$Bytes;" ∈ mm_ws := mm_t_2 137 rfl rfl
theorem kF_X9_15 : Cond.fieldLink RX9 15 RX9 "value" "LProtoDesk$Tree;" ∈ mm_ws := mm_t_2 138 rfl rfl
theorem kF_X9_19 : Cond.fieldLink RX9 19 RX9 "given" "LProtoDesk$Bytes;" ∈ mm_ws := mm_t_2 139 rfl rfl
theorem kF_X9_22 : Cond.fieldLink RX9 22 RX9 "at" "I" ∈ mm_ws := mm_t_2 140 rfl rfl
theorem kF_X9_53 : Cond.fieldLink RX9 53 RX9 "number" "J" ∈ mm_ws := mm_t_2 141 rfl rfl
theorem kF_X9_26 : Cond.fieldLink RX9 26 RX9 "limit" "I" ∈ mm_ws := mm_t_2 142 rfl rfl
theorem kC_X11_47 : Cond.classLink RX11 47 RX7 ∈ mm_ws := mm_t_2 156 rfl rfl
theorem kM_X11_49 : Cond.methodLink RX11 49 yX7_init ∈ mm_ws := mm_t_2 158 rfl rfl
theorem kM_X7_3 : Cond.methodLink RX7 3 objectInit ∈ mm_ws := mm_t_2 161 rfl rfl
theorem kF_X7_9 : Cond.fieldLink RX7 9 RX7 "tape" "LProtoDesk$Bytes;" ∈ mm_ws := mm_t_2 162 rfl rfl
theorem kF_X7_15 : Cond.fieldLink RX7 15 RX7 "value" "LProtoDesk$Tree;" ∈ mm_ws := mm_t_2 163 rfl rfl
theorem kF_X7_19 : Cond.fieldLink RX7 19 RX7 "given" "LProtoDesk$Bytes;" ∈ mm_ws := mm_t_2 164 rfl rfl
theorem kF_X7_22 : Cond.fieldLink RX7 22 RX7 "digits" "[B" ∈ mm_ws := mm_t_2 165 rfl rfl
theorem kF_X7_26 : Cond.fieldLink RX7 26 RX7 "at" "I" ∈ mm_ws := mm_t_2 166 rfl rfl
theorem kF_X7_30 : Cond.fieldLink RX7 30 RX7 "limit" "I" ∈ mm_ws := mm_t_2 167 rfl rfl
theorem kF_X7_122 : Cond.fieldLink RX7 122 RX7 "number" "J" ∈ mm_ws := mm_t_2 168 rfl rfl
theorem kC_X11_54 : Cond.classLink RX11 54 RX1 ∈ mm_ws := mm_t_2 184 rfl rfl
theorem kM_X11_56 : Cond.methodLink RX11 56 yX1_init ∈ mm_ws := mm_t_2 186 rfl rfl
theorem kM_X1_3 : Cond.methodLink RX1 3 objectInit ∈ mm_ws := mm_t_2 189 rfl rfl
theorem kC_X1_15 : Cond.classLink RX1 15 RX3 ∈ mm_ws := mm_t_2 190 rfl rfl
theorem kF_X1_9 : Cond.fieldLink RX1 9 RX1 "given" "LProtoDesk$Bytes;" ∈ mm_ws := mm_t_2 191 rfl rfl
theorem kF_X1_17 : Cond.fieldLink RX1 17 RX1 "fields" "[LProtoDesk$Item;" ∈ mm_ws := mm_t_2 192 rfl rfl
theorem kF_X1_21 : Cond.fieldLink RX1 21 RX1 "messages" "[LProtoDesk$Item;" ∈ mm_ws := mm_t_2 193 rfl rfl
theorem kF_X1_24 : Cond.fieldLink RX1 24 RX1 "met" "[Z" ∈ mm_ws := mm_t_2 194 rfl rfl
theorem kF_X1_28 : Cond.fieldLink RX1 28 RX1 "steps" "I" ∈ mm_ws := mm_t_2 195 rfl rfl
theorem wA_boolean : Cond.arrayClass .boolean ∈ mm_ws := mm_t_2 207 rfl rfl
theorem kF_X11_14 : Cond.fieldLink RX11 14 RX11 "tape" "LProtoDesk$Bytes;" ∈ mm_ws := mm_t_2 208 rfl rfl
theorem kF_X11_18 : Cond.fieldLink RX11 18 RX11 "given" "LProtoDesk$Bytes;" ∈ mm_ws := mm_t_2 209 rfl rfl
theorem kF_X11_24 : Cond.fieldLink RX11 24 RX11 "first" "LProtoDesk$Compiler;" ∈ mm_ws := mm_t_2 210 rfl rfl
theorem kF_X11_28 : Cond.fieldLink RX11 28 RX11 "second" "LProtoDesk$Compiler;" ∈ mm_ws := mm_t_2 211 rfl rfl
theorem kF_X11_34 : Cond.fieldLink RX11 34 RX11 "value" "LProtoDesk$Tree;" ∈ mm_ws := mm_t_2 212 rfl rfl
theorem kF_X11_43 : Cond.fieldLink RX11 43 RX11 "wire" "LProtoDesk$Wire;" ∈ mm_ws := mm_t_2 213 rfl rfl
theorem kF_X11_50 : Cond.fieldLink RX11 50 RX11 "textForm" "LProtoDesk$TextForm;" ∈ mm_ws := mm_t_2 214 rfl rfl
theorem kF_X11_59 : Cond.fieldLink RX11 59 RX11 "checker" "LProtoDesk$Checker;" ∈ mm_ws := mm_t_2 215 rfl rfl
theorem kF_X11_63 : Cond.fieldLink RX11 63 RX11 "errorPlace" "I" ∈ mm_ws := mm_t_2 216 rfl rfl
theorem kM_L_79 : Cond.methodLink RL 79 yX11_place ∈ mm_ws := mm_t_2 236 rfl rfl
theorem kM_L_66 : Cond.methodLink RL 66 yL_feed ∈ mm_ws := mm_t_3 0 rfl rfl
theorem kC_L_13 : Cond.classLink RL 13 "java/lang/IllegalArgumentException" ∈ mm_ws := mm_t_3 3 rfl rfl
theorem kC_L_15 : Cond.classLink RL 15 "java/lang/IllegalStateException" ∈ mm_ws := mm_t_3 4 rfl rfl
theorem kM_L_7 : Cond.methodLink RL 7 yX11_feed ∈ mm_ws := mm_t_3 5 rfl rfl
theorem kC_X11_67 : Cond.classLink RX11 67 "java/lang/IllegalArgumentException" ∈ mm_ws := mm_t_3 9 rfl rfl
theorem wk_IllegalArgumentException_IllegalArgumentException : Cond.castable "java/lang/IllegalArgumentException" "java/lang/IllegalArgumentException" ∈ mm_nest := mm_tN_3 11 rfl rfl
theorem kM_X11_74 : Cond.methodLink RX11 74 yX0_size ∈ mm_ws := mm_t_3 77 rfl rfl
theorem kC_X11_78 : Cond.classLink RX11 78 "java/lang/IllegalStateException" ∈ mm_ws := mm_t_3 81 rfl rfl
theorem wk_IllegalStateException_IllegalStateException : Cond.castable "java/lang/IllegalStateException" "java/lang/IllegalStateException" ∈ mm_nest := mm_tN_3 83 rfl rfl
theorem kM_X11_83 : Cond.methodLink RX11 83 yX0_add ∈ mm_ws := mm_t_3 97 rfl rfl
theorem kM_L_75 : Cond.methodLink RL 75 yL_compile ∈ mm_ws := mm_t_3 101 rfl rfl
theorem kM_L_17 : Cond.methodLink RL 17 yX11_compile ∈ mm_ws := mm_t_3 104 rfl rfl
theorem kM_X11_86 : Cond.methodLink RX11 86 yX11_compilerOf ∈ mm_ws := mm_t_3 108 rfl rfl
theorem kM_X11_92 : Cond.methodLink RX11 92 yX8_drop ∈ mm_ws := mm_t_3 113 rfl rfl
theorem kM_X8_45 : Cond.methodLink RX8 45 yX0_clear ∈ mm_ws := mm_t_3 117 rfl rfl
theorem kM_X8_52 : Cond.methodLink RX8 52 yX4_begin ∈ mm_ws := mm_t_3 121 rfl rfl
theorem kM_X11_95 : Cond.methodLink RX11 95 yX2_run ∈ mm_ws := mm_t_3 125 rfl rfl
theorem kM_X2_44 : Cond.methodLink RX2 44 yX6_clear ∈ mm_ws := mm_t_3 129 rfl rfl
theorem kM_X6_31 : Cond.methodLink RX6 31 yX0_clear ∈ mm_ws := mm_t_3 133 rfl rfl
theorem kM_X2_47 : Cond.methodLink RX2 47 yX0_size ∈ mm_ws := mm_t_3 134 rfl rfl
theorem kM_X2_53 : Cond.methodLink RX2 53 yX0_addAll ∈ mm_ws := mm_t_3 135 rfl rfl
theorem kM_X0_27 : Cond.methodLink RX0 27 yX0_at ∈ mm_ws := mm_t_3 139 rfl rfl
theorem kM_X0_31 : Cond.methodLink RX0 31 yX0_add ∈ mm_ws := mm_t_3 143 rfl rfl
theorem kM_X2_57 : Cond.methodLink RX2 57 yX10_split ∈ mm_ws := mm_t_3 144 rfl rfl
theorem kM_X10_38 : Cond.methodLink RX10 38 yX0_size ∈ mm_ws := mm_t_3 148 rfl rfl
theorem kM_X10_48 : Cond.methodLink RX10 48 yX10_behindBlanks ∈ mm_ws := mm_t_3 149 rfl rfl
theorem kM_X10_55 : Cond.methodLink RX10 55 yX0_at ∈ mm_ws := mm_t_3 153 rfl rfl
theorem kM_X10_103 : Cond.methodLink RX10 103 yX10_lineEnd ∈ mm_ws := mm_t_3 154 rfl rfl
theorem kM_X10_106 : Cond.methodLink RX10 106 yX10_commentEnd ∈ mm_ws := mm_t_3 158 rfl rfl
theorem kM_X10_109 : Cond.methodLinkNest RX10 109 yX11_isBlank "ProtoDesk" ∈ mm_nest := mm_tN_3 162 rfl rfl
theorem kM_X10_52 : Cond.methodLink RX10 52 yX10_addWord ∈ mm_ws := mm_t_3 165 rfl rfl
theorem kL_X10_36 : Cond.constantLong RX10 36 (-1) ∈ mm_ws := mm_t_3 169 rfl rfl
theorem kM_X10_58 : Cond.methodLink RX10 58 yX10_push ∈ mm_ws := mm_t_3 170 rfl rfl
theorem kM_X10_62 : Cond.methodLinkNest RX10 62 yX11_isLetter "ProtoDesk" ∈ mm_nest := mm_tN_3 174 rfl rfl
theorem kM_X10_66 : Cond.methodLink RX10 66 yX10_nameEnd ∈ mm_ws := mm_t_3 177 rfl rfl
theorem kM_X10_90 : Cond.methodLinkNest RX10 90 yX11_isWordByte "ProtoDesk" ∈ mm_nest := mm_tN_3 181 rfl rfl
theorem kM_X10_69 : Cond.methodLink RX10 69 yX10_codeBetween ∈ mm_ws := mm_t_3 184 rfl rfl
theorem kM_X10_95 : Cond.methodLink RX10 95 yX0_wordIn ∈ mm_ws := mm_t_3 189 rfl rfl
theorem kM_X10_73 : Cond.methodLink RX10 73 yX10_addNumber ∈ mm_ws := mm_t_4 3 rfl rfl
theorem kM_X10_79 : Cond.methodLink RX10 79 yX10_digit ∈ mm_ws := mm_t_4 7 rfl rfl
theorem kL_X10_82 : Cond.constantLong RX10 82 (1099511627776) ∈ mm_ws := mm_t_4 11 rfl rfl
theorem kM_X10_76 : Cond.methodLink RX10 76 yX10_addText ∈ mm_ws := mm_t_4 15 rfl rfl
theorem kM_X2_60 : Cond.methodLink RX2 60 yX5_read ∈ mm_ws := mm_t_4 19 rfl rfl
theorem kM_X5_36 : Cond.methodLink RX5 36 yX5_readSyntax ∈ mm_ws := mm_t_4 23 rfl rfl
theorem kM_X5_72 : Cond.methodLink RX5 72 yX5_takesWord ∈ mm_ws := mm_t_4 27 rfl rfl
theorem kM_X5_69 : Cond.methodLink RX5 69 yX10_codeOf ∈ mm_ws := mm_t_4 31 rfl rfl
theorem kM_X5_76 : Cond.methodLink RX5 76 yX5_takes ∈ mm_ws := mm_t_4 35 rfl rfl
theorem kM_X5_65 : Cond.methodLink RX5 65 yX10_isSign ∈ mm_ws := mm_t_4 39 rfl rfl
theorem kM_X5_62 : Cond.methodLink RX5 62 yX10_kindOf ∈ mm_ws := mm_t_4 43 rfl rfl
theorem kM_X5_79 : Cond.methodLink RX5 79 yX10_valueOf ∈ mm_ws := mm_t_4 47 rfl rfl
theorem kL_X5_83 : Cond.constantLong RX5 83 (28) ∈ mm_ws := mm_t_4 51 rfl rfl
theorem kM_X5_40 : Cond.methodLink RX5 40 yX10_count ∈ mm_ws := mm_t_4 52 rfl rfl
theorem kM_X5_46 : Cond.methodLink RX5 46 yX5_isAtEnd ∈ mm_ws := mm_t_4 56 rfl rfl
theorem kM_X5_49 : Cond.methodLink RX5 49 yX5_readValue ∈ mm_ws := mm_t_4 60 rfl rfl
theorem kM_X5_85 : Cond.methodLink RX5 85 yX5_isForbidden ∈ mm_ws := mm_t_4 64 rfl rfl
theorem kM_X5_99 : Cond.methodLink RX5 99 yX5_readName ∈ mm_ws := mm_t_4 68 rfl rfl
theorem kM_X5_58 : Cond.methodLink RX5 58 yX10_startOf ∈ mm_ws := mm_t_4 72 rfl rfl
theorem kM_X5_107 : Cond.methodLink RX5 107 yX10_endOf ∈ mm_ws := mm_t_4 76 rfl rfl
theorem kM_X5_110 : Cond.methodLink RX5 110 yX6_declare ∈ mm_ws := mm_t_4 80 rfl rfl
theorem kM_X6_41 : Cond.methodLink RX6 41 yX3_begin ∈ mm_ws := mm_t_4 84 rfl rfl
theorem kM_X5_116 : Cond.methodLink RX5 116 yX5_readNumber ∈ mm_ws := mm_t_4 88 rfl rfl
theorem kM_X5_52 : Cond.methodLink RX5 52 yX5_readChoice ∈ mm_ws := mm_t_4 92 rfl rfl
theorem kM_X5_96 : Cond.methodLink RX5 96 yX5_readField ∈ mm_ws := mm_t_4 96 rfl rfl
theorem kM_X5_120 : Cond.methodLink RX5 120 yX5_readTypeName ∈ mm_ws := mm_t_4 100 rfl rfl
theorem kM_X5_132 : Cond.methodLink RX5 132 yX5_readPacked ∈ mm_ws := mm_t_4 104 rfl rfl
theorem kM_X5_55 : Cond.methodLink RX5 55 yX5_readMember ∈ mm_ws := mm_t_4 108 rfl rfl
theorem kM_X5_90 : Cond.methodLink RX5 90 yX5_begin ∈ mm_ws := mm_t_4 112 rfl rfl
theorem kM_X2_66 : Cond.methodLink RX2 66 yX5_endPlace ∈ mm_ws := mm_t_4 116 rfl rfl
theorem kM_X2_69 : Cond.methodLink RX2 69 yX6_used ∈ mm_ws := mm_t_4 120 rfl rfl
theorem kM_X2_72 : Cond.methodLink RX2 72 yX6_item ∈ mm_ws := mm_t_4 124 rfl rfl
theorem kM_X2_76 : Cond.methodLink RX2 76 yX2_judge ∈ mm_ws := mm_t_4 128 rfl rfl
theorem kM_X2_96 : Cond.methodLink RX2 96 yX2_findsType ∈ mm_ws := mm_t_4 132 rfl rfl
theorem kM_X2_182 : Cond.methodLink RX2 182 yX10_isSign ∈ mm_ws := mm_t_4 136 rfl rfl
theorem kM_X2_103 : Cond.methodLink RX2 103 yX10_startOf ∈ mm_ws := mm_t_4 137 rfl rfl
theorem kM_X2_186 : Cond.methodLink RX2 186 yX10_endOf ∈ mm_ws := mm_t_4 138 rfl rfl
theorem kM_X2_189 : Cond.methodLink RX2 189 yX6_typeIn ∈ mm_ws := mm_t_4 139 rfl rfl
theorem kM_X6_45 : Cond.methodLink RX6 45 yX6_item ∈ mm_ws := mm_t_4 143 rfl rfl
theorem kM_X6_69 : Cond.methodLink RX6 69 yX3_isType ∈ mm_ws := mm_t_4 144 rfl rfl
theorem kM_X6_73 : Cond.methodLink RX6 73 yX6_isCalled ∈ mm_ws := mm_t_4 148 rfl rfl
theorem kM_X6_61 : Cond.methodLink RX6 61 yX0_isSame ∈ mm_ws := mm_t_4 152 rfl rfl
theorem kM_X2_193 : Cond.methodLink RX2 193 yX2_typeAround ∈ mm_ws := mm_t_4 156 rfl rfl
theorem kM_X2_197 : Cond.methodLink RX2 197 yX10_count ∈ mm_ws := mm_t_4 160 rfl rfl
theorem kM_X2_84 : Cond.methodLink RX2 84 yX2_fail ∈ mm_ws := mm_t_4 161 rfl rfl
theorem kM_X2_107 : Cond.methodLink RX2 107 yX2_isTaken ∈ mm_ws := mm_t_4 165 rfl rfl
theorem kM_X2_128 : Cond.methodLink RX2 128 yX6_isCalled ∈ mm_ws := mm_t_4 169 rfl rfl
theorem kM_X2_114 : Cond.methodLink RX2 114 yX2_judgeField ∈ mm_ws := mm_t_4 170 rfl rfl
theorem kL_X2_136 : Cond.constantLong RX2 136 (536870911) ∈ mm_ws := mm_t_4 174 rfl rfl
theorem kL_X2_138 : Cond.constantLong RX2 138 (19000) ∈ mm_ws := mm_t_4 175 rfl rfl
theorem kL_X2_140 : Cond.constantLong RX2 140 (19999) ∈ mm_ws := mm_t_4 176 rfl rfl
theorem kM_X2_142 : Cond.methodLink RX2 142 yX3_memberNumbered ∈ mm_ws := mm_t_4 177 rfl rfl
theorem kM_X2_149 : Cond.methodLink RX2 149 yX3_insert ∈ mm_ws := mm_t_4 181 rfl rfl
theorem kM_X2_156 : Cond.methodLinkNest RX2 156 yX11_isNumeric "ProtoDesk" ∈ mm_nest := mm_tN_4 185 rfl rfl
theorem kM_X2_118 : Cond.methodLink RX2 118 yX2_judgeValue ∈ mm_ws := mm_t_4 188 rfl rfl
theorem kL_X2_172 : Cond.constantLong RX2 172 (-2147483648) ∈ mm_ws := mm_t_4 192 rfl rfl
theorem kL_X2_174 : Cond.constantLong RX2 174 (2147483647) ∈ mm_ws := mm_t_4 193 rfl rfl
theorem kM_X2_179 : Cond.methodLink RX2 179 yX3_append ∈ mm_ws := mm_t_4 194 rfl rfl
theorem kM_X2_80 : Cond.methodLink RX2 80 yX2_isTooMuch ∈ mm_ws := mm_t_4 198 rfl rfl
theorem kM_X2_203 : Cond.methodLink RX2 203 yX6_count ∈ mm_ws := mm_t_4 202 rfl rfl
theorem kM_X2_205 : Cond.methodLink RX2 205 yX6_nameBytes ∈ mm_ws := mm_t_4 206 rfl rfl
theorem kM_X11_99 : Cond.methodLink RX11 99 yX0_clear ∈ mm_ws := mm_t_4 210 rfl rfl
theorem kM_X11_102 : Cond.methodLink RX11 102 yX2_faultAt ∈ mm_ws := mm_t_4 211 rfl rfl
theorem kM_L_83 : Cond.methodLink RL 83 yL_many ∈ mm_ws := mm_t_4 215 rfl rfl
theorem kM_L_21 : Cond.methodLink RL 21 yX11_many ∈ mm_ws := mm_t_4 218 rfl rfl
theorem kM_X11_109 : Cond.methodLink RX11 109 yX2_schema ∈ mm_ws := mm_t_4 223 rfl rfl
theorem kM_X11_113 : Cond.methodLink RX11 113 yX6_count ∈ mm_ws := mm_t_4 227 rfl rfl
theorem kM_L_87 : Cond.methodLink RL 87 yL_field ∈ mm_ws := mm_t_4 228 rfl rfl
theorem kM_L_25 : Cond.methodLink RL 25 yX11_field ∈ mm_ws := mm_t_4 231 rfl rfl
theorem kM_X11_119 : Cond.methodLink RX11 119 yX11_messageOf ∈ mm_ws := mm_t_4 235 rfl rfl
theorem kM_X11_193 : Cond.methodLink RX11 193 yX6_message ∈ mm_ws := mm_t_4 239 rfl rfl
theorem kM_X11_123 : Cond.methodLink RX11 123 yX3_memberAt ∈ mm_ws := mm_t_5 3 rfl rfl
theorem kM_L_91 : Cond.methodLink RL 91 yL_find ∈ mm_ws := mm_t_5 8 rfl rfl
theorem kM_L_29 : Cond.methodLink RL 29 yX11_find ∈ mm_ws := mm_t_5 11 rfl rfl
theorem kM_X11_159 : Cond.methodLink RX11 159 yX6_numberOf ∈ mm_ws := mm_t_5 15 rfl rfl
theorem kM_X6_83 : Cond.methodLink RX6 83 yX6_isFullName ∈ mm_ws := mm_t_5 19 rfl rfl
theorem kM_X6_91 : Cond.methodLink RX6 91 yX0_size ∈ mm_ws := mm_t_5 23 rfl rfl
theorem kM_X6_95 : Cond.methodLink RX6 95 yX0_at ∈ mm_ws := mm_t_5 24 rfl rfl
theorem kM_X6_87 : Cond.methodLink RX6 87 yX6_count ∈ mm_ws := mm_t_5 25 rfl rfl
theorem kM_L_94 : Cond.methodLink RL 94 yL_decode ∈ mm_ws := mm_t_5 26 rfl rfl
theorem kM_L_32 : Cond.methodLink RL 32 yX11_decode ∈ mm_ws := mm_t_5 29 rfl rfl
theorem kM_X11_162 : Cond.methodLink RX11 162 yX11_opens ∈ mm_ws := mm_t_5 33 rfl rfl
theorem kM_X11_222 : Cond.methodLink RX11 222 yX8_begin ∈ mm_ws := mm_t_5 37 rfl rfl
theorem kM_X8_56 : Cond.methodLink RX8 56 yX8_drop ∈ mm_ws := mm_t_5 41 rfl rfl
theorem kM_X11_166 : Cond.methodLink RX11 166 yX9_read ∈ mm_ws := mm_t_5 42 rfl rfl
theorem kM_X9_39 : Cond.methodLink RX9 39 yX0_size ∈ mm_ws := mm_t_5 46 rfl rfl
theorem kM_X9_45 : Cond.methodLink RX9 45 yX9_readMessage ∈ mm_ws := mm_t_5 47 rfl rfl
theorem kM_X9_49 : Cond.methodLink RX9 49 yX9_readNumber ∈ mm_ws := mm_t_5 51 rfl rfl
theorem kM_X9_135 : Cond.methodLink RX9 135 yX0_at ∈ mm_ws := mm_t_5 55 rfl rfl
theorem kL_X9_137 : Cond.constantLong RX9 137 (127) ∈ mm_ws := mm_t_5 56 rfl rfl
theorem kL_X9_139 : Cond.constantLong RX9 139 (128) ∈ mm_ws := mm_t_5 57 rfl rfl
theorem kL_X9_57 : Cond.constantLong RX9 57 (8) ∈ mm_ws := mm_t_5 58 rfl rfl
theorem kL_X9_59 : Cond.constantLong RX9 59 (7) ∈ mm_ws := mm_t_5 59 rfl rfl
theorem kM_X9_61 : Cond.methodLink RX9 61 yX3_memberNumbered ∈ mm_ws := mm_t_5 60 rfl rfl
theorem kM_X9_67 : Cond.methodLink RX9 67 yX9_takeLength ∈ mm_ws := mm_t_5 61 rfl rfl
theorem kM_X9_93 : Cond.methodLinkNest RX9 93 yX11_isNumeric "ProtoDesk" ∈ mm_nest := mm_tN_5 65 rfl rfl
theorem kM_X9_97 : Cond.methodLink RX9 97 yX9_takeRow ∈ mm_ws := mm_t_5 66 rfl rfl
theorem kM_X9_77 : Cond.methodLink RX9 77 yX9_kindOf ∈ mm_ws := mm_t_5 70 rfl rfl
theorem kM_X9_81 : Cond.methodLink RX9 81 yX9_putNumber ∈ mm_ws := mm_t_5 73 rfl rfl
theorem kM_X9_104 : Cond.methodLink RX9 104 yX8_put ∈ mm_ws := mm_t_5 77 rfl rfl
theorem kM_X8_80 : Cond.methodLink RX8 80 yX8_dropRivals ∈ mm_ws := mm_t_5 81 rfl rfl
theorem kL_X8_84 : Cond.constantLong RX8 84 (9223372036854775807) ∈ mm_ws := mm_t_5 85 rfl rfl
theorem kM_X8_90 : Cond.methodLink RX8 90 yX8_lastUpTo ∈ mm_ws := mm_t_5 86 rfl rfl
theorem kM_X9_115 : Cond.methodLink RX9 115 yX9_meaning ∈ mm_ws := mm_t_5 90 rfl rfl
theorem kL_X9_141 : Cond.constantLong RX9 141 (4294967295) ∈ mm_ws := mm_t_5 93 rfl rfl
theorem kM_X9_85 : Cond.methodLink RX9 85 yX9_keep ∈ mm_ws := mm_t_5 94 rfl rfl
theorem kM_X9_111 : Cond.methodLink RX9 111 yX9_copy ∈ mm_ws := mm_t_5 98 rfl rfl
theorem kM_X9_128 : Cond.methodLink RX9 128 yX0_addAll ∈ mm_ws := mm_t_5 102 rfl rfl
theorem kM_X9_101 : Cond.methodLink RX9 101 yX0_isUtf8 ∈ mm_ws := mm_t_5 103 rfl rfl
theorem kM_X9_71 : Cond.methodLink RX9 71 yX9_takeNumber ∈ mm_ws := mm_t_5 107 rfl rfl
theorem kM_X11_170 : Cond.methodLink RX11 170 yX11_settle ∈ mm_ws := mm_t_5 111 rfl rfl
theorem kM_X11_226 : Cond.methodLink RX11 226 yX8_count ∈ mm_ws := mm_t_5 115 rfl rfl
theorem kM_X8_59 : Cond.methodLink RX8 59 yX8_countIn ∈ mm_ws := mm_t_5 119 rfl rfl
theorem kM_X8_69 : Cond.methodLink RX8 69 yX4_isNothing ∈ mm_ws := mm_t_5 123 rfl rfl
theorem kM_X4_48 : Cond.methodLinkNest RX4 48 yX11_isNumeric "ProtoDesk" ∈ mm_nest := mm_tN_5 127 rfl rfl
theorem kM_X11_228 : Cond.methodLink RX11 228 yX8_isSpilt ∈ mm_ws := mm_t_5 128 rfl rfl
theorem kM_X8_41 : Cond.methodLink RX8 41 yX0_isSpilt ∈ mm_ws := mm_t_5 132 rfl rfl
theorem kM_L_98 : Cond.methodLink RL 98 yL_parse ∈ mm_ws := mm_t_5 138 rfl rfl
theorem kM_L_36 : Cond.methodLink RL 36 yX11_parse ∈ mm_ws := mm_t_5 141 rfl rfl
theorem kM_X11_174 : Cond.methodLink RX11 174 yX7_read ∈ mm_ws := mm_t_5 145 rfl rfl
theorem kM_X7_43 : Cond.methodLink RX7 43 yX7_readMessage ∈ mm_ws := mm_t_5 149 rfl rfl
theorem kM_X7_47 : Cond.methodLink RX7 47 yX7_skipBlanks ∈ mm_ws := mm_t_5 153 rfl rfl
theorem kM_X7_58 : Cond.methodLink RX7 58 yX0_size ∈ mm_ws := mm_t_5 157 rfl rfl
theorem kM_X7_50 : Cond.methodLink RX7 50 yX0_at ∈ mm_ws := mm_t_5 158 rfl rfl
theorem kM_X7_62 : Cond.methodLinkNest RX7 62 yX11_isBlank "ProtoDesk" ∈ mm_nest := mm_tN_5 159 rfl rfl
theorem kM_X7_55 : Cond.methodLink RX7 55 yX7_readField ∈ mm_ws := mm_t_5 160 rfl rfl
theorem kM_X7_69 : Cond.methodLink RX7 69 yX7_skipWord ∈ mm_ws := mm_t_5 164 rfl rfl
theorem kM_X7_66 : Cond.methodLinkNest RX7 66 yX11_isWordByte "ProtoDesk" ∈ mm_nest := mm_tN_5 168 rfl rfl
theorem kM_X7_76 : Cond.methodLink RX7 76 yX6_memberCalled ∈ mm_ws := mm_t_5 169 rfl rfl
theorem kM_X7_82 : Cond.methodLink RX7 82 yX8_isTaken ∈ mm_ws := mm_t_5 173 rfl rfl
theorem kM_X7_91 : Cond.methodLink RX7 91 yX8_put ∈ mm_ws := mm_t_5 177 rfl rfl
theorem kM_X7_98 : Cond.methodLink RX7 98 yX7_readValue ∈ mm_ws := mm_t_5 178 rfl rfl
theorem kM_X7_101 : Cond.methodLinkNest RX7 101 yX11_isNumeric "ProtoDesk" ∈ mm_nest := mm_tN_5 182 rfl rfl
theorem kM_X7_104 : Cond.methodLink RX7 104 yX7_readText ∈ mm_ws := mm_t_5 183 rfl rfl
theorem kM_X7_160 : Cond.methodLink RX7 160 yX7_readEscape ∈ mm_ws := mm_t_5 187 rfl rfl
theorem kM_X7_163 : Cond.methodLink RX7 163 yX0_add ∈ mm_ws := mm_t_5 195 rfl rfl
theorem kM_X7_170 : Cond.methodLink RX7 170 yX0_isUtf8 ∈ mm_ws := mm_t_5 196 rfl rfl
theorem kM_X7_108 : Cond.methodLink RX7 108 yX7_readBool ∈ mm_ws := mm_t_5 197 rfl rfl
theorem kM_X7_131 : Cond.methodLink RX7 131 yX0_wordIn ∈ mm_ws := mm_t_5 202 rfl rfl
theorem kM_X7_112 : Cond.methodLinkNest RX7 112 yX11_isLetter "ProtoDesk" ∈ mm_nest := mm_tN_5 203 rfl rfl
theorem kM_X7_115 : Cond.methodLink RX7 115 yX7_readEnumName ∈ mm_ws := mm_t_5 204 rfl rfl
theorem kM_X7_119 : Cond.methodLink RX7 119 yX7_readNumber ∈ mm_ws := mm_t_5 208 rfl rfl
theorem kL_X7_136 : Cond.constantLong RX7 136 (1844674407370955161) ∈ mm_ws := mm_t_5 212 rfl rfl
theorem kL_X7_138 : Cond.constantLong RX7 138 (10) ∈ mm_ws := mm_t_5 213 rfl rfl
theorem kM_X7_140 : Cond.methodLink RX7 140 yX7_isInRange ∈ mm_ws := mm_t_5 214 rfl rfl
theorem kL_X7_144 : Cond.constantLong RX7 144 (4294967295) ∈ mm_ws := mm_t_5 217 rfl rfl
theorem kL_X7_148 : Cond.constantLong RX7 148 (-9223372036854775808) ∈ mm_ws := mm_t_5 218 rfl rfl
theorem kL_X7_150 : Cond.constantLong RX7 150 (2147483648) ∈ mm_ws := mm_t_5 219 rfl rfl
theorem kL_X7_152 : Cond.constantLong RX7 152 (2147483647) ∈ mm_ws := mm_t_5 220 rfl rfl
theorem kM_L_101 : Cond.methodLink RL 101 yL_encode ∈ mm_ws := mm_t_5 221 rfl rfl
theorem kM_L_39 : Cond.methodLink RL 39 yX11_encode ∈ mm_ws := mm_t_5 224 rfl rfl
theorem kM_X11_175 : Cond.methodLink RX11 175 yX8_isThere ∈ mm_ws := mm_t_5 228 rfl rfl
theorem kM_X11_181 : Cond.methodLink RX11 181 yX9_write ∈ mm_ws := mm_t_5 233 rfl rfl
theorem kM_X9_143 : Cond.methodLink RX9 143 yX9_writeMessage ∈ mm_ws := mm_t_5 237 rfl rfl
theorem kM_X9_156 : Cond.methodLink RX9 156 yX9_writeRow ∈ mm_ws := mm_t_6 1 rfl rfl
theorem kL_X9_171 : Cond.constantLong RX9 171 (2) ∈ mm_ws := mm_t_6 5 rfl rfl
theorem kM_X9_173 : Cond.methodLink RX9 173 yX0_addVarint ∈ mm_ws := mm_t_6 6 rfl rfl
theorem kL_X0_45 : Cond.constantLong RX0 45 (127) ∈ mm_ws := mm_t_6 10 rfl rfl
theorem kM_X9_177 : Cond.methodLink RX9 177 yX9_writeNumber ∈ mm_ws := mm_t_6 11 rfl rfl
theorem kM_X9_185 : Cond.methodLink RX9 185 yX0_addFixed ∈ mm_ws := mm_t_6 15 rfl rfl
theorem kM_X9_181 : Cond.methodLink RX9 181 yX0_insertLength ∈ mm_ws := mm_t_6 19 rfl rfl
theorem kM_X0_53 : Cond.methodLink RX0 53 yX0_addVarint ∈ mm_ws := mm_t_6 26 rfl rfl
theorem kM_X9_159 : Cond.methodLink RX9 159 yX4_isNothing ∈ mm_ws := mm_t_6 27 rfl rfl
theorem kM_X9_163 : Cond.methodLink RX9 163 yX9_writeField ∈ mm_ws := mm_t_6 28 rfl rfl
theorem kM_L_105 : Cond.methodLink RL 105 yL_print ∈ mm_ws := mm_t_6 32 rfl rfl
theorem kC_L_46 : Cond.classLink RL 46 "java/lang/UnsupportedOperationException" ∈ mm_ws := mm_t_6 35 rfl rfl
theorem kM_L_43 : Cond.methodLink RL 43 yX11_print ∈ mm_ws := mm_t_6 36 rfl rfl
theorem kM_X11_184 : Cond.methodLink RX11 184 yX7_write ∈ mm_ws := mm_t_6 40 rfl rfl
theorem kM_X7_187 : Cond.methodLink RX7 187 yX6_text ∈ mm_ws := mm_t_6 44 rfl rfl
theorem kM_X7_191 : Cond.methodLink RX7 191 yX7_writeMessage ∈ mm_ws := mm_t_6 45 rfl rfl
theorem kM_X7_201 : Cond.methodLink RX7 201 yX4_isNothing ∈ mm_ws := mm_t_6 49 rfl rfl
theorem kM_X7_204 : Cond.methodLink RX7 204 yX7_writeField ∈ mm_ws := mm_t_6 50 rfl rfl
theorem kM_X7_211 : Cond.methodLink RX7 211 yX7_writeIndent ∈ mm_ws := mm_t_6 54 rfl rfl
theorem kM_X7_226 : Cond.methodLink RX7 226 yX0_addText ∈ mm_ws := mm_t_6 59 rfl rfl
theorem kM_X7_220 : Cond.methodLink RX7 220 yX0_addAll ∈ mm_ws := mm_t_6 63 rfl rfl
theorem kM_X7_234 : Cond.methodLink RX7 234 yX7_writeNumber ∈ mm_ws := mm_t_6 67 rfl rfl
theorem kM_X7_244 : Cond.methodLink RX7 244 yX3_memberNumbered ∈ mm_ws := mm_t_6 71 rfl rfl
theorem kM_X7_252 : Cond.methodLink RX7 252 yX7_writeDecimal ∈ mm_ws := mm_t_6 74 rfl rfl
theorem kL_X7_256 : Cond.constantLong RX7 256 (5) ∈ mm_ws := mm_t_6 78 rfl rfl
theorem kM_X7_238 : Cond.methodLink RX7 238 yX7_writeText ∈ mm_ws := mm_t_6 79 rfl rfl
theorem kM_X7_258 : Cond.methodLink RX7 258 yX7_writeTextByte ∈ mm_ws := mm_t_6 83 rfl rfl
theorem kM_X11_185 : Cond.methodLink RX11 185 yX0_isSpilt ∈ mm_ws := mm_t_6 87 rfl rfl
theorem kC_X11_188 : Cond.classLink RX11 188 "java/lang/UnsupportedOperationException" ∈ mm_ws := mm_t_6 88 rfl rfl
theorem wk_UnsupportedOperationException_UnsupportedOperationException : Cond.castable "java/lang/UnsupportedOperationException" "java/lang/UnsupportedOperationException" ∈ mm_nest := mm_tN_6 90 rfl rfl
theorem kM_L_108 : Cond.methodLink RL 108 yL_check ∈ mm_ws := mm_t_6 104 rfl rfl
theorem kM_L_48 : Cond.methodLink RL 48 yX11_check ∈ mm_ws := mm_t_6 107 rfl rfl
theorem kM_X11_198 : Cond.methodLink RX11 198 yX1_compare ∈ mm_ws := mm_t_6 112 rfl rfl
theorem kM_X1_32 : Cond.methodLink RX1 32 yX1_enter ∈ mm_ws := mm_t_6 116 rfl rfl
theorem kK_X1_36 : Cond.constant RX1 36 (1000000) ∈ mm_ws := mm_t_6 120 rfl rfl
theorem kM_X1_37 : Cond.methodLink RX1 37 yX1_look ∈ mm_ws := mm_t_6 121 rfl rfl
theorem kM_X1_55 : Cond.methodLink RX1 55 yX3_memberNumbered ∈ mm_ws := mm_t_6 125 rfl rfl
theorem kM_X1_69 : Cond.methodLink RX1 69 yX1_isUnderstood ∈ mm_ws := mm_t_6 126 rfl rfl
theorem kM_X1_76 : Cond.methodLink RX1 76 yX1_isTornApart ∈ mm_ws := mm_t_6 129 rfl rfl
theorem kM_X1_41 : Cond.methodLink RX1 41 yX1_tellWay ∈ mm_ws := mm_t_6 132 rfl rfl
theorem kM_X1_86 : Cond.methodLink RX1 86 yX0_addVarint ∈ mm_ws := mm_t_6 136 rfl rfl
theorem kM_L_111 : Cond.methodLink RL 111 yL_out ∈ mm_ws := mm_t_6 137 rfl rfl
theorem kC_L_55 : Cond.classLink RL 55 "java/lang/IndexOutOfBoundsException" ∈ mm_ws := mm_t_6 140 rfl rfl
theorem kM_L_51 : Cond.methodLink RL 51 yX11_out ∈ mm_ws := mm_t_6 141 rfl rfl
theorem kC_X11_202 : Cond.classLink RX11 202 "java/lang/IndexOutOfBoundsException" ∈ mm_ws := mm_t_6 145 rfl rfl
theorem wk_IndexOutOfBoundsException_IndexOutOfBoundsException : Cond.castable "java/lang/IndexOutOfBoundsException" "java/lang/IndexOutOfBoundsException" ∈ mm_nest := mm_tN_6 147 rfl rfl
theorem kM_X11_207 : Cond.methodLink RX11 207 yX0_at ∈ mm_ws := mm_t_6 161 rfl rfl
theorem kM_L_114 : Cond.methodLink RL 114 yL_turn ∈ mm_ws := mm_t_6 163 rfl rfl
theorem kM_L_57 : Cond.methodLink RL 57 yX11_turn ∈ mm_ws := mm_t_6 166 rfl rfl
theorem kM_X11_218 : Cond.methodLink RX11 218 yX0_addAll ∈ mm_ws := mm_t_6 171 rfl rfl
theorem kC_L_61 : Cond.classLink RL 61 RX12 ∈ mm_ws := mm_t_6 172 rfl rfl
theorem kM_L_63 : Cond.methodLink RL 63 yX12_init ∈ mm_ws := mm_t_6 174 rfl rfl
theorem kM_X12_1 : Cond.methodLink RX12 1 objectInit ∈ mm_ws := mm_t_6 177 rfl rfl
theorem kF_X12_7 : Cond.fieldLink RX12 7 RX12 "tape" "[I" ∈ mm_ws := mm_t_6 178 rfl rfl
theorem kF_X12_268 : Cond.fieldLink RX12 268 RX12 "tapeLong" "I" ∈ mm_ws := mm_t_6 179 rfl rfl
theorem kF_X12_13 : Cond.fieldLink RX12 13 RX12 "out" "[I" ∈ mm_ws := mm_t_6 180 rfl rfl
theorem kF_X12_271 : Cond.fieldLink RX12 271 RX12 "outLong" "I" ∈ mm_ws := mm_t_6 181 rfl rfl
theorem kF_X12_697 : Cond.fieldLink RX12 697 RX12 "over" "Z" ∈ mm_ws := mm_t_6 182 rfl rfl
theorem kF_X12_265 : Cond.fieldLink RX12 265 RX12 "thrown" "I" ∈ mm_ws := mm_t_6 183 rfl rfl
theorem kF_X12_16 : Cond.fieldLink RX12 16 RX12 "told" "I" ∈ mm_ws := mm_t_6 184 rfl rfl
theorem kF_X12_20 : Cond.fieldLink RX12 20 RX12 "messages" "[I" ∈ mm_ws := mm_t_6 185 rfl rfl
theorem kF_X12_23 : Cond.fieldLink RX12 23 RX12 "enums" "[I" ∈ mm_ws := mm_t_6 186 rfl rfl
theorem kF_X12_26 : Cond.fieldLink RX12 26 RX12 "fields" "[I" ∈ mm_ws := mm_t_6 187 rfl rfl
theorem kF_X12_29 : Cond.fieldLink RX12 29 RX12 "enumValues" "[I" ∈ mm_ws := mm_t_6 188 rfl rfl
theorem kF_X12_32 : Cond.fieldLink RX12 32 RX12 "around" "[I" ∈ mm_ws := mm_t_6 189 rfl rfl
theorem kF_X12_35 : Cond.fieldLink RX12 35 RX12 "messageName" "[I" ∈ mm_ws := mm_t_6 190 rfl rfl
theorem kF_X12_38 : Cond.fieldLink RX12 38 RX12 "messageNameLong" "[I" ∈ mm_ws := mm_t_6 191 rfl rfl
theorem kF_X12_41 : Cond.fieldLink RX12 41 RX12 "enumAround" "[I" ∈ mm_ws := mm_t_6 192 rfl rfl
theorem kF_X12_44 : Cond.fieldLink RX12 44 RX12 "enumName" "[I" ∈ mm_ws := mm_t_6 193 rfl rfl
theorem kF_X12_47 : Cond.fieldLink RX12 47 RX12 "enumNameLong" "[I" ∈ mm_ws := mm_t_6 194 rfl rfl
theorem kF_X12_50 : Cond.fieldLink RX12 50 RX12 "fieldOf" "[I" ∈ mm_ws := mm_t_6 195 rfl rfl
theorem kF_X12_53 : Cond.fieldLink RX12 53 RX12 "fieldName" "[I" ∈ mm_ws := mm_t_6 196 rfl rfl
theorem kF_X12_56 : Cond.fieldLink RX12 56 RX12 "fieldNameLong" "[I" ∈ mm_ws := mm_t_6 197 rfl rfl
theorem kF_X12_59 : Cond.fieldLink RX12 59 RX12 "fieldNumber" "[I" ∈ mm_ws := mm_t_6 198 rfl rfl
theorem kF_X12_62 : Cond.fieldLink RX12 62 RX12 "fieldType" "[I" ∈ mm_ws := mm_t_6 199 rfl rfl
theorem kF_X12_65 : Cond.fieldLink RX12 65 RX12 "fieldRef" "[I" ∈ mm_ws := mm_t_6 200 rfl rfl
theorem kF_X12_68 : Cond.fieldLink RX12 68 RX12 "repeated" "[Z" ∈ mm_ws := mm_t_6 201 rfl rfl
theorem kF_X12_72 : Cond.fieldLink RX12 72 RX12 "packed" "[Z" ∈ mm_ws := mm_t_6 202 rfl rfl
theorem kF_X12_75 : Cond.fieldLink RX12 75 RX12 "oneof" "[I" ∈ mm_ws := mm_t_6 203 rfl rfl
theorem kF_X12_78 : Cond.fieldLink RX12 78 RX12 "valueOf" "[I" ∈ mm_ws := mm_t_6 204 rfl rfl
theorem kF_X12_81 : Cond.fieldLink RX12 81 RX12 "valueName" "[I" ∈ mm_ws := mm_t_6 205 rfl rfl
theorem kF_X12_84 : Cond.fieldLink RX12 84 RX12 "valueNameLong" "[I" ∈ mm_ws := mm_t_6 206 rfl rfl
theorem kF_X12_87 : Cond.fieldLink RX12 87 RX12 "valueNumber" "[I" ∈ mm_ws := mm_t_6 207 rfl rfl
theorem kF_X12_90 : Cond.fieldLink RX12 90 RX12 "names" "[I" ∈ mm_ws := mm_t_6 208 rfl rfl
theorem kF_X12_542 : Cond.fieldLink RX12 542 RX12 "namesLong" "I" ∈ mm_ws := mm_t_6 209 rfl rfl
theorem kF_X12_493 : Cond.fieldLink RX12 493 RX12 "dMessages" "I" ∈ mm_ws := mm_t_6 210 rfl rfl
theorem kF_X12_487 : Cond.fieldLink RX12 487 RX12 "dEnums" "I" ∈ mm_ws := mm_t_6 211 rfl rfl
theorem kF_X12_457 : Cond.fieldLink RX12 457 RX12 "dFields" "I" ∈ mm_ws := mm_t_6 212 rfl rfl
theorem kF_X12_484 : Cond.fieldLink RX12 484 RX12 "dValues" "I" ∈ mm_ws := mm_t_6 213 rfl rfl
theorem kF_X12_475 : Cond.fieldLink RX12 475 RX12 "dOneofs" "I" ∈ mm_ws := mm_t_6 214 rfl rfl
theorem kF_X12_431 : Cond.fieldLink RX12 431 RX12 "dParts" "I" ∈ mm_ws := mm_t_6 215 rfl rfl
theorem kF_X12_394 : Cond.fieldLink RX12 394 RX12 "dNames" "I" ∈ mm_ws := mm_t_6 216 rfl rfl
theorem kF_X12_93 : Cond.fieldLink RX12 93 RX12 "dmAround" "[I" ∈ mm_ws := mm_t_6 217 rfl rfl
theorem kF_X12_96 : Cond.fieldLink RX12 96 RX12 "dmName" "[I" ∈ mm_ws := mm_t_6 218 rfl rfl
theorem kF_X12_99 : Cond.fieldLink RX12 99 RX12 "dmLong" "[I" ∈ mm_ws := mm_t_6 219 rfl rfl
theorem kF_X12_102 : Cond.fieldLink RX12 102 RX12 "deAround" "[I" ∈ mm_ws := mm_t_6 220 rfl rfl
theorem kF_X12_105 : Cond.fieldLink RX12 105 RX12 "deName" "[I" ∈ mm_ws := mm_t_6 221 rfl rfl
theorem kF_X12_108 : Cond.fieldLink RX12 108 RX12 "deLong" "[I" ∈ mm_ws := mm_t_6 222 rfl rfl
theorem kF_X12_111 : Cond.fieldLink RX12 111 RX12 "dfOf" "[I" ∈ mm_ws := mm_t_6 223 rfl rfl
theorem kF_X12_114 : Cond.fieldLink RX12 114 RX12 "dfName" "[I" ∈ mm_ws := mm_t_6 224 rfl rfl
theorem kF_X12_117 : Cond.fieldLink RX12 117 RX12 "dfLong" "[I" ∈ mm_ws := mm_t_6 225 rfl rfl
theorem kF_X12_120 : Cond.fieldLink RX12 120 RX12 "dfNumber" "[J" ∈ mm_ws := mm_t_6 226 rfl rfl
theorem kF_X12_124 : Cond.fieldLink RX12 124 RX12 "dfNumberAt" "[I" ∈ mm_ws := mm_t_6 227 rfl rfl
theorem kF_X12_127 : Cond.fieldLink RX12 127 RX12 "dfType" "[I" ∈ mm_ws := mm_t_6 228 rfl rfl
theorem kF_X12_130 : Cond.fieldLink RX12 130 RX12 "dfTypeAt" "[I" ∈ mm_ws := mm_t_6 229 rfl rfl
theorem kF_X12_133 : Cond.fieldLink RX12 133 RX12 "dfRef" "[I" ∈ mm_ws := mm_t_6 230 rfl rfl
theorem kF_X12_136 : Cond.fieldLink RX12 136 RX12 "dfFromTop" "[Z" ∈ mm_ws := mm_t_6 231 rfl rfl
theorem kF_X12_139 : Cond.fieldLink RX12 139 RX12 "dfPart" "[I" ∈ mm_ws := mm_t_6 232 rfl rfl
theorem kF_X12_142 : Cond.fieldLink RX12 142 RX12 "dfParts" "[I" ∈ mm_ws := mm_t_6 233 rfl rfl
theorem kF_X12_145 : Cond.fieldLink RX12 145 RX12 "dfRepeated" "[Z" ∈ mm_ws := mm_t_6 234 rfl rfl
theorem kF_X12_148 : Cond.fieldLink RX12 148 RX12 "dfPacked" "[I" ∈ mm_ws := mm_t_6 235 rfl rfl
theorem kF_X12_151 : Cond.fieldLink RX12 151 RX12 "dfPackedAt" "[I" ∈ mm_ws := mm_t_6 236 rfl rfl
theorem kF_X12_154 : Cond.fieldLink RX12 154 RX12 "dfOneof" "[I" ∈ mm_ws := mm_t_6 237 rfl rfl
theorem kF_X12_157 : Cond.fieldLink RX12 157 RX12 "dvOf" "[I" ∈ mm_ws := mm_t_6 238 rfl rfl
theorem kF_X12_160 : Cond.fieldLink RX12 160 RX12 "dvName" "[I" ∈ mm_ws := mm_t_6 239 rfl rfl
theorem kF_X12_163 : Cond.fieldLink RX12 163 RX12 "dvLong" "[I" ∈ mm_ws := mm_t_7 0 rfl rfl
theorem kF_X12_166 : Cond.fieldLink RX12 166 RX12 "dvNumber" "[J" ∈ mm_ws := mm_t_7 1 rfl rfl
theorem kF_X12_169 : Cond.fieldLink RX12 169 RX12 "dvNumberAt" "[I" ∈ mm_ws := mm_t_7 2 rfl rfl
theorem kF_X12_172 : Cond.fieldLink RX12 172 RX12 "partAt" "[I" ∈ mm_ws := mm_t_7 3 rfl rfl
theorem kF_X12_175 : Cond.fieldLink RX12 175 RX12 "partLong" "[I" ∈ mm_ws := mm_t_7 4 rfl rfl
theorem kF_X12_178 : Cond.fieldLink RX12 178 RX12 "nameIn" "[I" ∈ mm_ws := mm_t_7 5 rfl rfl
theorem kF_X12_181 : Cond.fieldLink RX12 181 RX12 "nameAt" "[I" ∈ mm_ws := mm_t_7 6 rfl rfl
theorem kF_X12_184 : Cond.fieldLink RX12 184 RX12 "nameLong" "[I" ∈ mm_ws := mm_t_7 7 rfl rfl
theorem kF_X12_298 : Cond.fieldLink RX12 298 RX12 "kind" "I" ∈ mm_ws := mm_t_7 8 rfl rfl
theorem kF_X12_305 : Cond.fieldLink RX12 305 RX12 "wordAt" "I" ∈ mm_ws := mm_t_7 9 rfl rfl
theorem kF_X12_316 : Cond.fieldLink RX12 316 RX12 "wordEnd" "I" ∈ mm_ws := mm_t_7 10 rfl rfl
theorem kF_X12_274 : Cond.fieldLink RX12 274 RX12 "size" "I" ∈ mm_ws := mm_t_7 11 rfl rfl
theorem kF_X12_328 : Cond.fieldLink RX12 328 RX12 "error" "I" ∈ mm_ws := mm_t_7 12 rfl rfl
theorem kF_X12_331 : Cond.fieldLink RX12 331 RX12 "errorAt" "I" ∈ mm_ws := mm_t_7 13 rfl rfl
theorem kF_X12_288 : Cond.fieldLink RX12 288 RX12 "unclosed" "Z" ∈ mm_ws := mm_t_7 14 rfl rfl
theorem kF_X12_301 : Cond.fieldLink RX12 301 RX12 "wordValue" "J" ∈ mm_ws := mm_t_7 15 rfl rfl
theorem kF_X12_187 : Cond.fieldLink RX12 187 RX12 "open" "[I" ∈ mm_ws := mm_t_7 16 rfl rfl
theorem kF_X12_551 : Cond.fieldLink RX12 551 RX12 "hasValue" "Z" ∈ mm_ws := mm_t_7 17 rfl rfl
theorem kF_X12_587 : Cond.fieldLink RX12 587 RX12 "schema" "I" ∈ mm_ws := mm_t_7 18 rfl rfl
theorem kF_X12_593 : Cond.fieldLink RX12 593 RX12 "nodes" "I" ∈ mm_ws := mm_t_7 19 rfl rfl
theorem kF_X12_596 : Cond.fieldLink RX12 596 RX12 "rows" "I" ∈ mm_ws := mm_t_7 20 rfl rfl
theorem kF_X12_599 : Cond.fieldLink RX12 599 RX12 "unknowns" "I" ∈ mm_ws := mm_t_7 21 rfl rfl
theorem kF_X12_602 : Cond.fieldLink RX12 602 RX12 "poolLong" "I" ∈ mm_ws := mm_t_7 22 rfl rfl
theorem kF_X12_605 : Cond.fieldLink RX12 605 RX12 "deepest" "I" ∈ mm_ws := mm_t_7 23 rfl rfl
theorem kF_X12_190 : Cond.fieldLink RX12 190 RX12 "nodeMessage" "[I" ∈ mm_ws := mm_t_7 24 rfl rfl
theorem kF_X12_193 : Cond.fieldLink RX12 193 RX12 "nodeRow" "[I" ∈ mm_ws := mm_t_7 25 rfl rfl
theorem kF_X12_196 : Cond.fieldLink RX12 196 RX12 "nodeDeep" "[I" ∈ mm_ws := mm_t_7 26 rfl rfl
theorem kF_X12_199 : Cond.fieldLink RX12 199 RX12 "nodeBytes" "[I" ∈ mm_ws := mm_t_7 27 rfl rfl
theorem kF_X12_202 : Cond.fieldLink RX12 202 RX12 "nodeAlive" "[Z" ∈ mm_ws := mm_t_7 28 rfl rfl
theorem kF_X12_205 : Cond.fieldLink RX12 205 RX12 "rowNode" "[I" ∈ mm_ws := mm_t_7 29 rfl rfl
theorem kF_X12_208 : Cond.fieldLink RX12 208 RX12 "rowField" "[I" ∈ mm_ws := mm_t_7 30 rfl rfl
theorem kF_X12_211 : Cond.fieldLink RX12 211 RX12 "rowValue" "[J" ∈ mm_ws := mm_t_7 31 rfl rfl
theorem kF_X12_214 : Cond.fieldLink RX12 214 RX12 "rowAt" "[I" ∈ mm_ws := mm_t_7 32 rfl rfl
theorem kF_X12_217 : Cond.fieldLink RX12 217 RX12 "rowLong" "[I" ∈ mm_ws := mm_t_7 33 rfl rfl
theorem kF_X12_220 : Cond.fieldLink RX12 220 RX12 "rowChild" "[I" ∈ mm_ws := mm_t_7 34 rfl rfl
theorem kF_X12_223 : Cond.fieldLink RX12 223 RX12 "alive" "[Z" ∈ mm_ws := mm_t_7 35 rfl rfl
theorem kF_X12_226 : Cond.fieldLink RX12 226 RX12 "unknownNode" "[I" ∈ mm_ws := mm_t_7 36 rfl rfl
theorem kF_X12_229 : Cond.fieldLink RX12 229 RX12 "unknownAt" "[I" ∈ mm_ws := mm_t_7 37 rfl rfl
theorem kF_X12_232 : Cond.fieldLink RX12 232 RX12 "unknownLong" "[I" ∈ mm_ws := mm_t_7 38 rfl rfl
theorem kF_X12_235 : Cond.fieldLink RX12 235 RX12 "pool" "[I" ∈ mm_ws := mm_t_7 39 rfl rfl
theorem kF_X12_238 : Cond.fieldLink RX12 238 RX12 "stackNode" "[I" ∈ mm_ws := mm_t_7 40 rfl rfl
theorem kF_X12_241 : Cond.fieldLink RX12 241 RX12 "stackEnd" "[I" ∈ mm_ws := mm_t_7 41 rfl rfl
theorem kF_X12_244 : Cond.fieldLink RX12 244 RX12 "stackRow" "[I" ∈ mm_ws := mm_t_7 42 rfl rfl
theorem kF_X12_247 : Cond.fieldLink RX12 247 RX12 "stackNumber" "[I" ∈ mm_ws := mm_t_7 43 rfl rfl
theorem kF_X12_650 : Cond.fieldLink RX12 650 RX12 "deep" "I" ∈ mm_ws := mm_t_7 44 rfl rfl
theorem kF_X12_590 : Cond.fieldLink RX12 590 RX12 "wrong" "Z" ∈ mm_ws := mm_t_7 45 rfl rfl
theorem kF_X12_633 : Cond.fieldLink RX12 633 RX12 "got" "J" ∈ mm_ws := mm_t_7 46 rfl rfl
theorem kF_X12_636 : Cond.fieldLink RX12 636 RX12 "at" "I" ∈ mm_ws := mm_t_7 47 rfl rfl
theorem kF_X12_250 : Cond.fieldLink RX12 250 RX12 "digits" "[I" ∈ mm_ws := mm_t_7 48 rfl rfl
theorem kF_X12_253 : Cond.fieldLink RX12 253 RX12 "looked" "[Z" ∈ mm_ws := mm_t_7 49 rfl rfl
theorem kF_X12_256 : Cond.fieldLink RX12 256 RX12 "pairOld" "[I" ∈ mm_ws := mm_t_7 50 rfl rfl
theorem kF_X12_259 : Cond.fieldLink RX12 259 RX12 "pairNew" "[I" ∈ mm_ws := mm_t_7 51 rfl rfl
theorem kF_X12_262 : Cond.fieldLink RX12 262 RX12 "pairField" "[I" ∈ mm_ws := mm_t_7 52 rfl rfl
theorem kM_L_72 : Cond.methodLink RL 72 yX12_thrown ∈ mm_ws := mm_t_8 44 rfl rfl
theorem kM_L_71 : Cond.methodLink RL 71 yX12_feed ∈ mm_ws := mm_t_8 48 rfl rfl
theorem kM_L_113 : Cond.methodLink RL 113 yX12_out ∈ mm_ws := mm_t_8 52 rfl rfl
theorem kM_L_116 : Cond.methodLink RL 116 yX12_turn ∈ mm_ws := mm_t_8 56 rfl rfl
theorem kM_L_78 : Cond.methodLink RL 78 yX12_compile ∈ mm_ws := mm_t_8 60 rfl rfl
theorem kM_X12_548 : Cond.methodLink RX12 548 yX12_isSchema ∈ mm_ws := mm_t_8 64 rfl rfl
theorem kM_X12_554 : Cond.methodLink RX12 554 yX12_readSchema ∈ mm_ws := mm_t_8 67 rfl rfl
theorem kM_X12_350 : Cond.methodLink RX12 350 yX12_look ∈ mm_ws := mm_t_8 71 rfl rfl
theorem kM_X12_319 : Cond.methodLink RX12 319 yX12_behindBlanks ∈ mm_ws := mm_t_8 75 rfl rfl
theorem kM_X12_284 : Cond.methodLink RX12 284 yX12_byteAt ∈ mm_ws := mm_t_8 79 rfl rfl
theorem kM_X12_292 : Cond.methodLink RX12 292 yX12_isBlank ∈ mm_ws := mm_t_8 83 rfl rfl
theorem kM_X12_295 : Cond.methodLink RX12 295 yX12_behindComment ∈ mm_ws := mm_t_8 86 rfl rfl
theorem kM_X12_277 : Cond.methodLink RX12 277 yX12_isLetter ∈ mm_ws := mm_t_8 90 rfl rfl
theorem kM_X12_313 : Cond.methodLink RX12 313 yX12_isPart ∈ mm_ws := mm_t_8 93 rfl rfl
theorem kM_X12_281 : Cond.methodLink RX12 281 yX12_isDigit ∈ mm_ws := mm_t_8 96 rfl rfl
theorem kM_X12_322 : Cond.methodLink RX12 322 yX12_readNumber ∈ mm_ws := mm_t_8 99 rfl rfl
theorem kM_X12_308 : Cond.methodLink RX12 308 yX12_sixteenth ∈ mm_ws := mm_t_8 103 rfl rfl
theorem kL_X12_311 : Cond.constantLong RX12 311 (1000000000000000) ∈ mm_ws := mm_t_8 106 rfl rfl
theorem kM_X12_325 : Cond.methodLink RX12 325 yX12_readText ∈ mm_ws := mm_t_8 107 rfl rfl
theorem kL_X12_507 : Cond.constantLong RX12 507 (126965381357944) ∈ mm_ws := mm_t_8 111 rfl rfl
theorem kM_X12_446 : Cond.methodLink RX12 446 yX12_takeWord ∈ mm_ws := mm_t_8 112 rfl rfl
theorem kM_X12_364 : Cond.methodLink RX12 364 yX12_isWord ∈ mm_ws := mm_t_8 116 rfl rfl
theorem kM_X12_342 : Cond.methodLink RX12 342 yX12_isPlain ∈ mm_ws := mm_t_8 120 rfl rfl
theorem kM_X12_334 : Cond.methodLink RX12 334 yX12_letters ∈ mm_ws := mm_t_8 124 rfl rfl
theorem kM_X12_338 : Cond.methodLink RX12 338 yX12_letter ∈ mm_ws := mm_t_8 127 rfl rfl
theorem kM_X12_357 : Cond.methodLink RX12 357 yX12_next ∈ mm_ws := mm_t_8 130 rfl rfl
theorem kM_X12_360 : Cond.methodLink RX12 360 yX12_fail ∈ mm_ws := mm_t_8 134 rfl rfl
theorem kM_X12_450 : Cond.methodLink RX12 450 yX12_takeSign ∈ mm_ws := mm_t_8 138 rfl rfl
theorem kM_X12_354 : Cond.methodLink RX12 354 yX12_isSign ∈ mm_ws := mm_t_8 142 rfl rfl
theorem kM_X12_509 : Cond.methodLink RX12 509 yX12_isProto3 ∈ mm_ws := mm_t_8 146 rfl rfl
theorem kL_X12_505 : Cond.constantLong RX12 505 (123636798484275) ∈ mm_ws := mm_t_8 150 rfl rfl
theorem kM_X12_512 : Cond.methodLink RX12 512 yX12_takeMember ∈ mm_ws := mm_t_8 151 rfl rfl
theorem kM_X12_478 : Cond.methodLink RX12 478 yX12_isForeign ∈ mm_ws := mm_t_8 155 rfl rfl
theorem kL_X12_368 : Cond.constantLong RX12 368 (115918758703732) ∈ mm_ws := mm_t_8 159 rfl rfl
theorem kL_X12_370 : Cond.constantLong RX12 370 (31632277022795621) ∈ mm_ws := mm_t_8 160 rfl rfl
theorem kL_X12_372 : Cond.constantLong RX12 372 (122528780087150) ∈ mm_ws := mm_t_8 161 rfl rfl
theorem kL_X12_374 : Cond.constantLong RX12 374 (32481164609020773) ∈ mm_ws := mm_t_8 162 rfl rfl
theorem kL_X12_376 : Cond.constantLong RX12 376 (111568023285348) ∈ mm_ws := mm_t_8 163 rfl rfl
theorem kL_X12_378 : Cond.constantLong RX12 378 (7168368) ∈ mm_ws := mm_t_8 164 rfl rfl
theorem kL_X12_380 : Cond.constantLong RX12 380 (8030046131791487340) ∈ mm_ws := mm_t_8 165 rfl rfl
theorem kL_X12_382 : Cond.constantLong RX12 382 (8243119442065778020) ∈ mm_ws := mm_t_8 166 rfl rfl
theorem kL_X12_384 : Cond.constantLong RX12 384 (444301538672) ∈ mm_ws := mm_t_8 167 rfl rfl
theorem kM_X12_386 : Cond.methodLink RX12 386 yX12_isExtensions ∈ mm_ws := mm_t_8 168 rfl rfl
theorem kL_X12_346 : Cond.constantLong RX12 346 (7311721974029576559) ∈ mm_ws := mm_t_8 172 rfl rfl
theorem kL_X12_348 : Cond.constantLong RX12 348 (28275) ∈ mm_ws := mm_t_8 173 rfl rfl
theorem kL_X12_390 : Cond.constantLong RX12 390 (8243121572520813924) ∈ mm_ws := mm_t_8 174 rfl rfl
theorem kL_X12_392 : Cond.constantLong RX12 392 (7499875) ∈ mm_ws := mm_t_8 175 rfl rfl
theorem kL_X12_423 : Cond.constantLong RX12 423 (30792318992869221) ∈ mm_ws := mm_t_8 176 rfl rfl
theorem kM_X12_496 : Cond.methodLink RX12 496 yX12_beginMessage ∈ mm_ws := mm_t_8 177 rfl rfl
theorem kM_X12_463 : Cond.methodLink RX12 463 yX12_declare ∈ mm_ws := mm_t_8 181 rfl rfl
theorem kM_X12_466 : Cond.methodLink RX12 466 yX12_lastAt ∈ mm_ws := mm_t_8 185 rfl rfl
theorem kM_X12_469 : Cond.methodLink RX12 469 yX12_lastLong ∈ mm_ws := mm_t_8 189 rfl rfl
theorem kL_X12_425 : Cond.constantLong RX12 425 (1701737837) ∈ mm_ws := mm_t_8 193 rfl rfl
theorem kM_X12_499 : Cond.methodLink RX12 499 yX12_takeEnum ∈ mm_ws := mm_t_8 194 rfl rfl
theorem kM_X12_490 : Cond.methodLink RX12 490 yX12_takeValue ∈ mm_ws := mm_t_8 198 rfl rfl
theorem kL_X12_427 : Cond.constantLong RX12 427 (478593511270) ∈ mm_ws := mm_t_8 202 rfl rfl
theorem kM_X12_502 : Cond.methodLink RX12 502 yX12_takeOneof ∈ mm_ws := mm_t_8 203 rfl rfl
theorem kM_X12_481 : Cond.methodLink RX12 481 yX12_takeField ∈ mm_ws := mm_t_8 207 rfl rfl
theorem kL_X12_429 : Cond.constantLong RX12 429 (8243118273700586852) ∈ mm_ws := mm_t_8 211 rfl rfl
theorem kM_X12_460 : Cond.methodLink RX12 460 yX12_takeType ∈ mm_ws := mm_t_8 212 rfl rfl
theorem kM_X12_434 : Cond.methodLink RX12 434 yX12_numberType ∈ mm_ws := mm_t_8 216 rfl rfl
theorem kL_X12_397 : Cond.constantLong RX12 397 (452824675122) ∈ mm_ws := mm_t_8 220 rfl rfl
theorem kL_X12_399 : Cond.constantLong RX12 399 (452824675892) ∈ mm_ws := mm_t_8 221 rfl rfl
theorem kL_X12_401 : Cond.constantLong RX12 401 (129095685124914) ∈ mm_ws := mm_t_8 222 rfl rfl
theorem kL_X12_403 : Cond.constantLong RX12 403 (129095685125684) ∈ mm_ws := mm_t_8 223 rfl rfl
theorem kL_X12_405 : Cond.constantLong RX12 405 (126896661869362) ∈ mm_ws := mm_t_8 224 rfl rfl
theorem kL_X12_407 : Cond.constantLong RX12 407 (126896661870132) ∈ mm_ws := mm_t_8 225 rfl rfl
theorem kL_X12_409 : Cond.constantLong RX12 409 (28826413442544434) ∈ mm_ws := mm_t_8 226 rfl rfl
theorem kL_X12_411 : Cond.constantLong RX12 411 (28826413442545204) ∈ mm_ws := mm_t_8 227 rfl rfl
theorem kL_X12_413 : Cond.constantLong RX12 413 (8315449727804257074) ∈ mm_ws := mm_t_8 228 rfl rfl
theorem kL_X12_415 : Cond.constantLong RX12 415 (8315449727804257844) ∈ mm_ws := mm_t_8 229 rfl rfl
theorem kL_X12_417 : Cond.constantLong RX12 417 (1651470188) ∈ mm_ws := mm_t_8 230 rfl rfl
theorem kL_X12_419 : Cond.constantLong RX12 419 (126943972912743) ∈ mm_ws := mm_t_8 231 rfl rfl
theorem kL_X12_421 : Cond.constantLong RX12 421 (422944466291) ∈ mm_ws := mm_t_8 232 rfl rfl
theorem kM_X12_438 : Cond.methodLink RX12 438 yX12_isReservedName ∈ mm_ws := mm_t_8 233 rfl rfl
theorem kM_X12_441 : Cond.methodLink RX12 441 yX12_takeParts ∈ mm_ws := mm_t_8 237 rfl rfl
theorem kM_X12_472 : Cond.methodLink RX12 472 yX12_takePacked ∈ mm_ws := mm_t_9 1 rfl rfl
theorem kL_X12_444 : Cond.constantLong RX12 444 (123563582121316) ∈ mm_ws := mm_t_9 5 rfl rfl
theorem kL_X12_453 : Cond.constantLong RX12 453 (1953658213) ∈ mm_ws := mm_t_9 6 rfl rfl
theorem kL_X12_455 : Cond.constantLong RX12 455 (439721161573) ∈ mm_ws := mm_t_9 7 rfl rfl
theorem kM_X12_557 : Cond.methodLink RX12 557 yX12_checkNames ∈ mm_ws := mm_t_9 8 rfl rfl
theorem kM_X12_515 : Cond.methodLink RX12 515 yX12_sameText ∈ mm_ws := mm_t_9 12 rfl rfl
theorem kM_X12_519 : Cond.methodLink RX12 519 yX12_earlier ∈ mm_ws := mm_t_9 16 rfl rfl
theorem kM_X12_560 : Cond.methodLink RX12 560 yX12_checkNumbers ∈ mm_ws := mm_t_9 20 rfl rfl
theorem kL_X12_522 : Cond.constantLong RX12 522 (536870911) ∈ mm_ws := mm_t_9 24 rfl rfl
theorem kL_X12_524 : Cond.constantLong RX12 524 (19000) ∈ mm_ws := mm_t_9 25 rfl rfl
theorem kL_X12_526 : Cond.constantLong RX12 526 (19999) ∈ mm_ws := mm_t_9 26 rfl rfl
theorem kL_X12_528 : Cond.constantLong RX12 528 (-2147483648) ∈ mm_ws := mm_t_9 27 rfl rfl
theorem kL_X12_530 : Cond.constantLong RX12 530 (2147483647) ∈ mm_ws := mm_t_9 28 rfl rfl
theorem kM_X12_563 : Cond.methodLink RX12 563 yX12_checkTypes ∈ mm_ws := mm_t_9 29 rfl rfl
theorem kM_X12_536 : Cond.methodLink RX12 536 yX12_resolve ∈ mm_ws := mm_t_9 33 rfl rfl
theorem kM_X12_532 : Cond.methodLink RX12 532 yX12_inScope ∈ mm_ws := mm_t_9 37 rfl rfl
theorem kM_X12_539 : Cond.methodLink RX12 539 yX12_isNumbers ∈ mm_ws := mm_t_9 41 rfl rfl
theorem kM_X12_566 : Cond.methodLink RX12 566 yX12_checkLimits ∈ mm_ws := mm_t_9 44 rfl rfl
theorem kM_X12_569 : Cond.methodLink RX12 569 yX12_keep ∈ mm_ws := mm_t_9 48 rfl rfl
theorem kM_X12_545 : Cond.methodLink RX12 545 yX12_keepName ∈ mm_ws := mm_t_9 52 rfl rfl
theorem kM_L_82 : Cond.methodLink RL 82 yX12_place ∈ mm_ws := mm_t_9 56 rfl rfl
theorem kM_L_86 : Cond.methodLink RL 86 yX12_many ∈ mm_ws := mm_t_9 60 rfl rfl
theorem kM_L_90 : Cond.methodLink RL 90 yX12_field ∈ mm_ws := mm_t_9 64 rfl rfl
theorem kM_X12_572 : Cond.methodLink RX12 572 yX12_isMessage ∈ mm_ws := mm_t_9 68 rfl rfl
theorem kM_X12_576 : Cond.methodLink RX12 576 yX12_fieldAt ∈ mm_ws := mm_t_9 72 rfl rfl
theorem kM_L_93 : Cond.methodLink RL 93 yX12_find ∈ mm_ws := mm_t_9 76 rfl rfl
theorem kM_X12_584 : Cond.methodLink RX12 584 yX12_named ∈ mm_ws := mm_t_9 80 rfl rfl
theorem kM_X12_580 : Cond.methodLink RX12 580 yX12_isTape ∈ mm_ws := mm_t_9 84 rfl rfl
theorem kM_L_97 : Cond.methodLink RL 97 yX12_decode ∈ mm_ws := mm_t_9 88 rfl rfl
theorem kM_X12_688 : Cond.methodLink RX12 688 yX12_begins ∈ mm_ws := mm_t_9 92 rfl rfl
theorem kM_X12_685 : Cond.methodLink RX12 685 yX12_beginValue ∈ mm_ws := mm_t_9 96 rfl rfl
theorem kM_X12_608 : Cond.methodLink RX12 608 yX12_addNode ∈ mm_ws := mm_t_9 100 rfl rfl
theorem kM_X12_691 : Cond.methodLink RX12 691 yX12_takeNext ∈ mm_ws := mm_t_9 104 rfl rfl
theorem kM_X12_641 : Cond.methodLink RX12 641 yX12_takeVarint ∈ mm_ws := mm_t_9 108 rfl rfl
theorem kL_X12_671 : Cond.constantLong RX12 671 (8) ∈ mm_ws := mm_t_9 112 rfl rfl
theorem kL_X12_639 : Cond.constantLong RX12 639 (4294967295) ∈ mm_ws := mm_t_9 113 rfl rfl
theorem kM_X12_673 : Cond.methodLink RX12 673 yX12_fieldNumbered ∈ mm_ws := mm_t_9 114 rfl rfl
theorem kM_X12_653 : Cond.methodLink RX12 653 yX12_kindOf ∈ mm_ws := mm_t_9 118 rfl rfl
theorem kM_X12_676 : Cond.methodLink RX12 676 yX12_takeLength ∈ mm_ws := mm_t_9 121 rfl rfl
theorem kM_X12_647 : Cond.methodLink RX12 647 yX12_putMessage ∈ mm_ws := mm_t_9 125 rfl rfl
theorem kM_X12_617 : Cond.methodLink RX12 617 yX12_rowFor ∈ mm_ws := mm_t_9 129 rfl rfl
theorem kM_X12_611 : Cond.methodLink RX12 611 yX12_addRow ∈ mm_ws := mm_t_9 133 rfl rfl
theorem kM_X12_614 : Cond.methodLink RX12 614 yX12_rowOf ∈ mm_ws := mm_t_9 137 rfl rfl
theorem kM_X12_656 : Cond.methodLink RX12 656 yX12_putText ∈ mm_ws := mm_t_9 141 rfl rfl
theorem kM_X12_624 : Cond.methodLink RX12 624 yX12_isUtf8 ∈ mm_ws := mm_t_9 145 rfl rfl
theorem kK_X12_620 : Cond.constant RX12 620 (65536) ∈ mm_ws := mm_t_9 149 rfl rfl
theorem kK_X12_621 : Cond.constant RX12 621 (55296) ∈ mm_ws := mm_t_9 150 rfl rfl
theorem kK_X12_622 : Cond.constant RX12 622 (57343) ∈ mm_ws := mm_t_9 151 rfl rfl
theorem kK_X12_623 : Cond.constant RX12 623 (1114111) ∈ mm_ws := mm_t_9 152 rfl rfl
theorem kM_X12_660 : Cond.methodLink RX12 660 yX12_takeOne ∈ mm_ws := mm_t_9 153 rfl rfl
theorem kM_X12_644 : Cond.methodLink RX12 644 yX12_takeFixed ∈ mm_ws := mm_t_9 157 rfl rfl
theorem kM_X12_663 : Cond.methodLink RX12 663 yX12_valueFor ∈ mm_ws := mm_t_9 161 rfl rfl
theorem kM_X12_667 : Cond.methodLink RX12 667 yX12_putNumber ∈ mm_ws := mm_t_9 164 rfl rfl
theorem kM_X12_679 : Cond.methodLink RX12 679 yX12_skip ∈ mm_ws := mm_t_9 168 rfl rfl
theorem kM_X12_682 : Cond.methodLink RX12 682 yX12_addUnknown ∈ mm_ws := mm_t_9 172 rfl rfl
theorem kM_X12_694 : Cond.methodLink RX12 694 yX12_finish ∈ mm_ws := mm_t_9 176 rfl rfl
theorem kM_X12_627 : Cond.methodLink RX12 627 yX12_liveValues ∈ mm_ws := mm_t_9 180 rfl rfl
theorem kM_X12_630 : Cond.methodLink RX12 630 yX12_liveBytes ∈ mm_ws := mm_t_9 184 rfl rfl
theorem kM_L_104 : Cond.methodLink RL 104 yX12_encode ∈ mm_ws := mm_t_9 188 rfl rfl
theorem kM_X12_746 : Cond.methodLink RX12 746 yX12_emptyOut ∈ mm_ws := mm_t_9 192 rfl rfl
theorem kM_X12_749 : Cond.methodLink RX12 749 yX12_measure ∈ mm_ws := mm_t_9 196 rfl rfl
theorem kM_X12_724 : Cond.methodLink RX12 724 yX12_rowBytes ∈ mm_ws := mm_t_9 200 rfl rfl
theorem kM_X12_720 : Cond.methodLink RX12 720 yX12_tagOf ∈ mm_ws := mm_t_9 204 rfl rfl
theorem kM_X12_710 : Cond.methodLink RX12 710 yX12_varintBytes ∈ mm_ws := mm_t_9 208 rfl rfl
theorem kM_X12_716 : Cond.methodLink RX12 716 yX12_kindBytes ∈ mm_ws := mm_t_9 211 rfl rfl
theorem kM_X12_707 : Cond.methodLink RX12 707 yX12_varintOf ∈ mm_ws := mm_t_9 214 rfl rfl
theorem kM_X12_727 : Cond.methodLink RX12 727 yX12_packedBytes ∈ mm_ws := mm_t_9 217 rfl rfl
theorem kM_X12_743 : Cond.methodLink RX12 743 yX12_goInto ∈ mm_ws := mm_t_9 221 rfl rfl
theorem kM_X12_752 : Cond.methodLink RX12 752 yX12_encodeStep ∈ mm_ws := mm_t_9 225 rfl rfl
theorem kM_X12_734 : Cond.methodLink RX12 734 yX12_putUnknown ∈ mm_ws := mm_t_9 229 rfl rfl
theorem kM_X12_704 : Cond.methodLink RX12 704 yX12_put ∈ mm_ws := mm_t_9 233 rfl rfl
theorem kM_X12_737 : Cond.methodLink RX12 737 yX12_nextRow ∈ mm_ws := mm_t_9 237 rfl rfl
theorem kM_X12_740 : Cond.methodLink RX12 740 yX12_putPacked ∈ mm_ws := mm_t_10 1 rfl rfl
theorem kM_X12_713 : Cond.methodLink RX12 713 yX12_putVarint ∈ mm_ws := mm_t_10 5 rfl rfl
theorem kL_X12_700 : Cond.constantLong RX12 700 (-128) ∈ mm_ws := mm_t_10 9 rfl rfl
theorem kL_X12_702 : Cond.constantLong RX12 702 (127) ∈ mm_ws := mm_t_10 10 rfl rfl
theorem kM_X12_730 : Cond.methodLink RX12 730 yX12_putOne ∈ mm_ws := mm_t_10 11 rfl rfl
theorem kM_L_107 : Cond.methodLink RL 107 yX12_print ∈ mm_ws := mm_t_10 15 rfl rfl
theorem kM_X12_786 : Cond.methodLink RX12 786 yX12_printStep ∈ mm_ws := mm_t_10 19 rfl rfl
theorem kM_X12_776 : Cond.methodLink RX12 776 yX12_blanks ∈ mm_ws := mm_t_10 23 rfl rfl
theorem kM_X12_765 : Cond.methodLink RX12 765 yX12_putName ∈ mm_ws := mm_t_10 27 rfl rfl
theorem kL_X12_779 : Cond.constantLong RX12 779 (8315) ∈ mm_ws := mm_t_10 31 rfl rfl
theorem kM_X12_770 : Cond.methodLink RX12 770 yX12_putWord ∈ mm_ws := mm_t_10 32 rfl rfl
theorem kL_X12_781 : Cond.constantLong RX12 781 (14880) ∈ mm_ws := mm_t_10 36 rfl rfl
theorem kM_X12_783 : Cond.methodLink RX12 783 yX12_putPlain ∈ mm_ws := mm_t_10 37 rfl rfl
theorem kM_X12_762 : Cond.methodLink RX12 762 yX12_valueNumbered ∈ mm_ws := mm_t_10 41 rfl rfl
theorem kM_X12_768 : Cond.methodLink RX12 768 yX12_putText_ ∈ mm_ws := mm_t_10 45 rfl rfl
theorem kM_X12_759 : Cond.methodLink RX12 759 yX12_putDecimal ∈ mm_ws := mm_t_10 49 rfl rfl
theorem kL_X12_755 : Cond.constantLong RX12 755 (5) ∈ mm_ws := mm_t_10 53 rfl rfl
theorem kL_X12_757 : Cond.constantLong RX12 757 (10) ∈ mm_ws := mm_t_10 54 rfl rfl
theorem kM_X12_773 : Cond.methodLink RX12 773 yX12_putSigned ∈ mm_ws := mm_t_10 55 rfl rfl
theorem kM_L_100 : Cond.methodLink RL 100 yX12_parse ∈ mm_ws := mm_t_10 59 rfl rfl
theorem kM_X12_841 : Cond.methodLink RX12 841 yX12_parseNext ∈ mm_ws := mm_t_10 63 rfl rfl
theorem kM_X12_829 : Cond.methodLink RX12 829 yX12_textBlanks ∈ mm_ws := mm_t_10 67 rfl rfl
theorem kM_X12_811 : Cond.methodLink RX12 811 yX12_nameEnd ∈ mm_ws := mm_t_10 71 rfl rfl
theorem kM_X12_832 : Cond.methodLink RX12 832 yX12_fieldNamed ∈ mm_ws := mm_t_10 75 rfl rfl
theorem kM_X12_789 : Cond.methodLink RX12 789 yX12_isNamed ∈ mm_ws := mm_t_10 79 rfl rfl
theorem kM_X12_835 : Cond.methodLink RX12 835 yX12_toldBefore ∈ mm_ws := mm_t_10 83 rfl rfl
theorem kM_X12_838 : Cond.methodLink RX12 838 yX12_parsePlain ∈ mm_ws := mm_t_10 87 rfl rfl
theorem kM_X12_820 : Cond.methodLink RX12 820 yX12_parseText ∈ mm_ws := mm_t_10 91 rfl rfl
theorem kM_X12_817 : Cond.methodLink RX12 817 yX12_parseEscape ∈ mm_ws := mm_t_10 95 rfl rfl
theorem kM_X12_814 : Cond.methodLink RX12 814 yX12_isEight ∈ mm_ws := mm_t_10 99 rfl rfl
theorem kM_X12_823 : Cond.methodLink RX12 823 yX12_parseName ∈ mm_ws := mm_t_10 103 rfl rfl
theorem kL_X12_794 : Cond.constantLong RX12 794 (-1) ∈ mm_ws := mm_t_10 107 rfl rfl
theorem kM_X12_826 : Cond.methodLink RX12 826 yX12_parseNumber ∈ mm_ws := mm_t_10 108 rfl rfl
theorem kL_X12_798 : Cond.constantLong RX12 798 (1844674407370955161) ∈ mm_ws := mm_t_10 112 rfl rfl
theorem kM_X12_800 : Cond.methodLink RX12 800 yX12_above ∈ mm_ws := mm_t_10 113 rfl rfl
theorem kM_X12_804 : Cond.methodLink RX12 804 yX12_leastOf ∈ mm_ws := mm_t_10 116 rfl rfl
theorem kL_X12_792 : Cond.constantLong RX12 792 (-9223372036854775808) ∈ mm_ws := mm_t_10 119 rfl rfl
theorem kM_X12_808 : Cond.methodLink RX12 808 yX12_mostOf ∈ mm_ws := mm_t_10 120 rfl rfl
theorem kL_X12_796 : Cond.constantLong RX12 796 (9223372036854775807) ∈ mm_ws := mm_t_10 123 rfl rfl
theorem kM_L_110 : Cond.methodLink RL 110 yX12_check ∈ mm_ws := mm_t_10 124 rfl rfl
theorem kM_X12_853 : Cond.methodLink RX12 853 yX12_open ∈ mm_ws := mm_t_10 128 rfl rfl
theorem kM_X12_855 : Cond.methodLink RX12 855 yX12_checkStep ∈ mm_ws := mm_t_10 132 rfl rfl
theorem kM_X12_844 : Cond.methodLink RX12 844 yX12_freshNumbered ∈ mm_ws := mm_t_10 136 rfl rfl
theorem kM_X12_847 : Cond.methodLink RX12 847 yX12_joined ∈ mm_ws := mm_t_10 140 rfl rfl
theorem kM_X12_850 : Cond.methodLink RX12 850 yX12_widens ∈ mm_ws := mm_t_10 144 rfl rfl
theorem kL_L_64 : Cond.constantLong RL 64 (4294967295) ∈ mm_ws := mm_t_10 147 rfl rfl
theorem wO_i : Cond.instanceMethod objectInit ∈ mm_ws := mm_t_1 33 rfl rfl
theorem wO_c : Cond.code objectInit ⟨#[0xb1]⟩ 1 none ∈ mm_ws := mm_t_1 34 rfl rfl
end
section
section MM3
variable {g : mm_G} {l : Launch} {own nm : String} {cc : ByteArray} {nL : Nat} {ret : Option FieldType} {hh : List ExceptionTableEntry} {d dc ds : Nat} {Q : mm_R → mm_S → Prop} {pc : Nat} {ls : List (Option Value)} {st : List Value} {M : Nat → mm_C} {n : Nat} {z : Bool} {uc us : Nat}
theorem mm_put3 {C : String} {T : u_T} {ty0 : Nat → FieldType} {N ci index a k : Nat} {v : Value} {fs fs1 : List Value} (hin : ∀ w ∈ u_ws C T N, w ∈ mm_ws) (hty : ∀ k, k < N → parseFieldDescriptor (T k).2.2.1 = some (ty0 k)) (hnm : ∀ a, a < N → ∀ b, b < N → a ≠ b → (T a).2.1 ≠ (T b).2.1) (hc0 : vwCl[ci]? = some (C, T, N)) (hk : k < N) (ho : (T k).1 = C) (hfin : (T k).2.2.2 = false) (hlk : Cond.fieldLink own index C (T k).2.1 (T k).2.2.1 ∈ mm_ws) (hd : decode cc pc = .ok (.putfield index, 3))
    (hf : mm_fit (ty0 k) v) (hm : M a = .inr (ci, fs)) (ha : a < n) (hl9 : k < fs.length) (e1 : fs.set k v = fs1) (kk : mm_V g l own nm cc nL ret hh d dc ds Q (pc + 3) ls st (mm_up M a (.inr (ci, fs1)), n, z) uc us) : mm_V g l own nm cc nL ret hh d dc ds Q pc ls (v :: .ref a :: st) (M, n, z) uc us := by
  subst e1; exact mm_put hin hty hnm hc0 hk ho hfin hlk hd hf hm ha hl9 kk
theorem mm_putN3 {C host : String} {T : u_T} {ty0 : Nat → FieldType} {N ci index a k : Nat} {v : Value} {fs fs1 : List Value} (hin : ∀ w ∈ u_ws C T N, w ∈ mm_ws) (hty : ∀ k, k < N → parseFieldDescriptor (T k).2.2.1 = some (ty0 k)) (hnm : ∀ a, a < N → ∀ b, b < N → a ≠ b → (T a).2.1 ≠ (T b).2.1) (hc0 : vwCl[ci]? = some (C, T, N)) (hk : k < N) (ho : (T k).1 = C) (hfin : (T k).2.2.2 = false) (hlk : Cond.fieldLinkNest own index C (T k).2.1 (T k).2.2.1 host ∈ mm_nest) (hd : decode cc pc = .ok (.putfield index, 3))
    (hf : mm_fit (ty0 k) v) (hm : M a = .inr (ci, fs)) (ha : a < n) (hl9 : k < fs.length) (e1 : fs.set k v = fs1) (kk : mm_V g l own nm cc nL ret hh d dc ds Q (pc + 3) ls st (mm_up M a (.inr (ci, fs1)), n, z) uc us) : mm_V g l own nm cc nL ret hh d dc ds Q pc ls (v :: .ref a :: st) (M, n, z) uc us := by
  subst e1; exact mm_putN hin hty hnm hc0 hk ho hfin hlk hd hf hm ha hl9 kk
theorem mm_putF3 {C : String} {T : u_T} {ty0 : Nat → FieldType} {N ci index a k : Nat} {v : Value} {fs fs1 : List Value} (hin : ∀ w ∈ u_ws C T N, w ∈ mm_ws) (hty : ∀ k, k < N → parseFieldDescriptor (T k).2.2.1 = some (ty0 k)) (hnm : ∀ a, a < N → ∀ b, b < N → a ≠ b → (T a).2.1 ≠ (T b).2.1) (hc0 : vwCl[ci]? = some (C, T, N)) (hk : k < N) (ho : (T k).1 = C) (ho2 : (T k).1 = own) (hin2 : nm = "<init>") (hfin : (T k).2.2.2 = true) (hlk : Cond.fieldLink own index C (T k).2.1 (T k).2.2.1 ∈ mm_ws) (hd : decode cc pc = .ok (.putfield index, 3))
    (hf : mm_fit (ty0 k) v) (hm : M a = .inr (ci, fs)) (ha : a < n) (hl9 : k < fs.length) (e1 : fs.set k v = fs1) (kk : mm_V g l own nm cc nL ret hh d dc ds Q (pc + 3) ls st (mm_up M a (.inr (ci, fs1)), n, z) uc us) : mm_V g l own nm cc nL ret hh d dc ds Q pc ls (v :: .ref a :: st) (M, n, z) uc us := by
  subst e1; exact mm_putF hin hty hnm hc0 hk ho ho2 hin2 hfin hlk hd hf hm ha hl9 kk
theorem mm_new3 {C : String} {T : u_T} {ty0 : Nat → FieldType} {N ci index n1 : Nat} {fs : List Value} (hin : ∀ w ∈ u_ws C T N, w ∈ mm_ws) (hty : ∀ k, k < N → parseFieldDescriptor (T k).2.2.1 = some (ty0 k)) (hc0 : vwCl[ci]? = some (C, T, N)) (hcl : Cond.classLink own index C ∈ mm_ws) (hins : Cond.instantiable C N ∈ mm_ws) (hini : Cond.initialized C ∈ mm_ws)
    (hfs : ∀ j, j < N → defaultValue (ty0 j) = vp_V fs j) (hfm : ∀ g : mm_G, fs.map (mm_cv g) = fs) (hu1 : uc + 1 ≤ dc) (hu2 : us + N ≤ ds) (hd : decode cc pc = .ok (.new index, 3)) (e1 : n + 1 = n1)
    (kk : mm_V g l own nm cc nL ret hh d dc ds Q (pc + 3) ls (.ref n :: st) (mm_up M n (.inr (ci, fs)), n1, false) (uc + 1) (us + N)) : mm_V g l own nm cc nL ret hh d dc ds Q pc ls st (M, n, false) uc us := by
  subst e1; exact mm_new hin hty hc0 hcl hins hini hfs hfm rfl hu1 hu2 hd kk
theorem mm_newa3 {atype : ArrayType} {t N n1 : Nat} {ty : FieldType} {a0 : vp_A} {cl : mm_C} {k : Int32} (ht : ∀ g : mm_G, (mm_tys g)[t]? = some (mm_cA g t, ty)) (hca : ∀ g : mm_G, mm_cc g cl = .inl (mm_cA g t, a0)) (haw : Cond.arrayClass (newarray.typeOf atype) ∈ mm_ws) (hty : newarray.typeOf atype = ty)
    (ha : ∀ cA : ClassId, vp_cell cA a0 = arrV cA N (fun _ => defaultValue ty)) (hn : ¬ k < 0) (hN : k.toNatClampNeg = N) (hbytes : N * componentBytes ty ≤ 536870912) (hu1 : uc + 1 ≤ dc) (hu2 : us + N ≤ ds) (hd : decode cc pc = .ok (.newarray atype, 2)) (e1 : n + 1 = n1)
    (kk : mm_V g l own nm cc nL ret hh d dc ds Q (pc + 2) ls (.ref n :: st) (mm_up M n cl, n1, false) (uc + 1) (us + N)) : mm_V g l own nm cc nL ret hh d dc ds Q pc ls (.int k :: st) (M, n, false) uc us := by
  subst e1; exact mm_newa ht hca haw hty ha hn hN hbytes rfl hu1 hu2 hd kk
theorem mm_newq3 {C : String} {index t N n1 : Nat} {k : Int32} (ht : ∀ g : mm_G, (mm_tys g)[t]? = some (mm_cA g t, .object C)) (hC : C = "ProtoDesk$Item" ∨ C = "ProtoDesk$Node") (hcl : Cond.classLink own index C ∈ mm_ws)
    (hn : ¬ k < 0) (hN : k.toNatClampNeg = N) (hbytes : N * 4 ≤ 536870912) (hu1 : uc + 1 ≤ dc) (hu2 : us + N ≤ ds) (hd : decode cc pc = .ok (.anewarray index, 3)) (e1 : n + 1 = n1)
    (kk : mm_V g l own nm cc nL ret hh d dc ds Q (pc + 3) ls (.ref n :: st) (mm_up M n (.inl (t, N, .inr (.inr (fun _ => none)))), n1, false) (uc + 1) (us + N)) : mm_V g l own nm cc nL ret hh d dc ds Q pc ls (.int k :: st) (M, n, false) uc us := by
  subst e1; exact mm_newq ht hC hcl hn hN hbytes rfl hu1 hu2 hd kk
theorem mm_iast3 {a k : Nat} {f : Nat → Int32} {i x : Int32} (hm : M a = .inl (0, k, .inl f)) (ha : a < n) (hi : vp_in i k) (hd : decode cc pc = .ok (.iastore, 1)) (kk : mm_V g l own nm cc nL ret hh d dc ds Q (pc + 1) ls st (mm_up M a (.inl (0, k, .inl (upd f i.toNatClampNeg x))), n, z) uc us) : mm_V g l own nm cc nL ret hh d dc ds Q pc ls (.int x :: .int i :: .ref a :: st) (M, n, z) uc us := mm_iast (S := (M, n, z)) hm ha hi hd kk
theorem mm_last3 {a k : Nat} {f : Nat → Int64} {i : Int32} {x : Int64} (hm : M a = .inl (1, k, .inr (.inl f))) (ha : a < n) (hi : vp_in i k) (hd : decode cc pc = .ok (.lastore, 1)) (kk : mm_V g l own nm cc nL ret hh d dc ds Q (pc + 1) ls st (mm_up M a (.inl (1, k, .inr (.inl (vp_updL f i.toNatClampNeg x)))), n, z) uc us) : mm_V g l own nm cc nL ret hh d dc ds Q pc ls (.long x :: .int i :: .ref a :: st) (M, n, z) uc us := mm_last (S := (M, n, z)) hm ha hi hd kk
theorem mm_bast3 {a k : Nat} {f : Nat → Int32} {i x : Int32} (hm : M a = .inl (2, k, .inl f)) (ha : a < n) (hi : vp_in i k) (hd : decode cc pc = .ok (.bastore, 1)) (kk : mm_V g l own nm cc nL ret hh d dc ds Q (pc + 1) ls st (mm_up M a (.inl (2, k, .inl (upd f i.toNatClampNeg (vp_nar .byte x)))), n, z) uc us) : mm_V g l own nm cc nL ret hh d dc ds Q pc ls (.int x :: .int i :: .ref a :: st) (M, n, z) uc us := mm_bast (S := (M, n, z)) hm ha hi hd kk
theorem mm_zast3 {a k : Nat} {f : Nat → Int32} {i x : Int32} (hm : M a = .inl (3, k, .inl f)) (ha : a < n) (hi : vp_in i k) (hd : decode cc pc = .ok (.bastore, 1)) (kk : mm_V g l own nm cc nL ret hh d dc ds Q (pc + 1) ls st (mm_up M a (.inl (3, k, .inl (upd f i.toNatClampNeg (vp_nar .boolean x)))), n, z) uc us) : mm_V g l own nm cc nL ret hh d dc ds Q pc ls (.int x :: .int i :: .ref a :: st) (M, n, z) uc us := mm_zast (S := (M, n, z)) hm ha hi hd kk
theorem mm_aast3 {a k t v cv : Nat} {r : vw_C} {fs : List Value} {f : Nat → Option Nat} {i : Int32} (ht : ∀ g : mm_G, (mm_tys g)[t]? = some (mm_cA g t, .object r.1)) (hr0 : vwCl[cv]? = some r) (hm : M a = .inl (t, k, .inr (.inr f))) (ha : a < n) (hmv : M v = .inr (cv, fs)) (hv : v < n) (hi : vp_in i k) (hd : decode cc pc = .ok (.aastore, 1))
    (kk : mm_V g l own nm cc nL ret hh d dc ds Q (pc + 1) ls st (mm_up M a (.inl (t, k, .inr (.inr (va_up f i.toNatClampNeg (some v))))), n, z) uc us) : mm_V g l own nm cc nL ret hh d dc ds Q pc ls (.ref v :: .int i :: .ref a :: st) (M, n, z) uc us := mm_aast (S := (M, n, z)) ht hr0 hm ha hmv hv hi hd kk
theorem mm_aastN3 {a k t : Nat} {C : String} {f : Nat → Option Nat} {i : Int32} (ht : ∀ g : mm_G, (mm_tys g)[t]? = some (mm_cA g t, .object C)) (hm : M a = .inl (t, k, .inr (.inr f))) (ha : a < n) (hi : vp_in i k) (hd : decode cc pc = .ok (.aastore, 1))
    (kk : mm_V g l own nm cc nL ret hh d dc ds Q (pc + 1) ls st (mm_up M a (.inl (t, k, .inr (.inr (va_up f i.toNatClampNeg none)))), n, z) uc us) : mm_V g l own nm cc nL ret hh d dc ds Q pc ls (.null :: .int i :: .ref a :: st) (M, n, z) uc us := mm_aastN (S := (M, n, z)) ht hm ha hi hd kk
def mm_mx (own : String) (i : Nat) : Prop := Cond.methodLink own i Lib.Math.max.name ∈ mm_ws ∧ Cond.static Lib.Math.max.name ∈ mm_ws ∧ Cond.initialized "java/lang/Math" ∈ mm_ws ∧ Cond.code Lib.Math.max.name Lib.Math.max.code 2 (some .int) ∈ mm_ws
theorem mm_mmax {S : mm_S} {x y : Int32} {index : Nat} (hw : mm_mx own index) (hsum : (st.map fun v => v.category).sum ≤ 8) (h1 : uc ≤ dc) (h2 : us ≤ ds) (hd : decode cc pc = .ok (.invokestatic index, 3)) (kk : mm_V g l own nm cc nL ret hh d dc ds Q (pc + 3) ls (.int (if x < y then y else x) :: st) S uc us) : mm_V g l own nm cc nL ret hh d dc ds Q pc ls (.int y :: .int x :: st) S uc us := by
  intro p e R s m args below meth c QQ hc he H locs la hR hS hF hZ hl
  obtain ⟨hx, hb, hml9, hr, hlk2, hown, htb, hws, hst, hfr, hlo, hcel, hsl, hnm9, hbs⟩ := id hc
  exact va_mmax hx hb (by rw [hml9]; exact hl.1.symm) hown (hws _ hw.1) (hws _ hw.2.1) (hws _ hw.2.2.1) (hws _ hw.2.2.2) (by omega) (by rw [mm_sum]; omega) (by rw [hcel]; exact h1) (by rw [hsl]; exact h2) hd (kk p e R s m args below meth c QQ hc he H locs la hR hS hF hZ hl)
end MM3
end
section
set_option maxRecDepth 20000 in
theorem at_71 : ∀ w ∈ vx_atS RX11 71 "java/lang/IllegalArgumentException" ["java/lang/RuntimeException", "java/lang/Exception"], w ∈ mm_ws ∨ w ∈ mm_nest := mm_inL2 _ [192, 688, 697, 702, 705, 707, 689, 690, 210, 211, 691, 696, 703, 723, 678, 724, 680, 725, 682, 692, 694, 684, 719, 720, 722, 684, 710, 711, 712, 713, 670, 713, 714, 715, 716, 672, 716, 717, 718, 719, 674, 709, 667, 668, 675, 676, 677, 679, 681, 683, 687, 686, 685] (by decide +kernel) (by decide +kernel)
set_option maxRecDepth 20000 in
theorem at_82 : ∀ w ∈ vx_atS RX11 82 "java/lang/IllegalStateException" ["java/lang/RuntimeException", "java/lang/Exception"], w ∈ mm_ws ∨ w ∈ mm_nest := mm_inL2 _ [192, 688, 697, 702, 705, 707, 689, 690, 210, 211, 691, 696, 703, 723, 678, 724, 680, 725, 682, 692, 694, 684, 719, 720, 722, 684, 749, 750, 751, 713, 670, 713, 714, 715, 716, 672, 716, 717, 718, 719, 674, 748, 739, 740, 741, 699, 742, 743, 744, 745, 687, 686, 746] (by decide +kernel) (by decide +kernel)
set_option maxRecDepth 20000 in
theorem at_192 : ∀ w ∈ vx_atS RX11 192 "java/lang/UnsupportedOperationException" ["java/lang/RuntimeException", "java/lang/Exception"], w ∈ mm_ws ∨ w ∈ mm_nest := mm_inL2 _ [192, 688, 697, 702, 705, 707, 689, 690, 210, 211, 691, 696, 703, 723, 678, 724, 680, 725, 682, 692, 694, 684, 719, 720, 722, 684, 1476, 1477, 1478, 713, 670, 713, 714, 715, 716, 672, 716, 717, 718, 719, 674, 1475, 1466, 1467, 1468, 701, 1469, 1470, 1471, 1472, 687, 686, 1473] (by decide +kernel) (by decide +kernel)
set_option maxRecDepth 20000 in
theorem at_206 : ∀ w ∈ vx_atS RX11 206 "java/lang/IndexOutOfBoundsException" ["java/lang/RuntimeException", "java/lang/Exception"], w ∈ mm_ws ∨ w ∈ mm_nest := mm_inL2 _ [192, 688, 697, 702, 705, 707, 689, 690, 210, 211, 691, 696, 703, 723, 678, 724, 680, 725, 682, 692, 694, 684, 719, 720, 722, 684, 1533, 1534, 1535, 713, 670, 713, 714, 715, 716, 672, 716, 717, 718, 719, 674, 1532, 1523, 1524, 1525, 700, 1526, 1527, 1528, 1529, 687, 686, 1530] (by decide +kernel) (by decide +kernel)
theorem kX_X0_7 : mm_mx RX0 7 := ⟨mm_t_1 41 rfl rfl, mm_t_1 42 rfl rfl, mm_t_1 3 rfl rfl, mm_t_1 43 rfl rfl⟩
theorem kX_X11_210 : mm_mx RX11 210 := ⟨mm_t_6 162 rfl rfl, mm_t_1 42 rfl rfl, mm_t_1 3 rfl rfl, mm_t_1 43 rfl rfl⟩
end
section
theorem mm_upN {M : Nat → mm_C} {i j : Nat} {c c' : mm_C} (h : j ≠ i) (e : M j = c') : mm_up M i c j = c' := (mm_up_n h).trans e
theorem mm_frN {M M' : Nat → mm_C} {j : Nat} {c : mm_C} (h : M' j = M j) (e : M j = c) : M' j = c := h.trans e
section MM4
variable {g : mm_G} {l : Launch} {own nm : String} {cc : ByteArray} {nL : Nat} {ret : Option FieldType} {hh : List ExceptionTableEntry} {d dc ds : Nat} {Q : mm_R → mm_S → Prop} {pc : Nat} {ls : List (Option Value)} {st : List Value} {M : Nat → mm_C} {n : Nat} {z : Bool} {uc us : Nat}
theorem mm_get3 {C : String} {T : u_T} {N ci index a k : Nat} {v : Value} {fs : List Value} (hin : ∀ w ∈ u_ws C T N, w ∈ mm_ws) (hc0 : vwCl[ci]? = some (C, T, N)) (hk : k < N) (ho : (T k).1 = C) (hlk : Cond.fieldLink own index C (T k).2.1 (T k).2.2.1 ∈ mm_ws) (hd : decode cc pc = .ok (.getfield index, 3))
    (hm : M a = .inr (ci, fs)) (ha : a < n) (hv : fs[k]? = some v) (kk : mm_V g l own nm cc nL ret hh d dc ds Q (pc + 3) ls (v :: st) (M, n, z) uc us) : mm_V g l own nm cc nL ret hh d dc ds Q pc ls (.ref a :: st) (M, n, z) uc us := mm_get (S := (M, n, z)) hin hc0 hk ho hlk hd hm ha hv kk
theorem mm_getN3 {C host : String} {T : u_T} {N ci index a k : Nat} {v : Value} {fs : List Value} (hin : ∀ w ∈ u_ws C T N, w ∈ mm_ws) (hc0 : vwCl[ci]? = some (C, T, N)) (hk : k < N) (ho : (T k).1 = C) (hlk : Cond.fieldLinkNest own index C (T k).2.1 (T k).2.2.1 host ∈ mm_nest) (hd : decode cc pc = .ok (.getfield index, 3))
    (hm : M a = .inr (ci, fs)) (ha : a < n) (hv : fs[k]? = some v) (kk : mm_V g l own nm cc nL ret hh d dc ds Q (pc + 3) ls (v :: st) (M, n, z) uc us) : mm_V g l own nm cc nL ret hh d dc ds Q pc ls (.ref a :: st) (M, n, z) uc us := mm_getN (S := (M, n, z)) hin hc0 hk ho hlk hd hm ha hv kk
theorem mm_iald3 {a k : Nat} {f : Nat → Int32} {i : Int32} (hm : M a = .inl (0, k, .inl f)) (ha : a < n) (hi : vp_in i k) (hd : decode cc pc = .ok (.iaload, 1)) (kk : mm_V g l own nm cc nL ret hh d dc ds Q (pc + 1) ls (.int (f i.toNatClampNeg) :: st) (M, n, z) uc us) : mm_V g l own nm cc nL ret hh d dc ds Q pc ls (.int i :: .ref a :: st) (M, n, z) uc us := mm_iald (S := (M, n, z)) hm ha hi hd kk
theorem mm_lald3 {a k : Nat} {f : Nat → Int64} {i : Int32} (hm : M a = .inl (1, k, .inr (.inl f))) (ha : a < n) (hi : vp_in i k) (hd : decode cc pc = .ok (.laload, 1)) (kk : mm_V g l own nm cc nL ret hh d dc ds Q (pc + 1) ls (.long (f i.toNatClampNeg) :: st) (M, n, z) uc us) : mm_V g l own nm cc nL ret hh d dc ds Q pc ls (.int i :: .ref a :: st) (M, n, z) uc us := mm_lald (S := (M, n, z)) hm ha hi hd kk
theorem mm_bald3 {a k : Nat} {f : Nat → Int32} {i : Int32} (hm : M a = .inl (2, k, .inl f)) (ha : a < n) (hi : vp_in i k) (hd : decode cc pc = .ok (.baload, 1)) (kk : mm_V g l own nm cc nL ret hh d dc ds Q (pc + 1) ls (.int (f i.toNatClampNeg) :: st) (M, n, z) uc us) : mm_V g l own nm cc nL ret hh d dc ds Q pc ls (.int i :: .ref a :: st) (M, n, z) uc us := mm_bald (S := (M, n, z)) hm ha hi hd kk
theorem mm_zald3 {a k : Nat} {f : Nat → Int32} {i : Int32} (hm : M a = .inl (3, k, .inl f)) (ha : a < n) (hi : vp_in i k) (hd : decode cc pc = .ok (.baload, 1)) (kk : mm_V g l own nm cc nL ret hh d dc ds Q (pc + 1) ls (.int (f i.toNatClampNeg) :: st) (M, n, z) uc us) : mm_V g l own nm cc nL ret hh d dc ds Q pc ls (.int i :: .ref a :: st) (M, n, z) uc us := mm_zald (S := (M, n, z)) hm ha hi hd kk
theorem mm_aald3 {a k t : Nat} {C : String} {f : Nat → Option Nat} {i : Int32} (ht : ∀ g : mm_G, (mm_tys g)[t]? = some (mm_cA g t, .object C)) (hm : M a = .inl (t, k, .inr (.inr f))) (ha : a < n) (hi : vp_in i k) (hd : decode cc pc = .ok (.aaload, 1)) (kk : mm_V g l own nm cc nL ret hh d dc ds Q (pc + 1) ls (va_rf (f i.toNatClampNeg) :: st) (M, n, z) uc us) : mm_V g l own nm cc nL ret hh d dc ds Q pc ls (.int i :: .ref a :: st) (M, n, z) uc us := mm_aald (S := (M, n, z)) ht hm ha hi hd kk
theorem mm_alen3 {a k t : Nat} {ty : FieldType} {x : (Nat → Int32) ⊕ (Nat → Int64) ⊕ (Nat → Option Nat)} {v : Int32} (ht : ∀ g : mm_G, (mm_tys g)[t]? = some (mm_cA g t, ty)) (hm : M a = .inl (t, k, x)) (ha : a < n) (hv : Int32.ofNat k = v) (hd : decode cc pc = .ok (.arraylength, 1)) (kk : mm_V g l own nm cc nL ret hh d dc ds Q (pc + 1) ls (.int v :: st) (M, n, z) uc us) : mm_V g l own nm cc nL ret hh d dc ds Q pc ls (.ref a :: st) (M, n, z) uc us := mm_alen (S := (M, n, z)) ht hm ha hv hd kk
end MM4
end
section
theorem dX0_init_0 : decode cX0_init 0 = .ok (.aload_n 0, 1) := by decide +kernel
theorem dX0_init_1 : decode cX0_init 1 = .ok (.invokespecial 1, 3) := by decide +kernel
theorem dX0_init_4 : decode cX0_init 4 = .ok (.aload_n 0, 1) := by decide +kernel
theorem dX0_init_5 : decode cX0_init 5 = .ok (.iload_n 1, 1) := by decide +kernel
theorem dX0_init_6 : decode cX0_init 6 = .ok (.iconst 0, 1) := by decide +kernel
theorem dX0_init_7 : decode cX0_init 7 = .ok (.invokestatic 7, 3) := by decide +kernel
theorem dX0_init_10 : decode cX0_init 10 = .ok (.newarray .byte, 2) := by decide +kernel
theorem dX0_init_12 : decode cX0_init 12 = .ok (.putfield 13, 3) := by decide +kernel
theorem dX0_init_15 : decode cX0_init 15 = .ok (.return_, 1) := by decide +kernel
theorem dX0_size_0 : decode cX0_size 0 = .ok (.aload_n 0, 1) := by decide +kernel
theorem dX0_size_1 : decode cX0_size 1 = .ok (.getfield 19, 3) := by decide +kernel
theorem dX0_size_4 : decode cX0_size 4 = .ok (.ireturn, 1) := by decide +kernel
theorem dX0_isSpilt_0 : decode cX0_isSpilt 0 = .ok (.aload_n 0, 1) := by decide +kernel
theorem dX0_isSpilt_1 : decode cX0_isSpilt 1 = .ok (.getfield 23, 3) := by decide +kernel
theorem dX0_isSpilt_4 : decode cX0_isSpilt 4 = .ok (.ireturn, 1) := by decide +kernel
theorem dX0_clear_0 : decode cX0_clear 0 = .ok (.aload_n 0, 1) := by decide +kernel
theorem dX0_clear_1 : decode cX0_clear 1 = .ok (.iconst 0, 1) := by decide +kernel
theorem dX0_clear_2 : decode cX0_clear 2 = .ok (.putfield 19, 3) := by decide +kernel
theorem dX0_clear_5 : decode cX0_clear 5 = .ok (.aload_n 0, 1) := by decide +kernel
theorem dX0_clear_6 : decode cX0_clear 6 = .ok (.iconst 0, 1) := by decide +kernel
theorem dX0_clear_7 : decode cX0_clear 7 = .ok (.putfield 23, 3) := by decide +kernel
theorem dX0_clear_10 : decode cX0_clear 10 = .ok (.return_, 1) := by decide +kernel
theorem dX0_at_0 : decode cX0_at 0 = .ok (.iload_n 1, 1) := by decide +kernel
theorem dX0_at_1 : decode cX0_at 1 = .ok (.ifCond .lt 33, 3) := by decide +kernel
theorem dX0_at_4 : decode cX0_at 4 = .ok (.iload_n 1, 1) := by decide +kernel
theorem dX0_at_5 : decode cX0_at 5 = .ok (.aload_n 0, 1) := by decide +kernel
theorem dX0_at_6 : decode cX0_at 6 = .ok (.getfield 19, 3) := by decide +kernel
theorem dX0_at_9 : decode cX0_at 9 = .ok (.if_icmp .ge 25, 3) := by decide +kernel
theorem dX0_at_12 : decode cX0_at 12 = .ok (.iload_n 1, 1) := by decide +kernel
theorem dX0_at_13 : decode cX0_at 13 = .ok (.aload_n 0, 1) := by decide +kernel
theorem dX0_at_14 : decode cX0_at 14 = .ok (.getfield 13, 3) := by decide +kernel
theorem dX0_at_17 : decode cX0_at 17 = .ok (.arraylength, 1) := by decide +kernel
theorem dX0_at_18 : decode cX0_at 18 = .ok (.if_icmp .ge 16, 3) := by decide +kernel
theorem dX0_at_21 : decode cX0_at 21 = .ok (.aload_n 0, 1) := by decide +kernel
theorem dX0_at_22 : decode cX0_at 22 = .ok (.getfield 13, 3) := by decide +kernel
theorem dX0_at_25 : decode cX0_at 25 = .ok (.iload_n 1, 1) := by decide +kernel
theorem dX0_at_26 : decode cX0_at 26 = .ok (.baload, 1) := by decide +kernel
theorem dX0_at_27 : decode cX0_at 27 = .ok (.sipush 255, 3) := by decide +kernel
theorem dX0_at_30 : decode cX0_at 30 = .ok (.iand, 1) := by decide +kernel
theorem dX0_at_31 : decode cX0_at 31 = .ok (.goto 4, 3) := by decide +kernel
theorem dX0_at_34 : decode cX0_at 34 = .ok (.iconst (-1), 1) := by decide +kernel
theorem dX0_at_35 : decode cX0_at 35 = .ok (.ireturn, 1) := by decide +kernel
theorem dX0_add_0 : decode cX0_add 0 = .ok (.aload_n 0, 1) := by decide +kernel
theorem dX0_add_1 : decode cX0_add 1 = .ok (.getfield 19, 3) := by decide +kernel
theorem dX0_add_4 : decode cX0_add 4 = .ok (.ifCond .lt 39, 3) := by decide +kernel
theorem dX0_add_7 : decode cX0_add 7 = .ok (.aload_n 0, 1) := by decide +kernel
theorem dX0_add_8 : decode cX0_add 8 = .ok (.getfield 19, 3) := by decide +kernel
theorem dX0_add_11 : decode cX0_add 11 = .ok (.aload_n 0, 1) := by decide +kernel
theorem dX0_add_12 : decode cX0_add 12 = .ok (.getfield 13, 3) := by decide +kernel
theorem dX0_add_15 : decode cX0_add 15 = .ok (.arraylength, 1) := by decide +kernel
theorem dX0_add_16 : decode cX0_add 16 = .ok (.if_icmp .ge 27, 3) := by decide +kernel
theorem dX0_add_19 : decode cX0_add 19 = .ok (.aload_n 0, 1) := by decide +kernel
theorem dX0_add_20 : decode cX0_add 20 = .ok (.getfield 13, 3) := by decide +kernel
theorem dX0_add_23 : decode cX0_add 23 = .ok (.aload_n 0, 1) := by decide +kernel
theorem dX0_add_24 : decode cX0_add 24 = .ok (.getfield 19, 3) := by decide +kernel
theorem dX0_add_27 : decode cX0_add 27 = .ok (.iload_n 1, 1) := by decide +kernel
theorem dX0_add_28 : decode cX0_add 28 = .ok (.i2b, 1) := by decide +kernel
theorem dX0_add_29 : decode cX0_add 29 = .ok (.bastore, 1) := by decide +kernel
theorem dX0_add_30 : decode cX0_add 30 = .ok (.aload_n 0, 1) := by decide +kernel
theorem dX0_add_31 : decode cX0_add 31 = .ok (.dup, 1) := by decide +kernel
theorem dX0_add_32 : decode cX0_add 32 = .ok (.getfield 19, 3) := by decide +kernel
theorem dX0_add_35 : decode cX0_add 35 = .ok (.iconst 1, 1) := by decide +kernel
theorem dX0_add_36 : decode cX0_add 36 = .ok (.iadd, 1) := by decide +kernel
theorem dX0_add_37 : decode cX0_add 37 = .ok (.putfield 19, 3) := by decide +kernel
theorem dX0_add_40 : decode cX0_add 40 = .ok (.goto 8, 3) := by decide +kernel
theorem dX0_add_43 : decode cX0_add 43 = .ok (.aload_n 0, 1) := by decide +kernel
theorem dX0_add_44 : decode cX0_add 44 = .ok (.iconst 1, 1) := by decide +kernel
theorem dX0_add_45 : decode cX0_add 45 = .ok (.putfield 23, 3) := by decide +kernel
theorem dX0_add_48 : decode cX0_add 48 = .ok (.return_, 1) := by decide +kernel
theorem dX0_addAll_0 : decode cX0_addAll 0 = .ok (.iload_n 2, 1) := by decide +kernel
theorem dX0_addAll_1 : decode cX0_addAll 1 = .ok (.istore 4, 2) := by decide +kernel
theorem dX0_addAll_3 : decode cX0_addAll 3 = .ok (.iload 4, 2) := by decide +kernel
theorem dX0_addAll_5 : decode cX0_addAll 5 = .ok (.iload_n 3, 1) := by decide +kernel
theorem dX0_addAll_6 : decode cX0_addAll 6 = .ok (.if_icmp .ge 19, 3) := by decide +kernel
theorem dX0_addAll_9 : decode cX0_addAll 9 = .ok (.aload_n 0, 1) := by decide +kernel
theorem dX0_addAll_10 : decode cX0_addAll 10 = .ok (.aload_n 1, 1) := by decide +kernel
theorem dX0_addAll_11 : decode cX0_addAll 11 = .ok (.iload 4, 2) := by decide +kernel
theorem dX0_addAll_13 : decode cX0_addAll 13 = .ok (.invokevirtual 27, 3) := by decide +kernel
theorem dX0_addAll_16 : decode cX0_addAll 16 = .ok (.invokevirtual 31, 3) := by decide +kernel
theorem dX0_addAll_19 : decode cX0_addAll 19 = .ok (.iinc 4 1, 3) := by decide +kernel
theorem dX0_addAll_22 : decode cX0_addAll 22 = .ok (.goto (-19), 3) := by decide +kernel
theorem dX0_addAll_25 : decode cX0_addAll 25 = .ok (.return_, 1) := by decide +kernel
theorem dX3_init_0 : decode cX3_init 0 = .ok (.aload_n 0, 1) := by decide +kernel
theorem dX3_init_1 : decode cX3_init 1 = .ok (.invokespecial 3, 3) := by decide +kernel
theorem dX3_init_4 : decode cX3_init 4 = .ok (.return_, 1) := by decide +kernel
theorem dX4_init_0 : decode cX4_init 0 = .ok (.aload_n 0, 1) := by decide +kernel
theorem dX4_init_1 : decode cX4_init 1 = .ok (.invokespecial 3, 3) := by decide +kernel
theorem dX4_init_4 : decode cX4_init 4 = .ok (.return_, 1) := by decide +kernel
theorem dX4_begin_0 : decode cX4_begin 0 = .ok (.aload_n 0, 1) := by decide +kernel
theorem dX4_begin_1 : decode cX4_begin 1 = .ok (.aload_n 1, 1) := by decide +kernel
theorem dX4_begin_2 : decode cX4_begin 2 = .ok (.putfield 9, 3) := by decide +kernel
theorem dX4_begin_5 : decode cX4_begin 5 = .ok (.aload_n 0, 1) := by decide +kernel
theorem dX4_begin_6 : decode cX4_begin 6 = .ok (.aconst_null, 1) := by decide +kernel
theorem dX4_begin_7 : decode cX4_begin 7 = .ok (.putfield 15, 3) := by decide +kernel
theorem dX4_begin_10 : decode cX4_begin 10 = .ok (.aload_n 0, 1) := by decide +kernel
theorem dX4_begin_11 : decode cX4_begin 11 = .ok (.aconst_null, 1) := by decide +kernel
theorem dX4_begin_12 : decode cX4_begin 12 = .ok (.putfield 19, 3) := by decide +kernel
theorem dX4_begin_15 : decode cX4_begin 15 = .ok (.aload_n 0, 1) := by decide +kernel
theorem dX4_begin_16 : decode cX4_begin 16 = .ok (.aconst_null, 1) := by decide +kernel
theorem dX4_begin_17 : decode cX4_begin 17 = .ok (.putfield 22, 3) := by decide +kernel
theorem dX4_begin_20 : decode cX4_begin 20 = .ok (.aload_n 0, 1) := by decide +kernel
theorem dX4_begin_21 : decode cX4_begin 21 = .ok (.lconst 0, 1) := by decide +kernel
theorem dX4_begin_22 : decode cX4_begin 22 = .ok (.putfield 25, 3) := by decide +kernel
theorem dX4_begin_25 : decode cX4_begin 25 = .ok (.aload_n 0, 1) := by decide +kernel
theorem dX4_begin_26 : decode cX4_begin 26 = .ok (.iconst 0, 1) := by decide +kernel
theorem dX4_begin_27 : decode cX4_begin 27 = .ok (.putfield 29, 3) := by decide +kernel
theorem dX4_begin_30 : decode cX4_begin 30 = .ok (.aload_n 0, 1) := by decide +kernel
theorem dX4_begin_31 : decode cX4_begin 31 = .ok (.iconst 0, 1) := by decide +kernel
theorem dX4_begin_32 : decode cX4_begin 32 = .ok (.putfield 33, 3) := by decide +kernel
theorem dX4_begin_35 : decode cX4_begin 35 = .ok (.return_, 1) := by decide +kernel
end
section
set_option maxHeartbeats 4000000 in
set_option maxRecDepth 100000 in
theorem c_X3_init {g : mm_G} {l : Launch} (hst : l.stackTraces = false) {d : Nat} (a : Nat) (S : mm_S) : mm_Cm g l yX3_init (.code yX3_init cX3_init 1 none) d 0 0 [.ref a] S (fun v S' => v = none ∧ S' = S) := by
  refine mm_Cm_of hst (by decide) (Nat.le_of_ble_eq_true rfl) ?_
  show mm_V g l RX3 "<init>" cX3_init 1 none [] d 0 0 _ 0 [some (.ref a)] [] S 0 0
  refine mm_aload_n dX3_init_0 rfl rfl ?_
  refine mm_oinit kM_X3_3 wO_i wO_c (Nat.le_of_ble_eq_true rfl) dX3_init_1 ?_
  refine mm_vret dX3_init_4 rfl ?_ (by omega) (by omega)
  exact ⟨rfl, rfl⟩

set_option maxHeartbeats 4000000 in
set_option maxRecDepth 100000 in
theorem c_X4_init {g : mm_G} {l : Launch} (hst : l.stackTraces = false) {d : Nat} (a : Nat) (S : mm_S) : mm_Cm g l yX4_init (.code yX4_init cX4_init 1 none) d 0 0 [.ref a] S (fun v S' => v = none ∧ S' = S) := by
  refine mm_Cm_of hst (by decide) (Nat.le_of_ble_eq_true rfl) ?_
  show mm_V g l RX4 "<init>" cX4_init 1 none [] d 0 0 _ 0 [some (.ref a)] [] S 0 0
  refine mm_aload_n dX4_init_0 rfl rfl ?_
  refine mm_oinit kM_X4_3 wO_i wO_c (Nat.le_of_ble_eq_true rfl) dX4_init_1 ?_
  refine mm_vret dX4_init_4 rfl ?_ (by omega) (by omega)
  exact ⟨rfl, rfl⟩

set_option maxHeartbeats 4000000 in
set_option maxRecDepth 100000 in
theorem c_X0_init {g : mm_G} {l : Launch} (hst : l.stackTraces = false) {d : Nat} (a n N : Nat) (M : Nat → mm_C) (k : Int32) (hk : ¬ k < 0) (hN : k.toNatClampNeg = N) (hb : N * 1 ≤ 536870912) (ha : a < n) (hm : M a = .inr (0, [.null, .int 0, .int 0])) : mm_Cm g l yX0_init (.code yX0_init cX0_init 2 none) d 1 N [.ref a, .int k] (M, n, false) (fun v S' => v = none ∧ S' = (mm_up (mm_up M n (.inl (2, N, .inl (fun _ => 0)))) a (.inr (0, [.ref n, .int 0, .int 0])), n + 1, false)) := by
  refine mm_Cm_of hst (by decide) (Nat.le_of_ble_eq_true rfl) ?_
  show mm_V g l RX0 "<init>" cX0_init 2 none [] d 1 N _ 0 [some (.ref a), some (.int k)] [] (M, n, false) 0 0
  refine mm_aload_n dX0_init_0 rfl rfl ?_
  refine mm_oinit kM_X0_1 wO_i wO_c (Nat.le_of_ble_eq_true rfl) dX0_init_1 ?_
  refine mm_aload_n dX0_init_4 rfl rfl ?_
  refine mm_iload_n dX0_init_5 rfl ?_
  refine mm_iconst (v := 0) dX0_init_6 (by decide) ?_
  refine mm_mmax kX_X0_7 (Nat.le_of_ble_eq_true rfl) (by omega) (by omega) dX0_init_7 ?_
  rw [if_neg hk]
  refine mm_newa3 (atype := .byte) (n1 := n + 1) (t := 2) (N := N) (cl := .inl (2, N, .inl (fun _ => 0))) (a0 := (N, .inl (fun _ => 0))) (fun _ => rfl) (fun _ => rfl) wA_byte rfl (fun _ => rfl) hk hN hb (by omega) (by omega) dX0_init_10 rfl ?_
  refine mm_putF3 (ci := 0) (fs1 := [.ref n, .int 0, .int 0]) in_X0 tyX0_ok nmX0 rfl (k := 0) (by decide) rfl rfl rfl rfl kF_X0_13 dX0_init_12 (mm_fit_arr _ _) (mm_upN (Nat.ne_of_lt ha) hm) (Nat.lt_succ_of_lt ha) (Nat.le_of_ble_eq_true rfl) rfl ?_
  refine mm_vret dX0_init_15 rfl ?_ (by omega) (by omega)
  exact ⟨rfl, rfl⟩

set_option maxHeartbeats 4000000 in
set_option maxRecDepth 100000 in
theorem c_X0_size {g : mm_G} {l : Launch} (hst : l.stackTraces = false) {d : Nat} (a r n : Nat) (z : Bool) (M : Nat → mm_C) (x p : Int32) (ha : a < n) (hm : M a = .inr (0, [.ref r, .int x, .int p])) : mm_Cm g l yX0_size (.code yX0_size cX0_size 1 (some .int)) d 0 0 [.ref a] (M, n, z) (fun v S' => v = some (.int x) ∧ S' = (M, n, z)) := by
  refine mm_Cm_of hst (by decide) (Nat.le_of_ble_eq_true rfl) ?_
  show mm_V g l RX0 "size" cX0_size 1 (some .int) [] d 0 0 _ 0 [some (.ref a)] [] (M, n, z) 0 0
  refine mm_aload_n dX0_size_0 rfl rfl ?_
  refine mm_get3 (ci := 0) in_X0 rfl (k := 1) (by decide) rfl kF_X0_19 dX0_size_1 hm ha rfl ?_
  refine mm_iret dX0_size_4 rfl rfl ?_ (by omega) (by omega)
  exact ⟨rfl, rfl⟩

set_option maxHeartbeats 4000000 in
set_option maxRecDepth 100000 in
theorem c_X0_isSpilt {g : mm_G} {l : Launch} (hst : l.stackTraces = false) {d : Nat} (a r n : Nat) (z : Bool) (M : Nat → mm_C) (x p : Int32) (ha : a < n) (hp : narrow .boolean (.int p) = .int p) (hm : M a = .inr (0, [.ref r, .int x, .int p])) : mm_Cm g l yX0_isSpilt (.code yX0_isSpilt cX0_isSpilt 1 (some .boolean)) d 0 0 [.ref a] (M, n, z) (fun v S' => v = some (.int p) ∧ S' = (M, n, z)) := by
  refine mm_Cm_of hst (by decide) (Nat.le_of_ble_eq_true rfl) ?_
  show mm_V g l RX0 "isSpilt" cX0_isSpilt 1 (some .boolean) [] d 0 0 _ 0 [some (.ref a)] [] (M, n, z) 0 0
  refine mm_aload_n dX0_isSpilt_0 rfl rfl ?_
  refine mm_get3 (ci := 0) in_X0 rfl (k := 2) (by decide) rfl kF_X0_23 dX0_isSpilt_1 hm ha rfl ?_
  refine mm_iret dX0_isSpilt_4 rfl hp ?_ (by omega) (by omega)
  exact ⟨rfl, rfl⟩

set_option maxHeartbeats 4000000 in
set_option maxRecDepth 100000 in
theorem c_X0_clear {g : mm_G} {l : Launch} (hst : l.stackTraces = false) {d : Nat} (a r n : Nat) (z : Bool) (M : Nat → mm_C) (x p : Int32) (ha : a < n) (hm : M a = .inr (0, [.ref r, .int x, .int p])) : mm_Cm g l yX0_clear (.code yX0_clear cX0_clear 1 none) d 0 0 [.ref a] (M, n, z) (fun v S' => v = none ∧ S' = (mm_up (mm_up M a (.inr (0, [.ref r, .int 0, .int p]))) a (.inr (0, [.ref r, .int 0, .int 0])), n, z)) := by
  refine mm_Cm_of hst (by decide) (Nat.le_of_ble_eq_true rfl) ?_
  show mm_V g l RX0 "clear" cX0_clear 1 none [] d 0 0 _ 0 [some (.ref a)] [] (M, n, z) 0 0
  refine mm_aload_n dX0_clear_0 rfl rfl ?_
  refine mm_iconst (v := 0) dX0_clear_1 (by decide) ?_
  refine mm_put3 (ci := 0) (fs1 := [.ref r, .int 0, .int p]) in_X0 tyX0_ok nmX0 rfl (k := 1) (by decide) rfl rfl kF_X0_19 dX0_clear_2 (mm_fit_int _) hm ha (Nat.le_of_ble_eq_true rfl) rfl ?_
  refine mm_aload_n dX0_clear_5 rfl rfl ?_
  refine mm_iconst (v := 0) dX0_clear_6 (by decide) ?_
  refine mm_put3 (ci := 0) (fs1 := [.ref r, .int 0, .int 0]) in_X0 tyX0_ok nmX0 rfl (k := 2) (by decide) rfl rfl kF_X0_23 dX0_clear_7 mm_fit_z0 mm_up_s ha (Nat.le_of_ble_eq_true rfl) rfl ?_
  refine mm_vret dX0_clear_10 rfl ?_ (by omega) (by omega)
  exact ⟨rfl, rfl⟩
end
section
theorem dX6_init_0 : decode cX6_init 0 = .ok (.aload_n 0, 1) := by decide +kernel
theorem dX6_init_1 : decode cX6_init 1 = .ok (.invokespecial 3, 3) := by decide +kernel
theorem dX6_init_4 : decode cX6_init 4 = .ok (.aload_n 0, 1) := by decide +kernel
theorem dX6_init_5 : decode cX6_init 5 = .ok (.new 9, 3) := by decide +kernel
theorem dX6_init_8 : decode cX6_init 8 = .ok (.dup, 1) := by decide +kernel
theorem dX6_init_9 : decode cX6_init 9 = .ok (.sipush 700, 3) := by decide +kernel
theorem dX6_init_12 : decode cX6_init 12 = .ok (.invokespecial 11, 3) := by decide +kernel
theorem dX6_init_15 : decode cX6_init 15 = .ok (.putfield 14, 3) := by decide +kernel
theorem dX6_init_18 : decode cX6_init 18 = .ok (.aload_n 0, 1) := by decide +kernel
theorem dX6_init_19 : decode cX6_init 19 = .ok (.sipush 180, 3) := by decide +kernel
theorem dX6_init_22 : decode cX6_init 22 = .ok (.anewarray 20, 3) := by decide +kernel
theorem dX6_init_25 : decode cX6_init 25 = .ok (.putfield 22, 3) := by decide +kernel
theorem dX6_init_28 : decode cX6_init 28 = .ok (.iconst 0, 1) := by decide +kernel
theorem dX6_init_29 : decode cX6_init 29 = .ok (.istore_n 1, 1) := by decide +kernel
theorem dX6_init_30 : decode cX6_init 30 = .ok (.iload_n 1, 1) := by decide +kernel
theorem dX6_init_31 : decode cX6_init 31 = .ok (.sipush 180, 3) := by decide +kernel
theorem dX6_init_34 : decode cX6_init 34 = .ok (.if_icmp .ge 22, 3) := by decide +kernel
theorem dX6_init_37 : decode cX6_init 37 = .ok (.aload_n 0, 1) := by decide +kernel
theorem dX6_init_38 : decode cX6_init 38 = .ok (.getfield 22, 3) := by decide +kernel
theorem dX6_init_41 : decode cX6_init 41 = .ok (.iload_n 1, 1) := by decide +kernel
theorem dX6_init_42 : decode cX6_init 42 = .ok (.new 20, 3) := by decide +kernel
theorem dX6_init_45 : decode cX6_init 45 = .ok (.dup, 1) := by decide +kernel
theorem dX6_init_46 : decode cX6_init 46 = .ok (.invokespecial 26, 3) := by decide +kernel
theorem dX6_init_49 : decode cX6_init 49 = .ok (.aastore, 1) := by decide +kernel
theorem dX6_init_50 : decode cX6_init 50 = .ok (.iinc 1 1, 3) := by decide +kernel
theorem dX6_init_53 : decode cX6_init 53 = .ok (.goto (-23), 3) := by decide +kernel
theorem dX6_init_56 : decode cX6_init 56 = .ok (.aload_n 0, 1) := by decide +kernel
theorem dX6_init_57 : decode cX6_init 57 = .ok (.iconst 5, 1) := by decide +kernel
theorem dX6_init_58 : decode cX6_init 58 = .ok (.newarray .int, 2) := by decide +kernel
theorem dX6_init_60 : decode cX6_init 60 = .ok (.putfield 27, 3) := by decide +kernel
theorem dX6_init_63 : decode cX6_init 63 = .ok (.return_, 1) := by decide +kernel
theorem dX8_init_0 : decode cX8_init 0 = .ok (.aload_n 0, 1) := by decide +kernel
theorem dX8_init_1 : decode cX8_init 1 = .ok (.invokespecial 5, 3) := by decide +kernel
theorem dX8_init_4 : decode cX8_init 4 = .ok (.aload_n 0, 1) := by decide +kernel
theorem dX8_init_5 : decode cX8_init 5 = .ok (.sipush 700, 3) := by decide +kernel
theorem dX8_init_8 : decode cX8_init 8 = .ok (.anewarray 13, 3) := by decide +kernel
theorem dX8_init_11 : decode cX8_init 11 = .ok (.putfield 15, 3) := by decide +kernel
theorem dX8_init_14 : decode cX8_init 14 = .ok (.iconst 0, 1) := by decide +kernel
theorem dX8_init_15 : decode cX8_init 15 = .ok (.istore_n 1, 1) := by decide +kernel
theorem dX8_init_16 : decode cX8_init 16 = .ok (.iload_n 1, 1) := by decide +kernel
theorem dX8_init_17 : decode cX8_init 17 = .ok (.sipush 700, 3) := by decide +kernel
theorem dX8_init_20 : decode cX8_init 20 = .ok (.if_icmp .ge 22, 3) := by decide +kernel
theorem dX8_init_23 : decode cX8_init 23 = .ok (.aload_n 0, 1) := by decide +kernel
theorem dX8_init_24 : decode cX8_init 24 = .ok (.getfield 15, 3) := by decide +kernel
theorem dX8_init_27 : decode cX8_init 27 = .ok (.iload_n 1, 1) := by decide +kernel
theorem dX8_init_28 : decode cX8_init 28 = .ok (.new 13, 3) := by decide +kernel
theorem dX8_init_31 : decode cX8_init 31 = .ok (.dup, 1) := by decide +kernel
theorem dX8_init_32 : decode cX8_init 32 = .ok (.invokespecial 19, 3) := by decide +kernel
theorem dX8_init_35 : decode cX8_init 35 = .ok (.aastore, 1) := by decide +kernel
theorem dX8_init_36 : decode cX8_init 36 = .ok (.iinc 1 1, 3) := by decide +kernel
theorem dX8_init_39 : decode cX8_init 39 = .ok (.goto (-23), 3) := by decide +kernel
theorem dX8_init_42 : decode cX8_init 42 = .ok (.aload_n 0, 1) := by decide +kernel
theorem dX8_init_43 : decode cX8_init 43 = .ok (.new 13, 3) := by decide +kernel
theorem dX8_init_46 : decode cX8_init 46 = .ok (.dup, 1) := by decide +kernel
theorem dX8_init_47 : decode cX8_init 47 = .ok (.invokespecial 19, 3) := by decide +kernel
theorem dX8_init_50 : decode cX8_init 50 = .ok (.putfield 20, 3) := by decide +kernel
theorem dX8_init_53 : decode cX8_init 53 = .ok (.aload_n 0, 1) := by decide +kernel
theorem dX8_init_54 : decode cX8_init 54 = .ok (.new 24, 3) := by decide +kernel
theorem dX8_init_57 : decode cX8_init 57 = .ok (.dup, 1) := by decide +kernel
theorem dX8_init_58 : decode cX8_init 58 = .ok (.sipush 1000, 3) := by decide +kernel
theorem dX8_init_61 : decode cX8_init 61 = .ok (.invokespecial 26, 3) := by decide +kernel
theorem dX8_init_64 : decode cX8_init 64 = .ok (.putfield 29, 3) := by decide +kernel
theorem dX8_init_67 : decode cX8_init 67 = .ok (.return_, 1) := by decide +kernel
theorem dX10_init_0 : decode cX10_init 0 = .ok (.aload_n 0, 1) := by decide +kernel
theorem dX10_init_1 : decode cX10_init 1 = .ok (.invokespecial 3, 3) := by decide +kernel
theorem dX10_init_4 : decode cX10_init 4 = .ok (.aload_n 0, 1) := by decide +kernel
theorem dX10_init_5 : decode cX10_init 5 = .ok (.aload_n 1, 1) := by decide +kernel
theorem dX10_init_6 : decode cX10_init 6 = .ok (.putfield 9, 3) := by decide +kernel
theorem dX10_init_9 : decode cX10_init 9 = .ok (.sipush 701, 3) := by decide +kernel
theorem dX10_init_12 : decode cX10_init 12 = .ok (.istore_n 2, 1) := by decide +kernel
theorem dX10_init_13 : decode cX10_init 13 = .ok (.aload_n 0, 1) := by decide +kernel
theorem dX10_init_14 : decode cX10_init 14 = .ok (.iload_n 2, 1) := by decide +kernel
theorem dX10_init_15 : decode cX10_init 15 = .ok (.newarray .int, 2) := by decide +kernel
theorem dX10_init_17 : decode cX10_init 17 = .ok (.putfield 15, 3) := by decide +kernel
theorem dX10_init_20 : decode cX10_init 20 = .ok (.aload_n 0, 1) := by decide +kernel
theorem dX10_init_21 : decode cX10_init 21 = .ok (.iload_n 2, 1) := by decide +kernel
theorem dX10_init_22 : decode cX10_init 22 = .ok (.newarray .int, 2) := by decide +kernel
theorem dX10_init_24 : decode cX10_init 24 = .ok (.putfield 19, 3) := by decide +kernel
theorem dX10_init_27 : decode cX10_init 27 = .ok (.aload_n 0, 1) := by decide +kernel
theorem dX10_init_28 : decode cX10_init 28 = .ok (.iload_n 2, 1) := by decide +kernel
theorem dX10_init_29 : decode cX10_init 29 = .ok (.newarray .int, 2) := by decide +kernel
theorem dX10_init_31 : decode cX10_init 31 = .ok (.putfield 22, 3) := by decide +kernel
theorem dX10_init_34 : decode cX10_init 34 = .ok (.aload_n 0, 1) := by decide +kernel
theorem dX10_init_35 : decode cX10_init 35 = .ok (.iload_n 2, 1) := by decide +kernel
theorem dX10_init_36 : decode cX10_init 36 = .ok (.newarray .long, 2) := by decide +kernel
theorem dX10_init_38 : decode cX10_init 38 = .ok (.putfield 25, 3) := by decide +kernel
theorem dX10_init_41 : decode cX10_init 41 = .ok (.return_, 1) := by decide +kernel
theorem dX5_init_0 : decode cX5_init 0 = .ok (.aload_n 0, 1) := by decide +kernel
theorem dX5_init_1 : decode cX5_init 1 = .ok (.invokespecial 3, 3) := by decide +kernel
theorem dX5_init_4 : decode cX5_init 4 = .ok (.aload_n 0, 1) := by decide +kernel
theorem dX5_init_5 : decode cX5_init 5 = .ok (.aload_n 1, 1) := by decide +kernel
theorem dX5_init_6 : decode cX5_init 6 = .ok (.putfield 9, 3) := by decide +kernel
theorem dX5_init_9 : decode cX5_init 9 = .ok (.aload_n 0, 1) := by decide +kernel
theorem dX5_init_10 : decode cX5_init 10 = .ok (.aload_n 2, 1) := by decide +kernel
theorem dX5_init_11 : decode cX5_init 11 = .ok (.putfield 15, 3) := by decide +kernel
theorem dX5_init_14 : decode cX5_init 14 = .ok (.return_, 1) := by decide +kernel
theorem dX2_init_0 : decode cX2_init 0 = .ok (.aload_n 0, 1) := by decide +kernel
theorem dX2_init_1 : decode cX2_init 1 = .ok (.invokespecial 3, 3) := by decide +kernel
theorem dX2_init_4 : decode cX2_init 4 = .ok (.aload_n 0, 1) := by decide +kernel
theorem dX2_init_5 : decode cX2_init 5 = .ok (.new 9, 3) := by decide +kernel
theorem dX2_init_8 : decode cX2_init 8 = .ok (.dup, 1) := by decide +kernel
theorem dX2_init_9 : decode cX2_init 9 = .ok (.invokespecial 11, 3) := by decide +kernel
theorem dX2_init_12 : decode cX2_init 12 = .ok (.putfield 12, 3) := by decide +kernel
theorem dX2_init_15 : decode cX2_init 15 = .ok (.aload_n 0, 1) := by decide +kernel
theorem dX2_init_16 : decode cX2_init 16 = .ok (.new 18, 3) := by decide +kernel
theorem dX2_init_19 : decode cX2_init 19 = .ok (.dup, 1) := by decide +kernel
theorem dX2_init_20 : decode cX2_init 20 = .ok (.aload_n 0, 1) := by decide +kernel
theorem dX2_init_21 : decode cX2_init 21 = .ok (.getfield 12, 3) := by decide +kernel
theorem dX2_init_24 : decode cX2_init 24 = .ok (.invokevirtual 20, 3) := by decide +kernel
theorem dX2_init_27 : decode cX2_init 27 = .ok (.invokespecial 24, 3) := by decide +kernel
theorem dX2_init_30 : decode cX2_init 30 = .ok (.putfield 27, 3) := by decide +kernel
theorem dX2_init_33 : decode cX2_init 33 = .ok (.aload_n 0, 1) := by decide +kernel
theorem dX2_init_34 : decode cX2_init 34 = .ok (.new 31, 3) := by decide +kernel
theorem dX2_init_37 : decode cX2_init 37 = .ok (.dup, 1) := by decide +kernel
theorem dX2_init_38 : decode cX2_init 38 = .ok (.aload_n 0, 1) := by decide +kernel
theorem dX2_init_39 : decode cX2_init 39 = .ok (.getfield 12, 3) := by decide +kernel
theorem dX2_init_42 : decode cX2_init 42 = .ok (.aload_n 0, 1) := by decide +kernel
theorem dX2_init_43 : decode cX2_init 43 = .ok (.getfield 27, 3) := by decide +kernel
theorem dX2_init_46 : decode cX2_init 46 = .ok (.invokespecial 33, 3) := by decide +kernel
theorem dX2_init_49 : decode cX2_init 49 = .ok (.putfield 36, 3) := by decide +kernel
theorem dX2_init_52 : decode cX2_init 52 = .ok (.return_, 1) := by decide +kernel
theorem dX1_init_0 : decode cX1_init 0 = .ok (.aload_n 0, 1) := by decide +kernel
theorem dX1_init_1 : decode cX1_init 1 = .ok (.invokespecial 3, 3) := by decide +kernel
theorem dX1_init_4 : decode cX1_init 4 = .ok (.aload_n 0, 1) := by decide +kernel
theorem dX1_init_5 : decode cX1_init 5 = .ok (.aload_n 1, 1) := by decide +kernel
theorem dX1_init_6 : decode cX1_init 6 = .ok (.putfield 9, 3) := by decide +kernel
theorem dX1_init_9 : decode cX1_init 9 = .ok (.aload_n 0, 1) := by decide +kernel
theorem dX1_init_10 : decode cX1_init 10 = .ok (.sipush 256, 3) := by decide +kernel
theorem dX1_init_13 : decode cX1_init 13 = .ok (.anewarray 15, 3) := by decide +kernel
theorem dX1_init_16 : decode cX1_init 16 = .ok (.putfield 17, 3) := by decide +kernel
theorem dX1_init_19 : decode cX1_init 19 = .ok (.aload_n 0, 1) := by decide +kernel
theorem dX1_init_20 : decode cX1_init 20 = .ok (.sipush 256, 3) := by decide +kernel
theorem dX1_init_23 : decode cX1_init 23 = .ok (.anewarray 15, 3) := by decide +kernel
theorem dX1_init_26 : decode cX1_init 26 = .ok (.putfield 21, 3) := by decide +kernel
theorem dX1_init_29 : decode cX1_init 29 = .ok (.aload_n 0, 1) := by decide +kernel
theorem dX1_init_30 : decode cX1_init 30 = .ok (.sipush 256, 3) := by decide +kernel
theorem dX1_init_33 : decode cX1_init 33 = .ok (.newarray .boolean, 2) := by decide +kernel
theorem dX1_init_35 : decode cX1_init 35 = .ok (.putfield 24, 3) := by decide +kernel
theorem dX1_init_38 : decode cX1_init 38 = .ok (.return_, 1) := by decide +kernel
theorem dX9_init_0 : decode cX9_init 0 = .ok (.aload_n 0, 1) := by decide +kernel
theorem dX9_init_1 : decode cX9_init 1 = .ok (.invokespecial 3, 3) := by decide +kernel
theorem dX9_init_4 : decode cX9_init 4 = .ok (.aload_n 0, 1) := by decide +kernel
theorem dX9_init_5 : decode cX9_init 5 = .ok (.aload_n 1, 1) := by decide +kernel
theorem dX9_init_6 : decode cX9_init 6 = .ok (.putfield 9, 3) := by decide +kernel
theorem dX9_init_9 : decode cX9_init 9 = .ok (.aload_n 0, 1) := by decide +kernel
theorem dX9_init_10 : decode cX9_init 10 = .ok (.aload_n 2, 1) := by decide +kernel
theorem dX9_init_11 : decode cX9_init 11 = .ok (.putfield 15, 3) := by decide +kernel
theorem dX9_init_14 : decode cX9_init 14 = .ok (.aload_n 0, 1) := by decide +kernel
theorem dX9_init_15 : decode cX9_init 15 = .ok (.aload_n 3, 1) := by decide +kernel
theorem dX9_init_16 : decode cX9_init 16 = .ok (.putfield 19, 3) := by decide +kernel
theorem dX9_init_19 : decode cX9_init 19 = .ok (.return_, 1) := by decide +kernel
theorem dX7_init_0 : decode cX7_init 0 = .ok (.aload_n 0, 1) := by decide +kernel
theorem dX7_init_1 : decode cX7_init 1 = .ok (.invokespecial 3, 3) := by decide +kernel
theorem dX7_init_4 : decode cX7_init 4 = .ok (.aload_n 0, 1) := by decide +kernel
theorem dX7_init_5 : decode cX7_init 5 = .ok (.aload_n 1, 1) := by decide +kernel
theorem dX7_init_6 : decode cX7_init 6 = .ok (.putfield 9, 3) := by decide +kernel
theorem dX7_init_9 : decode cX7_init 9 = .ok (.aload_n 0, 1) := by decide +kernel
theorem dX7_init_10 : decode cX7_init 10 = .ok (.aload_n 2, 1) := by decide +kernel
theorem dX7_init_11 : decode cX7_init 11 = .ok (.putfield 15, 3) := by decide +kernel
theorem dX7_init_14 : decode cX7_init 14 = .ok (.aload_n 0, 1) := by decide +kernel
theorem dX7_init_15 : decode cX7_init 15 = .ok (.aload_n 3, 1) := by decide +kernel
theorem dX7_init_16 : decode cX7_init 16 = .ok (.putfield 19, 3) := by decide +kernel
theorem dX7_init_19 : decode cX7_init 19 = .ok (.aload_n 0, 1) := by decide +kernel
theorem dX7_init_20 : decode cX7_init 20 = .ok (.bipush 20, 2) := by decide +kernel
theorem dX7_init_22 : decode cX7_init 22 = .ok (.newarray .byte, 2) := by decide +kernel
theorem dX7_init_24 : decode cX7_init 24 = .ok (.putfield 22, 3) := by decide +kernel
theorem dX7_init_27 : decode cX7_init 27 = .ok (.return_, 1) := by decide +kernel
theorem dX11_init_0 : decode cX11_init 0 = .ok (.aload_n 0, 1) := by decide +kernel
theorem dX11_init_1 : decode cX11_init 1 = .ok (.invokespecial 1, 3) := by decide +kernel
theorem dX11_init_4 : decode cX11_init 4 = .ok (.aload_n 0, 1) := by decide +kernel
theorem dX11_init_5 : decode cX11_init 5 = .ok (.new 7, 3) := by decide +kernel
theorem dX11_init_8 : decode cX11_init 8 = .ok (.dup, 1) := by decide +kernel
theorem dX11_init_9 : decode cX11_init 9 = .ok (.sipush 700, 3) := by decide +kernel
theorem dX11_init_12 : decode cX11_init 12 = .ok (.invokespecial 11, 3) := by decide +kernel
theorem dX11_init_15 : decode cX11_init 15 = .ok (.putfield 14, 3) := by decide +kernel
theorem dX11_init_18 : decode cX11_init 18 = .ok (.aload_n 0, 1) := by decide +kernel
theorem dX11_init_19 : decode cX11_init 19 = .ok (.new 7, 3) := by decide +kernel
theorem dX11_init_22 : decode cX11_init 22 = .ok (.dup, 1) := by decide +kernel
theorem dX11_init_23 : decode cX11_init 23 = .ok (.sipush 4000, 3) := by decide +kernel
theorem dX11_init_26 : decode cX11_init 26 = .ok (.invokespecial 11, 3) := by decide +kernel
theorem dX11_init_29 : decode cX11_init 29 = .ok (.putfield 18, 3) := by decide +kernel
theorem dX11_init_32 : decode cX11_init 32 = .ok (.aload_n 0, 1) := by decide +kernel
theorem dX11_init_33 : decode cX11_init 33 = .ok (.new 21, 3) := by decide +kernel
theorem dX11_init_36 : decode cX11_init 36 = .ok (.dup, 1) := by decide +kernel
theorem dX11_init_37 : decode cX11_init 37 = .ok (.invokespecial 23, 3) := by decide +kernel
theorem dX11_init_40 : decode cX11_init 40 = .ok (.putfield 24, 3) := by decide +kernel
theorem dX11_init_43 : decode cX11_init 43 = .ok (.aload_n 0, 1) := by decide +kernel
theorem dX11_init_44 : decode cX11_init 44 = .ok (.new 21, 3) := by decide +kernel
theorem dX11_init_47 : decode cX11_init 47 = .ok (.dup, 1) := by decide +kernel
theorem dX11_init_48 : decode cX11_init 48 = .ok (.invokespecial 23, 3) := by decide +kernel
theorem dX11_init_51 : decode cX11_init 51 = .ok (.putfield 28, 3) := by decide +kernel
theorem dX11_init_54 : decode cX11_init 54 = .ok (.aload_n 0, 1) := by decide +kernel
theorem dX11_init_55 : decode cX11_init 55 = .ok (.new 31, 3) := by decide +kernel
theorem dX11_init_58 : decode cX11_init 58 = .ok (.dup, 1) := by decide +kernel
theorem dX11_init_59 : decode cX11_init 59 = .ok (.invokespecial 33, 3) := by decide +kernel
theorem dX11_init_62 : decode cX11_init 62 = .ok (.putfield 34, 3) := by decide +kernel
theorem dX11_init_65 : decode cX11_init 65 = .ok (.aload_n 0, 1) := by decide +kernel
theorem dX11_init_66 : decode cX11_init 66 = .ok (.new 38, 3) := by decide +kernel
theorem dX11_init_69 : decode cX11_init 69 = .ok (.dup, 1) := by decide +kernel
theorem dX11_init_70 : decode cX11_init 70 = .ok (.aload_n 0, 1) := by decide +kernel
theorem dX11_init_71 : decode cX11_init 71 = .ok (.getfield 14, 3) := by decide +kernel
theorem dX11_init_74 : decode cX11_init 74 = .ok (.aload_n 0, 1) := by decide +kernel
theorem dX11_init_75 : decode cX11_init 75 = .ok (.getfield 34, 3) := by decide +kernel
theorem dX11_init_78 : decode cX11_init 78 = .ok (.aload_n 0, 1) := by decide +kernel
theorem dX11_init_79 : decode cX11_init 79 = .ok (.getfield 18, 3) := by decide +kernel
theorem dX11_init_82 : decode cX11_init 82 = .ok (.invokespecial 40, 3) := by decide +kernel
theorem dX11_init_85 : decode cX11_init 85 = .ok (.putfield 43, 3) := by decide +kernel
theorem dX11_init_88 : decode cX11_init 88 = .ok (.aload_n 0, 1) := by decide +kernel
theorem dX11_init_89 : decode cX11_init 89 = .ok (.new 47, 3) := by decide +kernel
theorem dX11_init_92 : decode cX11_init 92 = .ok (.dup, 1) := by decide +kernel
theorem dX11_init_93 : decode cX11_init 93 = .ok (.aload_n 0, 1) := by decide +kernel
theorem dX11_init_94 : decode cX11_init 94 = .ok (.getfield 14, 3) := by decide +kernel
theorem dX11_init_97 : decode cX11_init 97 = .ok (.aload_n 0, 1) := by decide +kernel
theorem dX11_init_98 : decode cX11_init 98 = .ok (.getfield 34, 3) := by decide +kernel
theorem dX11_init_101 : decode cX11_init 101 = .ok (.aload_n 0, 1) := by decide +kernel
theorem dX11_init_102 : decode cX11_init 102 = .ok (.getfield 18, 3) := by decide +kernel
theorem dX11_init_105 : decode cX11_init 105 = .ok (.invokespecial 49, 3) := by decide +kernel
theorem dX11_init_108 : decode cX11_init 108 = .ok (.putfield 50, 3) := by decide +kernel
theorem dX11_init_111 : decode cX11_init 111 = .ok (.aload_n 0, 1) := by decide +kernel
theorem dX11_init_112 : decode cX11_init 112 = .ok (.new 54, 3) := by decide +kernel
theorem dX11_init_115 : decode cX11_init 115 = .ok (.dup, 1) := by decide +kernel
theorem dX11_init_116 : decode cX11_init 116 = .ok (.aload_n 0, 1) := by decide +kernel
theorem dX11_init_117 : decode cX11_init 117 = .ok (.getfield 18, 3) := by decide +kernel
theorem dX11_init_120 : decode cX11_init 120 = .ok (.invokespecial 56, 3) := by decide +kernel
theorem dX11_init_123 : decode cX11_init 123 = .ok (.putfield 59, 3) := by decide +kernel
theorem dX11_init_126 : decode cX11_init 126 = .ok (.aload_n 0, 1) := by decide +kernel
theorem dX11_init_127 : decode cX11_init 127 = .ok (.iconst (-1), 1) := by decide +kernel
theorem dX11_init_128 : decode cX11_init 128 = .ok (.putfield 63, 3) := by decide +kernel
theorem dX11_init_131 : decode cX11_init 131 = .ok (.return_, 1) := by decide +kernel
theorem dX6_text_0 : decode cX6_text 0 = .ok (.aload_n 0, 1) := by decide +kernel
theorem dX6_text_1 : decode cX6_text 1 = .ok (.getfield 14, 3) := by decide +kernel
theorem dX6_text_4 : decode cX6_text 4 = .ok (.areturn, 1) := by decide +kernel
end
section
def IT0 : mm_C := .inr (3, [.int 0, .int 0, .null, .null, .int 0, .int 0, .long 0, .int 0, .int 0, .int 0, .null, .int 0, .int 0, .int 0, .int 0, .null, .null])
def ND0 : mm_C := .inr (4, [.null, .null, .null, .null, .long 0, .int 0, .int 0])

def q_X6_init (M0 : Nat → mm_C) (a n : Nat) (v : Option Value) (S' : mm_S) : Prop := v = none ∧ S'.2 = (n + 184, false) ∧ S'.1 a = .inr (6, [.ref n, .ref (n + 2), .ref (n + 183), .int 0, .int 0]) ∧ S'.1 n = .inr (0, [.ref (n + 1), .int 0, .int 0]) ∧ S'.1 (n + 1) = .inl (2, 700, .inl (fun _ => 0)) ∧
  (∃ f : Nat → Option Nat, S'.1 (n + 2) = .inl (4, 180, .inr (.inr f)) ∧ ∀ i, i < 180 → f i = some (n + 3 + i)) ∧ (∀ i, i < 180 → S'.1 (n + 3 + i) = IT0) ∧ S'.1 (n + 183) = .inl (0, 5, .inl (fun _ => 0)) ∧ ∀ j, j < n → j ≠ a → S'.1 j = M0 j

set_option maxHeartbeats 4000000 in
set_option maxRecDepth 100000 in
theorem lp_X6_init {g : mm_G} {l : Launch} (hst : l.stackTraces = false) {d : Nat} (M0 : Nat → mm_C) (a n : Nat) (ha : a < n) : ∀ (j k : Nat), k + j = 180 → ∀ (f : Nat → Option Nat) (M : Nat → mm_C) (hA : M a = .inr (6, [.ref n, .ref (n + 2), .null, .int 0, .int 0])) (hR : M (n + 2) = .inl (4, 180, .inr (.inr f))) (hf : ∀ i, i < k → f i = some (n + 3 + i)) (hI : ∀ i, i < k → M (n + 3 + i) = IT0) (hB : M (n) = .inr (0, [.ref (n + 1), .int 0, .int 0])) (hBr : M (n + 1) = .inl (2, 700, .inl (fun _ => 0))) (hF : ∀ j, j < n → j ≠ a → M j = M0 j), mm_V g l RX6 "<init>" cX6_init 2 none [] (d + 1) 184 3948 (mm_nt (q_X6_init M0 a n)) 30 [some (.ref a), some (.int (nI k))] [] (M, n + 3 + k, false) (3 + k) (883 + 17 * k) := by
  intro j
  induction j with
  | zero =>
    intro k hk f M hA hR hf hI hB hBr hF
    obtain rfl : k = 180 := by omega
    refine mm_iload_n dX6_init_30 rfl ?_
    refine mm_sipush (v := 180) dX6_init_31 (by decide) ?_
    refine mm_icmp_ge 56 dX6_init_34 (by decide) (fun _ => ?_) (fun h => absurd (by decide) h)
    refine mm_aload_n dX6_init_56 rfl rfl ?_
    refine mm_iconst (v := 5) dX6_init_57 (by decide) ?_
    refine mm_newa3 (atype := .int) (n1 := n + 3 + 181) (t := 0) (N := 5) (cl := .inl (0, 5, .inl (fun _ => 0))) (a0 := (5, .inl (fun _ => 0))) (fun _ => rfl) (fun _ => rfl) wA_int rfl (fun _ => rfl) (by decide) rfl (by decide) (by omega) (by omega) dX6_init_58 rfl ?_
    refine mm_putF3 (ci := 6) (fs1 := [.ref n, .ref (n + 2), .ref (n + 3 + 180), .int 0, .int 0]) in_X6 tyX6_ok nmX6 rfl (k := 2) (by decide) rfl rfl rfl rfl kF_X6_27 dX6_init_60 (mm_fit_arr _ _) (mm_upN (by omega) hA) (by first | omega | (dsimp only; omega)) (Nat.le_of_ble_eq_true rfl) rfl ?_
    refine mm_vret dX6_init_63 rfl ?_ (by omega) (by omega)
    exact ⟨rfl, rfl, mm_up_s, (mm_upN (by omega) (mm_upN (by omega) hB)), (mm_upN (by omega) (mm_upN (by omega) hBr)), ⟨f, (mm_upN (by omega) (mm_upN (by omega) hR)), hf⟩, fun i hi => mm_upN (by omega) (mm_upN (by omega) (hI i hi)), (mm_upN (by omega) mm_up_s), fun x h1 h2 => mm_upN (by omega) (mm_upN (by omega) (hF x h1 h2))⟩
  | succ j ih =>
    intro k hk f M hA hR hf hI hB hBr hF
    refine mm_iload_n dX6_init_30 rfl ?_
    refine mm_sipush (v := 180) dX6_init_31 (by decide) ?_
    refine mm_icmp_ge 56 dX6_init_34 (by decide) (fun h => absurd h (nI_ge (a := k) (b := 180) (by omega) (by decide))) (fun _ => ?_)
    refine mm_aload_n dX6_init_37 rfl rfl ?_
    refine mm_get3 (ci := 6) in_X6 rfl (k := 1) (by decide) rfl kF_X6_22 dX6_init_38 hA (by first | omega | (dsimp only; omega)) rfl ?_
    refine mm_iload_n dX6_init_41 rfl ?_
    refine mm_new3 (n1 := n + 3 + k + 1) (ci := 3) (fs := [.int 0, .int 0, .null, .null, .int 0, .int 0, .long 0, .int 0, .int 0, .int 0, .null, .int 0, .int 0, .int 0, .int 0, .null, .null]) in_X3 tyX3_ok rfl kC_X6_20 wn_X3 wi_X3 (by decide) (fun _ => rfl) (by omega) (by omega) dX6_init_42 rfl ?_
    refine mm_dup dX6_init_45 rfl ?_
    refine mm_callI wM_X3_init rfl kM_X6_26 wI_X3_init dX6_init_46 (c_X3_init hst _ _) rfl rfl (Nat.le_of_ble_eq_true rfl) (by omega) (by omega) (fun v S9 hq => ?_)
    obtain ⟨rfl, rfl⟩ := hq
    refine ⟨fun h => ⟨h, rfl⟩, ?_⟩
    refine mm_aast3 (fun _ => rfl) rfl (mm_upN (by omega) hR) (by first | omega | (dsimp only; omega)) mm_up_s (by first | omega | (dsimp only; omega)) (vp_in_nI (by omega) (by decide)) dX6_init_49 ?_
    refine mm_iinc (v := nI (k + 1)) [some (.ref a), some (.int (nI (k + 1)))] dX6_init_50 rfl (by rw [nI_succ]; rfl) (by decide) rfl ?_
    refine mm_goto 30 dX6_init_53 (by decide) ?_
    exact ih (k + 1) (by omega) (va_up f (nI k).toNatClampNeg (some (n + 3 + k))) _ ((mm_upN (by omega) (mm_upN (by omega) hA))) (mm_up_s) (fun i hi => by
        rw [nI_clamp (n := k) (by omega)]
        unfold va_up
        by_cases e : i = k
        · subst e; rw [if_pos rfl]
        · rw [if_neg e]; exact hf i (by omega)) (fun i hi => by
        by_cases e : i = k
        · subst e; exact (mm_upN (by omega) mm_up_s)
        · exact mm_upN (by omega) (mm_upN (by omega) (hI i (by omega)))) ((mm_upN (by omega) (mm_upN (by omega) hB))) ((mm_upN (by omega) (mm_upN (by omega) hBr))) (fun x h1 h2 => mm_upN (by omega) (mm_upN (by omega) (hF x h1 h2)))

set_option maxHeartbeats 4000000 in
set_option maxRecDepth 100000 in
theorem c_X6_init {g : mm_G} {l : Launch} (hst : l.stackTraces = false) {d : Nat} (a n : Nat) (M : Nat → mm_C) (ha : a < n) (hm : M a = .inr (6, [.null, .null, .null, .int 0, .int 0])) : mm_Cm g l yX6_init (.code yX6_init cX6_init 2 none) (d + 1) 184 3948 [.ref a] (M, n, false) (fun v S' => q_X6_init M a n v S') := by
  refine mm_Cm_of hst (by decide) (Nat.le_of_ble_eq_true rfl) ?_
  show mm_V g l RX6 "<init>" cX6_init 2 none [] (d + 1) 184 3948 _ 0 [some (.ref a), none] [] (M, n, false) 0 0
  refine mm_aload_n dX6_init_0 rfl rfl ?_
  refine mm_oinit kM_X6_3 wO_i wO_c (Nat.le_of_ble_eq_true rfl) dX6_init_1 ?_
  refine mm_aload_n dX6_init_4 rfl rfl ?_
  refine mm_new3 (n1 := n + 1) (ci := 0) (fs := [.null, .int 0, .int 0]) in_X0 tyX0_ok rfl kC_X6_9 wn_X0 wi_X0 (by decide) (fun _ => rfl) (by omega) (by omega) dX6_init_5 rfl ?_
  refine mm_dup dX6_init_8 rfl ?_
  refine mm_sipush (v := 700) dX6_init_9 (by decide) ?_
  refine mm_callI wM_X0_init rfl kM_X6_11 wI_X0_init dX6_init_12 (c_X0_init hst _ _ 700 _ 700 (by decide) rfl (by decide) (by omega) mm_up_s) rfl rfl (Nat.le_of_ble_eq_true rfl) (by omega) (by omega) (fun v S9 hq => ?_)
  obtain ⟨rfl, rfl⟩ := hq
  refine ⟨fun _ => ⟨rfl, rfl⟩, ?_⟩
  refine mm_putF3 (ci := 6) (fs1 := [.ref n, .null, .null, .int 0, .int 0]) in_X6 tyX6_ok nmX6 rfl (k := 0) (by decide) rfl rfl rfl rfl kF_X6_14 dX6_init_15 (mm_fit_ref _ _) (mm_upN (by omega) (mm_upN (by omega) (mm_upN (by omega) hm))) (by first | omega | (dsimp only; omega)) (Nat.le_of_ble_eq_true rfl) rfl ?_
  refine mm_aload_n dX6_init_18 rfl rfl ?_
  refine mm_sipush (v := 180) dX6_init_19 (by decide) ?_
  refine mm_newq3 (n1 := n + 3) (t := 4) (N := 180) (fun _ => rfl) (Or.inl rfl) kC_X6_20 (by decide) rfl (by decide) (by omega) (by omega) dX6_init_22 rfl ?_
  refine mm_putF3 (ci := 6) (fs1 := [.ref n, .ref (n + 2), .null, .int 0, .int 0]) in_X6 tyX6_ok nmX6 rfl (k := 1) (by decide) rfl rfl rfl rfl kF_X6_22 dX6_init_25 (mm_fit_arr _ _) (mm_upN (by omega) mm_up_s) (by first | omega | (dsimp only; omega)) (Nat.le_of_ble_eq_true rfl) rfl ?_
  refine mm_iconst (v := 0) dX6_init_28 (by decide) ?_
  refine mm_istore_n [some (.ref a), some (.int 0)] dX6_init_29 (by decide) rfl ?_
  exact lp_X6_init hst M a n ha 180 0 rfl (fun _ => none) _ (mm_up_s) ((mm_upN (by omega) mm_up_s)) (fun i h => absurd h (Nat.not_lt_zero i)) (fun i h => absurd h (Nat.not_lt_zero i)) ((mm_upN (by omega) (mm_upN (by omega) (mm_upN (by omega) mm_up_s)))) ((mm_upN (by omega) (mm_upN (by omega) (mm_upN (by omega) (mm_upN (by omega) mm_up_s))))) (fun x h1 h2 => mm_upN (by omega) (mm_upN (by omega) (mm_upN (by omega) (mm_upN (by omega) (mm_upN (by omega) (mm_upN (by omega) (rfl)))))))

def q_X8_init (M0 : Nat → mm_C) (a n : Nat) (v : Option Value) (S' : mm_S) : Prop := v = none ∧ S'.2 = (n + 704, false) ∧ S'.1 a = .inr (8, [.ref n, .ref (n + 701), .ref (n + 702), .int 0, .null, .null]) ∧ (∃ f : Nat → Option Nat, S'.1 n = .inl (5, 700, .inr (.inr f)) ∧ ∀ i, i < 700 → f i = some (n + 1 + i)) ∧
  (∀ i, i < 700 → S'.1 (n + 1 + i) = ND0) ∧ S'.1 (n + 701) = ND0 ∧ S'.1 (n + 702) = .inr (0, [.ref (n + 703), .int 0, .int 0]) ∧ S'.1 (n + 703) = .inl (2, 1000, .inl (fun _ => 0)) ∧ ∀ j, j < n → j ≠ a → S'.1 j = M0 j

set_option maxHeartbeats 4000000 in
set_option maxRecDepth 100000 in
theorem lp_X8_init {g : mm_G} {l : Launch} (hst : l.stackTraces = false) {d : Nat} (M0 : Nat → mm_C) (a n : Nat) (ha : a < n) : ∀ (j k : Nat), k + j = 700 → ∀ (f : Nat → Option Nat) (M : Nat → mm_C) (hA : M a = .inr (8, [.ref n, .null, .null, .int 0, .null, .null])) (hR : M (n) = .inl (5, 700, .inr (.inr f))) (hf : ∀ i, i < k → f i = some (n + 1 + i)) (hI : ∀ i, i < k → M (n + 1 + i) = ND0) (hF : ∀ j, j < n → j ≠ a → M j = M0 j), mm_V g l RX8 "<init>" cX8_init 2 none [] (d + 1) 704 6610 (mm_nt (q_X8_init M0 a n)) 16 [some (.ref a), some (.int (nI k))] [] (M, n + 1 + k, false) (1 + k) (700 + 7 * k) := by
  intro j
  induction j with
  | zero =>
    intro k hk f M hA hR hf hI hF
    obtain rfl : k = 700 := by omega
    refine mm_iload_n dX8_init_16 rfl ?_
    refine mm_sipush (v := 700) dX8_init_17 (by decide) ?_
    refine mm_icmp_ge 42 dX8_init_20 (by decide) (fun _ => ?_) (fun h => absurd (by decide) h)
    refine mm_aload_n dX8_init_42 rfl rfl ?_
    refine mm_new3 (n1 := n + 1 + 701) (ci := 4) (fs := [.null, .null, .null, .null, .long 0, .int 0, .int 0]) in_X4 tyX4_ok rfl kC_X8_13 wn_X4 wi_X4 (by decide) (fun _ => rfl) (by omega) (by omega) dX8_init_43 rfl ?_
    refine mm_dup dX8_init_46 rfl ?_
    refine mm_callI wM_X4_init rfl kM_X8_19 wI_X4_init dX8_init_47 (c_X4_init hst _ _) rfl rfl (Nat.le_of_ble_eq_true rfl) (by omega) (by omega) (fun v S9 hq => ?_)
    obtain ⟨rfl, rfl⟩ := hq
    refine ⟨fun h => ⟨h, rfl⟩, ?_⟩
    refine mm_putF3 (ci := 8) (fs1 := [.ref n, .ref (n + 1 + 700), .null, .int 0, .null, .null]) in_X8 tyX8_ok nmX8 rfl (k := 1) (by decide) rfl rfl rfl rfl kF_X8_20 dX8_init_50 (mm_fit_ref _ _) (mm_upN (by omega) hA) (by first | omega | (dsimp only; omega)) (Nat.le_of_ble_eq_true rfl) rfl ?_
    refine mm_aload_n dX8_init_53 rfl rfl ?_
    refine mm_new3 (n1 := n + 1 + 702) (ci := 0) (fs := [.null, .int 0, .int 0]) in_X0 tyX0_ok rfl kC_X8_24 wn_X0 wi_X0 (by decide) (fun _ => rfl) (by omega) (by omega) dX8_init_54 rfl ?_
    refine mm_dup dX8_init_57 rfl ?_
    refine mm_sipush (v := 1000) dX8_init_58 (by decide) ?_
    refine mm_callI wM_X0_init rfl kM_X8_26 wI_X0_init dX8_init_61 (c_X0_init hst _ _ 1000 _ 1000 (by decide) rfl (by decide) (by omega) mm_up_s) rfl rfl (Nat.le_of_ble_eq_true rfl) (by omega) (by omega) (fun v S9 hq => ?_)
    obtain ⟨rfl, rfl⟩ := hq
    refine ⟨fun _ => ⟨rfl, rfl⟩, ?_⟩
    refine mm_putF3 (ci := 8) (fs1 := [.ref n, .ref (n + 1 + 700), .ref (n + 1 + 701), .int 0, .null, .null]) in_X8 tyX8_ok nmX8 rfl (k := 2) (by decide) rfl rfl rfl rfl kF_X8_29 dX8_init_64 (mm_fit_ref _ _) (mm_upN (by omega) (mm_upN (by omega) (mm_upN (by omega) mm_up_s))) (by first | omega | (dsimp only; omega)) (Nat.le_of_ble_eq_true rfl) rfl ?_
    refine mm_vret dX8_init_67 rfl ?_ (by omega) (by omega)
    exact ⟨rfl, rfl, mm_up_s, ⟨f, (mm_upN (by omega) (mm_upN (by omega) (mm_upN (by omega) (mm_upN (by omega) (mm_upN (by omega) (mm_upN (by omega) hR)))))), hf⟩, fun i hi => mm_upN (by omega) (mm_upN (by omega) (mm_upN (by omega) (mm_upN (by omega) (mm_upN (by omega) (mm_upN (by omega) (hI i hi)))))), (mm_upN (by omega) (mm_upN (by omega) (mm_upN (by omega) (mm_upN (by omega) (mm_upN (by omega) mm_up_s))))), (mm_upN (by omega) mm_up_s), (mm_upN (by omega) (mm_upN (by omega) mm_up_s)), fun x h1 h2 => mm_upN (by omega) (mm_upN (by omega) (mm_upN (by omega) (mm_upN (by omega) (mm_upN (by omega) (mm_upN (by omega) (hF x h1 h2))))))⟩
  | succ j ih =>
    intro k hk f M hA hR hf hI hF
    refine mm_iload_n dX8_init_16 rfl ?_
    refine mm_sipush (v := 700) dX8_init_17 (by decide) ?_
    refine mm_icmp_ge 42 dX8_init_20 (by decide) (fun h => absurd h (nI_ge (a := k) (b := 700) (by omega) (by decide))) (fun _ => ?_)
    refine mm_aload_n dX8_init_23 rfl rfl ?_
    refine mm_get3 (ci := 8) in_X8 rfl (k := 0) (by decide) rfl kF_X8_15 dX8_init_24 hA (by first | omega | (dsimp only; omega)) rfl ?_
    refine mm_iload_n dX8_init_27 rfl ?_
    refine mm_new3 (n1 := n + 1 + k + 1) (ci := 4) (fs := [.null, .null, .null, .null, .long 0, .int 0, .int 0]) in_X4 tyX4_ok rfl kC_X8_13 wn_X4 wi_X4 (by decide) (fun _ => rfl) (by omega) (by omega) dX8_init_28 rfl ?_
    refine mm_dup dX8_init_31 rfl ?_
    refine mm_callI wM_X4_init rfl kM_X8_19 wI_X4_init dX8_init_32 (c_X4_init hst _ _) rfl rfl (Nat.le_of_ble_eq_true rfl) (by omega) (by omega) (fun v S9 hq => ?_)
    obtain ⟨rfl, rfl⟩ := hq
    refine ⟨fun h => ⟨h, rfl⟩, ?_⟩
    refine mm_aast3 (fun _ => rfl) rfl (mm_upN (by omega) hR) (by first | omega | (dsimp only; omega)) mm_up_s (by first | omega | (dsimp only; omega)) (vp_in_nI (by omega) (by decide)) dX8_init_35 ?_
    refine mm_iinc (v := nI (k + 1)) [some (.ref a), some (.int (nI (k + 1)))] dX8_init_36 rfl (by rw [nI_succ]; rfl) (by decide) rfl ?_
    refine mm_goto 16 dX8_init_39 (by decide) ?_
    exact ih (k + 1) (by omega) (va_up f (nI k).toNatClampNeg (some (n + 1 + k))) _ ((mm_upN (by omega) (mm_upN (by omega) hA))) (mm_up_s) (fun i hi => by
        rw [nI_clamp (n := k) (by omega)]
        unfold va_up
        by_cases e : i = k
        · subst e; rw [if_pos rfl]
        · rw [if_neg e]; exact hf i (by omega)) (fun i hi => by
        by_cases e : i = k
        · subst e; exact (mm_upN (by omega) mm_up_s)
        · exact mm_upN (by omega) (mm_upN (by omega) (hI i (by omega))))  (fun x h1 h2 => mm_upN (by omega) (mm_upN (by omega) (hF x h1 h2)))

set_option maxHeartbeats 4000000 in
set_option maxRecDepth 100000 in
theorem c_X8_init {g : mm_G} {l : Launch} (hst : l.stackTraces = false) {d : Nat} (a n : Nat) (M : Nat → mm_C) (ha : a < n) (hm : M a = .inr (8, [.null, .null, .null, .int 0, .null, .null])) : mm_Cm g l yX8_init (.code yX8_init cX8_init 2 none) (d + 1) 704 6610 [.ref a] (M, n, false) (fun v S' => q_X8_init M a n v S') := by
  refine mm_Cm_of hst (by decide) (Nat.le_of_ble_eq_true rfl) ?_
  show mm_V g l RX8 "<init>" cX8_init 2 none [] (d + 1) 704 6610 _ 0 [some (.ref a), none] [] (M, n, false) 0 0
  refine mm_aload_n dX8_init_0 rfl rfl ?_
  refine mm_oinit kM_X8_5 wO_i wO_c (Nat.le_of_ble_eq_true rfl) dX8_init_1 ?_
  refine mm_aload_n dX8_init_4 rfl rfl ?_
  refine mm_sipush (v := 700) dX8_init_5 (by decide) ?_
  refine mm_newq3 (n1 := n + 1) (t := 5) (N := 700) (fun _ => rfl) (Or.inr rfl) kC_X8_13 (by decide) rfl (by decide) (by omega) (by omega) dX8_init_8 rfl ?_
  refine mm_putF3 (ci := 8) (fs1 := [.ref n, .null, .null, .int 0, .null, .null]) in_X8 tyX8_ok nmX8 rfl (k := 0) (by decide) rfl rfl rfl rfl kF_X8_15 dX8_init_11 (mm_fit_arr _ _) (mm_upN (by omega) hm) (by first | omega | (dsimp only; omega)) (Nat.le_of_ble_eq_true rfl) rfl ?_
  refine mm_iconst (v := 0) dX8_init_14 (by decide) ?_
  refine mm_istore_n [some (.ref a), some (.int 0)] dX8_init_15 (by decide) rfl ?_
  exact lp_X8_init hst M a n ha 700 0 rfl (fun _ => none) _ (mm_up_s) ((mm_upN (by omega) mm_up_s)) (fun i h => absurd h (Nat.not_lt_zero i)) (fun i h => absurd h (Nat.not_lt_zero i)) (fun x h1 h2 => mm_upN (by omega) (mm_upN (by omega) (rfl)))

def q_X10_init (M0 : Nat → mm_C) (a n t : Nat) (v : Option Value) (S' : mm_S) : Prop := v = none ∧ S'.2 = (n + 4, false) ∧ S'.1 a = .inr (10, [.ref t, .ref n, .ref (n + 1), .ref (n + 2), .ref (n + 3), .int 0, .int 0, .int 0]) ∧ S'.1 n = .inl (0, 701, .inl (fun _ => 0)) ∧ S'.1 (n + 1) = .inl (0, 701, .inl (fun _ => 0)) ∧ S'.1 (n + 2) = .inl (0, 701, .inl (fun _ => 0)) ∧ S'.1 (n + 3) = .inl (1, 701, .inr (.inl (fun _ => 0))) ∧ ∀ j, j < n → j ≠ a → S'.1 j = M0 j

set_option maxHeartbeats 4000000 in
set_option maxRecDepth 100000 in
theorem c_X10_init {g : mm_G} {l : Launch} (hst : l.stackTraces = false) {d : Nat} (a n t : Nat) (M : Nat → mm_C) (ha : a < n) (hm : M a = .inr (10, [.null, .null, .null, .null, .null, .int 0, .int 0, .int 0])) : mm_Cm g l yX10_init (.code yX10_init cX10_init 3 none) d 4 2804 [.ref a, .ref t] (M, n, false) (fun v S' => q_X10_init M a n t v S') := by
  refine mm_Cm_of hst (by decide) (Nat.le_of_ble_eq_true rfl) ?_
  show mm_V g l RX10 "<init>" cX10_init 3 none [] d 4 2804 _ 0 [some (.ref a), some (.ref t), none] [] (M, n, false) 0 0
  refine mm_aload_n dX10_init_0 rfl rfl ?_
  refine mm_oinit kM_X10_3 wO_i wO_c (Nat.le_of_ble_eq_true rfl) dX10_init_1 ?_
  refine mm_aload_n dX10_init_4 rfl rfl ?_
  refine mm_aload_n dX10_init_5 rfl rfl ?_
  refine mm_putF3 (ci := 10) (fs1 := [.ref t, .null, .null, .null, .null, .int 0, .int 0, .int 0]) in_X10 tyX10_ok nmX10 rfl (k := 0) (by decide) rfl rfl rfl rfl kF_X10_9 dX10_init_6 (mm_fit_ref _ _) hm (by first | omega | (dsimp only; omega)) (Nat.le_of_ble_eq_true rfl) rfl ?_
  refine mm_sipush (v := 701) dX10_init_9 (by decide) ?_
  refine mm_istore_n [some (.ref a), some (.ref t), some (.int 701)] dX10_init_12 (by decide) rfl ?_
  refine mm_aload_n dX10_init_13 rfl rfl ?_
  refine mm_iload_n dX10_init_14 rfl ?_
  refine mm_newa3 (atype := .int) (n1 := n + 1) (t := 0) (N := 701) (cl := .inl (0, 701, .inl (fun _ => 0))) (a0 := (701, .inl (fun _ => 0))) (fun _ => rfl) (fun _ => rfl) wA_int rfl (fun _ => rfl) (by decide) rfl (by decide) (by omega) (by omega) dX10_init_15 rfl ?_
  refine mm_putF3 (ci := 10) (fs1 := [.ref t, .ref n, .null, .null, .null, .int 0, .int 0, .int 0]) in_X10 tyX10_ok nmX10 rfl (k := 1) (by decide) rfl rfl rfl rfl kF_X10_15 dX10_init_17 (mm_fit_arr _ _) (mm_upN (by omega) mm_up_s) (by first | omega | (dsimp only; omega)) (Nat.le_of_ble_eq_true rfl) rfl ?_
  refine mm_aload_n dX10_init_20 rfl rfl ?_
  refine mm_iload_n dX10_init_21 rfl ?_
  refine mm_newa3 (atype := .int) (n1 := n + 2) (t := 0) (N := 701) (cl := .inl (0, 701, .inl (fun _ => 0))) (a0 := (701, .inl (fun _ => 0))) (fun _ => rfl) (fun _ => rfl) wA_int rfl (fun _ => rfl) (by decide) rfl (by decide) (by omega) (by omega) dX10_init_22 rfl ?_
  refine mm_putF3 (ci := 10) (fs1 := [.ref t, .ref n, .ref (n + 1), .null, .null, .int 0, .int 0, .int 0]) in_X10 tyX10_ok nmX10 rfl (k := 2) (by decide) rfl rfl rfl rfl kF_X10_19 dX10_init_24 (mm_fit_arr _ _) (mm_upN (by omega) mm_up_s) (by first | omega | (dsimp only; omega)) (Nat.le_of_ble_eq_true rfl) rfl ?_
  refine mm_aload_n dX10_init_27 rfl rfl ?_
  refine mm_iload_n dX10_init_28 rfl ?_
  refine mm_newa3 (atype := .int) (n1 := n + 3) (t := 0) (N := 701) (cl := .inl (0, 701, .inl (fun _ => 0))) (a0 := (701, .inl (fun _ => 0))) (fun _ => rfl) (fun _ => rfl) wA_int rfl (fun _ => rfl) (by decide) rfl (by decide) (by omega) (by omega) dX10_init_29 rfl ?_
  refine mm_putF3 (ci := 10) (fs1 := [.ref t, .ref n, .ref (n + 1), .ref (n + 2), .null, .int 0, .int 0, .int 0]) in_X10 tyX10_ok nmX10 rfl (k := 3) (by decide) rfl rfl rfl rfl kF_X10_22 dX10_init_31 (mm_fit_arr _ _) (mm_upN (by omega) mm_up_s) (by first | omega | (dsimp only; omega)) (Nat.le_of_ble_eq_true rfl) rfl ?_
  refine mm_aload_n dX10_init_34 rfl rfl ?_
  refine mm_iload_n dX10_init_35 rfl ?_
  refine mm_newa3 (atype := .long) (n1 := n + 4) (t := 1) (N := 701) (cl := .inl (1, 701, .inr (.inl (fun _ => 0)))) (a0 := (701, .inr (.inl (fun _ => 0)))) (fun _ => rfl) (fun _ => rfl) wA_long rfl (fun _ => rfl) (by decide) rfl (by decide) (by omega) (by omega) dX10_init_36 rfl ?_
  refine mm_putF3 (ci := 10) (fs1 := [.ref t, .ref n, .ref (n + 1), .ref (n + 2), .ref (n + 3), .int 0, .int 0, .int 0]) in_X10 tyX10_ok nmX10 rfl (k := 4) (by decide) rfl rfl rfl rfl kF_X10_25 dX10_init_38 (mm_fit_arr _ _) (mm_upN (by omega) mm_up_s) (by first | omega | (dsimp only; omega)) (Nat.le_of_ble_eq_true rfl) rfl ?_
  refine mm_vret dX10_init_41 rfl ?_ (by omega) (by omega)
  exact ⟨rfl, rfl, mm_up_s, (mm_upN (by omega) (mm_upN (by omega) (mm_upN (by omega) (mm_upN (by omega) (mm_upN (by omega) (mm_upN (by omega) (mm_upN (by omega) mm_up_s))))))), (mm_upN (by omega) (mm_upN (by omega) (mm_upN (by omega) (mm_upN (by omega) (mm_upN (by omega) mm_up_s))))), (mm_upN (by omega) (mm_upN (by omega) (mm_upN (by omega) mm_up_s))), (mm_upN (by omega) mm_up_s), fun x h1 h2 => mm_upN (by omega) (mm_upN (by omega) (mm_upN (by omega) (mm_upN (by omega) (mm_upN (by omega) (mm_upN (by omega) (mm_upN (by omega) (mm_upN (by omega) (mm_upN (by omega) (rfl)))))))))⟩

set_option maxHeartbeats 4000000 in
set_option maxRecDepth 100000 in
theorem c_X5_init {g : mm_G} {l : Launch} (hst : l.stackTraces = false) {d : Nat} (a n s t : Nat) (M : Nat → mm_C) (ha : a < n) (hm : M a = .inr (5, [.null, .null, .null, .null, .null, .int 0, .int 0, .int 0])) : mm_Cm g l yX5_init (.code yX5_init cX5_init 3 none) d 0 0 [.ref a, .ref s, .ref t] (M, n, false) (fun v S' => v = none ∧ S'.2 = (n, false) ∧ S'.1 a = .inr (5, [.ref s, .ref t, .null, .null, .null, .int 0, .int 0, .int 0]) ∧ ∀ j, j ≠ a → S'.1 j = M j) := by
  refine mm_Cm_of hst (by decide) (Nat.le_of_ble_eq_true rfl) ?_
  show mm_V g l RX5 "<init>" cX5_init 3 none [] d 0 0 _ 0 [some (.ref a), some (.ref s), some (.ref t)] [] (M, n, false) 0 0
  refine mm_aload_n dX5_init_0 rfl rfl ?_
  refine mm_oinit kM_X5_3 wO_i wO_c (Nat.le_of_ble_eq_true rfl) dX5_init_1 ?_
  refine mm_aload_n dX5_init_4 rfl rfl ?_
  refine mm_aload_n dX5_init_5 rfl rfl ?_
  refine mm_putF3 (ci := 5) (fs1 := [.ref s, .null, .null, .null, .null, .int 0, .int 0, .int 0]) in_X5 tyX5_ok nmX5 rfl (k := 0) (by decide) rfl rfl rfl rfl kF_X5_9 dX5_init_6 (mm_fit_ref _ _) hm (by first | omega | (dsimp only; omega)) (Nat.le_of_ble_eq_true rfl) rfl ?_
  refine mm_aload_n dX5_init_9 rfl rfl ?_
  refine mm_aload_n dX5_init_10 rfl rfl ?_
  refine mm_putF3 (ci := 5) (fs1 := [.ref s, .ref t, .null, .null, .null, .int 0, .int 0, .int 0]) in_X5 tyX5_ok nmX5 rfl (k := 1) (by decide) rfl rfl rfl rfl kF_X5_15 dX5_init_11 (mm_fit_ref _ _) mm_up_s (by first | omega | (dsimp only; omega)) (Nat.le_of_ble_eq_true rfl) rfl ?_
  refine mm_vret dX5_init_14 rfl ?_ (by omega) (by omega)
  exact ⟨rfl, rfl, mm_up_s, fun x h2 => mm_upN h2 (mm_upN h2 (rfl))⟩

set_option maxHeartbeats 4000000 in
set_option maxRecDepth 100000 in
theorem c_X9_init {g : mm_G} {l : Launch} (hst : l.stackTraces = false) {d : Nat} (a n s t u : Nat) (M : Nat → mm_C) (ha : a < n) (hm : M a = .inr (9, [.null, .null, .null, .int 0, .long 0, .int 0])) : mm_Cm g l yX9_init (.code yX9_init cX9_init 4 none) d 0 0 [.ref a, .ref s, .ref t, .ref u] (M, n, false) (fun v S' => v = none ∧ S'.2 = (n, false) ∧ S'.1 a = .inr (9, [.ref s, .ref t, .ref u, .int 0, .long 0, .int 0]) ∧ ∀ j, j ≠ a → S'.1 j = M j) := by
  refine mm_Cm_of hst (by decide) (Nat.le_of_ble_eq_true rfl) ?_
  show mm_V g l RX9 "<init>" cX9_init 4 none [] d 0 0 _ 0 [some (.ref a), some (.ref s), some (.ref t), some (.ref u)] [] (M, n, false) 0 0
  refine mm_aload_n dX9_init_0 rfl rfl ?_
  refine mm_oinit kM_X9_3 wO_i wO_c (Nat.le_of_ble_eq_true rfl) dX9_init_1 ?_
  refine mm_aload_n dX9_init_4 rfl rfl ?_
  refine mm_aload_n dX9_init_5 rfl rfl ?_
  refine mm_putF3 (ci := 9) (fs1 := [.ref s, .null, .null, .int 0, .long 0, .int 0]) in_X9 tyX9_ok nmX9 rfl (k := 0) (by decide) rfl rfl rfl rfl kF_X9_9 dX9_init_6 (mm_fit_ref _ _) hm (by first | omega | (dsimp only; omega)) (Nat.le_of_ble_eq_true rfl) rfl ?_
  refine mm_aload_n dX9_init_9 rfl rfl ?_
  refine mm_aload_n dX9_init_10 rfl rfl ?_
  refine mm_putF3 (ci := 9) (fs1 := [.ref s, .ref t, .null, .int 0, .long 0, .int 0]) in_X9 tyX9_ok nmX9 rfl (k := 1) (by decide) rfl rfl rfl rfl kF_X9_15 dX9_init_11 (mm_fit_ref _ _) mm_up_s (by first | omega | (dsimp only; omega)) (Nat.le_of_ble_eq_true rfl) rfl ?_
  refine mm_aload_n dX9_init_14 rfl rfl ?_
  refine mm_aload_n dX9_init_15 rfl rfl ?_
  refine mm_putF3 (ci := 9) (fs1 := [.ref s, .ref t, .ref u, .int 0, .long 0, .int 0]) in_X9 tyX9_ok nmX9 rfl (k := 2) (by decide) rfl rfl rfl rfl kF_X9_19 dX9_init_16 (mm_fit_ref _ _) mm_up_s (by first | omega | (dsimp only; omega)) (Nat.le_of_ble_eq_true rfl) rfl ?_
  refine mm_vret dX9_init_19 rfl ?_ (by omega) (by omega)
  exact ⟨rfl, rfl, mm_up_s, fun x h2 => mm_upN h2 (mm_upN h2 (mm_upN h2 (rfl)))⟩

set_option maxHeartbeats 4000000 in
set_option maxRecDepth 100000 in
theorem c_X7_init {g : mm_G} {l : Launch} (hst : l.stackTraces = false) {d : Nat} (a n s t u : Nat) (M : Nat → mm_C) (ha : a < n) (hm : M a = .inr (7, [.null, .null, .null, .null, .int 0, .int 0, .long 0])) : mm_Cm g l yX7_init (.code yX7_init cX7_init 4 none) d 1 20 [.ref a, .ref s, .ref t, .ref u] (M, n, false) (fun v S' => v = none ∧ S'.2 = (n + 1, false) ∧ S'.1 a = .inr (7, [.ref s, .ref t, .ref u, .ref n, .int 0, .int 0, .long 0]) ∧ S'.1 n = .inl (2, 20, .inl (fun _ => 0)) ∧ ∀ j, j < n → j ≠ a → S'.1 j = M j) := by
  refine mm_Cm_of hst (by decide) (Nat.le_of_ble_eq_true rfl) ?_
  show mm_V g l RX7 "<init>" cX7_init 4 none [] d 1 20 _ 0 [some (.ref a), some (.ref s), some (.ref t), some (.ref u)] [] (M, n, false) 0 0
  refine mm_aload_n dX7_init_0 rfl rfl ?_
  refine mm_oinit kM_X7_3 wO_i wO_c (Nat.le_of_ble_eq_true rfl) dX7_init_1 ?_
  refine mm_aload_n dX7_init_4 rfl rfl ?_
  refine mm_aload_n dX7_init_5 rfl rfl ?_
  refine mm_putF3 (ci := 7) (fs1 := [.ref s, .null, .null, .null, .int 0, .int 0, .long 0]) in_X7 tyX7_ok nmX7 rfl (k := 0) (by decide) rfl rfl rfl rfl kF_X7_9 dX7_init_6 (mm_fit_ref _ _) hm (by first | omega | (dsimp only; omega)) (Nat.le_of_ble_eq_true rfl) rfl ?_
  refine mm_aload_n dX7_init_9 rfl rfl ?_
  refine mm_aload_n dX7_init_10 rfl rfl ?_
  refine mm_putF3 (ci := 7) (fs1 := [.ref s, .ref t, .null, .null, .int 0, .int 0, .long 0]) in_X7 tyX7_ok nmX7 rfl (k := 1) (by decide) rfl rfl rfl rfl kF_X7_15 dX7_init_11 (mm_fit_ref _ _) mm_up_s (by first | omega | (dsimp only; omega)) (Nat.le_of_ble_eq_true rfl) rfl ?_
  refine mm_aload_n dX7_init_14 rfl rfl ?_
  refine mm_aload_n dX7_init_15 rfl rfl ?_
  refine mm_putF3 (ci := 7) (fs1 := [.ref s, .ref t, .ref u, .null, .int 0, .int 0, .long 0]) in_X7 tyX7_ok nmX7 rfl (k := 2) (by decide) rfl rfl rfl rfl kF_X7_19 dX7_init_16 (mm_fit_ref _ _) mm_up_s (by first | omega | (dsimp only; omega)) (Nat.le_of_ble_eq_true rfl) rfl ?_
  refine mm_aload_n dX7_init_19 rfl rfl ?_
  refine mm_bipush (v := 20) dX7_init_20 (by decide) ?_
  refine mm_newa3 (atype := .byte) (n1 := n + 1) (t := 2) (N := 20) (cl := .inl (2, 20, .inl (fun _ => 0))) (a0 := (20, .inl (fun _ => 0))) (fun _ => rfl) (fun _ => rfl) wA_byte rfl (fun _ => rfl) (by decide) rfl (by decide) (by omega) (by omega) dX7_init_22 rfl ?_
  refine mm_putF3 (ci := 7) (fs1 := [.ref s, .ref t, .ref u, .ref n, .int 0, .int 0, .long 0]) in_X7 tyX7_ok nmX7 rfl (k := 3) (by decide) rfl rfl rfl rfl kF_X7_22 dX7_init_24 (mm_fit_arr _ _) (mm_upN (by omega) mm_up_s) (by first | omega | (dsimp only; omega)) (Nat.le_of_ble_eq_true rfl) rfl ?_
  refine mm_vret dX7_init_27 rfl ?_ (by omega) (by omega)
  exact ⟨rfl, rfl, mm_up_s, (mm_upN (by omega) mm_up_s), fun x h1 h2 => mm_upN (by omega) (mm_upN (by omega) (mm_upN (by omega) (mm_upN (by omega) (mm_upN (by omega) (rfl)))))⟩

set_option maxHeartbeats 4000000 in
set_option maxRecDepth 100000 in
theorem c_X1_init {g : mm_G} {l : Launch} (hst : l.stackTraces = false) {d : Nat} (a n s : Nat) (M : Nat → mm_C) (ha : a < n) (hm : M a = .inr (1, [.null, .null, .null, .null, .int 0])) : mm_Cm g l yX1_init (.code yX1_init cX1_init 2 none) d 3 768 [.ref a, .ref s] (M, n, false) (fun v S' => v = none ∧ S'.2 = (n + 3, false) ∧ S'.1 a = .inr (1, [.ref s, .ref n, .ref (n + 1), .ref (n + 2), .int 0]) ∧ S'.1 n = .inl (4, 256, .inr (.inr (fun _ => none))) ∧ S'.1 (n + 1) = .inl (4, 256, .inr (.inr (fun _ => none))) ∧ S'.1 (n + 2) = .inl (3, 256, .inl (fun _ => 0)) ∧ ∀ j, j < n → j ≠ a → S'.1 j = M j) := by
  refine mm_Cm_of hst (by decide) (Nat.le_of_ble_eq_true rfl) ?_
  show mm_V g l RX1 "<init>" cX1_init 2 none [] d 3 768 _ 0 [some (.ref a), some (.ref s)] [] (M, n, false) 0 0
  refine mm_aload_n dX1_init_0 rfl rfl ?_
  refine mm_oinit kM_X1_3 wO_i wO_c (Nat.le_of_ble_eq_true rfl) dX1_init_1 ?_
  refine mm_aload_n dX1_init_4 rfl rfl ?_
  refine mm_aload_n dX1_init_5 rfl rfl ?_
  refine mm_putF3 (ci := 1) (fs1 := [.ref s, .null, .null, .null, .int 0]) in_X1 tyX1_ok nmX1 rfl (k := 0) (by decide) rfl rfl rfl rfl kF_X1_9 dX1_init_6 (mm_fit_ref _ _) hm (by first | omega | (dsimp only; omega)) (Nat.le_of_ble_eq_true rfl) rfl ?_
  refine mm_aload_n dX1_init_9 rfl rfl ?_
  refine mm_sipush (v := 256) dX1_init_10 (by decide) ?_
  refine mm_newq3 (n1 := n + 1) (t := 4) (N := 256) (fun _ => rfl) (Or.inl rfl) kC_X1_15 (by decide) rfl (by decide) (by omega) (by omega) dX1_init_13 rfl ?_
  refine mm_putF3 (ci := 1) (fs1 := [.ref s, .ref n, .null, .null, .int 0]) in_X1 tyX1_ok nmX1 rfl (k := 1) (by decide) rfl rfl rfl rfl kF_X1_17 dX1_init_16 (mm_fit_arr _ _) (mm_upN (by omega) mm_up_s) (by first | omega | (dsimp only; omega)) (Nat.le_of_ble_eq_true rfl) rfl ?_
  refine mm_aload_n dX1_init_19 rfl rfl ?_
  refine mm_sipush (v := 256) dX1_init_20 (by decide) ?_
  refine mm_newq3 (n1 := n + 2) (t := 4) (N := 256) (fun _ => rfl) (Or.inl rfl) kC_X1_15 (by decide) rfl (by decide) (by omega) (by omega) dX1_init_23 rfl ?_
  refine mm_putF3 (ci := 1) (fs1 := [.ref s, .ref n, .ref (n + 1), .null, .int 0]) in_X1 tyX1_ok nmX1 rfl (k := 2) (by decide) rfl rfl rfl rfl kF_X1_21 dX1_init_26 (mm_fit_arr _ _) (mm_upN (by omega) mm_up_s) (by first | omega | (dsimp only; omega)) (Nat.le_of_ble_eq_true rfl) rfl ?_
  refine mm_aload_n dX1_init_29 rfl rfl ?_
  refine mm_sipush (v := 256) dX1_init_30 (by decide) ?_
  refine mm_newa3 (atype := .boolean) (n1 := n + 3) (t := 3) (N := 256) (cl := .inl (3, 256, .inl (fun _ => 0))) (a0 := (256, .inl (fun _ => 0))) (fun _ => rfl) (fun _ => rfl) wA_boolean rfl (fun _ => rfl) (by decide) rfl (by decide) (by omega) (by omega) dX1_init_33 rfl ?_
  refine mm_putF3 (ci := 1) (fs1 := [.ref s, .ref n, .ref (n + 1), .ref (n + 2), .int 0]) in_X1 tyX1_ok nmX1 rfl (k := 3) (by decide) rfl rfl rfl rfl kF_X1_24 dX1_init_35 (mm_fit_arr _ _) (mm_upN (by omega) mm_up_s) (by first | omega | (dsimp only; omega)) (Nat.le_of_ble_eq_true rfl) rfl ?_
  refine mm_vret dX1_init_38 rfl ?_ (by omega) (by omega)
  exact ⟨rfl, rfl, mm_up_s, (mm_upN (by omega) (mm_upN (by omega) (mm_upN (by omega) (mm_upN (by omega) (mm_upN (by omega) mm_up_s))))), (mm_upN (by omega) (mm_upN (by omega) (mm_upN (by omega) mm_up_s))), (mm_upN (by omega) mm_up_s), fun x h1 h2 => mm_upN (by omega) (mm_upN (by omega) (mm_upN (by omega) (mm_upN (by omega) (mm_upN (by omega) (mm_upN (by omega) (mm_upN (by omega) (rfl)))))))⟩

set_option maxHeartbeats 4000000 in
set_option maxRecDepth 100000 in
theorem c_X6_text {g : mm_G} {l : Launch} (hst : l.stackTraces = false) {d : Nat} (a n : Nat) (z : Bool) (M : Nat → mm_C) (t it ct : Nat) (u b : Int32) (ha : a < n) (hm : M a = .inr (6, [.ref t, .ref it, .ref ct, .int u, .int b])) : mm_Cm g l yX6_text (.code yX6_text cX6_text 1 (some (.object "ProtoDesk$Bytes"))) d 0 0 [.ref a] (M, n, z) (fun v S' => v = some (.ref t) ∧ S' = (M, n, z)) := by
  refine mm_Cm_of hst (by decide) (Nat.le_of_ble_eq_true rfl) ?_
  show mm_V g l RX6 "text" cX6_text 1 (some (.object "ProtoDesk$Bytes")) [] d 0 0 _ 0 [some (.ref a)] [] (M, n, z) 0 0
  refine mm_aload_n dX6_text_0 rfl rfl ?_
  refine mm_get3 (ci := 6) in_X6 rfl (k := 0) (by decide) rfl kF_X6_14 dX6_text_1 hm (by first | omega | (dsimp only; omega)) rfl ?_
  refine mm_aret (a := some t) dX6_text_4 rfl ?_ (by omega) (by omega)
  exact ⟨rfl, rfl⟩
end
section
def q_X2_init (M0 : Nat → mm_C) (a n : Nat) (v : Option Value) (S' : mm_S) : Prop := v = none ∧ S'.2 = (n + 191, false) ∧ S'.1 a = .inr (2, [.ref n, .ref (n + 185), .ref (n + 190), .int 0, .int 0]) ∧ S'.1 n = .inr (6, [.ref (n + 1), .ref (n + 3), .ref (n + 184), .int 0, .int 0]) ∧ S'.1 (n + 1) = .inr (0, [.ref (n + 2), .int 0, .int 0]) ∧ S'.1 (n + 2) = .inl (2, 700, .inl (fun _ => 0)) ∧ S'.1 (n + 184) = .inl (0, 5, .inl (fun _ => 0)) ∧ S'.1 (n + 185) = .inr (10, [.ref (n + 1), .ref (n + 186), .ref (n + 187), .ref (n + 188), .ref (n + 189), .int 0, .int 0, .int 0]) ∧ S'.1 (n + 186) = .inl (0, 701, .inl (fun _ => 0)) ∧ S'.1 (n + 187) = .inl (0, 701, .inl (fun _ => 0)) ∧ S'.1 (n + 188) = .inl (0, 701, .inl (fun _ => 0)) ∧ S'.1 (n + 189) = .inl (1, 701, .inr (.inl (fun _ => 0))) ∧ S'.1 (n + 190) = .inr (5, [.ref n, .ref (n + 185), .null, .null, .null, .int 0, .int 0, .int 0]) ∧
  (∃ f : Nat → Option Nat, S'.1 (n + 3) = .inl (4, 180, .inr (.inr f)) ∧ ∀ i, i < 180 → f i = some (n + 4 + i)) ∧ (∀ i, i < 180 → S'.1 (n + 4 + i) = IT0) ∧ ∀ j, j < n → j ≠ a → S'.1 j = M0 j

set_option maxHeartbeats 4000000 in
set_option maxRecDepth 100000 in
theorem c_X2_init {g : mm_G} {l : Launch} (hst : l.stackTraces = false) {d : Nat} (a n : Nat) (M : Nat → mm_C) (ha : a < n) (hm : M a = .inr (2, [.null, .null, .null, .int 0, .int 0])) : mm_Cm g l yX2_init (.code yX2_init cX2_init 1 none) (d + 2) 191 6773 [.ref a] (M, n, false) (fun v S' => q_X2_init M a n v S') := by
  refine mm_Cm_of hst (by decide) (Nat.le_of_ble_eq_true rfl) ?_
  show mm_V g l RX2 "<init>" cX2_init 1 none [] (d + 2) 191 6773 _ 0 [some (.ref a)] [] (M, n, false) 0 0
  refine mm_aload_n dX2_init_0 rfl rfl ?_
  refine mm_oinit kM_X2_3 wO_i wO_c (Nat.le_of_ble_eq_true rfl) dX2_init_1 ?_
  refine mm_aload_n dX2_init_4 rfl rfl ?_
  refine mm_new3 (n1 := n + 1) (ci := 6) (fs := [.null, .null, .null, .int 0, .int 0]) in_X6 tyX6_ok rfl kC_X2_9 wn_X6 wi_X6 (by decide) (fun _ => rfl) (by omega) (by omega) dX2_init_5 rfl ?_
  refine mm_dup dX2_init_8 rfl ?_
  refine mm_callI wM_X6_init rfl kM_X2_11 wI_X6_init dX2_init_9 (c_X6_init hst _ _ _ (by omega) mm_up_s) rfl rfl (Nat.le_of_ble_eq_true rfl) (by omega) (by omega) (fun v S9 hq => ?_)
  obtain ⟨M1, z1⟩ := S9
  obtain ⟨rfl, hz1, hS1_a, hS1_t, hS1_r, ⟨fi1, hS1_i, hfi1⟩, hS1_I, hS1_c, hS1_F⟩ := hq
  cases hz1
  refine ⟨fun _ => ⟨rfl, rfl⟩, ?_⟩
  refine mm_putF3 (ci := 2) (fs1 := [.ref n, .null, .null, .int 0, .int 0]) in_X2 tyX2_ok nmX2 rfl (k := 0) (by decide) rfl rfl rfl rfl kF_X2_12 dX2_init_12 (mm_fit_ref _ _) (mm_frN (hS1_F _ (by omega) (by omega)) (mm_upN (by omega) hm)) (by first | omega | (dsimp only; omega)) (Nat.le_of_ble_eq_true rfl) rfl ?_
  refine mm_aload_n dX2_init_15 rfl rfl ?_
  refine mm_new3 (n1 := n + 186) (ci := 10) (fs := [.null, .null, .null, .null, .null, .int 0, .int 0, .int 0]) in_X10 tyX10_ok rfl kC_X2_18 wn_X10 wi_X10 (by decide) (fun _ => rfl) (by omega) (by omega) dX2_init_16 rfl ?_
  refine mm_dup dX2_init_19 rfl ?_
  refine mm_aload_n dX2_init_20 rfl rfl ?_
  refine mm_get3 (ci := 2) in_X2 rfl (k := 0) (by decide) rfl kF_X2_12 dX2_init_21 (mm_upN (by omega) mm_up_s) (by first | omega | (dsimp only; omega)) rfl ?_
  refine mm_callV wM_X6_text kM_X2_20 wI_X6_text wS_X6_text dX2_init_24 (c_X6_text hst _ _ _ _ _ _ _ _ _ (by omega) (mm_upN (by omega) (mm_upN (by omega) hS1_a))) (mm_upN (by omega) (mm_upN (by omega) hS1_a)) (by first | omega | (dsimp only; omega)) rfl rfl rfl (Nat.le_of_ble_eq_true rfl) (by omega) (by omega) (fun v S9 hq => ?_)
  obtain ⟨rfl, rfl⟩ := hq
  refine ⟨fun h => ⟨h, rfl⟩, ?_⟩
  refine mm_callI wM_X10_init rfl kM_X2_24 wI_X10_init dX2_init_27 (c_X10_init hst _ _ _ _ (by omega) mm_up_s) rfl rfl (Nat.le_of_ble_eq_true rfl) (by omega) (by omega) (fun v S9 hq => ?_)
  obtain ⟨M2, z2⟩ := S9
  obtain ⟨rfl, hz2, hW2_a, hW2_k, hW2_s, hW2_e, hW2_v, hW2_F⟩ := hq
  cases hz2
  refine ⟨fun _ => ⟨rfl, rfl⟩, ?_⟩
  refine mm_putF3 (ci := 2) (fs1 := [.ref n, .ref (n + 185), .null, .int 0, .int 0]) in_X2 tyX2_ok nmX2 rfl (k := 1) (by decide) rfl rfl rfl rfl kF_X2_27 dX2_init_30 (mm_fit_ref _ _) (mm_frN (hW2_F _ (by omega) (by omega)) (mm_upN (by omega) mm_up_s)) (by first | omega | (dsimp only; omega)) (Nat.le_of_ble_eq_true rfl) rfl ?_
  refine mm_aload_n dX2_init_33 rfl rfl ?_
  refine mm_new3 (n1 := n + 191) (ci := 5) (fs := [.null, .null, .null, .null, .null, .int 0, .int 0, .int 0]) in_X5 tyX5_ok rfl kC_X2_31 wn_X5 wi_X5 (by decide) (fun _ => rfl) (by omega) (by omega) dX2_init_34 rfl ?_
  refine mm_dup dX2_init_37 rfl ?_
  refine mm_aload_n dX2_init_38 rfl rfl ?_
  refine mm_get3 (ci := 2) in_X2 rfl (k := 0) (by decide) rfl kF_X2_12 dX2_init_39 (mm_upN (by omega) mm_up_s) (by first | omega | (dsimp only; omega)) rfl ?_
  refine mm_aload_n dX2_init_42 rfl rfl ?_
  refine mm_get3 (ci := 2) in_X2 rfl (k := 1) (by decide) rfl kF_X2_27 dX2_init_43 (mm_upN (by omega) mm_up_s) (by first | omega | (dsimp only; omega)) rfl ?_
  refine mm_callI wM_X5_init rfl kM_X2_33 wI_X5_init dX2_init_46 (c_X5_init hst _ _ _ _ _ (by omega) mm_up_s) rfl rfl (Nat.le_of_ble_eq_true rfl) (by omega) (by omega) (fun v S9 hq => ?_)
  obtain ⟨M3, z3⟩ := S9
  obtain ⟨rfl, hz3, hP3_a, hP3_F⟩ := hq
  cases hz3
  refine ⟨fun _ => ⟨rfl, rfl⟩, ?_⟩
  refine mm_putF3 (ci := 2) (fs1 := [.ref n, .ref (n + 185), .ref (n + 190), .int 0, .int 0]) in_X2 tyX2_ok nmX2 rfl (k := 2) (by decide) rfl rfl rfl rfl kF_X2_36 dX2_init_49 (mm_fit_ref _ _) (mm_frN ((fun x (_ : x < x + 1) h => hP3_F x h) _ (by omega) (by omega)) (mm_upN (by omega) mm_up_s)) (by first | omega | (dsimp only; omega)) (Nat.le_of_ble_eq_true rfl) rfl ?_
  refine mm_vret dX2_init_52 rfl ?_ (by omega) (by omega)
  exact ⟨rfl, rfl, mm_up_s, (mm_upN (by omega) (mm_frN ((fun x (_ : x < x + 1) h => hP3_F x h) _ (by omega) (by omega)) (mm_upN (by omega) (mm_upN (by omega) (mm_frN (hW2_F _ (by omega) (by omega)) (mm_upN (by omega) (mm_upN (by omega) hS1_a))))))), (mm_upN (by omega) (mm_frN ((fun x (_ : x < x + 1) h => hP3_F x h) _ (by omega) (by omega)) (mm_upN (by omega) (mm_upN (by omega) (mm_frN (hW2_F _ (by omega) (by omega)) (mm_upN (by omega) (mm_upN (by omega) hS1_t))))))), (mm_upN (by omega) (mm_frN ((fun x (_ : x < x + 1) h => hP3_F x h) _ (by omega) (by omega)) (mm_upN (by omega) (mm_upN (by omega) (mm_frN (hW2_F _ (by omega) (by omega)) (mm_upN (by omega) (mm_upN (by omega) hS1_r))))))), (mm_upN (by omega) (mm_frN ((fun x (_ : x < x + 1) h => hP3_F x h) _ (by omega) (by omega)) (mm_upN (by omega) (mm_upN (by omega) (mm_frN (hW2_F _ (by omega) (by omega)) (mm_upN (by omega) (mm_upN (by omega) hS1_c))))))), (mm_upN (by omega) (mm_frN ((fun x (_ : x < x + 1) h => hP3_F x h) _ (by omega) (by omega)) (mm_upN (by omega) (mm_upN (by omega) hW2_a)))), (mm_upN (by omega) (mm_frN ((fun x (_ : x < x + 1) h => hP3_F x h) _ (by omega) (by omega)) (mm_upN (by omega) (mm_upN (by omega) hW2_k)))), (mm_upN (by omega) (mm_frN ((fun x (_ : x < x + 1) h => hP3_F x h) _ (by omega) (by omega)) (mm_upN (by omega) (mm_upN (by omega) hW2_s)))), (mm_upN (by omega) (mm_frN ((fun x (_ : x < x + 1) h => hP3_F x h) _ (by omega) (by omega)) (mm_upN (by omega) (mm_upN (by omega) hW2_e)))), (mm_upN (by omega) (mm_frN ((fun x (_ : x < x + 1) h => hP3_F x h) _ (by omega) (by omega)) (mm_upN (by omega) (mm_upN (by omega) hW2_v)))), (mm_upN (by omega) hP3_a), ⟨_, (mm_upN (by omega) (mm_frN ((fun x (_ : x < x + 1) h => hP3_F x h) _ (by omega) (by omega)) (mm_upN (by omega) (mm_upN (by omega) (mm_frN (hW2_F _ (by omega) (by omega)) (mm_upN (by omega) (mm_upN (by omega) hS1_i))))))), fun i hi => (hfi1 i hi).trans (by rw [show n + 1 + 3 + i = n + 4 + i by omega])⟩, fun i hi => (show _ = _ from by rw [show n + 4 + i = n + 1 + 3 + i by omega]; exact mm_upN (by omega) (mm_frN ((fun x (_ : x < x + 1) h => hP3_F x h) _ (by omega) (by omega)) (mm_upN (by omega) (mm_upN (by omega) (mm_frN (hW2_F _ (by omega) (by omega)) (mm_upN (by omega) (mm_upN (by omega) (hS1_I i hi)))))))), fun x h1 h2 => mm_upN (by omega) (mm_frN ((fun x (_ : x < x + 1) h => hP3_F x h) _ (by omega) (by omega)) (mm_upN (by omega) (mm_upN (by omega) (mm_frN (hW2_F _ (by omega) (by omega)) (mm_upN (by omega) (mm_upN (by omega) (mm_frN (hS1_F _ (by omega) (by omega)) (mm_upN (by omega) (rfl)))))))))⟩
end
section
/-- a fresh desk, its object at 0, its cells up to 1100 -/
def pd_new (M : Nat → mm_C) : Prop := M 0 = .inr (11, [.ref 1, .ref 3, .ref 5, .ref 197, .ref 389, .ref 1094, .ref 1095, .ref 1097, .int (-1)]) ∧ M 1 = .inr (0, [.ref 2, .int 0, .int 0]) ∧ M 2 = .inl (2, 700, .inl (fun _ => 0)) ∧ M 3 = .inr (0, [.ref 4, .int 0, .int 0]) ∧ M 4 = .inl (2, 4000, .inl (fun _ => 0)) ∧ M 5 = .inr (2, [.ref 6, .ref 191, .ref 196, .int 0, .int 0]) ∧ M 6 = .inr (6, [.ref 7, .ref 9, .ref 190, .int 0, .int 0]) ∧ M 7 = .inr (0, [.ref 8, .int 0, .int 0]) ∧ M 8 = .inl (2, 700, .inl (fun _ => 0)) ∧ M 190 = .inl (0, 5, .inl (fun _ => 0)) ∧ M 191 = .inr (10, [.ref 7, .ref 192, .ref 193, .ref 194, .ref 195, .int 0, .int 0, .int 0]) ∧ M 192 = .inl (0, 701, .inl (fun _ => 0)) ∧ M 193 = .inl (0, 701, .inl (fun _ => 0)) ∧ M 194 = .inl (0, 701, .inl (fun _ => 0)) ∧ M 195 = .inl (1, 701, .inr (.inl (fun _ => 0))) ∧ M 196 = .inr (5, [.ref 6, .ref 191, .null, .null, .null, .int 0, .int 0, .int 0]) ∧ M 197 = .inr (2, [.ref 198, .ref 383, .ref 388, .int 0, .int 0]) ∧ M 198 = .inr (6, [.ref 199, .ref 201, .ref 382, .int 0, .int 0]) ∧ M 199 = .inr (0, [.ref 200, .int 0, .int 0]) ∧ M 200 = .inl (2, 700, .inl (fun _ => 0)) ∧ M 382 = .inl (0, 5, .inl (fun _ => 0)) ∧ M 383 = .inr (10, [.ref 199, .ref 384, .ref 385, .ref 386, .ref 387, .int 0, .int 0, .int 0]) ∧ M 384 = .inl (0, 701, .inl (fun _ => 0)) ∧ M 385 = .inl (0, 701, .inl (fun _ => 0)) ∧ M 386 = .inl (0, 701, .inl (fun _ => 0)) ∧ M 387 = .inl (1, 701, .inr (.inl (fun _ => 0))) ∧ M 388 = .inr (5, [.ref 198, .ref 383, .null, .null, .null, .int 0, .int 0, .int 0]) ∧ M 389 = .inr (8, [.ref 390, .ref 1091, .ref 1092, .int 0, .null, .null]) ∧ M 1091 = .inr (4, [.null, .null, .null, .null, .long 0, .int 0, .int 0]) ∧ M 1092 = .inr (0, [.ref 1093, .int 0, .int 0]) ∧ M 1093 = .inl (2, 1000, .inl (fun _ => 0)) ∧ M 1094 = .inr (9, [.ref 1, .ref 389, .ref 3, .int 0, .long 0, .int 0]) ∧ M 1095 = .inr (7, [.ref 1, .ref 389, .ref 3, .ref 1096, .int 0, .int 0, .long 0]) ∧ M 1096 = .inl (2, 20, .inl (fun _ => 0)) ∧ M 1097 = .inr (1, [.ref 3, .ref 1098, .ref 1099, .ref 1100, .int 0]) ∧ M 1098 = .inl (4, 256, .inr (.inr (fun _ => none))) ∧ M 1099 = .inl (4, 256, .inr (.inr (fun _ => none))) ∧ M 1100 = .inl (3, 256, .inl (fun _ => 0)) ∧
  (∃ f : Nat → Option Nat, M 9 = .inl (4, 180, .inr (.inr f)) ∧ ∀ i, i < 180 → f i = some (10 + i)) ∧ (∀ i, i < 180 → M (10 + i) = IT0) ∧ (∃ f : Nat → Option Nat, M 201 = .inl (4, 180, .inr (.inr f)) ∧ ∀ i, i < 180 → f i = some (202 + i)) ∧ (∀ i, i < 180 → M (202 + i) = IT0) ∧
  (∃ f : Nat → Option Nat, M 390 = .inl (5, 700, .inr (.inr f)) ∧ ∀ i, i < 700 → f i = some (391 + i)) ∧ (∀ i, i < 700 → M (391 + i) = ND0)

set_option maxHeartbeats 4000000 in
set_option maxRecDepth 100000 in
theorem c_X11_init {g : mm_G} {l : Launch} (hst : l.stackTraces = false) {d : Nat} (M : Nat → mm_C) (hm : M 0 = .inr (11, [.null, .null, .null, .null, .null, .null, .null, .null, .int 0])) : mm_Cm g l yX11_init (.code yX11_init cX11_init 1 none) (d + 3) 1100 25684 [.ref 0] (M, 1, false) (fun v S' => v = none ∧ S'.2 = (1101, false) ∧ pd_new S'.1) := by
  refine mm_Cm_of hst (by decide) (Nat.le_of_ble_eq_true rfl) ?_
  show mm_V g l RX11 "<init>" cX11_init 1 none [] (d + 3) 1100 25684 _ 0 [some (.ref 0)] [] (M, 1, false) 0 0
  refine mm_aload_n dX11_init_0 rfl rfl ?_
  refine mm_oinit kM_X11_1 wO_i wO_c (Nat.le_of_ble_eq_true rfl) dX11_init_1 ?_
  refine mm_aload_n dX11_init_4 rfl rfl ?_
  refine mm_new3 (n1 := 2) (ci := 0) (fs := [.null, .int 0, .int 0]) in_X0 tyX0_ok rfl kC_X11_7 wn_X0 wi_X0 (by decide) (fun _ => rfl) (by omega) (by omega) dX11_init_5 rfl ?_
  refine mm_dup dX11_init_8 rfl ?_
  refine mm_sipush (v := 700) dX11_init_9 (by decide) ?_
  refine mm_callI wM_X0_init rfl kM_X11_11 wI_X0_init dX11_init_12 (c_X0_init hst _ _ 700 _ 700 (by decide) rfl (by decide) (by omega) mm_up_s) rfl rfl (Nat.le_of_ble_eq_true rfl) (by omega) (by omega) (fun v S9 hq => ?_)
  obtain ⟨rfl, rfl⟩ := hq
  refine ⟨fun _ => ⟨rfl, rfl⟩, ?_⟩
  refine mm_putF3 (ci := 11) (fs1 := [.ref 1, .null, .null, .null, .null, .null, .null, .null, .int 0]) in_X11 tyX11_ok nmX11 rfl (k := 0) (by decide) rfl rfl rfl rfl kF_X11_14 dX11_init_15 (mm_fit_ref _ _) (mm_upN (by decide) (mm_upN (by decide) (mm_upN (by decide) hm))) (by first | omega | (dsimp only; omega)) (Nat.le_of_ble_eq_true rfl) rfl ?_
  refine mm_aload_n dX11_init_18 rfl rfl ?_
  refine mm_new3 (n1 := 4) (ci := 0) (fs := [.null, .int 0, .int 0]) in_X0 tyX0_ok rfl kC_X11_7 wn_X0 wi_X0 (by decide) (fun _ => rfl) (by omega) (by omega) dX11_init_19 rfl ?_
  refine mm_dup dX11_init_22 rfl ?_
  refine mm_sipush (v := 4000) dX11_init_23 (by decide) ?_
  refine mm_callI wM_X0_init rfl kM_X11_11 wI_X0_init dX11_init_26 (c_X0_init hst _ _ 4000 _ 4000 (by decide) rfl (by decide) (by omega) mm_up_s) rfl rfl (Nat.le_of_ble_eq_true rfl) (by omega) (by omega) (fun v S9 hq => ?_)
  obtain ⟨rfl, rfl⟩ := hq
  refine ⟨fun _ => ⟨rfl, rfl⟩, ?_⟩
  refine mm_putF3 (ci := 11) (fs1 := [.ref 1, .ref 3, .null, .null, .null, .null, .null, .null, .int 0]) in_X11 tyX11_ok nmX11 rfl (k := 1) (by decide) rfl rfl rfl rfl kF_X11_18 dX11_init_29 (mm_fit_ref _ _) (mm_upN (by decide) (mm_upN (by decide) (mm_upN (by decide) mm_up_s))) (by first | omega | (dsimp only; omega)) (Nat.le_of_ble_eq_true rfl) rfl ?_
  refine mm_aload_n dX11_init_32 rfl rfl ?_
  refine mm_new3 (n1 := 6) (ci := 2) (fs := [.null, .null, .null, .int 0, .int 0]) in_X2 tyX2_ok rfl kC_X11_21 wn_X2 wi_X2 (by decide) (fun _ => rfl) (by omega) (by omega) dX11_init_33 rfl ?_
  refine mm_dup dX11_init_36 rfl ?_
  refine mm_callI wM_X2_init rfl kM_X11_23 wI_X2_init dX11_init_37 (c_X2_init hst _ _ _ (by omega) mm_up_s) rfl rfl (Nat.le_of_ble_eq_true rfl) (by omega) (by omega) (fun v S9 hq => ?_)
  obtain ⟨M1, z1⟩ := S9
  obtain ⟨rfl, hz1, hC1_0, hC1_1, hC1_2, hC1_3, hC1_4, hC1_5, hC1_6, hC1_7, hC1_8, hC1_9, hC1_10, ⟨fi1, hC1_i, hfi1⟩, hC1_I, hC1_F⟩ := hq
  cases hz1
  refine ⟨fun _ => ⟨rfl, rfl⟩, ?_⟩
  refine mm_putF3 (ci := 11) (fs1 := [.ref 1, .ref 3, .ref 5, .null, .null, .null, .null, .null, .int 0]) in_X11 tyX11_ok nmX11 rfl (k := 2) (by decide) rfl rfl rfl rfl kF_X11_24 dX11_init_40 (mm_fit_ref _ _) (mm_frN (hC1_F _ (by omega) (by omega)) (mm_upN (by decide) mm_up_s)) (by first | omega | (dsimp only; omega)) (Nat.le_of_ble_eq_true rfl) rfl ?_
  refine mm_aload_n dX11_init_43 rfl rfl ?_
  refine mm_new3 (n1 := 198) (ci := 2) (fs := [.null, .null, .null, .int 0, .int 0]) in_X2 tyX2_ok rfl kC_X11_21 wn_X2 wi_X2 (by decide) (fun _ => rfl) (by omega) (by omega) dX11_init_44 rfl ?_
  refine mm_dup dX11_init_47 rfl ?_
  refine mm_callI wM_X2_init rfl kM_X11_23 wI_X2_init dX11_init_48 (c_X2_init hst _ _ _ (by omega) mm_up_s) rfl rfl (Nat.le_of_ble_eq_true rfl) (by omega) (by omega) (fun v S9 hq => ?_)
  obtain ⟨M2, z2⟩ := S9
  obtain ⟨rfl, hz2, hC2_0, hC2_1, hC2_2, hC2_3, hC2_4, hC2_5, hC2_6, hC2_7, hC2_8, hC2_9, hC2_10, ⟨fi2, hC2_i, hfi2⟩, hC2_I, hC2_F⟩ := hq
  cases hz2
  refine ⟨fun _ => ⟨rfl, rfl⟩, ?_⟩
  refine mm_putF3 (ci := 11) (fs1 := [.ref 1, .ref 3, .ref 5, .ref 197, .null, .null, .null, .null, .int 0]) in_X11 tyX11_ok nmX11 rfl (k := 3) (by decide) rfl rfl rfl rfl kF_X11_28 dX11_init_51 (mm_fit_ref _ _) (mm_frN (hC2_F _ (by omega) (by omega)) (mm_upN (by decide) mm_up_s)) (by first | omega | (dsimp only; omega)) (Nat.le_of_ble_eq_true rfl) rfl ?_
  refine mm_aload_n dX11_init_54 rfl rfl ?_
  refine mm_new3 (n1 := 390) (ci := 8) (fs := [.null, .null, .null, .int 0, .null, .null]) in_X8 tyX8_ok rfl kC_X11_31 wn_X8 wi_X8 (by decide) (fun _ => rfl) (by omega) (by omega) dX11_init_55 rfl ?_
  refine mm_dup dX11_init_58 rfl ?_
  refine mm_callI wM_X8_init rfl kM_X11_33 wI_X8_init dX11_init_59 (c_X8_init hst _ _ _ (by omega) mm_up_s) rfl rfl (Nat.le_of_ble_eq_true rfl) (by omega) (by omega) (fun v S9 hq => ?_)
  obtain ⟨M3, z3⟩ := S9
  obtain ⟨rfl, hz3, hT3_a, ⟨fi3, hT3_f, hfi3⟩, hT3_N, hT3_r, hT3_t, hT3_b, hT3_F⟩ := hq
  cases hz3
  refine ⟨fun _ => ⟨rfl, rfl⟩, ?_⟩
  refine mm_putF3 (ci := 11) (fs1 := [.ref 1, .ref 3, .ref 5, .ref 197, .ref 389, .null, .null, .null, .int 0]) in_X11 tyX11_ok nmX11 rfl (k := 4) (by decide) rfl rfl rfl rfl kF_X11_34 dX11_init_62 (mm_fit_ref _ _) (mm_frN (hT3_F _ (by omega) (by omega)) (mm_upN (by decide) mm_up_s)) (by first | omega | (dsimp only; omega)) (Nat.le_of_ble_eq_true rfl) rfl ?_
  refine mm_aload_n dX11_init_65 rfl rfl ?_
  refine mm_new3 (n1 := 1095) (ci := 9) (fs := [.null, .null, .null, .int 0, .long 0, .int 0]) in_X9 tyX9_ok rfl kC_X11_38 wn_X9 wi_X9 (by decide) (fun _ => rfl) (by omega) (by omega) dX11_init_66 rfl ?_
  refine mm_dup dX11_init_69 rfl ?_
  refine mm_aload_n dX11_init_70 rfl rfl ?_
  refine mm_get3 (ci := 11) in_X11 rfl (k := 0) (by decide) rfl kF_X11_14 dX11_init_71 (mm_upN (by decide) mm_up_s) (by first | omega | (dsimp only; omega)) rfl ?_
  refine mm_aload_n dX11_init_74 rfl rfl ?_
  refine mm_get3 (ci := 11) in_X11 rfl (k := 4) (by decide) rfl kF_X11_34 dX11_init_75 (mm_upN (by decide) mm_up_s) (by first | omega | (dsimp only; omega)) rfl ?_
  refine mm_aload_n dX11_init_78 rfl rfl ?_
  refine mm_get3 (ci := 11) in_X11 rfl (k := 1) (by decide) rfl kF_X11_18 dX11_init_79 (mm_upN (by decide) mm_up_s) (by first | omega | (dsimp only; omega)) rfl ?_
  refine mm_callI wM_X9_init rfl kM_X11_40 wI_X9_init dX11_init_82 (c_X9_init hst _ _ _ _ _ _ (by omega) mm_up_s) rfl rfl (Nat.le_of_ble_eq_true rfl) (by omega) (by omega) (fun v S9 hq => ?_)
  obtain ⟨M4, z4⟩ := S9
  obtain ⟨rfl, hz4, hP4_a, hP4_F⟩ := hq
  cases hz4
  refine ⟨fun _ => ⟨rfl, rfl⟩, ?_⟩
  refine mm_putF3 (ci := 11) (fs1 := [.ref 1, .ref 3, .ref 5, .ref 197, .ref 389, .ref 1094, .null, .null, .int 0]) in_X11 tyX11_ok nmX11 rfl (k := 5) (by decide) rfl rfl rfl rfl kF_X11_43 dX11_init_85 (mm_fit_ref _ _) (mm_frN ((fun x (_ : x < x + 1) h => hP4_F x h) _ (by omega) (by omega)) (mm_upN (by decide) mm_up_s)) (by first | omega | (dsimp only; omega)) (Nat.le_of_ble_eq_true rfl) rfl ?_
  refine mm_aload_n dX11_init_88 rfl rfl ?_
  refine mm_new3 (n1 := 1096) (ci := 7) (fs := [.null, .null, .null, .null, .int 0, .int 0, .long 0]) in_X7 tyX7_ok rfl kC_X11_47 wn_X7 wi_X7 (by decide) (fun _ => rfl) (by omega) (by omega) dX11_init_89 rfl ?_
  refine mm_dup dX11_init_92 rfl ?_
  refine mm_aload_n dX11_init_93 rfl rfl ?_
  refine mm_get3 (ci := 11) in_X11 rfl (k := 0) (by decide) rfl kF_X11_14 dX11_init_94 (mm_upN (by decide) mm_up_s) (by first | omega | (dsimp only; omega)) rfl ?_
  refine mm_aload_n dX11_init_97 rfl rfl ?_
  refine mm_get3 (ci := 11) in_X11 rfl (k := 4) (by decide) rfl kF_X11_34 dX11_init_98 (mm_upN (by decide) mm_up_s) (by first | omega | (dsimp only; omega)) rfl ?_
  refine mm_aload_n dX11_init_101 rfl rfl ?_
  refine mm_get3 (ci := 11) in_X11 rfl (k := 1) (by decide) rfl kF_X11_18 dX11_init_102 (mm_upN (by decide) mm_up_s) (by first | omega | (dsimp only; omega)) rfl ?_
  refine mm_callI wM_X7_init rfl kM_X11_49 wI_X7_init dX11_init_105 (c_X7_init hst _ _ _ _ _ _ (by omega) mm_up_s) rfl rfl (Nat.le_of_ble_eq_true rfl) (by omega) (by omega) (fun v S9 hq => ?_)
  obtain ⟨M5, z5⟩ := S9
  obtain ⟨rfl, hz5, hP5_a, hP5_0, hP5_F⟩ := hq
  cases hz5
  refine ⟨fun _ => ⟨rfl, rfl⟩, ?_⟩
  refine mm_putF3 (ci := 11) (fs1 := [.ref 1, .ref 3, .ref 5, .ref 197, .ref 389, .ref 1094, .ref 1095, .null, .int 0]) in_X11 tyX11_ok nmX11 rfl (k := 6) (by decide) rfl rfl rfl rfl kF_X11_50 dX11_init_108 (mm_fit_ref _ _) (mm_frN (hP5_F _ (by omega) (by omega)) (mm_upN (by decide) mm_up_s)) (by first | omega | (dsimp only; omega)) (Nat.le_of_ble_eq_true rfl) rfl ?_
  refine mm_aload_n dX11_init_111 rfl rfl ?_
  refine mm_new3 (n1 := 1098) (ci := 1) (fs := [.null, .null, .null, .null, .int 0]) in_X1 tyX1_ok rfl kC_X11_54 wn_X1 wi_X1 (by decide) (fun _ => rfl) (by omega) (by omega) dX11_init_112 rfl ?_
  refine mm_dup dX11_init_115 rfl ?_
  refine mm_aload_n dX11_init_116 rfl rfl ?_
  refine mm_get3 (ci := 11) in_X11 rfl (k := 1) (by decide) rfl kF_X11_18 dX11_init_117 (mm_upN (by decide) mm_up_s) (by first | omega | (dsimp only; omega)) rfl ?_
  refine mm_callI wM_X1_init rfl kM_X11_56 wI_X1_init dX11_init_120 (c_X1_init hst _ _ _ _ (by omega) mm_up_s) rfl rfl (Nat.le_of_ble_eq_true rfl) (by omega) (by omega) (fun v S9 hq => ?_)
  obtain ⟨M6, z6⟩ := S9
  obtain ⟨rfl, hz6, hP6_a, hP6_0, hP6_1, hP6_2, hP6_F⟩ := hq
  cases hz6
  refine ⟨fun _ => ⟨rfl, rfl⟩, ?_⟩
  refine mm_putF3 (ci := 11) (fs1 := [.ref 1, .ref 3, .ref 5, .ref 197, .ref 389, .ref 1094, .ref 1095, .ref 1097, .int 0]) in_X11 tyX11_ok nmX11 rfl (k := 7) (by decide) rfl rfl rfl rfl kF_X11_59 dX11_init_123 (mm_fit_ref _ _) (mm_frN (hP6_F _ (by omega) (by omega)) (mm_upN (by decide) mm_up_s)) (by first | omega | (dsimp only; omega)) (Nat.le_of_ble_eq_true rfl) rfl ?_
  refine mm_aload_n dX11_init_126 rfl rfl ?_
  refine mm_iconst (v := (-1)) dX11_init_127 (by decide) ?_
  refine mm_put3 (ci := 11) (fs1 := [.ref 1, .ref 3, .ref 5, .ref 197, .ref 389, .ref 1094, .ref 1095, .ref 1097, .int (-1)]) in_X11 tyX11_ok nmX11 rfl (k := 8) (by decide) rfl rfl kF_X11_63 dX11_init_128 (mm_fit_int _) mm_up_s (by first | omega | (dsimp only; omega)) (Nat.le_of_ble_eq_true rfl) rfl ?_
  refine mm_vret dX11_init_131 rfl ?_ (by omega) (by omega)
  refine ⟨rfl, rfl, ?_⟩
  dsimp only
  exact ⟨mm_up_s, (mm_upN (by decide) (mm_upN (by decide) (mm_frN (hP6_F _ (by omega) (by omega)) (mm_upN (by decide) (mm_upN (by decide) (mm_frN (hP5_F _ (by omega) (by omega)) (mm_upN (by decide) (mm_upN (by decide) (mm_frN ((fun x (_ : x < x + 1) h => hP4_F x h) _ (by omega) (by omega)) (mm_upN (by decide) (mm_upN (by decide) (mm_frN (hT3_F _ (by omega) (by omega)) (mm_upN (by decide) (mm_upN (by decide) (mm_frN (hC2_F _ (by omega) (by omega)) (mm_upN (by decide) (mm_upN (by decide) (mm_frN (hC1_F _ (by omega) (by omega)) (mm_upN (by decide) (mm_upN (by decide) (mm_upN (by decide) (mm_upN (by decide) (mm_upN (by decide) (mm_upN (by decide) mm_up_s)))))))))))))))))))))))), (mm_upN (by decide) (mm_upN (by decide) (mm_frN (hP6_F _ (by omega) (by omega)) (mm_upN (by decide) (mm_upN (by decide) (mm_frN (hP5_F _ (by omega) (by omega)) (mm_upN (by decide) (mm_upN (by decide) (mm_frN ((fun x (_ : x < x + 1) h => hP4_F x h) _ (by omega) (by omega)) (mm_upN (by decide) (mm_upN (by decide) (mm_frN (hT3_F _ (by omega) (by omega)) (mm_upN (by decide) (mm_upN (by decide) (mm_frN (hC2_F _ (by omega) (by omega)) (mm_upN (by decide) (mm_upN (by decide) (mm_frN (hC1_F _ (by omega) (by omega)) (mm_upN (by decide) (mm_upN (by decide) (mm_upN (by decide) (mm_upN (by decide) (mm_upN (by decide) (mm_upN (by decide) (mm_upN (by decide) mm_up_s))))))))))))))))))))))))), (mm_upN (by decide) (mm_upN (by decide) (mm_frN (hP6_F _ (by omega) (by omega)) (mm_upN (by decide) (mm_upN (by decide) (mm_frN (hP5_F _ (by omega) (by omega)) (mm_upN (by decide) (mm_upN (by decide) (mm_frN ((fun x (_ : x < x + 1) h => hP4_F x h) _ (by omega) (by omega)) (mm_upN (by decide) (mm_upN (by decide) (mm_frN (hT3_F _ (by omega) (by omega)) (mm_upN (by decide) (mm_upN (by decide) (mm_frN (hC2_F _ (by omega) (by omega)) (mm_upN (by decide) (mm_upN (by decide) (mm_frN (hC1_F _ (by omega) (by omega)) (mm_upN (by decide) (mm_upN (by decide) mm_up_s)))))))))))))))))))), (mm_upN (by decide) (mm_upN (by decide) (mm_frN (hP6_F _ (by omega) (by omega)) (mm_upN (by decide) (mm_upN (by decide) (mm_frN (hP5_F _ (by omega) (by omega)) (mm_upN (by decide) (mm_upN (by decide) (mm_frN ((fun x (_ : x < x + 1) h => hP4_F x h) _ (by omega) (by omega)) (mm_upN (by decide) (mm_upN (by decide) (mm_frN (hT3_F _ (by omega) (by omega)) (mm_upN (by decide) (mm_upN (by decide) (mm_frN (hC2_F _ (by omega) (by omega)) (mm_upN (by decide) (mm_upN (by decide) (mm_frN (hC1_F _ (by omega) (by omega)) (mm_upN (by decide) (mm_upN (by decide) (mm_upN (by decide) mm_up_s))))))))))))))))))))), (mm_upN (by decide) (mm_upN (by decide) (mm_frN (hP6_F _ (by omega) (by omega)) (mm_upN (by decide) (mm_upN (by decide) (mm_frN (hP5_F _ (by omega) (by omega)) (mm_upN (by decide) (mm_upN (by decide) (mm_frN ((fun x (_ : x < x + 1) h => hP4_F x h) _ (by omega) (by omega)) (mm_upN (by decide) (mm_upN (by decide) (mm_frN (hT3_F _ (by omega) (by omega)) (mm_upN (by decide) (mm_upN (by decide) (mm_frN (hC2_F _ (by omega) (by omega)) (mm_upN (by decide) (mm_upN (by decide) hC1_0))))))))))))))))), (mm_upN (by decide) (mm_upN (by decide) (mm_frN (hP6_F _ (by omega) (by omega)) (mm_upN (by decide) (mm_upN (by decide) (mm_frN (hP5_F _ (by omega) (by omega)) (mm_upN (by decide) (mm_upN (by decide) (mm_frN ((fun x (_ : x < x + 1) h => hP4_F x h) _ (by omega) (by omega)) (mm_upN (by decide) (mm_upN (by decide) (mm_frN (hT3_F _ (by omega) (by omega)) (mm_upN (by decide) (mm_upN (by decide) (mm_frN (hC2_F _ (by omega) (by omega)) (mm_upN (by decide) (mm_upN (by decide) hC1_1))))))))))))))))), (mm_upN (by decide) (mm_upN (by decide) (mm_frN (hP6_F _ (by omega) (by omega)) (mm_upN (by decide) (mm_upN (by decide) (mm_frN (hP5_F _ (by omega) (by omega)) (mm_upN (by decide) (mm_upN (by decide) (mm_frN ((fun x (_ : x < x + 1) h => hP4_F x h) _ (by omega) (by omega)) (mm_upN (by decide) (mm_upN (by decide) (mm_frN (hT3_F _ (by omega) (by omega)) (mm_upN (by decide) (mm_upN (by decide) (mm_frN (hC2_F _ (by omega) (by omega)) (mm_upN (by decide) (mm_upN (by decide) hC1_2))))))))))))))))), (mm_upN (by decide) (mm_upN (by decide) (mm_frN (hP6_F _ (by omega) (by omega)) (mm_upN (by decide) (mm_upN (by decide) (mm_frN (hP5_F _ (by omega) (by omega)) (mm_upN (by decide) (mm_upN (by decide) (mm_frN ((fun x (_ : x < x + 1) h => hP4_F x h) _ (by omega) (by omega)) (mm_upN (by decide) (mm_upN (by decide) (mm_frN (hT3_F _ (by omega) (by omega)) (mm_upN (by decide) (mm_upN (by decide) (mm_frN (hC2_F _ (by omega) (by omega)) (mm_upN (by decide) (mm_upN (by decide) hC1_3))))))))))))))))), (mm_upN (by decide) (mm_upN (by decide) (mm_frN (hP6_F _ (by omega) (by omega)) (mm_upN (by decide) (mm_upN (by decide) (mm_frN (hP5_F _ (by omega) (by omega)) (mm_upN (by decide) (mm_upN (by decide) (mm_frN ((fun x (_ : x < x + 1) h => hP4_F x h) _ (by omega) (by omega)) (mm_upN (by decide) (mm_upN (by decide) (mm_frN (hT3_F _ (by omega) (by omega)) (mm_upN (by decide) (mm_upN (by decide) (mm_frN (hC2_F _ (by omega) (by omega)) (mm_upN (by decide) (mm_upN (by decide) hC1_4))))))))))))))))), (mm_upN (by decide) (mm_upN (by decide) (mm_frN (hP6_F _ (by omega) (by omega)) (mm_upN (by decide) (mm_upN (by decide) (mm_frN (hP5_F _ (by omega) (by omega)) (mm_upN (by decide) (mm_upN (by decide) (mm_frN ((fun x (_ : x < x + 1) h => hP4_F x h) _ (by omega) (by omega)) (mm_upN (by decide) (mm_upN (by decide) (mm_frN (hT3_F _ (by omega) (by omega)) (mm_upN (by decide) (mm_upN (by decide) (mm_frN (hC2_F _ (by omega) (by omega)) (mm_upN (by decide) (mm_upN (by decide) hC1_5))))))))))))))))), (mm_upN (by decide) (mm_upN (by decide) (mm_frN (hP6_F _ (by omega) (by omega)) (mm_upN (by decide) (mm_upN (by decide) (mm_frN (hP5_F _ (by omega) (by omega)) (mm_upN (by decide) (mm_upN (by decide) (mm_frN ((fun x (_ : x < x + 1) h => hP4_F x h) _ (by omega) (by omega)) (mm_upN (by decide) (mm_upN (by decide) (mm_frN (hT3_F _ (by omega) (by omega)) (mm_upN (by decide) (mm_upN (by decide) (mm_frN (hC2_F _ (by omega) (by omega)) (mm_upN (by decide) (mm_upN (by decide) hC1_6))))))))))))))))), (mm_upN (by decide) (mm_upN (by decide) (mm_frN (hP6_F _ (by omega) (by omega)) (mm_upN (by decide) (mm_upN (by decide) (mm_frN (hP5_F _ (by omega) (by omega)) (mm_upN (by decide) (mm_upN (by decide) (mm_frN ((fun x (_ : x < x + 1) h => hP4_F x h) _ (by omega) (by omega)) (mm_upN (by decide) (mm_upN (by decide) (mm_frN (hT3_F _ (by omega) (by omega)) (mm_upN (by decide) (mm_upN (by decide) (mm_frN (hC2_F _ (by omega) (by omega)) (mm_upN (by decide) (mm_upN (by decide) hC1_7))))))))))))))))), (mm_upN (by decide) (mm_upN (by decide) (mm_frN (hP6_F _ (by omega) (by omega)) (mm_upN (by decide) (mm_upN (by decide) (mm_frN (hP5_F _ (by omega) (by omega)) (mm_upN (by decide) (mm_upN (by decide) (mm_frN ((fun x (_ : x < x + 1) h => hP4_F x h) _ (by omega) (by omega)) (mm_upN (by decide) (mm_upN (by decide) (mm_frN (hT3_F _ (by omega) (by omega)) (mm_upN (by decide) (mm_upN (by decide) (mm_frN (hC2_F _ (by omega) (by omega)) (mm_upN (by decide) (mm_upN (by decide) hC1_8))))))))))))))))), (mm_upN (by decide) (mm_upN (by decide) (mm_frN (hP6_F _ (by omega) (by omega)) (mm_upN (by decide) (mm_upN (by decide) (mm_frN (hP5_F _ (by omega) (by omega)) (mm_upN (by decide) (mm_upN (by decide) (mm_frN ((fun x (_ : x < x + 1) h => hP4_F x h) _ (by omega) (by omega)) (mm_upN (by decide) (mm_upN (by decide) (mm_frN (hT3_F _ (by omega) (by omega)) (mm_upN (by decide) (mm_upN (by decide) (mm_frN (hC2_F _ (by omega) (by omega)) (mm_upN (by decide) (mm_upN (by decide) hC1_9))))))))))))))))), (mm_upN (by decide) (mm_upN (by decide) (mm_frN (hP6_F _ (by omega) (by omega)) (mm_upN (by decide) (mm_upN (by decide) (mm_frN (hP5_F _ (by omega) (by omega)) (mm_upN (by decide) (mm_upN (by decide) (mm_frN ((fun x (_ : x < x + 1) h => hP4_F x h) _ (by omega) (by omega)) (mm_upN (by decide) (mm_upN (by decide) (mm_frN (hT3_F _ (by omega) (by omega)) (mm_upN (by decide) (mm_upN (by decide) (mm_frN (hC2_F _ (by omega) (by omega)) (mm_upN (by decide) (mm_upN (by decide) hC1_10))))))))))))))))), (mm_upN (by decide) (mm_upN (by decide) (mm_frN (hP6_F _ (by omega) (by omega)) (mm_upN (by decide) (mm_upN (by decide) (mm_frN (hP5_F _ (by omega) (by omega)) (mm_upN (by decide) (mm_upN (by decide) (mm_frN ((fun x (_ : x < x + 1) h => hP4_F x h) _ (by omega) (by omega)) (mm_upN (by decide) (mm_upN (by decide) (mm_frN (hT3_F _ (by omega) (by omega)) (mm_upN (by decide) (mm_upN (by decide) hC2_0)))))))))))))), (mm_upN (by decide) (mm_upN (by decide) (mm_frN (hP6_F _ (by omega) (by omega)) (mm_upN (by decide) (mm_upN (by decide) (mm_frN (hP5_F _ (by omega) (by omega)) (mm_upN (by decide) (mm_upN (by decide) (mm_frN ((fun x (_ : x < x + 1) h => hP4_F x h) _ (by omega) (by omega)) (mm_upN (by decide) (mm_upN (by decide) (mm_frN (hT3_F _ (by omega) (by omega)) (mm_upN (by decide) (mm_upN (by decide) hC2_1)))))))))))))), (mm_upN (by decide) (mm_upN (by decide) (mm_frN (hP6_F _ (by omega) (by omega)) (mm_upN (by decide) (mm_upN (by decide) (mm_frN (hP5_F _ (by omega) (by omega)) (mm_upN (by decide) (mm_upN (by decide) (mm_frN ((fun x (_ : x < x + 1) h => hP4_F x h) _ (by omega) (by omega)) (mm_upN (by decide) (mm_upN (by decide) (mm_frN (hT3_F _ (by omega) (by omega)) (mm_upN (by decide) (mm_upN (by decide) hC2_2)))))))))))))), (mm_upN (by decide) (mm_upN (by decide) (mm_frN (hP6_F _ (by omega) (by omega)) (mm_upN (by decide) (mm_upN (by decide) (mm_frN (hP5_F _ (by omega) (by omega)) (mm_upN (by decide) (mm_upN (by decide) (mm_frN ((fun x (_ : x < x + 1) h => hP4_F x h) _ (by omega) (by omega)) (mm_upN (by decide) (mm_upN (by decide) (mm_frN (hT3_F _ (by omega) (by omega)) (mm_upN (by decide) (mm_upN (by decide) hC2_3)))))))))))))), (mm_upN (by decide) (mm_upN (by decide) (mm_frN (hP6_F _ (by omega) (by omega)) (mm_upN (by decide) (mm_upN (by decide) (mm_frN (hP5_F _ (by omega) (by omega)) (mm_upN (by decide) (mm_upN (by decide) (mm_frN ((fun x (_ : x < x + 1) h => hP4_F x h) _ (by omega) (by omega)) (mm_upN (by decide) (mm_upN (by decide) (mm_frN (hT3_F _ (by omega) (by omega)) (mm_upN (by decide) (mm_upN (by decide) hC2_4)))))))))))))), (mm_upN (by decide) (mm_upN (by decide) (mm_frN (hP6_F _ (by omega) (by omega)) (mm_upN (by decide) (mm_upN (by decide) (mm_frN (hP5_F _ (by omega) (by omega)) (mm_upN (by decide) (mm_upN (by decide) (mm_frN ((fun x (_ : x < x + 1) h => hP4_F x h) _ (by omega) (by omega)) (mm_upN (by decide) (mm_upN (by decide) (mm_frN (hT3_F _ (by omega) (by omega)) (mm_upN (by decide) (mm_upN (by decide) hC2_5)))))))))))))), (mm_upN (by decide) (mm_upN (by decide) (mm_frN (hP6_F _ (by omega) (by omega)) (mm_upN (by decide) (mm_upN (by decide) (mm_frN (hP5_F _ (by omega) (by omega)) (mm_upN (by decide) (mm_upN (by decide) (mm_frN ((fun x (_ : x < x + 1) h => hP4_F x h) _ (by omega) (by omega)) (mm_upN (by decide) (mm_upN (by decide) (mm_frN (hT3_F _ (by omega) (by omega)) (mm_upN (by decide) (mm_upN (by decide) hC2_6)))))))))))))), (mm_upN (by decide) (mm_upN (by decide) (mm_frN (hP6_F _ (by omega) (by omega)) (mm_upN (by decide) (mm_upN (by decide) (mm_frN (hP5_F _ (by omega) (by omega)) (mm_upN (by decide) (mm_upN (by decide) (mm_frN ((fun x (_ : x < x + 1) h => hP4_F x h) _ (by omega) (by omega)) (mm_upN (by decide) (mm_upN (by decide) (mm_frN (hT3_F _ (by omega) (by omega)) (mm_upN (by decide) (mm_upN (by decide) hC2_7)))))))))))))), (mm_upN (by decide) (mm_upN (by decide) (mm_frN (hP6_F _ (by omega) (by omega)) (mm_upN (by decide) (mm_upN (by decide) (mm_frN (hP5_F _ (by omega) (by omega)) (mm_upN (by decide) (mm_upN (by decide) (mm_frN ((fun x (_ : x < x + 1) h => hP4_F x h) _ (by omega) (by omega)) (mm_upN (by decide) (mm_upN (by decide) (mm_frN (hT3_F _ (by omega) (by omega)) (mm_upN (by decide) (mm_upN (by decide) hC2_8)))))))))))))), (mm_upN (by decide) (mm_upN (by decide) (mm_frN (hP6_F _ (by omega) (by omega)) (mm_upN (by decide) (mm_upN (by decide) (mm_frN (hP5_F _ (by omega) (by omega)) (mm_upN (by decide) (mm_upN (by decide) (mm_frN ((fun x (_ : x < x + 1) h => hP4_F x h) _ (by omega) (by omega)) (mm_upN (by decide) (mm_upN (by decide) (mm_frN (hT3_F _ (by omega) (by omega)) (mm_upN (by decide) (mm_upN (by decide) hC2_9)))))))))))))), (mm_upN (by decide) (mm_upN (by decide) (mm_frN (hP6_F _ (by omega) (by omega)) (mm_upN (by decide) (mm_upN (by decide) (mm_frN (hP5_F _ (by omega) (by omega)) (mm_upN (by decide) (mm_upN (by decide) (mm_frN ((fun x (_ : x < x + 1) h => hP4_F x h) _ (by omega) (by omega)) (mm_upN (by decide) (mm_upN (by decide) (mm_frN (hT3_F _ (by omega) (by omega)) (mm_upN (by decide) (mm_upN (by decide) hC2_10)))))))))))))), (mm_upN (by decide) (mm_upN (by decide) (mm_frN (hP6_F _ (by omega) (by omega)) (mm_upN (by decide) (mm_upN (by decide) (mm_frN (hP5_F _ (by omega) (by omega)) (mm_upN (by decide) (mm_upN (by decide) (mm_frN ((fun x (_ : x < x + 1) h => hP4_F x h) _ (by omega) (by omega)) (mm_upN (by decide) (mm_upN (by decide) hT3_a))))))))))), (mm_upN (by decide) (mm_upN (by decide) (mm_frN (hP6_F _ (by omega) (by omega)) (mm_upN (by decide) (mm_upN (by decide) (mm_frN (hP5_F _ (by omega) (by omega)) (mm_upN (by decide) (mm_upN (by decide) (mm_frN ((fun x (_ : x < x + 1) h => hP4_F x h) _ (by omega) (by omega)) (mm_upN (by decide) (mm_upN (by decide) hT3_r))))))))))), (mm_upN (by decide) (mm_upN (by decide) (mm_frN (hP6_F _ (by omega) (by omega)) (mm_upN (by decide) (mm_upN (by decide) (mm_frN (hP5_F _ (by omega) (by omega)) (mm_upN (by decide) (mm_upN (by decide) (mm_frN ((fun x (_ : x < x + 1) h => hP4_F x h) _ (by omega) (by omega)) (mm_upN (by decide) (mm_upN (by decide) hT3_t))))))))))), (mm_upN (by decide) (mm_upN (by decide) (mm_frN (hP6_F _ (by omega) (by omega)) (mm_upN (by decide) (mm_upN (by decide) (mm_frN (hP5_F _ (by omega) (by omega)) (mm_upN (by decide) (mm_upN (by decide) (mm_frN ((fun x (_ : x < x + 1) h => hP4_F x h) _ (by omega) (by omega)) (mm_upN (by decide) (mm_upN (by decide) hT3_b))))))))))), (mm_upN (by decide) (mm_upN (by decide) (mm_frN (hP6_F _ (by omega) (by omega)) (mm_upN (by decide) (mm_upN (by decide) (mm_frN (hP5_F _ (by omega) (by omega)) (mm_upN (by decide) (mm_upN (by decide) hP4_a)))))))), (mm_upN (by decide) (mm_upN (by decide) (mm_frN (hP6_F _ (by omega) (by omega)) (mm_upN (by decide) (mm_upN (by decide) hP5_a))))), (mm_upN (by decide) (mm_upN (by decide) (mm_frN (hP6_F _ (by omega) (by omega)) (mm_upN (by decide) (mm_upN (by decide) hP5_0))))), (mm_upN (by decide) (mm_upN (by decide) hP6_a)), (mm_upN (by decide) (mm_upN (by decide) hP6_0)), (mm_upN (by decide) (mm_upN (by decide) hP6_1)), (mm_upN (by decide) (mm_upN (by decide) hP6_2)), ⟨_, (mm_upN (by decide) (mm_upN (by decide) (mm_frN (hP6_F _ (by omega) (by omega)) (mm_upN (by decide) (mm_upN (by decide) (mm_frN (hP5_F _ (by omega) (by omega)) (mm_upN (by decide) (mm_upN (by decide) (mm_frN ((fun x (_ : x < x + 1) h => hP4_F x h) _ (by omega) (by omega)) (mm_upN (by decide) (mm_upN (by decide) (mm_frN (hT3_F _ (by omega) (by omega)) (mm_upN (by decide) (mm_upN (by decide) (mm_frN (hC2_F _ (by omega) (by omega)) (mm_upN (by decide) (mm_upN (by decide) hC1_i))))))))))))))))), hfi1⟩, fun i hi => mm_upN (by omega) (mm_upN (by omega) (mm_frN (hP6_F _ (by omega) (by omega)) (mm_upN (by omega) (mm_upN (by omega) (mm_frN (hP5_F _ (by omega) (by omega)) (mm_upN (by omega) (mm_upN (by omega) (mm_frN ((fun x (_ : x < x + 1) h => hP4_F x h) _ (by omega) (by omega)) (mm_upN (by omega) (mm_upN (by omega) (mm_frN (hT3_F _ (by omega) (by omega)) (mm_upN (by omega) (mm_upN (by omega) (mm_frN (hC2_F _ (by omega) (by omega)) (mm_upN (by omega) (mm_upN (by omega) (hC1_I i hi))))))))))))))))), ⟨_, (mm_upN (by decide) (mm_upN (by decide) (mm_frN (hP6_F _ (by omega) (by omega)) (mm_upN (by decide) (mm_upN (by decide) (mm_frN (hP5_F _ (by omega) (by omega)) (mm_upN (by decide) (mm_upN (by decide) (mm_frN ((fun x (_ : x < x + 1) h => hP4_F x h) _ (by omega) (by omega)) (mm_upN (by decide) (mm_upN (by decide) (mm_frN (hT3_F _ (by omega) (by omega)) (mm_upN (by decide) (mm_upN (by decide) hC2_i)))))))))))))), hfi2⟩, fun i hi => mm_upN (by omega) (mm_upN (by omega) (mm_frN (hP6_F _ (by omega) (by omega)) (mm_upN (by omega) (mm_upN (by omega) (mm_frN (hP5_F _ (by omega) (by omega)) (mm_upN (by omega) (mm_upN (by omega) (mm_frN ((fun x (_ : x < x + 1) h => hP4_F x h) _ (by omega) (by omega)) (mm_upN (by omega) (mm_upN (by omega) (mm_frN (hT3_F _ (by omega) (by omega)) (mm_upN (by omega) (mm_upN (by omega) (hC2_I i hi)))))))))))))), ⟨_, (mm_upN (by decide) (mm_upN (by decide) (mm_frN (hP6_F _ (by omega) (by omega)) (mm_upN (by decide) (mm_upN (by decide) (mm_frN (hP5_F _ (by omega) (by omega)) (mm_upN (by decide) (mm_upN (by decide) (mm_frN ((fun x (_ : x < x + 1) h => hP4_F x h) _ (by omega) (by omega)) (mm_upN (by decide) (mm_upN (by decide) hT3_f))))))))))), hfi3⟩, fun i hi => mm_upN (by omega) (mm_upN (by omega) (mm_frN (hP6_F _ (by omega) (by omega)) (mm_upN (by omega) (mm_upN (by omega) (mm_frN (hP5_F _ (by omega) (by omega)) (mm_upN (by omega) (mm_upN (by omega) (mm_frN ((fun x (_ : x < x + 1) h => hP4_F x h) _ (by omega) (by omega)) (mm_upN (by omega) (mm_upN (by omega) (hT3_N i hi)))))))))))⟩
end
section
theorem dX12_init_0 : decode cX12_init 0 = .ok (.aload_n 0, 1) := by decide +kernel
theorem dX12_init_1 : decode cX12_init 1 = .ok (.invokespecial 1, 3) := by decide +kernel
theorem dX12_init_4 : decode cX12_init 4 = .ok (.aload_n 0, 1) := by decide +kernel
theorem dX12_init_5 : decode cX12_init 5 = .ok (.sipush 700, 3) := by decide +kernel
theorem dX12_init_8 : decode cX12_init 8 = .ok (.newarray .int, 2) := by decide +kernel
theorem dX12_init_10 : decode cX12_init 10 = .ok (.putfield 7, 3) := by decide +kernel
theorem dX12_init_13 : decode cX12_init 13 = .ok (.aload_n 0, 1) := by decide +kernel
theorem dX12_init_14 : decode cX12_init 14 = .ok (.sipush 4000, 3) := by decide +kernel
theorem dX12_init_17 : decode cX12_init 17 = .ok (.newarray .int, 2) := by decide +kernel
theorem dX12_init_19 : decode cX12_init 19 = .ok (.putfield 13, 3) := by decide +kernel
theorem dX12_init_22 : decode cX12_init 22 = .ok (.aload_n 0, 1) := by decide +kernel
theorem dX12_init_23 : decode cX12_init 23 = .ok (.iconst (-1), 1) := by decide +kernel
theorem dX12_init_24 : decode cX12_init 24 = .ok (.putfield 16, 3) := by decide +kernel
theorem dX12_init_27 : decode cX12_init 27 = .ok (.aload_n 0, 1) := by decide +kernel
theorem dX12_init_28 : decode cX12_init 28 = .ok (.iconst 2, 1) := by decide +kernel
theorem dX12_init_29 : decode cX12_init 29 = .ok (.newarray .int, 2) := by decide +kernel
theorem dX12_init_31 : decode cX12_init 31 = .ok (.putfield 20, 3) := by decide +kernel
theorem dX12_init_34 : decode cX12_init 34 = .ok (.aload_n 0, 1) := by decide +kernel
theorem dX12_init_35 : decode cX12_init 35 = .ok (.iconst 2, 1) := by decide +kernel
theorem dX12_init_36 : decode cX12_init 36 = .ok (.newarray .int, 2) := by decide +kernel
theorem dX12_init_38 : decode cX12_init 38 = .ok (.putfield 23, 3) := by decide +kernel
theorem dX12_init_41 : decode cX12_init 41 = .ok (.aload_n 0, 1) := by decide +kernel
theorem dX12_init_42 : decode cX12_init 42 = .ok (.iconst 2, 1) := by decide +kernel
theorem dX12_init_43 : decode cX12_init 43 = .ok (.newarray .int, 2) := by decide +kernel
theorem dX12_init_45 : decode cX12_init 45 = .ok (.putfield 26, 3) := by decide +kernel
theorem dX12_init_48 : decode cX12_init 48 = .ok (.aload_n 0, 1) := by decide +kernel
theorem dX12_init_49 : decode cX12_init 49 = .ok (.iconst 2, 1) := by decide +kernel
theorem dX12_init_50 : decode cX12_init 50 = .ok (.newarray .int, 2) := by decide +kernel
theorem dX12_init_52 : decode cX12_init 52 = .ok (.putfield 29, 3) := by decide +kernel
theorem dX12_init_55 : decode cX12_init 55 = .ok (.aload_n 0, 1) := by decide +kernel
theorem dX12_init_56 : decode cX12_init 56 = .ok (.bipush 32, 2) := by decide +kernel
theorem dX12_init_58 : decode cX12_init 58 = .ok (.newarray .int, 2) := by decide +kernel
theorem dX12_init_60 : decode cX12_init 60 = .ok (.putfield 32, 3) := by decide +kernel
theorem dX12_init_63 : decode cX12_init 63 = .ok (.aload_n 0, 1) := by decide +kernel
theorem dX12_init_64 : decode cX12_init 64 = .ok (.bipush 32, 2) := by decide +kernel
theorem dX12_init_66 : decode cX12_init 66 = .ok (.newarray .int, 2) := by decide +kernel
theorem dX12_init_68 : decode cX12_init 68 = .ok (.putfield 35, 3) := by decide +kernel
theorem dX12_init_71 : decode cX12_init 71 = .ok (.aload_n 0, 1) := by decide +kernel
theorem dX12_init_72 : decode cX12_init 72 = .ok (.bipush 32, 2) := by decide +kernel
theorem dX12_init_74 : decode cX12_init 74 = .ok (.newarray .int, 2) := by decide +kernel
theorem dX12_init_76 : decode cX12_init 76 = .ok (.putfield 38, 3) := by decide +kernel
theorem dX12_init_79 : decode cX12_init 79 = .ok (.aload_n 0, 1) := by decide +kernel
theorem dX12_init_80 : decode cX12_init 80 = .ok (.bipush 16, 2) := by decide +kernel
theorem dX12_init_82 : decode cX12_init 82 = .ok (.newarray .int, 2) := by decide +kernel
theorem dX12_init_84 : decode cX12_init 84 = .ok (.putfield 41, 3) := by decide +kernel
theorem dX12_init_87 : decode cX12_init 87 = .ok (.aload_n 0, 1) := by decide +kernel
theorem dX12_init_88 : decode cX12_init 88 = .ok (.bipush 16, 2) := by decide +kernel
theorem dX12_init_90 : decode cX12_init 90 = .ok (.newarray .int, 2) := by decide +kernel
theorem dX12_init_92 : decode cX12_init 92 = .ok (.putfield 44, 3) := by decide +kernel
theorem dX12_init_95 : decode cX12_init 95 = .ok (.aload_n 0, 1) := by decide +kernel
theorem dX12_init_96 : decode cX12_init 96 = .ok (.bipush 16, 2) := by decide +kernel
theorem dX12_init_98 : decode cX12_init 98 = .ok (.newarray .int, 2) := by decide +kernel
theorem dX12_init_100 : decode cX12_init 100 = .ok (.putfield 47, 3) := by decide +kernel
theorem dX12_init_103 : decode cX12_init 103 = .ok (.aload_n 0, 1) := by decide +kernel
theorem dX12_init_104 : decode cX12_init 104 = .ok (.bipush 120, 2) := by decide +kernel
theorem dX12_init_106 : decode cX12_init 106 = .ok (.newarray .int, 2) := by decide +kernel
theorem dX12_init_108 : decode cX12_init 108 = .ok (.putfield 50, 3) := by decide +kernel
theorem dX12_init_111 : decode cX12_init 111 = .ok (.aload_n 0, 1) := by decide +kernel
theorem dX12_init_112 : decode cX12_init 112 = .ok (.bipush 120, 2) := by decide +kernel
theorem dX12_init_114 : decode cX12_init 114 = .ok (.newarray .int, 2) := by decide +kernel
theorem dX12_init_116 : decode cX12_init 116 = .ok (.putfield 53, 3) := by decide +kernel
theorem dX12_init_119 : decode cX12_init 119 = .ok (.aload_n 0, 1) := by decide +kernel
theorem dX12_init_120 : decode cX12_init 120 = .ok (.bipush 120, 2) := by decide +kernel
theorem dX12_init_122 : decode cX12_init 122 = .ok (.newarray .int, 2) := by decide +kernel
theorem dX12_init_124 : decode cX12_init 124 = .ok (.putfield 56, 3) := by decide +kernel
theorem dX12_init_127 : decode cX12_init 127 = .ok (.aload_n 0, 1) := by decide +kernel
theorem dX12_init_128 : decode cX12_init 128 = .ok (.bipush 120, 2) := by decide +kernel
theorem dX12_init_130 : decode cX12_init 130 = .ok (.newarray .int, 2) := by decide +kernel
theorem dX12_init_132 : decode cX12_init 132 = .ok (.putfield 59, 3) := by decide +kernel
theorem dX12_init_135 : decode cX12_init 135 = .ok (.aload_n 0, 1) := by decide +kernel
theorem dX12_init_136 : decode cX12_init 136 = .ok (.bipush 120, 2) := by decide +kernel
theorem dX12_init_138 : decode cX12_init 138 = .ok (.newarray .int, 2) := by decide +kernel
theorem dX12_init_140 : decode cX12_init 140 = .ok (.putfield 62, 3) := by decide +kernel
theorem dX12_init_143 : decode cX12_init 143 = .ok (.aload_n 0, 1) := by decide +kernel
theorem dX12_init_144 : decode cX12_init 144 = .ok (.bipush 120, 2) := by decide +kernel
theorem dX12_init_146 : decode cX12_init 146 = .ok (.newarray .int, 2) := by decide +kernel
theorem dX12_init_148 : decode cX12_init 148 = .ok (.putfield 65, 3) := by decide +kernel
theorem dX12_init_151 : decode cX12_init 151 = .ok (.aload_n 0, 1) := by decide +kernel
theorem dX12_init_152 : decode cX12_init 152 = .ok (.bipush 120, 2) := by decide +kernel
theorem dX12_init_154 : decode cX12_init 154 = .ok (.newarray .boolean, 2) := by decide +kernel
theorem dX12_init_156 : decode cX12_init 156 = .ok (.putfield 68, 3) := by decide +kernel
theorem dX12_init_159 : decode cX12_init 159 = .ok (.aload_n 0, 1) := by decide +kernel
theorem dX12_init_160 : decode cX12_init 160 = .ok (.bipush 120, 2) := by decide +kernel
theorem dX12_init_162 : decode cX12_init 162 = .ok (.newarray .boolean, 2) := by decide +kernel
theorem dX12_init_164 : decode cX12_init 164 = .ok (.putfield 72, 3) := by decide +kernel
theorem dX12_init_167 : decode cX12_init 167 = .ok (.aload_n 0, 1) := by decide +kernel
theorem dX12_init_168 : decode cX12_init 168 = .ok (.bipush 120, 2) := by decide +kernel
theorem dX12_init_170 : decode cX12_init 170 = .ok (.newarray .int, 2) := by decide +kernel
theorem dX12_init_172 : decode cX12_init 172 = .ok (.putfield 75, 3) := by decide +kernel
theorem dX12_init_175 : decode cX12_init 175 = .ok (.aload_n 0, 1) := by decide +kernel
theorem dX12_init_176 : decode cX12_init 176 = .ok (.bipush 80, 2) := by decide +kernel
theorem dX12_init_178 : decode cX12_init 178 = .ok (.newarray .int, 2) := by decide +kernel
theorem dX12_init_180 : decode cX12_init 180 = .ok (.putfield 78, 3) := by decide +kernel
theorem dX12_init_183 : decode cX12_init 183 = .ok (.aload_n 0, 1) := by decide +kernel
theorem dX12_init_184 : decode cX12_init 184 = .ok (.bipush 80, 2) := by decide +kernel
theorem dX12_init_186 : decode cX12_init 186 = .ok (.newarray .int, 2) := by decide +kernel
theorem dX12_init_188 : decode cX12_init 188 = .ok (.putfield 81, 3) := by decide +kernel
theorem dX12_init_191 : decode cX12_init 191 = .ok (.aload_n 0, 1) := by decide +kernel
theorem dX12_init_192 : decode cX12_init 192 = .ok (.bipush 80, 2) := by decide +kernel
theorem dX12_init_194 : decode cX12_init 194 = .ok (.newarray .int, 2) := by decide +kernel
theorem dX12_init_196 : decode cX12_init 196 = .ok (.putfield 84, 3) := by decide +kernel
theorem dX12_init_199 : decode cX12_init 199 = .ok (.aload_n 0, 1) := by decide +kernel
theorem dX12_init_200 : decode cX12_init 200 = .ok (.bipush 80, 2) := by decide +kernel
theorem dX12_init_202 : decode cX12_init 202 = .ok (.newarray .int, 2) := by decide +kernel
theorem dX12_init_204 : decode cX12_init 204 = .ok (.putfield 87, 3) := by decide +kernel
theorem dX12_init_207 : decode cX12_init 207 = .ok (.aload_n 0, 1) := by decide +kernel
theorem dX12_init_208 : decode cX12_init 208 = .ok (.sipush 1200, 3) := by decide +kernel
theorem dX12_init_211 : decode cX12_init 211 = .ok (.newarray .int, 2) := by decide +kernel
theorem dX12_init_213 : decode cX12_init 213 = .ok (.putfield 90, 3) := by decide +kernel
theorem dX12_init_216 : decode cX12_init 216 = .ok (.aload_n 0, 1) := by decide +kernel
theorem dX12_init_217 : decode cX12_init 217 = .ok (.bipush 100, 2) := by decide +kernel
theorem dX12_init_219 : decode cX12_init 219 = .ok (.newarray .int, 2) := by decide +kernel
theorem dX12_init_221 : decode cX12_init 221 = .ok (.putfield 93, 3) := by decide +kernel
theorem dX12_init_224 : decode cX12_init 224 = .ok (.aload_n 0, 1) := by decide +kernel
theorem dX12_init_225 : decode cX12_init 225 = .ok (.bipush 100, 2) := by decide +kernel
theorem dX12_init_227 : decode cX12_init 227 = .ok (.newarray .int, 2) := by decide +kernel
theorem dX12_init_229 : decode cX12_init 229 = .ok (.putfield 96, 3) := by decide +kernel
theorem dX12_init_232 : decode cX12_init 232 = .ok (.aload_n 0, 1) := by decide +kernel
theorem dX12_init_233 : decode cX12_init 233 = .ok (.bipush 100, 2) := by decide +kernel
theorem dX12_init_235 : decode cX12_init 235 = .ok (.newarray .int, 2) := by decide +kernel
theorem dX12_init_237 : decode cX12_init 237 = .ok (.putfield 99, 3) := by decide +kernel
theorem dX12_init_240 : decode cX12_init 240 = .ok (.aload_n 0, 1) := by decide +kernel
theorem dX12_init_241 : decode cX12_init 241 = .ok (.bipush 100, 2) := by decide +kernel
theorem dX12_init_243 : decode cX12_init 243 = .ok (.newarray .int, 2) := by decide +kernel
theorem dX12_init_245 : decode cX12_init 245 = .ok (.putfield 102, 3) := by decide +kernel
theorem dX12_init_248 : decode cX12_init 248 = .ok (.aload_n 0, 1) := by decide +kernel
theorem dX12_init_249 : decode cX12_init 249 = .ok (.bipush 100, 2) := by decide +kernel
theorem dX12_init_251 : decode cX12_init 251 = .ok (.newarray .int, 2) := by decide +kernel
theorem dX12_init_253 : decode cX12_init 253 = .ok (.putfield 105, 3) := by decide +kernel
theorem dX12_init_256 : decode cX12_init 256 = .ok (.aload_n 0, 1) := by decide +kernel
theorem dX12_init_257 : decode cX12_init 257 = .ok (.bipush 100, 2) := by decide +kernel
theorem dX12_init_259 : decode cX12_init 259 = .ok (.newarray .int, 2) := by decide +kernel
theorem dX12_init_261 : decode cX12_init 261 = .ok (.putfield 108, 3) := by decide +kernel
theorem dX12_init_264 : decode cX12_init 264 = .ok (.aload_n 0, 1) := by decide +kernel
theorem dX12_init_265 : decode cX12_init 265 = .ok (.sipush 200, 3) := by decide +kernel
theorem dX12_init_268 : decode cX12_init 268 = .ok (.newarray .int, 2) := by decide +kernel
theorem dX12_init_270 : decode cX12_init 270 = .ok (.putfield 111, 3) := by decide +kernel
theorem dX12_init_273 : decode cX12_init 273 = .ok (.aload_n 0, 1) := by decide +kernel
theorem dX12_init_274 : decode cX12_init 274 = .ok (.sipush 200, 3) := by decide +kernel
theorem dX12_init_277 : decode cX12_init 277 = .ok (.newarray .int, 2) := by decide +kernel
theorem dX12_init_279 : decode cX12_init 279 = .ok (.putfield 114, 3) := by decide +kernel
theorem dX12_init_282 : decode cX12_init 282 = .ok (.aload_n 0, 1) := by decide +kernel
theorem dX12_init_283 : decode cX12_init 283 = .ok (.sipush 200, 3) := by decide +kernel
theorem dX12_init_286 : decode cX12_init 286 = .ok (.newarray .int, 2) := by decide +kernel
theorem dX12_init_288 : decode cX12_init 288 = .ok (.putfield 117, 3) := by decide +kernel
theorem dX12_init_291 : decode cX12_init 291 = .ok (.aload_n 0, 1) := by decide +kernel
theorem dX12_init_292 : decode cX12_init 292 = .ok (.sipush 200, 3) := by decide +kernel
theorem dX12_init_295 : decode cX12_init 295 = .ok (.newarray .long, 2) := by decide +kernel
theorem dX12_init_297 : decode cX12_init 297 = .ok (.putfield 120, 3) := by decide +kernel
theorem dX12_init_300 : decode cX12_init 300 = .ok (.aload_n 0, 1) := by decide +kernel
theorem dX12_init_301 : decode cX12_init 301 = .ok (.sipush 200, 3) := by decide +kernel
theorem dX12_init_304 : decode cX12_init 304 = .ok (.newarray .int, 2) := by decide +kernel
theorem dX12_init_306 : decode cX12_init 306 = .ok (.putfield 124, 3) := by decide +kernel
theorem dX12_init_309 : decode cX12_init 309 = .ok (.aload_n 0, 1) := by decide +kernel
theorem dX12_init_310 : decode cX12_init 310 = .ok (.sipush 200, 3) := by decide +kernel
theorem dX12_init_313 : decode cX12_init 313 = .ok (.newarray .int, 2) := by decide +kernel
theorem dX12_init_315 : decode cX12_init 315 = .ok (.putfield 127, 3) := by decide +kernel
theorem dX12_init_318 : decode cX12_init 318 = .ok (.aload_n 0, 1) := by decide +kernel
theorem dX12_init_319 : decode cX12_init 319 = .ok (.sipush 200, 3) := by decide +kernel
theorem dX12_init_322 : decode cX12_init 322 = .ok (.newarray .int, 2) := by decide +kernel
theorem dX12_init_324 : decode cX12_init 324 = .ok (.putfield 130, 3) := by decide +kernel
theorem dX12_init_327 : decode cX12_init 327 = .ok (.aload_n 0, 1) := by decide +kernel
theorem dX12_init_328 : decode cX12_init 328 = .ok (.sipush 200, 3) := by decide +kernel
theorem dX12_init_331 : decode cX12_init 331 = .ok (.newarray .int, 2) := by decide +kernel
theorem dX12_init_333 : decode cX12_init 333 = .ok (.putfield 133, 3) := by decide +kernel
theorem dX12_init_336 : decode cX12_init 336 = .ok (.aload_n 0, 1) := by decide +kernel
theorem dX12_init_337 : decode cX12_init 337 = .ok (.sipush 200, 3) := by decide +kernel
theorem dX12_init_340 : decode cX12_init 340 = .ok (.newarray .boolean, 2) := by decide +kernel
theorem dX12_init_342 : decode cX12_init 342 = .ok (.putfield 136, 3) := by decide +kernel
theorem dX12_init_345 : decode cX12_init 345 = .ok (.aload_n 0, 1) := by decide +kernel
theorem dX12_init_346 : decode cX12_init 346 = .ok (.sipush 200, 3) := by decide +kernel
theorem dX12_init_349 : decode cX12_init 349 = .ok (.newarray .int, 2) := by decide +kernel
theorem dX12_init_351 : decode cX12_init 351 = .ok (.putfield 139, 3) := by decide +kernel
theorem dX12_init_354 : decode cX12_init 354 = .ok (.aload_n 0, 1) := by decide +kernel
theorem dX12_init_355 : decode cX12_init 355 = .ok (.sipush 200, 3) := by decide +kernel
theorem dX12_init_358 : decode cX12_init 358 = .ok (.newarray .int, 2) := by decide +kernel
theorem dX12_init_360 : decode cX12_init 360 = .ok (.putfield 142, 3) := by decide +kernel
theorem dX12_init_363 : decode cX12_init 363 = .ok (.aload_n 0, 1) := by decide +kernel
theorem dX12_init_364 : decode cX12_init 364 = .ok (.sipush 200, 3) := by decide +kernel
theorem dX12_init_367 : decode cX12_init 367 = .ok (.newarray .boolean, 2) := by decide +kernel
theorem dX12_init_369 : decode cX12_init 369 = .ok (.putfield 145, 3) := by decide +kernel
theorem dX12_init_372 : decode cX12_init 372 = .ok (.aload_n 0, 1) := by decide +kernel
theorem dX12_init_373 : decode cX12_init 373 = .ok (.sipush 200, 3) := by decide +kernel
theorem dX12_init_376 : decode cX12_init 376 = .ok (.newarray .int, 2) := by decide +kernel
theorem dX12_init_378 : decode cX12_init 378 = .ok (.putfield 148, 3) := by decide +kernel
theorem dX12_init_381 : decode cX12_init 381 = .ok (.aload_n 0, 1) := by decide +kernel
theorem dX12_init_382 : decode cX12_init 382 = .ok (.sipush 200, 3) := by decide +kernel
theorem dX12_init_385 : decode cX12_init 385 = .ok (.newarray .int, 2) := by decide +kernel
theorem dX12_init_387 : decode cX12_init 387 = .ok (.putfield 151, 3) := by decide +kernel
theorem dX12_init_390 : decode cX12_init 390 = .ok (.aload_n 0, 1) := by decide +kernel
theorem dX12_init_391 : decode cX12_init 391 = .ok (.sipush 200, 3) := by decide +kernel
theorem dX12_init_394 : decode cX12_init 394 = .ok (.newarray .int, 2) := by decide +kernel
theorem dX12_init_396 : decode cX12_init 396 = .ok (.putfield 154, 3) := by decide +kernel
theorem dX12_init_399 : decode cX12_init 399 = .ok (.aload_n 0, 1) := by decide +kernel
theorem dX12_init_400 : decode cX12_init 400 = .ok (.sipush 200, 3) := by decide +kernel
theorem dX12_init_403 : decode cX12_init 403 = .ok (.newarray .int, 2) := by decide +kernel
theorem dX12_init_405 : decode cX12_init 405 = .ok (.putfield 157, 3) := by decide +kernel
theorem dX12_init_408 : decode cX12_init 408 = .ok (.aload_n 0, 1) := by decide +kernel
theorem dX12_init_409 : decode cX12_init 409 = .ok (.sipush 200, 3) := by decide +kernel
theorem dX12_init_412 : decode cX12_init 412 = .ok (.newarray .int, 2) := by decide +kernel
theorem dX12_init_414 : decode cX12_init 414 = .ok (.putfield 160, 3) := by decide +kernel
theorem dX12_init_417 : decode cX12_init 417 = .ok (.aload_n 0, 1) := by decide +kernel
theorem dX12_init_418 : decode cX12_init 418 = .ok (.sipush 200, 3) := by decide +kernel
theorem dX12_init_421 : decode cX12_init 421 = .ok (.newarray .int, 2) := by decide +kernel
theorem dX12_init_423 : decode cX12_init 423 = .ok (.putfield 163, 3) := by decide +kernel
theorem dX12_init_426 : decode cX12_init 426 = .ok (.aload_n 0, 1) := by decide +kernel
theorem dX12_init_427 : decode cX12_init 427 = .ok (.sipush 200, 3) := by decide +kernel
theorem dX12_init_430 : decode cX12_init 430 = .ok (.newarray .long, 2) := by decide +kernel
theorem dX12_init_432 : decode cX12_init 432 = .ok (.putfield 166, 3) := by decide +kernel
theorem dX12_init_435 : decode cX12_init 435 = .ok (.aload_n 0, 1) := by decide +kernel
theorem dX12_init_436 : decode cX12_init 436 = .ok (.sipush 200, 3) := by decide +kernel
theorem dX12_init_439 : decode cX12_init 439 = .ok (.newarray .int, 2) := by decide +kernel
theorem dX12_init_441 : decode cX12_init 441 = .ok (.putfield 169, 3) := by decide +kernel
theorem dX12_init_444 : decode cX12_init 444 = .ok (.aload_n 0, 1) := by decide +kernel
theorem dX12_init_445 : decode cX12_init 445 = .ok (.sipush 400, 3) := by decide +kernel
theorem dX12_init_448 : decode cX12_init 448 = .ok (.newarray .int, 2) := by decide +kernel
theorem dX12_init_450 : decode cX12_init 450 = .ok (.putfield 172, 3) := by decide +kernel
theorem dX12_init_453 : decode cX12_init 453 = .ok (.aload_n 0, 1) := by decide +kernel
theorem dX12_init_454 : decode cX12_init 454 = .ok (.sipush 400, 3) := by decide +kernel
theorem dX12_init_457 : decode cX12_init 457 = .ok (.newarray .int, 2) := by decide +kernel
theorem dX12_init_459 : decode cX12_init 459 = .ok (.putfield 175, 3) := by decide +kernel
theorem dX12_init_462 : decode cX12_init 462 = .ok (.aload_n 0, 1) := by decide +kernel
theorem dX12_init_463 : decode cX12_init 463 = .ok (.sipush 400, 3) := by decide +kernel
theorem dX12_init_466 : decode cX12_init 466 = .ok (.newarray .int, 2) := by decide +kernel
theorem dX12_init_468 : decode cX12_init 468 = .ok (.putfield 178, 3) := by decide +kernel
theorem dX12_init_471 : decode cX12_init 471 = .ok (.aload_n 0, 1) := by decide +kernel
theorem dX12_init_472 : decode cX12_init 472 = .ok (.sipush 400, 3) := by decide +kernel
theorem dX12_init_475 : decode cX12_init 475 = .ok (.newarray .int, 2) := by decide +kernel
theorem dX12_init_477 : decode cX12_init 477 = .ok (.putfield 181, 3) := by decide +kernel
theorem dX12_init_480 : decode cX12_init 480 = .ok (.aload_n 0, 1) := by decide +kernel
theorem dX12_init_481 : decode cX12_init 481 = .ok (.sipush 400, 3) := by decide +kernel
theorem dX12_init_484 : decode cX12_init 484 = .ok (.newarray .int, 2) := by decide +kernel
theorem dX12_init_486 : decode cX12_init 486 = .ok (.putfield 184, 3) := by decide +kernel
theorem dX12_init_489 : decode cX12_init 489 = .ok (.aload_n 0, 1) := by decide +kernel
theorem dX12_init_490 : decode cX12_init 490 = .ok (.bipush 100, 2) := by decide +kernel
theorem dX12_init_492 : decode cX12_init 492 = .ok (.newarray .int, 2) := by decide +kernel
theorem dX12_init_494 : decode cX12_init 494 = .ok (.putfield 187, 3) := by decide +kernel
theorem dX12_init_497 : decode cX12_init 497 = .ok (.aload_n 0, 1) := by decide +kernel
theorem dX12_init_498 : decode cX12_init 498 = .ok (.sipush 400, 3) := by decide +kernel
theorem dX12_init_501 : decode cX12_init 501 = .ok (.newarray .int, 2) := by decide +kernel
theorem dX12_init_503 : decode cX12_init 503 = .ok (.putfield 190, 3) := by decide +kernel
theorem dX12_init_506 : decode cX12_init 506 = .ok (.aload_n 0, 1) := by decide +kernel
theorem dX12_init_507 : decode cX12_init 507 = .ok (.sipush 400, 3) := by decide +kernel
theorem dX12_init_510 : decode cX12_init 510 = .ok (.newarray .int, 2) := by decide +kernel
theorem dX12_init_512 : decode cX12_init 512 = .ok (.putfield 193, 3) := by decide +kernel
theorem dX12_init_515 : decode cX12_init 515 = .ok (.aload_n 0, 1) := by decide +kernel
theorem dX12_init_516 : decode cX12_init 516 = .ok (.sipush 400, 3) := by decide +kernel
theorem dX12_init_519 : decode cX12_init 519 = .ok (.newarray .int, 2) := by decide +kernel
theorem dX12_init_521 : decode cX12_init 521 = .ok (.putfield 196, 3) := by decide +kernel
theorem dX12_init_524 : decode cX12_init 524 = .ok (.aload_n 0, 1) := by decide +kernel
theorem dX12_init_525 : decode cX12_init 525 = .ok (.sipush 400, 3) := by decide +kernel
theorem dX12_init_528 : decode cX12_init 528 = .ok (.newarray .int, 2) := by decide +kernel
theorem dX12_init_530 : decode cX12_init 530 = .ok (.putfield 199, 3) := by decide +kernel
theorem dX12_init_533 : decode cX12_init 533 = .ok (.aload_n 0, 1) := by decide +kernel
theorem dX12_init_534 : decode cX12_init 534 = .ok (.sipush 400, 3) := by decide +kernel
theorem dX12_init_537 : decode cX12_init 537 = .ok (.newarray .boolean, 2) := by decide +kernel
theorem dX12_init_539 : decode cX12_init 539 = .ok (.putfield 202, 3) := by decide +kernel
theorem dX12_init_542 : decode cX12_init 542 = .ok (.aload_n 0, 1) := by decide +kernel
theorem dX12_init_543 : decode cX12_init 543 = .ok (.sipush 800, 3) := by decide +kernel
theorem dX12_init_546 : decode cX12_init 546 = .ok (.newarray .int, 2) := by decide +kernel
theorem dX12_init_548 : decode cX12_init 548 = .ok (.putfield 205, 3) := by decide +kernel
theorem dX12_init_551 : decode cX12_init 551 = .ok (.aload_n 0, 1) := by decide +kernel
theorem dX12_init_552 : decode cX12_init 552 = .ok (.sipush 800, 3) := by decide +kernel
theorem dX12_init_555 : decode cX12_init 555 = .ok (.newarray .int, 2) := by decide +kernel
theorem dX12_init_557 : decode cX12_init 557 = .ok (.putfield 208, 3) := by decide +kernel
theorem dX12_init_560 : decode cX12_init 560 = .ok (.aload_n 0, 1) := by decide +kernel
theorem dX12_init_561 : decode cX12_init 561 = .ok (.sipush 800, 3) := by decide +kernel
theorem dX12_init_564 : decode cX12_init 564 = .ok (.newarray .long, 2) := by decide +kernel
theorem dX12_init_566 : decode cX12_init 566 = .ok (.putfield 211, 3) := by decide +kernel
theorem dX12_init_569 : decode cX12_init 569 = .ok (.aload_n 0, 1) := by decide +kernel
theorem dX12_init_570 : decode cX12_init 570 = .ok (.sipush 800, 3) := by decide +kernel
theorem dX12_init_573 : decode cX12_init 573 = .ok (.newarray .int, 2) := by decide +kernel
theorem dX12_init_575 : decode cX12_init 575 = .ok (.putfield 214, 3) := by decide +kernel
theorem dX12_init_578 : decode cX12_init 578 = .ok (.aload_n 0, 1) := by decide +kernel
theorem dX12_init_579 : decode cX12_init 579 = .ok (.sipush 800, 3) := by decide +kernel
theorem dX12_init_582 : decode cX12_init 582 = .ok (.newarray .int, 2) := by decide +kernel
theorem dX12_init_584 : decode cX12_init 584 = .ok (.putfield 217, 3) := by decide +kernel
theorem dX12_init_587 : decode cX12_init 587 = .ok (.aload_n 0, 1) := by decide +kernel
theorem dX12_init_588 : decode cX12_init 588 = .ok (.sipush 800, 3) := by decide +kernel
theorem dX12_init_591 : decode cX12_init 591 = .ok (.newarray .int, 2) := by decide +kernel
theorem dX12_init_593 : decode cX12_init 593 = .ok (.putfield 220, 3) := by decide +kernel
theorem dX12_init_596 : decode cX12_init 596 = .ok (.aload_n 0, 1) := by decide +kernel
theorem dX12_init_597 : decode cX12_init 597 = .ok (.sipush 800, 3) := by decide +kernel
theorem dX12_init_600 : decode cX12_init 600 = .ok (.newarray .boolean, 2) := by decide +kernel
theorem dX12_init_602 : decode cX12_init 602 = .ok (.putfield 223, 3) := by decide +kernel
theorem dX12_init_605 : decode cX12_init 605 = .ok (.aload_n 0, 1) := by decide +kernel
theorem dX12_init_606 : decode cX12_init 606 = .ok (.sipush 400, 3) := by decide +kernel
theorem dX12_init_609 : decode cX12_init 609 = .ok (.newarray .int, 2) := by decide +kernel
theorem dX12_init_611 : decode cX12_init 611 = .ok (.putfield 226, 3) := by decide +kernel
theorem dX12_init_614 : decode cX12_init 614 = .ok (.aload_n 0, 1) := by decide +kernel
theorem dX12_init_615 : decode cX12_init 615 = .ok (.sipush 400, 3) := by decide +kernel
theorem dX12_init_618 : decode cX12_init 618 = .ok (.newarray .int, 2) := by decide +kernel
theorem dX12_init_620 : decode cX12_init 620 = .ok (.putfield 229, 3) := by decide +kernel
theorem dX12_init_623 : decode cX12_init 623 = .ok (.aload_n 0, 1) := by decide +kernel
theorem dX12_init_624 : decode cX12_init 624 = .ok (.sipush 400, 3) := by decide +kernel
theorem dX12_init_627 : decode cX12_init 627 = .ok (.newarray .int, 2) := by decide +kernel
theorem dX12_init_629 : decode cX12_init 629 = .ok (.putfield 232, 3) := by decide +kernel
theorem dX12_init_632 : decode cX12_init 632 = .ok (.aload_n 0, 1) := by decide +kernel
theorem dX12_init_633 : decode cX12_init 633 = .ok (.sipush 1500, 3) := by decide +kernel
theorem dX12_init_636 : decode cX12_init 636 = .ok (.newarray .int, 2) := by decide +kernel
theorem dX12_init_638 : decode cX12_init 638 = .ok (.putfield 235, 3) := by decide +kernel
theorem dX12_init_641 : decode cX12_init 641 = .ok (.aload_n 0, 1) := by decide +kernel
theorem dX12_init_642 : decode cX12_init 642 = .ok (.bipush 40, 2) := by decide +kernel
theorem dX12_init_644 : decode cX12_init 644 = .ok (.newarray .int, 2) := by decide +kernel
theorem dX12_init_646 : decode cX12_init 646 = .ok (.putfield 238, 3) := by decide +kernel
theorem dX12_init_649 : decode cX12_init 649 = .ok (.aload_n 0, 1) := by decide +kernel
theorem dX12_init_650 : decode cX12_init 650 = .ok (.bipush 40, 2) := by decide +kernel
theorem dX12_init_652 : decode cX12_init 652 = .ok (.newarray .int, 2) := by decide +kernel
theorem dX12_init_654 : decode cX12_init 654 = .ok (.putfield 241, 3) := by decide +kernel
theorem dX12_init_657 : decode cX12_init 657 = .ok (.aload_n 0, 1) := by decide +kernel
theorem dX12_init_658 : decode cX12_init 658 = .ok (.bipush 40, 2) := by decide +kernel
theorem dX12_init_660 : decode cX12_init 660 = .ok (.newarray .int, 2) := by decide +kernel
theorem dX12_init_662 : decode cX12_init 662 = .ok (.putfield 244, 3) := by decide +kernel
theorem dX12_init_665 : decode cX12_init 665 = .ok (.aload_n 0, 1) := by decide +kernel
theorem dX12_init_666 : decode cX12_init 666 = .ok (.bipush 40, 2) := by decide +kernel
theorem dX12_init_668 : decode cX12_init 668 = .ok (.newarray .int, 2) := by decide +kernel
theorem dX12_init_670 : decode cX12_init 670 = .ok (.putfield 247, 3) := by decide +kernel
theorem dX12_init_673 : decode cX12_init 673 = .ok (.aload_n 0, 1) := by decide +kernel
theorem dX12_init_674 : decode cX12_init 674 = .ok (.bipush 20, 2) := by decide +kernel
theorem dX12_init_676 : decode cX12_init 676 = .ok (.newarray .int, 2) := by decide +kernel
theorem dX12_init_678 : decode cX12_init 678 = .ok (.putfield 250, 3) := by decide +kernel
theorem dX12_init_681 : decode cX12_init 681 = .ok (.aload_n 0, 1) := by decide +kernel
theorem dX12_init_682 : decode cX12_init 682 = .ok (.sipush 256, 3) := by decide +kernel
theorem dX12_init_685 : decode cX12_init 685 = .ok (.newarray .boolean, 2) := by decide +kernel
theorem dX12_init_687 : decode cX12_init 687 = .ok (.putfield 253, 3) := by decide +kernel
theorem dX12_init_690 : decode cX12_init 690 = .ok (.aload_n 0, 1) := by decide +kernel
theorem dX12_init_691 : decode cX12_init 691 = .ok (.sipush 260, 3) := by decide +kernel
theorem dX12_init_694 : decode cX12_init 694 = .ok (.newarray .int, 2) := by decide +kernel
theorem dX12_init_696 : decode cX12_init 696 = .ok (.putfield 256, 3) := by decide +kernel
theorem dX12_init_699 : decode cX12_init 699 = .ok (.aload_n 0, 1) := by decide +kernel
theorem dX12_init_700 : decode cX12_init 700 = .ok (.sipush 260, 3) := by decide +kernel
theorem dX12_init_703 : decode cX12_init 703 = .ok (.newarray .int, 2) := by decide +kernel
theorem dX12_init_705 : decode cX12_init 705 = .ok (.putfield 259, 3) := by decide +kernel
theorem dX12_init_708 : decode cX12_init 708 = .ok (.aload_n 0, 1) := by decide +kernel
theorem dX12_init_709 : decode cX12_init 709 = .ok (.sipush 260, 3) := by decide +kernel
theorem dX12_init_712 : decode cX12_init 712 = .ok (.newarray .int, 2) := by decide +kernel
theorem dX12_init_714 : decode cX12_init 714 = .ok (.putfield 262, 3) := by decide +kernel
theorem dX12_init_717 : decode cX12_init 717 = .ok (.return_, 1) := by decide +kernel
end
section
/-- a fresh reference, its object at 1101, its rows up to 1184 -/
def pm_new (M : Nat → mm_C) : Prop := M 1101 = .inr (12, (.ref 1102 :: .int 0 :: .ref 1103 :: .int 0 :: .int 0 :: .int 0 :: .int (-1) :: .ref 1104 :: .ref 1105 :: .ref 1106 :: .ref 1107 :: .ref 1108 :: .ref 1109 :: .ref 1110 :: .ref 1111 :: .ref 1112 :: .ref 1113 :: .ref 1114 :: .ref 1115 :: .ref 1116 :: .ref 1117 :: .ref 1118 :: .ref 1119 :: .ref 1120 :: .ref 1121 :: .ref 1122 :: .ref 1123 :: .ref 1124 :: .ref 1125 :: .ref 1126 :: .ref 1127 :: .int 0 :: .int 0 :: .int 0 :: .int 0 :: .int 0 :: .int 0 :: .int 0 :: .int 0 :: .ref 1128 :: .ref 1129 :: .ref 1130 :: .ref 1131 :: .ref 1132 :: .ref 1133 :: .ref 1134 :: .ref 1135 :: .ref 1136 :: .ref 1137 :: .ref 1138 :: .ref 1139 :: .ref 1140 :: .ref 1141 :: .ref 1142 :: .ref 1143 :: .ref 1144 :: .ref 1145 :: .ref 1146 :: .ref 1147 :: .ref 1148 :: .ref 1149 :: .ref 1150 :: .ref 1151 :: .ref 1152 :: .ref 1153 :: .ref 1154 :: .ref 1155 :: .ref 1156 :: .ref 1157 :: .ref 1158 :: .int 0 :: .int 0 :: .int 0 :: .int 0 :: .int 0 :: .int 0 :: .int 0 :: .long 0 :: .ref 1159 :: .int 0 :: .int 0 :: .int 0 :: .int 0 :: .int 0 :: .int 0 :: .int 0 :: .ref 1160 :: .ref 1161 :: .ref 1162 :: .ref 1163 :: .ref 1164 :: .ref 1165 :: .ref 1166 :: .ref 1167 :: .ref 1168 :: .ref 1169 :: .ref 1170 :: .ref 1171 :: .ref 1172 :: .ref 1173 :: .ref 1174 :: .ref 1175 :: .ref 1176 :: .ref 1177 :: .ref 1178 :: .ref 1179 :: .int 0 :: .int 0 :: .long 0 :: .int 0 :: .ref 1180 :: .ref 1181 :: .ref 1182 :: .ref 1183 :: .ref 1184 :: [])) ∧
  M 1102 = .inl (0, 700, .inl (fun _ => 0)) ∧
  M 1103 = .inl (0, 4000, .inl (fun _ => 0)) ∧
  M 1104 = .inl (0, 2, .inl (fun _ => 0)) ∧
  M 1105 = .inl (0, 2, .inl (fun _ => 0)) ∧
  M 1106 = .inl (0, 2, .inl (fun _ => 0)) ∧
  M 1107 = .inl (0, 2, .inl (fun _ => 0)) ∧
  M 1108 = .inl (0, 32, .inl (fun _ => 0)) ∧
  M 1109 = .inl (0, 32, .inl (fun _ => 0)) ∧
  M 1110 = .inl (0, 32, .inl (fun _ => 0)) ∧
  M 1111 = .inl (0, 16, .inl (fun _ => 0)) ∧
  M 1112 = .inl (0, 16, .inl (fun _ => 0)) ∧
  M 1113 = .inl (0, 16, .inl (fun _ => 0)) ∧
  M 1114 = .inl (0, 120, .inl (fun _ => 0)) ∧
  M 1115 = .inl (0, 120, .inl (fun _ => 0)) ∧
  M 1116 = .inl (0, 120, .inl (fun _ => 0)) ∧
  M 1117 = .inl (0, 120, .inl (fun _ => 0)) ∧
  M 1118 = .inl (0, 120, .inl (fun _ => 0)) ∧
  M 1119 = .inl (0, 120, .inl (fun _ => 0)) ∧
  M 1120 = .inl (3, 120, .inl (fun _ => 0)) ∧
  M 1121 = .inl (3, 120, .inl (fun _ => 0)) ∧
  M 1122 = .inl (0, 120, .inl (fun _ => 0)) ∧
  M 1123 = .inl (0, 80, .inl (fun _ => 0)) ∧
  M 1124 = .inl (0, 80, .inl (fun _ => 0)) ∧
  M 1125 = .inl (0, 80, .inl (fun _ => 0)) ∧
  M 1126 = .inl (0, 80, .inl (fun _ => 0)) ∧
  M 1127 = .inl (0, 1200, .inl (fun _ => 0)) ∧
  M 1128 = .inl (0, 100, .inl (fun _ => 0)) ∧
  M 1129 = .inl (0, 100, .inl (fun _ => 0)) ∧
  M 1130 = .inl (0, 100, .inl (fun _ => 0)) ∧
  M 1131 = .inl (0, 100, .inl (fun _ => 0)) ∧
  M 1132 = .inl (0, 100, .inl (fun _ => 0)) ∧
  M 1133 = .inl (0, 100, .inl (fun _ => 0)) ∧
  M 1134 = .inl (0, 200, .inl (fun _ => 0)) ∧
  M 1135 = .inl (0, 200, .inl (fun _ => 0)) ∧
  M 1136 = .inl (0, 200, .inl (fun _ => 0)) ∧
  M 1137 = .inl (1, 200, .inr (.inl (fun _ => 0))) ∧
  M 1138 = .inl (0, 200, .inl (fun _ => 0)) ∧
  M 1139 = .inl (0, 200, .inl (fun _ => 0)) ∧
  M 1140 = .inl (0, 200, .inl (fun _ => 0)) ∧
  M 1141 = .inl (0, 200, .inl (fun _ => 0)) ∧
  M 1142 = .inl (3, 200, .inl (fun _ => 0)) ∧
  M 1143 = .inl (0, 200, .inl (fun _ => 0)) ∧
  M 1144 = .inl (0, 200, .inl (fun _ => 0)) ∧
  M 1145 = .inl (3, 200, .inl (fun _ => 0)) ∧
  M 1146 = .inl (0, 200, .inl (fun _ => 0)) ∧
  M 1147 = .inl (0, 200, .inl (fun _ => 0)) ∧
  M 1148 = .inl (0, 200, .inl (fun _ => 0)) ∧
  M 1149 = .inl (0, 200, .inl (fun _ => 0)) ∧
  M 1150 = .inl (0, 200, .inl (fun _ => 0)) ∧
  M 1151 = .inl (0, 200, .inl (fun _ => 0)) ∧
  M 1152 = .inl (1, 200, .inr (.inl (fun _ => 0))) ∧
  M 1153 = .inl (0, 200, .inl (fun _ => 0)) ∧
  M 1154 = .inl (0, 400, .inl (fun _ => 0)) ∧
  M 1155 = .inl (0, 400, .inl (fun _ => 0)) ∧
  M 1156 = .inl (0, 400, .inl (fun _ => 0)) ∧
  M 1157 = .inl (0, 400, .inl (fun _ => 0)) ∧
  M 1158 = .inl (0, 400, .inl (fun _ => 0)) ∧
  M 1159 = .inl (0, 100, .inl (fun _ => 0)) ∧
  M 1160 = .inl (0, 400, .inl (fun _ => 0)) ∧
  M 1161 = .inl (0, 400, .inl (fun _ => 0)) ∧
  M 1162 = .inl (0, 400, .inl (fun _ => 0)) ∧
  M 1163 = .inl (0, 400, .inl (fun _ => 0)) ∧
  M 1164 = .inl (3, 400, .inl (fun _ => 0)) ∧
  M 1165 = .inl (0, 800, .inl (fun _ => 0)) ∧
  M 1166 = .inl (0, 800, .inl (fun _ => 0)) ∧
  M 1167 = .inl (1, 800, .inr (.inl (fun _ => 0))) ∧
  M 1168 = .inl (0, 800, .inl (fun _ => 0)) ∧
  M 1169 = .inl (0, 800, .inl (fun _ => 0)) ∧
  M 1170 = .inl (0, 800, .inl (fun _ => 0)) ∧
  M 1171 = .inl (3, 800, .inl (fun _ => 0)) ∧
  M 1172 = .inl (0, 400, .inl (fun _ => 0)) ∧
  M 1173 = .inl (0, 400, .inl (fun _ => 0)) ∧
  M 1174 = .inl (0, 400, .inl (fun _ => 0)) ∧
  M 1175 = .inl (0, 1500, .inl (fun _ => 0)) ∧
  M 1176 = .inl (0, 40, .inl (fun _ => 0)) ∧
  M 1177 = .inl (0, 40, .inl (fun _ => 0)) ∧
  M 1178 = .inl (0, 40, .inl (fun _ => 0)) ∧
  M 1179 = .inl (0, 40, .inl (fun _ => 0)) ∧
  M 1180 = .inl (0, 20, .inl (fun _ => 0)) ∧
  M 1181 = .inl (3, 256, .inl (fun _ => 0)) ∧
  M 1182 = .inl (0, 260, .inl (fun _ => 0)) ∧
  M 1183 = .inl (0, 260, .inl (fun _ => 0)) ∧
  M 1184 = .inl (0, 260, .inl (fun _ => 0))

set_option maxHeartbeats 4000000 in
set_option maxRecDepth 100000 in
theorem c_X12_init {g : mm_G} {l : Launch} (hst : l.stackTraces = false) {d : Nat} (M : Nat → mm_C) (hm : M 1101 = .inr (12, (.null :: .int 0 :: .null :: .int 0 :: .int 0 :: .int 0 :: .int 0 :: .null :: .null :: .null :: .null :: .null :: .null :: .null :: .null :: .null :: .null :: .null :: .null :: .null :: .null :: .null :: .null :: .null :: .null :: .null :: .null :: .null :: .null :: .null :: .null :: .int 0 :: .int 0 :: .int 0 :: .int 0 :: .int 0 :: .int 0 :: .int 0 :: .int 0 :: .null :: .null :: .null :: .null :: .null :: .null :: .null :: .null :: .null :: .null :: .null :: .null :: .null :: .null :: .null :: .null :: .null :: .null :: .null :: .null :: .null :: .null :: .null :: .null :: .null :: .null :: .null :: .null :: .null :: .null :: .null :: .int 0 :: .int 0 :: .int 0 :: .int 0 :: .int 0 :: .int 0 :: .int 0 :: .long 0 :: .null :: .int 0 :: .int 0 :: .int 0 :: .int 0 :: .int 0 :: .int 0 :: .int 0 :: .null :: .null :: .null :: .null :: .null :: .null :: .null :: .null :: .null :: .null :: .null :: .null :: .null :: .null :: .null :: .null :: .null :: .null :: .null :: .null :: .int 0 :: .int 0 :: .long 0 :: .int 0 :: .null :: .null :: .null :: .null :: .null :: []))) : mm_Cm g l yX12_init (.code yX12_init cX12_init 1 none) d 83 25668 [.ref 1101] (M, 1102, false) (fun v S' => v = none ∧ S'.2 = (1185, false) ∧ pm_new S'.1 ∧ ∀ j, j < 1101 → S'.1 j = M j) := by
  refine mm_Cm_of hst (by decide) (Nat.le_of_ble_eq_true rfl) ?_
  show mm_V g l RX12 "<init>" cX12_init 1 none [] d 83 25668 _ 0 [some (.ref 1101)] [] (M, 1102, false) 0 0
  refine mm_aload_n dX12_init_0 rfl rfl ?_
  refine mm_oinit kM_X12_1 wO_i wO_c (Nat.le_of_ble_eq_true rfl) dX12_init_1 ?_
  refine mm_aload_n dX12_init_4 rfl rfl ?_
  refine mm_sipush (v := 700) dX12_init_5 (by decide) ?_
  refine mm_newa3 (atype := .int) (n1 := 1103) (t := 0) (N := 700) (cl := .inl (0, 700, .inl (fun _ => 0))) (a0 := (700, .inl (fun _ => 0))) (fun _ => rfl) (fun _ => rfl) wA_int rfl (fun _ => rfl) (by decide) rfl (by decide) (by omega) (by omega) dX12_init_8 rfl ?_
  refine mm_putF3 (ci := 12) (fs1 := (.ref 1102 :: .int 0 :: .null :: .int 0 :: .int 0 :: .int 0 :: .int 0 :: .null :: .null :: .null :: .null :: .null :: .null :: .null :: .null :: .null :: .null :: .null :: .null :: .null :: .null :: .null :: .null :: .null :: .null :: .null :: .null :: .null :: .null :: .null :: .null :: .int 0 :: .int 0 :: .int 0 :: .int 0 :: .int 0 :: .int 0 :: .int 0 :: .int 0 :: .null :: .null :: .null :: .null :: .null :: .null :: .null :: .null :: .null :: .null :: .null :: .null :: .null :: .null :: .null :: .null :: .null :: .null :: .null :: .null :: .null :: .null :: .null :: .null :: .null :: .null :: .null :: .null :: .null :: .null :: .null :: .int 0 :: .int 0 :: .int 0 :: .int 0 :: .int 0 :: .int 0 :: .int 0 :: .long 0 :: .null :: .int 0 :: .int 0 :: .int 0 :: .int 0 :: .int 0 :: .int 0 :: .int 0 :: .null :: .null :: .null :: .null :: .null :: .null :: .null :: .null :: .null :: .null :: .null :: .null :: .null :: .null :: .null :: .null :: .null :: .null :: .null :: .null :: .int 0 :: .int 0 :: .long 0 :: .int 0 :: .null :: .null :: .null :: .null :: .null :: [])) in_X12 tyX12_ok nmX12 rfl (k := 0) (by decide) rfl rfl rfl rfl kF_X12_7 dX12_init_10 (mm_fit_arr _ _) (mm_upN (by decide) hm) (by decide) (Nat.le_of_ble_eq_true rfl) rfl ?_
  refine mm_aload_n dX12_init_13 rfl rfl ?_
  refine mm_sipush (v := 4000) dX12_init_14 (by decide) ?_
  refine mm_newa3 (atype := .int) (n1 := 1104) (t := 0) (N := 4000) (cl := .inl (0, 4000, .inl (fun _ => 0))) (a0 := (4000, .inl (fun _ => 0))) (fun _ => rfl) (fun _ => rfl) wA_int rfl (fun _ => rfl) (by decide) rfl (by decide) (by omega) (by omega) dX12_init_17 rfl ?_
  refine mm_putF3 (ci := 12) (fs1 := (.ref 1102 :: .int 0 :: .ref 1103 :: .int 0 :: .int 0 :: .int 0 :: .int 0 :: .null :: .null :: .null :: .null :: .null :: .null :: .null :: .null :: .null :: .null :: .null :: .null :: .null :: .null :: .null :: .null :: .null :: .null :: .null :: .null :: .null :: .null :: .null :: .null :: .int 0 :: .int 0 :: .int 0 :: .int 0 :: .int 0 :: .int 0 :: .int 0 :: .int 0 :: .null :: .null :: .null :: .null :: .null :: .null :: .null :: .null :: .null :: .null :: .null :: .null :: .null :: .null :: .null :: .null :: .null :: .null :: .null :: .null :: .null :: .null :: .null :: .null :: .null :: .null :: .null :: .null :: .null :: .null :: .null :: .int 0 :: .int 0 :: .int 0 :: .int 0 :: .int 0 :: .int 0 :: .int 0 :: .long 0 :: .null :: .int 0 :: .int 0 :: .int 0 :: .int 0 :: .int 0 :: .int 0 :: .int 0 :: .null :: .null :: .null :: .null :: .null :: .null :: .null :: .null :: .null :: .null :: .null :: .null :: .null :: .null :: .null :: .null :: .null :: .null :: .null :: .null :: .int 0 :: .int 0 :: .long 0 :: .int 0 :: .null :: .null :: .null :: .null :: .null :: [])) in_X12 tyX12_ok nmX12 rfl (k := 2) (by decide) rfl rfl rfl rfl kF_X12_13 dX12_init_19 (mm_fit_arr _ _) rfl (by decide) (Nat.le_of_ble_eq_true rfl) rfl ?_
  refine mm_aload_n dX12_init_22 rfl rfl ?_
  refine mm_iconst (v := (-1)) dX12_init_23 (by decide) ?_
  refine mm_put3 (ci := 12) (fs1 := (.ref 1102 :: .int 0 :: .ref 1103 :: .int 0 :: .int 0 :: .int 0 :: .int (-1) :: .null :: .null :: .null :: .null :: .null :: .null :: .null :: .null :: .null :: .null :: .null :: .null :: .null :: .null :: .null :: .null :: .null :: .null :: .null :: .null :: .null :: .null :: .null :: .null :: .int 0 :: .int 0 :: .int 0 :: .int 0 :: .int 0 :: .int 0 :: .int 0 :: .int 0 :: .null :: .null :: .null :: .null :: .null :: .null :: .null :: .null :: .null :: .null :: .null :: .null :: .null :: .null :: .null :: .null :: .null :: .null :: .null :: .null :: .null :: .null :: .null :: .null :: .null :: .null :: .null :: .null :: .null :: .null :: .null :: .int 0 :: .int 0 :: .int 0 :: .int 0 :: .int 0 :: .int 0 :: .int 0 :: .long 0 :: .null :: .int 0 :: .int 0 :: .int 0 :: .int 0 :: .int 0 :: .int 0 :: .int 0 :: .null :: .null :: .null :: .null :: .null :: .null :: .null :: .null :: .null :: .null :: .null :: .null :: .null :: .null :: .null :: .null :: .null :: .null :: .null :: .null :: .int 0 :: .int 0 :: .long 0 :: .int 0 :: .null :: .null :: .null :: .null :: .null :: [])) in_X12 tyX12_ok nmX12 rfl (k := 6) (by decide) rfl rfl kF_X12_16 dX12_init_24 (mm_fit_int _) rfl (by decide) (Nat.le_of_ble_eq_true rfl) rfl ?_
  refine mm_aload_n dX12_init_27 rfl rfl ?_
  refine mm_iconst (v := 2) dX12_init_28 (by decide) ?_
  refine mm_newa3 (atype := .int) (n1 := 1105) (t := 0) (N := 2) (cl := .inl (0, 2, .inl (fun _ => 0))) (a0 := (2, .inl (fun _ => 0))) (fun _ => rfl) (fun _ => rfl) wA_int rfl (fun _ => rfl) (by decide) rfl (by decide) (by omega) (by omega) dX12_init_29 rfl ?_
  refine mm_putF3 (ci := 12) (fs1 := (.ref 1102 :: .int 0 :: .ref 1103 :: .int 0 :: .int 0 :: .int 0 :: .int (-1) :: .ref 1104 :: .null :: .null :: .null :: .null :: .null :: .null :: .null :: .null :: .null :: .null :: .null :: .null :: .null :: .null :: .null :: .null :: .null :: .null :: .null :: .null :: .null :: .null :: .null :: .int 0 :: .int 0 :: .int 0 :: .int 0 :: .int 0 :: .int 0 :: .int 0 :: .int 0 :: .null :: .null :: .null :: .null :: .null :: .null :: .null :: .null :: .null :: .null :: .null :: .null :: .null :: .null :: .null :: .null :: .null :: .null :: .null :: .null :: .null :: .null :: .null :: .null :: .null :: .null :: .null :: .null :: .null :: .null :: .null :: .int 0 :: .int 0 :: .int 0 :: .int 0 :: .int 0 :: .int 0 :: .int 0 :: .long 0 :: .null :: .int 0 :: .int 0 :: .int 0 :: .int 0 :: .int 0 :: .int 0 :: .int 0 :: .null :: .null :: .null :: .null :: .null :: .null :: .null :: .null :: .null :: .null :: .null :: .null :: .null :: .null :: .null :: .null :: .null :: .null :: .null :: .null :: .int 0 :: .int 0 :: .long 0 :: .int 0 :: .null :: .null :: .null :: .null :: .null :: [])) in_X12 tyX12_ok nmX12 rfl (k := 7) (by decide) rfl rfl rfl rfl kF_X12_20 dX12_init_31 (mm_fit_arr _ _) rfl (by decide) (Nat.le_of_ble_eq_true rfl) rfl ?_
  refine mm_aload_n dX12_init_34 rfl rfl ?_
  refine mm_iconst (v := 2) dX12_init_35 (by decide) ?_
  refine mm_newa3 (atype := .int) (n1 := 1106) (t := 0) (N := 2) (cl := .inl (0, 2, .inl (fun _ => 0))) (a0 := (2, .inl (fun _ => 0))) (fun _ => rfl) (fun _ => rfl) wA_int rfl (fun _ => rfl) (by decide) rfl (by decide) (by omega) (by omega) dX12_init_36 rfl ?_
  refine mm_putF3 (ci := 12) (fs1 := (.ref 1102 :: .int 0 :: .ref 1103 :: .int 0 :: .int 0 :: .int 0 :: .int (-1) :: .ref 1104 :: .ref 1105 :: .null :: .null :: .null :: .null :: .null :: .null :: .null :: .null :: .null :: .null :: .null :: .null :: .null :: .null :: .null :: .null :: .null :: .null :: .null :: .null :: .null :: .null :: .int 0 :: .int 0 :: .int 0 :: .int 0 :: .int 0 :: .int 0 :: .int 0 :: .int 0 :: .null :: .null :: .null :: .null :: .null :: .null :: .null :: .null :: .null :: .null :: .null :: .null :: .null :: .null :: .null :: .null :: .null :: .null :: .null :: .null :: .null :: .null :: .null :: .null :: .null :: .null :: .null :: .null :: .null :: .null :: .null :: .int 0 :: .int 0 :: .int 0 :: .int 0 :: .int 0 :: .int 0 :: .int 0 :: .long 0 :: .null :: .int 0 :: .int 0 :: .int 0 :: .int 0 :: .int 0 :: .int 0 :: .int 0 :: .null :: .null :: .null :: .null :: .null :: .null :: .null :: .null :: .null :: .null :: .null :: .null :: .null :: .null :: .null :: .null :: .null :: .null :: .null :: .null :: .int 0 :: .int 0 :: .long 0 :: .int 0 :: .null :: .null :: .null :: .null :: .null :: [])) in_X12 tyX12_ok nmX12 rfl (k := 8) (by decide) rfl rfl rfl rfl kF_X12_23 dX12_init_38 (mm_fit_arr _ _) rfl (by decide) (Nat.le_of_ble_eq_true rfl) rfl ?_
  refine mm_aload_n dX12_init_41 rfl rfl ?_
  refine mm_iconst (v := 2) dX12_init_42 (by decide) ?_
  refine mm_newa3 (atype := .int) (n1 := 1107) (t := 0) (N := 2) (cl := .inl (0, 2, .inl (fun _ => 0))) (a0 := (2, .inl (fun _ => 0))) (fun _ => rfl) (fun _ => rfl) wA_int rfl (fun _ => rfl) (by decide) rfl (by decide) (by omega) (by omega) dX12_init_43 rfl ?_
  refine mm_putF3 (ci := 12) (fs1 := (.ref 1102 :: .int 0 :: .ref 1103 :: .int 0 :: .int 0 :: .int 0 :: .int (-1) :: .ref 1104 :: .ref 1105 :: .ref 1106 :: .null :: .null :: .null :: .null :: .null :: .null :: .null :: .null :: .null :: .null :: .null :: .null :: .null :: .null :: .null :: .null :: .null :: .null :: .null :: .null :: .null :: .int 0 :: .int 0 :: .int 0 :: .int 0 :: .int 0 :: .int 0 :: .int 0 :: .int 0 :: .null :: .null :: .null :: .null :: .null :: .null :: .null :: .null :: .null :: .null :: .null :: .null :: .null :: .null :: .null :: .null :: .null :: .null :: .null :: .null :: .null :: .null :: .null :: .null :: .null :: .null :: .null :: .null :: .null :: .null :: .null :: .int 0 :: .int 0 :: .int 0 :: .int 0 :: .int 0 :: .int 0 :: .int 0 :: .long 0 :: .null :: .int 0 :: .int 0 :: .int 0 :: .int 0 :: .int 0 :: .int 0 :: .int 0 :: .null :: .null :: .null :: .null :: .null :: .null :: .null :: .null :: .null :: .null :: .null :: .null :: .null :: .null :: .null :: .null :: .null :: .null :: .null :: .null :: .int 0 :: .int 0 :: .long 0 :: .int 0 :: .null :: .null :: .null :: .null :: .null :: [])) in_X12 tyX12_ok nmX12 rfl (k := 9) (by decide) rfl rfl rfl rfl kF_X12_26 dX12_init_45 (mm_fit_arr _ _) rfl (by decide) (Nat.le_of_ble_eq_true rfl) rfl ?_
  refine mm_aload_n dX12_init_48 rfl rfl ?_
  refine mm_iconst (v := 2) dX12_init_49 (by decide) ?_
  refine mm_newa3 (atype := .int) (n1 := 1108) (t := 0) (N := 2) (cl := .inl (0, 2, .inl (fun _ => 0))) (a0 := (2, .inl (fun _ => 0))) (fun _ => rfl) (fun _ => rfl) wA_int rfl (fun _ => rfl) (by decide) rfl (by decide) (by omega) (by omega) dX12_init_50 rfl ?_
  refine mm_putF3 (ci := 12) (fs1 := (.ref 1102 :: .int 0 :: .ref 1103 :: .int 0 :: .int 0 :: .int 0 :: .int (-1) :: .ref 1104 :: .ref 1105 :: .ref 1106 :: .ref 1107 :: .null :: .null :: .null :: .null :: .null :: .null :: .null :: .null :: .null :: .null :: .null :: .null :: .null :: .null :: .null :: .null :: .null :: .null :: .null :: .null :: .int 0 :: .int 0 :: .int 0 :: .int 0 :: .int 0 :: .int 0 :: .int 0 :: .int 0 :: .null :: .null :: .null :: .null :: .null :: .null :: .null :: .null :: .null :: .null :: .null :: .null :: .null :: .null :: .null :: .null :: .null :: .null :: .null :: .null :: .null :: .null :: .null :: .null :: .null :: .null :: .null :: .null :: .null :: .null :: .null :: .int 0 :: .int 0 :: .int 0 :: .int 0 :: .int 0 :: .int 0 :: .int 0 :: .long 0 :: .null :: .int 0 :: .int 0 :: .int 0 :: .int 0 :: .int 0 :: .int 0 :: .int 0 :: .null :: .null :: .null :: .null :: .null :: .null :: .null :: .null :: .null :: .null :: .null :: .null :: .null :: .null :: .null :: .null :: .null :: .null :: .null :: .null :: .int 0 :: .int 0 :: .long 0 :: .int 0 :: .null :: .null :: .null :: .null :: .null :: [])) in_X12 tyX12_ok nmX12 rfl (k := 10) (by decide) rfl rfl rfl rfl kF_X12_29 dX12_init_52 (mm_fit_arr _ _) rfl (by decide) (Nat.le_of_ble_eq_true rfl) rfl ?_
  refine mm_aload_n dX12_init_55 rfl rfl ?_
  refine mm_bipush (v := 32) dX12_init_56 (by decide) ?_
  refine mm_newa3 (atype := .int) (n1 := 1109) (t := 0) (N := 32) (cl := .inl (0, 32, .inl (fun _ => 0))) (a0 := (32, .inl (fun _ => 0))) (fun _ => rfl) (fun _ => rfl) wA_int rfl (fun _ => rfl) (by decide) rfl (by decide) (by omega) (by omega) dX12_init_58 rfl ?_
  refine mm_putF3 (ci := 12) (fs1 := (.ref 1102 :: .int 0 :: .ref 1103 :: .int 0 :: .int 0 :: .int 0 :: .int (-1) :: .ref 1104 :: .ref 1105 :: .ref 1106 :: .ref 1107 :: .ref 1108 :: .null :: .null :: .null :: .null :: .null :: .null :: .null :: .null :: .null :: .null :: .null :: .null :: .null :: .null :: .null :: .null :: .null :: .null :: .null :: .int 0 :: .int 0 :: .int 0 :: .int 0 :: .int 0 :: .int 0 :: .int 0 :: .int 0 :: .null :: .null :: .null :: .null :: .null :: .null :: .null :: .null :: .null :: .null :: .null :: .null :: .null :: .null :: .null :: .null :: .null :: .null :: .null :: .null :: .null :: .null :: .null :: .null :: .null :: .null :: .null :: .null :: .null :: .null :: .null :: .int 0 :: .int 0 :: .int 0 :: .int 0 :: .int 0 :: .int 0 :: .int 0 :: .long 0 :: .null :: .int 0 :: .int 0 :: .int 0 :: .int 0 :: .int 0 :: .int 0 :: .int 0 :: .null :: .null :: .null :: .null :: .null :: .null :: .null :: .null :: .null :: .null :: .null :: .null :: .null :: .null :: .null :: .null :: .null :: .null :: .null :: .null :: .int 0 :: .int 0 :: .long 0 :: .int 0 :: .null :: .null :: .null :: .null :: .null :: [])) in_X12 tyX12_ok nmX12 rfl (k := 11) (by decide) rfl rfl rfl rfl kF_X12_32 dX12_init_60 (mm_fit_arr _ _) rfl (by decide) (Nat.le_of_ble_eq_true rfl) rfl ?_
  refine mm_aload_n dX12_init_63 rfl rfl ?_
  refine mm_bipush (v := 32) dX12_init_64 (by decide) ?_
  refine mm_newa3 (atype := .int) (n1 := 1110) (t := 0) (N := 32) (cl := .inl (0, 32, .inl (fun _ => 0))) (a0 := (32, .inl (fun _ => 0))) (fun _ => rfl) (fun _ => rfl) wA_int rfl (fun _ => rfl) (by decide) rfl (by decide) (by omega) (by omega) dX12_init_66 rfl ?_
  refine mm_putF3 (ci := 12) (fs1 := (.ref 1102 :: .int 0 :: .ref 1103 :: .int 0 :: .int 0 :: .int 0 :: .int (-1) :: .ref 1104 :: .ref 1105 :: .ref 1106 :: .ref 1107 :: .ref 1108 :: .ref 1109 :: .null :: .null :: .null :: .null :: .null :: .null :: .null :: .null :: .null :: .null :: .null :: .null :: .null :: .null :: .null :: .null :: .null :: .null :: .int 0 :: .int 0 :: .int 0 :: .int 0 :: .int 0 :: .int 0 :: .int 0 :: .int 0 :: .null :: .null :: .null :: .null :: .null :: .null :: .null :: .null :: .null :: .null :: .null :: .null :: .null :: .null :: .null :: .null :: .null :: .null :: .null :: .null :: .null :: .null :: .null :: .null :: .null :: .null :: .null :: .null :: .null :: .null :: .null :: .int 0 :: .int 0 :: .int 0 :: .int 0 :: .int 0 :: .int 0 :: .int 0 :: .long 0 :: .null :: .int 0 :: .int 0 :: .int 0 :: .int 0 :: .int 0 :: .int 0 :: .int 0 :: .null :: .null :: .null :: .null :: .null :: .null :: .null :: .null :: .null :: .null :: .null :: .null :: .null :: .null :: .null :: .null :: .null :: .null :: .null :: .null :: .int 0 :: .int 0 :: .long 0 :: .int 0 :: .null :: .null :: .null :: .null :: .null :: [])) in_X12 tyX12_ok nmX12 rfl (k := 12) (by decide) rfl rfl rfl rfl kF_X12_35 dX12_init_68 (mm_fit_arr _ _) rfl (by decide) (Nat.le_of_ble_eq_true rfl) rfl ?_
  refine mm_aload_n dX12_init_71 rfl rfl ?_
  refine mm_bipush (v := 32) dX12_init_72 (by decide) ?_
  refine mm_newa3 (atype := .int) (n1 := 1111) (t := 0) (N := 32) (cl := .inl (0, 32, .inl (fun _ => 0))) (a0 := (32, .inl (fun _ => 0))) (fun _ => rfl) (fun _ => rfl) wA_int rfl (fun _ => rfl) (by decide) rfl (by decide) (by omega) (by omega) dX12_init_74 rfl ?_
  refine mm_putF3 (ci := 12) (fs1 := (.ref 1102 :: .int 0 :: .ref 1103 :: .int 0 :: .int 0 :: .int 0 :: .int (-1) :: .ref 1104 :: .ref 1105 :: .ref 1106 :: .ref 1107 :: .ref 1108 :: .ref 1109 :: .ref 1110 :: .null :: .null :: .null :: .null :: .null :: .null :: .null :: .null :: .null :: .null :: .null :: .null :: .null :: .null :: .null :: .null :: .null :: .int 0 :: .int 0 :: .int 0 :: .int 0 :: .int 0 :: .int 0 :: .int 0 :: .int 0 :: .null :: .null :: .null :: .null :: .null :: .null :: .null :: .null :: .null :: .null :: .null :: .null :: .null :: .null :: .null :: .null :: .null :: .null :: .null :: .null :: .null :: .null :: .null :: .null :: .null :: .null :: .null :: .null :: .null :: .null :: .null :: .int 0 :: .int 0 :: .int 0 :: .int 0 :: .int 0 :: .int 0 :: .int 0 :: .long 0 :: .null :: .int 0 :: .int 0 :: .int 0 :: .int 0 :: .int 0 :: .int 0 :: .int 0 :: .null :: .null :: .null :: .null :: .null :: .null :: .null :: .null :: .null :: .null :: .null :: .null :: .null :: .null :: .null :: .null :: .null :: .null :: .null :: .null :: .int 0 :: .int 0 :: .long 0 :: .int 0 :: .null :: .null :: .null :: .null :: .null :: [])) in_X12 tyX12_ok nmX12 rfl (k := 13) (by decide) rfl rfl rfl rfl kF_X12_38 dX12_init_76 (mm_fit_arr _ _) rfl (by decide) (Nat.le_of_ble_eq_true rfl) rfl ?_
  refine mm_aload_n dX12_init_79 rfl rfl ?_
  refine mm_bipush (v := 16) dX12_init_80 (by decide) ?_
  refine mm_newa3 (atype := .int) (n1 := 1112) (t := 0) (N := 16) (cl := .inl (0, 16, .inl (fun _ => 0))) (a0 := (16, .inl (fun _ => 0))) (fun _ => rfl) (fun _ => rfl) wA_int rfl (fun _ => rfl) (by decide) rfl (by decide) (by omega) (by omega) dX12_init_82 rfl ?_
  refine mm_putF3 (ci := 12) (fs1 := (.ref 1102 :: .int 0 :: .ref 1103 :: .int 0 :: .int 0 :: .int 0 :: .int (-1) :: .ref 1104 :: .ref 1105 :: .ref 1106 :: .ref 1107 :: .ref 1108 :: .ref 1109 :: .ref 1110 :: .ref 1111 :: .null :: .null :: .null :: .null :: .null :: .null :: .null :: .null :: .null :: .null :: .null :: .null :: .null :: .null :: .null :: .null :: .int 0 :: .int 0 :: .int 0 :: .int 0 :: .int 0 :: .int 0 :: .int 0 :: .int 0 :: .null :: .null :: .null :: .null :: .null :: .null :: .null :: .null :: .null :: .null :: .null :: .null :: .null :: .null :: .null :: .null :: .null :: .null :: .null :: .null :: .null :: .null :: .null :: .null :: .null :: .null :: .null :: .null :: .null :: .null :: .null :: .int 0 :: .int 0 :: .int 0 :: .int 0 :: .int 0 :: .int 0 :: .int 0 :: .long 0 :: .null :: .int 0 :: .int 0 :: .int 0 :: .int 0 :: .int 0 :: .int 0 :: .int 0 :: .null :: .null :: .null :: .null :: .null :: .null :: .null :: .null :: .null :: .null :: .null :: .null :: .null :: .null :: .null :: .null :: .null :: .null :: .null :: .null :: .int 0 :: .int 0 :: .long 0 :: .int 0 :: .null :: .null :: .null :: .null :: .null :: [])) in_X12 tyX12_ok nmX12 rfl (k := 14) (by decide) rfl rfl rfl rfl kF_X12_41 dX12_init_84 (mm_fit_arr _ _) rfl (by decide) (Nat.le_of_ble_eq_true rfl) rfl ?_
  refine mm_aload_n dX12_init_87 rfl rfl ?_
  refine mm_bipush (v := 16) dX12_init_88 (by decide) ?_
  refine mm_newa3 (atype := .int) (n1 := 1113) (t := 0) (N := 16) (cl := .inl (0, 16, .inl (fun _ => 0))) (a0 := (16, .inl (fun _ => 0))) (fun _ => rfl) (fun _ => rfl) wA_int rfl (fun _ => rfl) (by decide) rfl (by decide) (by omega) (by omega) dX12_init_90 rfl ?_
  refine mm_putF3 (ci := 12) (fs1 := (.ref 1102 :: .int 0 :: .ref 1103 :: .int 0 :: .int 0 :: .int 0 :: .int (-1) :: .ref 1104 :: .ref 1105 :: .ref 1106 :: .ref 1107 :: .ref 1108 :: .ref 1109 :: .ref 1110 :: .ref 1111 :: .ref 1112 :: .null :: .null :: .null :: .null :: .null :: .null :: .null :: .null :: .null :: .null :: .null :: .null :: .null :: .null :: .null :: .int 0 :: .int 0 :: .int 0 :: .int 0 :: .int 0 :: .int 0 :: .int 0 :: .int 0 :: .null :: .null :: .null :: .null :: .null :: .null :: .null :: .null :: .null :: .null :: .null :: .null :: .null :: .null :: .null :: .null :: .null :: .null :: .null :: .null :: .null :: .null :: .null :: .null :: .null :: .null :: .null :: .null :: .null :: .null :: .null :: .int 0 :: .int 0 :: .int 0 :: .int 0 :: .int 0 :: .int 0 :: .int 0 :: .long 0 :: .null :: .int 0 :: .int 0 :: .int 0 :: .int 0 :: .int 0 :: .int 0 :: .int 0 :: .null :: .null :: .null :: .null :: .null :: .null :: .null :: .null :: .null :: .null :: .null :: .null :: .null :: .null :: .null :: .null :: .null :: .null :: .null :: .null :: .int 0 :: .int 0 :: .long 0 :: .int 0 :: .null :: .null :: .null :: .null :: .null :: [])) in_X12 tyX12_ok nmX12 rfl (k := 15) (by decide) rfl rfl rfl rfl kF_X12_44 dX12_init_92 (mm_fit_arr _ _) rfl (by decide) (Nat.le_of_ble_eq_true rfl) rfl ?_
  refine mm_aload_n dX12_init_95 rfl rfl ?_
  refine mm_bipush (v := 16) dX12_init_96 (by decide) ?_
  refine mm_newa3 (atype := .int) (n1 := 1114) (t := 0) (N := 16) (cl := .inl (0, 16, .inl (fun _ => 0))) (a0 := (16, .inl (fun _ => 0))) (fun _ => rfl) (fun _ => rfl) wA_int rfl (fun _ => rfl) (by decide) rfl (by decide) (by omega) (by omega) dX12_init_98 rfl ?_
  refine mm_putF3 (ci := 12) (fs1 := (.ref 1102 :: .int 0 :: .ref 1103 :: .int 0 :: .int 0 :: .int 0 :: .int (-1) :: .ref 1104 :: .ref 1105 :: .ref 1106 :: .ref 1107 :: .ref 1108 :: .ref 1109 :: .ref 1110 :: .ref 1111 :: .ref 1112 :: .ref 1113 :: .null :: .null :: .null :: .null :: .null :: .null :: .null :: .null :: .null :: .null :: .null :: .null :: .null :: .null :: .int 0 :: .int 0 :: .int 0 :: .int 0 :: .int 0 :: .int 0 :: .int 0 :: .int 0 :: .null :: .null :: .null :: .null :: .null :: .null :: .null :: .null :: .null :: .null :: .null :: .null :: .null :: .null :: .null :: .null :: .null :: .null :: .null :: .null :: .null :: .null :: .null :: .null :: .null :: .null :: .null :: .null :: .null :: .null :: .null :: .int 0 :: .int 0 :: .int 0 :: .int 0 :: .int 0 :: .int 0 :: .int 0 :: .long 0 :: .null :: .int 0 :: .int 0 :: .int 0 :: .int 0 :: .int 0 :: .int 0 :: .int 0 :: .null :: .null :: .null :: .null :: .null :: .null :: .null :: .null :: .null :: .null :: .null :: .null :: .null :: .null :: .null :: .null :: .null :: .null :: .null :: .null :: .int 0 :: .int 0 :: .long 0 :: .int 0 :: .null :: .null :: .null :: .null :: .null :: [])) in_X12 tyX12_ok nmX12 rfl (k := 16) (by decide) rfl rfl rfl rfl kF_X12_47 dX12_init_100 (mm_fit_arr _ _) rfl (by decide) (Nat.le_of_ble_eq_true rfl) rfl ?_
  refine mm_aload_n dX12_init_103 rfl rfl ?_
  refine mm_bipush (v := 120) dX12_init_104 (by decide) ?_
  refine mm_newa3 (atype := .int) (n1 := 1115) (t := 0) (N := 120) (cl := .inl (0, 120, .inl (fun _ => 0))) (a0 := (120, .inl (fun _ => 0))) (fun _ => rfl) (fun _ => rfl) wA_int rfl (fun _ => rfl) (by decide) rfl (by decide) (by omega) (by omega) dX12_init_106 rfl ?_
  refine mm_putF3 (ci := 12) (fs1 := (.ref 1102 :: .int 0 :: .ref 1103 :: .int 0 :: .int 0 :: .int 0 :: .int (-1) :: .ref 1104 :: .ref 1105 :: .ref 1106 :: .ref 1107 :: .ref 1108 :: .ref 1109 :: .ref 1110 :: .ref 1111 :: .ref 1112 :: .ref 1113 :: .ref 1114 :: .null :: .null :: .null :: .null :: .null :: .null :: .null :: .null :: .null :: .null :: .null :: .null :: .null :: .int 0 :: .int 0 :: .int 0 :: .int 0 :: .int 0 :: .int 0 :: .int 0 :: .int 0 :: .null :: .null :: .null :: .null :: .null :: .null :: .null :: .null :: .null :: .null :: .null :: .null :: .null :: .null :: .null :: .null :: .null :: .null :: .null :: .null :: .null :: .null :: .null :: .null :: .null :: .null :: .null :: .null :: .null :: .null :: .null :: .int 0 :: .int 0 :: .int 0 :: .int 0 :: .int 0 :: .int 0 :: .int 0 :: .long 0 :: .null :: .int 0 :: .int 0 :: .int 0 :: .int 0 :: .int 0 :: .int 0 :: .int 0 :: .null :: .null :: .null :: .null :: .null :: .null :: .null :: .null :: .null :: .null :: .null :: .null :: .null :: .null :: .null :: .null :: .null :: .null :: .null :: .null :: .int 0 :: .int 0 :: .long 0 :: .int 0 :: .null :: .null :: .null :: .null :: .null :: [])) in_X12 tyX12_ok nmX12 rfl (k := 17) (by decide) rfl rfl rfl rfl kF_X12_50 dX12_init_108 (mm_fit_arr _ _) rfl (by decide) (Nat.le_of_ble_eq_true rfl) rfl ?_
  refine mm_aload_n dX12_init_111 rfl rfl ?_
  refine mm_bipush (v := 120) dX12_init_112 (by decide) ?_
  refine mm_newa3 (atype := .int) (n1 := 1116) (t := 0) (N := 120) (cl := .inl (0, 120, .inl (fun _ => 0))) (a0 := (120, .inl (fun _ => 0))) (fun _ => rfl) (fun _ => rfl) wA_int rfl (fun _ => rfl) (by decide) rfl (by decide) (by omega) (by omega) dX12_init_114 rfl ?_
  refine mm_putF3 (ci := 12) (fs1 := (.ref 1102 :: .int 0 :: .ref 1103 :: .int 0 :: .int 0 :: .int 0 :: .int (-1) :: .ref 1104 :: .ref 1105 :: .ref 1106 :: .ref 1107 :: .ref 1108 :: .ref 1109 :: .ref 1110 :: .ref 1111 :: .ref 1112 :: .ref 1113 :: .ref 1114 :: .ref 1115 :: .null :: .null :: .null :: .null :: .null :: .null :: .null :: .null :: .null :: .null :: .null :: .null :: .int 0 :: .int 0 :: .int 0 :: .int 0 :: .int 0 :: .int 0 :: .int 0 :: .int 0 :: .null :: .null :: .null :: .null :: .null :: .null :: .null :: .null :: .null :: .null :: .null :: .null :: .null :: .null :: .null :: .null :: .null :: .null :: .null :: .null :: .null :: .null :: .null :: .null :: .null :: .null :: .null :: .null :: .null :: .null :: .null :: .int 0 :: .int 0 :: .int 0 :: .int 0 :: .int 0 :: .int 0 :: .int 0 :: .long 0 :: .null :: .int 0 :: .int 0 :: .int 0 :: .int 0 :: .int 0 :: .int 0 :: .int 0 :: .null :: .null :: .null :: .null :: .null :: .null :: .null :: .null :: .null :: .null :: .null :: .null :: .null :: .null :: .null :: .null :: .null :: .null :: .null :: .null :: .int 0 :: .int 0 :: .long 0 :: .int 0 :: .null :: .null :: .null :: .null :: .null :: [])) in_X12 tyX12_ok nmX12 rfl (k := 18) (by decide) rfl rfl rfl rfl kF_X12_53 dX12_init_116 (mm_fit_arr _ _) rfl (by decide) (Nat.le_of_ble_eq_true rfl) rfl ?_
  refine mm_aload_n dX12_init_119 rfl rfl ?_
  refine mm_bipush (v := 120) dX12_init_120 (by decide) ?_
  refine mm_newa3 (atype := .int) (n1 := 1117) (t := 0) (N := 120) (cl := .inl (0, 120, .inl (fun _ => 0))) (a0 := (120, .inl (fun _ => 0))) (fun _ => rfl) (fun _ => rfl) wA_int rfl (fun _ => rfl) (by decide) rfl (by decide) (by omega) (by omega) dX12_init_122 rfl ?_
  refine mm_putF3 (ci := 12) (fs1 := (.ref 1102 :: .int 0 :: .ref 1103 :: .int 0 :: .int 0 :: .int 0 :: .int (-1) :: .ref 1104 :: .ref 1105 :: .ref 1106 :: .ref 1107 :: .ref 1108 :: .ref 1109 :: .ref 1110 :: .ref 1111 :: .ref 1112 :: .ref 1113 :: .ref 1114 :: .ref 1115 :: .ref 1116 :: .null :: .null :: .null :: .null :: .null :: .null :: .null :: .null :: .null :: .null :: .null :: .int 0 :: .int 0 :: .int 0 :: .int 0 :: .int 0 :: .int 0 :: .int 0 :: .int 0 :: .null :: .null :: .null :: .null :: .null :: .null :: .null :: .null :: .null :: .null :: .null :: .null :: .null :: .null :: .null :: .null :: .null :: .null :: .null :: .null :: .null :: .null :: .null :: .null :: .null :: .null :: .null :: .null :: .null :: .null :: .null :: .int 0 :: .int 0 :: .int 0 :: .int 0 :: .int 0 :: .int 0 :: .int 0 :: .long 0 :: .null :: .int 0 :: .int 0 :: .int 0 :: .int 0 :: .int 0 :: .int 0 :: .int 0 :: .null :: .null :: .null :: .null :: .null :: .null :: .null :: .null :: .null :: .null :: .null :: .null :: .null :: .null :: .null :: .null :: .null :: .null :: .null :: .null :: .int 0 :: .int 0 :: .long 0 :: .int 0 :: .null :: .null :: .null :: .null :: .null :: [])) in_X12 tyX12_ok nmX12 rfl (k := 19) (by decide) rfl rfl rfl rfl kF_X12_56 dX12_init_124 (mm_fit_arr _ _) rfl (by decide) (Nat.le_of_ble_eq_true rfl) rfl ?_
  refine mm_aload_n dX12_init_127 rfl rfl ?_
  refine mm_bipush (v := 120) dX12_init_128 (by decide) ?_
  refine mm_newa3 (atype := .int) (n1 := 1118) (t := 0) (N := 120) (cl := .inl (0, 120, .inl (fun _ => 0))) (a0 := (120, .inl (fun _ => 0))) (fun _ => rfl) (fun _ => rfl) wA_int rfl (fun _ => rfl) (by decide) rfl (by decide) (by omega) (by omega) dX12_init_130 rfl ?_
  refine mm_putF3 (ci := 12) (fs1 := (.ref 1102 :: .int 0 :: .ref 1103 :: .int 0 :: .int 0 :: .int 0 :: .int (-1) :: .ref 1104 :: .ref 1105 :: .ref 1106 :: .ref 1107 :: .ref 1108 :: .ref 1109 :: .ref 1110 :: .ref 1111 :: .ref 1112 :: .ref 1113 :: .ref 1114 :: .ref 1115 :: .ref 1116 :: .ref 1117 :: .null :: .null :: .null :: .null :: .null :: .null :: .null :: .null :: .null :: .null :: .int 0 :: .int 0 :: .int 0 :: .int 0 :: .int 0 :: .int 0 :: .int 0 :: .int 0 :: .null :: .null :: .null :: .null :: .null :: .null :: .null :: .null :: .null :: .null :: .null :: .null :: .null :: .null :: .null :: .null :: .null :: .null :: .null :: .null :: .null :: .null :: .null :: .null :: .null :: .null :: .null :: .null :: .null :: .null :: .null :: .int 0 :: .int 0 :: .int 0 :: .int 0 :: .int 0 :: .int 0 :: .int 0 :: .long 0 :: .null :: .int 0 :: .int 0 :: .int 0 :: .int 0 :: .int 0 :: .int 0 :: .int 0 :: .null :: .null :: .null :: .null :: .null :: .null :: .null :: .null :: .null :: .null :: .null :: .null :: .null :: .null :: .null :: .null :: .null :: .null :: .null :: .null :: .int 0 :: .int 0 :: .long 0 :: .int 0 :: .null :: .null :: .null :: .null :: .null :: [])) in_X12 tyX12_ok nmX12 rfl (k := 20) (by decide) rfl rfl rfl rfl kF_X12_59 dX12_init_132 (mm_fit_arr _ _) rfl (by decide) (Nat.le_of_ble_eq_true rfl) rfl ?_
  refine mm_aload_n dX12_init_135 rfl rfl ?_
  refine mm_bipush (v := 120) dX12_init_136 (by decide) ?_
  refine mm_newa3 (atype := .int) (n1 := 1119) (t := 0) (N := 120) (cl := .inl (0, 120, .inl (fun _ => 0))) (a0 := (120, .inl (fun _ => 0))) (fun _ => rfl) (fun _ => rfl) wA_int rfl (fun _ => rfl) (by decide) rfl (by decide) (by omega) (by omega) dX12_init_138 rfl ?_
  refine mm_putF3 (ci := 12) (fs1 := (.ref 1102 :: .int 0 :: .ref 1103 :: .int 0 :: .int 0 :: .int 0 :: .int (-1) :: .ref 1104 :: .ref 1105 :: .ref 1106 :: .ref 1107 :: .ref 1108 :: .ref 1109 :: .ref 1110 :: .ref 1111 :: .ref 1112 :: .ref 1113 :: .ref 1114 :: .ref 1115 :: .ref 1116 :: .ref 1117 :: .ref 1118 :: .null :: .null :: .null :: .null :: .null :: .null :: .null :: .null :: .null :: .int 0 :: .int 0 :: .int 0 :: .int 0 :: .int 0 :: .int 0 :: .int 0 :: .int 0 :: .null :: .null :: .null :: .null :: .null :: .null :: .null :: .null :: .null :: .null :: .null :: .null :: .null :: .null :: .null :: .null :: .null :: .null :: .null :: .null :: .null :: .null :: .null :: .null :: .null :: .null :: .null :: .null :: .null :: .null :: .null :: .int 0 :: .int 0 :: .int 0 :: .int 0 :: .int 0 :: .int 0 :: .int 0 :: .long 0 :: .null :: .int 0 :: .int 0 :: .int 0 :: .int 0 :: .int 0 :: .int 0 :: .int 0 :: .null :: .null :: .null :: .null :: .null :: .null :: .null :: .null :: .null :: .null :: .null :: .null :: .null :: .null :: .null :: .null :: .null :: .null :: .null :: .null :: .int 0 :: .int 0 :: .long 0 :: .int 0 :: .null :: .null :: .null :: .null :: .null :: [])) in_X12 tyX12_ok nmX12 rfl (k := 21) (by decide) rfl rfl rfl rfl kF_X12_62 dX12_init_140 (mm_fit_arr _ _) rfl (by decide) (Nat.le_of_ble_eq_true rfl) rfl ?_
  refine mm_aload_n dX12_init_143 rfl rfl ?_
  refine mm_bipush (v := 120) dX12_init_144 (by decide) ?_
  refine mm_newa3 (atype := .int) (n1 := 1120) (t := 0) (N := 120) (cl := .inl (0, 120, .inl (fun _ => 0))) (a0 := (120, .inl (fun _ => 0))) (fun _ => rfl) (fun _ => rfl) wA_int rfl (fun _ => rfl) (by decide) rfl (by decide) (by omega) (by omega) dX12_init_146 rfl ?_
  refine mm_putF3 (ci := 12) (fs1 := (.ref 1102 :: .int 0 :: .ref 1103 :: .int 0 :: .int 0 :: .int 0 :: .int (-1) :: .ref 1104 :: .ref 1105 :: .ref 1106 :: .ref 1107 :: .ref 1108 :: .ref 1109 :: .ref 1110 :: .ref 1111 :: .ref 1112 :: .ref 1113 :: .ref 1114 :: .ref 1115 :: .ref 1116 :: .ref 1117 :: .ref 1118 :: .ref 1119 :: .null :: .null :: .null :: .null :: .null :: .null :: .null :: .null :: .int 0 :: .int 0 :: .int 0 :: .int 0 :: .int 0 :: .int 0 :: .int 0 :: .int 0 :: .null :: .null :: .null :: .null :: .null :: .null :: .null :: .null :: .null :: .null :: .null :: .null :: .null :: .null :: .null :: .null :: .null :: .null :: .null :: .null :: .null :: .null :: .null :: .null :: .null :: .null :: .null :: .null :: .null :: .null :: .null :: .int 0 :: .int 0 :: .int 0 :: .int 0 :: .int 0 :: .int 0 :: .int 0 :: .long 0 :: .null :: .int 0 :: .int 0 :: .int 0 :: .int 0 :: .int 0 :: .int 0 :: .int 0 :: .null :: .null :: .null :: .null :: .null :: .null :: .null :: .null :: .null :: .null :: .null :: .null :: .null :: .null :: .null :: .null :: .null :: .null :: .null :: .null :: .int 0 :: .int 0 :: .long 0 :: .int 0 :: .null :: .null :: .null :: .null :: .null :: [])) in_X12 tyX12_ok nmX12 rfl (k := 22) (by decide) rfl rfl rfl rfl kF_X12_65 dX12_init_148 (mm_fit_arr _ _) rfl (by decide) (Nat.le_of_ble_eq_true rfl) rfl ?_
  refine mm_aload_n dX12_init_151 rfl rfl ?_
  refine mm_bipush (v := 120) dX12_init_152 (by decide) ?_
  refine mm_newa3 (atype := .boolean) (n1 := 1121) (t := 3) (N := 120) (cl := .inl (3, 120, .inl (fun _ => 0))) (a0 := (120, .inl (fun _ => 0))) (fun _ => rfl) (fun _ => rfl) wA_boolean rfl (fun _ => rfl) (by decide) rfl (by decide) (by omega) (by omega) dX12_init_154 rfl ?_
  refine mm_putF3 (ci := 12) (fs1 := (.ref 1102 :: .int 0 :: .ref 1103 :: .int 0 :: .int 0 :: .int 0 :: .int (-1) :: .ref 1104 :: .ref 1105 :: .ref 1106 :: .ref 1107 :: .ref 1108 :: .ref 1109 :: .ref 1110 :: .ref 1111 :: .ref 1112 :: .ref 1113 :: .ref 1114 :: .ref 1115 :: .ref 1116 :: .ref 1117 :: .ref 1118 :: .ref 1119 :: .ref 1120 :: .null :: .null :: .null :: .null :: .null :: .null :: .null :: .int 0 :: .int 0 :: .int 0 :: .int 0 :: .int 0 :: .int 0 :: .int 0 :: .int 0 :: .null :: .null :: .null :: .null :: .null :: .null :: .null :: .null :: .null :: .null :: .null :: .null :: .null :: .null :: .null :: .null :: .null :: .null :: .null :: .null :: .null :: .null :: .null :: .null :: .null :: .null :: .null :: .null :: .null :: .null :: .null :: .int 0 :: .int 0 :: .int 0 :: .int 0 :: .int 0 :: .int 0 :: .int 0 :: .long 0 :: .null :: .int 0 :: .int 0 :: .int 0 :: .int 0 :: .int 0 :: .int 0 :: .int 0 :: .null :: .null :: .null :: .null :: .null :: .null :: .null :: .null :: .null :: .null :: .null :: .null :: .null :: .null :: .null :: .null :: .null :: .null :: .null :: .null :: .int 0 :: .int 0 :: .long 0 :: .int 0 :: .null :: .null :: .null :: .null :: .null :: [])) in_X12 tyX12_ok nmX12 rfl (k := 23) (by decide) rfl rfl rfl rfl kF_X12_68 dX12_init_156 (mm_fit_arr _ _) rfl (by decide) (Nat.le_of_ble_eq_true rfl) rfl ?_
  refine mm_aload_n dX12_init_159 rfl rfl ?_
  refine mm_bipush (v := 120) dX12_init_160 (by decide) ?_
  refine mm_newa3 (atype := .boolean) (n1 := 1122) (t := 3) (N := 120) (cl := .inl (3, 120, .inl (fun _ => 0))) (a0 := (120, .inl (fun _ => 0))) (fun _ => rfl) (fun _ => rfl) wA_boolean rfl (fun _ => rfl) (by decide) rfl (by decide) (by omega) (by omega) dX12_init_162 rfl ?_
  refine mm_putF3 (ci := 12) (fs1 := (.ref 1102 :: .int 0 :: .ref 1103 :: .int 0 :: .int 0 :: .int 0 :: .int (-1) :: .ref 1104 :: .ref 1105 :: .ref 1106 :: .ref 1107 :: .ref 1108 :: .ref 1109 :: .ref 1110 :: .ref 1111 :: .ref 1112 :: .ref 1113 :: .ref 1114 :: .ref 1115 :: .ref 1116 :: .ref 1117 :: .ref 1118 :: .ref 1119 :: .ref 1120 :: .ref 1121 :: .null :: .null :: .null :: .null :: .null :: .null :: .int 0 :: .int 0 :: .int 0 :: .int 0 :: .int 0 :: .int 0 :: .int 0 :: .int 0 :: .null :: .null :: .null :: .null :: .null :: .null :: .null :: .null :: .null :: .null :: .null :: .null :: .null :: .null :: .null :: .null :: .null :: .null :: .null :: .null :: .null :: .null :: .null :: .null :: .null :: .null :: .null :: .null :: .null :: .null :: .null :: .int 0 :: .int 0 :: .int 0 :: .int 0 :: .int 0 :: .int 0 :: .int 0 :: .long 0 :: .null :: .int 0 :: .int 0 :: .int 0 :: .int 0 :: .int 0 :: .int 0 :: .int 0 :: .null :: .null :: .null :: .null :: .null :: .null :: .null :: .null :: .null :: .null :: .null :: .null :: .null :: .null :: .null :: .null :: .null :: .null :: .null :: .null :: .int 0 :: .int 0 :: .long 0 :: .int 0 :: .null :: .null :: .null :: .null :: .null :: [])) in_X12 tyX12_ok nmX12 rfl (k := 24) (by decide) rfl rfl rfl rfl kF_X12_72 dX12_init_164 (mm_fit_arr _ _) rfl (by decide) (Nat.le_of_ble_eq_true rfl) rfl ?_
  refine mm_aload_n dX12_init_167 rfl rfl ?_
  refine mm_bipush (v := 120) dX12_init_168 (by decide) ?_
  refine mm_newa3 (atype := .int) (n1 := 1123) (t := 0) (N := 120) (cl := .inl (0, 120, .inl (fun _ => 0))) (a0 := (120, .inl (fun _ => 0))) (fun _ => rfl) (fun _ => rfl) wA_int rfl (fun _ => rfl) (by decide) rfl (by decide) (by omega) (by omega) dX12_init_170 rfl ?_
  refine mm_putF3 (ci := 12) (fs1 := (.ref 1102 :: .int 0 :: .ref 1103 :: .int 0 :: .int 0 :: .int 0 :: .int (-1) :: .ref 1104 :: .ref 1105 :: .ref 1106 :: .ref 1107 :: .ref 1108 :: .ref 1109 :: .ref 1110 :: .ref 1111 :: .ref 1112 :: .ref 1113 :: .ref 1114 :: .ref 1115 :: .ref 1116 :: .ref 1117 :: .ref 1118 :: .ref 1119 :: .ref 1120 :: .ref 1121 :: .ref 1122 :: .null :: .null :: .null :: .null :: .null :: .int 0 :: .int 0 :: .int 0 :: .int 0 :: .int 0 :: .int 0 :: .int 0 :: .int 0 :: .null :: .null :: .null :: .null :: .null :: .null :: .null :: .null :: .null :: .null :: .null :: .null :: .null :: .null :: .null :: .null :: .null :: .null :: .null :: .null :: .null :: .null :: .null :: .null :: .null :: .null :: .null :: .null :: .null :: .null :: .null :: .int 0 :: .int 0 :: .int 0 :: .int 0 :: .int 0 :: .int 0 :: .int 0 :: .long 0 :: .null :: .int 0 :: .int 0 :: .int 0 :: .int 0 :: .int 0 :: .int 0 :: .int 0 :: .null :: .null :: .null :: .null :: .null :: .null :: .null :: .null :: .null :: .null :: .null :: .null :: .null :: .null :: .null :: .null :: .null :: .null :: .null :: .null :: .int 0 :: .int 0 :: .long 0 :: .int 0 :: .null :: .null :: .null :: .null :: .null :: [])) in_X12 tyX12_ok nmX12 rfl (k := 25) (by decide) rfl rfl rfl rfl kF_X12_75 dX12_init_172 (mm_fit_arr _ _) rfl (by decide) (Nat.le_of_ble_eq_true rfl) rfl ?_
  refine mm_aload_n dX12_init_175 rfl rfl ?_
  refine mm_bipush (v := 80) dX12_init_176 (by decide) ?_
  refine mm_newa3 (atype := .int) (n1 := 1124) (t := 0) (N := 80) (cl := .inl (0, 80, .inl (fun _ => 0))) (a0 := (80, .inl (fun _ => 0))) (fun _ => rfl) (fun _ => rfl) wA_int rfl (fun _ => rfl) (by decide) rfl (by decide) (by omega) (by omega) dX12_init_178 rfl ?_
  refine mm_putF3 (ci := 12) (fs1 := (.ref 1102 :: .int 0 :: .ref 1103 :: .int 0 :: .int 0 :: .int 0 :: .int (-1) :: .ref 1104 :: .ref 1105 :: .ref 1106 :: .ref 1107 :: .ref 1108 :: .ref 1109 :: .ref 1110 :: .ref 1111 :: .ref 1112 :: .ref 1113 :: .ref 1114 :: .ref 1115 :: .ref 1116 :: .ref 1117 :: .ref 1118 :: .ref 1119 :: .ref 1120 :: .ref 1121 :: .ref 1122 :: .ref 1123 :: .null :: .null :: .null :: .null :: .int 0 :: .int 0 :: .int 0 :: .int 0 :: .int 0 :: .int 0 :: .int 0 :: .int 0 :: .null :: .null :: .null :: .null :: .null :: .null :: .null :: .null :: .null :: .null :: .null :: .null :: .null :: .null :: .null :: .null :: .null :: .null :: .null :: .null :: .null :: .null :: .null :: .null :: .null :: .null :: .null :: .null :: .null :: .null :: .null :: .int 0 :: .int 0 :: .int 0 :: .int 0 :: .int 0 :: .int 0 :: .int 0 :: .long 0 :: .null :: .int 0 :: .int 0 :: .int 0 :: .int 0 :: .int 0 :: .int 0 :: .int 0 :: .null :: .null :: .null :: .null :: .null :: .null :: .null :: .null :: .null :: .null :: .null :: .null :: .null :: .null :: .null :: .null :: .null :: .null :: .null :: .null :: .int 0 :: .int 0 :: .long 0 :: .int 0 :: .null :: .null :: .null :: .null :: .null :: [])) in_X12 tyX12_ok nmX12 rfl (k := 26) (by decide) rfl rfl rfl rfl kF_X12_78 dX12_init_180 (mm_fit_arr _ _) rfl (by decide) (Nat.le_of_ble_eq_true rfl) rfl ?_
  refine mm_aload_n dX12_init_183 rfl rfl ?_
  refine mm_bipush (v := 80) dX12_init_184 (by decide) ?_
  refine mm_newa3 (atype := .int) (n1 := 1125) (t := 0) (N := 80) (cl := .inl (0, 80, .inl (fun _ => 0))) (a0 := (80, .inl (fun _ => 0))) (fun _ => rfl) (fun _ => rfl) wA_int rfl (fun _ => rfl) (by decide) rfl (by decide) (by omega) (by omega) dX12_init_186 rfl ?_
  refine mm_putF3 (ci := 12) (fs1 := (.ref 1102 :: .int 0 :: .ref 1103 :: .int 0 :: .int 0 :: .int 0 :: .int (-1) :: .ref 1104 :: .ref 1105 :: .ref 1106 :: .ref 1107 :: .ref 1108 :: .ref 1109 :: .ref 1110 :: .ref 1111 :: .ref 1112 :: .ref 1113 :: .ref 1114 :: .ref 1115 :: .ref 1116 :: .ref 1117 :: .ref 1118 :: .ref 1119 :: .ref 1120 :: .ref 1121 :: .ref 1122 :: .ref 1123 :: .ref 1124 :: .null :: .null :: .null :: .int 0 :: .int 0 :: .int 0 :: .int 0 :: .int 0 :: .int 0 :: .int 0 :: .int 0 :: .null :: .null :: .null :: .null :: .null :: .null :: .null :: .null :: .null :: .null :: .null :: .null :: .null :: .null :: .null :: .null :: .null :: .null :: .null :: .null :: .null :: .null :: .null :: .null :: .null :: .null :: .null :: .null :: .null :: .null :: .null :: .int 0 :: .int 0 :: .int 0 :: .int 0 :: .int 0 :: .int 0 :: .int 0 :: .long 0 :: .null :: .int 0 :: .int 0 :: .int 0 :: .int 0 :: .int 0 :: .int 0 :: .int 0 :: .null :: .null :: .null :: .null :: .null :: .null :: .null :: .null :: .null :: .null :: .null :: .null :: .null :: .null :: .null :: .null :: .null :: .null :: .null :: .null :: .int 0 :: .int 0 :: .long 0 :: .int 0 :: .null :: .null :: .null :: .null :: .null :: [])) in_X12 tyX12_ok nmX12 rfl (k := 27) (by decide) rfl rfl rfl rfl kF_X12_81 dX12_init_188 (mm_fit_arr _ _) rfl (by decide) (Nat.le_of_ble_eq_true rfl) rfl ?_
  refine mm_aload_n dX12_init_191 rfl rfl ?_
  refine mm_bipush (v := 80) dX12_init_192 (by decide) ?_
  refine mm_newa3 (atype := .int) (n1 := 1126) (t := 0) (N := 80) (cl := .inl (0, 80, .inl (fun _ => 0))) (a0 := (80, .inl (fun _ => 0))) (fun _ => rfl) (fun _ => rfl) wA_int rfl (fun _ => rfl) (by decide) rfl (by decide) (by omega) (by omega) dX12_init_194 rfl ?_
  refine mm_putF3 (ci := 12) (fs1 := (.ref 1102 :: .int 0 :: .ref 1103 :: .int 0 :: .int 0 :: .int 0 :: .int (-1) :: .ref 1104 :: .ref 1105 :: .ref 1106 :: .ref 1107 :: .ref 1108 :: .ref 1109 :: .ref 1110 :: .ref 1111 :: .ref 1112 :: .ref 1113 :: .ref 1114 :: .ref 1115 :: .ref 1116 :: .ref 1117 :: .ref 1118 :: .ref 1119 :: .ref 1120 :: .ref 1121 :: .ref 1122 :: .ref 1123 :: .ref 1124 :: .ref 1125 :: .null :: .null :: .int 0 :: .int 0 :: .int 0 :: .int 0 :: .int 0 :: .int 0 :: .int 0 :: .int 0 :: .null :: .null :: .null :: .null :: .null :: .null :: .null :: .null :: .null :: .null :: .null :: .null :: .null :: .null :: .null :: .null :: .null :: .null :: .null :: .null :: .null :: .null :: .null :: .null :: .null :: .null :: .null :: .null :: .null :: .null :: .null :: .int 0 :: .int 0 :: .int 0 :: .int 0 :: .int 0 :: .int 0 :: .int 0 :: .long 0 :: .null :: .int 0 :: .int 0 :: .int 0 :: .int 0 :: .int 0 :: .int 0 :: .int 0 :: .null :: .null :: .null :: .null :: .null :: .null :: .null :: .null :: .null :: .null :: .null :: .null :: .null :: .null :: .null :: .null :: .null :: .null :: .null :: .null :: .int 0 :: .int 0 :: .long 0 :: .int 0 :: .null :: .null :: .null :: .null :: .null :: [])) in_X12 tyX12_ok nmX12 rfl (k := 28) (by decide) rfl rfl rfl rfl kF_X12_84 dX12_init_196 (mm_fit_arr _ _) rfl (by decide) (Nat.le_of_ble_eq_true rfl) rfl ?_
  refine mm_aload_n dX12_init_199 rfl rfl ?_
  refine mm_bipush (v := 80) dX12_init_200 (by decide) ?_
  refine mm_newa3 (atype := .int) (n1 := 1127) (t := 0) (N := 80) (cl := .inl (0, 80, .inl (fun _ => 0))) (a0 := (80, .inl (fun _ => 0))) (fun _ => rfl) (fun _ => rfl) wA_int rfl (fun _ => rfl) (by decide) rfl (by decide) (by omega) (by omega) dX12_init_202 rfl ?_
  refine mm_putF3 (ci := 12) (fs1 := (.ref 1102 :: .int 0 :: .ref 1103 :: .int 0 :: .int 0 :: .int 0 :: .int (-1) :: .ref 1104 :: .ref 1105 :: .ref 1106 :: .ref 1107 :: .ref 1108 :: .ref 1109 :: .ref 1110 :: .ref 1111 :: .ref 1112 :: .ref 1113 :: .ref 1114 :: .ref 1115 :: .ref 1116 :: .ref 1117 :: .ref 1118 :: .ref 1119 :: .ref 1120 :: .ref 1121 :: .ref 1122 :: .ref 1123 :: .ref 1124 :: .ref 1125 :: .ref 1126 :: .null :: .int 0 :: .int 0 :: .int 0 :: .int 0 :: .int 0 :: .int 0 :: .int 0 :: .int 0 :: .null :: .null :: .null :: .null :: .null :: .null :: .null :: .null :: .null :: .null :: .null :: .null :: .null :: .null :: .null :: .null :: .null :: .null :: .null :: .null :: .null :: .null :: .null :: .null :: .null :: .null :: .null :: .null :: .null :: .null :: .null :: .int 0 :: .int 0 :: .int 0 :: .int 0 :: .int 0 :: .int 0 :: .int 0 :: .long 0 :: .null :: .int 0 :: .int 0 :: .int 0 :: .int 0 :: .int 0 :: .int 0 :: .int 0 :: .null :: .null :: .null :: .null :: .null :: .null :: .null :: .null :: .null :: .null :: .null :: .null :: .null :: .null :: .null :: .null :: .null :: .null :: .null :: .null :: .int 0 :: .int 0 :: .long 0 :: .int 0 :: .null :: .null :: .null :: .null :: .null :: [])) in_X12 tyX12_ok nmX12 rfl (k := 29) (by decide) rfl rfl rfl rfl kF_X12_87 dX12_init_204 (mm_fit_arr _ _) rfl (by decide) (Nat.le_of_ble_eq_true rfl) rfl ?_
  refine mm_aload_n dX12_init_207 rfl rfl ?_
  refine mm_sipush (v := 1200) dX12_init_208 (by decide) ?_
  refine mm_newa3 (atype := .int) (n1 := 1128) (t := 0) (N := 1200) (cl := .inl (0, 1200, .inl (fun _ => 0))) (a0 := (1200, .inl (fun _ => 0))) (fun _ => rfl) (fun _ => rfl) wA_int rfl (fun _ => rfl) (by decide) rfl (by decide) (by omega) (by omega) dX12_init_211 rfl ?_
  refine mm_putF3 (ci := 12) (fs1 := (.ref 1102 :: .int 0 :: .ref 1103 :: .int 0 :: .int 0 :: .int 0 :: .int (-1) :: .ref 1104 :: .ref 1105 :: .ref 1106 :: .ref 1107 :: .ref 1108 :: .ref 1109 :: .ref 1110 :: .ref 1111 :: .ref 1112 :: .ref 1113 :: .ref 1114 :: .ref 1115 :: .ref 1116 :: .ref 1117 :: .ref 1118 :: .ref 1119 :: .ref 1120 :: .ref 1121 :: .ref 1122 :: .ref 1123 :: .ref 1124 :: .ref 1125 :: .ref 1126 :: .ref 1127 :: .int 0 :: .int 0 :: .int 0 :: .int 0 :: .int 0 :: .int 0 :: .int 0 :: .int 0 :: .null :: .null :: .null :: .null :: .null :: .null :: .null :: .null :: .null :: .null :: .null :: .null :: .null :: .null :: .null :: .null :: .null :: .null :: .null :: .null :: .null :: .null :: .null :: .null :: .null :: .null :: .null :: .null :: .null :: .null :: .null :: .int 0 :: .int 0 :: .int 0 :: .int 0 :: .int 0 :: .int 0 :: .int 0 :: .long 0 :: .null :: .int 0 :: .int 0 :: .int 0 :: .int 0 :: .int 0 :: .int 0 :: .int 0 :: .null :: .null :: .null :: .null :: .null :: .null :: .null :: .null :: .null :: .null :: .null :: .null :: .null :: .null :: .null :: .null :: .null :: .null :: .null :: .null :: .int 0 :: .int 0 :: .long 0 :: .int 0 :: .null :: .null :: .null :: .null :: .null :: [])) in_X12 tyX12_ok nmX12 rfl (k := 30) (by decide) rfl rfl rfl rfl kF_X12_90 dX12_init_213 (mm_fit_arr _ _) rfl (by decide) (Nat.le_of_ble_eq_true rfl) rfl ?_
  refine mm_aload_n dX12_init_216 rfl rfl ?_
  refine mm_bipush (v := 100) dX12_init_217 (by decide) ?_
  refine mm_newa3 (atype := .int) (n1 := 1129) (t := 0) (N := 100) (cl := .inl (0, 100, .inl (fun _ => 0))) (a0 := (100, .inl (fun _ => 0))) (fun _ => rfl) (fun _ => rfl) wA_int rfl (fun _ => rfl) (by decide) rfl (by decide) (by omega) (by omega) dX12_init_219 rfl ?_
  refine mm_putF3 (ci := 12) (fs1 := (.ref 1102 :: .int 0 :: .ref 1103 :: .int 0 :: .int 0 :: .int 0 :: .int (-1) :: .ref 1104 :: .ref 1105 :: .ref 1106 :: .ref 1107 :: .ref 1108 :: .ref 1109 :: .ref 1110 :: .ref 1111 :: .ref 1112 :: .ref 1113 :: .ref 1114 :: .ref 1115 :: .ref 1116 :: .ref 1117 :: .ref 1118 :: .ref 1119 :: .ref 1120 :: .ref 1121 :: .ref 1122 :: .ref 1123 :: .ref 1124 :: .ref 1125 :: .ref 1126 :: .ref 1127 :: .int 0 :: .int 0 :: .int 0 :: .int 0 :: .int 0 :: .int 0 :: .int 0 :: .int 0 :: .ref 1128 :: .null :: .null :: .null :: .null :: .null :: .null :: .null :: .null :: .null :: .null :: .null :: .null :: .null :: .null :: .null :: .null :: .null :: .null :: .null :: .null :: .null :: .null :: .null :: .null :: .null :: .null :: .null :: .null :: .null :: .null :: .int 0 :: .int 0 :: .int 0 :: .int 0 :: .int 0 :: .int 0 :: .int 0 :: .long 0 :: .null :: .int 0 :: .int 0 :: .int 0 :: .int 0 :: .int 0 :: .int 0 :: .int 0 :: .null :: .null :: .null :: .null :: .null :: .null :: .null :: .null :: .null :: .null :: .null :: .null :: .null :: .null :: .null :: .null :: .null :: .null :: .null :: .null :: .int 0 :: .int 0 :: .long 0 :: .int 0 :: .null :: .null :: .null :: .null :: .null :: [])) in_X12 tyX12_ok nmX12 rfl (k := 39) (by decide) rfl rfl rfl rfl kF_X12_93 dX12_init_221 (mm_fit_arr _ _) rfl (by decide) (Nat.le_of_ble_eq_true rfl) rfl ?_
  refine mm_aload_n dX12_init_224 rfl rfl ?_
  refine mm_bipush (v := 100) dX12_init_225 (by decide) ?_
  refine mm_newa3 (atype := .int) (n1 := 1130) (t := 0) (N := 100) (cl := .inl (0, 100, .inl (fun _ => 0))) (a0 := (100, .inl (fun _ => 0))) (fun _ => rfl) (fun _ => rfl) wA_int rfl (fun _ => rfl) (by decide) rfl (by decide) (by omega) (by omega) dX12_init_227 rfl ?_
  refine mm_putF3 (ci := 12) (fs1 := (.ref 1102 :: .int 0 :: .ref 1103 :: .int 0 :: .int 0 :: .int 0 :: .int (-1) :: .ref 1104 :: .ref 1105 :: .ref 1106 :: .ref 1107 :: .ref 1108 :: .ref 1109 :: .ref 1110 :: .ref 1111 :: .ref 1112 :: .ref 1113 :: .ref 1114 :: .ref 1115 :: .ref 1116 :: .ref 1117 :: .ref 1118 :: .ref 1119 :: .ref 1120 :: .ref 1121 :: .ref 1122 :: .ref 1123 :: .ref 1124 :: .ref 1125 :: .ref 1126 :: .ref 1127 :: .int 0 :: .int 0 :: .int 0 :: .int 0 :: .int 0 :: .int 0 :: .int 0 :: .int 0 :: .ref 1128 :: .ref 1129 :: .null :: .null :: .null :: .null :: .null :: .null :: .null :: .null :: .null :: .null :: .null :: .null :: .null :: .null :: .null :: .null :: .null :: .null :: .null :: .null :: .null :: .null :: .null :: .null :: .null :: .null :: .null :: .null :: .null :: .int 0 :: .int 0 :: .int 0 :: .int 0 :: .int 0 :: .int 0 :: .int 0 :: .long 0 :: .null :: .int 0 :: .int 0 :: .int 0 :: .int 0 :: .int 0 :: .int 0 :: .int 0 :: .null :: .null :: .null :: .null :: .null :: .null :: .null :: .null :: .null :: .null :: .null :: .null :: .null :: .null :: .null :: .null :: .null :: .null :: .null :: .null :: .int 0 :: .int 0 :: .long 0 :: .int 0 :: .null :: .null :: .null :: .null :: .null :: [])) in_X12 tyX12_ok nmX12 rfl (k := 40) (by decide) rfl rfl rfl rfl kF_X12_96 dX12_init_229 (mm_fit_arr _ _) rfl (by decide) (Nat.le_of_ble_eq_true rfl) rfl ?_
  refine mm_aload_n dX12_init_232 rfl rfl ?_
  refine mm_bipush (v := 100) dX12_init_233 (by decide) ?_
  refine mm_newa3 (atype := .int) (n1 := 1131) (t := 0) (N := 100) (cl := .inl (0, 100, .inl (fun _ => 0))) (a0 := (100, .inl (fun _ => 0))) (fun _ => rfl) (fun _ => rfl) wA_int rfl (fun _ => rfl) (by decide) rfl (by decide) (by omega) (by omega) dX12_init_235 rfl ?_
  refine mm_putF3 (ci := 12) (fs1 := (.ref 1102 :: .int 0 :: .ref 1103 :: .int 0 :: .int 0 :: .int 0 :: .int (-1) :: .ref 1104 :: .ref 1105 :: .ref 1106 :: .ref 1107 :: .ref 1108 :: .ref 1109 :: .ref 1110 :: .ref 1111 :: .ref 1112 :: .ref 1113 :: .ref 1114 :: .ref 1115 :: .ref 1116 :: .ref 1117 :: .ref 1118 :: .ref 1119 :: .ref 1120 :: .ref 1121 :: .ref 1122 :: .ref 1123 :: .ref 1124 :: .ref 1125 :: .ref 1126 :: .ref 1127 :: .int 0 :: .int 0 :: .int 0 :: .int 0 :: .int 0 :: .int 0 :: .int 0 :: .int 0 :: .ref 1128 :: .ref 1129 :: .ref 1130 :: .null :: .null :: .null :: .null :: .null :: .null :: .null :: .null :: .null :: .null :: .null :: .null :: .null :: .null :: .null :: .null :: .null :: .null :: .null :: .null :: .null :: .null :: .null :: .null :: .null :: .null :: .null :: .null :: .int 0 :: .int 0 :: .int 0 :: .int 0 :: .int 0 :: .int 0 :: .int 0 :: .long 0 :: .null :: .int 0 :: .int 0 :: .int 0 :: .int 0 :: .int 0 :: .int 0 :: .int 0 :: .null :: .null :: .null :: .null :: .null :: .null :: .null :: .null :: .null :: .null :: .null :: .null :: .null :: .null :: .null :: .null :: .null :: .null :: .null :: .null :: .int 0 :: .int 0 :: .long 0 :: .int 0 :: .null :: .null :: .null :: .null :: .null :: [])) in_X12 tyX12_ok nmX12 rfl (k := 41) (by decide) rfl rfl rfl rfl kF_X12_99 dX12_init_237 (mm_fit_arr _ _) rfl (by decide) (Nat.le_of_ble_eq_true rfl) rfl ?_
  refine mm_aload_n dX12_init_240 rfl rfl ?_
  refine mm_bipush (v := 100) dX12_init_241 (by decide) ?_
  refine mm_newa3 (atype := .int) (n1 := 1132) (t := 0) (N := 100) (cl := .inl (0, 100, .inl (fun _ => 0))) (a0 := (100, .inl (fun _ => 0))) (fun _ => rfl) (fun _ => rfl) wA_int rfl (fun _ => rfl) (by decide) rfl (by decide) (by omega) (by omega) dX12_init_243 rfl ?_
  refine mm_putF3 (ci := 12) (fs1 := (.ref 1102 :: .int 0 :: .ref 1103 :: .int 0 :: .int 0 :: .int 0 :: .int (-1) :: .ref 1104 :: .ref 1105 :: .ref 1106 :: .ref 1107 :: .ref 1108 :: .ref 1109 :: .ref 1110 :: .ref 1111 :: .ref 1112 :: .ref 1113 :: .ref 1114 :: .ref 1115 :: .ref 1116 :: .ref 1117 :: .ref 1118 :: .ref 1119 :: .ref 1120 :: .ref 1121 :: .ref 1122 :: .ref 1123 :: .ref 1124 :: .ref 1125 :: .ref 1126 :: .ref 1127 :: .int 0 :: .int 0 :: .int 0 :: .int 0 :: .int 0 :: .int 0 :: .int 0 :: .int 0 :: .ref 1128 :: .ref 1129 :: .ref 1130 :: .ref 1131 :: .null :: .null :: .null :: .null :: .null :: .null :: .null :: .null :: .null :: .null :: .null :: .null :: .null :: .null :: .null :: .null :: .null :: .null :: .null :: .null :: .null :: .null :: .null :: .null :: .null :: .null :: .null :: .int 0 :: .int 0 :: .int 0 :: .int 0 :: .int 0 :: .int 0 :: .int 0 :: .long 0 :: .null :: .int 0 :: .int 0 :: .int 0 :: .int 0 :: .int 0 :: .int 0 :: .int 0 :: .null :: .null :: .null :: .null :: .null :: .null :: .null :: .null :: .null :: .null :: .null :: .null :: .null :: .null :: .null :: .null :: .null :: .null :: .null :: .null :: .int 0 :: .int 0 :: .long 0 :: .int 0 :: .null :: .null :: .null :: .null :: .null :: [])) in_X12 tyX12_ok nmX12 rfl (k := 42) (by decide) rfl rfl rfl rfl kF_X12_102 dX12_init_245 (mm_fit_arr _ _) rfl (by decide) (Nat.le_of_ble_eq_true rfl) rfl ?_
  refine mm_aload_n dX12_init_248 rfl rfl ?_
  refine mm_bipush (v := 100) dX12_init_249 (by decide) ?_
  refine mm_newa3 (atype := .int) (n1 := 1133) (t := 0) (N := 100) (cl := .inl (0, 100, .inl (fun _ => 0))) (a0 := (100, .inl (fun _ => 0))) (fun _ => rfl) (fun _ => rfl) wA_int rfl (fun _ => rfl) (by decide) rfl (by decide) (by omega) (by omega) dX12_init_251 rfl ?_
  refine mm_putF3 (ci := 12) (fs1 := (.ref 1102 :: .int 0 :: .ref 1103 :: .int 0 :: .int 0 :: .int 0 :: .int (-1) :: .ref 1104 :: .ref 1105 :: .ref 1106 :: .ref 1107 :: .ref 1108 :: .ref 1109 :: .ref 1110 :: .ref 1111 :: .ref 1112 :: .ref 1113 :: .ref 1114 :: .ref 1115 :: .ref 1116 :: .ref 1117 :: .ref 1118 :: .ref 1119 :: .ref 1120 :: .ref 1121 :: .ref 1122 :: .ref 1123 :: .ref 1124 :: .ref 1125 :: .ref 1126 :: .ref 1127 :: .int 0 :: .int 0 :: .int 0 :: .int 0 :: .int 0 :: .int 0 :: .int 0 :: .int 0 :: .ref 1128 :: .ref 1129 :: .ref 1130 :: .ref 1131 :: .ref 1132 :: .null :: .null :: .null :: .null :: .null :: .null :: .null :: .null :: .null :: .null :: .null :: .null :: .null :: .null :: .null :: .null :: .null :: .null :: .null :: .null :: .null :: .null :: .null :: .null :: .null :: .null :: .int 0 :: .int 0 :: .int 0 :: .int 0 :: .int 0 :: .int 0 :: .int 0 :: .long 0 :: .null :: .int 0 :: .int 0 :: .int 0 :: .int 0 :: .int 0 :: .int 0 :: .int 0 :: .null :: .null :: .null :: .null :: .null :: .null :: .null :: .null :: .null :: .null :: .null :: .null :: .null :: .null :: .null :: .null :: .null :: .null :: .null :: .null :: .int 0 :: .int 0 :: .long 0 :: .int 0 :: .null :: .null :: .null :: .null :: .null :: [])) in_X12 tyX12_ok nmX12 rfl (k := 43) (by decide) rfl rfl rfl rfl kF_X12_105 dX12_init_253 (mm_fit_arr _ _) rfl (by decide) (Nat.le_of_ble_eq_true rfl) rfl ?_
  refine mm_aload_n dX12_init_256 rfl rfl ?_
  refine mm_bipush (v := 100) dX12_init_257 (by decide) ?_
  refine mm_newa3 (atype := .int) (n1 := 1134) (t := 0) (N := 100) (cl := .inl (0, 100, .inl (fun _ => 0))) (a0 := (100, .inl (fun _ => 0))) (fun _ => rfl) (fun _ => rfl) wA_int rfl (fun _ => rfl) (by decide) rfl (by decide) (by omega) (by omega) dX12_init_259 rfl ?_
  refine mm_putF3 (ci := 12) (fs1 := (.ref 1102 :: .int 0 :: .ref 1103 :: .int 0 :: .int 0 :: .int 0 :: .int (-1) :: .ref 1104 :: .ref 1105 :: .ref 1106 :: .ref 1107 :: .ref 1108 :: .ref 1109 :: .ref 1110 :: .ref 1111 :: .ref 1112 :: .ref 1113 :: .ref 1114 :: .ref 1115 :: .ref 1116 :: .ref 1117 :: .ref 1118 :: .ref 1119 :: .ref 1120 :: .ref 1121 :: .ref 1122 :: .ref 1123 :: .ref 1124 :: .ref 1125 :: .ref 1126 :: .ref 1127 :: .int 0 :: .int 0 :: .int 0 :: .int 0 :: .int 0 :: .int 0 :: .int 0 :: .int 0 :: .ref 1128 :: .ref 1129 :: .ref 1130 :: .ref 1131 :: .ref 1132 :: .ref 1133 :: .null :: .null :: .null :: .null :: .null :: .null :: .null :: .null :: .null :: .null :: .null :: .null :: .null :: .null :: .null :: .null :: .null :: .null :: .null :: .null :: .null :: .null :: .null :: .null :: .null :: .int 0 :: .int 0 :: .int 0 :: .int 0 :: .int 0 :: .int 0 :: .int 0 :: .long 0 :: .null :: .int 0 :: .int 0 :: .int 0 :: .int 0 :: .int 0 :: .int 0 :: .int 0 :: .null :: .null :: .null :: .null :: .null :: .null :: .null :: .null :: .null :: .null :: .null :: .null :: .null :: .null :: .null :: .null :: .null :: .null :: .null :: .null :: .int 0 :: .int 0 :: .long 0 :: .int 0 :: .null :: .null :: .null :: .null :: .null :: [])) in_X12 tyX12_ok nmX12 rfl (k := 44) (by decide) rfl rfl rfl rfl kF_X12_108 dX12_init_261 (mm_fit_arr _ _) rfl (by decide) (Nat.le_of_ble_eq_true rfl) rfl ?_
  refine mm_aload_n dX12_init_264 rfl rfl ?_
  refine mm_sipush (v := 200) dX12_init_265 (by decide) ?_
  refine mm_newa3 (atype := .int) (n1 := 1135) (t := 0) (N := 200) (cl := .inl (0, 200, .inl (fun _ => 0))) (a0 := (200, .inl (fun _ => 0))) (fun _ => rfl) (fun _ => rfl) wA_int rfl (fun _ => rfl) (by decide) rfl (by decide) (by omega) (by omega) dX12_init_268 rfl ?_
  refine mm_putF3 (ci := 12) (fs1 := (.ref 1102 :: .int 0 :: .ref 1103 :: .int 0 :: .int 0 :: .int 0 :: .int (-1) :: .ref 1104 :: .ref 1105 :: .ref 1106 :: .ref 1107 :: .ref 1108 :: .ref 1109 :: .ref 1110 :: .ref 1111 :: .ref 1112 :: .ref 1113 :: .ref 1114 :: .ref 1115 :: .ref 1116 :: .ref 1117 :: .ref 1118 :: .ref 1119 :: .ref 1120 :: .ref 1121 :: .ref 1122 :: .ref 1123 :: .ref 1124 :: .ref 1125 :: .ref 1126 :: .ref 1127 :: .int 0 :: .int 0 :: .int 0 :: .int 0 :: .int 0 :: .int 0 :: .int 0 :: .int 0 :: .ref 1128 :: .ref 1129 :: .ref 1130 :: .ref 1131 :: .ref 1132 :: .ref 1133 :: .ref 1134 :: .null :: .null :: .null :: .null :: .null :: .null :: .null :: .null :: .null :: .null :: .null :: .null :: .null :: .null :: .null :: .null :: .null :: .null :: .null :: .null :: .null :: .null :: .null :: .null :: .int 0 :: .int 0 :: .int 0 :: .int 0 :: .int 0 :: .int 0 :: .int 0 :: .long 0 :: .null :: .int 0 :: .int 0 :: .int 0 :: .int 0 :: .int 0 :: .int 0 :: .int 0 :: .null :: .null :: .null :: .null :: .null :: .null :: .null :: .null :: .null :: .null :: .null :: .null :: .null :: .null :: .null :: .null :: .null :: .null :: .null :: .null :: .int 0 :: .int 0 :: .long 0 :: .int 0 :: .null :: .null :: .null :: .null :: .null :: [])) in_X12 tyX12_ok nmX12 rfl (k := 45) (by decide) rfl rfl rfl rfl kF_X12_111 dX12_init_270 (mm_fit_arr _ _) rfl (by decide) (Nat.le_of_ble_eq_true rfl) rfl ?_
  refine mm_aload_n dX12_init_273 rfl rfl ?_
  refine mm_sipush (v := 200) dX12_init_274 (by decide) ?_
  refine mm_newa3 (atype := .int) (n1 := 1136) (t := 0) (N := 200) (cl := .inl (0, 200, .inl (fun _ => 0))) (a0 := (200, .inl (fun _ => 0))) (fun _ => rfl) (fun _ => rfl) wA_int rfl (fun _ => rfl) (by decide) rfl (by decide) (by omega) (by omega) dX12_init_277 rfl ?_
  refine mm_putF3 (ci := 12) (fs1 := (.ref 1102 :: .int 0 :: .ref 1103 :: .int 0 :: .int 0 :: .int 0 :: .int (-1) :: .ref 1104 :: .ref 1105 :: .ref 1106 :: .ref 1107 :: .ref 1108 :: .ref 1109 :: .ref 1110 :: .ref 1111 :: .ref 1112 :: .ref 1113 :: .ref 1114 :: .ref 1115 :: .ref 1116 :: .ref 1117 :: .ref 1118 :: .ref 1119 :: .ref 1120 :: .ref 1121 :: .ref 1122 :: .ref 1123 :: .ref 1124 :: .ref 1125 :: .ref 1126 :: .ref 1127 :: .int 0 :: .int 0 :: .int 0 :: .int 0 :: .int 0 :: .int 0 :: .int 0 :: .int 0 :: .ref 1128 :: .ref 1129 :: .ref 1130 :: .ref 1131 :: .ref 1132 :: .ref 1133 :: .ref 1134 :: .ref 1135 :: .null :: .null :: .null :: .null :: .null :: .null :: .null :: .null :: .null :: .null :: .null :: .null :: .null :: .null :: .null :: .null :: .null :: .null :: .null :: .null :: .null :: .null :: .null :: .int 0 :: .int 0 :: .int 0 :: .int 0 :: .int 0 :: .int 0 :: .int 0 :: .long 0 :: .null :: .int 0 :: .int 0 :: .int 0 :: .int 0 :: .int 0 :: .int 0 :: .int 0 :: .null :: .null :: .null :: .null :: .null :: .null :: .null :: .null :: .null :: .null :: .null :: .null :: .null :: .null :: .null :: .null :: .null :: .null :: .null :: .null :: .int 0 :: .int 0 :: .long 0 :: .int 0 :: .null :: .null :: .null :: .null :: .null :: [])) in_X12 tyX12_ok nmX12 rfl (k := 46) (by decide) rfl rfl rfl rfl kF_X12_114 dX12_init_279 (mm_fit_arr _ _) rfl (by decide) (Nat.le_of_ble_eq_true rfl) rfl ?_
  refine mm_aload_n dX12_init_282 rfl rfl ?_
  refine mm_sipush (v := 200) dX12_init_283 (by decide) ?_
  refine mm_newa3 (atype := .int) (n1 := 1137) (t := 0) (N := 200) (cl := .inl (0, 200, .inl (fun _ => 0))) (a0 := (200, .inl (fun _ => 0))) (fun _ => rfl) (fun _ => rfl) wA_int rfl (fun _ => rfl) (by decide) rfl (by decide) (by omega) (by omega) dX12_init_286 rfl ?_
  refine mm_putF3 (ci := 12) (fs1 := (.ref 1102 :: .int 0 :: .ref 1103 :: .int 0 :: .int 0 :: .int 0 :: .int (-1) :: .ref 1104 :: .ref 1105 :: .ref 1106 :: .ref 1107 :: .ref 1108 :: .ref 1109 :: .ref 1110 :: .ref 1111 :: .ref 1112 :: .ref 1113 :: .ref 1114 :: .ref 1115 :: .ref 1116 :: .ref 1117 :: .ref 1118 :: .ref 1119 :: .ref 1120 :: .ref 1121 :: .ref 1122 :: .ref 1123 :: .ref 1124 :: .ref 1125 :: .ref 1126 :: .ref 1127 :: .int 0 :: .int 0 :: .int 0 :: .int 0 :: .int 0 :: .int 0 :: .int 0 :: .int 0 :: .ref 1128 :: .ref 1129 :: .ref 1130 :: .ref 1131 :: .ref 1132 :: .ref 1133 :: .ref 1134 :: .ref 1135 :: .ref 1136 :: .null :: .null :: .null :: .null :: .null :: .null :: .null :: .null :: .null :: .null :: .null :: .null :: .null :: .null :: .null :: .null :: .null :: .null :: .null :: .null :: .null :: .null :: .int 0 :: .int 0 :: .int 0 :: .int 0 :: .int 0 :: .int 0 :: .int 0 :: .long 0 :: .null :: .int 0 :: .int 0 :: .int 0 :: .int 0 :: .int 0 :: .int 0 :: .int 0 :: .null :: .null :: .null :: .null :: .null :: .null :: .null :: .null :: .null :: .null :: .null :: .null :: .null :: .null :: .null :: .null :: .null :: .null :: .null :: .null :: .int 0 :: .int 0 :: .long 0 :: .int 0 :: .null :: .null :: .null :: .null :: .null :: [])) in_X12 tyX12_ok nmX12 rfl (k := 47) (by decide) rfl rfl rfl rfl kF_X12_117 dX12_init_288 (mm_fit_arr _ _) rfl (by decide) (Nat.le_of_ble_eq_true rfl) rfl ?_
  refine mm_aload_n dX12_init_291 rfl rfl ?_
  refine mm_sipush (v := 200) dX12_init_292 (by decide) ?_
  refine mm_newa3 (atype := .long) (n1 := 1138) (t := 1) (N := 200) (cl := .inl (1, 200, .inr (.inl (fun _ => 0)))) (a0 := (200, .inr (.inl (fun _ => 0)))) (fun _ => rfl) (fun _ => rfl) wA_long rfl (fun _ => rfl) (by decide) rfl (by decide) (by omega) (by omega) dX12_init_295 rfl ?_
  refine mm_putF3 (ci := 12) (fs1 := (.ref 1102 :: .int 0 :: .ref 1103 :: .int 0 :: .int 0 :: .int 0 :: .int (-1) :: .ref 1104 :: .ref 1105 :: .ref 1106 :: .ref 1107 :: .ref 1108 :: .ref 1109 :: .ref 1110 :: .ref 1111 :: .ref 1112 :: .ref 1113 :: .ref 1114 :: .ref 1115 :: .ref 1116 :: .ref 1117 :: .ref 1118 :: .ref 1119 :: .ref 1120 :: .ref 1121 :: .ref 1122 :: .ref 1123 :: .ref 1124 :: .ref 1125 :: .ref 1126 :: .ref 1127 :: .int 0 :: .int 0 :: .int 0 :: .int 0 :: .int 0 :: .int 0 :: .int 0 :: .int 0 :: .ref 1128 :: .ref 1129 :: .ref 1130 :: .ref 1131 :: .ref 1132 :: .ref 1133 :: .ref 1134 :: .ref 1135 :: .ref 1136 :: .ref 1137 :: .null :: .null :: .null :: .null :: .null :: .null :: .null :: .null :: .null :: .null :: .null :: .null :: .null :: .null :: .null :: .null :: .null :: .null :: .null :: .null :: .null :: .int 0 :: .int 0 :: .int 0 :: .int 0 :: .int 0 :: .int 0 :: .int 0 :: .long 0 :: .null :: .int 0 :: .int 0 :: .int 0 :: .int 0 :: .int 0 :: .int 0 :: .int 0 :: .null :: .null :: .null :: .null :: .null :: .null :: .null :: .null :: .null :: .null :: .null :: .null :: .null :: .null :: .null :: .null :: .null :: .null :: .null :: .null :: .int 0 :: .int 0 :: .long 0 :: .int 0 :: .null :: .null :: .null :: .null :: .null :: [])) in_X12 tyX12_ok nmX12 rfl (k := 48) (by decide) rfl rfl rfl rfl kF_X12_120 dX12_init_297 (mm_fit_arr _ _) rfl (by decide) (Nat.le_of_ble_eq_true rfl) rfl ?_
  refine mm_aload_n dX12_init_300 rfl rfl ?_
  refine mm_sipush (v := 200) dX12_init_301 (by decide) ?_
  refine mm_newa3 (atype := .int) (n1 := 1139) (t := 0) (N := 200) (cl := .inl (0, 200, .inl (fun _ => 0))) (a0 := (200, .inl (fun _ => 0))) (fun _ => rfl) (fun _ => rfl) wA_int rfl (fun _ => rfl) (by decide) rfl (by decide) (by omega) (by omega) dX12_init_304 rfl ?_
  refine mm_putF3 (ci := 12) (fs1 := (.ref 1102 :: .int 0 :: .ref 1103 :: .int 0 :: .int 0 :: .int 0 :: .int (-1) :: .ref 1104 :: .ref 1105 :: .ref 1106 :: .ref 1107 :: .ref 1108 :: .ref 1109 :: .ref 1110 :: .ref 1111 :: .ref 1112 :: .ref 1113 :: .ref 1114 :: .ref 1115 :: .ref 1116 :: .ref 1117 :: .ref 1118 :: .ref 1119 :: .ref 1120 :: .ref 1121 :: .ref 1122 :: .ref 1123 :: .ref 1124 :: .ref 1125 :: .ref 1126 :: .ref 1127 :: .int 0 :: .int 0 :: .int 0 :: .int 0 :: .int 0 :: .int 0 :: .int 0 :: .int 0 :: .ref 1128 :: .ref 1129 :: .ref 1130 :: .ref 1131 :: .ref 1132 :: .ref 1133 :: .ref 1134 :: .ref 1135 :: .ref 1136 :: .ref 1137 :: .ref 1138 :: .null :: .null :: .null :: .null :: .null :: .null :: .null :: .null :: .null :: .null :: .null :: .null :: .null :: .null :: .null :: .null :: .null :: .null :: .null :: .null :: .int 0 :: .int 0 :: .int 0 :: .int 0 :: .int 0 :: .int 0 :: .int 0 :: .long 0 :: .null :: .int 0 :: .int 0 :: .int 0 :: .int 0 :: .int 0 :: .int 0 :: .int 0 :: .null :: .null :: .null :: .null :: .null :: .null :: .null :: .null :: .null :: .null :: .null :: .null :: .null :: .null :: .null :: .null :: .null :: .null :: .null :: .null :: .int 0 :: .int 0 :: .long 0 :: .int 0 :: .null :: .null :: .null :: .null :: .null :: [])) in_X12 tyX12_ok nmX12 rfl (k := 49) (by decide) rfl rfl rfl rfl kF_X12_124 dX12_init_306 (mm_fit_arr _ _) rfl (by decide) (Nat.le_of_ble_eq_true rfl) rfl ?_
  refine mm_aload_n dX12_init_309 rfl rfl ?_
  refine mm_sipush (v := 200) dX12_init_310 (by decide) ?_
  refine mm_newa3 (atype := .int) (n1 := 1140) (t := 0) (N := 200) (cl := .inl (0, 200, .inl (fun _ => 0))) (a0 := (200, .inl (fun _ => 0))) (fun _ => rfl) (fun _ => rfl) wA_int rfl (fun _ => rfl) (by decide) rfl (by decide) (by omega) (by omega) dX12_init_313 rfl ?_
  refine mm_putF3 (ci := 12) (fs1 := (.ref 1102 :: .int 0 :: .ref 1103 :: .int 0 :: .int 0 :: .int 0 :: .int (-1) :: .ref 1104 :: .ref 1105 :: .ref 1106 :: .ref 1107 :: .ref 1108 :: .ref 1109 :: .ref 1110 :: .ref 1111 :: .ref 1112 :: .ref 1113 :: .ref 1114 :: .ref 1115 :: .ref 1116 :: .ref 1117 :: .ref 1118 :: .ref 1119 :: .ref 1120 :: .ref 1121 :: .ref 1122 :: .ref 1123 :: .ref 1124 :: .ref 1125 :: .ref 1126 :: .ref 1127 :: .int 0 :: .int 0 :: .int 0 :: .int 0 :: .int 0 :: .int 0 :: .int 0 :: .int 0 :: .ref 1128 :: .ref 1129 :: .ref 1130 :: .ref 1131 :: .ref 1132 :: .ref 1133 :: .ref 1134 :: .ref 1135 :: .ref 1136 :: .ref 1137 :: .ref 1138 :: .ref 1139 :: .null :: .null :: .null :: .null :: .null :: .null :: .null :: .null :: .null :: .null :: .null :: .null :: .null :: .null :: .null :: .null :: .null :: .null :: .null :: .int 0 :: .int 0 :: .int 0 :: .int 0 :: .int 0 :: .int 0 :: .int 0 :: .long 0 :: .null :: .int 0 :: .int 0 :: .int 0 :: .int 0 :: .int 0 :: .int 0 :: .int 0 :: .null :: .null :: .null :: .null :: .null :: .null :: .null :: .null :: .null :: .null :: .null :: .null :: .null :: .null :: .null :: .null :: .null :: .null :: .null :: .null :: .int 0 :: .int 0 :: .long 0 :: .int 0 :: .null :: .null :: .null :: .null :: .null :: [])) in_X12 tyX12_ok nmX12 rfl (k := 50) (by decide) rfl rfl rfl rfl kF_X12_127 dX12_init_315 (mm_fit_arr _ _) rfl (by decide) (Nat.le_of_ble_eq_true rfl) rfl ?_
  refine mm_aload_n dX12_init_318 rfl rfl ?_
  refine mm_sipush (v := 200) dX12_init_319 (by decide) ?_
  refine mm_newa3 (atype := .int) (n1 := 1141) (t := 0) (N := 200) (cl := .inl (0, 200, .inl (fun _ => 0))) (a0 := (200, .inl (fun _ => 0))) (fun _ => rfl) (fun _ => rfl) wA_int rfl (fun _ => rfl) (by decide) rfl (by decide) (by omega) (by omega) dX12_init_322 rfl ?_
  refine mm_putF3 (ci := 12) (fs1 := (.ref 1102 :: .int 0 :: .ref 1103 :: .int 0 :: .int 0 :: .int 0 :: .int (-1) :: .ref 1104 :: .ref 1105 :: .ref 1106 :: .ref 1107 :: .ref 1108 :: .ref 1109 :: .ref 1110 :: .ref 1111 :: .ref 1112 :: .ref 1113 :: .ref 1114 :: .ref 1115 :: .ref 1116 :: .ref 1117 :: .ref 1118 :: .ref 1119 :: .ref 1120 :: .ref 1121 :: .ref 1122 :: .ref 1123 :: .ref 1124 :: .ref 1125 :: .ref 1126 :: .ref 1127 :: .int 0 :: .int 0 :: .int 0 :: .int 0 :: .int 0 :: .int 0 :: .int 0 :: .int 0 :: .ref 1128 :: .ref 1129 :: .ref 1130 :: .ref 1131 :: .ref 1132 :: .ref 1133 :: .ref 1134 :: .ref 1135 :: .ref 1136 :: .ref 1137 :: .ref 1138 :: .ref 1139 :: .ref 1140 :: .null :: .null :: .null :: .null :: .null :: .null :: .null :: .null :: .null :: .null :: .null :: .null :: .null :: .null :: .null :: .null :: .null :: .null :: .int 0 :: .int 0 :: .int 0 :: .int 0 :: .int 0 :: .int 0 :: .int 0 :: .long 0 :: .null :: .int 0 :: .int 0 :: .int 0 :: .int 0 :: .int 0 :: .int 0 :: .int 0 :: .null :: .null :: .null :: .null :: .null :: .null :: .null :: .null :: .null :: .null :: .null :: .null :: .null :: .null :: .null :: .null :: .null :: .null :: .null :: .null :: .int 0 :: .int 0 :: .long 0 :: .int 0 :: .null :: .null :: .null :: .null :: .null :: [])) in_X12 tyX12_ok nmX12 rfl (k := 51) (by decide) rfl rfl rfl rfl kF_X12_130 dX12_init_324 (mm_fit_arr _ _) rfl (by decide) (Nat.le_of_ble_eq_true rfl) rfl ?_
  refine mm_aload_n dX12_init_327 rfl rfl ?_
  refine mm_sipush (v := 200) dX12_init_328 (by decide) ?_
  refine mm_newa3 (atype := .int) (n1 := 1142) (t := 0) (N := 200) (cl := .inl (0, 200, .inl (fun _ => 0))) (a0 := (200, .inl (fun _ => 0))) (fun _ => rfl) (fun _ => rfl) wA_int rfl (fun _ => rfl) (by decide) rfl (by decide) (by omega) (by omega) dX12_init_331 rfl ?_
  refine mm_putF3 (ci := 12) (fs1 := (.ref 1102 :: .int 0 :: .ref 1103 :: .int 0 :: .int 0 :: .int 0 :: .int (-1) :: .ref 1104 :: .ref 1105 :: .ref 1106 :: .ref 1107 :: .ref 1108 :: .ref 1109 :: .ref 1110 :: .ref 1111 :: .ref 1112 :: .ref 1113 :: .ref 1114 :: .ref 1115 :: .ref 1116 :: .ref 1117 :: .ref 1118 :: .ref 1119 :: .ref 1120 :: .ref 1121 :: .ref 1122 :: .ref 1123 :: .ref 1124 :: .ref 1125 :: .ref 1126 :: .ref 1127 :: .int 0 :: .int 0 :: .int 0 :: .int 0 :: .int 0 :: .int 0 :: .int 0 :: .int 0 :: .ref 1128 :: .ref 1129 :: .ref 1130 :: .ref 1131 :: .ref 1132 :: .ref 1133 :: .ref 1134 :: .ref 1135 :: .ref 1136 :: .ref 1137 :: .ref 1138 :: .ref 1139 :: .ref 1140 :: .ref 1141 :: .null :: .null :: .null :: .null :: .null :: .null :: .null :: .null :: .null :: .null :: .null :: .null :: .null :: .null :: .null :: .null :: .null :: .int 0 :: .int 0 :: .int 0 :: .int 0 :: .int 0 :: .int 0 :: .int 0 :: .long 0 :: .null :: .int 0 :: .int 0 :: .int 0 :: .int 0 :: .int 0 :: .int 0 :: .int 0 :: .null :: .null :: .null :: .null :: .null :: .null :: .null :: .null :: .null :: .null :: .null :: .null :: .null :: .null :: .null :: .null :: .null :: .null :: .null :: .null :: .int 0 :: .int 0 :: .long 0 :: .int 0 :: .null :: .null :: .null :: .null :: .null :: [])) in_X12 tyX12_ok nmX12 rfl (k := 52) (by decide) rfl rfl rfl rfl kF_X12_133 dX12_init_333 (mm_fit_arr _ _) rfl (by decide) (Nat.le_of_ble_eq_true rfl) rfl ?_
  refine mm_aload_n dX12_init_336 rfl rfl ?_
  refine mm_sipush (v := 200) dX12_init_337 (by decide) ?_
  refine mm_newa3 (atype := .boolean) (n1 := 1143) (t := 3) (N := 200) (cl := .inl (3, 200, .inl (fun _ => 0))) (a0 := (200, .inl (fun _ => 0))) (fun _ => rfl) (fun _ => rfl) wA_boolean rfl (fun _ => rfl) (by decide) rfl (by decide) (by omega) (by omega) dX12_init_340 rfl ?_
  refine mm_putF3 (ci := 12) (fs1 := (.ref 1102 :: .int 0 :: .ref 1103 :: .int 0 :: .int 0 :: .int 0 :: .int (-1) :: .ref 1104 :: .ref 1105 :: .ref 1106 :: .ref 1107 :: .ref 1108 :: .ref 1109 :: .ref 1110 :: .ref 1111 :: .ref 1112 :: .ref 1113 :: .ref 1114 :: .ref 1115 :: .ref 1116 :: .ref 1117 :: .ref 1118 :: .ref 1119 :: .ref 1120 :: .ref 1121 :: .ref 1122 :: .ref 1123 :: .ref 1124 :: .ref 1125 :: .ref 1126 :: .ref 1127 :: .int 0 :: .int 0 :: .int 0 :: .int 0 :: .int 0 :: .int 0 :: .int 0 :: .int 0 :: .ref 1128 :: .ref 1129 :: .ref 1130 :: .ref 1131 :: .ref 1132 :: .ref 1133 :: .ref 1134 :: .ref 1135 :: .ref 1136 :: .ref 1137 :: .ref 1138 :: .ref 1139 :: .ref 1140 :: .ref 1141 :: .ref 1142 :: .null :: .null :: .null :: .null :: .null :: .null :: .null :: .null :: .null :: .null :: .null :: .null :: .null :: .null :: .null :: .null :: .int 0 :: .int 0 :: .int 0 :: .int 0 :: .int 0 :: .int 0 :: .int 0 :: .long 0 :: .null :: .int 0 :: .int 0 :: .int 0 :: .int 0 :: .int 0 :: .int 0 :: .int 0 :: .null :: .null :: .null :: .null :: .null :: .null :: .null :: .null :: .null :: .null :: .null :: .null :: .null :: .null :: .null :: .null :: .null :: .null :: .null :: .null :: .int 0 :: .int 0 :: .long 0 :: .int 0 :: .null :: .null :: .null :: .null :: .null :: [])) in_X12 tyX12_ok nmX12 rfl (k := 53) (by decide) rfl rfl rfl rfl kF_X12_136 dX12_init_342 (mm_fit_arr _ _) rfl (by decide) (Nat.le_of_ble_eq_true rfl) rfl ?_
  refine mm_aload_n dX12_init_345 rfl rfl ?_
  refine mm_sipush (v := 200) dX12_init_346 (by decide) ?_
  refine mm_newa3 (atype := .int) (n1 := 1144) (t := 0) (N := 200) (cl := .inl (0, 200, .inl (fun _ => 0))) (a0 := (200, .inl (fun _ => 0))) (fun _ => rfl) (fun _ => rfl) wA_int rfl (fun _ => rfl) (by decide) rfl (by decide) (by omega) (by omega) dX12_init_349 rfl ?_
  refine mm_putF3 (ci := 12) (fs1 := (.ref 1102 :: .int 0 :: .ref 1103 :: .int 0 :: .int 0 :: .int 0 :: .int (-1) :: .ref 1104 :: .ref 1105 :: .ref 1106 :: .ref 1107 :: .ref 1108 :: .ref 1109 :: .ref 1110 :: .ref 1111 :: .ref 1112 :: .ref 1113 :: .ref 1114 :: .ref 1115 :: .ref 1116 :: .ref 1117 :: .ref 1118 :: .ref 1119 :: .ref 1120 :: .ref 1121 :: .ref 1122 :: .ref 1123 :: .ref 1124 :: .ref 1125 :: .ref 1126 :: .ref 1127 :: .int 0 :: .int 0 :: .int 0 :: .int 0 :: .int 0 :: .int 0 :: .int 0 :: .int 0 :: .ref 1128 :: .ref 1129 :: .ref 1130 :: .ref 1131 :: .ref 1132 :: .ref 1133 :: .ref 1134 :: .ref 1135 :: .ref 1136 :: .ref 1137 :: .ref 1138 :: .ref 1139 :: .ref 1140 :: .ref 1141 :: .ref 1142 :: .ref 1143 :: .null :: .null :: .null :: .null :: .null :: .null :: .null :: .null :: .null :: .null :: .null :: .null :: .null :: .null :: .null :: .int 0 :: .int 0 :: .int 0 :: .int 0 :: .int 0 :: .int 0 :: .int 0 :: .long 0 :: .null :: .int 0 :: .int 0 :: .int 0 :: .int 0 :: .int 0 :: .int 0 :: .int 0 :: .null :: .null :: .null :: .null :: .null :: .null :: .null :: .null :: .null :: .null :: .null :: .null :: .null :: .null :: .null :: .null :: .null :: .null :: .null :: .null :: .int 0 :: .int 0 :: .long 0 :: .int 0 :: .null :: .null :: .null :: .null :: .null :: [])) in_X12 tyX12_ok nmX12 rfl (k := 54) (by decide) rfl rfl rfl rfl kF_X12_139 dX12_init_351 (mm_fit_arr _ _) rfl (by decide) (Nat.le_of_ble_eq_true rfl) rfl ?_
  refine mm_aload_n dX12_init_354 rfl rfl ?_
  refine mm_sipush (v := 200) dX12_init_355 (by decide) ?_
  refine mm_newa3 (atype := .int) (n1 := 1145) (t := 0) (N := 200) (cl := .inl (0, 200, .inl (fun _ => 0))) (a0 := (200, .inl (fun _ => 0))) (fun _ => rfl) (fun _ => rfl) wA_int rfl (fun _ => rfl) (by decide) rfl (by decide) (by omega) (by omega) dX12_init_358 rfl ?_
  refine mm_putF3 (ci := 12) (fs1 := (.ref 1102 :: .int 0 :: .ref 1103 :: .int 0 :: .int 0 :: .int 0 :: .int (-1) :: .ref 1104 :: .ref 1105 :: .ref 1106 :: .ref 1107 :: .ref 1108 :: .ref 1109 :: .ref 1110 :: .ref 1111 :: .ref 1112 :: .ref 1113 :: .ref 1114 :: .ref 1115 :: .ref 1116 :: .ref 1117 :: .ref 1118 :: .ref 1119 :: .ref 1120 :: .ref 1121 :: .ref 1122 :: .ref 1123 :: .ref 1124 :: .ref 1125 :: .ref 1126 :: .ref 1127 :: .int 0 :: .int 0 :: .int 0 :: .int 0 :: .int 0 :: .int 0 :: .int 0 :: .int 0 :: .ref 1128 :: .ref 1129 :: .ref 1130 :: .ref 1131 :: .ref 1132 :: .ref 1133 :: .ref 1134 :: .ref 1135 :: .ref 1136 :: .ref 1137 :: .ref 1138 :: .ref 1139 :: .ref 1140 :: .ref 1141 :: .ref 1142 :: .ref 1143 :: .ref 1144 :: .null :: .null :: .null :: .null :: .null :: .null :: .null :: .null :: .null :: .null :: .null :: .null :: .null :: .null :: .int 0 :: .int 0 :: .int 0 :: .int 0 :: .int 0 :: .int 0 :: .int 0 :: .long 0 :: .null :: .int 0 :: .int 0 :: .int 0 :: .int 0 :: .int 0 :: .int 0 :: .int 0 :: .null :: .null :: .null :: .null :: .null :: .null :: .null :: .null :: .null :: .null :: .null :: .null :: .null :: .null :: .null :: .null :: .null :: .null :: .null :: .null :: .int 0 :: .int 0 :: .long 0 :: .int 0 :: .null :: .null :: .null :: .null :: .null :: [])) in_X12 tyX12_ok nmX12 rfl (k := 55) (by decide) rfl rfl rfl rfl kF_X12_142 dX12_init_360 (mm_fit_arr _ _) rfl (by decide) (Nat.le_of_ble_eq_true rfl) rfl ?_
  refine mm_aload_n dX12_init_363 rfl rfl ?_
  refine mm_sipush (v := 200) dX12_init_364 (by decide) ?_
  refine mm_newa3 (atype := .boolean) (n1 := 1146) (t := 3) (N := 200) (cl := .inl (3, 200, .inl (fun _ => 0))) (a0 := (200, .inl (fun _ => 0))) (fun _ => rfl) (fun _ => rfl) wA_boolean rfl (fun _ => rfl) (by decide) rfl (by decide) (by omega) (by omega) dX12_init_367 rfl ?_
  refine mm_putF3 (ci := 12) (fs1 := (.ref 1102 :: .int 0 :: .ref 1103 :: .int 0 :: .int 0 :: .int 0 :: .int (-1) :: .ref 1104 :: .ref 1105 :: .ref 1106 :: .ref 1107 :: .ref 1108 :: .ref 1109 :: .ref 1110 :: .ref 1111 :: .ref 1112 :: .ref 1113 :: .ref 1114 :: .ref 1115 :: .ref 1116 :: .ref 1117 :: .ref 1118 :: .ref 1119 :: .ref 1120 :: .ref 1121 :: .ref 1122 :: .ref 1123 :: .ref 1124 :: .ref 1125 :: .ref 1126 :: .ref 1127 :: .int 0 :: .int 0 :: .int 0 :: .int 0 :: .int 0 :: .int 0 :: .int 0 :: .int 0 :: .ref 1128 :: .ref 1129 :: .ref 1130 :: .ref 1131 :: .ref 1132 :: .ref 1133 :: .ref 1134 :: .ref 1135 :: .ref 1136 :: .ref 1137 :: .ref 1138 :: .ref 1139 :: .ref 1140 :: .ref 1141 :: .ref 1142 :: .ref 1143 :: .ref 1144 :: .ref 1145 :: .null :: .null :: .null :: .null :: .null :: .null :: .null :: .null :: .null :: .null :: .null :: .null :: .null :: .int 0 :: .int 0 :: .int 0 :: .int 0 :: .int 0 :: .int 0 :: .int 0 :: .long 0 :: .null :: .int 0 :: .int 0 :: .int 0 :: .int 0 :: .int 0 :: .int 0 :: .int 0 :: .null :: .null :: .null :: .null :: .null :: .null :: .null :: .null :: .null :: .null :: .null :: .null :: .null :: .null :: .null :: .null :: .null :: .null :: .null :: .null :: .int 0 :: .int 0 :: .long 0 :: .int 0 :: .null :: .null :: .null :: .null :: .null :: [])) in_X12 tyX12_ok nmX12 rfl (k := 56) (by decide) rfl rfl rfl rfl kF_X12_145 dX12_init_369 (mm_fit_arr _ _) rfl (by decide) (Nat.le_of_ble_eq_true rfl) rfl ?_
  refine mm_aload_n dX12_init_372 rfl rfl ?_
  refine mm_sipush (v := 200) dX12_init_373 (by decide) ?_
  refine mm_newa3 (atype := .int) (n1 := 1147) (t := 0) (N := 200) (cl := .inl (0, 200, .inl (fun _ => 0))) (a0 := (200, .inl (fun _ => 0))) (fun _ => rfl) (fun _ => rfl) wA_int rfl (fun _ => rfl) (by decide) rfl (by decide) (by omega) (by omega) dX12_init_376 rfl ?_
  refine mm_putF3 (ci := 12) (fs1 := (.ref 1102 :: .int 0 :: .ref 1103 :: .int 0 :: .int 0 :: .int 0 :: .int (-1) :: .ref 1104 :: .ref 1105 :: .ref 1106 :: .ref 1107 :: .ref 1108 :: .ref 1109 :: .ref 1110 :: .ref 1111 :: .ref 1112 :: .ref 1113 :: .ref 1114 :: .ref 1115 :: .ref 1116 :: .ref 1117 :: .ref 1118 :: .ref 1119 :: .ref 1120 :: .ref 1121 :: .ref 1122 :: .ref 1123 :: .ref 1124 :: .ref 1125 :: .ref 1126 :: .ref 1127 :: .int 0 :: .int 0 :: .int 0 :: .int 0 :: .int 0 :: .int 0 :: .int 0 :: .int 0 :: .ref 1128 :: .ref 1129 :: .ref 1130 :: .ref 1131 :: .ref 1132 :: .ref 1133 :: .ref 1134 :: .ref 1135 :: .ref 1136 :: .ref 1137 :: .ref 1138 :: .ref 1139 :: .ref 1140 :: .ref 1141 :: .ref 1142 :: .ref 1143 :: .ref 1144 :: .ref 1145 :: .ref 1146 :: .null :: .null :: .null :: .null :: .null :: .null :: .null :: .null :: .null :: .null :: .null :: .null :: .int 0 :: .int 0 :: .int 0 :: .int 0 :: .int 0 :: .int 0 :: .int 0 :: .long 0 :: .null :: .int 0 :: .int 0 :: .int 0 :: .int 0 :: .int 0 :: .int 0 :: .int 0 :: .null :: .null :: .null :: .null :: .null :: .null :: .null :: .null :: .null :: .null :: .null :: .null :: .null :: .null :: .null :: .null :: .null :: .null :: .null :: .null :: .int 0 :: .int 0 :: .long 0 :: .int 0 :: .null :: .null :: .null :: .null :: .null :: [])) in_X12 tyX12_ok nmX12 rfl (k := 57) (by decide) rfl rfl rfl rfl kF_X12_148 dX12_init_378 (mm_fit_arr _ _) rfl (by decide) (Nat.le_of_ble_eq_true rfl) rfl ?_
  refine mm_aload_n dX12_init_381 rfl rfl ?_
  refine mm_sipush (v := 200) dX12_init_382 (by decide) ?_
  refine mm_newa3 (atype := .int) (n1 := 1148) (t := 0) (N := 200) (cl := .inl (0, 200, .inl (fun _ => 0))) (a0 := (200, .inl (fun _ => 0))) (fun _ => rfl) (fun _ => rfl) wA_int rfl (fun _ => rfl) (by decide) rfl (by decide) (by omega) (by omega) dX12_init_385 rfl ?_
  refine mm_putF3 (ci := 12) (fs1 := (.ref 1102 :: .int 0 :: .ref 1103 :: .int 0 :: .int 0 :: .int 0 :: .int (-1) :: .ref 1104 :: .ref 1105 :: .ref 1106 :: .ref 1107 :: .ref 1108 :: .ref 1109 :: .ref 1110 :: .ref 1111 :: .ref 1112 :: .ref 1113 :: .ref 1114 :: .ref 1115 :: .ref 1116 :: .ref 1117 :: .ref 1118 :: .ref 1119 :: .ref 1120 :: .ref 1121 :: .ref 1122 :: .ref 1123 :: .ref 1124 :: .ref 1125 :: .ref 1126 :: .ref 1127 :: .int 0 :: .int 0 :: .int 0 :: .int 0 :: .int 0 :: .int 0 :: .int 0 :: .int 0 :: .ref 1128 :: .ref 1129 :: .ref 1130 :: .ref 1131 :: .ref 1132 :: .ref 1133 :: .ref 1134 :: .ref 1135 :: .ref 1136 :: .ref 1137 :: .ref 1138 :: .ref 1139 :: .ref 1140 :: .ref 1141 :: .ref 1142 :: .ref 1143 :: .ref 1144 :: .ref 1145 :: .ref 1146 :: .ref 1147 :: .null :: .null :: .null :: .null :: .null :: .null :: .null :: .null :: .null :: .null :: .null :: .int 0 :: .int 0 :: .int 0 :: .int 0 :: .int 0 :: .int 0 :: .int 0 :: .long 0 :: .null :: .int 0 :: .int 0 :: .int 0 :: .int 0 :: .int 0 :: .int 0 :: .int 0 :: .null :: .null :: .null :: .null :: .null :: .null :: .null :: .null :: .null :: .null :: .null :: .null :: .null :: .null :: .null :: .null :: .null :: .null :: .null :: .null :: .int 0 :: .int 0 :: .long 0 :: .int 0 :: .null :: .null :: .null :: .null :: .null :: [])) in_X12 tyX12_ok nmX12 rfl (k := 58) (by decide) rfl rfl rfl rfl kF_X12_151 dX12_init_387 (mm_fit_arr _ _) rfl (by decide) (Nat.le_of_ble_eq_true rfl) rfl ?_
  refine mm_aload_n dX12_init_390 rfl rfl ?_
  refine mm_sipush (v := 200) dX12_init_391 (by decide) ?_
  refine mm_newa3 (atype := .int) (n1 := 1149) (t := 0) (N := 200) (cl := .inl (0, 200, .inl (fun _ => 0))) (a0 := (200, .inl (fun _ => 0))) (fun _ => rfl) (fun _ => rfl) wA_int rfl (fun _ => rfl) (by decide) rfl (by decide) (by omega) (by omega) dX12_init_394 rfl ?_
  refine mm_putF3 (ci := 12) (fs1 := (.ref 1102 :: .int 0 :: .ref 1103 :: .int 0 :: .int 0 :: .int 0 :: .int (-1) :: .ref 1104 :: .ref 1105 :: .ref 1106 :: .ref 1107 :: .ref 1108 :: .ref 1109 :: .ref 1110 :: .ref 1111 :: .ref 1112 :: .ref 1113 :: .ref 1114 :: .ref 1115 :: .ref 1116 :: .ref 1117 :: .ref 1118 :: .ref 1119 :: .ref 1120 :: .ref 1121 :: .ref 1122 :: .ref 1123 :: .ref 1124 :: .ref 1125 :: .ref 1126 :: .ref 1127 :: .int 0 :: .int 0 :: .int 0 :: .int 0 :: .int 0 :: .int 0 :: .int 0 :: .int 0 :: .ref 1128 :: .ref 1129 :: .ref 1130 :: .ref 1131 :: .ref 1132 :: .ref 1133 :: .ref 1134 :: .ref 1135 :: .ref 1136 :: .ref 1137 :: .ref 1138 :: .ref 1139 :: .ref 1140 :: .ref 1141 :: .ref 1142 :: .ref 1143 :: .ref 1144 :: .ref 1145 :: .ref 1146 :: .ref 1147 :: .ref 1148 :: .null :: .null :: .null :: .null :: .null :: .null :: .null :: .null :: .null :: .null :: .int 0 :: .int 0 :: .int 0 :: .int 0 :: .int 0 :: .int 0 :: .int 0 :: .long 0 :: .null :: .int 0 :: .int 0 :: .int 0 :: .int 0 :: .int 0 :: .int 0 :: .int 0 :: .null :: .null :: .null :: .null :: .null :: .null :: .null :: .null :: .null :: .null :: .null :: .null :: .null :: .null :: .null :: .null :: .null :: .null :: .null :: .null :: .int 0 :: .int 0 :: .long 0 :: .int 0 :: .null :: .null :: .null :: .null :: .null :: [])) in_X12 tyX12_ok nmX12 rfl (k := 59) (by decide) rfl rfl rfl rfl kF_X12_154 dX12_init_396 (mm_fit_arr _ _) rfl (by decide) (Nat.le_of_ble_eq_true rfl) rfl ?_
  refine mm_aload_n dX12_init_399 rfl rfl ?_
  refine mm_sipush (v := 200) dX12_init_400 (by decide) ?_
  refine mm_newa3 (atype := .int) (n1 := 1150) (t := 0) (N := 200) (cl := .inl (0, 200, .inl (fun _ => 0))) (a0 := (200, .inl (fun _ => 0))) (fun _ => rfl) (fun _ => rfl) wA_int rfl (fun _ => rfl) (by decide) rfl (by decide) (by omega) (by omega) dX12_init_403 rfl ?_
  refine mm_putF3 (ci := 12) (fs1 := (.ref 1102 :: .int 0 :: .ref 1103 :: .int 0 :: .int 0 :: .int 0 :: .int (-1) :: .ref 1104 :: .ref 1105 :: .ref 1106 :: .ref 1107 :: .ref 1108 :: .ref 1109 :: .ref 1110 :: .ref 1111 :: .ref 1112 :: .ref 1113 :: .ref 1114 :: .ref 1115 :: .ref 1116 :: .ref 1117 :: .ref 1118 :: .ref 1119 :: .ref 1120 :: .ref 1121 :: .ref 1122 :: .ref 1123 :: .ref 1124 :: .ref 1125 :: .ref 1126 :: .ref 1127 :: .int 0 :: .int 0 :: .int 0 :: .int 0 :: .int 0 :: .int 0 :: .int 0 :: .int 0 :: .ref 1128 :: .ref 1129 :: .ref 1130 :: .ref 1131 :: .ref 1132 :: .ref 1133 :: .ref 1134 :: .ref 1135 :: .ref 1136 :: .ref 1137 :: .ref 1138 :: .ref 1139 :: .ref 1140 :: .ref 1141 :: .ref 1142 :: .ref 1143 :: .ref 1144 :: .ref 1145 :: .ref 1146 :: .ref 1147 :: .ref 1148 :: .ref 1149 :: .null :: .null :: .null :: .null :: .null :: .null :: .null :: .null :: .null :: .int 0 :: .int 0 :: .int 0 :: .int 0 :: .int 0 :: .int 0 :: .int 0 :: .long 0 :: .null :: .int 0 :: .int 0 :: .int 0 :: .int 0 :: .int 0 :: .int 0 :: .int 0 :: .null :: .null :: .null :: .null :: .null :: .null :: .null :: .null :: .null :: .null :: .null :: .null :: .null :: .null :: .null :: .null :: .null :: .null :: .null :: .null :: .int 0 :: .int 0 :: .long 0 :: .int 0 :: .null :: .null :: .null :: .null :: .null :: [])) in_X12 tyX12_ok nmX12 rfl (k := 60) (by decide) rfl rfl rfl rfl kF_X12_157 dX12_init_405 (mm_fit_arr _ _) rfl (by decide) (Nat.le_of_ble_eq_true rfl) rfl ?_
  refine mm_aload_n dX12_init_408 rfl rfl ?_
  refine mm_sipush (v := 200) dX12_init_409 (by decide) ?_
  refine mm_newa3 (atype := .int) (n1 := 1151) (t := 0) (N := 200) (cl := .inl (0, 200, .inl (fun _ => 0))) (a0 := (200, .inl (fun _ => 0))) (fun _ => rfl) (fun _ => rfl) wA_int rfl (fun _ => rfl) (by decide) rfl (by decide) (by omega) (by omega) dX12_init_412 rfl ?_
  refine mm_putF3 (ci := 12) (fs1 := (.ref 1102 :: .int 0 :: .ref 1103 :: .int 0 :: .int 0 :: .int 0 :: .int (-1) :: .ref 1104 :: .ref 1105 :: .ref 1106 :: .ref 1107 :: .ref 1108 :: .ref 1109 :: .ref 1110 :: .ref 1111 :: .ref 1112 :: .ref 1113 :: .ref 1114 :: .ref 1115 :: .ref 1116 :: .ref 1117 :: .ref 1118 :: .ref 1119 :: .ref 1120 :: .ref 1121 :: .ref 1122 :: .ref 1123 :: .ref 1124 :: .ref 1125 :: .ref 1126 :: .ref 1127 :: .int 0 :: .int 0 :: .int 0 :: .int 0 :: .int 0 :: .int 0 :: .int 0 :: .int 0 :: .ref 1128 :: .ref 1129 :: .ref 1130 :: .ref 1131 :: .ref 1132 :: .ref 1133 :: .ref 1134 :: .ref 1135 :: .ref 1136 :: .ref 1137 :: .ref 1138 :: .ref 1139 :: .ref 1140 :: .ref 1141 :: .ref 1142 :: .ref 1143 :: .ref 1144 :: .ref 1145 :: .ref 1146 :: .ref 1147 :: .ref 1148 :: .ref 1149 :: .ref 1150 :: .null :: .null :: .null :: .null :: .null :: .null :: .null :: .null :: .int 0 :: .int 0 :: .int 0 :: .int 0 :: .int 0 :: .int 0 :: .int 0 :: .long 0 :: .null :: .int 0 :: .int 0 :: .int 0 :: .int 0 :: .int 0 :: .int 0 :: .int 0 :: .null :: .null :: .null :: .null :: .null :: .null :: .null :: .null :: .null :: .null :: .null :: .null :: .null :: .null :: .null :: .null :: .null :: .null :: .null :: .null :: .int 0 :: .int 0 :: .long 0 :: .int 0 :: .null :: .null :: .null :: .null :: .null :: [])) in_X12 tyX12_ok nmX12 rfl (k := 61) (by decide) rfl rfl rfl rfl kF_X12_160 dX12_init_414 (mm_fit_arr _ _) rfl (by decide) (Nat.le_of_ble_eq_true rfl) rfl ?_
  refine mm_aload_n dX12_init_417 rfl rfl ?_
  refine mm_sipush (v := 200) dX12_init_418 (by decide) ?_
  refine mm_newa3 (atype := .int) (n1 := 1152) (t := 0) (N := 200) (cl := .inl (0, 200, .inl (fun _ => 0))) (a0 := (200, .inl (fun _ => 0))) (fun _ => rfl) (fun _ => rfl) wA_int rfl (fun _ => rfl) (by decide) rfl (by decide) (by omega) (by omega) dX12_init_421 rfl ?_
  refine mm_putF3 (ci := 12) (fs1 := (.ref 1102 :: .int 0 :: .ref 1103 :: .int 0 :: .int 0 :: .int 0 :: .int (-1) :: .ref 1104 :: .ref 1105 :: .ref 1106 :: .ref 1107 :: .ref 1108 :: .ref 1109 :: .ref 1110 :: .ref 1111 :: .ref 1112 :: .ref 1113 :: .ref 1114 :: .ref 1115 :: .ref 1116 :: .ref 1117 :: .ref 1118 :: .ref 1119 :: .ref 1120 :: .ref 1121 :: .ref 1122 :: .ref 1123 :: .ref 1124 :: .ref 1125 :: .ref 1126 :: .ref 1127 :: .int 0 :: .int 0 :: .int 0 :: .int 0 :: .int 0 :: .int 0 :: .int 0 :: .int 0 :: .ref 1128 :: .ref 1129 :: .ref 1130 :: .ref 1131 :: .ref 1132 :: .ref 1133 :: .ref 1134 :: .ref 1135 :: .ref 1136 :: .ref 1137 :: .ref 1138 :: .ref 1139 :: .ref 1140 :: .ref 1141 :: .ref 1142 :: .ref 1143 :: .ref 1144 :: .ref 1145 :: .ref 1146 :: .ref 1147 :: .ref 1148 :: .ref 1149 :: .ref 1150 :: .ref 1151 :: .null :: .null :: .null :: .null :: .null :: .null :: .null :: .int 0 :: .int 0 :: .int 0 :: .int 0 :: .int 0 :: .int 0 :: .int 0 :: .long 0 :: .null :: .int 0 :: .int 0 :: .int 0 :: .int 0 :: .int 0 :: .int 0 :: .int 0 :: .null :: .null :: .null :: .null :: .null :: .null :: .null :: .null :: .null :: .null :: .null :: .null :: .null :: .null :: .null :: .null :: .null :: .null :: .null :: .null :: .int 0 :: .int 0 :: .long 0 :: .int 0 :: .null :: .null :: .null :: .null :: .null :: [])) in_X12 tyX12_ok nmX12 rfl (k := 62) (by decide) rfl rfl rfl rfl kF_X12_163 dX12_init_423 (mm_fit_arr _ _) rfl (by decide) (Nat.le_of_ble_eq_true rfl) rfl ?_
  refine mm_aload_n dX12_init_426 rfl rfl ?_
  refine mm_sipush (v := 200) dX12_init_427 (by decide) ?_
  refine mm_newa3 (atype := .long) (n1 := 1153) (t := 1) (N := 200) (cl := .inl (1, 200, .inr (.inl (fun _ => 0)))) (a0 := (200, .inr (.inl (fun _ => 0)))) (fun _ => rfl) (fun _ => rfl) wA_long rfl (fun _ => rfl) (by decide) rfl (by decide) (by omega) (by omega) dX12_init_430 rfl ?_
  refine mm_putF3 (ci := 12) (fs1 := (.ref 1102 :: .int 0 :: .ref 1103 :: .int 0 :: .int 0 :: .int 0 :: .int (-1) :: .ref 1104 :: .ref 1105 :: .ref 1106 :: .ref 1107 :: .ref 1108 :: .ref 1109 :: .ref 1110 :: .ref 1111 :: .ref 1112 :: .ref 1113 :: .ref 1114 :: .ref 1115 :: .ref 1116 :: .ref 1117 :: .ref 1118 :: .ref 1119 :: .ref 1120 :: .ref 1121 :: .ref 1122 :: .ref 1123 :: .ref 1124 :: .ref 1125 :: .ref 1126 :: .ref 1127 :: .int 0 :: .int 0 :: .int 0 :: .int 0 :: .int 0 :: .int 0 :: .int 0 :: .int 0 :: .ref 1128 :: .ref 1129 :: .ref 1130 :: .ref 1131 :: .ref 1132 :: .ref 1133 :: .ref 1134 :: .ref 1135 :: .ref 1136 :: .ref 1137 :: .ref 1138 :: .ref 1139 :: .ref 1140 :: .ref 1141 :: .ref 1142 :: .ref 1143 :: .ref 1144 :: .ref 1145 :: .ref 1146 :: .ref 1147 :: .ref 1148 :: .ref 1149 :: .ref 1150 :: .ref 1151 :: .ref 1152 :: .null :: .null :: .null :: .null :: .null :: .null :: .int 0 :: .int 0 :: .int 0 :: .int 0 :: .int 0 :: .int 0 :: .int 0 :: .long 0 :: .null :: .int 0 :: .int 0 :: .int 0 :: .int 0 :: .int 0 :: .int 0 :: .int 0 :: .null :: .null :: .null :: .null :: .null :: .null :: .null :: .null :: .null :: .null :: .null :: .null :: .null :: .null :: .null :: .null :: .null :: .null :: .null :: .null :: .int 0 :: .int 0 :: .long 0 :: .int 0 :: .null :: .null :: .null :: .null :: .null :: [])) in_X12 tyX12_ok nmX12 rfl (k := 63) (by decide) rfl rfl rfl rfl kF_X12_166 dX12_init_432 (mm_fit_arr _ _) rfl (by decide) (Nat.le_of_ble_eq_true rfl) rfl ?_
  refine mm_aload_n dX12_init_435 rfl rfl ?_
  refine mm_sipush (v := 200) dX12_init_436 (by decide) ?_
  refine mm_newa3 (atype := .int) (n1 := 1154) (t := 0) (N := 200) (cl := .inl (0, 200, .inl (fun _ => 0))) (a0 := (200, .inl (fun _ => 0))) (fun _ => rfl) (fun _ => rfl) wA_int rfl (fun _ => rfl) (by decide) rfl (by decide) (by omega) (by omega) dX12_init_439 rfl ?_
  refine mm_putF3 (ci := 12) (fs1 := (.ref 1102 :: .int 0 :: .ref 1103 :: .int 0 :: .int 0 :: .int 0 :: .int (-1) :: .ref 1104 :: .ref 1105 :: .ref 1106 :: .ref 1107 :: .ref 1108 :: .ref 1109 :: .ref 1110 :: .ref 1111 :: .ref 1112 :: .ref 1113 :: .ref 1114 :: .ref 1115 :: .ref 1116 :: .ref 1117 :: .ref 1118 :: .ref 1119 :: .ref 1120 :: .ref 1121 :: .ref 1122 :: .ref 1123 :: .ref 1124 :: .ref 1125 :: .ref 1126 :: .ref 1127 :: .int 0 :: .int 0 :: .int 0 :: .int 0 :: .int 0 :: .int 0 :: .int 0 :: .int 0 :: .ref 1128 :: .ref 1129 :: .ref 1130 :: .ref 1131 :: .ref 1132 :: .ref 1133 :: .ref 1134 :: .ref 1135 :: .ref 1136 :: .ref 1137 :: .ref 1138 :: .ref 1139 :: .ref 1140 :: .ref 1141 :: .ref 1142 :: .ref 1143 :: .ref 1144 :: .ref 1145 :: .ref 1146 :: .ref 1147 :: .ref 1148 :: .ref 1149 :: .ref 1150 :: .ref 1151 :: .ref 1152 :: .ref 1153 :: .null :: .null :: .null :: .null :: .null :: .int 0 :: .int 0 :: .int 0 :: .int 0 :: .int 0 :: .int 0 :: .int 0 :: .long 0 :: .null :: .int 0 :: .int 0 :: .int 0 :: .int 0 :: .int 0 :: .int 0 :: .int 0 :: .null :: .null :: .null :: .null :: .null :: .null :: .null :: .null :: .null :: .null :: .null :: .null :: .null :: .null :: .null :: .null :: .null :: .null :: .null :: .null :: .int 0 :: .int 0 :: .long 0 :: .int 0 :: .null :: .null :: .null :: .null :: .null :: [])) in_X12 tyX12_ok nmX12 rfl (k := 64) (by decide) rfl rfl rfl rfl kF_X12_169 dX12_init_441 (mm_fit_arr _ _) rfl (by decide) (Nat.le_of_ble_eq_true rfl) rfl ?_
  refine mm_aload_n dX12_init_444 rfl rfl ?_
  refine mm_sipush (v := 400) dX12_init_445 (by decide) ?_
  refine mm_newa3 (atype := .int) (n1 := 1155) (t := 0) (N := 400) (cl := .inl (0, 400, .inl (fun _ => 0))) (a0 := (400, .inl (fun _ => 0))) (fun _ => rfl) (fun _ => rfl) wA_int rfl (fun _ => rfl) (by decide) rfl (by decide) (by omega) (by omega) dX12_init_448 rfl ?_
  refine mm_putF3 (ci := 12) (fs1 := (.ref 1102 :: .int 0 :: .ref 1103 :: .int 0 :: .int 0 :: .int 0 :: .int (-1) :: .ref 1104 :: .ref 1105 :: .ref 1106 :: .ref 1107 :: .ref 1108 :: .ref 1109 :: .ref 1110 :: .ref 1111 :: .ref 1112 :: .ref 1113 :: .ref 1114 :: .ref 1115 :: .ref 1116 :: .ref 1117 :: .ref 1118 :: .ref 1119 :: .ref 1120 :: .ref 1121 :: .ref 1122 :: .ref 1123 :: .ref 1124 :: .ref 1125 :: .ref 1126 :: .ref 1127 :: .int 0 :: .int 0 :: .int 0 :: .int 0 :: .int 0 :: .int 0 :: .int 0 :: .int 0 :: .ref 1128 :: .ref 1129 :: .ref 1130 :: .ref 1131 :: .ref 1132 :: .ref 1133 :: .ref 1134 :: .ref 1135 :: .ref 1136 :: .ref 1137 :: .ref 1138 :: .ref 1139 :: .ref 1140 :: .ref 1141 :: .ref 1142 :: .ref 1143 :: .ref 1144 :: .ref 1145 :: .ref 1146 :: .ref 1147 :: .ref 1148 :: .ref 1149 :: .ref 1150 :: .ref 1151 :: .ref 1152 :: .ref 1153 :: .ref 1154 :: .null :: .null :: .null :: .null :: .int 0 :: .int 0 :: .int 0 :: .int 0 :: .int 0 :: .int 0 :: .int 0 :: .long 0 :: .null :: .int 0 :: .int 0 :: .int 0 :: .int 0 :: .int 0 :: .int 0 :: .int 0 :: .null :: .null :: .null :: .null :: .null :: .null :: .null :: .null :: .null :: .null :: .null :: .null :: .null :: .null :: .null :: .null :: .null :: .null :: .null :: .null :: .int 0 :: .int 0 :: .long 0 :: .int 0 :: .null :: .null :: .null :: .null :: .null :: [])) in_X12 tyX12_ok nmX12 rfl (k := 65) (by decide) rfl rfl rfl rfl kF_X12_172 dX12_init_450 (mm_fit_arr _ _) rfl (by decide) (Nat.le_of_ble_eq_true rfl) rfl ?_
  refine mm_aload_n dX12_init_453 rfl rfl ?_
  refine mm_sipush (v := 400) dX12_init_454 (by decide) ?_
  refine mm_newa3 (atype := .int) (n1 := 1156) (t := 0) (N := 400) (cl := .inl (0, 400, .inl (fun _ => 0))) (a0 := (400, .inl (fun _ => 0))) (fun _ => rfl) (fun _ => rfl) wA_int rfl (fun _ => rfl) (by decide) rfl (by decide) (by omega) (by omega) dX12_init_457 rfl ?_
  refine mm_putF3 (ci := 12) (fs1 := (.ref 1102 :: .int 0 :: .ref 1103 :: .int 0 :: .int 0 :: .int 0 :: .int (-1) :: .ref 1104 :: .ref 1105 :: .ref 1106 :: .ref 1107 :: .ref 1108 :: .ref 1109 :: .ref 1110 :: .ref 1111 :: .ref 1112 :: .ref 1113 :: .ref 1114 :: .ref 1115 :: .ref 1116 :: .ref 1117 :: .ref 1118 :: .ref 1119 :: .ref 1120 :: .ref 1121 :: .ref 1122 :: .ref 1123 :: .ref 1124 :: .ref 1125 :: .ref 1126 :: .ref 1127 :: .int 0 :: .int 0 :: .int 0 :: .int 0 :: .int 0 :: .int 0 :: .int 0 :: .int 0 :: .ref 1128 :: .ref 1129 :: .ref 1130 :: .ref 1131 :: .ref 1132 :: .ref 1133 :: .ref 1134 :: .ref 1135 :: .ref 1136 :: .ref 1137 :: .ref 1138 :: .ref 1139 :: .ref 1140 :: .ref 1141 :: .ref 1142 :: .ref 1143 :: .ref 1144 :: .ref 1145 :: .ref 1146 :: .ref 1147 :: .ref 1148 :: .ref 1149 :: .ref 1150 :: .ref 1151 :: .ref 1152 :: .ref 1153 :: .ref 1154 :: .ref 1155 :: .null :: .null :: .null :: .int 0 :: .int 0 :: .int 0 :: .int 0 :: .int 0 :: .int 0 :: .int 0 :: .long 0 :: .null :: .int 0 :: .int 0 :: .int 0 :: .int 0 :: .int 0 :: .int 0 :: .int 0 :: .null :: .null :: .null :: .null :: .null :: .null :: .null :: .null :: .null :: .null :: .null :: .null :: .null :: .null :: .null :: .null :: .null :: .null :: .null :: .null :: .int 0 :: .int 0 :: .long 0 :: .int 0 :: .null :: .null :: .null :: .null :: .null :: [])) in_X12 tyX12_ok nmX12 rfl (k := 66) (by decide) rfl rfl rfl rfl kF_X12_175 dX12_init_459 (mm_fit_arr _ _) rfl (by decide) (Nat.le_of_ble_eq_true rfl) rfl ?_
  refine mm_aload_n dX12_init_462 rfl rfl ?_
  refine mm_sipush (v := 400) dX12_init_463 (by decide) ?_
  refine mm_newa3 (atype := .int) (n1 := 1157) (t := 0) (N := 400) (cl := .inl (0, 400, .inl (fun _ => 0))) (a0 := (400, .inl (fun _ => 0))) (fun _ => rfl) (fun _ => rfl) wA_int rfl (fun _ => rfl) (by decide) rfl (by decide) (by omega) (by omega) dX12_init_466 rfl ?_
  refine mm_putF3 (ci := 12) (fs1 := (.ref 1102 :: .int 0 :: .ref 1103 :: .int 0 :: .int 0 :: .int 0 :: .int (-1) :: .ref 1104 :: .ref 1105 :: .ref 1106 :: .ref 1107 :: .ref 1108 :: .ref 1109 :: .ref 1110 :: .ref 1111 :: .ref 1112 :: .ref 1113 :: .ref 1114 :: .ref 1115 :: .ref 1116 :: .ref 1117 :: .ref 1118 :: .ref 1119 :: .ref 1120 :: .ref 1121 :: .ref 1122 :: .ref 1123 :: .ref 1124 :: .ref 1125 :: .ref 1126 :: .ref 1127 :: .int 0 :: .int 0 :: .int 0 :: .int 0 :: .int 0 :: .int 0 :: .int 0 :: .int 0 :: .ref 1128 :: .ref 1129 :: .ref 1130 :: .ref 1131 :: .ref 1132 :: .ref 1133 :: .ref 1134 :: .ref 1135 :: .ref 1136 :: .ref 1137 :: .ref 1138 :: .ref 1139 :: .ref 1140 :: .ref 1141 :: .ref 1142 :: .ref 1143 :: .ref 1144 :: .ref 1145 :: .ref 1146 :: .ref 1147 :: .ref 1148 :: .ref 1149 :: .ref 1150 :: .ref 1151 :: .ref 1152 :: .ref 1153 :: .ref 1154 :: .ref 1155 :: .ref 1156 :: .null :: .null :: .int 0 :: .int 0 :: .int 0 :: .int 0 :: .int 0 :: .int 0 :: .int 0 :: .long 0 :: .null :: .int 0 :: .int 0 :: .int 0 :: .int 0 :: .int 0 :: .int 0 :: .int 0 :: .null :: .null :: .null :: .null :: .null :: .null :: .null :: .null :: .null :: .null :: .null :: .null :: .null :: .null :: .null :: .null :: .null :: .null :: .null :: .null :: .int 0 :: .int 0 :: .long 0 :: .int 0 :: .null :: .null :: .null :: .null :: .null :: [])) in_X12 tyX12_ok nmX12 rfl (k := 67) (by decide) rfl rfl rfl rfl kF_X12_178 dX12_init_468 (mm_fit_arr _ _) rfl (by decide) (Nat.le_of_ble_eq_true rfl) rfl ?_
  refine mm_aload_n dX12_init_471 rfl rfl ?_
  refine mm_sipush (v := 400) dX12_init_472 (by decide) ?_
  refine mm_newa3 (atype := .int) (n1 := 1158) (t := 0) (N := 400) (cl := .inl (0, 400, .inl (fun _ => 0))) (a0 := (400, .inl (fun _ => 0))) (fun _ => rfl) (fun _ => rfl) wA_int rfl (fun _ => rfl) (by decide) rfl (by decide) (by omega) (by omega) dX12_init_475 rfl ?_
  refine mm_putF3 (ci := 12) (fs1 := (.ref 1102 :: .int 0 :: .ref 1103 :: .int 0 :: .int 0 :: .int 0 :: .int (-1) :: .ref 1104 :: .ref 1105 :: .ref 1106 :: .ref 1107 :: .ref 1108 :: .ref 1109 :: .ref 1110 :: .ref 1111 :: .ref 1112 :: .ref 1113 :: .ref 1114 :: .ref 1115 :: .ref 1116 :: .ref 1117 :: .ref 1118 :: .ref 1119 :: .ref 1120 :: .ref 1121 :: .ref 1122 :: .ref 1123 :: .ref 1124 :: .ref 1125 :: .ref 1126 :: .ref 1127 :: .int 0 :: .int 0 :: .int 0 :: .int 0 :: .int 0 :: .int 0 :: .int 0 :: .int 0 :: .ref 1128 :: .ref 1129 :: .ref 1130 :: .ref 1131 :: .ref 1132 :: .ref 1133 :: .ref 1134 :: .ref 1135 :: .ref 1136 :: .ref 1137 :: .ref 1138 :: .ref 1139 :: .ref 1140 :: .ref 1141 :: .ref 1142 :: .ref 1143 :: .ref 1144 :: .ref 1145 :: .ref 1146 :: .ref 1147 :: .ref 1148 :: .ref 1149 :: .ref 1150 :: .ref 1151 :: .ref 1152 :: .ref 1153 :: .ref 1154 :: .ref 1155 :: .ref 1156 :: .ref 1157 :: .null :: .int 0 :: .int 0 :: .int 0 :: .int 0 :: .int 0 :: .int 0 :: .int 0 :: .long 0 :: .null :: .int 0 :: .int 0 :: .int 0 :: .int 0 :: .int 0 :: .int 0 :: .int 0 :: .null :: .null :: .null :: .null :: .null :: .null :: .null :: .null :: .null :: .null :: .null :: .null :: .null :: .null :: .null :: .null :: .null :: .null :: .null :: .null :: .int 0 :: .int 0 :: .long 0 :: .int 0 :: .null :: .null :: .null :: .null :: .null :: [])) in_X12 tyX12_ok nmX12 rfl (k := 68) (by decide) rfl rfl rfl rfl kF_X12_181 dX12_init_477 (mm_fit_arr _ _) rfl (by decide) (Nat.le_of_ble_eq_true rfl) rfl ?_
  refine mm_aload_n dX12_init_480 rfl rfl ?_
  refine mm_sipush (v := 400) dX12_init_481 (by decide) ?_
  refine mm_newa3 (atype := .int) (n1 := 1159) (t := 0) (N := 400) (cl := .inl (0, 400, .inl (fun _ => 0))) (a0 := (400, .inl (fun _ => 0))) (fun _ => rfl) (fun _ => rfl) wA_int rfl (fun _ => rfl) (by decide) rfl (by decide) (by omega) (by omega) dX12_init_484 rfl ?_
  refine mm_putF3 (ci := 12) (fs1 := (.ref 1102 :: .int 0 :: .ref 1103 :: .int 0 :: .int 0 :: .int 0 :: .int (-1) :: .ref 1104 :: .ref 1105 :: .ref 1106 :: .ref 1107 :: .ref 1108 :: .ref 1109 :: .ref 1110 :: .ref 1111 :: .ref 1112 :: .ref 1113 :: .ref 1114 :: .ref 1115 :: .ref 1116 :: .ref 1117 :: .ref 1118 :: .ref 1119 :: .ref 1120 :: .ref 1121 :: .ref 1122 :: .ref 1123 :: .ref 1124 :: .ref 1125 :: .ref 1126 :: .ref 1127 :: .int 0 :: .int 0 :: .int 0 :: .int 0 :: .int 0 :: .int 0 :: .int 0 :: .int 0 :: .ref 1128 :: .ref 1129 :: .ref 1130 :: .ref 1131 :: .ref 1132 :: .ref 1133 :: .ref 1134 :: .ref 1135 :: .ref 1136 :: .ref 1137 :: .ref 1138 :: .ref 1139 :: .ref 1140 :: .ref 1141 :: .ref 1142 :: .ref 1143 :: .ref 1144 :: .ref 1145 :: .ref 1146 :: .ref 1147 :: .ref 1148 :: .ref 1149 :: .ref 1150 :: .ref 1151 :: .ref 1152 :: .ref 1153 :: .ref 1154 :: .ref 1155 :: .ref 1156 :: .ref 1157 :: .ref 1158 :: .int 0 :: .int 0 :: .int 0 :: .int 0 :: .int 0 :: .int 0 :: .int 0 :: .long 0 :: .null :: .int 0 :: .int 0 :: .int 0 :: .int 0 :: .int 0 :: .int 0 :: .int 0 :: .null :: .null :: .null :: .null :: .null :: .null :: .null :: .null :: .null :: .null :: .null :: .null :: .null :: .null :: .null :: .null :: .null :: .null :: .null :: .null :: .int 0 :: .int 0 :: .long 0 :: .int 0 :: .null :: .null :: .null :: .null :: .null :: [])) in_X12 tyX12_ok nmX12 rfl (k := 69) (by decide) rfl rfl rfl rfl kF_X12_184 dX12_init_486 (mm_fit_arr _ _) rfl (by decide) (Nat.le_of_ble_eq_true rfl) rfl ?_
  refine mm_aload_n dX12_init_489 rfl rfl ?_
  refine mm_bipush (v := 100) dX12_init_490 (by decide) ?_
  refine mm_newa3 (atype := .int) (n1 := 1160) (t := 0) (N := 100) (cl := .inl (0, 100, .inl (fun _ => 0))) (a0 := (100, .inl (fun _ => 0))) (fun _ => rfl) (fun _ => rfl) wA_int rfl (fun _ => rfl) (by decide) rfl (by decide) (by omega) (by omega) dX12_init_492 rfl ?_
  refine mm_putF3 (ci := 12) (fs1 := (.ref 1102 :: .int 0 :: .ref 1103 :: .int 0 :: .int 0 :: .int 0 :: .int (-1) :: .ref 1104 :: .ref 1105 :: .ref 1106 :: .ref 1107 :: .ref 1108 :: .ref 1109 :: .ref 1110 :: .ref 1111 :: .ref 1112 :: .ref 1113 :: .ref 1114 :: .ref 1115 :: .ref 1116 :: .ref 1117 :: .ref 1118 :: .ref 1119 :: .ref 1120 :: .ref 1121 :: .ref 1122 :: .ref 1123 :: .ref 1124 :: .ref 1125 :: .ref 1126 :: .ref 1127 :: .int 0 :: .int 0 :: .int 0 :: .int 0 :: .int 0 :: .int 0 :: .int 0 :: .int 0 :: .ref 1128 :: .ref 1129 :: .ref 1130 :: .ref 1131 :: .ref 1132 :: .ref 1133 :: .ref 1134 :: .ref 1135 :: .ref 1136 :: .ref 1137 :: .ref 1138 :: .ref 1139 :: .ref 1140 :: .ref 1141 :: .ref 1142 :: .ref 1143 :: .ref 1144 :: .ref 1145 :: .ref 1146 :: .ref 1147 :: .ref 1148 :: .ref 1149 :: .ref 1150 :: .ref 1151 :: .ref 1152 :: .ref 1153 :: .ref 1154 :: .ref 1155 :: .ref 1156 :: .ref 1157 :: .ref 1158 :: .int 0 :: .int 0 :: .int 0 :: .int 0 :: .int 0 :: .int 0 :: .int 0 :: .long 0 :: .ref 1159 :: .int 0 :: .int 0 :: .int 0 :: .int 0 :: .int 0 :: .int 0 :: .int 0 :: .null :: .null :: .null :: .null :: .null :: .null :: .null :: .null :: .null :: .null :: .null :: .null :: .null :: .null :: .null :: .null :: .null :: .null :: .null :: .null :: .int 0 :: .int 0 :: .long 0 :: .int 0 :: .null :: .null :: .null :: .null :: .null :: [])) in_X12 tyX12_ok nmX12 rfl (k := 78) (by decide) rfl rfl rfl rfl kF_X12_187 dX12_init_494 (mm_fit_arr _ _) rfl (by decide) (Nat.le_of_ble_eq_true rfl) rfl ?_
  refine mm_aload_n dX12_init_497 rfl rfl ?_
  refine mm_sipush (v := 400) dX12_init_498 (by decide) ?_
  refine mm_newa3 (atype := .int) (n1 := 1161) (t := 0) (N := 400) (cl := .inl (0, 400, .inl (fun _ => 0))) (a0 := (400, .inl (fun _ => 0))) (fun _ => rfl) (fun _ => rfl) wA_int rfl (fun _ => rfl) (by decide) rfl (by decide) (by omega) (by omega) dX12_init_501 rfl ?_
  refine mm_putF3 (ci := 12) (fs1 := (.ref 1102 :: .int 0 :: .ref 1103 :: .int 0 :: .int 0 :: .int 0 :: .int (-1) :: .ref 1104 :: .ref 1105 :: .ref 1106 :: .ref 1107 :: .ref 1108 :: .ref 1109 :: .ref 1110 :: .ref 1111 :: .ref 1112 :: .ref 1113 :: .ref 1114 :: .ref 1115 :: .ref 1116 :: .ref 1117 :: .ref 1118 :: .ref 1119 :: .ref 1120 :: .ref 1121 :: .ref 1122 :: .ref 1123 :: .ref 1124 :: .ref 1125 :: .ref 1126 :: .ref 1127 :: .int 0 :: .int 0 :: .int 0 :: .int 0 :: .int 0 :: .int 0 :: .int 0 :: .int 0 :: .ref 1128 :: .ref 1129 :: .ref 1130 :: .ref 1131 :: .ref 1132 :: .ref 1133 :: .ref 1134 :: .ref 1135 :: .ref 1136 :: .ref 1137 :: .ref 1138 :: .ref 1139 :: .ref 1140 :: .ref 1141 :: .ref 1142 :: .ref 1143 :: .ref 1144 :: .ref 1145 :: .ref 1146 :: .ref 1147 :: .ref 1148 :: .ref 1149 :: .ref 1150 :: .ref 1151 :: .ref 1152 :: .ref 1153 :: .ref 1154 :: .ref 1155 :: .ref 1156 :: .ref 1157 :: .ref 1158 :: .int 0 :: .int 0 :: .int 0 :: .int 0 :: .int 0 :: .int 0 :: .int 0 :: .long 0 :: .ref 1159 :: .int 0 :: .int 0 :: .int 0 :: .int 0 :: .int 0 :: .int 0 :: .int 0 :: .ref 1160 :: .null :: .null :: .null :: .null :: .null :: .null :: .null :: .null :: .null :: .null :: .null :: .null :: .null :: .null :: .null :: .null :: .null :: .null :: .null :: .int 0 :: .int 0 :: .long 0 :: .int 0 :: .null :: .null :: .null :: .null :: .null :: [])) in_X12 tyX12_ok nmX12 rfl (k := 86) (by decide) rfl rfl rfl rfl kF_X12_190 dX12_init_503 (mm_fit_arr _ _) rfl (by decide) (Nat.le_of_ble_eq_true rfl) rfl ?_
  refine mm_aload_n dX12_init_506 rfl rfl ?_
  refine mm_sipush (v := 400) dX12_init_507 (by decide) ?_
  refine mm_newa3 (atype := .int) (n1 := 1162) (t := 0) (N := 400) (cl := .inl (0, 400, .inl (fun _ => 0))) (a0 := (400, .inl (fun _ => 0))) (fun _ => rfl) (fun _ => rfl) wA_int rfl (fun _ => rfl) (by decide) rfl (by decide) (by omega) (by omega) dX12_init_510 rfl ?_
  refine mm_putF3 (ci := 12) (fs1 := (.ref 1102 :: .int 0 :: .ref 1103 :: .int 0 :: .int 0 :: .int 0 :: .int (-1) :: .ref 1104 :: .ref 1105 :: .ref 1106 :: .ref 1107 :: .ref 1108 :: .ref 1109 :: .ref 1110 :: .ref 1111 :: .ref 1112 :: .ref 1113 :: .ref 1114 :: .ref 1115 :: .ref 1116 :: .ref 1117 :: .ref 1118 :: .ref 1119 :: .ref 1120 :: .ref 1121 :: .ref 1122 :: .ref 1123 :: .ref 1124 :: .ref 1125 :: .ref 1126 :: .ref 1127 :: .int 0 :: .int 0 :: .int 0 :: .int 0 :: .int 0 :: .int 0 :: .int 0 :: .int 0 :: .ref 1128 :: .ref 1129 :: .ref 1130 :: .ref 1131 :: .ref 1132 :: .ref 1133 :: .ref 1134 :: .ref 1135 :: .ref 1136 :: .ref 1137 :: .ref 1138 :: .ref 1139 :: .ref 1140 :: .ref 1141 :: .ref 1142 :: .ref 1143 :: .ref 1144 :: .ref 1145 :: .ref 1146 :: .ref 1147 :: .ref 1148 :: .ref 1149 :: .ref 1150 :: .ref 1151 :: .ref 1152 :: .ref 1153 :: .ref 1154 :: .ref 1155 :: .ref 1156 :: .ref 1157 :: .ref 1158 :: .int 0 :: .int 0 :: .int 0 :: .int 0 :: .int 0 :: .int 0 :: .int 0 :: .long 0 :: .ref 1159 :: .int 0 :: .int 0 :: .int 0 :: .int 0 :: .int 0 :: .int 0 :: .int 0 :: .ref 1160 :: .ref 1161 :: .null :: .null :: .null :: .null :: .null :: .null :: .null :: .null :: .null :: .null :: .null :: .null :: .null :: .null :: .null :: .null :: .null :: .null :: .int 0 :: .int 0 :: .long 0 :: .int 0 :: .null :: .null :: .null :: .null :: .null :: [])) in_X12 tyX12_ok nmX12 rfl (k := 87) (by decide) rfl rfl rfl rfl kF_X12_193 dX12_init_512 (mm_fit_arr _ _) rfl (by decide) (Nat.le_of_ble_eq_true rfl) rfl ?_
  refine mm_aload_n dX12_init_515 rfl rfl ?_
  refine mm_sipush (v := 400) dX12_init_516 (by decide) ?_
  refine mm_newa3 (atype := .int) (n1 := 1163) (t := 0) (N := 400) (cl := .inl (0, 400, .inl (fun _ => 0))) (a0 := (400, .inl (fun _ => 0))) (fun _ => rfl) (fun _ => rfl) wA_int rfl (fun _ => rfl) (by decide) rfl (by decide) (by omega) (by omega) dX12_init_519 rfl ?_
  refine mm_putF3 (ci := 12) (fs1 := (.ref 1102 :: .int 0 :: .ref 1103 :: .int 0 :: .int 0 :: .int 0 :: .int (-1) :: .ref 1104 :: .ref 1105 :: .ref 1106 :: .ref 1107 :: .ref 1108 :: .ref 1109 :: .ref 1110 :: .ref 1111 :: .ref 1112 :: .ref 1113 :: .ref 1114 :: .ref 1115 :: .ref 1116 :: .ref 1117 :: .ref 1118 :: .ref 1119 :: .ref 1120 :: .ref 1121 :: .ref 1122 :: .ref 1123 :: .ref 1124 :: .ref 1125 :: .ref 1126 :: .ref 1127 :: .int 0 :: .int 0 :: .int 0 :: .int 0 :: .int 0 :: .int 0 :: .int 0 :: .int 0 :: .ref 1128 :: .ref 1129 :: .ref 1130 :: .ref 1131 :: .ref 1132 :: .ref 1133 :: .ref 1134 :: .ref 1135 :: .ref 1136 :: .ref 1137 :: .ref 1138 :: .ref 1139 :: .ref 1140 :: .ref 1141 :: .ref 1142 :: .ref 1143 :: .ref 1144 :: .ref 1145 :: .ref 1146 :: .ref 1147 :: .ref 1148 :: .ref 1149 :: .ref 1150 :: .ref 1151 :: .ref 1152 :: .ref 1153 :: .ref 1154 :: .ref 1155 :: .ref 1156 :: .ref 1157 :: .ref 1158 :: .int 0 :: .int 0 :: .int 0 :: .int 0 :: .int 0 :: .int 0 :: .int 0 :: .long 0 :: .ref 1159 :: .int 0 :: .int 0 :: .int 0 :: .int 0 :: .int 0 :: .int 0 :: .int 0 :: .ref 1160 :: .ref 1161 :: .ref 1162 :: .null :: .null :: .null :: .null :: .null :: .null :: .null :: .null :: .null :: .null :: .null :: .null :: .null :: .null :: .null :: .null :: .null :: .int 0 :: .int 0 :: .long 0 :: .int 0 :: .null :: .null :: .null :: .null :: .null :: [])) in_X12 tyX12_ok nmX12 rfl (k := 88) (by decide) rfl rfl rfl rfl kF_X12_196 dX12_init_521 (mm_fit_arr _ _) rfl (by decide) (Nat.le_of_ble_eq_true rfl) rfl ?_
  refine mm_aload_n dX12_init_524 rfl rfl ?_
  refine mm_sipush (v := 400) dX12_init_525 (by decide) ?_
  refine mm_newa3 (atype := .int) (n1 := 1164) (t := 0) (N := 400) (cl := .inl (0, 400, .inl (fun _ => 0))) (a0 := (400, .inl (fun _ => 0))) (fun _ => rfl) (fun _ => rfl) wA_int rfl (fun _ => rfl) (by decide) rfl (by decide) (by omega) (by omega) dX12_init_528 rfl ?_
  refine mm_putF3 (ci := 12) (fs1 := (.ref 1102 :: .int 0 :: .ref 1103 :: .int 0 :: .int 0 :: .int 0 :: .int (-1) :: .ref 1104 :: .ref 1105 :: .ref 1106 :: .ref 1107 :: .ref 1108 :: .ref 1109 :: .ref 1110 :: .ref 1111 :: .ref 1112 :: .ref 1113 :: .ref 1114 :: .ref 1115 :: .ref 1116 :: .ref 1117 :: .ref 1118 :: .ref 1119 :: .ref 1120 :: .ref 1121 :: .ref 1122 :: .ref 1123 :: .ref 1124 :: .ref 1125 :: .ref 1126 :: .ref 1127 :: .int 0 :: .int 0 :: .int 0 :: .int 0 :: .int 0 :: .int 0 :: .int 0 :: .int 0 :: .ref 1128 :: .ref 1129 :: .ref 1130 :: .ref 1131 :: .ref 1132 :: .ref 1133 :: .ref 1134 :: .ref 1135 :: .ref 1136 :: .ref 1137 :: .ref 1138 :: .ref 1139 :: .ref 1140 :: .ref 1141 :: .ref 1142 :: .ref 1143 :: .ref 1144 :: .ref 1145 :: .ref 1146 :: .ref 1147 :: .ref 1148 :: .ref 1149 :: .ref 1150 :: .ref 1151 :: .ref 1152 :: .ref 1153 :: .ref 1154 :: .ref 1155 :: .ref 1156 :: .ref 1157 :: .ref 1158 :: .int 0 :: .int 0 :: .int 0 :: .int 0 :: .int 0 :: .int 0 :: .int 0 :: .long 0 :: .ref 1159 :: .int 0 :: .int 0 :: .int 0 :: .int 0 :: .int 0 :: .int 0 :: .int 0 :: .ref 1160 :: .ref 1161 :: .ref 1162 :: .ref 1163 :: .null :: .null :: .null :: .null :: .null :: .null :: .null :: .null :: .null :: .null :: .null :: .null :: .null :: .null :: .null :: .null :: .int 0 :: .int 0 :: .long 0 :: .int 0 :: .null :: .null :: .null :: .null :: .null :: [])) in_X12 tyX12_ok nmX12 rfl (k := 89) (by decide) rfl rfl rfl rfl kF_X12_199 dX12_init_530 (mm_fit_arr _ _) rfl (by decide) (Nat.le_of_ble_eq_true rfl) rfl ?_
  refine mm_aload_n dX12_init_533 rfl rfl ?_
  refine mm_sipush (v := 400) dX12_init_534 (by decide) ?_
  refine mm_newa3 (atype := .boolean) (n1 := 1165) (t := 3) (N := 400) (cl := .inl (3, 400, .inl (fun _ => 0))) (a0 := (400, .inl (fun _ => 0))) (fun _ => rfl) (fun _ => rfl) wA_boolean rfl (fun _ => rfl) (by decide) rfl (by decide) (by omega) (by omega) dX12_init_537 rfl ?_
  refine mm_putF3 (ci := 12) (fs1 := (.ref 1102 :: .int 0 :: .ref 1103 :: .int 0 :: .int 0 :: .int 0 :: .int (-1) :: .ref 1104 :: .ref 1105 :: .ref 1106 :: .ref 1107 :: .ref 1108 :: .ref 1109 :: .ref 1110 :: .ref 1111 :: .ref 1112 :: .ref 1113 :: .ref 1114 :: .ref 1115 :: .ref 1116 :: .ref 1117 :: .ref 1118 :: .ref 1119 :: .ref 1120 :: .ref 1121 :: .ref 1122 :: .ref 1123 :: .ref 1124 :: .ref 1125 :: .ref 1126 :: .ref 1127 :: .int 0 :: .int 0 :: .int 0 :: .int 0 :: .int 0 :: .int 0 :: .int 0 :: .int 0 :: .ref 1128 :: .ref 1129 :: .ref 1130 :: .ref 1131 :: .ref 1132 :: .ref 1133 :: .ref 1134 :: .ref 1135 :: .ref 1136 :: .ref 1137 :: .ref 1138 :: .ref 1139 :: .ref 1140 :: .ref 1141 :: .ref 1142 :: .ref 1143 :: .ref 1144 :: .ref 1145 :: .ref 1146 :: .ref 1147 :: .ref 1148 :: .ref 1149 :: .ref 1150 :: .ref 1151 :: .ref 1152 :: .ref 1153 :: .ref 1154 :: .ref 1155 :: .ref 1156 :: .ref 1157 :: .ref 1158 :: .int 0 :: .int 0 :: .int 0 :: .int 0 :: .int 0 :: .int 0 :: .int 0 :: .long 0 :: .ref 1159 :: .int 0 :: .int 0 :: .int 0 :: .int 0 :: .int 0 :: .int 0 :: .int 0 :: .ref 1160 :: .ref 1161 :: .ref 1162 :: .ref 1163 :: .ref 1164 :: .null :: .null :: .null :: .null :: .null :: .null :: .null :: .null :: .null :: .null :: .null :: .null :: .null :: .null :: .null :: .int 0 :: .int 0 :: .long 0 :: .int 0 :: .null :: .null :: .null :: .null :: .null :: [])) in_X12 tyX12_ok nmX12 rfl (k := 90) (by decide) rfl rfl rfl rfl kF_X12_202 dX12_init_539 (mm_fit_arr _ _) rfl (by decide) (Nat.le_of_ble_eq_true rfl) rfl ?_
  refine mm_aload_n dX12_init_542 rfl rfl ?_
  refine mm_sipush (v := 800) dX12_init_543 (by decide) ?_
  refine mm_newa3 (atype := .int) (n1 := 1166) (t := 0) (N := 800) (cl := .inl (0, 800, .inl (fun _ => 0))) (a0 := (800, .inl (fun _ => 0))) (fun _ => rfl) (fun _ => rfl) wA_int rfl (fun _ => rfl) (by decide) rfl (by decide) (by omega) (by omega) dX12_init_546 rfl ?_
  refine mm_putF3 (ci := 12) (fs1 := (.ref 1102 :: .int 0 :: .ref 1103 :: .int 0 :: .int 0 :: .int 0 :: .int (-1) :: .ref 1104 :: .ref 1105 :: .ref 1106 :: .ref 1107 :: .ref 1108 :: .ref 1109 :: .ref 1110 :: .ref 1111 :: .ref 1112 :: .ref 1113 :: .ref 1114 :: .ref 1115 :: .ref 1116 :: .ref 1117 :: .ref 1118 :: .ref 1119 :: .ref 1120 :: .ref 1121 :: .ref 1122 :: .ref 1123 :: .ref 1124 :: .ref 1125 :: .ref 1126 :: .ref 1127 :: .int 0 :: .int 0 :: .int 0 :: .int 0 :: .int 0 :: .int 0 :: .int 0 :: .int 0 :: .ref 1128 :: .ref 1129 :: .ref 1130 :: .ref 1131 :: .ref 1132 :: .ref 1133 :: .ref 1134 :: .ref 1135 :: .ref 1136 :: .ref 1137 :: .ref 1138 :: .ref 1139 :: .ref 1140 :: .ref 1141 :: .ref 1142 :: .ref 1143 :: .ref 1144 :: .ref 1145 :: .ref 1146 :: .ref 1147 :: .ref 1148 :: .ref 1149 :: .ref 1150 :: .ref 1151 :: .ref 1152 :: .ref 1153 :: .ref 1154 :: .ref 1155 :: .ref 1156 :: .ref 1157 :: .ref 1158 :: .int 0 :: .int 0 :: .int 0 :: .int 0 :: .int 0 :: .int 0 :: .int 0 :: .long 0 :: .ref 1159 :: .int 0 :: .int 0 :: .int 0 :: .int 0 :: .int 0 :: .int 0 :: .int 0 :: .ref 1160 :: .ref 1161 :: .ref 1162 :: .ref 1163 :: .ref 1164 :: .ref 1165 :: .null :: .null :: .null :: .null :: .null :: .null :: .null :: .null :: .null :: .null :: .null :: .null :: .null :: .null :: .int 0 :: .int 0 :: .long 0 :: .int 0 :: .null :: .null :: .null :: .null :: .null :: [])) in_X12 tyX12_ok nmX12 rfl (k := 91) (by decide) rfl rfl rfl rfl kF_X12_205 dX12_init_548 (mm_fit_arr _ _) rfl (by decide) (Nat.le_of_ble_eq_true rfl) rfl ?_
  refine mm_aload_n dX12_init_551 rfl rfl ?_
  refine mm_sipush (v := 800) dX12_init_552 (by decide) ?_
  refine mm_newa3 (atype := .int) (n1 := 1167) (t := 0) (N := 800) (cl := .inl (0, 800, .inl (fun _ => 0))) (a0 := (800, .inl (fun _ => 0))) (fun _ => rfl) (fun _ => rfl) wA_int rfl (fun _ => rfl) (by decide) rfl (by decide) (by omega) (by omega) dX12_init_555 rfl ?_
  refine mm_putF3 (ci := 12) (fs1 := (.ref 1102 :: .int 0 :: .ref 1103 :: .int 0 :: .int 0 :: .int 0 :: .int (-1) :: .ref 1104 :: .ref 1105 :: .ref 1106 :: .ref 1107 :: .ref 1108 :: .ref 1109 :: .ref 1110 :: .ref 1111 :: .ref 1112 :: .ref 1113 :: .ref 1114 :: .ref 1115 :: .ref 1116 :: .ref 1117 :: .ref 1118 :: .ref 1119 :: .ref 1120 :: .ref 1121 :: .ref 1122 :: .ref 1123 :: .ref 1124 :: .ref 1125 :: .ref 1126 :: .ref 1127 :: .int 0 :: .int 0 :: .int 0 :: .int 0 :: .int 0 :: .int 0 :: .int 0 :: .int 0 :: .ref 1128 :: .ref 1129 :: .ref 1130 :: .ref 1131 :: .ref 1132 :: .ref 1133 :: .ref 1134 :: .ref 1135 :: .ref 1136 :: .ref 1137 :: .ref 1138 :: .ref 1139 :: .ref 1140 :: .ref 1141 :: .ref 1142 :: .ref 1143 :: .ref 1144 :: .ref 1145 :: .ref 1146 :: .ref 1147 :: .ref 1148 :: .ref 1149 :: .ref 1150 :: .ref 1151 :: .ref 1152 :: .ref 1153 :: .ref 1154 :: .ref 1155 :: .ref 1156 :: .ref 1157 :: .ref 1158 :: .int 0 :: .int 0 :: .int 0 :: .int 0 :: .int 0 :: .int 0 :: .int 0 :: .long 0 :: .ref 1159 :: .int 0 :: .int 0 :: .int 0 :: .int 0 :: .int 0 :: .int 0 :: .int 0 :: .ref 1160 :: .ref 1161 :: .ref 1162 :: .ref 1163 :: .ref 1164 :: .ref 1165 :: .ref 1166 :: .null :: .null :: .null :: .null :: .null :: .null :: .null :: .null :: .null :: .null :: .null :: .null :: .null :: .int 0 :: .int 0 :: .long 0 :: .int 0 :: .null :: .null :: .null :: .null :: .null :: [])) in_X12 tyX12_ok nmX12 rfl (k := 92) (by decide) rfl rfl rfl rfl kF_X12_208 dX12_init_557 (mm_fit_arr _ _) rfl (by decide) (Nat.le_of_ble_eq_true rfl) rfl ?_
  refine mm_aload_n dX12_init_560 rfl rfl ?_
  refine mm_sipush (v := 800) dX12_init_561 (by decide) ?_
  refine mm_newa3 (atype := .long) (n1 := 1168) (t := 1) (N := 800) (cl := .inl (1, 800, .inr (.inl (fun _ => 0)))) (a0 := (800, .inr (.inl (fun _ => 0)))) (fun _ => rfl) (fun _ => rfl) wA_long rfl (fun _ => rfl) (by decide) rfl (by decide) (by omega) (by omega) dX12_init_564 rfl ?_
  refine mm_putF3 (ci := 12) (fs1 := (.ref 1102 :: .int 0 :: .ref 1103 :: .int 0 :: .int 0 :: .int 0 :: .int (-1) :: .ref 1104 :: .ref 1105 :: .ref 1106 :: .ref 1107 :: .ref 1108 :: .ref 1109 :: .ref 1110 :: .ref 1111 :: .ref 1112 :: .ref 1113 :: .ref 1114 :: .ref 1115 :: .ref 1116 :: .ref 1117 :: .ref 1118 :: .ref 1119 :: .ref 1120 :: .ref 1121 :: .ref 1122 :: .ref 1123 :: .ref 1124 :: .ref 1125 :: .ref 1126 :: .ref 1127 :: .int 0 :: .int 0 :: .int 0 :: .int 0 :: .int 0 :: .int 0 :: .int 0 :: .int 0 :: .ref 1128 :: .ref 1129 :: .ref 1130 :: .ref 1131 :: .ref 1132 :: .ref 1133 :: .ref 1134 :: .ref 1135 :: .ref 1136 :: .ref 1137 :: .ref 1138 :: .ref 1139 :: .ref 1140 :: .ref 1141 :: .ref 1142 :: .ref 1143 :: .ref 1144 :: .ref 1145 :: .ref 1146 :: .ref 1147 :: .ref 1148 :: .ref 1149 :: .ref 1150 :: .ref 1151 :: .ref 1152 :: .ref 1153 :: .ref 1154 :: .ref 1155 :: .ref 1156 :: .ref 1157 :: .ref 1158 :: .int 0 :: .int 0 :: .int 0 :: .int 0 :: .int 0 :: .int 0 :: .int 0 :: .long 0 :: .ref 1159 :: .int 0 :: .int 0 :: .int 0 :: .int 0 :: .int 0 :: .int 0 :: .int 0 :: .ref 1160 :: .ref 1161 :: .ref 1162 :: .ref 1163 :: .ref 1164 :: .ref 1165 :: .ref 1166 :: .ref 1167 :: .null :: .null :: .null :: .null :: .null :: .null :: .null :: .null :: .null :: .null :: .null :: .null :: .int 0 :: .int 0 :: .long 0 :: .int 0 :: .null :: .null :: .null :: .null :: .null :: [])) in_X12 tyX12_ok nmX12 rfl (k := 93) (by decide) rfl rfl rfl rfl kF_X12_211 dX12_init_566 (mm_fit_arr _ _) rfl (by decide) (Nat.le_of_ble_eq_true rfl) rfl ?_
  refine mm_aload_n dX12_init_569 rfl rfl ?_
  refine mm_sipush (v := 800) dX12_init_570 (by decide) ?_
  refine mm_newa3 (atype := .int) (n1 := 1169) (t := 0) (N := 800) (cl := .inl (0, 800, .inl (fun _ => 0))) (a0 := (800, .inl (fun _ => 0))) (fun _ => rfl) (fun _ => rfl) wA_int rfl (fun _ => rfl) (by decide) rfl (by decide) (by omega) (by omega) dX12_init_573 rfl ?_
  refine mm_putF3 (ci := 12) (fs1 := (.ref 1102 :: .int 0 :: .ref 1103 :: .int 0 :: .int 0 :: .int 0 :: .int (-1) :: .ref 1104 :: .ref 1105 :: .ref 1106 :: .ref 1107 :: .ref 1108 :: .ref 1109 :: .ref 1110 :: .ref 1111 :: .ref 1112 :: .ref 1113 :: .ref 1114 :: .ref 1115 :: .ref 1116 :: .ref 1117 :: .ref 1118 :: .ref 1119 :: .ref 1120 :: .ref 1121 :: .ref 1122 :: .ref 1123 :: .ref 1124 :: .ref 1125 :: .ref 1126 :: .ref 1127 :: .int 0 :: .int 0 :: .int 0 :: .int 0 :: .int 0 :: .int 0 :: .int 0 :: .int 0 :: .ref 1128 :: .ref 1129 :: .ref 1130 :: .ref 1131 :: .ref 1132 :: .ref 1133 :: .ref 1134 :: .ref 1135 :: .ref 1136 :: .ref 1137 :: .ref 1138 :: .ref 1139 :: .ref 1140 :: .ref 1141 :: .ref 1142 :: .ref 1143 :: .ref 1144 :: .ref 1145 :: .ref 1146 :: .ref 1147 :: .ref 1148 :: .ref 1149 :: .ref 1150 :: .ref 1151 :: .ref 1152 :: .ref 1153 :: .ref 1154 :: .ref 1155 :: .ref 1156 :: .ref 1157 :: .ref 1158 :: .int 0 :: .int 0 :: .int 0 :: .int 0 :: .int 0 :: .int 0 :: .int 0 :: .long 0 :: .ref 1159 :: .int 0 :: .int 0 :: .int 0 :: .int 0 :: .int 0 :: .int 0 :: .int 0 :: .ref 1160 :: .ref 1161 :: .ref 1162 :: .ref 1163 :: .ref 1164 :: .ref 1165 :: .ref 1166 :: .ref 1167 :: .ref 1168 :: .null :: .null :: .null :: .null :: .null :: .null :: .null :: .null :: .null :: .null :: .null :: .int 0 :: .int 0 :: .long 0 :: .int 0 :: .null :: .null :: .null :: .null :: .null :: [])) in_X12 tyX12_ok nmX12 rfl (k := 94) (by decide) rfl rfl rfl rfl kF_X12_214 dX12_init_575 (mm_fit_arr _ _) rfl (by decide) (Nat.le_of_ble_eq_true rfl) rfl ?_
  refine mm_aload_n dX12_init_578 rfl rfl ?_
  refine mm_sipush (v := 800) dX12_init_579 (by decide) ?_
  refine mm_newa3 (atype := .int) (n1 := 1170) (t := 0) (N := 800) (cl := .inl (0, 800, .inl (fun _ => 0))) (a0 := (800, .inl (fun _ => 0))) (fun _ => rfl) (fun _ => rfl) wA_int rfl (fun _ => rfl) (by decide) rfl (by decide) (by omega) (by omega) dX12_init_582 rfl ?_
  refine mm_putF3 (ci := 12) (fs1 := (.ref 1102 :: .int 0 :: .ref 1103 :: .int 0 :: .int 0 :: .int 0 :: .int (-1) :: .ref 1104 :: .ref 1105 :: .ref 1106 :: .ref 1107 :: .ref 1108 :: .ref 1109 :: .ref 1110 :: .ref 1111 :: .ref 1112 :: .ref 1113 :: .ref 1114 :: .ref 1115 :: .ref 1116 :: .ref 1117 :: .ref 1118 :: .ref 1119 :: .ref 1120 :: .ref 1121 :: .ref 1122 :: .ref 1123 :: .ref 1124 :: .ref 1125 :: .ref 1126 :: .ref 1127 :: .int 0 :: .int 0 :: .int 0 :: .int 0 :: .int 0 :: .int 0 :: .int 0 :: .int 0 :: .ref 1128 :: .ref 1129 :: .ref 1130 :: .ref 1131 :: .ref 1132 :: .ref 1133 :: .ref 1134 :: .ref 1135 :: .ref 1136 :: .ref 1137 :: .ref 1138 :: .ref 1139 :: .ref 1140 :: .ref 1141 :: .ref 1142 :: .ref 1143 :: .ref 1144 :: .ref 1145 :: .ref 1146 :: .ref 1147 :: .ref 1148 :: .ref 1149 :: .ref 1150 :: .ref 1151 :: .ref 1152 :: .ref 1153 :: .ref 1154 :: .ref 1155 :: .ref 1156 :: .ref 1157 :: .ref 1158 :: .int 0 :: .int 0 :: .int 0 :: .int 0 :: .int 0 :: .int 0 :: .int 0 :: .long 0 :: .ref 1159 :: .int 0 :: .int 0 :: .int 0 :: .int 0 :: .int 0 :: .int 0 :: .int 0 :: .ref 1160 :: .ref 1161 :: .ref 1162 :: .ref 1163 :: .ref 1164 :: .ref 1165 :: .ref 1166 :: .ref 1167 :: .ref 1168 :: .ref 1169 :: .null :: .null :: .null :: .null :: .null :: .null :: .null :: .null :: .null :: .null :: .int 0 :: .int 0 :: .long 0 :: .int 0 :: .null :: .null :: .null :: .null :: .null :: [])) in_X12 tyX12_ok nmX12 rfl (k := 95) (by decide) rfl rfl rfl rfl kF_X12_217 dX12_init_584 (mm_fit_arr _ _) rfl (by decide) (Nat.le_of_ble_eq_true rfl) rfl ?_
  refine mm_aload_n dX12_init_587 rfl rfl ?_
  refine mm_sipush (v := 800) dX12_init_588 (by decide) ?_
  refine mm_newa3 (atype := .int) (n1 := 1171) (t := 0) (N := 800) (cl := .inl (0, 800, .inl (fun _ => 0))) (a0 := (800, .inl (fun _ => 0))) (fun _ => rfl) (fun _ => rfl) wA_int rfl (fun _ => rfl) (by decide) rfl (by decide) (by omega) (by omega) dX12_init_591 rfl ?_
  refine mm_putF3 (ci := 12) (fs1 := (.ref 1102 :: .int 0 :: .ref 1103 :: .int 0 :: .int 0 :: .int 0 :: .int (-1) :: .ref 1104 :: .ref 1105 :: .ref 1106 :: .ref 1107 :: .ref 1108 :: .ref 1109 :: .ref 1110 :: .ref 1111 :: .ref 1112 :: .ref 1113 :: .ref 1114 :: .ref 1115 :: .ref 1116 :: .ref 1117 :: .ref 1118 :: .ref 1119 :: .ref 1120 :: .ref 1121 :: .ref 1122 :: .ref 1123 :: .ref 1124 :: .ref 1125 :: .ref 1126 :: .ref 1127 :: .int 0 :: .int 0 :: .int 0 :: .int 0 :: .int 0 :: .int 0 :: .int 0 :: .int 0 :: .ref 1128 :: .ref 1129 :: .ref 1130 :: .ref 1131 :: .ref 1132 :: .ref 1133 :: .ref 1134 :: .ref 1135 :: .ref 1136 :: .ref 1137 :: .ref 1138 :: .ref 1139 :: .ref 1140 :: .ref 1141 :: .ref 1142 :: .ref 1143 :: .ref 1144 :: .ref 1145 :: .ref 1146 :: .ref 1147 :: .ref 1148 :: .ref 1149 :: .ref 1150 :: .ref 1151 :: .ref 1152 :: .ref 1153 :: .ref 1154 :: .ref 1155 :: .ref 1156 :: .ref 1157 :: .ref 1158 :: .int 0 :: .int 0 :: .int 0 :: .int 0 :: .int 0 :: .int 0 :: .int 0 :: .long 0 :: .ref 1159 :: .int 0 :: .int 0 :: .int 0 :: .int 0 :: .int 0 :: .int 0 :: .int 0 :: .ref 1160 :: .ref 1161 :: .ref 1162 :: .ref 1163 :: .ref 1164 :: .ref 1165 :: .ref 1166 :: .ref 1167 :: .ref 1168 :: .ref 1169 :: .ref 1170 :: .null :: .null :: .null :: .null :: .null :: .null :: .null :: .null :: .null :: .int 0 :: .int 0 :: .long 0 :: .int 0 :: .null :: .null :: .null :: .null :: .null :: [])) in_X12 tyX12_ok nmX12 rfl (k := 96) (by decide) rfl rfl rfl rfl kF_X12_220 dX12_init_593 (mm_fit_arr _ _) rfl (by decide) (Nat.le_of_ble_eq_true rfl) rfl ?_
  refine mm_aload_n dX12_init_596 rfl rfl ?_
  refine mm_sipush (v := 800) dX12_init_597 (by decide) ?_
  refine mm_newa3 (atype := .boolean) (n1 := 1172) (t := 3) (N := 800) (cl := .inl (3, 800, .inl (fun _ => 0))) (a0 := (800, .inl (fun _ => 0))) (fun _ => rfl) (fun _ => rfl) wA_boolean rfl (fun _ => rfl) (by decide) rfl (by decide) (by omega) (by omega) dX12_init_600 rfl ?_
  refine mm_putF3 (ci := 12) (fs1 := (.ref 1102 :: .int 0 :: .ref 1103 :: .int 0 :: .int 0 :: .int 0 :: .int (-1) :: .ref 1104 :: .ref 1105 :: .ref 1106 :: .ref 1107 :: .ref 1108 :: .ref 1109 :: .ref 1110 :: .ref 1111 :: .ref 1112 :: .ref 1113 :: .ref 1114 :: .ref 1115 :: .ref 1116 :: .ref 1117 :: .ref 1118 :: .ref 1119 :: .ref 1120 :: .ref 1121 :: .ref 1122 :: .ref 1123 :: .ref 1124 :: .ref 1125 :: .ref 1126 :: .ref 1127 :: .int 0 :: .int 0 :: .int 0 :: .int 0 :: .int 0 :: .int 0 :: .int 0 :: .int 0 :: .ref 1128 :: .ref 1129 :: .ref 1130 :: .ref 1131 :: .ref 1132 :: .ref 1133 :: .ref 1134 :: .ref 1135 :: .ref 1136 :: .ref 1137 :: .ref 1138 :: .ref 1139 :: .ref 1140 :: .ref 1141 :: .ref 1142 :: .ref 1143 :: .ref 1144 :: .ref 1145 :: .ref 1146 :: .ref 1147 :: .ref 1148 :: .ref 1149 :: .ref 1150 :: .ref 1151 :: .ref 1152 :: .ref 1153 :: .ref 1154 :: .ref 1155 :: .ref 1156 :: .ref 1157 :: .ref 1158 :: .int 0 :: .int 0 :: .int 0 :: .int 0 :: .int 0 :: .int 0 :: .int 0 :: .long 0 :: .ref 1159 :: .int 0 :: .int 0 :: .int 0 :: .int 0 :: .int 0 :: .int 0 :: .int 0 :: .ref 1160 :: .ref 1161 :: .ref 1162 :: .ref 1163 :: .ref 1164 :: .ref 1165 :: .ref 1166 :: .ref 1167 :: .ref 1168 :: .ref 1169 :: .ref 1170 :: .ref 1171 :: .null :: .null :: .null :: .null :: .null :: .null :: .null :: .null :: .int 0 :: .int 0 :: .long 0 :: .int 0 :: .null :: .null :: .null :: .null :: .null :: [])) in_X12 tyX12_ok nmX12 rfl (k := 97) (by decide) rfl rfl rfl rfl kF_X12_223 dX12_init_602 (mm_fit_arr _ _) rfl (by decide) (Nat.le_of_ble_eq_true rfl) rfl ?_
  refine mm_aload_n dX12_init_605 rfl rfl ?_
  refine mm_sipush (v := 400) dX12_init_606 (by decide) ?_
  refine mm_newa3 (atype := .int) (n1 := 1173) (t := 0) (N := 400) (cl := .inl (0, 400, .inl (fun _ => 0))) (a0 := (400, .inl (fun _ => 0))) (fun _ => rfl) (fun _ => rfl) wA_int rfl (fun _ => rfl) (by decide) rfl (by decide) (by omega) (by omega) dX12_init_609 rfl ?_
  refine mm_putF3 (ci := 12) (fs1 := (.ref 1102 :: .int 0 :: .ref 1103 :: .int 0 :: .int 0 :: .int 0 :: .int (-1) :: .ref 1104 :: .ref 1105 :: .ref 1106 :: .ref 1107 :: .ref 1108 :: .ref 1109 :: .ref 1110 :: .ref 1111 :: .ref 1112 :: .ref 1113 :: .ref 1114 :: .ref 1115 :: .ref 1116 :: .ref 1117 :: .ref 1118 :: .ref 1119 :: .ref 1120 :: .ref 1121 :: .ref 1122 :: .ref 1123 :: .ref 1124 :: .ref 1125 :: .ref 1126 :: .ref 1127 :: .int 0 :: .int 0 :: .int 0 :: .int 0 :: .int 0 :: .int 0 :: .int 0 :: .int 0 :: .ref 1128 :: .ref 1129 :: .ref 1130 :: .ref 1131 :: .ref 1132 :: .ref 1133 :: .ref 1134 :: .ref 1135 :: .ref 1136 :: .ref 1137 :: .ref 1138 :: .ref 1139 :: .ref 1140 :: .ref 1141 :: .ref 1142 :: .ref 1143 :: .ref 1144 :: .ref 1145 :: .ref 1146 :: .ref 1147 :: .ref 1148 :: .ref 1149 :: .ref 1150 :: .ref 1151 :: .ref 1152 :: .ref 1153 :: .ref 1154 :: .ref 1155 :: .ref 1156 :: .ref 1157 :: .ref 1158 :: .int 0 :: .int 0 :: .int 0 :: .int 0 :: .int 0 :: .int 0 :: .int 0 :: .long 0 :: .ref 1159 :: .int 0 :: .int 0 :: .int 0 :: .int 0 :: .int 0 :: .int 0 :: .int 0 :: .ref 1160 :: .ref 1161 :: .ref 1162 :: .ref 1163 :: .ref 1164 :: .ref 1165 :: .ref 1166 :: .ref 1167 :: .ref 1168 :: .ref 1169 :: .ref 1170 :: .ref 1171 :: .ref 1172 :: .null :: .null :: .null :: .null :: .null :: .null :: .null :: .int 0 :: .int 0 :: .long 0 :: .int 0 :: .null :: .null :: .null :: .null :: .null :: [])) in_X12 tyX12_ok nmX12 rfl (k := 98) (by decide) rfl rfl rfl rfl kF_X12_226 dX12_init_611 (mm_fit_arr _ _) rfl (by decide) (Nat.le_of_ble_eq_true rfl) rfl ?_
  refine mm_aload_n dX12_init_614 rfl rfl ?_
  refine mm_sipush (v := 400) dX12_init_615 (by decide) ?_
  refine mm_newa3 (atype := .int) (n1 := 1174) (t := 0) (N := 400) (cl := .inl (0, 400, .inl (fun _ => 0))) (a0 := (400, .inl (fun _ => 0))) (fun _ => rfl) (fun _ => rfl) wA_int rfl (fun _ => rfl) (by decide) rfl (by decide) (by omega) (by omega) dX12_init_618 rfl ?_
  refine mm_putF3 (ci := 12) (fs1 := (.ref 1102 :: .int 0 :: .ref 1103 :: .int 0 :: .int 0 :: .int 0 :: .int (-1) :: .ref 1104 :: .ref 1105 :: .ref 1106 :: .ref 1107 :: .ref 1108 :: .ref 1109 :: .ref 1110 :: .ref 1111 :: .ref 1112 :: .ref 1113 :: .ref 1114 :: .ref 1115 :: .ref 1116 :: .ref 1117 :: .ref 1118 :: .ref 1119 :: .ref 1120 :: .ref 1121 :: .ref 1122 :: .ref 1123 :: .ref 1124 :: .ref 1125 :: .ref 1126 :: .ref 1127 :: .int 0 :: .int 0 :: .int 0 :: .int 0 :: .int 0 :: .int 0 :: .int 0 :: .int 0 :: .ref 1128 :: .ref 1129 :: .ref 1130 :: .ref 1131 :: .ref 1132 :: .ref 1133 :: .ref 1134 :: .ref 1135 :: .ref 1136 :: .ref 1137 :: .ref 1138 :: .ref 1139 :: .ref 1140 :: .ref 1141 :: .ref 1142 :: .ref 1143 :: .ref 1144 :: .ref 1145 :: .ref 1146 :: .ref 1147 :: .ref 1148 :: .ref 1149 :: .ref 1150 :: .ref 1151 :: .ref 1152 :: .ref 1153 :: .ref 1154 :: .ref 1155 :: .ref 1156 :: .ref 1157 :: .ref 1158 :: .int 0 :: .int 0 :: .int 0 :: .int 0 :: .int 0 :: .int 0 :: .int 0 :: .long 0 :: .ref 1159 :: .int 0 :: .int 0 :: .int 0 :: .int 0 :: .int 0 :: .int 0 :: .int 0 :: .ref 1160 :: .ref 1161 :: .ref 1162 :: .ref 1163 :: .ref 1164 :: .ref 1165 :: .ref 1166 :: .ref 1167 :: .ref 1168 :: .ref 1169 :: .ref 1170 :: .ref 1171 :: .ref 1172 :: .ref 1173 :: .null :: .null :: .null :: .null :: .null :: .null :: .int 0 :: .int 0 :: .long 0 :: .int 0 :: .null :: .null :: .null :: .null :: .null :: [])) in_X12 tyX12_ok nmX12 rfl (k := 99) (by decide) rfl rfl rfl rfl kF_X12_229 dX12_init_620 (mm_fit_arr _ _) rfl (by decide) (Nat.le_of_ble_eq_true rfl) rfl ?_
  refine mm_aload_n dX12_init_623 rfl rfl ?_
  refine mm_sipush (v := 400) dX12_init_624 (by decide) ?_
  refine mm_newa3 (atype := .int) (n1 := 1175) (t := 0) (N := 400) (cl := .inl (0, 400, .inl (fun _ => 0))) (a0 := (400, .inl (fun _ => 0))) (fun _ => rfl) (fun _ => rfl) wA_int rfl (fun _ => rfl) (by decide) rfl (by decide) (by omega) (by omega) dX12_init_627 rfl ?_
  refine mm_putF3 (ci := 12) (fs1 := (.ref 1102 :: .int 0 :: .ref 1103 :: .int 0 :: .int 0 :: .int 0 :: .int (-1) :: .ref 1104 :: .ref 1105 :: .ref 1106 :: .ref 1107 :: .ref 1108 :: .ref 1109 :: .ref 1110 :: .ref 1111 :: .ref 1112 :: .ref 1113 :: .ref 1114 :: .ref 1115 :: .ref 1116 :: .ref 1117 :: .ref 1118 :: .ref 1119 :: .ref 1120 :: .ref 1121 :: .ref 1122 :: .ref 1123 :: .ref 1124 :: .ref 1125 :: .ref 1126 :: .ref 1127 :: .int 0 :: .int 0 :: .int 0 :: .int 0 :: .int 0 :: .int 0 :: .int 0 :: .int 0 :: .ref 1128 :: .ref 1129 :: .ref 1130 :: .ref 1131 :: .ref 1132 :: .ref 1133 :: .ref 1134 :: .ref 1135 :: .ref 1136 :: .ref 1137 :: .ref 1138 :: .ref 1139 :: .ref 1140 :: .ref 1141 :: .ref 1142 :: .ref 1143 :: .ref 1144 :: .ref 1145 :: .ref 1146 :: .ref 1147 :: .ref 1148 :: .ref 1149 :: .ref 1150 :: .ref 1151 :: .ref 1152 :: .ref 1153 :: .ref 1154 :: .ref 1155 :: .ref 1156 :: .ref 1157 :: .ref 1158 :: .int 0 :: .int 0 :: .int 0 :: .int 0 :: .int 0 :: .int 0 :: .int 0 :: .long 0 :: .ref 1159 :: .int 0 :: .int 0 :: .int 0 :: .int 0 :: .int 0 :: .int 0 :: .int 0 :: .ref 1160 :: .ref 1161 :: .ref 1162 :: .ref 1163 :: .ref 1164 :: .ref 1165 :: .ref 1166 :: .ref 1167 :: .ref 1168 :: .ref 1169 :: .ref 1170 :: .ref 1171 :: .ref 1172 :: .ref 1173 :: .ref 1174 :: .null :: .null :: .null :: .null :: .null :: .int 0 :: .int 0 :: .long 0 :: .int 0 :: .null :: .null :: .null :: .null :: .null :: [])) in_X12 tyX12_ok nmX12 rfl (k := 100) (by decide) rfl rfl rfl rfl kF_X12_232 dX12_init_629 (mm_fit_arr _ _) rfl (by decide) (Nat.le_of_ble_eq_true rfl) rfl ?_
  refine mm_aload_n dX12_init_632 rfl rfl ?_
  refine mm_sipush (v := 1500) dX12_init_633 (by decide) ?_
  refine mm_newa3 (atype := .int) (n1 := 1176) (t := 0) (N := 1500) (cl := .inl (0, 1500, .inl (fun _ => 0))) (a0 := (1500, .inl (fun _ => 0))) (fun _ => rfl) (fun _ => rfl) wA_int rfl (fun _ => rfl) (by decide) rfl (by decide) (by omega) (by omega) dX12_init_636 rfl ?_
  refine mm_putF3 (ci := 12) (fs1 := (.ref 1102 :: .int 0 :: .ref 1103 :: .int 0 :: .int 0 :: .int 0 :: .int (-1) :: .ref 1104 :: .ref 1105 :: .ref 1106 :: .ref 1107 :: .ref 1108 :: .ref 1109 :: .ref 1110 :: .ref 1111 :: .ref 1112 :: .ref 1113 :: .ref 1114 :: .ref 1115 :: .ref 1116 :: .ref 1117 :: .ref 1118 :: .ref 1119 :: .ref 1120 :: .ref 1121 :: .ref 1122 :: .ref 1123 :: .ref 1124 :: .ref 1125 :: .ref 1126 :: .ref 1127 :: .int 0 :: .int 0 :: .int 0 :: .int 0 :: .int 0 :: .int 0 :: .int 0 :: .int 0 :: .ref 1128 :: .ref 1129 :: .ref 1130 :: .ref 1131 :: .ref 1132 :: .ref 1133 :: .ref 1134 :: .ref 1135 :: .ref 1136 :: .ref 1137 :: .ref 1138 :: .ref 1139 :: .ref 1140 :: .ref 1141 :: .ref 1142 :: .ref 1143 :: .ref 1144 :: .ref 1145 :: .ref 1146 :: .ref 1147 :: .ref 1148 :: .ref 1149 :: .ref 1150 :: .ref 1151 :: .ref 1152 :: .ref 1153 :: .ref 1154 :: .ref 1155 :: .ref 1156 :: .ref 1157 :: .ref 1158 :: .int 0 :: .int 0 :: .int 0 :: .int 0 :: .int 0 :: .int 0 :: .int 0 :: .long 0 :: .ref 1159 :: .int 0 :: .int 0 :: .int 0 :: .int 0 :: .int 0 :: .int 0 :: .int 0 :: .ref 1160 :: .ref 1161 :: .ref 1162 :: .ref 1163 :: .ref 1164 :: .ref 1165 :: .ref 1166 :: .ref 1167 :: .ref 1168 :: .ref 1169 :: .ref 1170 :: .ref 1171 :: .ref 1172 :: .ref 1173 :: .ref 1174 :: .ref 1175 :: .null :: .null :: .null :: .null :: .int 0 :: .int 0 :: .long 0 :: .int 0 :: .null :: .null :: .null :: .null :: .null :: [])) in_X12 tyX12_ok nmX12 rfl (k := 101) (by decide) rfl rfl rfl rfl kF_X12_235 dX12_init_638 (mm_fit_arr _ _) rfl (by decide) (Nat.le_of_ble_eq_true rfl) rfl ?_
  refine mm_aload_n dX12_init_641 rfl rfl ?_
  refine mm_bipush (v := 40) dX12_init_642 (by decide) ?_
  refine mm_newa3 (atype := .int) (n1 := 1177) (t := 0) (N := 40) (cl := .inl (0, 40, .inl (fun _ => 0))) (a0 := (40, .inl (fun _ => 0))) (fun _ => rfl) (fun _ => rfl) wA_int rfl (fun _ => rfl) (by decide) rfl (by decide) (by omega) (by omega) dX12_init_644 rfl ?_
  refine mm_putF3 (ci := 12) (fs1 := (.ref 1102 :: .int 0 :: .ref 1103 :: .int 0 :: .int 0 :: .int 0 :: .int (-1) :: .ref 1104 :: .ref 1105 :: .ref 1106 :: .ref 1107 :: .ref 1108 :: .ref 1109 :: .ref 1110 :: .ref 1111 :: .ref 1112 :: .ref 1113 :: .ref 1114 :: .ref 1115 :: .ref 1116 :: .ref 1117 :: .ref 1118 :: .ref 1119 :: .ref 1120 :: .ref 1121 :: .ref 1122 :: .ref 1123 :: .ref 1124 :: .ref 1125 :: .ref 1126 :: .ref 1127 :: .int 0 :: .int 0 :: .int 0 :: .int 0 :: .int 0 :: .int 0 :: .int 0 :: .int 0 :: .ref 1128 :: .ref 1129 :: .ref 1130 :: .ref 1131 :: .ref 1132 :: .ref 1133 :: .ref 1134 :: .ref 1135 :: .ref 1136 :: .ref 1137 :: .ref 1138 :: .ref 1139 :: .ref 1140 :: .ref 1141 :: .ref 1142 :: .ref 1143 :: .ref 1144 :: .ref 1145 :: .ref 1146 :: .ref 1147 :: .ref 1148 :: .ref 1149 :: .ref 1150 :: .ref 1151 :: .ref 1152 :: .ref 1153 :: .ref 1154 :: .ref 1155 :: .ref 1156 :: .ref 1157 :: .ref 1158 :: .int 0 :: .int 0 :: .int 0 :: .int 0 :: .int 0 :: .int 0 :: .int 0 :: .long 0 :: .ref 1159 :: .int 0 :: .int 0 :: .int 0 :: .int 0 :: .int 0 :: .int 0 :: .int 0 :: .ref 1160 :: .ref 1161 :: .ref 1162 :: .ref 1163 :: .ref 1164 :: .ref 1165 :: .ref 1166 :: .ref 1167 :: .ref 1168 :: .ref 1169 :: .ref 1170 :: .ref 1171 :: .ref 1172 :: .ref 1173 :: .ref 1174 :: .ref 1175 :: .ref 1176 :: .null :: .null :: .null :: .int 0 :: .int 0 :: .long 0 :: .int 0 :: .null :: .null :: .null :: .null :: .null :: [])) in_X12 tyX12_ok nmX12 rfl (k := 102) (by decide) rfl rfl rfl rfl kF_X12_238 dX12_init_646 (mm_fit_arr _ _) rfl (by decide) (Nat.le_of_ble_eq_true rfl) rfl ?_
  refine mm_aload_n dX12_init_649 rfl rfl ?_
  refine mm_bipush (v := 40) dX12_init_650 (by decide) ?_
  refine mm_newa3 (atype := .int) (n1 := 1178) (t := 0) (N := 40) (cl := .inl (0, 40, .inl (fun _ => 0))) (a0 := (40, .inl (fun _ => 0))) (fun _ => rfl) (fun _ => rfl) wA_int rfl (fun _ => rfl) (by decide) rfl (by decide) (by omega) (by omega) dX12_init_652 rfl ?_
  refine mm_putF3 (ci := 12) (fs1 := (.ref 1102 :: .int 0 :: .ref 1103 :: .int 0 :: .int 0 :: .int 0 :: .int (-1) :: .ref 1104 :: .ref 1105 :: .ref 1106 :: .ref 1107 :: .ref 1108 :: .ref 1109 :: .ref 1110 :: .ref 1111 :: .ref 1112 :: .ref 1113 :: .ref 1114 :: .ref 1115 :: .ref 1116 :: .ref 1117 :: .ref 1118 :: .ref 1119 :: .ref 1120 :: .ref 1121 :: .ref 1122 :: .ref 1123 :: .ref 1124 :: .ref 1125 :: .ref 1126 :: .ref 1127 :: .int 0 :: .int 0 :: .int 0 :: .int 0 :: .int 0 :: .int 0 :: .int 0 :: .int 0 :: .ref 1128 :: .ref 1129 :: .ref 1130 :: .ref 1131 :: .ref 1132 :: .ref 1133 :: .ref 1134 :: .ref 1135 :: .ref 1136 :: .ref 1137 :: .ref 1138 :: .ref 1139 :: .ref 1140 :: .ref 1141 :: .ref 1142 :: .ref 1143 :: .ref 1144 :: .ref 1145 :: .ref 1146 :: .ref 1147 :: .ref 1148 :: .ref 1149 :: .ref 1150 :: .ref 1151 :: .ref 1152 :: .ref 1153 :: .ref 1154 :: .ref 1155 :: .ref 1156 :: .ref 1157 :: .ref 1158 :: .int 0 :: .int 0 :: .int 0 :: .int 0 :: .int 0 :: .int 0 :: .int 0 :: .long 0 :: .ref 1159 :: .int 0 :: .int 0 :: .int 0 :: .int 0 :: .int 0 :: .int 0 :: .int 0 :: .ref 1160 :: .ref 1161 :: .ref 1162 :: .ref 1163 :: .ref 1164 :: .ref 1165 :: .ref 1166 :: .ref 1167 :: .ref 1168 :: .ref 1169 :: .ref 1170 :: .ref 1171 :: .ref 1172 :: .ref 1173 :: .ref 1174 :: .ref 1175 :: .ref 1176 :: .ref 1177 :: .null :: .null :: .int 0 :: .int 0 :: .long 0 :: .int 0 :: .null :: .null :: .null :: .null :: .null :: [])) in_X12 tyX12_ok nmX12 rfl (k := 103) (by decide) rfl rfl rfl rfl kF_X12_241 dX12_init_654 (mm_fit_arr _ _) rfl (by decide) (Nat.le_of_ble_eq_true rfl) rfl ?_
  refine mm_aload_n dX12_init_657 rfl rfl ?_
  refine mm_bipush (v := 40) dX12_init_658 (by decide) ?_
  refine mm_newa3 (atype := .int) (n1 := 1179) (t := 0) (N := 40) (cl := .inl (0, 40, .inl (fun _ => 0))) (a0 := (40, .inl (fun _ => 0))) (fun _ => rfl) (fun _ => rfl) wA_int rfl (fun _ => rfl) (by decide) rfl (by decide) (by omega) (by omega) dX12_init_660 rfl ?_
  refine mm_putF3 (ci := 12) (fs1 := (.ref 1102 :: .int 0 :: .ref 1103 :: .int 0 :: .int 0 :: .int 0 :: .int (-1) :: .ref 1104 :: .ref 1105 :: .ref 1106 :: .ref 1107 :: .ref 1108 :: .ref 1109 :: .ref 1110 :: .ref 1111 :: .ref 1112 :: .ref 1113 :: .ref 1114 :: .ref 1115 :: .ref 1116 :: .ref 1117 :: .ref 1118 :: .ref 1119 :: .ref 1120 :: .ref 1121 :: .ref 1122 :: .ref 1123 :: .ref 1124 :: .ref 1125 :: .ref 1126 :: .ref 1127 :: .int 0 :: .int 0 :: .int 0 :: .int 0 :: .int 0 :: .int 0 :: .int 0 :: .int 0 :: .ref 1128 :: .ref 1129 :: .ref 1130 :: .ref 1131 :: .ref 1132 :: .ref 1133 :: .ref 1134 :: .ref 1135 :: .ref 1136 :: .ref 1137 :: .ref 1138 :: .ref 1139 :: .ref 1140 :: .ref 1141 :: .ref 1142 :: .ref 1143 :: .ref 1144 :: .ref 1145 :: .ref 1146 :: .ref 1147 :: .ref 1148 :: .ref 1149 :: .ref 1150 :: .ref 1151 :: .ref 1152 :: .ref 1153 :: .ref 1154 :: .ref 1155 :: .ref 1156 :: .ref 1157 :: .ref 1158 :: .int 0 :: .int 0 :: .int 0 :: .int 0 :: .int 0 :: .int 0 :: .int 0 :: .long 0 :: .ref 1159 :: .int 0 :: .int 0 :: .int 0 :: .int 0 :: .int 0 :: .int 0 :: .int 0 :: .ref 1160 :: .ref 1161 :: .ref 1162 :: .ref 1163 :: .ref 1164 :: .ref 1165 :: .ref 1166 :: .ref 1167 :: .ref 1168 :: .ref 1169 :: .ref 1170 :: .ref 1171 :: .ref 1172 :: .ref 1173 :: .ref 1174 :: .ref 1175 :: .ref 1176 :: .ref 1177 :: .ref 1178 :: .null :: .int 0 :: .int 0 :: .long 0 :: .int 0 :: .null :: .null :: .null :: .null :: .null :: [])) in_X12 tyX12_ok nmX12 rfl (k := 104) (by decide) rfl rfl rfl rfl kF_X12_244 dX12_init_662 (mm_fit_arr _ _) rfl (by decide) (Nat.le_of_ble_eq_true rfl) rfl ?_
  refine mm_aload_n dX12_init_665 rfl rfl ?_
  refine mm_bipush (v := 40) dX12_init_666 (by decide) ?_
  refine mm_newa3 (atype := .int) (n1 := 1180) (t := 0) (N := 40) (cl := .inl (0, 40, .inl (fun _ => 0))) (a0 := (40, .inl (fun _ => 0))) (fun _ => rfl) (fun _ => rfl) wA_int rfl (fun _ => rfl) (by decide) rfl (by decide) (by omega) (by omega) dX12_init_668 rfl ?_
  refine mm_putF3 (ci := 12) (fs1 := (.ref 1102 :: .int 0 :: .ref 1103 :: .int 0 :: .int 0 :: .int 0 :: .int (-1) :: .ref 1104 :: .ref 1105 :: .ref 1106 :: .ref 1107 :: .ref 1108 :: .ref 1109 :: .ref 1110 :: .ref 1111 :: .ref 1112 :: .ref 1113 :: .ref 1114 :: .ref 1115 :: .ref 1116 :: .ref 1117 :: .ref 1118 :: .ref 1119 :: .ref 1120 :: .ref 1121 :: .ref 1122 :: .ref 1123 :: .ref 1124 :: .ref 1125 :: .ref 1126 :: .ref 1127 :: .int 0 :: .int 0 :: .int 0 :: .int 0 :: .int 0 :: .int 0 :: .int 0 :: .int 0 :: .ref 1128 :: .ref 1129 :: .ref 1130 :: .ref 1131 :: .ref 1132 :: .ref 1133 :: .ref 1134 :: .ref 1135 :: .ref 1136 :: .ref 1137 :: .ref 1138 :: .ref 1139 :: .ref 1140 :: .ref 1141 :: .ref 1142 :: .ref 1143 :: .ref 1144 :: .ref 1145 :: .ref 1146 :: .ref 1147 :: .ref 1148 :: .ref 1149 :: .ref 1150 :: .ref 1151 :: .ref 1152 :: .ref 1153 :: .ref 1154 :: .ref 1155 :: .ref 1156 :: .ref 1157 :: .ref 1158 :: .int 0 :: .int 0 :: .int 0 :: .int 0 :: .int 0 :: .int 0 :: .int 0 :: .long 0 :: .ref 1159 :: .int 0 :: .int 0 :: .int 0 :: .int 0 :: .int 0 :: .int 0 :: .int 0 :: .ref 1160 :: .ref 1161 :: .ref 1162 :: .ref 1163 :: .ref 1164 :: .ref 1165 :: .ref 1166 :: .ref 1167 :: .ref 1168 :: .ref 1169 :: .ref 1170 :: .ref 1171 :: .ref 1172 :: .ref 1173 :: .ref 1174 :: .ref 1175 :: .ref 1176 :: .ref 1177 :: .ref 1178 :: .ref 1179 :: .int 0 :: .int 0 :: .long 0 :: .int 0 :: .null :: .null :: .null :: .null :: .null :: [])) in_X12 tyX12_ok nmX12 rfl (k := 105) (by decide) rfl rfl rfl rfl kF_X12_247 dX12_init_670 (mm_fit_arr _ _) rfl (by decide) (Nat.le_of_ble_eq_true rfl) rfl ?_
  refine mm_aload_n dX12_init_673 rfl rfl ?_
  refine mm_bipush (v := 20) dX12_init_674 (by decide) ?_
  refine mm_newa3 (atype := .int) (n1 := 1181) (t := 0) (N := 20) (cl := .inl (0, 20, .inl (fun _ => 0))) (a0 := (20, .inl (fun _ => 0))) (fun _ => rfl) (fun _ => rfl) wA_int rfl (fun _ => rfl) (by decide) rfl (by decide) (by omega) (by omega) dX12_init_676 rfl ?_
  refine mm_putF3 (ci := 12) (fs1 := (.ref 1102 :: .int 0 :: .ref 1103 :: .int 0 :: .int 0 :: .int 0 :: .int (-1) :: .ref 1104 :: .ref 1105 :: .ref 1106 :: .ref 1107 :: .ref 1108 :: .ref 1109 :: .ref 1110 :: .ref 1111 :: .ref 1112 :: .ref 1113 :: .ref 1114 :: .ref 1115 :: .ref 1116 :: .ref 1117 :: .ref 1118 :: .ref 1119 :: .ref 1120 :: .ref 1121 :: .ref 1122 :: .ref 1123 :: .ref 1124 :: .ref 1125 :: .ref 1126 :: .ref 1127 :: .int 0 :: .int 0 :: .int 0 :: .int 0 :: .int 0 :: .int 0 :: .int 0 :: .int 0 :: .ref 1128 :: .ref 1129 :: .ref 1130 :: .ref 1131 :: .ref 1132 :: .ref 1133 :: .ref 1134 :: .ref 1135 :: .ref 1136 :: .ref 1137 :: .ref 1138 :: .ref 1139 :: .ref 1140 :: .ref 1141 :: .ref 1142 :: .ref 1143 :: .ref 1144 :: .ref 1145 :: .ref 1146 :: .ref 1147 :: .ref 1148 :: .ref 1149 :: .ref 1150 :: .ref 1151 :: .ref 1152 :: .ref 1153 :: .ref 1154 :: .ref 1155 :: .ref 1156 :: .ref 1157 :: .ref 1158 :: .int 0 :: .int 0 :: .int 0 :: .int 0 :: .int 0 :: .int 0 :: .int 0 :: .long 0 :: .ref 1159 :: .int 0 :: .int 0 :: .int 0 :: .int 0 :: .int 0 :: .int 0 :: .int 0 :: .ref 1160 :: .ref 1161 :: .ref 1162 :: .ref 1163 :: .ref 1164 :: .ref 1165 :: .ref 1166 :: .ref 1167 :: .ref 1168 :: .ref 1169 :: .ref 1170 :: .ref 1171 :: .ref 1172 :: .ref 1173 :: .ref 1174 :: .ref 1175 :: .ref 1176 :: .ref 1177 :: .ref 1178 :: .ref 1179 :: .int 0 :: .int 0 :: .long 0 :: .int 0 :: .ref 1180 :: .null :: .null :: .null :: .null :: [])) in_X12 tyX12_ok nmX12 rfl (k := 110) (by decide) rfl rfl rfl rfl kF_X12_250 dX12_init_678 (mm_fit_arr _ _) rfl (by decide) (Nat.le_of_ble_eq_true rfl) rfl ?_
  refine mm_aload_n dX12_init_681 rfl rfl ?_
  refine mm_sipush (v := 256) dX12_init_682 (by decide) ?_
  refine mm_newa3 (atype := .boolean) (n1 := 1182) (t := 3) (N := 256) (cl := .inl (3, 256, .inl (fun _ => 0))) (a0 := (256, .inl (fun _ => 0))) (fun _ => rfl) (fun _ => rfl) wA_boolean rfl (fun _ => rfl) (by decide) rfl (by decide) (by omega) (by omega) dX12_init_685 rfl ?_
  refine mm_putF3 (ci := 12) (fs1 := (.ref 1102 :: .int 0 :: .ref 1103 :: .int 0 :: .int 0 :: .int 0 :: .int (-1) :: .ref 1104 :: .ref 1105 :: .ref 1106 :: .ref 1107 :: .ref 1108 :: .ref 1109 :: .ref 1110 :: .ref 1111 :: .ref 1112 :: .ref 1113 :: .ref 1114 :: .ref 1115 :: .ref 1116 :: .ref 1117 :: .ref 1118 :: .ref 1119 :: .ref 1120 :: .ref 1121 :: .ref 1122 :: .ref 1123 :: .ref 1124 :: .ref 1125 :: .ref 1126 :: .ref 1127 :: .int 0 :: .int 0 :: .int 0 :: .int 0 :: .int 0 :: .int 0 :: .int 0 :: .int 0 :: .ref 1128 :: .ref 1129 :: .ref 1130 :: .ref 1131 :: .ref 1132 :: .ref 1133 :: .ref 1134 :: .ref 1135 :: .ref 1136 :: .ref 1137 :: .ref 1138 :: .ref 1139 :: .ref 1140 :: .ref 1141 :: .ref 1142 :: .ref 1143 :: .ref 1144 :: .ref 1145 :: .ref 1146 :: .ref 1147 :: .ref 1148 :: .ref 1149 :: .ref 1150 :: .ref 1151 :: .ref 1152 :: .ref 1153 :: .ref 1154 :: .ref 1155 :: .ref 1156 :: .ref 1157 :: .ref 1158 :: .int 0 :: .int 0 :: .int 0 :: .int 0 :: .int 0 :: .int 0 :: .int 0 :: .long 0 :: .ref 1159 :: .int 0 :: .int 0 :: .int 0 :: .int 0 :: .int 0 :: .int 0 :: .int 0 :: .ref 1160 :: .ref 1161 :: .ref 1162 :: .ref 1163 :: .ref 1164 :: .ref 1165 :: .ref 1166 :: .ref 1167 :: .ref 1168 :: .ref 1169 :: .ref 1170 :: .ref 1171 :: .ref 1172 :: .ref 1173 :: .ref 1174 :: .ref 1175 :: .ref 1176 :: .ref 1177 :: .ref 1178 :: .ref 1179 :: .int 0 :: .int 0 :: .long 0 :: .int 0 :: .ref 1180 :: .ref 1181 :: .null :: .null :: .null :: [])) in_X12 tyX12_ok nmX12 rfl (k := 111) (by decide) rfl rfl rfl rfl kF_X12_253 dX12_init_687 (mm_fit_arr _ _) rfl (by decide) (Nat.le_of_ble_eq_true rfl) rfl ?_
  refine mm_aload_n dX12_init_690 rfl rfl ?_
  refine mm_sipush (v := 260) dX12_init_691 (by decide) ?_
  refine mm_newa3 (atype := .int) (n1 := 1183) (t := 0) (N := 260) (cl := .inl (0, 260, .inl (fun _ => 0))) (a0 := (260, .inl (fun _ => 0))) (fun _ => rfl) (fun _ => rfl) wA_int rfl (fun _ => rfl) (by decide) rfl (by decide) (by omega) (by omega) dX12_init_694 rfl ?_
  refine mm_putF3 (ci := 12) (fs1 := (.ref 1102 :: .int 0 :: .ref 1103 :: .int 0 :: .int 0 :: .int 0 :: .int (-1) :: .ref 1104 :: .ref 1105 :: .ref 1106 :: .ref 1107 :: .ref 1108 :: .ref 1109 :: .ref 1110 :: .ref 1111 :: .ref 1112 :: .ref 1113 :: .ref 1114 :: .ref 1115 :: .ref 1116 :: .ref 1117 :: .ref 1118 :: .ref 1119 :: .ref 1120 :: .ref 1121 :: .ref 1122 :: .ref 1123 :: .ref 1124 :: .ref 1125 :: .ref 1126 :: .ref 1127 :: .int 0 :: .int 0 :: .int 0 :: .int 0 :: .int 0 :: .int 0 :: .int 0 :: .int 0 :: .ref 1128 :: .ref 1129 :: .ref 1130 :: .ref 1131 :: .ref 1132 :: .ref 1133 :: .ref 1134 :: .ref 1135 :: .ref 1136 :: .ref 1137 :: .ref 1138 :: .ref 1139 :: .ref 1140 :: .ref 1141 :: .ref 1142 :: .ref 1143 :: .ref 1144 :: .ref 1145 :: .ref 1146 :: .ref 1147 :: .ref 1148 :: .ref 1149 :: .ref 1150 :: .ref 1151 :: .ref 1152 :: .ref 1153 :: .ref 1154 :: .ref 1155 :: .ref 1156 :: .ref 1157 :: .ref 1158 :: .int 0 :: .int 0 :: .int 0 :: .int 0 :: .int 0 :: .int 0 :: .int 0 :: .long 0 :: .ref 1159 :: .int 0 :: .int 0 :: .int 0 :: .int 0 :: .int 0 :: .int 0 :: .int 0 :: .ref 1160 :: .ref 1161 :: .ref 1162 :: .ref 1163 :: .ref 1164 :: .ref 1165 :: .ref 1166 :: .ref 1167 :: .ref 1168 :: .ref 1169 :: .ref 1170 :: .ref 1171 :: .ref 1172 :: .ref 1173 :: .ref 1174 :: .ref 1175 :: .ref 1176 :: .ref 1177 :: .ref 1178 :: .ref 1179 :: .int 0 :: .int 0 :: .long 0 :: .int 0 :: .ref 1180 :: .ref 1181 :: .ref 1182 :: .null :: .null :: [])) in_X12 tyX12_ok nmX12 rfl (k := 112) (by decide) rfl rfl rfl rfl kF_X12_256 dX12_init_696 (mm_fit_arr _ _) rfl (by decide) (Nat.le_of_ble_eq_true rfl) rfl ?_
  refine mm_aload_n dX12_init_699 rfl rfl ?_
  refine mm_sipush (v := 260) dX12_init_700 (by decide) ?_
  refine mm_newa3 (atype := .int) (n1 := 1184) (t := 0) (N := 260) (cl := .inl (0, 260, .inl (fun _ => 0))) (a0 := (260, .inl (fun _ => 0))) (fun _ => rfl) (fun _ => rfl) wA_int rfl (fun _ => rfl) (by decide) rfl (by decide) (by omega) (by omega) dX12_init_703 rfl ?_
  refine mm_putF3 (ci := 12) (fs1 := (.ref 1102 :: .int 0 :: .ref 1103 :: .int 0 :: .int 0 :: .int 0 :: .int (-1) :: .ref 1104 :: .ref 1105 :: .ref 1106 :: .ref 1107 :: .ref 1108 :: .ref 1109 :: .ref 1110 :: .ref 1111 :: .ref 1112 :: .ref 1113 :: .ref 1114 :: .ref 1115 :: .ref 1116 :: .ref 1117 :: .ref 1118 :: .ref 1119 :: .ref 1120 :: .ref 1121 :: .ref 1122 :: .ref 1123 :: .ref 1124 :: .ref 1125 :: .ref 1126 :: .ref 1127 :: .int 0 :: .int 0 :: .int 0 :: .int 0 :: .int 0 :: .int 0 :: .int 0 :: .int 0 :: .ref 1128 :: .ref 1129 :: .ref 1130 :: .ref 1131 :: .ref 1132 :: .ref 1133 :: .ref 1134 :: .ref 1135 :: .ref 1136 :: .ref 1137 :: .ref 1138 :: .ref 1139 :: .ref 1140 :: .ref 1141 :: .ref 1142 :: .ref 1143 :: .ref 1144 :: .ref 1145 :: .ref 1146 :: .ref 1147 :: .ref 1148 :: .ref 1149 :: .ref 1150 :: .ref 1151 :: .ref 1152 :: .ref 1153 :: .ref 1154 :: .ref 1155 :: .ref 1156 :: .ref 1157 :: .ref 1158 :: .int 0 :: .int 0 :: .int 0 :: .int 0 :: .int 0 :: .int 0 :: .int 0 :: .long 0 :: .ref 1159 :: .int 0 :: .int 0 :: .int 0 :: .int 0 :: .int 0 :: .int 0 :: .int 0 :: .ref 1160 :: .ref 1161 :: .ref 1162 :: .ref 1163 :: .ref 1164 :: .ref 1165 :: .ref 1166 :: .ref 1167 :: .ref 1168 :: .ref 1169 :: .ref 1170 :: .ref 1171 :: .ref 1172 :: .ref 1173 :: .ref 1174 :: .ref 1175 :: .ref 1176 :: .ref 1177 :: .ref 1178 :: .ref 1179 :: .int 0 :: .int 0 :: .long 0 :: .int 0 :: .ref 1180 :: .ref 1181 :: .ref 1182 :: .ref 1183 :: .null :: [])) in_X12 tyX12_ok nmX12 rfl (k := 113) (by decide) rfl rfl rfl rfl kF_X12_259 dX12_init_705 (mm_fit_arr _ _) rfl (by decide) (Nat.le_of_ble_eq_true rfl) rfl ?_
  refine mm_aload_n dX12_init_708 rfl rfl ?_
  refine mm_sipush (v := 260) dX12_init_709 (by decide) ?_
  refine mm_newa3 (atype := .int) (n1 := 1185) (t := 0) (N := 260) (cl := .inl (0, 260, .inl (fun _ => 0))) (a0 := (260, .inl (fun _ => 0))) (fun _ => rfl) (fun _ => rfl) wA_int rfl (fun _ => rfl) (by decide) rfl (by decide) (by omega) (by omega) dX12_init_712 rfl ?_
  refine mm_putF3 (ci := 12) (fs1 := (.ref 1102 :: .int 0 :: .ref 1103 :: .int 0 :: .int 0 :: .int 0 :: .int (-1) :: .ref 1104 :: .ref 1105 :: .ref 1106 :: .ref 1107 :: .ref 1108 :: .ref 1109 :: .ref 1110 :: .ref 1111 :: .ref 1112 :: .ref 1113 :: .ref 1114 :: .ref 1115 :: .ref 1116 :: .ref 1117 :: .ref 1118 :: .ref 1119 :: .ref 1120 :: .ref 1121 :: .ref 1122 :: .ref 1123 :: .ref 1124 :: .ref 1125 :: .ref 1126 :: .ref 1127 :: .int 0 :: .int 0 :: .int 0 :: .int 0 :: .int 0 :: .int 0 :: .int 0 :: .int 0 :: .ref 1128 :: .ref 1129 :: .ref 1130 :: .ref 1131 :: .ref 1132 :: .ref 1133 :: .ref 1134 :: .ref 1135 :: .ref 1136 :: .ref 1137 :: .ref 1138 :: .ref 1139 :: .ref 1140 :: .ref 1141 :: .ref 1142 :: .ref 1143 :: .ref 1144 :: .ref 1145 :: .ref 1146 :: .ref 1147 :: .ref 1148 :: .ref 1149 :: .ref 1150 :: .ref 1151 :: .ref 1152 :: .ref 1153 :: .ref 1154 :: .ref 1155 :: .ref 1156 :: .ref 1157 :: .ref 1158 :: .int 0 :: .int 0 :: .int 0 :: .int 0 :: .int 0 :: .int 0 :: .int 0 :: .long 0 :: .ref 1159 :: .int 0 :: .int 0 :: .int 0 :: .int 0 :: .int 0 :: .int 0 :: .int 0 :: .ref 1160 :: .ref 1161 :: .ref 1162 :: .ref 1163 :: .ref 1164 :: .ref 1165 :: .ref 1166 :: .ref 1167 :: .ref 1168 :: .ref 1169 :: .ref 1170 :: .ref 1171 :: .ref 1172 :: .ref 1173 :: .ref 1174 :: .ref 1175 :: .ref 1176 :: .ref 1177 :: .ref 1178 :: .ref 1179 :: .int 0 :: .int 0 :: .long 0 :: .int 0 :: .ref 1180 :: .ref 1181 :: .ref 1182 :: .ref 1183 :: .ref 1184 :: [])) in_X12 tyX12_ok nmX12 rfl (k := 114) (by decide) rfl rfl rfl rfl kF_X12_262 dX12_init_714 (mm_fit_arr _ _) rfl (by decide) (Nat.le_of_ble_eq_true rfl) rfl ?_
  refine mm_vret dX12_init_717 rfl ?_ (by omega) (by omega)
  refine ⟨rfl, rfl, ?_, ?_⟩
  · dsimp only
    exact ⟨rfl, rfl, rfl, rfl, rfl, rfl, rfl, rfl, rfl, rfl, rfl, rfl, rfl, rfl, rfl, rfl, rfl, rfl, rfl, rfl, rfl, rfl, rfl, rfl, rfl, rfl, rfl, rfl, rfl, rfl, rfl, rfl, rfl, rfl, rfl, rfl, rfl, rfl, rfl, rfl, rfl, rfl, rfl, rfl, rfl, rfl, rfl, rfl, rfl, rfl, rfl, rfl, rfl, rfl, rfl, rfl, rfl, rfl, rfl, rfl, rfl, rfl, rfl, rfl, rfl, rfl, rfl, rfl, rfl, rfl, rfl, rfl, rfl, rfl, rfl, rfl, rfl, rfl, rfl, rfl, rfl, rfl, rfl, rfl⟩
  · intro x h1
    exact mm_upN (by omega) (mm_upN (by omega) (mm_upN (by omega) (mm_upN (by omega) (mm_upN (by omega) (mm_upN (by omega) (mm_upN (by omega) (mm_upN (by omega) (mm_upN (by omega) (mm_upN (by omega) (mm_upN (by omega) (mm_upN (by omega) (mm_upN (by omega) (mm_upN (by omega) (mm_upN (by omega) (mm_upN (by omega) (mm_upN (by omega) (mm_upN (by omega) (mm_upN (by omega) (mm_upN (by omega) (mm_upN (by omega) (mm_upN (by omega) (mm_upN (by omega) (mm_upN (by omega) (mm_upN (by omega) (mm_upN (by omega) (mm_upN (by omega) (mm_upN (by omega) (mm_upN (by omega) (mm_upN (by omega) (mm_upN (by omega) (mm_upN (by omega) (mm_upN (by omega) (mm_upN (by omega) (mm_upN (by omega) (mm_upN (by omega) (mm_upN (by omega) (mm_upN (by omega) (mm_upN (by omega) (mm_upN (by omega) (mm_upN (by omega) (mm_upN (by omega) (mm_upN (by omega) (mm_upN (by omega) (mm_upN (by omega) (mm_upN (by omega) (mm_upN (by omega) (mm_upN (by omega) (mm_upN (by omega) (mm_upN (by omega) (mm_upN (by omega) (mm_upN (by omega) (mm_upN (by omega) (mm_upN (by omega) (mm_upN (by omega) (mm_upN (by omega) (mm_upN (by omega) (mm_upN (by omega) (mm_upN (by omega) (mm_upN (by omega) (mm_upN (by omega) (mm_upN (by omega) (mm_upN (by omega) (mm_upN (by omega) (mm_upN (by omega) (mm_upN (by omega) (mm_upN (by omega) (mm_upN (by omega) (mm_upN (by omega) (mm_upN (by omega) (mm_upN (by omega) (mm_upN (by omega) (mm_upN (by omega) (mm_upN (by omega) (mm_upN (by omega) (mm_upN (by omega) (mm_upN (by omega) (mm_upN (by omega) (mm_upN (by omega) (mm_upN (by omega) (mm_upN (by omega) (mm_upN (by omega) (mm_upN (by omega) (mm_upN (by omega) (mm_upN (by omega) (mm_upN (by omega) (mm_upN (by omega) (mm_upN (by omega) (mm_upN (by omega) (mm_upN (by omega) (mm_upN (by omega) (mm_upN (by omega) (mm_upN (by omega) (mm_upN (by omega) (mm_upN (by omega) (mm_upN (by omega) (mm_upN (by omega) (mm_upN (by omega) (mm_upN (by omega) (mm_upN (by omega) (mm_upN (by omega) (mm_upN (by omega) (mm_upN (by omega) (mm_upN (by omega) (mm_upN (by omega) (mm_upN (by omega) (mm_upN (by omega) (mm_upN (by omega) (mm_upN (by omega) (mm_upN (by omega) (mm_upN (by omega) (mm_upN (by omega) (mm_upN (by omega) (mm_upN (by omega) (mm_upN (by omega) (mm_upN (by omega) (mm_upN (by omega) (mm_upN (by omega) (mm_upN (by omega) (mm_upN (by omega) (mm_upN (by omega) (mm_upN (by omega) (mm_upN (by omega) (mm_upN (by omega) (mm_upN (by omega) (mm_upN (by omega) (mm_upN (by omega) (mm_upN (by omega) (mm_upN (by omega) (mm_upN (by omega) (mm_upN (by omega) (mm_upN (by omega) (mm_upN (by omega) (mm_upN (by omega) (mm_upN (by omega) (mm_upN (by omega) (mm_upN (by omega) (mm_upN (by omega) (mm_upN (by omega) (mm_upN (by omega) (mm_upN (by omega) (mm_upN (by omega) (mm_upN (by omega) (mm_upN (by omega) (mm_upN (by omega) (mm_upN (by omega) (mm_upN (by omega) (mm_upN (by omega) (mm_upN (by omega) (mm_upN (by omega) (mm_upN (by omega) (mm_upN (by omega) (mm_upN (by omega) (mm_upN (by omega) (mm_upN (by omega) (mm_upN (by omega) (mm_upN (by omega) (mm_upN (by omega) (mm_upN (by omega) (mm_upN (by omega) (mm_upN (by omega) (mm_upN (by omega) (mm_upN (by omega) (mm_upN (by omega) (mm_upN (by omega) (mm_upN (by omega) (mm_upN (by omega) (rfl)))))))))))))))))))))))))))))))))))))))))))))))))))))))))))))))))))))))))))))))))))))))))))))))))))))))))))))))))))))))))))))))))))))))))))))))))))))))))))))))))))))))
end
section
theorem dX6_clear_0 : decode cX6_clear 0 = .ok (.aload_n 0, 1) := by decide +kernel
theorem dX6_clear_1 : decode cX6_clear 1 = .ok (.getfield 14, 3) := by decide +kernel
theorem dX6_clear_4 : decode cX6_clear 4 = .ok (.invokevirtual 31, 3) := by decide +kernel
theorem dX6_clear_7 : decode cX6_clear 7 = .ok (.aload_n 0, 1) := by decide +kernel
theorem dX6_clear_8 : decode cX6_clear 8 = .ok (.iconst 0, 1) := by decide +kernel
theorem dX6_clear_9 : decode cX6_clear 9 = .ok (.putfield 34, 3) := by decide +kernel
theorem dX6_clear_12 : decode cX6_clear 12 = .ok (.aload_n 0, 1) := by decide +kernel
theorem dX6_clear_13 : decode cX6_clear 13 = .ok (.iconst 0, 1) := by decide +kernel
theorem dX6_clear_14 : decode cX6_clear 14 = .ok (.putfield 38, 3) := by decide +kernel
theorem dX6_clear_17 : decode cX6_clear 17 = .ok (.iconst 0, 1) := by decide +kernel
theorem dX6_clear_18 : decode cX6_clear 18 = .ok (.istore_n 1, 1) := by decide +kernel
theorem dX6_clear_19 : decode cX6_clear 19 = .ok (.iload_n 1, 1) := by decide +kernel
theorem dX6_clear_20 : decode cX6_clear 20 = .ok (.aload_n 0, 1) := by decide +kernel
theorem dX6_clear_21 : decode cX6_clear 21 = .ok (.getfield 27, 3) := by decide +kernel
theorem dX6_clear_24 : decode cX6_clear 24 = .ok (.arraylength, 1) := by decide +kernel
theorem dX6_clear_25 : decode cX6_clear 25 = .ok (.if_icmp .ge 16, 3) := by decide +kernel
theorem dX6_clear_28 : decode cX6_clear 28 = .ok (.aload_n 0, 1) := by decide +kernel
theorem dX6_clear_29 : decode cX6_clear 29 = .ok (.getfield 27, 3) := by decide +kernel
theorem dX6_clear_32 : decode cX6_clear 32 = .ok (.iload_n 1, 1) := by decide +kernel
theorem dX6_clear_33 : decode cX6_clear 33 = .ok (.iconst 0, 1) := by decide +kernel
theorem dX6_clear_34 : decode cX6_clear 34 = .ok (.iastore, 1) := by decide +kernel
theorem dX6_clear_35 : decode cX6_clear 35 = .ok (.iinc 1 1, 3) := by decide +kernel
theorem dX6_clear_38 : decode cX6_clear 38 = .ok (.goto (-19), 3) := by decide +kernel
theorem dX6_clear_41 : decode cX6_clear 41 = .ok (.return_, 1) := by decide +kernel
theorem dX10_behindBlanks_0 : decode cX10_behindBlanks 0 = .ok (.iload_n 1, 1) := by decide +kernel
theorem dX10_behindBlanks_1 : decode cX10_behindBlanks 1 = .ok (.istore_n 2, 1) := by decide +kernel
theorem dX10_behindBlanks_2 : decode cX10_behindBlanks 2 = .ok (.iload_n 2, 1) := by decide +kernel
theorem dX10_behindBlanks_3 : decode cX10_behindBlanks 3 = .ok (.aload_n 0, 1) := by decide +kernel
theorem dX10_behindBlanks_4 : decode cX10_behindBlanks 4 = .ok (.getfield 33, 3) := by decide +kernel
theorem dX10_behindBlanks_7 : decode cX10_behindBlanks 7 = .ok (.if_icmp .ge 85, 3) := by decide +kernel
theorem dX10_behindBlanks_10 : decode cX10_behindBlanks 10 = .ok (.aload_n 0, 1) := by decide +kernel
theorem dX10_behindBlanks_11 : decode cX10_behindBlanks 11 = .ok (.getfield 9, 3) := by decide +kernel
theorem dX10_behindBlanks_14 : decode cX10_behindBlanks 14 = .ok (.iload_n 2, 1) := by decide +kernel
theorem dX10_behindBlanks_15 : decode cX10_behindBlanks 15 = .ok (.invokevirtual 55, 3) := by decide +kernel
theorem dX10_behindBlanks_18 : decode cX10_behindBlanks 18 = .ok (.istore_n 3, 1) := by decide +kernel
theorem dX10_behindBlanks_19 : decode cX10_behindBlanks 19 = .ok (.iload_n 3, 1) := by decide +kernel
theorem dX10_behindBlanks_20 : decode cX10_behindBlanks 20 = .ok (.bipush 47, 2) := by decide +kernel
theorem dX10_behindBlanks_22 : decode cX10_behindBlanks 22 = .ok (.if_icmp .ne 16, 3) := by decide +kernel
theorem dX10_behindBlanks_25 : decode cX10_behindBlanks 25 = .ok (.aload_n 0, 1) := by decide +kernel
theorem dX10_behindBlanks_26 : decode cX10_behindBlanks 26 = .ok (.getfield 9, 3) := by decide +kernel
theorem dX10_behindBlanks_29 : decode cX10_behindBlanks 29 = .ok (.iload_n 2, 1) := by decide +kernel
theorem dX10_behindBlanks_30 : decode cX10_behindBlanks 30 = .ok (.iconst 1, 1) := by decide +kernel
theorem dX10_behindBlanks_31 : decode cX10_behindBlanks 31 = .ok (.iadd, 1) := by decide +kernel
theorem dX10_behindBlanks_32 : decode cX10_behindBlanks 32 = .ok (.invokevirtual 55, 3) := by decide +kernel
theorem dX10_behindBlanks_35 : decode cX10_behindBlanks 35 = .ok (.goto 4, 3) := by decide +kernel
theorem dX10_behindBlanks_38 : decode cX10_behindBlanks 38 = .ok (.iconst (-1), 1) := by decide +kernel
theorem dX10_behindBlanks_39 : decode cX10_behindBlanks 39 = .ok (.istore 4, 2) := by decide +kernel
theorem dX10_behindBlanks_41 : decode cX10_behindBlanks 41 = .ok (.iload 4, 2) := by decide +kernel
theorem dX10_behindBlanks_43 : decode cX10_behindBlanks 43 = .ok (.bipush 47, 2) := by decide +kernel
theorem dX10_behindBlanks_45 : decode cX10_behindBlanks 45 = .ok (.if_icmp .ne 14, 3) := by decide +kernel
theorem dX10_behindBlanks_48 : decode cX10_behindBlanks 48 = .ok (.aload_n 0, 1) := by decide +kernel
theorem dX10_behindBlanks_49 : decode cX10_behindBlanks 49 = .ok (.iload_n 2, 1) := by decide +kernel
theorem dX10_behindBlanks_50 : decode cX10_behindBlanks 50 = .ok (.iconst 2, 1) := by decide +kernel
theorem dX10_behindBlanks_51 : decode cX10_behindBlanks 51 = .ok (.iadd, 1) := by decide +kernel
theorem dX10_behindBlanks_52 : decode cX10_behindBlanks 52 = .ok (.invokevirtual 103, 3) := by decide +kernel
theorem dX10_behindBlanks_55 : decode cX10_behindBlanks 55 = .ok (.istore_n 2, 1) := by decide +kernel
theorem dX10_behindBlanks_56 : decode cX10_behindBlanks 56 = .ok (.goto 30, 3) := by decide +kernel
theorem dX10_behindBlanks_59 : decode cX10_behindBlanks 59 = .ok (.iload 4, 2) := by decide +kernel
theorem dX10_behindBlanks_61 : decode cX10_behindBlanks 61 = .ok (.bipush 42, 2) := by decide +kernel
theorem dX10_behindBlanks_63 : decode cX10_behindBlanks 63 = .ok (.if_icmp .ne 14, 3) := by decide +kernel
theorem dX10_behindBlanks_66 : decode cX10_behindBlanks 66 = .ok (.aload_n 0, 1) := by decide +kernel
theorem dX10_behindBlanks_67 : decode cX10_behindBlanks 67 = .ok (.iload_n 2, 1) := by decide +kernel
theorem dX10_behindBlanks_68 : decode cX10_behindBlanks 68 = .ok (.iconst 2, 1) := by decide +kernel
theorem dX10_behindBlanks_69 : decode cX10_behindBlanks 69 = .ok (.iadd, 1) := by decide +kernel
theorem dX10_behindBlanks_70 : decode cX10_behindBlanks 70 = .ok (.invokevirtual 106, 3) := by decide +kernel
theorem dX10_behindBlanks_73 : decode cX10_behindBlanks 73 = .ok (.istore_n 2, 1) := by decide +kernel
theorem dX10_behindBlanks_74 : decode cX10_behindBlanks 74 = .ok (.goto 12, 3) := by decide +kernel
theorem dX10_behindBlanks_77 : decode cX10_behindBlanks 77 = .ok (.iload_n 3, 1) := by decide +kernel
theorem dX10_behindBlanks_78 : decode cX10_behindBlanks 78 = .ok (.invokestatic 109, 3) := by decide +kernel
theorem dX10_behindBlanks_81 : decode cX10_behindBlanks 81 = .ok (.ifCond .ne 5, 3) := by decide +kernel
theorem dX10_behindBlanks_84 : decode cX10_behindBlanks 84 = .ok (.iload_n 2, 1) := by decide +kernel
theorem dX10_behindBlanks_85 : decode cX10_behindBlanks 85 = .ok (.ireturn, 1) := by decide +kernel
theorem dX10_behindBlanks_86 : decode cX10_behindBlanks 86 = .ok (.iinc 2 1, 3) := by decide +kernel
theorem dX10_behindBlanks_89 : decode cX10_behindBlanks 89 = .ok (.goto (-87), 3) := by decide +kernel
theorem dX10_behindBlanks_92 : decode cX10_behindBlanks 92 = .ok (.aload_n 0, 1) := by decide +kernel
theorem dX10_behindBlanks_93 : decode cX10_behindBlanks 93 = .ok (.getfield 33, 3) := by decide +kernel
theorem dX10_behindBlanks_96 : decode cX10_behindBlanks 96 = .ok (.ireturn, 1) := by decide +kernel
theorem dX10_push_0 : decode cX10_push 0 = .ok (.aload_n 0, 1) := by decide +kernel
theorem dX10_push_1 : decode cX10_push 1 = .ok (.getfield 29, 3) := by decide +kernel
theorem dX10_push_4 : decode cX10_push 4 = .ok (.ifCond .lt 51, 3) := by decide +kernel
theorem dX10_push_7 : decode cX10_push 7 = .ok (.aload_n 0, 1) := by decide +kernel
theorem dX10_push_8 : decode cX10_push 8 = .ok (.getfield 29, 3) := by decide +kernel
theorem dX10_push_11 : decode cX10_push 11 = .ok (.aload_n 0, 1) := by decide +kernel
theorem dX10_push_12 : decode cX10_push 12 = .ok (.getfield 15, 3) := by decide +kernel
theorem dX10_push_15 : decode cX10_push 15 = .ok (.arraylength, 1) := by decide +kernel
theorem dX10_push_16 : decode cX10_push 16 = .ok (.if_icmp .ge 39, 3) := by decide +kernel
theorem dX10_push_19 : decode cX10_push 19 = .ok (.aload_n 0, 1) := by decide +kernel
theorem dX10_push_20 : decode cX10_push 20 = .ok (.getfield 29, 3) := by decide +kernel
theorem dX10_push_23 : decode cX10_push 23 = .ok (.aload_n 0, 1) := by decide +kernel
theorem dX10_push_24 : decode cX10_push 24 = .ok (.getfield 19, 3) := by decide +kernel
theorem dX10_push_27 : decode cX10_push 27 = .ok (.arraylength, 1) := by decide +kernel
theorem dX10_push_28 : decode cX10_push 28 = .ok (.if_icmp .ge 27, 3) := by decide +kernel
theorem dX10_push_31 : decode cX10_push 31 = .ok (.aload_n 0, 1) := by decide +kernel
theorem dX10_push_32 : decode cX10_push 32 = .ok (.getfield 29, 3) := by decide +kernel
theorem dX10_push_35 : decode cX10_push 35 = .ok (.aload_n 0, 1) := by decide +kernel
theorem dX10_push_36 : decode cX10_push 36 = .ok (.getfield 22, 3) := by decide +kernel
theorem dX10_push_39 : decode cX10_push 39 = .ok (.arraylength, 1) := by decide +kernel
theorem dX10_push_40 : decode cX10_push 40 = .ok (.if_icmp .ge 15, 3) := by decide +kernel
theorem dX10_push_43 : decode cX10_push 43 = .ok (.aload_n 0, 1) := by decide +kernel
theorem dX10_push_44 : decode cX10_push 44 = .ok (.getfield 29, 3) := by decide +kernel
theorem dX10_push_47 : decode cX10_push 47 = .ok (.aload_n 0, 1) := by decide +kernel
theorem dX10_push_48 : decode cX10_push 48 = .ok (.getfield 25, 3) := by decide +kernel
theorem dX10_push_51 : decode cX10_push 51 = .ok (.arraylength, 1) := by decide +kernel
theorem dX10_push_52 : decode cX10_push 52 = .ok (.if_icmp .lt 5, 3) := by decide +kernel
theorem dX10_push_55 : decode cX10_push 55 = .ok (.iload_n 2, 1) := by decide +kernel
theorem dX10_push_56 : decode cX10_push 56 = .ok (.ireturn, 1) := by decide +kernel
theorem dX10_push_57 : decode cX10_push 57 = .ok (.aload_n 0, 1) := by decide +kernel
theorem dX10_push_58 : decode cX10_push 58 = .ok (.getfield 15, 3) := by decide +kernel
theorem dX10_push_61 : decode cX10_push 61 = .ok (.aload_n 0, 1) := by decide +kernel
theorem dX10_push_62 : decode cX10_push 62 = .ok (.getfield 29, 3) := by decide +kernel
theorem dX10_push_65 : decode cX10_push 65 = .ok (.iload_n 1, 1) := by decide +kernel
theorem dX10_push_66 : decode cX10_push 66 = .ok (.iastore, 1) := by decide +kernel
theorem dX10_push_67 : decode cX10_push 67 = .ok (.aload_n 0, 1) := by decide +kernel
theorem dX10_push_68 : decode cX10_push 68 = .ok (.getfield 19, 3) := by decide +kernel
theorem dX10_push_71 : decode cX10_push 71 = .ok (.aload_n 0, 1) := by decide +kernel
theorem dX10_push_72 : decode cX10_push 72 = .ok (.getfield 29, 3) := by decide +kernel
theorem dX10_push_75 : decode cX10_push 75 = .ok (.iload_n 2, 1) := by decide +kernel
theorem dX10_push_76 : decode cX10_push 76 = .ok (.iastore, 1) := by decide +kernel
theorem dX10_push_77 : decode cX10_push 77 = .ok (.aload_n 0, 1) := by decide +kernel
theorem dX10_push_78 : decode cX10_push 78 = .ok (.getfield 22, 3) := by decide +kernel
theorem dX10_push_81 : decode cX10_push 81 = .ok (.aload_n 0, 1) := by decide +kernel
theorem dX10_push_82 : decode cX10_push 82 = .ok (.getfield 29, 3) := by decide +kernel
theorem dX10_push_85 : decode cX10_push 85 = .ok (.iload_n 3, 1) := by decide +kernel
theorem dX10_push_86 : decode cX10_push 86 = .ok (.iastore, 1) := by decide +kernel
theorem dX10_push_87 : decode cX10_push 87 = .ok (.aload_n 0, 1) := by decide +kernel
theorem dX10_push_88 : decode cX10_push 88 = .ok (.getfield 25, 3) := by decide +kernel
theorem dX10_push_91 : decode cX10_push 91 = .ok (.aload_n 0, 1) := by decide +kernel
theorem dX10_push_92 : decode cX10_push 92 = .ok (.getfield 29, 3) := by decide +kernel
theorem dX10_push_95 : decode cX10_push 95 = .ok (.lload 4, 2) := by decide +kernel
theorem dX10_push_97 : decode cX10_push 97 = .ok (.lastore, 1) := by decide +kernel
theorem dX10_push_98 : decode cX10_push 98 = .ok (.aload_n 0, 1) := by decide +kernel
theorem dX10_push_99 : decode cX10_push 99 = .ok (.dup, 1) := by decide +kernel
theorem dX10_push_100 : decode cX10_push 100 = .ok (.getfield 29, 3) := by decide +kernel
theorem dX10_push_103 : decode cX10_push 103 = .ok (.iconst 1, 1) := by decide +kernel
theorem dX10_push_104 : decode cX10_push 104 = .ok (.iadd, 1) := by decide +kernel
theorem dX10_push_105 : decode cX10_push 105 = .ok (.putfield 29, 3) := by decide +kernel
theorem dX10_push_108 : decode cX10_push 108 = .ok (.iload_n 1, 1) := by decide +kernel
theorem dX10_push_109 : decode cX10_push 109 = .ok (.iconst 5, 1) := by decide +kernel
theorem dX10_push_110 : decode cX10_push 110 = .ok (.if_icmp .ne 7, 3) := by decide +kernel
theorem dX10_push_113 : decode cX10_push 113 = .ok (.iload_n 2, 1) := by decide +kernel
theorem dX10_push_114 : decode cX10_push 114 = .ok (.goto 4, 3) := by decide +kernel
theorem dX10_push_117 : decode cX10_push 117 = .ok (.iload_n 3, 1) := by decide +kernel
theorem dX10_push_118 : decode cX10_push 118 = .ok (.ireturn, 1) := by decide +kernel
theorem dX10_addWord_0 : decode cX10_addWord 0 = .ok (.aload_n 0, 1) := by decide +kernel
theorem dX10_addWord_1 : decode cX10_addWord 1 = .ok (.getfield 9, 3) := by decide +kernel
theorem dX10_addWord_4 : decode cX10_addWord 4 = .ok (.iload_n 1, 1) := by decide +kernel
theorem dX10_addWord_5 : decode cX10_addWord 5 = .ok (.invokevirtual 55, 3) := by decide +kernel
theorem dX10_addWord_8 : decode cX10_addWord 8 = .ok (.istore_n 2, 1) := by decide +kernel
theorem dX10_addWord_9 : decode cX10_addWord 9 = .ok (.iload_n 2, 1) := by decide +kernel
theorem dX10_addWord_10 : decode cX10_addWord 10 = .ok (.ifCond .ge 25, 3) := by decide +kernel
theorem dX10_addWord_13 : decode cX10_addWord 13 = .ok (.aload_n 0, 1) := by decide +kernel
theorem dX10_addWord_14 : decode cX10_addWord 14 = .ok (.aload_n 0, 1) := by decide +kernel
theorem dX10_addWord_15 : decode cX10_addWord 15 = .ok (.getfield 44, 3) := by decide +kernel
theorem dX10_addWord_18 : decode cX10_addWord 18 = .ok (.ifCond .eq 7, 3) := by decide +kernel
theorem dX10_addWord_21 : decode cX10_addWord 21 = .ok (.iconst 5, 1) := by decide +kernel
theorem dX10_addWord_22 : decode cX10_addWord 22 = .ok (.goto 4, 3) := by decide +kernel
theorem dX10_addWord_25 : decode cX10_addWord 25 = .ok (.iconst 0, 1) := by decide +kernel
theorem dX10_addWord_26 : decode cX10_addWord 26 = .ok (.iload_n 1, 1) := by decide +kernel
theorem dX10_addWord_27 : decode cX10_addWord 27 = .ok (.iload_n 1, 1) := by decide +kernel
theorem dX10_addWord_28 : decode cX10_addWord 28 = .ok (.ldc2_w 36, 3) := by decide +kernel
theorem dX10_addWord_31 : decode cX10_addWord 31 = .ok (.invokevirtual 58, 3) := by decide +kernel
theorem dX10_addWord_34 : decode cX10_addWord 34 = .ok (.ireturn, 1) := by decide +kernel
theorem dX10_addWord_35 : decode cX10_addWord 35 = .ok (.iload_n 2, 1) := by decide +kernel
theorem dX10_addWord_36 : decode cX10_addWord 36 = .ok (.invokestatic 62, 3) := by decide +kernel
theorem dX10_addWord_39 : decode cX10_addWord 39 = .ok (.ifCond .eq 24, 3) := by decide +kernel
theorem dX10_addWord_42 : decode cX10_addWord 42 = .ok (.aload_n 0, 1) := by decide +kernel
theorem dX10_addWord_43 : decode cX10_addWord 43 = .ok (.iload_n 1, 1) := by decide +kernel
theorem dX10_addWord_44 : decode cX10_addWord 44 = .ok (.invokevirtual 66, 3) := by decide +kernel
theorem dX10_addWord_47 : decode cX10_addWord 47 = .ok (.istore_n 3, 1) := by decide +kernel
theorem dX10_addWord_48 : decode cX10_addWord 48 = .ok (.aload_n 0, 1) := by decide +kernel
theorem dX10_addWord_49 : decode cX10_addWord 49 = .ok (.iconst 1, 1) := by decide +kernel
theorem dX10_addWord_50 : decode cX10_addWord 50 = .ok (.iload_n 1, 1) := by decide +kernel
theorem dX10_addWord_51 : decode cX10_addWord 51 = .ok (.iload_n 3, 1) := by decide +kernel
theorem dX10_addWord_52 : decode cX10_addWord 52 = .ok (.aload_n 0, 1) := by decide +kernel
theorem dX10_addWord_53 : decode cX10_addWord 53 = .ok (.iload_n 1, 1) := by decide +kernel
theorem dX10_addWord_54 : decode cX10_addWord 54 = .ok (.iload_n 3, 1) := by decide +kernel
theorem dX10_addWord_55 : decode cX10_addWord 55 = .ok (.invokevirtual 69, 3) := by decide +kernel
theorem dX10_addWord_58 : decode cX10_addWord 58 = .ok (.i2l, 1) := by decide +kernel
theorem dX10_addWord_59 : decode cX10_addWord 59 = .ok (.invokevirtual 58, 3) := by decide +kernel
theorem dX10_addWord_62 : decode cX10_addWord 62 = .ok (.ireturn, 1) := by decide +kernel
theorem dX10_addWord_63 : decode cX10_addWord 63 = .ok (.iload_n 2, 1) := by decide +kernel
theorem dX10_addWord_64 : decode cX10_addWord 64 = .ok (.bipush 48, 2) := by decide +kernel
theorem dX10_addWord_66 : decode cX10_addWord 66 = .ok (.if_icmp .lt 15, 3) := by decide +kernel
theorem dX10_addWord_69 : decode cX10_addWord 69 = .ok (.iload_n 2, 1) := by decide +kernel
theorem dX10_addWord_70 : decode cX10_addWord 70 = .ok (.bipush 57, 2) := by decide +kernel
theorem dX10_addWord_72 : decode cX10_addWord 72 = .ok (.if_icmp .gt 9, 3) := by decide +kernel
theorem dX10_addWord_75 : decode cX10_addWord 75 = .ok (.aload_n 0, 1) := by decide +kernel
theorem dX10_addWord_76 : decode cX10_addWord 76 = .ok (.iload_n 1, 1) := by decide +kernel
theorem dX10_addWord_77 : decode cX10_addWord 77 = .ok (.invokevirtual 73, 3) := by decide +kernel
theorem dX10_addWord_80 : decode cX10_addWord 80 = .ok (.ireturn, 1) := by decide +kernel
theorem dX10_addWord_81 : decode cX10_addWord 81 = .ok (.iload_n 2, 1) := by decide +kernel
theorem dX10_addWord_82 : decode cX10_addWord 82 = .ok (.bipush 34, 2) := by decide +kernel
theorem dX10_addWord_84 : decode cX10_addWord 84 = .ok (.if_icmp .ne 9, 3) := by decide +kernel
theorem dX10_addWord_87 : decode cX10_addWord 87 = .ok (.aload_n 0, 1) := by decide +kernel
theorem dX10_addWord_88 : decode cX10_addWord 88 = .ok (.iload_n 1, 1) := by decide +kernel
theorem dX10_addWord_89 : decode cX10_addWord 89 = .ok (.invokevirtual 76, 3) := by decide +kernel
theorem dX10_addWord_92 : decode cX10_addWord 92 = .ok (.ireturn, 1) := by decide +kernel
theorem dX10_addWord_93 : decode cX10_addWord 93 = .ok (.aload_n 0, 1) := by decide +kernel
theorem dX10_addWord_94 : decode cX10_addWord 94 = .ok (.iconst 4, 1) := by decide +kernel
theorem dX10_addWord_95 : decode cX10_addWord 95 = .ok (.iload_n 1, 1) := by decide +kernel
theorem dX10_addWord_96 : decode cX10_addWord 96 = .ok (.iload_n 1, 1) := by decide +kernel
theorem dX10_addWord_97 : decode cX10_addWord 97 = .ok (.iconst 1, 1) := by decide +kernel
theorem dX10_addWord_98 : decode cX10_addWord 98 = .ok (.iadd, 1) := by decide +kernel
theorem dX10_addWord_99 : decode cX10_addWord 99 = .ok (.iload_n 2, 1) := by decide +kernel
theorem dX10_addWord_100 : decode cX10_addWord 100 = .ok (.i2l, 1) := by decide +kernel
theorem dX10_addWord_101 : decode cX10_addWord 101 = .ok (.invokevirtual 58, 3) := by decide +kernel
theorem dX10_addWord_104 : decode cX10_addWord 104 = .ok (.ireturn, 1) := by decide +kernel
theorem dX10_split_0 : decode cX10_split 0 = .ok (.aload_n 0, 1) := by decide +kernel
theorem dX10_split_1 : decode cX10_split 1 = .ok (.iconst 0, 1) := by decide +kernel
theorem dX10_split_2 : decode cX10_split 2 = .ok (.putfield 29, 3) := by decide +kernel
theorem dX10_split_5 : decode cX10_split 5 = .ok (.aload_n 0, 1) := by decide +kernel
theorem dX10_split_6 : decode cX10_split 6 = .ok (.aload_n 0, 1) := by decide +kernel
theorem dX10_split_7 : decode cX10_split 7 = .ok (.getfield 9, 3) := by decide +kernel
theorem dX10_split_10 : decode cX10_split 10 = .ok (.invokevirtual 38, 3) := by decide +kernel
theorem dX10_split_13 : decode cX10_split 13 = .ok (.putfield 33, 3) := by decide +kernel
theorem dX10_split_16 : decode cX10_split 16 = .ok (.aload_n 0, 1) := by decide +kernel
theorem dX10_split_17 : decode cX10_split 17 = .ok (.iconst 0, 1) := by decide +kernel
theorem dX10_split_18 : decode cX10_split 18 = .ok (.putfield 44, 3) := by decide +kernel
theorem dX10_split_21 : decode cX10_split 21 = .ok (.iconst 0, 1) := by decide +kernel
theorem dX10_split_22 : decode cX10_split 22 = .ok (.istore_n 1, 1) := by decide +kernel
theorem dX10_split_23 : decode cX10_split 23 = .ok (.iconst 0, 1) := by decide +kernel
theorem dX10_split_24 : decode cX10_split 24 = .ok (.istore_n 2, 1) := by decide +kernel
theorem dX10_split_25 : decode cX10_split 25 = .ok (.iload_n 2, 1) := by decide +kernel
theorem dX10_split_26 : decode cX10_split 26 = .ok (.sipush 700, 3) := by decide +kernel
theorem dX10_split_29 : decode cX10_split 29 = .ok (.if_icmp .gt 27, 3) := by decide +kernel
theorem dX10_split_32 : decode cX10_split 32 = .ok (.aload_n 0, 1) := by decide +kernel
theorem dX10_split_33 : decode cX10_split 33 = .ok (.iload_n 1, 1) := by decide +kernel
theorem dX10_split_34 : decode cX10_split 34 = .ok (.invokevirtual 48, 3) := by decide +kernel
theorem dX10_split_37 : decode cX10_split 37 = .ok (.istore_n 3, 1) := by decide +kernel
theorem dX10_split_38 : decode cX10_split 38 = .ok (.aload_n 0, 1) := by decide +kernel
theorem dX10_split_39 : decode cX10_split 39 = .ok (.iload_n 3, 1) := by decide +kernel
theorem dX10_split_40 : decode cX10_split 40 = .ok (.invokevirtual 52, 3) := by decide +kernel
theorem dX10_split_43 : decode cX10_split 43 = .ok (.istore_n 1, 1) := by decide +kernel
theorem dX10_split_44 : decode cX10_split 44 = .ok (.iload_n 1, 1) := by decide +kernel
theorem dX10_split_45 : decode cX10_split 45 = .ok (.iload_n 3, 1) := by decide +kernel
theorem dX10_split_46 : decode cX10_split 46 = .ok (.if_icmp .gt 4, 3) := by decide +kernel
theorem dX10_split_49 : decode cX10_split 49 = .ok (.return_, 1) := by decide +kernel
theorem dX10_split_50 : decode cX10_split 50 = .ok (.iinc 2 1, 3) := by decide +kernel
theorem dX10_split_53 : decode cX10_split 53 = .ok (.goto (-28), 3) := by decide +kernel
theorem dX10_split_56 : decode cX10_split 56 = .ok (.return_, 1) := by decide +kernel
theorem dX10_codeOf_0 : decode cX10_codeOf 0 = .ok (.iload_n 1, 1) := by decide +kernel
theorem dX10_codeOf_1 : decode cX10_codeOf 1 = .ok (.ifCond .lt 43, 3) := by decide +kernel
theorem dX10_codeOf_4 : decode cX10_codeOf 4 = .ok (.iload_n 1, 1) := by decide +kernel
theorem dX10_codeOf_5 : decode cX10_codeOf 5 = .ok (.aload_n 0, 1) := by decide +kernel
theorem dX10_codeOf_6 : decode cX10_codeOf 6 = .ok (.getfield 29, 3) := by decide +kernel
theorem dX10_codeOf_9 : decode cX10_codeOf 9 = .ok (.if_icmp .ge 35, 3) := by decide +kernel
theorem dX10_codeOf_12 : decode cX10_codeOf 12 = .ok (.iload_n 1, 1) := by decide +kernel
theorem dX10_codeOf_13 : decode cX10_codeOf 13 = .ok (.aload_n 0, 1) := by decide +kernel
theorem dX10_codeOf_14 : decode cX10_codeOf 14 = .ok (.getfield 15, 3) := by decide +kernel
theorem dX10_codeOf_17 : decode cX10_codeOf 17 = .ok (.arraylength, 1) := by decide +kernel
theorem dX10_codeOf_18 : decode cX10_codeOf 18 = .ok (.if_icmp .ge 26, 3) := by decide +kernel
theorem dX10_codeOf_21 : decode cX10_codeOf 21 = .ok (.iload_n 1, 1) := by decide +kernel
theorem dX10_codeOf_22 : decode cX10_codeOf 22 = .ok (.aload_n 0, 1) := by decide +kernel
theorem dX10_codeOf_23 : decode cX10_codeOf 23 = .ok (.getfield 25, 3) := by decide +kernel
theorem dX10_codeOf_26 : decode cX10_codeOf 26 = .ok (.arraylength, 1) := by decide +kernel
theorem dX10_codeOf_27 : decode cX10_codeOf 27 = .ok (.if_icmp .ge 17, 3) := by decide +kernel
theorem dX10_codeOf_30 : decode cX10_codeOf 30 = .ok (.aload_n 0, 1) := by decide +kernel
theorem dX10_codeOf_31 : decode cX10_codeOf 31 = .ok (.getfield 15, 3) := by decide +kernel
theorem dX10_codeOf_34 : decode cX10_codeOf 34 = .ok (.iload_n 1, 1) := by decide +kernel
theorem dX10_codeOf_35 : decode cX10_codeOf 35 = .ok (.iaload, 1) := by decide +kernel
theorem dX10_codeOf_36 : decode cX10_codeOf 36 = .ok (.iconst 1, 1) := by decide +kernel
theorem dX10_codeOf_37 : decode cX10_codeOf 37 = .ok (.if_icmp .ne 7, 3) := by decide +kernel
theorem dX10_codeOf_40 : decode cX10_codeOf 40 = .ok (.iconst 1, 1) := by decide +kernel
theorem dX10_codeOf_41 : decode cX10_codeOf 41 = .ok (.goto 4, 3) := by decide +kernel
theorem dX10_codeOf_44 : decode cX10_codeOf 44 = .ok (.iconst 0, 1) := by decide +kernel
theorem dX10_codeOf_45 : decode cX10_codeOf 45 = .ok (.istore_n 2, 1) := by decide +kernel
theorem dX10_codeOf_46 : decode cX10_codeOf 46 = .ok (.iload_n 2, 1) := by decide +kernel
theorem dX10_codeOf_47 : decode cX10_codeOf 47 = .ok (.ifCond .eq 13, 3) := by decide +kernel
theorem dX10_codeOf_50 : decode cX10_codeOf 50 = .ok (.aload_n 0, 1) := by decide +kernel
theorem dX10_codeOf_51 : decode cX10_codeOf 51 = .ok (.getfield 25, 3) := by decide +kernel
theorem dX10_codeOf_54 : decode cX10_codeOf 54 = .ok (.iload_n 1, 1) := by decide +kernel
theorem dX10_codeOf_55 : decode cX10_codeOf 55 = .ok (.laload, 1) := by decide +kernel
theorem dX10_codeOf_56 : decode cX10_codeOf 56 = .ok (.l2i, 1) := by decide +kernel
theorem dX10_codeOf_57 : decode cX10_codeOf 57 = .ok (.goto 4, 3) := by decide +kernel
theorem dX10_codeOf_60 : decode cX10_codeOf 60 = .ok (.iconst (-1), 1) := by decide +kernel
theorem dX10_codeOf_61 : decode cX10_codeOf 61 = .ok (.ireturn, 1) := by decide +kernel
theorem dX5_takesWord_0 : decode cX5_takesWord 0 = .ok (.aload_n 0, 1) := by decide +kernel
theorem dX5_takesWord_1 : decode cX5_takesWord 1 = .ok (.getfield 15, 3) := by decide +kernel
theorem dX5_takesWord_4 : decode cX5_takesWord 4 = .ok (.aload_n 0, 1) := by decide +kernel
theorem dX5_takesWord_5 : decode cX5_takesWord 5 = .ok (.getfield 29, 3) := by decide +kernel
theorem dX5_takesWord_8 : decode cX5_takesWord 8 = .ok (.invokevirtual 69, 3) := by decide +kernel
theorem dX5_takesWord_11 : decode cX5_takesWord 11 = .ok (.iload_n 1, 1) := by decide +kernel
theorem dX5_takesWord_12 : decode cX5_takesWord 12 = .ok (.if_icmp .eq 5, 3) := by decide +kernel
theorem dX5_takesWord_15 : decode cX5_takesWord 15 = .ok (.iconst 0, 1) := by decide +kernel
theorem dX5_takesWord_16 : decode cX5_takesWord 16 = .ok (.ireturn, 1) := by decide +kernel
theorem dX5_takesWord_17 : decode cX5_takesWord 17 = .ok (.aload_n 0, 1) := by decide +kernel
theorem dX5_takesWord_18 : decode cX5_takesWord 18 = .ok (.dup, 1) := by decide +kernel
theorem dX5_takesWord_19 : decode cX5_takesWord 19 = .ok (.getfield 29, 3) := by decide +kernel
theorem dX5_takesWord_22 : decode cX5_takesWord 22 = .ok (.iconst 1, 1) := by decide +kernel
theorem dX5_takesWord_23 : decode cX5_takesWord 23 = .ok (.iadd, 1) := by decide +kernel
theorem dX5_takesWord_24 : decode cX5_takesWord 24 = .ok (.putfield 29, 3) := by decide +kernel
theorem dX5_takesWord_27 : decode cX5_takesWord 27 = .ok (.iconst 1, 1) := by decide +kernel
theorem dX5_takesWord_28 : decode cX5_takesWord 28 = .ok (.ireturn, 1) := by decide +kernel
theorem dX5_readSyntax_0 : decode cX5_readSyntax 0 = .ok (.aload_n 0, 1) := by decide +kernel
theorem dX5_readSyntax_1 : decode cX5_readSyntax 1 = .ok (.bipush 24, 2) := by decide +kernel
theorem dX5_readSyntax_3 : decode cX5_readSyntax 3 = .ok (.invokevirtual 72, 3) := by decide +kernel
theorem dX5_readSyntax_6 : decode cX5_readSyntax 6 = .ok (.ifCond .eq 12, 3) := by decide +kernel
theorem dX5_readSyntax_9 : decode cX5_readSyntax 9 = .ok (.aload_n 0, 1) := by decide +kernel
theorem dX5_readSyntax_10 : decode cX5_readSyntax 10 = .ok (.bipush 61, 2) := by decide +kernel
theorem dX5_readSyntax_12 : decode cX5_readSyntax 12 = .ok (.invokevirtual 76, 3) := by decide +kernel
theorem dX5_readSyntax_15 : decode cX5_readSyntax 15 = .ok (.ifCond .ne 5, 3) := by decide +kernel
theorem dX5_readSyntax_18 : decode cX5_readSyntax 18 = .ok (.iconst 0, 1) := by decide +kernel
theorem dX5_readSyntax_19 : decode cX5_readSyntax 19 = .ok (.ireturn, 1) := by decide +kernel
theorem dX5_readSyntax_20 : decode cX5_readSyntax 20 = .ok (.aload_n 0, 1) := by decide +kernel
theorem dX5_readSyntax_21 : decode cX5_readSyntax 21 = .ok (.getfield 15, 3) := by decide +kernel
theorem dX5_readSyntax_24 : decode cX5_readSyntax 24 = .ok (.aload_n 0, 1) := by decide +kernel
theorem dX5_readSyntax_25 : decode cX5_readSyntax 25 = .ok (.getfield 29, 3) := by decide +kernel
theorem dX5_readSyntax_28 : decode cX5_readSyntax 28 = .ok (.invokevirtual 62, 3) := by decide +kernel
theorem dX5_readSyntax_31 : decode cX5_readSyntax 31 = .ok (.iconst 3, 1) := by decide +kernel
theorem dX5_readSyntax_32 : decode cX5_readSyntax 32 = .ok (.if_icmp .ne 21, 3) := by decide +kernel
theorem dX5_readSyntax_35 : decode cX5_readSyntax 35 = .ok (.aload_n 0, 1) := by decide +kernel
theorem dX5_readSyntax_36 : decode cX5_readSyntax 36 = .ok (.getfield 15, 3) := by decide +kernel
theorem dX5_readSyntax_39 : decode cX5_readSyntax 39 = .ok (.aload_n 0, 1) := by decide +kernel
theorem dX5_readSyntax_40 : decode cX5_readSyntax 40 = .ok (.getfield 29, 3) := by decide +kernel
theorem dX5_readSyntax_43 : decode cX5_readSyntax 43 = .ok (.invokevirtual 79, 3) := by decide +kernel
theorem dX5_readSyntax_46 : decode cX5_readSyntax 46 = .ok (.ldc2_w 83, 3) := by decide +kernel
theorem dX5_readSyntax_49 : decode cX5_readSyntax 49 = .ok (.lcmp, 1) := by decide +kernel
theorem dX5_readSyntax_50 : decode cX5_readSyntax 50 = .ok (.ifCond .eq 5, 3) := by decide +kernel
theorem dX5_readSyntax_53 : decode cX5_readSyntax 53 = .ok (.iconst 0, 1) := by decide +kernel
theorem dX5_readSyntax_54 : decode cX5_readSyntax 54 = .ok (.ireturn, 1) := by decide +kernel
theorem dX5_readSyntax_55 : decode cX5_readSyntax 55 = .ok (.aload_n 0, 1) := by decide +kernel
theorem dX5_readSyntax_56 : decode cX5_readSyntax 56 = .ok (.dup, 1) := by decide +kernel
theorem dX5_readSyntax_57 : decode cX5_readSyntax 57 = .ok (.getfield 29, 3) := by decide +kernel
theorem dX5_readSyntax_60 : decode cX5_readSyntax 60 = .ok (.iconst 1, 1) := by decide +kernel
theorem dX5_readSyntax_61 : decode cX5_readSyntax 61 = .ok (.iadd, 1) := by decide +kernel
theorem dX5_readSyntax_62 : decode cX5_readSyntax 62 = .ok (.putfield 29, 3) := by decide +kernel
theorem dX5_readSyntax_65 : decode cX5_readSyntax 65 = .ok (.aload_n 0, 1) := by decide +kernel
theorem dX5_readSyntax_66 : decode cX5_readSyntax 66 = .ok (.bipush 59, 2) := by decide +kernel
theorem dX5_readSyntax_68 : decode cX5_readSyntax 68 = .ok (.invokevirtual 76, 3) := by decide +kernel
theorem dX5_readSyntax_71 : decode cX5_readSyntax 71 = .ok (.ireturn, 1) := by decide +kernel
theorem dX10_count_0 : decode cX10_count 0 = .ok (.aload_n 0, 1) := by decide +kernel
theorem dX10_count_1 : decode cX10_count 1 = .ok (.getfield 29, 3) := by decide +kernel
theorem dX10_count_4 : decode cX10_count 4 = .ok (.ireturn, 1) := by decide +kernel
theorem dX5_read_0 : decode cX5_read 0 = .ok (.aload_n 0, 1) := by decide +kernel
theorem dX5_read_1 : decode cX5_read 1 = .ok (.aconst_null, 1) := by decide +kernel
theorem dX5_read_2 : decode cX5_read 2 = .ok (.putfield 19, 3) := by decide +kernel
theorem dX5_read_5 : decode cX5_read 5 = .ok (.aload_n 0, 1) := by decide +kernel
theorem dX5_read_6 : decode cX5_read 6 = .ok (.aconst_null, 1) := by decide +kernel
theorem dX5_read_7 : decode cX5_read 7 = .ok (.putfield 23, 3) := by decide +kernel
theorem dX5_read_10 : decode cX5_read 10 = .ok (.aload_n 0, 1) := by decide +kernel
theorem dX5_read_11 : decode cX5_read 11 = .ok (.aconst_null, 1) := by decide +kernel
theorem dX5_read_12 : decode cX5_read 12 = .ok (.putfield 26, 3) := by decide +kernel
theorem dX5_read_15 : decode cX5_read 15 = .ok (.aload_n 0, 1) := by decide +kernel
theorem dX5_read_16 : decode cX5_read 16 = .ok (.iconst 0, 1) := by decide +kernel
theorem dX5_read_17 : decode cX5_read 17 = .ok (.putfield 29, 3) := by decide +kernel
theorem dX5_read_20 : decode cX5_read 20 = .ok (.aload_n 0, 1) := by decide +kernel
theorem dX5_read_21 : decode cX5_read 21 = .ok (.iconst 1, 1) := by decide +kernel
theorem dX5_read_22 : decode cX5_read 22 = .ok (.putfield 33, 3) := by decide +kernel
theorem dX5_read_25 : decode cX5_read 25 = .ok (.aload_n 0, 1) := by decide +kernel
theorem dX5_read_26 : decode cX5_read 26 = .ok (.invokevirtual 36, 3) := by decide +kernel
theorem dX5_read_29 : decode cX5_read 29 = .ok (.istore_n 1, 1) := by decide +kernel
theorem dX5_read_30 : decode cX5_read 30 = .ok (.iconst 0, 1) := by decide +kernel
theorem dX5_read_31 : decode cX5_read 31 = .ok (.istore_n 2, 1) := by decide +kernel
theorem dX5_read_32 : decode cX5_read 32 = .ok (.iload_n 2, 1) := by decide +kernel
theorem dX5_read_33 : decode cX5_read 33 = .ok (.aload_n 0, 1) := by decide +kernel
theorem dX5_read_34 : decode cX5_read 34 = .ok (.getfield 15, 3) := by decide +kernel
theorem dX5_read_37 : decode cX5_read 37 = .ok (.invokevirtual 40, 3) := by decide +kernel
theorem dX5_read_40 : decode cX5_read 40 = .ok (.if_icmp .ge 53, 3) := by decide +kernel
theorem dX5_read_43 : decode cX5_read 43 = .ok (.iload_n 1, 1) := by decide +kernel
theorem dX5_read_44 : decode cX5_read 44 = .ok (.ifCond .eq 49, 3) := by decide +kernel
theorem dX5_read_47 : decode cX5_read 47 = .ok (.aload_n 0, 1) := by decide +kernel
theorem dX5_read_48 : decode cX5_read 48 = .ok (.invokevirtual 46, 3) := by decide +kernel
theorem dX5_read_51 : decode cX5_read 51 = .ok (.ifCond .ne 42, 3) := by decide +kernel
theorem dX5_read_54 : decode cX5_read 54 = .ok (.aload_n 0, 1) := by decide +kernel
theorem dX5_read_55 : decode cX5_read 55 = .ok (.getfield 26, 3) := by decide +kernel
theorem dX5_read_58 : decode cX5_read 58 = .ok (.ifnull 10, 3) := by decide +kernel
theorem dX5_read_61 : decode cX5_read 61 = .ok (.aload_n 0, 1) := by decide +kernel
theorem dX5_read_62 : decode cX5_read 62 = .ok (.invokevirtual 49, 3) := by decide +kernel
theorem dX5_read_65 : decode cX5_read 65 = .ok (.goto 21, 3) := by decide +kernel
theorem dX5_read_68 : decode cX5_read 68 = .ok (.aload_n 0, 1) := by decide +kernel
theorem dX5_read_69 : decode cX5_read 69 = .ok (.getfield 23, 3) := by decide +kernel
theorem dX5_read_72 : decode cX5_read 72 = .ok (.ifnull 10, 3) := by decide +kernel
theorem dX5_read_75 : decode cX5_read 75 = .ok (.aload_n 0, 1) := by decide +kernel
theorem dX5_read_76 : decode cX5_read 76 = .ok (.invokevirtual 52, 3) := by decide +kernel
theorem dX5_read_79 : decode cX5_read 79 = .ok (.goto 7, 3) := by decide +kernel
theorem dX5_read_82 : decode cX5_read 82 = .ok (.aload_n 0, 1) := by decide +kernel
theorem dX5_read_83 : decode cX5_read 83 = .ok (.invokevirtual 55, 3) := by decide +kernel
theorem dX5_read_86 : decode cX5_read 86 = .ok (.istore_n 1, 1) := by decide +kernel
theorem dX5_read_87 : decode cX5_read 87 = .ok (.iinc 2 1, 3) := by decide +kernel
theorem dX5_read_90 : decode cX5_read 90 = .ok (.goto (-58), 3) := by decide +kernel
theorem dX5_read_93 : decode cX5_read 93 = .ok (.iload_n 1, 1) := by decide +kernel
theorem dX5_read_94 : decode cX5_read 94 = .ok (.ifCond .eq 14, 3) := by decide +kernel
theorem dX5_read_97 : decode cX5_read 97 = .ok (.aload_n 0, 1) := by decide +kernel
theorem dX5_read_98 : decode cX5_read 98 = .ok (.invokevirtual 46, 3) := by decide +kernel
theorem dX5_read_101 : decode cX5_read 101 = .ok (.ifCond .eq 7, 3) := by decide +kernel
theorem dX5_read_104 : decode cX5_read 104 = .ok (.iconst 0, 1) := by decide +kernel
theorem dX5_read_105 : decode cX5_read 105 = .ok (.goto 7, 3) := by decide +kernel
theorem dX5_read_108 : decode cX5_read 108 = .ok (.aload_n 0, 1) := by decide +kernel
theorem dX5_read_109 : decode cX5_read 109 = .ok (.getfield 33, 3) := by decide +kernel
theorem dX5_read_112 : decode cX5_read 112 = .ok (.ireturn, 1) := by decide +kernel
theorem dX10_startOf_0 : decode cX10_startOf 0 = .ok (.iload_n 1, 1) := by decide +kernel
theorem dX10_startOf_1 : decode cX10_startOf 1 = .ok (.ifCond .lt 29, 3) := by decide +kernel
theorem dX10_startOf_4 : decode cX10_startOf 4 = .ok (.iload_n 1, 1) := by decide +kernel
theorem dX10_startOf_5 : decode cX10_startOf 5 = .ok (.aload_n 0, 1) := by decide +kernel
theorem dX10_startOf_6 : decode cX10_startOf 6 = .ok (.getfield 29, 3) := by decide +kernel
theorem dX10_startOf_9 : decode cX10_startOf 9 = .ok (.if_icmp .ge 21, 3) := by decide +kernel
theorem dX10_startOf_12 : decode cX10_startOf 12 = .ok (.iload_n 1, 1) := by decide +kernel
theorem dX10_startOf_13 : decode cX10_startOf 13 = .ok (.aload_n 0, 1) := by decide +kernel
theorem dX10_startOf_14 : decode cX10_startOf 14 = .ok (.getfield 19, 3) := by decide +kernel
theorem dX10_startOf_17 : decode cX10_startOf 17 = .ok (.arraylength, 1) := by decide +kernel
theorem dX10_startOf_18 : decode cX10_startOf 18 = .ok (.if_icmp .ge 12, 3) := by decide +kernel
theorem dX10_startOf_21 : decode cX10_startOf 21 = .ok (.aload_n 0, 1) := by decide +kernel
theorem dX10_startOf_22 : decode cX10_startOf 22 = .ok (.getfield 19, 3) := by decide +kernel
theorem dX10_startOf_25 : decode cX10_startOf 25 = .ok (.iload_n 1, 1) := by decide +kernel
theorem dX10_startOf_26 : decode cX10_startOf 26 = .ok (.iaload, 1) := by decide +kernel
theorem dX10_startOf_27 : decode cX10_startOf 27 = .ok (.goto 7, 3) := by decide +kernel
theorem dX10_startOf_30 : decode cX10_startOf 30 = .ok (.aload_n 0, 1) := by decide +kernel
theorem dX10_startOf_31 : decode cX10_startOf 31 = .ok (.getfield 33, 3) := by decide +kernel
theorem dX10_startOf_34 : decode cX10_startOf 34 = .ok (.ireturn, 1) := by decide +kernel
theorem dX5_endPlace_0 : decode cX5_endPlace 0 = .ok (.aload_n 0, 1) := by decide +kernel
theorem dX5_endPlace_1 : decode cX5_endPlace 1 = .ok (.getfield 15, 3) := by decide +kernel
theorem dX5_endPlace_4 : decode cX5_endPlace 4 = .ok (.aload_n 0, 1) := by decide +kernel
theorem dX5_endPlace_5 : decode cX5_endPlace 5 = .ok (.getfield 29, 3) := by decide +kernel
theorem dX5_endPlace_8 : decode cX5_endPlace 8 = .ok (.invokevirtual 58, 3) := by decide +kernel
theorem dX5_endPlace_11 : decode cX5_endPlace 11 = .ok (.ireturn, 1) := by decide +kernel
theorem dX6_used_0 : decode cX6_used 0 = .ok (.aload_n 0, 1) := by decide +kernel
theorem dX6_used_1 : decode cX6_used 1 = .ok (.getfield 34, 3) := by decide +kernel
theorem dX6_used_4 : decode cX6_used 4 = .ok (.ireturn, 1) := by decide +kernel
theorem dX2_run_0 : decode cX2_run 0 = .ok (.aload_n 0, 1) := by decide +kernel
theorem dX2_run_1 : decode cX2_run 1 = .ok (.getfield 12, 3) := by decide +kernel
theorem dX2_run_4 : decode cX2_run 4 = .ok (.invokevirtual 44, 3) := by decide +kernel
theorem dX2_run_7 : decode cX2_run 7 = .ok (.aload_n 0, 1) := by decide +kernel
theorem dX2_run_8 : decode cX2_run 8 = .ok (.getfield 12, 3) := by decide +kernel
theorem dX2_run_11 : decode cX2_run 11 = .ok (.invokevirtual 20, 3) := by decide +kernel
theorem dX2_run_14 : decode cX2_run 14 = .ok (.aload_n 1, 1) := by decide +kernel
theorem dX2_run_15 : decode cX2_run 15 = .ok (.iconst 0, 1) := by decide +kernel
theorem dX2_run_16 : decode cX2_run 16 = .ok (.aload_n 1, 1) := by decide +kernel
theorem dX2_run_17 : decode cX2_run 17 = .ok (.invokevirtual 47, 3) := by decide +kernel
theorem dX2_run_20 : decode cX2_run 20 = .ok (.invokevirtual 53, 3) := by decide +kernel
theorem dX2_run_23 : decode cX2_run 23 = .ok (.aload_n 0, 1) := by decide +kernel
theorem dX2_run_24 : decode cX2_run 24 = .ok (.getfield 27, 3) := by decide +kernel
theorem dX2_run_27 : decode cX2_run 27 = .ok (.invokevirtual 57, 3) := by decide +kernel
theorem dX2_run_30 : decode cX2_run 30 = .ok (.aload_n 0, 1) := by decide +kernel
theorem dX2_run_31 : decode cX2_run 31 = .ok (.aload_n 0, 1) := by decide +kernel
theorem dX2_run_32 : decode cX2_run 32 = .ok (.getfield 36, 3) := by decide +kernel
theorem dX2_run_35 : decode cX2_run 35 = .ok (.invokevirtual 60, 3) := by decide +kernel
theorem dX2_run_38 : decode cX2_run 38 = .ok (.putfield 63, 3) := by decide +kernel
theorem dX2_run_41 : decode cX2_run 41 = .ok (.aload_n 0, 1) := by decide +kernel
theorem dX2_run_42 : decode cX2_run 42 = .ok (.aload_n 0, 1) := by decide +kernel
theorem dX2_run_43 : decode cX2_run 43 = .ok (.getfield 63, 3) := by decide +kernel
theorem dX2_run_46 : decode cX2_run 46 = .ok (.ifCond .ne 7, 3) := by decide +kernel
theorem dX2_run_49 : decode cX2_run 49 = .ok (.iconst (-1), 1) := by decide +kernel
theorem dX2_run_50 : decode cX2_run 50 = .ok (.goto 10, 3) := by decide +kernel
theorem dX2_run_53 : decode cX2_run 53 = .ok (.aload_n 0, 1) := by decide +kernel
theorem dX2_run_54 : decode cX2_run 54 = .ok (.getfield 36, 3) := by decide +kernel
theorem dX2_run_57 : decode cX2_run 57 = .ok (.invokevirtual 66, 3) := by decide +kernel
theorem dX2_run_60 : decode cX2_run 60 = .ok (.putfield 40, 3) := by decide +kernel
theorem dX2_run_63 : decode cX2_run 63 = .ok (.iconst 0, 1) := by decide +kernel
theorem dX2_run_64 : decode cX2_run 64 = .ok (.istore_n 2, 1) := by decide +kernel
theorem dX2_run_65 : decode cX2_run 65 = .ok (.iload_n 2, 1) := by decide +kernel
theorem dX2_run_66 : decode cX2_run 66 = .ok (.aload_n 0, 1) := by decide +kernel
theorem dX2_run_67 : decode cX2_run 67 = .ok (.getfield 12, 3) := by decide +kernel
theorem dX2_run_70 : decode cX2_run 70 = .ok (.invokevirtual 69, 3) := by decide +kernel
theorem dX2_run_73 : decode cX2_run 73 = .ok (.if_icmp .ge 29, 3) := by decide +kernel
theorem dX2_run_76 : decode cX2_run 76 = .ok (.aload_n 0, 1) := by decide +kernel
theorem dX2_run_77 : decode cX2_run 77 = .ok (.getfield 63, 3) := by decide +kernel
theorem dX2_run_80 : decode cX2_run 80 = .ok (.ifCond .ne 22, 3) := by decide +kernel
theorem dX2_run_83 : decode cX2_run 83 = .ok (.aload_n 0, 1) := by decide +kernel
theorem dX2_run_84 : decode cX2_run 84 = .ok (.aload_n 0, 1) := by decide +kernel
theorem dX2_run_85 : decode cX2_run 85 = .ok (.getfield 12, 3) := by decide +kernel
theorem dX2_run_88 : decode cX2_run 88 = .ok (.iload_n 2, 1) := by decide +kernel
theorem dX2_run_89 : decode cX2_run 89 = .ok (.invokevirtual 72, 3) := by decide +kernel
theorem dX2_run_92 : decode cX2_run 92 = .ok (.iload_n 2, 1) := by decide +kernel
theorem dX2_run_93 : decode cX2_run 93 = .ok (.invokevirtual 76, 3) := by decide +kernel
theorem dX2_run_96 : decode cX2_run 96 = .ok (.iinc 2 1, 3) := by decide +kernel
theorem dX2_run_99 : decode cX2_run 99 = .ok (.goto (-34), 3) := by decide +kernel
theorem dX2_run_102 : decode cX2_run 102 = .ok (.aload_n 0, 1) := by decide +kernel
theorem dX2_run_103 : decode cX2_run 103 = .ok (.getfield 63, 3) := by decide +kernel
theorem dX2_run_106 : decode cX2_run 106 = .ok (.ifCond .ne 20, 3) := by decide +kernel
theorem dX2_run_109 : decode cX2_run 109 = .ok (.aload_n 0, 1) := by decide +kernel
theorem dX2_run_110 : decode cX2_run 110 = .ok (.invokevirtual 80, 3) := by decide +kernel
theorem dX2_run_113 : decode cX2_run 113 = .ok (.ifCond .eq 13, 3) := by decide +kernel
theorem dX2_run_116 : decode cX2_run 116 = .ok (.aload_n 0, 1) := by decide +kernel
theorem dX2_run_117 : decode cX2_run 117 = .ok (.bipush 7, 2) := by decide +kernel
theorem dX2_run_119 : decode cX2_run 119 = .ok (.aload_n 1, 1) := by decide +kernel
theorem dX2_run_120 : decode cX2_run 120 = .ok (.invokevirtual 47, 3) := by decide +kernel
theorem dX2_run_123 : decode cX2_run 123 = .ok (.invokevirtual 84, 3) := by decide +kernel
theorem dX2_run_126 : decode cX2_run 126 = .ok (.aload_n 0, 1) := by decide +kernel
theorem dX2_run_127 : decode cX2_run 127 = .ok (.getfield 63, 3) := by decide +kernel
theorem dX2_run_130 : decode cX2_run 130 = .ok (.ifCond .eq 10, 3) := by decide +kernel
theorem dX2_run_133 : decode cX2_run 133 = .ok (.aload_n 0, 1) := by decide +kernel
theorem dX2_run_134 : decode cX2_run 134 = .ok (.getfield 12, 3) := by decide +kernel
theorem dX2_run_137 : decode cX2_run 137 = .ok (.invokevirtual 44, 3) := by decide +kernel
theorem dX2_run_140 : decode cX2_run 140 = .ok (.aload_n 0, 1) := by decide +kernel
theorem dX2_run_141 : decode cX2_run 141 = .ok (.getfield 63, 3) := by decide +kernel
theorem dX2_run_144 : decode cX2_run 144 = .ok (.ireturn, 1) := by decide +kernel
end
section
section MM5
variable {g : mm_G} {l : Launch} {own nm : String} {cc : ByteArray} {nL : Nat} {ret : Option FieldType} {hh : List ExceptionTableEntry} {d dc ds : Nat} {Q : mm_R → mm_S → Prop} {pc : Nat} {ls : List (Option Value)} {st : List Value} {M : Nat → mm_C} {n0 : Nat} {z : Bool} {uc us : Nat}
theorem mm_callV3 {y : MethodName} {bytes : ByteArray} {maxL n index dc' ds' a ci : Nat} {rt : Option FieldType} {fs as stk : List Value} {Qc : Option Value → mm_S → Prop} (hw : mm_W y bytes maxL rt n) (hml : Cond.methodLink own index y ∈ mm_ws) (him : Cond.instanceMethod y ∈ mm_ws) (hse : Cond.selects y.cls y y ∈ mm_ws) (hd : decode cc pc = .ok (.invokevirtual index, 3))
    (hM : mm_Cm g l y (.code y bytes maxL rt) d dc' ds' (.ref a :: as) (M, n0, z) Qc) (hm : M a = .inr (ci, fs)) (ha : a < n0) (hcl : (vwCl[ci]?).map (fun r => r.1) = some y.cls) (hn : as.length = n) (hstk : stk = as.reverse ++ .ref a :: st) (hsum : (st.map fun v => v.category).sum ≤ 8) (hu1 : uc + dc' ≤ dc) (hu2 : us + ds' ≤ ds)
    (kk : ∀ (v : Option Value) (S' : mm_S), Qc v S' → (S'.2.2 = false → z = false ∧ S'.2.1 = n0 + dc') ∧ mm_V g l own nm cc nL ret hh (d + 1) dc ds Q (pc + 3) ls (v.toList ++ st) S' (uc + dc') (us + ds')) : mm_V g l own nm cc nL ret hh (d + 1) dc ds Q pc ls stk (M, n0, z) uc us := mm_callV (S := (M, n0, z)) hw hml him hse hd hM hm ha hcl hn hstk hsum hu1 hu2 kk
theorem mm_callX3 {y : MethodName} {bytes : ByteArray} {maxL n index dc' ds' a ci : Nat} {rt : Option FieldType} {fs as stk : List Value} {Qc : mm_R → mm_S → Prop} (hw : mm_W y bytes maxL rt n) (hml : Cond.methodLink own index y ∈ mm_ws) (him : Cond.instanceMethod y ∈ mm_ws) (hse : Cond.selects y.cls y y ∈ mm_ws) (hd : decode cc pc = .ok (.invokevirtual index, 3))
    (hM : mm_Ct g l y (.code y bytes maxL rt) d dc' ds' (.ref a :: as) (M, n0, z) Qc) (hm : M a = .inr (ci, fs)) (ha : a < n0) (hcl : (vwCl[ci]?).map (fun r => r.1) = some y.cls) (hn : as.length = n) (hstk : stk = as.reverse ++ .ref a :: st) (hsum : (st.map fun v => v.category).sum ≤ 8) (hu1 : uc + dc' ≤ dc) (hu2 : us + ds' ≤ ds)
    (kk : ∀ (v : Option Value) (S' : mm_S), Qc (.inl v) S' → (S'.2.2 = false → z = false ∧ S'.2.1 = n0 + dc') ∧ mm_V g l own nm cc nL ret hh (d + 1) dc ds Q (pc + 3) ls (v.toList ++ st) S' (uc + dc') (us + ds'))
    (hnh : hh = []) (kx : ∀ (E : String) (S' : mm_S), Qc (.inr E) S' → Q (.inr E) S') : mm_V g l own nm cc nL ret hh (d + 1) dc ds Q pc ls stk (M, n0, z) uc us := mm_callX (S := (M, n0, z)) hw hml him hse hd hM hm ha hcl hn hstk hsum hu1 hu2 kk hnh kx
theorem mm_callH3 {y : MethodName} {bytes : ByteArray} {maxL n index dc' ds' a ci : Nat} {rt : Option FieldType} {fs as stk : List Value} {Qc : mm_R → mm_S → Prop} (hw : mm_W y bytes maxL rt n) (hml : Cond.methodLink own index y ∈ mm_ws) (him : Cond.instanceMethod y ∈ mm_ws) (hse : Cond.selects y.cls y y ∈ mm_ws) (hd : decode cc pc = .ok (.invokevirtual index, 3))
    (hM : mm_Ct g l y (.code y bytes maxL rt) d dc' ds' (.ref a :: as) (M, n0, z) Qc) (hm : M a = .inr (ci, fs)) (ha : a < n0) (hcl : (vwCl[ci]?).map (fun r => r.1) = some y.cls) (hn : as.length = n) (hstk : stk = as.reverse ++ .ref a :: st) (hsum : (st.map fun v => v.category).sum ≤ 8) (hu1 : uc + dc' ≤ dc) (hu2 : us + ds' ≤ ds)
    (kk : ∀ (v : Option Value) (S' : mm_S), Qc (.inl v) S' → (S'.2.2 = false → z = false ∧ S'.2.1 = n0 + dc') ∧ mm_V g l own nm cc nL ret hh (d + 1) dc ds Q (pc + 3) ls (v.toList ++ st) S' (uc + dc') (us + ds'))
    (kx : ∀ (E : String) (S' : mm_S), Qc (.inr E) S' → S'.2.2 = true ∧ ∃ hp i : Nat, mm_sw own E pc hp hh ∧ i < nL ∧ ((∃ k : Fin 4, (k : Nat) = i ∧ decode cc hp = .ok (.astore_n k, 1) ∧ mm_V g l own nm cc nL ret hh (d + 1) dc ds Q (hp + 1) (mm_er ls i) [] S' (uc + dc') (us + ds')) ∨ (decode cc hp = .ok (.astore i, 2) ∧ mm_V g l own nm cc nL ret hh (d + 1) dc ds Q (hp + 2) (mm_er ls i) [] S' (uc + dc') (us + ds')))) : mm_V g l own nm cc nL ret hh (d + 1) dc ds Q pc ls stk (M, n0, z) uc us := mm_callH (S := (M, n0, z)) hw hml him hse hd hM hm ha hcl hn hstk hsum hu1 hu2 kk kx
end MM5
end
section
set_option maxHeartbeats 4000000 in
set_option maxRecDepth 100000 in
theorem k3_X0_clear {g : mm_G} {l : Launch} (hst : l.stackTraces = false) {d : Nat} (M : Nat → mm_C) (h7 : M 7 = .inr (0, [.ref 8, .int 0, .int 0])) : mm_Cm g l yX0_clear (.code yX0_clear cX0_clear 1 none) d 0 0 [.ref 7] (M, 1186, false) (fun v S' => v = none ∧ S'.2 = (1186, false) ∧ S'.1 7 = .inr (0, [.ref 8, .int 0, .int 0]) ∧ ∀ j, j ≠ 7 → S'.1 j = M j) := by
  refine mm_Cm_of hst (by decide) (Nat.le_of_ble_eq_true rfl) ?_
  show mm_V g l RX0 "clear" cX0_clear 1 none [] d 0 0 _ 0 [some (.ref 7)] [] (M, 1186, false) 0 0
  refine mm_aload_n dX0_clear_0 rfl rfl ?_
  refine mm_iconst (v := 0) dX0_clear_1 (by decide) ?_
  refine mm_put3 (ci := 0) (fs1 := [.ref 8, .int 0, .int 0]) in_X0 tyX0_ok nmX0 rfl (k := 1) (by decide) rfl rfl kF_X0_19 dX0_clear_2 (mm_fit_int _) h7 (Nat.le_of_ble_eq_true rfl) (Nat.le_of_ble_eq_true rfl) rfl ?_
  refine mm_aload_n dX0_clear_5 rfl rfl ?_
  refine mm_iconst (v := 0) dX0_clear_6 (by decide) ?_
  refine mm_put3 (ci := 0) (fs1 := [.ref 8, .int 0, .int 0]) in_X0 tyX0_ok nmX0 rfl (k := 2) (by decide) rfl rfl kF_X0_23 dX0_clear_7 mm_fit_z0 mm_up_s (Nat.le_of_ble_eq_true rfl) (Nat.le_of_ble_eq_true rfl) rfl ?_
  refine mm_vret dX0_clear_10 rfl ?_ (by omega) (by omega)
  refine ⟨rfl, rfl, ?_⟩
  dsimp only
  exact ⟨mm_up_s, fun x e7 => mm_upN e7 (mm_upN e7 (rfl))⟩

set_option maxHeartbeats 4000000 in
set_option maxRecDepth 100000 in
theorem k2_X6_clear {g : mm_G} {l : Launch} (hst : l.stackTraces = false) {d : Nat} (M : Nat → mm_C) (h6 : M 6 = .inr (6, [.ref 7, .ref 9, .ref 190, .int 0, .int 0])) (h7 : M 7 = .inr (0, [.ref 8, .int 0, .int 0])) (h190 : M 190 = .inl (0, 5, .inl (fun _ => 0))) : mm_Cm g l yX6_clear (.code yX6_clear cX6_clear 2 none) (d + 1) 0 0 [.ref 6] (M, 1186, false) (fun v S' => v = none ∧ S'.2 = (1186, false) ∧ S'.1 7 = .inr (0, [.ref 8, .int 0, .int 0]) ∧ S'.1 6 = .inr (6, [.ref 7, .ref 9, .ref 190, .int 0, .int 0]) ∧ S'.1 190 = .inl (0, 5, .inl (upd (upd (upd (upd (upd (fun _ => 0) ((0 : Int32).toNatClampNeg) 0) ((1 : Int32).toNatClampNeg) 0) ((2 : Int32).toNatClampNeg) 0) ((3 : Int32).toNatClampNeg) 0) ((4 : Int32).toNatClampNeg) 0)) ∧ ∀ j, j ≠ 7 → j ≠ 6 → j ≠ 190 → S'.1 j = M j) := by
  refine mm_Cm_of hst (by decide) (Nat.le_of_ble_eq_true rfl) ?_
  show mm_V g l RX6 "clear" cX6_clear 2 none [] (d + 1) 0 0 _ 0 [some (.ref 6), none] [] (M, 1186, false) 0 0
  refine mm_aload_n dX6_clear_0 rfl rfl ?_
  refine mm_get3 (ci := 6) in_X6 rfl (k := 0) (by decide) rfl kF_X6_14 dX6_clear_1 h6 (Nat.le_of_ble_eq_true rfl) rfl ?_
  refine mm_callV3 (ci := 0) wM_X0_clear kM_X6_31 wI_X0_clear wS_X0_clear dX6_clear_4 (k3_X0_clear hst _ h7) h7 (Nat.le_of_ble_eq_true rfl) rfl rfl rfl (Nat.le_of_ble_eq_true rfl) (by omega) (by omega) (fun v S9 hq => ?_)
  obtain ⟨M4, z4⟩ := S9
  obtain ⟨rfl, hz4, g4_7, g4_F⟩ := hq
  cases hz4
  refine ⟨fun h => ⟨h, rfl⟩, ?_⟩
  refine mm_aload_n dX6_clear_7 rfl rfl ?_
  refine mm_iconst (v := 0) dX6_clear_8 (by decide) ?_
  refine mm_put3 (ci := 6) (fs1 := [.ref 7, .ref 9, .ref 190, .int 0, .int 0]) in_X6 tyX6_ok nmX6 rfl (k := 3) (by decide) rfl rfl kF_X6_34 dX6_clear_9 (mm_fit_int _) (mm_frN (g4_F _ (by decide)) h6) (Nat.le_of_ble_eq_true rfl) (Nat.le_of_ble_eq_true rfl) rfl ?_
  refine mm_aload_n dX6_clear_12 rfl rfl ?_
  refine mm_iconst (v := 0) dX6_clear_13 (by decide) ?_
  refine mm_put3 (ci := 6) (fs1 := [.ref 7, .ref 9, .ref 190, .int 0, .int 0]) in_X6 tyX6_ok nmX6 rfl (k := 4) (by decide) rfl rfl kF_X6_38 dX6_clear_14 (mm_fit_int _) mm_up_s (Nat.le_of_ble_eq_true rfl) (Nat.le_of_ble_eq_true rfl) rfl ?_
  refine mm_iconst (v := 0) dX6_clear_17 (by decide) ?_
  refine mm_istore_n [some (.ref 6), some (.int 0)] dX6_clear_18 (by decide) rfl ?_
  refine mm_iload_n dX6_clear_19 rfl ?_
  refine mm_aload_n dX6_clear_20 rfl rfl ?_
  refine mm_get3 (ci := 6) in_X6 rfl (k := 2) (by decide) rfl kF_X6_27 dX6_clear_21 mm_up_s (Nat.le_of_ble_eq_true rfl) rfl ?_
  refine mm_alen3 (v := 5) (fun _ => rfl) (mm_upN (by decide) (mm_upN (by decide) (mm_frN (g4_F _ (by decide)) h190))) (Nat.le_of_ble_eq_true rfl) rfl dX6_clear_24 ?_
  refine mm_icmp_ge 41 dX6_clear_25 (by decide) (fun h => absurd h (by decide)) (fun _ => ?_)
  refine mm_aload_n dX6_clear_28 rfl rfl ?_
  refine mm_get3 (ci := 6) in_X6 rfl (k := 2) (by decide) rfl kF_X6_27 dX6_clear_29 mm_up_s (Nat.le_of_ble_eq_true rfl) rfl ?_
  refine mm_iload_n dX6_clear_32 rfl ?_
  refine mm_iconst (v := 0) dX6_clear_33 (by decide) ?_
  refine mm_iast3 (mm_upN (by decide) (mm_upN (by decide) (mm_frN (g4_F _ (by decide)) h190))) (Nat.le_of_ble_eq_true rfl) (by unfold vp_in; decide) dX6_clear_34 ?_
  refine mm_iinc (v := 1) [some (.ref 6), some (.int 1)] dX6_clear_35 rfl (by decide) (by decide) rfl ?_
  refine mm_goto 19 dX6_clear_38 (by decide) ?_
  refine mm_iload_n dX6_clear_19 rfl ?_
  refine mm_aload_n dX6_clear_20 rfl rfl ?_
  refine mm_get3 (ci := 6) in_X6 rfl (k := 2) (by decide) rfl kF_X6_27 dX6_clear_21 (mm_upN (by decide) mm_up_s) (Nat.le_of_ble_eq_true rfl) rfl ?_
  refine mm_alen3 (v := 5) (fun _ => rfl) mm_up_s (Nat.le_of_ble_eq_true rfl) rfl dX6_clear_24 ?_
  refine mm_icmp_ge 41 dX6_clear_25 (by decide) (fun h => absurd h (by decide)) (fun _ => ?_)
  refine mm_aload_n dX6_clear_28 rfl rfl ?_
  refine mm_get3 (ci := 6) in_X6 rfl (k := 2) (by decide) rfl kF_X6_27 dX6_clear_29 (mm_upN (by decide) mm_up_s) (Nat.le_of_ble_eq_true rfl) rfl ?_
  refine mm_iload_n dX6_clear_32 rfl ?_
  refine mm_iconst (v := 0) dX6_clear_33 (by decide) ?_
  refine mm_iast3 mm_up_s (Nat.le_of_ble_eq_true rfl) (by unfold vp_in; decide) dX6_clear_34 ?_
  refine mm_iinc (v := 2) [some (.ref 6), some (.int 2)] dX6_clear_35 rfl (by decide) (by decide) rfl ?_
  refine mm_goto 19 dX6_clear_38 (by decide) ?_
  refine mm_iload_n dX6_clear_19 rfl ?_
  refine mm_aload_n dX6_clear_20 rfl rfl ?_
  refine mm_get3 (ci := 6) in_X6 rfl (k := 2) (by decide) rfl kF_X6_27 dX6_clear_21 (mm_upN (by decide) (mm_upN (by decide) mm_up_s)) (Nat.le_of_ble_eq_true rfl) rfl ?_
  refine mm_alen3 (v := 5) (fun _ => rfl) mm_up_s (Nat.le_of_ble_eq_true rfl) rfl dX6_clear_24 ?_
  refine mm_icmp_ge 41 dX6_clear_25 (by decide) (fun h => absurd h (by decide)) (fun _ => ?_)
  refine mm_aload_n dX6_clear_28 rfl rfl ?_
  refine mm_get3 (ci := 6) in_X6 rfl (k := 2) (by decide) rfl kF_X6_27 dX6_clear_29 (mm_upN (by decide) (mm_upN (by decide) mm_up_s)) (Nat.le_of_ble_eq_true rfl) rfl ?_
  refine mm_iload_n dX6_clear_32 rfl ?_
  refine mm_iconst (v := 0) dX6_clear_33 (by decide) ?_
  refine mm_iast3 mm_up_s (Nat.le_of_ble_eq_true rfl) (by unfold vp_in; decide) dX6_clear_34 ?_
  refine mm_iinc (v := 3) [some (.ref 6), some (.int 3)] dX6_clear_35 rfl (by decide) (by decide) rfl ?_
  refine mm_goto 19 dX6_clear_38 (by decide) ?_
  refine mm_iload_n dX6_clear_19 rfl ?_
  refine mm_aload_n dX6_clear_20 rfl rfl ?_
  refine mm_get3 (ci := 6) in_X6 rfl (k := 2) (by decide) rfl kF_X6_27 dX6_clear_21 (mm_upN (by decide) (mm_upN (by decide) (mm_upN (by decide) mm_up_s))) (Nat.le_of_ble_eq_true rfl) rfl ?_
  refine mm_alen3 (v := 5) (fun _ => rfl) mm_up_s (Nat.le_of_ble_eq_true rfl) rfl dX6_clear_24 ?_
  refine mm_icmp_ge 41 dX6_clear_25 (by decide) (fun h => absurd h (by decide)) (fun _ => ?_)
  refine mm_aload_n dX6_clear_28 rfl rfl ?_
  refine mm_get3 (ci := 6) in_X6 rfl (k := 2) (by decide) rfl kF_X6_27 dX6_clear_29 (mm_upN (by decide) (mm_upN (by decide) (mm_upN (by decide) mm_up_s))) (Nat.le_of_ble_eq_true rfl) rfl ?_
  refine mm_iload_n dX6_clear_32 rfl ?_
  refine mm_iconst (v := 0) dX6_clear_33 (by decide) ?_
  refine mm_iast3 mm_up_s (Nat.le_of_ble_eq_true rfl) (by unfold vp_in; decide) dX6_clear_34 ?_
  refine mm_iinc (v := 4) [some (.ref 6), some (.int 4)] dX6_clear_35 rfl (by decide) (by decide) rfl ?_
  refine mm_goto 19 dX6_clear_38 (by decide) ?_
  refine mm_iload_n dX6_clear_19 rfl ?_
  refine mm_aload_n dX6_clear_20 rfl rfl ?_
  refine mm_get3 (ci := 6) in_X6 rfl (k := 2) (by decide) rfl kF_X6_27 dX6_clear_21 (mm_upN (by decide) (mm_upN (by decide) (mm_upN (by decide) (mm_upN (by decide) mm_up_s)))) (Nat.le_of_ble_eq_true rfl) rfl ?_
  refine mm_alen3 (v := 5) (fun _ => rfl) mm_up_s (Nat.le_of_ble_eq_true rfl) rfl dX6_clear_24 ?_
  refine mm_icmp_ge 41 dX6_clear_25 (by decide) (fun h => absurd h (by decide)) (fun _ => ?_)
  refine mm_aload_n dX6_clear_28 rfl rfl ?_
  refine mm_get3 (ci := 6) in_X6 rfl (k := 2) (by decide) rfl kF_X6_27 dX6_clear_29 (mm_upN (by decide) (mm_upN (by decide) (mm_upN (by decide) (mm_upN (by decide) mm_up_s)))) (Nat.le_of_ble_eq_true rfl) rfl ?_
  refine mm_iload_n dX6_clear_32 rfl ?_
  refine mm_iconst (v := 0) dX6_clear_33 (by decide) ?_
  refine mm_iast3 mm_up_s (Nat.le_of_ble_eq_true rfl) (by unfold vp_in; decide) dX6_clear_34 ?_
  refine mm_iinc (v := 5) [some (.ref 6), some (.int 5)] dX6_clear_35 rfl (by decide) (by decide) rfl ?_
  refine mm_goto 19 dX6_clear_38 (by decide) ?_
  refine mm_iload_n dX6_clear_19 rfl ?_
  refine mm_aload_n dX6_clear_20 rfl rfl ?_
  refine mm_get3 (ci := 6) in_X6 rfl (k := 2) (by decide) rfl kF_X6_27 dX6_clear_21 (mm_upN (by decide) (mm_upN (by decide) (mm_upN (by decide) (mm_upN (by decide) (mm_upN (by decide) mm_up_s))))) (Nat.le_of_ble_eq_true rfl) rfl ?_
  refine mm_alen3 (v := 5) (fun _ => rfl) mm_up_s (Nat.le_of_ble_eq_true rfl) rfl dX6_clear_24 ?_
  refine mm_icmp_ge 41 dX6_clear_25 (by decide) (fun _ => ?_) (fun h => absurd (by decide) h)
  refine mm_vret dX6_clear_41 rfl ?_ (by omega) (by omega)
  refine ⟨rfl, rfl, ?_⟩
  dsimp only
  exact ⟨(mm_upN (by decide) (mm_upN (by decide) (mm_upN (by decide) (mm_upN (by decide) (mm_upN (by decide) (mm_upN (by decide) (mm_upN (by decide) g4_7))))))), (mm_upN (by decide) (mm_upN (by decide) (mm_upN (by decide) (mm_upN (by decide) (mm_upN (by decide) mm_up_s))))), mm_up_s, fun x e7 e6 e190 => mm_upN e190 (mm_upN e190 (mm_upN e190 (mm_upN e190 (mm_upN e190 (mm_upN e6 (mm_upN e6 (mm_frN (g4_F _ e7 ) (rfl))))))))⟩

set_option maxHeartbeats 4000000 in
set_option maxRecDepth 100000 in
theorem k6_X6_text {g : mm_G} {l : Launch} (hst : l.stackTraces = false) {d : Nat} (M : Nat → mm_C) (h6 : M 6 = .inr (6, [.ref 7, .ref 9, .ref 190, .int 0, .int 0])) : mm_Cm g l yX6_text (.code yX6_text cX6_text 1 (some (.object "ProtoDesk$Bytes"))) d 0 0 [.ref 6] (M, 1186, false) (fun v S' => v = some (.ref 7) ∧ S' = (M, 1186, false)) := by
  refine mm_Cm_of hst (by decide) (Nat.le_of_ble_eq_true rfl) ?_
  show mm_V g l RX6 "text" cX6_text 1 (some (.object "ProtoDesk$Bytes")) [] d 0 0 _ 0 [some (.ref 6)] [] (M, 1186, false) 0 0
  refine mm_aload_n dX6_text_0 rfl rfl ?_
  refine mm_get3 (ci := 6) in_X6 rfl (k := 0) (by decide) rfl kF_X6_14 dX6_text_1 h6 (Nat.le_of_ble_eq_true rfl) rfl ?_
  refine mm_aret (a := some 7) dX6_text_4 rfl ?_ (by omega) (by omega)
  exact ⟨rfl, rfl⟩

set_option maxHeartbeats 4000000 in
set_option maxRecDepth 100000 in
theorem k8_X0_size {g : mm_G} {l : Launch} (hst : l.stackTraces = false) {d : Nat} (M : Nat → mm_C) (h1 : M 1 = .inr (0, [.ref 2, .int 0, .int 0])) : mm_Cm g l yX0_size (.code yX0_size cX0_size 1 (some .int)) d 0 0 [.ref 1] (M, 1186, false) (fun v S' => v = some (.int 0) ∧ S' = (M, 1186, false)) := by
  refine mm_Cm_of hst (by decide) (Nat.le_of_ble_eq_true rfl) ?_
  show mm_V g l RX0 "size" cX0_size 1 (some .int) [] d 0 0 _ 0 [some (.ref 1)] [] (M, 1186, false) 0 0
  refine mm_aload_n dX0_size_0 rfl rfl ?_
  refine mm_get3 (ci := 0) in_X0 rfl (k := 1) (by decide) rfl kF_X0_19 dX0_size_1 h1 (Nat.le_of_ble_eq_true rfl) rfl ?_
  refine mm_iret dX0_size_4 rfl rfl ?_ (by omega) (by omega)
  exact ⟨rfl, rfl⟩

set_option maxHeartbeats 4000000 in
set_option maxRecDepth 100000 in
theorem k10_X0_addAll {g : mm_G} {l : Launch} (hst : l.stackTraces = false) {d : Nat} (M : Nat → mm_C) : mm_Cm g l yX0_addAll (.code yX0_addAll cX0_addAll 5 none) d 0 0 [.ref 7, .ref 1, .int 0, .int 0] (M, 1186, false) (fun v S' => v = none ∧ S' = (M, 1186, false)) := by
  refine mm_Cm_of hst (by decide) (Nat.le_of_ble_eq_true rfl) ?_
  show mm_V g l RX0 "addAll" cX0_addAll 5 none [] d 0 0 _ 0 [some (.ref 7), some (.ref 1), some (.int 0), some (.int 0), none] [] (M, 1186, false) 0 0
  refine mm_iload_n dX0_addAll_0 rfl ?_
  refine mm_istore [some (.ref 7), some (.ref 1), some (.int 0), some (.int 0), some (.int 0)] dX0_addAll_1 (by decide) rfl ?_
  refine mm_iload dX0_addAll_3 rfl ?_
  refine mm_iload_n dX0_addAll_5 rfl ?_
  refine mm_icmp_ge 25 dX0_addAll_6 (by decide) (fun _ => ?_) (fun h => absurd (by decide) h)
  refine mm_vret dX0_addAll_25 rfl ?_ (by omega) (by omega)
  exact ⟨rfl, rfl⟩

set_option maxHeartbeats 4000000 in
set_option maxRecDepth 100000 in
theorem k13_X0_size {g : mm_G} {l : Launch} (hst : l.stackTraces = false) {d : Nat} (M : Nat → mm_C) (h7 : M 7 = .inr (0, [.ref 8, .int 0, .int 0])) : mm_Cm g l yX0_size (.code yX0_size cX0_size 1 (some .int)) d 0 0 [.ref 7] (M, 1186, false) (fun v S' => v = some (.int 0) ∧ S' = (M, 1186, false)) := by
  refine mm_Cm_of hst (by decide) (Nat.le_of_ble_eq_true rfl) ?_
  show mm_V g l RX0 "size" cX0_size 1 (some .int) [] d 0 0 _ 0 [some (.ref 7)] [] (M, 1186, false) 0 0
  refine mm_aload_n dX0_size_0 rfl rfl ?_
  refine mm_get3 (ci := 0) in_X0 rfl (k := 1) (by decide) rfl kF_X0_19 dX0_size_1 h7 (Nat.le_of_ble_eq_true rfl) rfl ?_
  refine mm_iret dX0_size_4 rfl rfl ?_ (by omega) (by omega)
  exact ⟨rfl, rfl⟩

set_option maxHeartbeats 4000000 in
set_option maxRecDepth 100000 in
theorem k15_X10_behindBlanks {g : mm_G} {l : Launch} (hst : l.stackTraces = false) {d : Nat} (M : Nat → mm_C) (h191 : M 191 = .inr (10, [.ref 7, .ref 192, .ref 193, .ref 194, .ref 195, .int 0, .int 0, .int 0])) : mm_Cm g l yX10_behindBlanks (.code yX10_behindBlanks cX10_behindBlanks 5 (some .int)) d 0 0 [.ref 191, .int 0] (M, 1186, false) (fun v S' => v = some (.int 0) ∧ S' = (M, 1186, false)) := by
  refine mm_Cm_of hst (by decide) (Nat.le_of_ble_eq_true rfl) ?_
  show mm_V g l RX10 "behindBlanks" cX10_behindBlanks 5 (some .int) [] d 0 0 _ 0 [some (.ref 191), some (.int 0), none, none, none] [] (M, 1186, false) 0 0
  refine mm_iload_n dX10_behindBlanks_0 rfl ?_
  refine mm_istore_n [some (.ref 191), some (.int 0), some (.int 0), none, none] dX10_behindBlanks_1 (by decide) rfl ?_
  refine mm_iload_n dX10_behindBlanks_2 rfl ?_
  refine mm_aload_n dX10_behindBlanks_3 rfl rfl ?_
  refine mm_get3 (ci := 10) in_X10 rfl (k := 6) (by decide) rfl kF_X10_33 dX10_behindBlanks_4 h191 (Nat.le_of_ble_eq_true rfl) rfl ?_
  refine mm_icmp_ge 92 dX10_behindBlanks_7 (by decide) (fun _ => ?_) (fun h => absurd (by decide) h)
  refine mm_aload_n dX10_behindBlanks_92 rfl rfl ?_
  refine mm_get3 (ci := 10) in_X10 rfl (k := 6) (by decide) rfl kF_X10_33 dX10_behindBlanks_93 h191 (Nat.le_of_ble_eq_true rfl) rfl ?_
  refine mm_iret dX10_behindBlanks_96 rfl rfl ?_ (by omega) (by omega)
  exact ⟨rfl, rfl⟩

set_option maxHeartbeats 4000000 in
set_option maxRecDepth 100000 in
theorem k18_X0_at {g : mm_G} {l : Launch} (hst : l.stackTraces = false) {d : Nat} (M : Nat → mm_C) (h7 : M 7 = .inr (0, [.ref 8, .int 0, .int 0])) : mm_Cm g l yX0_at (.code yX0_at cX0_at 2 (some .int)) d 0 0 [.ref 7, .int 0] (M, 1186, false) (fun v S' => v = some (.int (-1)) ∧ S' = (M, 1186, false)) := by
  refine mm_Cm_of hst (by decide) (Nat.le_of_ble_eq_true rfl) ?_
  show mm_V g l RX0 "at" cX0_at 2 (some .int) [] d 0 0 _ 0 [some (.ref 7), some (.int 0)] [] (M, 1186, false) 0 0
  refine mm_iload_n dX0_at_0 rfl ?_
  refine mm_if_lt 34 dX0_at_1 (by decide) (fun h => absurd h (by decide)) (fun _ => ?_)
  refine mm_iload_n dX0_at_4 rfl ?_
  refine mm_aload_n dX0_at_5 rfl rfl ?_
  refine mm_get3 (ci := 0) in_X0 rfl (k := 1) (by decide) rfl kF_X0_19 dX0_at_6 h7 (Nat.le_of_ble_eq_true rfl) rfl ?_
  refine mm_icmp_ge 34 dX0_at_9 (by decide) (fun _ => ?_) (fun h => absurd (by decide) h)
  refine mm_iconst (v := (-1)) dX0_at_34 (by decide) ?_
  refine mm_iret dX0_at_35 rfl rfl ?_ (by omega) (by omega)
  exact ⟨rfl, rfl⟩

set_option maxHeartbeats 4000000 in
set_option maxRecDepth 100000 in
theorem k20_X10_push {g : mm_G} {l : Launch} (hst : l.stackTraces = false) {d : Nat} (M : Nat → mm_C) (h191 : M 191 = .inr (10, [.ref 7, .ref 192, .ref 193, .ref 194, .ref 195, .int 0, .int 0, .int 0])) (h192 : M 192 = .inl (0, 701, .inl (fun _ => 0))) (h193 : M 193 = .inl (0, 701, .inl (fun _ => 0))) (h194 : M 194 = .inl (0, 701, .inl (fun _ => 0))) (h195 : M 195 = .inl (1, 701, .inr (.inl (fun _ => 0)))) : mm_Cm g l yX10_push (.code yX10_push cX10_push 6 (some .int)) d 0 0 [.ref 191, .int 0, .int 0, .int 0, .long (-1)] (M, 1186, false) (fun v S' => v = some (.int 0) ∧ S'.2 = (1186, false) ∧ S'.1 192 = .inl (0, 701, .inl (upd (fun _ => 0) ((0 : Int32).toNatClampNeg) 0)) ∧ S'.1 193 = .inl (0, 701, .inl (upd (fun _ => 0) ((0 : Int32).toNatClampNeg) 0)) ∧ S'.1 194 = .inl (0, 701, .inl (upd (fun _ => 0) ((0 : Int32).toNatClampNeg) 0)) ∧ S'.1 195 = .inl (1, 701, .inr (.inl (vp_updL (fun _ => 0) ((0 : Int32).toNatClampNeg) (-1)))) ∧ S'.1 191 = .inr (10, [.ref 7, .ref 192, .ref 193, .ref 194, .ref 195, .int (0 + 1), .int 0, .int 0]) ∧ ∀ j, j ≠ 192 → j ≠ 193 → j ≠ 194 → j ≠ 195 → j ≠ 191 → S'.1 j = M j) := by
  refine mm_Cm_of hst (by decide) (Nat.le_of_ble_eq_true rfl) ?_
  show mm_V g l RX10 "push" cX10_push 6 (some .int) [] d 0 0 _ 0 [some (.ref 191), some (.int 0), some (.int 0), some (.int 0), some (.long (-1)), none] [] (M, 1186, false) 0 0
  refine mm_aload_n dX10_push_0 rfl rfl ?_
  refine mm_get3 (ci := 10) in_X10 rfl (k := 5) (by decide) rfl kF_X10_29 dX10_push_1 h191 (Nat.le_of_ble_eq_true rfl) rfl ?_
  refine mm_if_lt 55 dX10_push_4 (by decide) (fun h => absurd h (by decide)) (fun _ => ?_)
  refine mm_aload_n dX10_push_7 rfl rfl ?_
  refine mm_get3 (ci := 10) in_X10 rfl (k := 5) (by decide) rfl kF_X10_29 dX10_push_8 h191 (Nat.le_of_ble_eq_true rfl) rfl ?_
  refine mm_aload_n dX10_push_11 rfl rfl ?_
  refine mm_get3 (ci := 10) in_X10 rfl (k := 1) (by decide) rfl kF_X10_15 dX10_push_12 h191 (Nat.le_of_ble_eq_true rfl) rfl ?_
  refine mm_alen3 (v := 701) (fun _ => rfl) h192 (Nat.le_of_ble_eq_true rfl) rfl dX10_push_15 ?_
  refine mm_icmp_ge 55 dX10_push_16 (by decide) (fun h => absurd h (by decide)) (fun _ => ?_)
  refine mm_aload_n dX10_push_19 rfl rfl ?_
  refine mm_get3 (ci := 10) in_X10 rfl (k := 5) (by decide) rfl kF_X10_29 dX10_push_20 h191 (Nat.le_of_ble_eq_true rfl) rfl ?_
  refine mm_aload_n dX10_push_23 rfl rfl ?_
  refine mm_get3 (ci := 10) in_X10 rfl (k := 2) (by decide) rfl kF_X10_19 dX10_push_24 h191 (Nat.le_of_ble_eq_true rfl) rfl ?_
  refine mm_alen3 (v := 701) (fun _ => rfl) h193 (Nat.le_of_ble_eq_true rfl) rfl dX10_push_27 ?_
  refine mm_icmp_ge 55 dX10_push_28 (by decide) (fun h => absurd h (by decide)) (fun _ => ?_)
  refine mm_aload_n dX10_push_31 rfl rfl ?_
  refine mm_get3 (ci := 10) in_X10 rfl (k := 5) (by decide) rfl kF_X10_29 dX10_push_32 h191 (Nat.le_of_ble_eq_true rfl) rfl ?_
  refine mm_aload_n dX10_push_35 rfl rfl ?_
  refine mm_get3 (ci := 10) in_X10 rfl (k := 3) (by decide) rfl kF_X10_22 dX10_push_36 h191 (Nat.le_of_ble_eq_true rfl) rfl ?_
  refine mm_alen3 (v := 701) (fun _ => rfl) h194 (Nat.le_of_ble_eq_true rfl) rfl dX10_push_39 ?_
  refine mm_icmp_ge 55 dX10_push_40 (by decide) (fun h => absurd h (by decide)) (fun _ => ?_)
  refine mm_aload_n dX10_push_43 rfl rfl ?_
  refine mm_get3 (ci := 10) in_X10 rfl (k := 5) (by decide) rfl kF_X10_29 dX10_push_44 h191 (Nat.le_of_ble_eq_true rfl) rfl ?_
  refine mm_aload_n dX10_push_47 rfl rfl ?_
  refine mm_get3 (ci := 10) in_X10 rfl (k := 4) (by decide) rfl kF_X10_25 dX10_push_48 h191 (Nat.le_of_ble_eq_true rfl) rfl ?_
  refine mm_alen3 (v := 701) (fun _ => rfl) h195 (Nat.le_of_ble_eq_true rfl) rfl dX10_push_51 ?_
  refine mm_icmp_lt 57 dX10_push_52 (by decide) (fun _ => ?_) (fun h => absurd (by decide) h)
  refine mm_aload_n dX10_push_57 rfl rfl ?_
  refine mm_get3 (ci := 10) in_X10 rfl (k := 1) (by decide) rfl kF_X10_15 dX10_push_58 h191 (Nat.le_of_ble_eq_true rfl) rfl ?_
  refine mm_aload_n dX10_push_61 rfl rfl ?_
  refine mm_get3 (ci := 10) in_X10 rfl (k := 5) (by decide) rfl kF_X10_29 dX10_push_62 h191 (Nat.le_of_ble_eq_true rfl) rfl ?_
  refine mm_iload_n dX10_push_65 rfl ?_
  refine mm_iast3 h192 (Nat.le_of_ble_eq_true rfl) (by unfold vp_in; decide) dX10_push_66 ?_
  refine mm_aload_n dX10_push_67 rfl rfl ?_
  refine mm_get3 (ci := 10) in_X10 rfl (k := 2) (by decide) rfl kF_X10_19 dX10_push_68 (mm_upN (by decide) h191) (Nat.le_of_ble_eq_true rfl) rfl ?_
  refine mm_aload_n dX10_push_71 rfl rfl ?_
  refine mm_get3 (ci := 10) in_X10 rfl (k := 5) (by decide) rfl kF_X10_29 dX10_push_72 (mm_upN (by decide) h191) (Nat.le_of_ble_eq_true rfl) rfl ?_
  refine mm_iload_n dX10_push_75 rfl ?_
  refine mm_iast3 (mm_upN (by decide) h193) (Nat.le_of_ble_eq_true rfl) (by unfold vp_in; decide) dX10_push_76 ?_
  refine mm_aload_n dX10_push_77 rfl rfl ?_
  refine mm_get3 (ci := 10) in_X10 rfl (k := 3) (by decide) rfl kF_X10_22 dX10_push_78 (mm_upN (by decide) (mm_upN (by decide) h191)) (Nat.le_of_ble_eq_true rfl) rfl ?_
  refine mm_aload_n dX10_push_81 rfl rfl ?_
  refine mm_get3 (ci := 10) in_X10 rfl (k := 5) (by decide) rfl kF_X10_29 dX10_push_82 (mm_upN (by decide) (mm_upN (by decide) h191)) (Nat.le_of_ble_eq_true rfl) rfl ?_
  refine mm_iload_n dX10_push_85 rfl ?_
  refine mm_iast3 (mm_upN (by decide) (mm_upN (by decide) h194)) (Nat.le_of_ble_eq_true rfl) (by unfold vp_in; decide) dX10_push_86 ?_
  refine mm_aload_n dX10_push_87 rfl rfl ?_
  refine mm_get3 (ci := 10) in_X10 rfl (k := 4) (by decide) rfl kF_X10_25 dX10_push_88 (mm_upN (by decide) (mm_upN (by decide) (mm_upN (by decide) h191))) (Nat.le_of_ble_eq_true rfl) rfl ?_
  refine mm_aload_n dX10_push_91 rfl rfl ?_
  refine mm_get3 (ci := 10) in_X10 rfl (k := 5) (by decide) rfl kF_X10_29 dX10_push_92 (mm_upN (by decide) (mm_upN (by decide) (mm_upN (by decide) h191))) (Nat.le_of_ble_eq_true rfl) rfl ?_
  refine mm_lload dX10_push_95 rfl ?_
  refine mm_last3 (mm_upN (by decide) (mm_upN (by decide) (mm_upN (by decide) h195))) (Nat.le_of_ble_eq_true rfl) (by unfold vp_in; decide) dX10_push_97 ?_
  refine mm_aload_n dX10_push_98 rfl rfl ?_
  refine mm_dup dX10_push_99 rfl ?_
  refine mm_get3 (ci := 10) in_X10 rfl (k := 5) (by decide) rfl kF_X10_29 dX10_push_100 (mm_upN (by decide) (mm_upN (by decide) (mm_upN (by decide) (mm_upN (by decide) h191)))) (Nat.le_of_ble_eq_true rfl) rfl ?_
  refine mm_iconst (v := 1) dX10_push_103 (by decide) ?_
  refine mm_iadd dX10_push_104 ?_
  refine mm_put3 (ci := 10) (fs1 := [.ref 7, .ref 192, .ref 193, .ref 194, .ref 195, .int (0 + 1), .int 0, .int 0]) in_X10 tyX10_ok nmX10 rfl (k := 5) (by decide) rfl rfl kF_X10_29 dX10_push_105 (mm_fit_int _) (mm_upN (by decide) (mm_upN (by decide) (mm_upN (by decide) (mm_upN (by decide) h191)))) (Nat.le_of_ble_eq_true rfl) (Nat.le_of_ble_eq_true rfl) rfl ?_
  refine mm_iload_n dX10_push_108 rfl ?_
  refine mm_iconst (v := 5) dX10_push_109 (by decide) ?_
  refine mm_icmp_ne 117 dX10_push_110 (by decide) (fun _ => ?_) (fun h => absurd h (by decide))
  refine mm_iload_n dX10_push_117 rfl ?_
  refine mm_iret dX10_push_118 rfl rfl ?_ (by omega) (by omega)
  refine ⟨rfl, rfl, ?_⟩
  dsimp only
  exact ⟨(mm_upN (by decide) (mm_upN (by decide) (mm_upN (by decide) (mm_upN (by decide) mm_up_s)))), (mm_upN (by decide) (mm_upN (by decide) (mm_upN (by decide) mm_up_s))), (mm_upN (by decide) (mm_upN (by decide) mm_up_s)), (mm_upN (by decide) mm_up_s), mm_up_s, fun x e192 e193 e194 e195 e191 => mm_upN e191 (mm_upN e195 (mm_upN e194 (mm_upN e193 (mm_upN e192 (rfl)))))⟩

set_option maxHeartbeats 4000000 in
set_option maxRecDepth 100000 in
theorem k17_X10_addWord {g : mm_G} {l : Launch} (hst : l.stackTraces = false) {d : Nat} (M : Nat → mm_C) (h7 : M 7 = .inr (0, [.ref 8, .int 0, .int 0])) (h191 : M 191 = .inr (10, [.ref 7, .ref 192, .ref 193, .ref 194, .ref 195, .int 0, .int 0, .int 0])) (h192 : M 192 = .inl (0, 701, .inl (fun _ => 0))) (h193 : M 193 = .inl (0, 701, .inl (fun _ => 0))) (h194 : M 194 = .inl (0, 701, .inl (fun _ => 0))) (h195 : M 195 = .inl (1, 701, .inr (.inl (fun _ => 0)))) : mm_Cm g l yX10_addWord (.code yX10_addWord cX10_addWord 4 (some .int)) (d + 1) 0 0 [.ref 191, .int 0] (M, 1186, false) (fun v S' => v = some (.int 0) ∧ S'.2 = (1186, false) ∧ S'.1 192 = .inl (0, 701, .inl (upd (fun _ => 0) ((0 : Int32).toNatClampNeg) 0)) ∧ S'.1 193 = .inl (0, 701, .inl (upd (fun _ => 0) ((0 : Int32).toNatClampNeg) 0)) ∧ S'.1 194 = .inl (0, 701, .inl (upd (fun _ => 0) ((0 : Int32).toNatClampNeg) 0)) ∧ S'.1 195 = .inl (1, 701, .inr (.inl (vp_updL (fun _ => 0) ((0 : Int32).toNatClampNeg) (-1)))) ∧ S'.1 191 = .inr (10, [.ref 7, .ref 192, .ref 193, .ref 194, .ref 195, .int (0 + 1), .int 0, .int 0]) ∧ ∀ j, j ≠ 192 → j ≠ 193 → j ≠ 194 → j ≠ 195 → j ≠ 191 → S'.1 j = M j) := by
  refine mm_Cm_of hst (by decide) (Nat.le_of_ble_eq_true rfl) ?_
  show mm_V g l RX10 "addWord" cX10_addWord 4 (some .int) [] (d + 1) 0 0 _ 0 [some (.ref 191), some (.int 0), none, none] [] (M, 1186, false) 0 0
  refine mm_aload_n dX10_addWord_0 rfl rfl ?_
  refine mm_get3 (ci := 10) in_X10 rfl (k := 0) (by decide) rfl kF_X10_9 dX10_addWord_1 h191 (Nat.le_of_ble_eq_true rfl) rfl ?_
  refine mm_iload_n dX10_addWord_4 rfl ?_
  refine mm_callV3 (ci := 0) wM_X0_at kM_X10_55 wI_X0_at wS_X0_at dX10_addWord_5 (k18_X0_at hst _ h7) h7 (Nat.le_of_ble_eq_true rfl) rfl rfl rfl (Nat.le_of_ble_eq_true rfl) (by omega) (by omega) (fun v S9 hq => ?_)
  obtain ⟨rfl, rfl⟩ := hq
  refine ⟨fun h => ⟨h, rfl⟩, ?_⟩
  refine mm_istore_n [some (.ref 191), some (.int 0), some (.int (-1)), none] dX10_addWord_8 (by decide) rfl ?_
  refine mm_iload_n dX10_addWord_9 rfl ?_
  refine mm_if_ge 35 dX10_addWord_10 (by decide) (fun h => absurd h (by decide)) (fun _ => ?_)
  refine mm_aload_n dX10_addWord_13 rfl rfl ?_
  refine mm_aload_n dX10_addWord_14 rfl rfl ?_
  refine mm_get3 (ci := 10) in_X10 rfl (k := 7) (by decide) rfl kF_X10_44 dX10_addWord_15 h191 (Nat.le_of_ble_eq_true rfl) rfl ?_
  refine mm_if_eq 25 dX10_addWord_18 (by decide) (fun _ => ?_) (fun h => absurd (by decide) h)
  refine mm_iconst (v := 0) dX10_addWord_25 (by decide) ?_
  refine mm_iload_n dX10_addWord_26 rfl ?_
  refine mm_iload_n dX10_addWord_27 rfl ?_
  refine mm_ldc2 kL_X10_36 dX10_addWord_28 ?_
  refine mm_callV3 (ci := 10) wM_X10_push kM_X10_58 wI_X10_push wS_X10_push dX10_addWord_31 (k20_X10_push hst _ h191 h192 h193 h194 h195) h191 (Nat.le_of_ble_eq_true rfl) rfl rfl rfl (Nat.le_of_ble_eq_true rfl) (by omega) (by omega) (fun v S9 hq => ?_)
  obtain ⟨M21, z21⟩ := S9
  obtain ⟨rfl, hz21, g21_192, g21_193, g21_194, g21_195, g21_191, g21_F⟩ := hq
  cases hz21
  refine ⟨fun h => ⟨h, rfl⟩, ?_⟩
  refine mm_iret dX10_addWord_34 rfl rfl ?_ (by omega) (by omega)
  refine ⟨rfl, rfl, ?_⟩
  dsimp only
  exact ⟨g21_192, g21_193, g21_194, g21_195, g21_191, fun x e192 e193 e194 e195 e191 => mm_frN (g21_F _ e192 e193 e194 e195 e191 ) (rfl)⟩

set_option maxHeartbeats 4000000 in
set_option maxRecDepth 100000 in
theorem k12_X10_split {g : mm_G} {l : Launch} (hst : l.stackTraces = false) {d : Nat} (M : Nat → mm_C) (h7 : M 7 = .inr (0, [.ref 8, .int 0, .int 0])) (h191 : M 191 = .inr (10, [.ref 7, .ref 192, .ref 193, .ref 194, .ref 195, .int 0, .int 0, .int 0])) (h192 : M 192 = .inl (0, 701, .inl (fun _ => 0))) (h193 : M 193 = .inl (0, 701, .inl (fun _ => 0))) (h194 : M 194 = .inl (0, 701, .inl (fun _ => 0))) (h195 : M 195 = .inl (1, 701, .inr (.inl (fun _ => 0)))) : mm_Cm g l yX10_split (.code yX10_split cX10_split 4 none) (d + 2) 0 0 [.ref 191] (M, 1186, false) (fun v S' => v = none ∧ S'.2 = (1186, false) ∧ S'.1 191 = .inr (10, [.ref 7, .ref 192, .ref 193, .ref 194, .ref 195, .int (0 + 1), .int 0, .int 0]) ∧ S'.1 192 = .inl (0, 701, .inl (upd (fun _ => 0) ((0 : Int32).toNatClampNeg) 0)) ∧ S'.1 193 = .inl (0, 701, .inl (upd (fun _ => 0) ((0 : Int32).toNatClampNeg) 0)) ∧ S'.1 194 = .inl (0, 701, .inl (upd (fun _ => 0) ((0 : Int32).toNatClampNeg) 0)) ∧ S'.1 195 = .inl (1, 701, .inr (.inl (vp_updL (fun _ => 0) ((0 : Int32).toNatClampNeg) (-1)))) ∧ ∀ j, j ≠ 191 → j ≠ 192 → j ≠ 193 → j ≠ 194 → j ≠ 195 → S'.1 j = M j) := by
  refine mm_Cm_of hst (by decide) (Nat.le_of_ble_eq_true rfl) ?_
  show mm_V g l RX10 "split" cX10_split 4 none [] (d + 2) 0 0 _ 0 [some (.ref 191), none, none, none] [] (M, 1186, false) 0 0
  refine mm_aload_n dX10_split_0 rfl rfl ?_
  refine mm_iconst (v := 0) dX10_split_1 (by decide) ?_
  refine mm_put3 (ci := 10) (fs1 := [.ref 7, .ref 192, .ref 193, .ref 194, .ref 195, .int 0, .int 0, .int 0]) in_X10 tyX10_ok nmX10 rfl (k := 5) (by decide) rfl rfl kF_X10_29 dX10_split_2 (mm_fit_int _) h191 (Nat.le_of_ble_eq_true rfl) (Nat.le_of_ble_eq_true rfl) rfl ?_
  refine mm_aload_n dX10_split_5 rfl rfl ?_
  refine mm_aload_n dX10_split_6 rfl rfl ?_
  refine mm_get3 (ci := 10) in_X10 rfl (k := 0) (by decide) rfl kF_X10_9 dX10_split_7 mm_up_s (Nat.le_of_ble_eq_true rfl) rfl ?_
  refine mm_callV3 (ci := 0) wM_X0_size kM_X10_38 wI_X0_size wS_X0_size dX10_split_10 (k13_X0_size hst _ (mm_upN (by decide) h7)) (mm_upN (by decide) h7) (Nat.le_of_ble_eq_true rfl) rfl rfl rfl (Nat.le_of_ble_eq_true rfl) (by omega) (by omega) (fun v S9 hq => ?_)
  obtain ⟨rfl, rfl⟩ := hq
  refine ⟨fun h => ⟨h, rfl⟩, ?_⟩
  refine mm_put3 (ci := 10) (fs1 := [.ref 7, .ref 192, .ref 193, .ref 194, .ref 195, .int 0, .int 0, .int 0]) in_X10 tyX10_ok nmX10 rfl (k := 6) (by decide) rfl rfl kF_X10_33 dX10_split_13 (mm_fit_int _) mm_up_s (Nat.le_of_ble_eq_true rfl) (Nat.le_of_ble_eq_true rfl) rfl ?_
  refine mm_aload_n dX10_split_16 rfl rfl ?_
  refine mm_iconst (v := 0) dX10_split_17 (by decide) ?_
  refine mm_put3 (ci := 10) (fs1 := [.ref 7, .ref 192, .ref 193, .ref 194, .ref 195, .int 0, .int 0, .int 0]) in_X10 tyX10_ok nmX10 rfl (k := 7) (by decide) rfl rfl kF_X10_44 dX10_split_18 mm_fit_z0 mm_up_s (Nat.le_of_ble_eq_true rfl) (Nat.le_of_ble_eq_true rfl) rfl ?_
  refine mm_iconst (v := 0) dX10_split_21 (by decide) ?_
  refine mm_istore_n [some (.ref 191), some (.int 0), none, none] dX10_split_22 (by decide) rfl ?_
  refine mm_iconst (v := 0) dX10_split_23 (by decide) ?_
  refine mm_istore_n [some (.ref 191), some (.int 0), some (.int 0), none] dX10_split_24 (by decide) rfl ?_
  refine mm_iload_n dX10_split_25 rfl ?_
  refine mm_sipush (v := 700) dX10_split_26 (by decide) ?_
  refine mm_icmp_gt 56 dX10_split_29 (by decide) (fun h => absurd h (by decide)) (fun _ => ?_)
  refine mm_aload_n dX10_split_32 rfl rfl ?_
  refine mm_iload_n dX10_split_33 rfl ?_
  refine mm_callV3 (ci := 10) wM_X10_behindBlanks kM_X10_48 wI_X10_behindBlanks wS_X10_behindBlanks dX10_split_34 (k15_X10_behindBlanks hst _ mm_up_s) mm_up_s (Nat.le_of_ble_eq_true rfl) rfl rfl rfl (Nat.le_of_ble_eq_true rfl) (by omega) (by omega) (fun v S9 hq => ?_)
  obtain ⟨rfl, rfl⟩ := hq
  refine ⟨fun h => ⟨h, rfl⟩, ?_⟩
  refine mm_istore_n [some (.ref 191), some (.int 0), some (.int 0), some (.int 0)] dX10_split_37 (by decide) rfl ?_
  refine mm_aload_n dX10_split_38 rfl rfl ?_
  refine mm_iload_n dX10_split_39 rfl ?_
  refine mm_callV3 (ci := 10) wM_X10_addWord kM_X10_52 wI_X10_addWord wS_X10_addWord dX10_split_40 (k17_X10_addWord hst _ (mm_upN (by decide) (mm_upN (by decide) (mm_upN (by decide) h7))) mm_up_s (mm_upN (by decide) (mm_upN (by decide) (mm_upN (by decide) h192))) (mm_upN (by decide) (mm_upN (by decide) (mm_upN (by decide) h193))) (mm_upN (by decide) (mm_upN (by decide) (mm_upN (by decide) h194))) (mm_upN (by decide) (mm_upN (by decide) (mm_upN (by decide) h195)))) mm_up_s (Nat.le_of_ble_eq_true rfl) rfl rfl rfl (Nat.le_of_ble_eq_true rfl) (by omega) (by omega) (fun v S9 hq => ?_)
  obtain ⟨M22, z22⟩ := S9
  obtain ⟨rfl, hz22, g22_192, g22_193, g22_194, g22_195, g22_191, g22_F⟩ := hq
  cases hz22
  refine ⟨fun h => ⟨h, rfl⟩, ?_⟩
  refine mm_istore_n [some (.ref 191), some (.int 0), some (.int 0), some (.int 0)] dX10_split_43 (by decide) rfl ?_
  refine mm_iload_n dX10_split_44 rfl ?_
  refine mm_iload_n dX10_split_45 rfl ?_
  refine mm_icmp_gt 50 dX10_split_46 (by decide) (fun h => absurd h (by decide)) (fun _ => ?_)
  refine mm_vret dX10_split_49 rfl ?_ (by omega) (by omega)
  refine ⟨rfl, rfl, ?_⟩
  dsimp only
  exact ⟨g22_191, g22_192, g22_193, g22_194, g22_195, fun x e191 e192 e193 e194 e195 => mm_frN (g22_F _ e192 e193 e194 e195 e191 ) (mm_upN e191 (mm_upN e191 (mm_upN e191 (rfl))))⟩

set_option maxHeartbeats 4000000 in
set_option maxRecDepth 100000 in
theorem k27_X10_codeOf {g : mm_G} {l : Launch} (hst : l.stackTraces = false) {d : Nat} (M : Nat → mm_C) (h191 : M 191 = .inr (10, [.ref 7, .ref 192, .ref 193, .ref 194, .ref 195, .int (0 + 1), .int 0, .int 0])) (h192 : M 192 = .inl (0, 701, .inl (upd (fun _ => 0) ((0 : Int32).toNatClampNeg) 0))) (h195 : M 195 = .inl (1, 701, .inr (.inl (vp_updL (fun _ => 0) ((0 : Int32).toNatClampNeg) (-1))))) : mm_Cm g l yX10_codeOf (.code yX10_codeOf cX10_codeOf 3 (some .int)) d 0 0 [.ref 191, .int 0] (M, 1186, false) (fun v S' => v = some (.int (-1)) ∧ S' = (M, 1186, false)) := by
  refine mm_Cm_of hst (by decide) (Nat.le_of_ble_eq_true rfl) ?_
  show mm_V g l RX10 "codeOf" cX10_codeOf 3 (some .int) [] d 0 0 _ 0 [some (.ref 191), some (.int 0), none] [] (M, 1186, false) 0 0
  refine mm_iload_n dX10_codeOf_0 rfl ?_
  refine mm_if_lt 44 dX10_codeOf_1 (by decide) (fun h => absurd h (by decide)) (fun _ => ?_)
  refine mm_iload_n dX10_codeOf_4 rfl ?_
  refine mm_aload_n dX10_codeOf_5 rfl rfl ?_
  refine mm_get3 (ci := 10) in_X10 rfl (k := 5) (by decide) rfl kF_X10_29 dX10_codeOf_6 h191 (Nat.le_of_ble_eq_true rfl) rfl ?_
  refine mm_icmp_ge 44 dX10_codeOf_9 (by decide) (fun h => absurd h (by decide)) (fun _ => ?_)
  refine mm_iload_n dX10_codeOf_12 rfl ?_
  refine mm_aload_n dX10_codeOf_13 rfl rfl ?_
  refine mm_get3 (ci := 10) in_X10 rfl (k := 1) (by decide) rfl kF_X10_15 dX10_codeOf_14 h191 (Nat.le_of_ble_eq_true rfl) rfl ?_
  refine mm_alen3 (v := 701) (fun _ => rfl) h192 (Nat.le_of_ble_eq_true rfl) rfl dX10_codeOf_17 ?_
  refine mm_icmp_ge 44 dX10_codeOf_18 (by decide) (fun h => absurd h (by decide)) (fun _ => ?_)
  refine mm_iload_n dX10_codeOf_21 rfl ?_
  refine mm_aload_n dX10_codeOf_22 rfl rfl ?_
  refine mm_get3 (ci := 10) in_X10 rfl (k := 4) (by decide) rfl kF_X10_25 dX10_codeOf_23 h191 (Nat.le_of_ble_eq_true rfl) rfl ?_
  refine mm_alen3 (v := 701) (fun _ => rfl) h195 (Nat.le_of_ble_eq_true rfl) rfl dX10_codeOf_26 ?_
  refine mm_icmp_ge 44 dX10_codeOf_27 (by decide) (fun h => absurd h (by decide)) (fun _ => ?_)
  refine mm_aload_n dX10_codeOf_30 rfl rfl ?_
  refine mm_get3 (ci := 10) in_X10 rfl (k := 1) (by decide) rfl kF_X10_15 dX10_codeOf_31 h191 (Nat.le_of_ble_eq_true rfl) rfl ?_
  refine mm_iload_n dX10_codeOf_34 rfl ?_
  refine mm_iald3 h192 (Nat.le_of_ble_eq_true rfl) (by unfold vp_in; decide) dX10_codeOf_35 ?_
  refine mm_iconst (v := 1) dX10_codeOf_36 (by decide) ?_
  refine mm_icmp_ne 44 dX10_codeOf_37 (by decide) (fun _ => ?_) (fun h => absurd h (by decide))
  refine mm_iconst (v := 0) dX10_codeOf_44 (by decide) ?_
  refine mm_istore_n [some (.ref 191), some (.int 0), some (.int 0)] dX10_codeOf_45 (by decide) rfl ?_
  refine mm_iload_n dX10_codeOf_46 rfl ?_
  refine mm_if_eq 60 dX10_codeOf_47 (by decide) (fun _ => ?_) (fun h => absurd (by decide) h)
  refine mm_iconst (v := (-1)) dX10_codeOf_60 (by decide) ?_
  refine mm_iret dX10_codeOf_61 rfl rfl ?_ (by omega) (by omega)
  exact ⟨rfl, rfl⟩

set_option maxHeartbeats 4000000 in
set_option maxRecDepth 100000 in
theorem k26_X5_takesWord {g : mm_G} {l : Launch} (hst : l.stackTraces = false) {d : Nat} (M : Nat → mm_C) (h191 : M 191 = .inr (10, [.ref 7, .ref 192, .ref 193, .ref 194, .ref 195, .int (0 + 1), .int 0, .int 0])) (h192 : M 192 = .inl (0, 701, .inl (upd (fun _ => 0) ((0 : Int32).toNatClampNeg) 0))) (h195 : M 195 = .inl (1, 701, .inr (.inl (vp_updL (fun _ => 0) ((0 : Int32).toNatClampNeg) (-1))))) (h196 : M 196 = .inr (5, [.ref 6, .ref 191, .null, .null, .null, .int 0, .int 0, .int 1])) : mm_Cm g l yX5_takesWord (.code yX5_takesWord cX5_takesWord 2 (some .boolean)) (d + 1) 0 0 [.ref 196, .int 24] (M, 1186, false) (fun v S' => v = some (.int 0) ∧ S' = (M, 1186, false)) := by
  refine mm_Cm_of hst (by decide) (Nat.le_of_ble_eq_true rfl) ?_
  show mm_V g l RX5 "takesWord" cX5_takesWord 2 (some .boolean) [] (d + 1) 0 0 _ 0 [some (.ref 196), some (.int 24)] [] (M, 1186, false) 0 0
  refine mm_aload_n dX5_takesWord_0 rfl rfl ?_
  refine mm_get3 (ci := 5) in_X5 rfl (k := 1) (by decide) rfl kF_X5_15 dX5_takesWord_1 h196 (Nat.le_of_ble_eq_true rfl) rfl ?_
  refine mm_aload_n dX5_takesWord_4 rfl rfl ?_
  refine mm_get3 (ci := 5) in_X5 rfl (k := 6) (by decide) rfl kF_X5_29 dX5_takesWord_5 h196 (Nat.le_of_ble_eq_true rfl) rfl ?_
  refine mm_callV3 (ci := 10) wM_X10_codeOf kM_X5_69 wI_X10_codeOf wS_X10_codeOf dX5_takesWord_8 (k27_X10_codeOf hst _ h191 h192 h195) h191 (Nat.le_of_ble_eq_true rfl) rfl rfl rfl (Nat.le_of_ble_eq_true rfl) (by omega) (by omega) (fun v S9 hq => ?_)
  obtain ⟨rfl, rfl⟩ := hq
  refine ⟨fun h => ⟨h, rfl⟩, ?_⟩
  refine mm_iload_n dX5_takesWord_11 rfl ?_
  refine mm_icmp_eq 17 dX5_takesWord_12 (by decide) (fun h => absurd h (by decide)) (fun _ => ?_)
  refine mm_iconst (v := 0) dX5_takesWord_15 (by decide) ?_
  refine mm_iret dX5_takesWord_16 rfl rfl ?_ (by omega) (by omega)
  exact ⟨rfl, rfl⟩

set_option maxHeartbeats 4000000 in
set_option maxRecDepth 100000 in
theorem k25_X5_readSyntax {g : mm_G} {l : Launch} (hst : l.stackTraces = false) {d : Nat} (M : Nat → mm_C) (h191 : M 191 = .inr (10, [.ref 7, .ref 192, .ref 193, .ref 194, .ref 195, .int (0 + 1), .int 0, .int 0])) (h192 : M 192 = .inl (0, 701, .inl (upd (fun _ => 0) ((0 : Int32).toNatClampNeg) 0))) (h195 : M 195 = .inl (1, 701, .inr (.inl (vp_updL (fun _ => 0) ((0 : Int32).toNatClampNeg) (-1))))) (h196 : M 196 = .inr (5, [.ref 6, .ref 191, .null, .null, .null, .int 0, .int 0, .int 1])) : mm_Cm g l yX5_readSyntax (.code yX5_readSyntax cX5_readSyntax 1 (some .boolean)) (d + 2) 0 0 [.ref 196] (M, 1186, false) (fun v S' => v = some (.int 0) ∧ S' = (M, 1186, false)) := by
  refine mm_Cm_of hst (by decide) (Nat.le_of_ble_eq_true rfl) ?_
  show mm_V g l RX5 "readSyntax" cX5_readSyntax 1 (some .boolean) [] (d + 2) 0 0 _ 0 [some (.ref 196)] [] (M, 1186, false) 0 0
  refine mm_aload_n dX5_readSyntax_0 rfl rfl ?_
  refine mm_bipush (v := 24) dX5_readSyntax_1 (by decide) ?_
  refine mm_callV3 (ci := 5) wM_X5_takesWord kM_X5_72 wI_X5_takesWord wS_X5_takesWord dX5_readSyntax_3 (k26_X5_takesWord hst _ h191 h192 h195 h196) h196 (Nat.le_of_ble_eq_true rfl) rfl rfl rfl (Nat.le_of_ble_eq_true rfl) (by omega) (by omega) (fun v S9 hq => ?_)
  obtain ⟨rfl, rfl⟩ := hq
  refine ⟨fun h => ⟨h, rfl⟩, ?_⟩
  refine mm_if_eq 18 dX5_readSyntax_6 (by decide) (fun _ => ?_) (fun h => absurd (by decide) h)
  refine mm_iconst (v := 0) dX5_readSyntax_18 (by decide) ?_
  refine mm_iret dX5_readSyntax_19 rfl rfl ?_ (by omega) (by omega)
  exact ⟨rfl, rfl⟩

set_option maxHeartbeats 4000000 in
set_option maxRecDepth 100000 in
theorem k31_X10_count {g : mm_G} {l : Launch} (hst : l.stackTraces = false) {d : Nat} (M : Nat → mm_C) (h191 : M 191 = .inr (10, [.ref 7, .ref 192, .ref 193, .ref 194, .ref 195, .int (0 + 1), .int 0, .int 0])) : mm_Cm g l yX10_count (.code yX10_count cX10_count 1 (some .int)) d 0 0 [.ref 191] (M, 1186, false) (fun v S' => v = some (.int (0 + 1)) ∧ S' = (M, 1186, false)) := by
  refine mm_Cm_of hst (by decide) (Nat.le_of_ble_eq_true rfl) ?_
  show mm_V g l RX10 "count" cX10_count 1 (some .int) [] d 0 0 _ 0 [some (.ref 191)] [] (M, 1186, false) 0 0
  refine mm_aload_n dX10_count_0 rfl rfl ?_
  refine mm_get3 (ci := 10) in_X10 rfl (k := 5) (by decide) rfl kF_X10_29 dX10_count_1 h191 (Nat.le_of_ble_eq_true rfl) rfl ?_
  refine mm_iret dX10_count_4 rfl rfl ?_ (by omega) (by omega)
  exact ⟨rfl, rfl⟩

set_option maxHeartbeats 4000000 in
set_option maxRecDepth 100000 in
theorem k24_X5_read {g : mm_G} {l : Launch} (hst : l.stackTraces = false) {d : Nat} (M : Nat → mm_C) (h191 : M 191 = .inr (10, [.ref 7, .ref 192, .ref 193, .ref 194, .ref 195, .int (0 + 1), .int 0, .int 0])) (h192 : M 192 = .inl (0, 701, .inl (upd (fun _ => 0) ((0 : Int32).toNatClampNeg) 0))) (h195 : M 195 = .inl (1, 701, .inr (.inl (vp_updL (fun _ => 0) ((0 : Int32).toNatClampNeg) (-1))))) (h196 : M 196 = .inr (5, [.ref 6, .ref 191, .null, .null, .null, .int 0, .int 0, .int 0])) : mm_Cm g l yX5_read (.code yX5_read cX5_read 3 (some .int)) (d + 3) 0 0 [.ref 196] (M, 1186, false) (fun v S' => v = some (.int 1) ∧ S'.2 = (1186, false) ∧ S'.1 196 = .inr (5, [.ref 6, .ref 191, .null, .null, .null, .int 0, .int 0, .int 1]) ∧ ∀ j, j ≠ 196 → S'.1 j = M j) := by
  refine mm_Cm_of hst (by decide) (Nat.le_of_ble_eq_true rfl) ?_
  show mm_V g l RX5 "read" cX5_read 3 (some .int) [] (d + 3) 0 0 _ 0 [some (.ref 196), none, none] [] (M, 1186, false) 0 0
  refine mm_aload_n dX5_read_0 rfl rfl ?_
  refine mm_null dX5_read_1 ?_
  refine mm_put3 (ci := 5) (fs1 := [.ref 6, .ref 191, .null, .null, .null, .int 0, .int 0, .int 0]) in_X5 tyX5_ok nmX5 rfl (k := 2) (by decide) rfl rfl kF_X5_19 dX5_read_2 (mm_fit_null _) h196 (Nat.le_of_ble_eq_true rfl) (Nat.le_of_ble_eq_true rfl) rfl ?_
  refine mm_aload_n dX5_read_5 rfl rfl ?_
  refine mm_null dX5_read_6 ?_
  refine mm_put3 (ci := 5) (fs1 := [.ref 6, .ref 191, .null, .null, .null, .int 0, .int 0, .int 0]) in_X5 tyX5_ok nmX5 rfl (k := 3) (by decide) rfl rfl kF_X5_23 dX5_read_7 (mm_fit_null _) mm_up_s (Nat.le_of_ble_eq_true rfl) (Nat.le_of_ble_eq_true rfl) rfl ?_
  refine mm_aload_n dX5_read_10 rfl rfl ?_
  refine mm_null dX5_read_11 ?_
  refine mm_put3 (ci := 5) (fs1 := [.ref 6, .ref 191, .null, .null, .null, .int 0, .int 0, .int 0]) in_X5 tyX5_ok nmX5 rfl (k := 4) (by decide) rfl rfl kF_X5_26 dX5_read_12 (mm_fit_null _) mm_up_s (Nat.le_of_ble_eq_true rfl) (Nat.le_of_ble_eq_true rfl) rfl ?_
  refine mm_aload_n dX5_read_15 rfl rfl ?_
  refine mm_iconst (v := 0) dX5_read_16 (by decide) ?_
  refine mm_put3 (ci := 5) (fs1 := [.ref 6, .ref 191, .null, .null, .null, .int 0, .int 0, .int 0]) in_X5 tyX5_ok nmX5 rfl (k := 6) (by decide) rfl rfl kF_X5_29 dX5_read_17 (mm_fit_int _) mm_up_s (Nat.le_of_ble_eq_true rfl) (Nat.le_of_ble_eq_true rfl) rfl ?_
  refine mm_aload_n dX5_read_20 rfl rfl ?_
  refine mm_iconst (v := 1) dX5_read_21 (by decide) ?_
  refine mm_put3 (ci := 5) (fs1 := [.ref 6, .ref 191, .null, .null, .null, .int 0, .int 0, .int 1]) in_X5 tyX5_ok nmX5 rfl (k := 7) (by decide) rfl rfl kF_X5_33 dX5_read_22 (mm_fit_int _) mm_up_s (Nat.le_of_ble_eq_true rfl) (Nat.le_of_ble_eq_true rfl) rfl ?_
  refine mm_aload_n dX5_read_25 rfl rfl ?_
  refine mm_callV3 (ci := 5) wM_X5_readSyntax kM_X5_36 wI_X5_readSyntax wS_X5_readSyntax dX5_read_26 (k25_X5_readSyntax hst _ (mm_upN (by decide) (mm_upN (by decide) (mm_upN (by decide) (mm_upN (by decide) (mm_upN (by decide) h191))))) (mm_upN (by decide) (mm_upN (by decide) (mm_upN (by decide) (mm_upN (by decide) (mm_upN (by decide) h192))))) (mm_upN (by decide) (mm_upN (by decide) (mm_upN (by decide) (mm_upN (by decide) (mm_upN (by decide) h195))))) mm_up_s) mm_up_s (Nat.le_of_ble_eq_true rfl) rfl rfl rfl (Nat.le_of_ble_eq_true rfl) (by omega) (by omega) (fun v S9 hq => ?_)
  obtain ⟨rfl, rfl⟩ := hq
  refine ⟨fun h => ⟨h, rfl⟩, ?_⟩
  refine mm_istore_n [some (.ref 196), some (.int 0), none] dX5_read_29 (by decide) rfl ?_
  refine mm_iconst (v := 0) dX5_read_30 (by decide) ?_
  refine mm_istore_n [some (.ref 196), some (.int 0), some (.int 0)] dX5_read_31 (by decide) rfl ?_
  refine mm_iload_n dX5_read_32 rfl ?_
  refine mm_aload_n dX5_read_33 rfl rfl ?_
  refine mm_get3 (ci := 5) in_X5 rfl (k := 1) (by decide) rfl kF_X5_15 dX5_read_34 mm_up_s (Nat.le_of_ble_eq_true rfl) rfl ?_
  refine mm_callV3 (ci := 10) wM_X10_count kM_X5_40 wI_X10_count wS_X10_count dX5_read_37 (k31_X10_count hst _ (mm_upN (by decide) (mm_upN (by decide) (mm_upN (by decide) (mm_upN (by decide) (mm_upN (by decide) h191)))))) (mm_upN (by decide) (mm_upN (by decide) (mm_upN (by decide) (mm_upN (by decide) (mm_upN (by decide) h191))))) (Nat.le_of_ble_eq_true rfl) rfl rfl rfl (Nat.le_of_ble_eq_true rfl) (by omega) (by omega) (fun v S9 hq => ?_)
  obtain ⟨rfl, rfl⟩ := hq
  refine ⟨fun h => ⟨h, rfl⟩, ?_⟩
  refine mm_icmp_ge 93 dX5_read_40 (by decide) (fun h => absurd h (by decide)) (fun _ => ?_)
  refine mm_iload_n dX5_read_43 rfl ?_
  refine mm_if_eq 93 dX5_read_44 (by decide) (fun _ => ?_) (fun h => absurd (by decide) h)
  refine mm_iload_n dX5_read_93 rfl ?_
  refine mm_if_eq 108 dX5_read_94 (by decide) (fun _ => ?_) (fun h => absurd (by decide) h)
  refine mm_aload_n dX5_read_108 rfl rfl ?_
  refine mm_get3 (ci := 5) in_X5 rfl (k := 7) (by decide) rfl kF_X5_33 dX5_read_109 mm_up_s (Nat.le_of_ble_eq_true rfl) rfl ?_
  refine mm_iret dX5_read_112 rfl rfl ?_ (by omega) (by omega)
  refine ⟨rfl, rfl, ?_⟩
  dsimp only
  exact ⟨mm_up_s, fun x e196 => mm_upN e196 (mm_upN e196 (mm_upN e196 (mm_upN e196 (mm_upN e196 (rfl)))))⟩

set_option maxHeartbeats 4000000 in
set_option maxRecDepth 100000 in
theorem k35_X10_startOf {g : mm_G} {l : Launch} (hst : l.stackTraces = false) {d : Nat} (M : Nat → mm_C) (h191 : M 191 = .inr (10, [.ref 7, .ref 192, .ref 193, .ref 194, .ref 195, .int (0 + 1), .int 0, .int 0])) (h193 : M 193 = .inl (0, 701, .inl (upd (fun _ => 0) ((0 : Int32).toNatClampNeg) 0))) : mm_Cm g l yX10_startOf (.code yX10_startOf cX10_startOf 2 (some .int)) d 0 0 [.ref 191, .int 0] (M, 1186, false) (fun v S' => v = some (.int ((upd (fun _ => 0) ((0 : Int32).toNatClampNeg) 0) (0 : Int32).toNatClampNeg)) ∧ S' = (M, 1186, false)) := by
  refine mm_Cm_of hst (by decide) (Nat.le_of_ble_eq_true rfl) ?_
  show mm_V g l RX10 "startOf" cX10_startOf 2 (some .int) [] d 0 0 _ 0 [some (.ref 191), some (.int 0)] [] (M, 1186, false) 0 0
  refine mm_iload_n dX10_startOf_0 rfl ?_
  refine mm_if_lt 30 dX10_startOf_1 (by decide) (fun h => absurd h (by decide)) (fun _ => ?_)
  refine mm_iload_n dX10_startOf_4 rfl ?_
  refine mm_aload_n dX10_startOf_5 rfl rfl ?_
  refine mm_get3 (ci := 10) in_X10 rfl (k := 5) (by decide) rfl kF_X10_29 dX10_startOf_6 h191 (Nat.le_of_ble_eq_true rfl) rfl ?_
  refine mm_icmp_ge 30 dX10_startOf_9 (by decide) (fun h => absurd h (by decide)) (fun _ => ?_)
  refine mm_iload_n dX10_startOf_12 rfl ?_
  refine mm_aload_n dX10_startOf_13 rfl rfl ?_
  refine mm_get3 (ci := 10) in_X10 rfl (k := 2) (by decide) rfl kF_X10_19 dX10_startOf_14 h191 (Nat.le_of_ble_eq_true rfl) rfl ?_
  refine mm_alen3 (v := 701) (fun _ => rfl) h193 (Nat.le_of_ble_eq_true rfl) rfl dX10_startOf_17 ?_
  refine mm_icmp_ge 30 dX10_startOf_18 (by decide) (fun h => absurd h (by decide)) (fun _ => ?_)
  refine mm_aload_n dX10_startOf_21 rfl rfl ?_
  refine mm_get3 (ci := 10) in_X10 rfl (k := 2) (by decide) rfl kF_X10_19 dX10_startOf_22 h191 (Nat.le_of_ble_eq_true rfl) rfl ?_
  refine mm_iload_n dX10_startOf_25 rfl ?_
  refine mm_iald3 h193 (Nat.le_of_ble_eq_true rfl) (by unfold vp_in; decide) dX10_startOf_26 ?_
  refine mm_goto 34 dX10_startOf_27 (by decide) ?_
  refine mm_iret dX10_startOf_34 rfl rfl ?_ (by omega) (by omega)
  exact ⟨rfl, rfl⟩

set_option maxHeartbeats 4000000 in
set_option maxRecDepth 100000 in
theorem k34_X5_endPlace {g : mm_G} {l : Launch} (hst : l.stackTraces = false) {d : Nat} (M : Nat → mm_C) (h191 : M 191 = .inr (10, [.ref 7, .ref 192, .ref 193, .ref 194, .ref 195, .int (0 + 1), .int 0, .int 0])) (h193 : M 193 = .inl (0, 701, .inl (upd (fun _ => 0) ((0 : Int32).toNatClampNeg) 0))) (h196 : M 196 = .inr (5, [.ref 6, .ref 191, .null, .null, .null, .int 0, .int 0, .int 1])) : mm_Cm g l yX5_endPlace (.code yX5_endPlace cX5_endPlace 1 (some .int)) (d + 1) 0 0 [.ref 196] (M, 1186, false) (fun v S' => v = some (.int ((upd (fun _ => 0) ((0 : Int32).toNatClampNeg) 0) (0 : Int32).toNatClampNeg)) ∧ S' = (M, 1186, false)) := by
  refine mm_Cm_of hst (by decide) (Nat.le_of_ble_eq_true rfl) ?_
  show mm_V g l RX5 "endPlace" cX5_endPlace 1 (some .int) [] (d + 1) 0 0 _ 0 [some (.ref 196)] [] (M, 1186, false) 0 0
  refine mm_aload_n dX5_endPlace_0 rfl rfl ?_
  refine mm_get3 (ci := 5) in_X5 rfl (k := 1) (by decide) rfl kF_X5_15 dX5_endPlace_1 h196 (Nat.le_of_ble_eq_true rfl) rfl ?_
  refine mm_aload_n dX5_endPlace_4 rfl rfl ?_
  refine mm_get3 (ci := 5) in_X5 rfl (k := 6) (by decide) rfl kF_X5_29 dX5_endPlace_5 h196 (Nat.le_of_ble_eq_true rfl) rfl ?_
  refine mm_callV3 (ci := 10) wM_X10_startOf kM_X5_58 wI_X10_startOf wS_X10_startOf dX5_endPlace_8 (k35_X10_startOf hst _ h191 h193) h191 (Nat.le_of_ble_eq_true rfl) rfl rfl rfl (Nat.le_of_ble_eq_true rfl) (by omega) (by omega) (fun v S9 hq => ?_)
  obtain ⟨rfl, rfl⟩ := hq
  refine ⟨fun h => ⟨h, rfl⟩, ?_⟩
  refine mm_iret dX5_endPlace_11 rfl rfl ?_ (by omega) (by omega)
  exact ⟨rfl, rfl⟩

set_option maxHeartbeats 4000000 in
set_option maxRecDepth 100000 in
theorem k38_X6_used {g : mm_G} {l : Launch} (hst : l.stackTraces = false) {d : Nat} (M : Nat → mm_C) (h6 : M 6 = .inr (6, [.ref 7, .ref 9, .ref 190, .int 0, .int 0])) : mm_Cm g l yX6_used (.code yX6_used cX6_used 1 (some .int)) d 0 0 [.ref 6] (M, 1186, false) (fun v S' => v = some (.int 0) ∧ S' = (M, 1186, false)) := by
  refine mm_Cm_of hst (by decide) (Nat.le_of_ble_eq_true rfl) ?_
  show mm_V g l RX6 "used" cX6_used 1 (some .int) [] d 0 0 _ 0 [some (.ref 6)] [] (M, 1186, false) 0 0
  refine mm_aload_n dX6_used_0 rfl rfl ?_
  refine mm_get3 (ci := 6) in_X6 rfl (k := 3) (by decide) rfl kF_X6_34 dX6_used_1 h6 (Nat.le_of_ble_eq_true rfl) rfl ?_
  refine mm_iret dX6_used_4 rfl rfl ?_ (by omega) (by omega)
  exact ⟨rfl, rfl⟩

set_option maxHeartbeats 4000000 in
set_option maxRecDepth 100000 in
theorem k40_X6_clear {g : mm_G} {l : Launch} (hst : l.stackTraces = false) {d : Nat} (M : Nat → mm_C) (h6 : M 6 = .inr (6, [.ref 7, .ref 9, .ref 190, .int 0, .int 0])) (h7 : M 7 = .inr (0, [.ref 8, .int 0, .int 0])) (h190 : M 190 = .inl (0, 5, .inl (upd (upd (upd (upd (upd (fun _ => 0) ((0 : Int32).toNatClampNeg) 0) ((1 : Int32).toNatClampNeg) 0) ((2 : Int32).toNatClampNeg) 0) ((3 : Int32).toNatClampNeg) 0) ((4 : Int32).toNatClampNeg) 0))) : mm_Cm g l yX6_clear (.code yX6_clear cX6_clear 2 none) (d + 1) 0 0 [.ref 6] (M, 1186, false) (fun v S' => v = none ∧ S'.2 = (1186, false) ∧ S'.1 7 = .inr (0, [.ref 8, .int 0, .int 0]) ∧ S'.1 6 = .inr (6, [.ref 7, .ref 9, .ref 190, .int 0, .int 0]) ∧ S'.1 190 = .inl (0, 5, .inl (upd (upd (upd (upd (upd (upd (upd (upd (upd (upd (fun _ => 0) ((0 : Int32).toNatClampNeg) 0) ((1 : Int32).toNatClampNeg) 0) ((2 : Int32).toNatClampNeg) 0) ((3 : Int32).toNatClampNeg) 0) ((4 : Int32).toNatClampNeg) 0) ((0 : Int32).toNatClampNeg) 0) ((1 : Int32).toNatClampNeg) 0) ((2 : Int32).toNatClampNeg) 0) ((3 : Int32).toNatClampNeg) 0) ((4 : Int32).toNatClampNeg) 0)) ∧ ∀ j, j ≠ 7 → j ≠ 6 → j ≠ 190 → S'.1 j = M j) := by
  refine mm_Cm_of hst (by decide) (Nat.le_of_ble_eq_true rfl) ?_
  show mm_V g l RX6 "clear" cX6_clear 2 none [] (d + 1) 0 0 _ 0 [some (.ref 6), none] [] (M, 1186, false) 0 0
  refine mm_aload_n dX6_clear_0 rfl rfl ?_
  refine mm_get3 (ci := 6) in_X6 rfl (k := 0) (by decide) rfl kF_X6_14 dX6_clear_1 h6 (Nat.le_of_ble_eq_true rfl) rfl ?_
  refine mm_callV3 (ci := 0) wM_X0_clear kM_X6_31 wI_X0_clear wS_X0_clear dX6_clear_4 (k3_X0_clear hst _ h7) h7 (Nat.le_of_ble_eq_true rfl) rfl rfl rfl (Nat.le_of_ble_eq_true rfl) (by omega) (by omega) (fun v S9 hq => ?_)
  obtain ⟨M41, z41⟩ := S9
  obtain ⟨rfl, hz41, g41_7, g41_F⟩ := hq
  cases hz41
  refine ⟨fun h => ⟨h, rfl⟩, ?_⟩
  refine mm_aload_n dX6_clear_7 rfl rfl ?_
  refine mm_iconst (v := 0) dX6_clear_8 (by decide) ?_
  refine mm_put3 (ci := 6) (fs1 := [.ref 7, .ref 9, .ref 190, .int 0, .int 0]) in_X6 tyX6_ok nmX6 rfl (k := 3) (by decide) rfl rfl kF_X6_34 dX6_clear_9 (mm_fit_int _) (mm_frN (g41_F _ (by decide)) h6) (Nat.le_of_ble_eq_true rfl) (Nat.le_of_ble_eq_true rfl) rfl ?_
  refine mm_aload_n dX6_clear_12 rfl rfl ?_
  refine mm_iconst (v := 0) dX6_clear_13 (by decide) ?_
  refine mm_put3 (ci := 6) (fs1 := [.ref 7, .ref 9, .ref 190, .int 0, .int 0]) in_X6 tyX6_ok nmX6 rfl (k := 4) (by decide) rfl rfl kF_X6_38 dX6_clear_14 (mm_fit_int _) mm_up_s (Nat.le_of_ble_eq_true rfl) (Nat.le_of_ble_eq_true rfl) rfl ?_
  refine mm_iconst (v := 0) dX6_clear_17 (by decide) ?_
  refine mm_istore_n [some (.ref 6), some (.int 0)] dX6_clear_18 (by decide) rfl ?_
  refine mm_iload_n dX6_clear_19 rfl ?_
  refine mm_aload_n dX6_clear_20 rfl rfl ?_
  refine mm_get3 (ci := 6) in_X6 rfl (k := 2) (by decide) rfl kF_X6_27 dX6_clear_21 mm_up_s (Nat.le_of_ble_eq_true rfl) rfl ?_
  refine mm_alen3 (v := 5) (fun _ => rfl) (mm_upN (by decide) (mm_upN (by decide) (mm_frN (g41_F _ (by decide)) h190))) (Nat.le_of_ble_eq_true rfl) rfl dX6_clear_24 ?_
  refine mm_icmp_ge 41 dX6_clear_25 (by decide) (fun h => absurd h (by decide)) (fun _ => ?_)
  refine mm_aload_n dX6_clear_28 rfl rfl ?_
  refine mm_get3 (ci := 6) in_X6 rfl (k := 2) (by decide) rfl kF_X6_27 dX6_clear_29 mm_up_s (Nat.le_of_ble_eq_true rfl) rfl ?_
  refine mm_iload_n dX6_clear_32 rfl ?_
  refine mm_iconst (v := 0) dX6_clear_33 (by decide) ?_
  refine mm_iast3 (mm_upN (by decide) (mm_upN (by decide) (mm_frN (g41_F _ (by decide)) h190))) (Nat.le_of_ble_eq_true rfl) (by unfold vp_in; decide) dX6_clear_34 ?_
  refine mm_iinc (v := 1) [some (.ref 6), some (.int 1)] dX6_clear_35 rfl (by decide) (by decide) rfl ?_
  refine mm_goto 19 dX6_clear_38 (by decide) ?_
  refine mm_iload_n dX6_clear_19 rfl ?_
  refine mm_aload_n dX6_clear_20 rfl rfl ?_
  refine mm_get3 (ci := 6) in_X6 rfl (k := 2) (by decide) rfl kF_X6_27 dX6_clear_21 (mm_upN (by decide) mm_up_s) (Nat.le_of_ble_eq_true rfl) rfl ?_
  refine mm_alen3 (v := 5) (fun _ => rfl) mm_up_s (Nat.le_of_ble_eq_true rfl) rfl dX6_clear_24 ?_
  refine mm_icmp_ge 41 dX6_clear_25 (by decide) (fun h => absurd h (by decide)) (fun _ => ?_)
  refine mm_aload_n dX6_clear_28 rfl rfl ?_
  refine mm_get3 (ci := 6) in_X6 rfl (k := 2) (by decide) rfl kF_X6_27 dX6_clear_29 (mm_upN (by decide) mm_up_s) (Nat.le_of_ble_eq_true rfl) rfl ?_
  refine mm_iload_n dX6_clear_32 rfl ?_
  refine mm_iconst (v := 0) dX6_clear_33 (by decide) ?_
  refine mm_iast3 mm_up_s (Nat.le_of_ble_eq_true rfl) (by unfold vp_in; decide) dX6_clear_34 ?_
  refine mm_iinc (v := 2) [some (.ref 6), some (.int 2)] dX6_clear_35 rfl (by decide) (by decide) rfl ?_
  refine mm_goto 19 dX6_clear_38 (by decide) ?_
  refine mm_iload_n dX6_clear_19 rfl ?_
  refine mm_aload_n dX6_clear_20 rfl rfl ?_
  refine mm_get3 (ci := 6) in_X6 rfl (k := 2) (by decide) rfl kF_X6_27 dX6_clear_21 (mm_upN (by decide) (mm_upN (by decide) mm_up_s)) (Nat.le_of_ble_eq_true rfl) rfl ?_
  refine mm_alen3 (v := 5) (fun _ => rfl) mm_up_s (Nat.le_of_ble_eq_true rfl) rfl dX6_clear_24 ?_
  refine mm_icmp_ge 41 dX6_clear_25 (by decide) (fun h => absurd h (by decide)) (fun _ => ?_)
  refine mm_aload_n dX6_clear_28 rfl rfl ?_
  refine mm_get3 (ci := 6) in_X6 rfl (k := 2) (by decide) rfl kF_X6_27 dX6_clear_29 (mm_upN (by decide) (mm_upN (by decide) mm_up_s)) (Nat.le_of_ble_eq_true rfl) rfl ?_
  refine mm_iload_n dX6_clear_32 rfl ?_
  refine mm_iconst (v := 0) dX6_clear_33 (by decide) ?_
  refine mm_iast3 mm_up_s (Nat.le_of_ble_eq_true rfl) (by unfold vp_in; decide) dX6_clear_34 ?_
  refine mm_iinc (v := 3) [some (.ref 6), some (.int 3)] dX6_clear_35 rfl (by decide) (by decide) rfl ?_
  refine mm_goto 19 dX6_clear_38 (by decide) ?_
  refine mm_iload_n dX6_clear_19 rfl ?_
  refine mm_aload_n dX6_clear_20 rfl rfl ?_
  refine mm_get3 (ci := 6) in_X6 rfl (k := 2) (by decide) rfl kF_X6_27 dX6_clear_21 (mm_upN (by decide) (mm_upN (by decide) (mm_upN (by decide) mm_up_s))) (Nat.le_of_ble_eq_true rfl) rfl ?_
  refine mm_alen3 (v := 5) (fun _ => rfl) mm_up_s (Nat.le_of_ble_eq_true rfl) rfl dX6_clear_24 ?_
  refine mm_icmp_ge 41 dX6_clear_25 (by decide) (fun h => absurd h (by decide)) (fun _ => ?_)
  refine mm_aload_n dX6_clear_28 rfl rfl ?_
  refine mm_get3 (ci := 6) in_X6 rfl (k := 2) (by decide) rfl kF_X6_27 dX6_clear_29 (mm_upN (by decide) (mm_upN (by decide) (mm_upN (by decide) mm_up_s))) (Nat.le_of_ble_eq_true rfl) rfl ?_
  refine mm_iload_n dX6_clear_32 rfl ?_
  refine mm_iconst (v := 0) dX6_clear_33 (by decide) ?_
  refine mm_iast3 mm_up_s (Nat.le_of_ble_eq_true rfl) (by unfold vp_in; decide) dX6_clear_34 ?_
  refine mm_iinc (v := 4) [some (.ref 6), some (.int 4)] dX6_clear_35 rfl (by decide) (by decide) rfl ?_
  refine mm_goto 19 dX6_clear_38 (by decide) ?_
  refine mm_iload_n dX6_clear_19 rfl ?_
  refine mm_aload_n dX6_clear_20 rfl rfl ?_
  refine mm_get3 (ci := 6) in_X6 rfl (k := 2) (by decide) rfl kF_X6_27 dX6_clear_21 (mm_upN (by decide) (mm_upN (by decide) (mm_upN (by decide) (mm_upN (by decide) mm_up_s)))) (Nat.le_of_ble_eq_true rfl) rfl ?_
  refine mm_alen3 (v := 5) (fun _ => rfl) mm_up_s (Nat.le_of_ble_eq_true rfl) rfl dX6_clear_24 ?_
  refine mm_icmp_ge 41 dX6_clear_25 (by decide) (fun h => absurd h (by decide)) (fun _ => ?_)
  refine mm_aload_n dX6_clear_28 rfl rfl ?_
  refine mm_get3 (ci := 6) in_X6 rfl (k := 2) (by decide) rfl kF_X6_27 dX6_clear_29 (mm_upN (by decide) (mm_upN (by decide) (mm_upN (by decide) (mm_upN (by decide) mm_up_s)))) (Nat.le_of_ble_eq_true rfl) rfl ?_
  refine mm_iload_n dX6_clear_32 rfl ?_
  refine mm_iconst (v := 0) dX6_clear_33 (by decide) ?_
  refine mm_iast3 mm_up_s (Nat.le_of_ble_eq_true rfl) (by unfold vp_in; decide) dX6_clear_34 ?_
  refine mm_iinc (v := 5) [some (.ref 6), some (.int 5)] dX6_clear_35 rfl (by decide) (by decide) rfl ?_
  refine mm_goto 19 dX6_clear_38 (by decide) ?_
  refine mm_iload_n dX6_clear_19 rfl ?_
  refine mm_aload_n dX6_clear_20 rfl rfl ?_
  refine mm_get3 (ci := 6) in_X6 rfl (k := 2) (by decide) rfl kF_X6_27 dX6_clear_21 (mm_upN (by decide) (mm_upN (by decide) (mm_upN (by decide) (mm_upN (by decide) (mm_upN (by decide) mm_up_s))))) (Nat.le_of_ble_eq_true rfl) rfl ?_
  refine mm_alen3 (v := 5) (fun _ => rfl) mm_up_s (Nat.le_of_ble_eq_true rfl) rfl dX6_clear_24 ?_
  refine mm_icmp_ge 41 dX6_clear_25 (by decide) (fun _ => ?_) (fun h => absurd (by decide) h)
  refine mm_vret dX6_clear_41 rfl ?_ (by omega) (by omega)
  refine ⟨rfl, rfl, ?_⟩
  dsimp only
  exact ⟨(mm_upN (by decide) (mm_upN (by decide) (mm_upN (by decide) (mm_upN (by decide) (mm_upN (by decide) (mm_upN (by decide) (mm_upN (by decide) g41_7))))))), (mm_upN (by decide) (mm_upN (by decide) (mm_upN (by decide) (mm_upN (by decide) (mm_upN (by decide) mm_up_s))))), mm_up_s, fun x e7 e6 e190 => mm_upN e190 (mm_upN e190 (mm_upN e190 (mm_upN e190 (mm_upN e190 (mm_upN e6 (mm_upN e6 (mm_frN (g41_F _ e7 ) (rfl))))))))⟩

set_option maxHeartbeats 4000000 in
set_option maxRecDepth 100000 in
theorem k1_X2_run {g : mm_G} {l : Launch} (hst : l.stackTraces = false) {d : Nat} (M : Nat → mm_C) (h1 : M 1 = .inr (0, [.ref 2, .int 0, .int 0])) (h5 : M 5 = .inr (2, [.ref 6, .ref 191, .ref 196, .int 0, .int 0])) (h6 : M 6 = .inr (6, [.ref 7, .ref 9, .ref 190, .int 0, .int 0])) (h7 : M 7 = .inr (0, [.ref 8, .int 0, .int 0])) (h190 : M 190 = .inl (0, 5, .inl (fun _ => 0))) (h191 : M 191 = .inr (10, [.ref 7, .ref 192, .ref 193, .ref 194, .ref 195, .int 0, .int 0, .int 0])) (h192 : M 192 = .inl (0, 701, .inl (fun _ => 0))) (h193 : M 193 = .inl (0, 701, .inl (fun _ => 0))) (h194 : M 194 = .inl (0, 701, .inl (fun _ => 0))) (h195 : M 195 = .inl (1, 701, .inr (.inl (fun _ => 0)))) (h196 : M 196 = .inr (5, [.ref 6, .ref 191, .null, .null, .null, .int 0, .int 0, .int 0])) : mm_Cm g l yX2_run (.code yX2_run cX2_run 3 (some .int)) (d + 4) 0 0 [.ref 5, .ref 1] (M, 1186, false) (fun v S' => v = some (.int 1) ∧ S'.2 = (1186, false) ∧ S'.1 7 = .inr (0, [.ref 8, .int 0, .int 0]) ∧ S'.1 6 = .inr (6, [.ref 7, .ref 9, .ref 190, .int 0, .int 0]) ∧ S'.1 190 = .inl (0, 5, .inl (upd (upd (upd (upd (upd (upd (upd (upd (upd (upd (fun _ => 0) ((0 : Int32).toNatClampNeg) 0) ((1 : Int32).toNatClampNeg) 0) ((2 : Int32).toNatClampNeg) 0) ((3 : Int32).toNatClampNeg) 0) ((4 : Int32).toNatClampNeg) 0) ((0 : Int32).toNatClampNeg) 0) ((1 : Int32).toNatClampNeg) 0) ((2 : Int32).toNatClampNeg) 0) ((3 : Int32).toNatClampNeg) 0) ((4 : Int32).toNatClampNeg) 0)) ∧ S'.1 191 = .inr (10, [.ref 7, .ref 192, .ref 193, .ref 194, .ref 195, .int (0 + 1), .int 0, .int 0]) ∧ S'.1 192 = .inl (0, 701, .inl (upd (fun _ => 0) ((0 : Int32).toNatClampNeg) 0)) ∧ S'.1 193 = .inl (0, 701, .inl (upd (fun _ => 0) ((0 : Int32).toNatClampNeg) 0)) ∧ S'.1 194 = .inl (0, 701, .inl (upd (fun _ => 0) ((0 : Int32).toNatClampNeg) 0)) ∧ S'.1 195 = .inl (1, 701, .inr (.inl (vp_updL (fun _ => 0) ((0 : Int32).toNatClampNeg) (-1)))) ∧ S'.1 196 = .inr (5, [.ref 6, .ref 191, .null, .null, .null, .int 0, .int 0, .int 1]) ∧ S'.1 5 = .inr (2, [.ref 6, .ref 191, .ref 196, .int 1, .int ((upd (fun _ => 0) ((0 : Int32).toNatClampNeg) 0) (0 : Int32).toNatClampNeg)]) ∧ ∀ j, j ≠ 7 → j ≠ 6 → j ≠ 190 → j ≠ 191 → j ≠ 192 → j ≠ 193 → j ≠ 194 → j ≠ 195 → j ≠ 196 → j ≠ 5 → S'.1 j = M j) := by
  refine mm_Cm_of hst (by decide) (Nat.le_of_ble_eq_true rfl) ?_
  show mm_V g l RX2 "run" cX2_run 3 (some .int) [] (d + 4) 0 0 _ 0 [some (.ref 5), some (.ref 1), none] [] (M, 1186, false) 0 0
  refine mm_aload_n dX2_run_0 rfl rfl ?_
  refine mm_get3 (ci := 2) in_X2 rfl (k := 0) (by decide) rfl kF_X2_12 dX2_run_1 h5 (Nat.le_of_ble_eq_true rfl) rfl ?_
  refine mm_callV3 (ci := 6) wM_X6_clear kM_X2_44 wI_X6_clear wS_X6_clear dX2_run_4 (k2_X6_clear hst _ h6 h7 h190) h6 (Nat.le_of_ble_eq_true rfl) rfl rfl rfl (Nat.le_of_ble_eq_true rfl) (by omega) (by omega) (fun v S9 hq => ?_)
  obtain ⟨M5, z5⟩ := S9
  obtain ⟨rfl, hz5, g5_7, g5_6, g5_190, g5_F⟩ := hq
  cases hz5
  refine ⟨fun h => ⟨h, rfl⟩, ?_⟩
  refine mm_aload_n dX2_run_7 rfl rfl ?_
  refine mm_get3 (ci := 2) in_X2 rfl (k := 0) (by decide) rfl kF_X2_12 dX2_run_8 (mm_frN (g5_F _ (by decide) (by decide) (by decide)) h5) (Nat.le_of_ble_eq_true rfl) rfl ?_
  refine mm_callV3 (ci := 6) wM_X6_text kM_X2_20 wI_X6_text wS_X6_text dX2_run_11 (k6_X6_text hst _ g5_6) g5_6 (Nat.le_of_ble_eq_true rfl) rfl rfl rfl (Nat.le_of_ble_eq_true rfl) (by omega) (by omega) (fun v S9 hq => ?_)
  obtain ⟨rfl, rfl⟩ := hq
  refine ⟨fun h => ⟨h, rfl⟩, ?_⟩
  refine mm_aload_n dX2_run_14 rfl rfl ?_
  refine mm_iconst (v := 0) dX2_run_15 (by decide) ?_
  refine mm_aload_n dX2_run_16 rfl rfl ?_
  refine mm_callV3 (ci := 0) wM_X0_size kM_X2_47 wI_X0_size wS_X0_size dX2_run_17 (k8_X0_size hst _ (mm_frN (g5_F _ (by decide) (by decide) (by decide)) h1)) (mm_frN (g5_F _ (by decide) (by decide) (by decide)) h1) (Nat.le_of_ble_eq_true rfl) rfl rfl rfl (Nat.le_of_ble_eq_true rfl) (by omega) (by omega) (fun v S9 hq => ?_)
  obtain ⟨rfl, rfl⟩ := hq
  refine ⟨fun h => ⟨h, rfl⟩, ?_⟩
  refine mm_callV3 (ci := 0) wM_X0_addAll kM_X2_53 wI_X0_addAll wS_X0_addAll dX2_run_20 (k10_X0_addAll hst _ ) g5_7 (Nat.le_of_ble_eq_true rfl) rfl rfl rfl (Nat.le_of_ble_eq_true rfl) (by omega) (by omega) (fun v S9 hq => ?_)
  obtain ⟨rfl, rfl⟩ := hq
  refine ⟨fun h => ⟨h, rfl⟩, ?_⟩
  refine mm_aload_n dX2_run_23 rfl rfl ?_
  refine mm_get3 (ci := 2) in_X2 rfl (k := 1) (by decide) rfl kF_X2_27 dX2_run_24 (mm_frN (g5_F _ (by decide) (by decide) (by decide)) h5) (Nat.le_of_ble_eq_true rfl) rfl ?_
  refine mm_callV3 (ci := 10) wM_X10_split kM_X2_57 wI_X10_split wS_X10_split dX2_run_27 (k12_X10_split hst _ g5_7 (mm_frN (g5_F _ (by decide) (by decide) (by decide)) h191) (mm_frN (g5_F _ (by decide) (by decide) (by decide)) h192) (mm_frN (g5_F _ (by decide) (by decide) (by decide)) h193) (mm_frN (g5_F _ (by decide) (by decide) (by decide)) h194) (mm_frN (g5_F _ (by decide) (by decide) (by decide)) h195)) (mm_frN (g5_F _ (by decide) (by decide) (by decide)) h191) (Nat.le_of_ble_eq_true rfl) rfl rfl rfl (Nat.le_of_ble_eq_true rfl) (by omega) (by omega) (fun v S9 hq => ?_)
  obtain ⟨M23, z23⟩ := S9
  obtain ⟨rfl, hz23, g23_191, g23_192, g23_193, g23_194, g23_195, g23_F⟩ := hq
  cases hz23
  refine ⟨fun h => ⟨h, rfl⟩, ?_⟩
  refine mm_aload_n dX2_run_30 rfl rfl ?_
  refine mm_aload_n dX2_run_31 rfl rfl ?_
  refine mm_get3 (ci := 2) in_X2 rfl (k := 2) (by decide) rfl kF_X2_36 dX2_run_32 (mm_frN (g23_F _ (by decide) (by decide) (by decide) (by decide) (by decide)) (mm_frN (g5_F _ (by decide) (by decide) (by decide)) h5)) (Nat.le_of_ble_eq_true rfl) rfl ?_
  refine mm_callV3 (ci := 5) wM_X5_read kM_X2_60 wI_X5_read wS_X5_read dX2_run_35 (k24_X5_read hst _ g23_191 g23_192 g23_195 (mm_frN (g23_F _ (by decide) (by decide) (by decide) (by decide) (by decide)) (mm_frN (g5_F _ (by decide) (by decide) (by decide)) h196))) (mm_frN (g23_F _ (by decide) (by decide) (by decide) (by decide) (by decide)) (mm_frN (g5_F _ (by decide) (by decide) (by decide)) h196)) (Nat.le_of_ble_eq_true rfl) rfl rfl rfl (Nat.le_of_ble_eq_true rfl) (by omega) (by omega) (fun v S9 hq => ?_)
  obtain ⟨M33, z33⟩ := S9
  obtain ⟨rfl, hz33, g33_196, g33_F⟩ := hq
  cases hz33
  refine ⟨fun h => ⟨h, rfl⟩, ?_⟩
  refine mm_put3 (ci := 2) (fs1 := [.ref 6, .ref 191, .ref 196, .int 1, .int 0]) in_X2 tyX2_ok nmX2 rfl (k := 3) (by decide) rfl rfl kF_X2_63 dX2_run_38 (mm_fit_int _) (mm_frN (g33_F _ (by decide)) (mm_frN (g23_F _ (by decide) (by decide) (by decide) (by decide) (by decide)) (mm_frN (g5_F _ (by decide) (by decide) (by decide)) h5))) (Nat.le_of_ble_eq_true rfl) (Nat.le_of_ble_eq_true rfl) rfl ?_
  refine mm_aload_n dX2_run_41 rfl rfl ?_
  refine mm_aload_n dX2_run_42 rfl rfl ?_
  refine mm_get3 (ci := 2) in_X2 rfl (k := 3) (by decide) rfl kF_X2_63 dX2_run_43 mm_up_s (Nat.le_of_ble_eq_true rfl) rfl ?_
  refine mm_if_ne 53 dX2_run_46 (by decide) (fun _ => ?_) (fun h => absurd h (by decide))
  refine mm_aload_n dX2_run_53 rfl rfl ?_
  refine mm_get3 (ci := 2) in_X2 rfl (k := 2) (by decide) rfl kF_X2_36 dX2_run_54 mm_up_s (Nat.le_of_ble_eq_true rfl) rfl ?_
  refine mm_callV3 (ci := 5) wM_X5_endPlace kM_X2_66 wI_X5_endPlace wS_X5_endPlace dX2_run_57 (k34_X5_endPlace hst _ (mm_upN (by decide) (mm_frN (g33_F _ (by decide)) g23_191)) (mm_upN (by decide) (mm_frN (g33_F _ (by decide)) g23_193)) (mm_upN (by decide) g33_196)) (mm_upN (by decide) g33_196) (Nat.le_of_ble_eq_true rfl) rfl rfl rfl (Nat.le_of_ble_eq_true rfl) (by omega) (by omega) (fun v S9 hq => ?_)
  obtain ⟨rfl, rfl⟩ := hq
  refine ⟨fun h => ⟨h, rfl⟩, ?_⟩
  refine mm_put3 (ci := 2) (fs1 := [.ref 6, .ref 191, .ref 196, .int 1, .int ((upd (fun _ => 0) ((0 : Int32).toNatClampNeg) 0) (0 : Int32).toNatClampNeg)]) in_X2 tyX2_ok nmX2 rfl (k := 4) (by decide) rfl rfl kF_X2_40 dX2_run_60 (mm_fit_int _) mm_up_s (Nat.le_of_ble_eq_true rfl) (Nat.le_of_ble_eq_true rfl) rfl ?_
  refine mm_iconst (v := 0) dX2_run_63 (by decide) ?_
  refine mm_istore_n [some (.ref 5), some (.ref 1), some (.int 0)] dX2_run_64 (by decide) rfl ?_
  refine mm_iload_n dX2_run_65 rfl ?_
  refine mm_aload_n dX2_run_66 rfl rfl ?_
  refine mm_get3 (ci := 2) in_X2 rfl (k := 0) (by decide) rfl kF_X2_12 dX2_run_67 mm_up_s (Nat.le_of_ble_eq_true rfl) rfl ?_
  refine mm_callV3 (ci := 6) wM_X6_used kM_X2_69 wI_X6_used wS_X6_used dX2_run_70 (k38_X6_used hst _ (mm_upN (by decide) (mm_upN (by decide) (mm_frN (g33_F _ (by decide)) (mm_frN (g23_F _ (by decide) (by decide) (by decide) (by decide) (by decide)) g5_6))))) (mm_upN (by decide) (mm_upN (by decide) (mm_frN (g33_F _ (by decide)) (mm_frN (g23_F _ (by decide) (by decide) (by decide) (by decide) (by decide)) g5_6)))) (Nat.le_of_ble_eq_true rfl) rfl rfl rfl (Nat.le_of_ble_eq_true rfl) (by omega) (by omega) (fun v S9 hq => ?_)
  obtain ⟨rfl, rfl⟩ := hq
  refine ⟨fun h => ⟨h, rfl⟩, ?_⟩
  refine mm_icmp_ge 102 dX2_run_73 (by decide) (fun _ => ?_) (fun h => absurd (by decide) h)
  refine mm_aload_n dX2_run_102 rfl rfl ?_
  refine mm_get3 (ci := 2) in_X2 rfl (k := 3) (by decide) rfl kF_X2_63 dX2_run_103 mm_up_s (Nat.le_of_ble_eq_true rfl) rfl ?_
  refine mm_if_ne 126 dX2_run_106 (by decide) (fun _ => ?_) (fun h => absurd h (by decide))
  refine mm_aload_n dX2_run_126 rfl rfl ?_
  refine mm_get3 (ci := 2) in_X2 rfl (k := 3) (by decide) rfl kF_X2_63 dX2_run_127 mm_up_s (Nat.le_of_ble_eq_true rfl) rfl ?_
  refine mm_if_eq 140 dX2_run_130 (by decide) (fun h => absurd h (by decide)) (fun _ => ?_)
  refine mm_aload_n dX2_run_133 rfl rfl ?_
  refine mm_get3 (ci := 2) in_X2 rfl (k := 0) (by decide) rfl kF_X2_12 dX2_run_134 mm_up_s (Nat.le_of_ble_eq_true rfl) rfl ?_
  refine mm_callV3 (ci := 6) wM_X6_clear kM_X2_44 wI_X6_clear wS_X6_clear dX2_run_137 (k40_X6_clear hst _ (mm_upN (by decide) (mm_upN (by decide) (mm_frN (g33_F _ (by decide)) (mm_frN (g23_F _ (by decide) (by decide) (by decide) (by decide) (by decide)) g5_6)))) (mm_upN (by decide) (mm_upN (by decide) (mm_frN (g33_F _ (by decide)) (mm_frN (g23_F _ (by decide) (by decide) (by decide) (by decide) (by decide)) g5_7)))) (mm_upN (by decide) (mm_upN (by decide) (mm_frN (g33_F _ (by decide)) (mm_frN (g23_F _ (by decide) (by decide) (by decide) (by decide) (by decide)) g5_190))))) (mm_upN (by decide) (mm_upN (by decide) (mm_frN (g33_F _ (by decide)) (mm_frN (g23_F _ (by decide) (by decide) (by decide) (by decide) (by decide)) g5_6)))) (Nat.le_of_ble_eq_true rfl) rfl rfl rfl (Nat.le_of_ble_eq_true rfl) (by omega) (by omega) (fun v S9 hq => ?_)
  obtain ⟨M42, z42⟩ := S9
  obtain ⟨rfl, hz42, g42_7, g42_6, g42_190, g42_F⟩ := hq
  cases hz42
  refine ⟨fun h => ⟨h, rfl⟩, ?_⟩
  refine mm_aload_n dX2_run_140 rfl rfl ?_
  refine mm_get3 (ci := 2) in_X2 rfl (k := 3) (by decide) rfl kF_X2_63 dX2_run_141 (mm_frN (g42_F _ (by decide) (by decide) (by decide)) mm_up_s) (Nat.le_of_ble_eq_true rfl) rfl ?_
  refine mm_iret dX2_run_144 rfl rfl ?_ (by omega) (by omega)
  refine ⟨rfl, rfl, ?_⟩
  dsimp only
  exact ⟨g42_7, g42_6, g42_190, (mm_frN (g42_F _ (by decide) (by decide) (by decide)) (mm_upN (by decide) (mm_upN (by decide) (mm_frN (g33_F _ (by decide)) g23_191)))), (mm_frN (g42_F _ (by decide) (by decide) (by decide)) (mm_upN (by decide) (mm_upN (by decide) (mm_frN (g33_F _ (by decide)) g23_192)))), (mm_frN (g42_F _ (by decide) (by decide) (by decide)) (mm_upN (by decide) (mm_upN (by decide) (mm_frN (g33_F _ (by decide)) g23_193)))), (mm_frN (g42_F _ (by decide) (by decide) (by decide)) (mm_upN (by decide) (mm_upN (by decide) (mm_frN (g33_F _ (by decide)) g23_194)))), (mm_frN (g42_F _ (by decide) (by decide) (by decide)) (mm_upN (by decide) (mm_upN (by decide) (mm_frN (g33_F _ (by decide)) g23_195)))), (mm_frN (g42_F _ (by decide) (by decide) (by decide)) (mm_upN (by decide) (mm_upN (by decide) g33_196))), (mm_frN (g42_F _ (by decide) (by decide) (by decide)) mm_up_s), fun x e7 e6 e190 e191 e192 e193 e194 e195 e196 e5 => mm_frN (g42_F _ e7 e6 e190 ) (mm_upN e5 (mm_upN e5 (mm_frN (g33_F _ e196 ) (mm_frN (g23_F _ e191 e192 e193 e194 e195 ) (mm_frN (g5_F _ e7 e6 e190 ) (rfl))))))⟩
end
