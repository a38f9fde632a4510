section
-- ===== PART A: goes FIRST, ahead of the names: the tables' words, and 'selects' of the private methods out of them =====
/-- a private method of a class that the tables say can be made, by its rows of tables_1 -/
def lw_okq (q : MethodName × Nat) : Prop := (q.1.cls ≠ "java/lang/invoke/MethodHandle" ∧ q.1.cls ≠ "java/lang/invoke/VarHandle") ∧ Cond.instantiable q.1.cls q.2 ∈ tables_1 ∧ Cond.privateMethod q.1 ∈ tables_1 ∧ Cond.instanceMethod q.1 ∈ tables_1
theorem lw_p0 : lw_okq (⟨"TaggedPascal$Names", "ofKind", "(I)LTaggedPascal$Type;"⟩, 9) := ⟨⟨by decide +kernel, by decide +kernel⟩, List.mem_of_getElem? (i := 188) (by decide +kernel), List.mem_of_getElem? (i := 318) (by decide +kernel), List.mem_of_getElem? (i := 319) (by decide +kernel)⟩
theorem lw_p1 : lw_okq (⟨"TaggedPascal$Words", "skipBlanks", "()V"⟩, 10) := ⟨⟨by decide +kernel, by decide +kernel⟩, List.mem_of_getElem? (i := 53) (by decide +kernel), List.mem_of_getElem? (i := 540) (by decide +kernel), List.mem_of_getElem? (i := 541) (by decide +kernel)⟩
theorem lw_p2 : lw_okq (⟨"TaggedPascal$Words", "behindRemark", "()I"⟩, 10) := ⟨⟨by decide +kernel, by decide +kernel⟩, List.mem_of_getElem? (i := 53) (by decide +kernel), List.mem_of_getElem? (i := 548) (by decide +kernel), List.mem_of_getElem? (i := 549) (by decide +kernel)⟩
theorem lw_p3 : lw_okq (⟨"TaggedPascal$Words", "scanWord", "()V"⟩, 10) := ⟨⟨by decide +kernel, by decide +kernel⟩, List.mem_of_getElem? (i := 53) (by decide +kernel), List.mem_of_getElem? (i := 553) (by decide +kernel), List.mem_of_getElem? (i := 554) (by decide +kernel)⟩
theorem lw_p4 : lw_okq (⟨"TaggedPascal$Words", "add", "(IIJ)V"⟩, 10) := ⟨⟨by decide +kernel, by decide +kernel⟩, List.mem_of_getElem? (i := 53) (by decide +kernel), List.mem_of_getElem? (i := 557) (by decide +kernel), List.mem_of_getElem? (i := 558) (by decide +kernel)⟩
theorem lw_p5 : lw_okq (⟨"TaggedPascal$Words", "scanNumber", "()V"⟩, 10) := ⟨⟨by decide +kernel, by decide +kernel⟩, List.mem_of_getElem? (i := 53) (by decide +kernel), List.mem_of_getElem? (i := 561) (by decide +kernel), List.mem_of_getElem? (i := 562) (by decide +kernel)⟩
theorem lw_p6 : lw_okq (⟨"TaggedPascal$Words", "scanName", "()V"⟩, 10) := ⟨⟨by decide +kernel, by decide +kernel⟩, List.mem_of_getElem? (i := 53) (by decide +kernel), List.mem_of_getElem? (i := 573) (by decide +kernel), List.mem_of_getElem? (i := 574) (by decide +kernel)⟩
theorem lw_p7 : lw_okq (⟨"TaggedPascal$Words", "kindOf", "(J)I"⟩, 10) := ⟨⟨by decide +kernel, by decide +kernel⟩, List.mem_of_getElem? (i := 53) (by decide +kernel), List.mem_of_getElem? (i := 577) (by decide +kernel), List.mem_of_getElem? (i := 578) (by decide +kernel)⟩
theorem lw_p8 : lw_okq (⟨"TaggedPascal$Words", "scanString", "()V"⟩, 10) := ⟨⟨by decide +kernel, by decide +kernel⟩, List.mem_of_getElem? (i := 53) (by decide +kernel), List.mem_of_getElem? (i := 581) (by decide +kernel), List.mem_of_getElem? (i := 582) (by decide +kernel)⟩
theorem lw_p9 : lw_okq (⟨"TaggedPascal$Words", "scanSign", "(I)V"⟩, 10) := ⟨⟨by decide +kernel, by decide +kernel⟩, List.mem_of_getElem? (i := 53) (by decide +kernel), List.mem_of_getElem? (i := 588) (by decide +kernel), List.mem_of_getElem? (i := 589) (by decide +kernel)⟩
theorem lw_p10 : lw_okq (⟨"java/lang/Throwable", "fillInStackTrace", "(I)Ljava/lang/Throwable;"⟩, 6) := ⟨⟨by decide +kernel, by decide +kernel⟩, List.mem_of_getElem? (i := 643) (by decide +kernel), List.mem_of_getElem? (i := 641) (by decide +kernel), List.mem_of_getElem? (i := 642) (by decide +kernel)⟩
theorem lw_p11 : lw_okq (⟨"TaggedPascal$Blocks", "constants", "()V"⟩, 5) := ⟨⟨by decide +kernel, by decide +kernel⟩, List.mem_of_getElem? (i := 182) (by decide +kernel), List.mem_of_getElem? (i := 711) (by decide +kernel), List.mem_of_getElem? (i := 712) (by decide +kernel)⟩
theorem lw_p12 : lw_okq (⟨"TaggedPascal$Blocks", "declare", "(Z)LTaggedPascal$Name;"⟩, 5) := ⟨⟨by decide +kernel, by decide +kernel⟩, List.mem_of_getElem? (i := 182) (by decide +kernel), List.mem_of_getElem? (i := 723) (by decide +kernel), List.mem_of_getElem? (i := 724) (by decide +kernel)⟩
theorem lw_p13 : lw_okq (⟨"TaggedPascal$Expressions", "isOneByte", "()Z"⟩, 4) := ⟨⟨by decide +kernel, by decide +kernel⟩, List.mem_of_getElem? (i := 351) (by decide +kernel), List.mem_of_getElem? (i := 780) (by decide +kernel), List.mem_of_getElem? (i := 781) (by decide +kernel)⟩
theorem lw_p14 : lw_okq (⟨"TaggedPascal$Blocks", "types", "()V"⟩, 5) := ⟨⟨by decide +kernel, by decide +kernel⟩, List.mem_of_getElem? (i := 182) (by decide +kernel), List.mem_of_getElem? (i := 800) (by decide +kernel), List.mem_of_getElem? (i := 801) (by decide +kernel)⟩
theorem lw_p15 : lw_okq (⟨"TaggedPascal$Blocks", "type", "()LTaggedPascal$Type;"⟩, 5) := ⟨⟨by decide +kernel, by decide +kernel⟩, List.mem_of_getElem? (i := 182) (by decide +kernel), List.mem_of_getElem? (i := 804) (by decide +kernel), List.mem_of_getElem? (i := 805) (by decide +kernel)⟩
def lw_privs_1 : List (MethodName × Nat) := [(⟨"TaggedPascal$Names", "ofKind", "(I)LTaggedPascal$Type;"⟩, 9), (⟨"TaggedPascal$Words", "skipBlanks", "()V"⟩, 10), (⟨"TaggedPascal$Words", "behindRemark", "()I"⟩, 10), (⟨"TaggedPascal$Words", "scanWord", "()V"⟩, 10), (⟨"TaggedPascal$Words", "add", "(IIJ)V"⟩, 10), (⟨"TaggedPascal$Words", "scanNumber", "()V"⟩, 10), (⟨"TaggedPascal$Words", "scanName", "()V"⟩, 10), (⟨"TaggedPascal$Words", "kindOf", "(J)I"⟩, 10), (⟨"TaggedPascal$Words", "scanString", "()V"⟩, 10), (⟨"TaggedPascal$Words", "scanSign", "(I)V"⟩, 10), (⟨"java/lang/Throwable", "fillInStackTrace", "(I)Ljava/lang/Throwable;"⟩, 6), (⟨"TaggedPascal$Blocks", "constants", "()V"⟩, 5), (⟨"TaggedPascal$Blocks", "declare", "(Z)LTaggedPascal$Name;"⟩, 5), (⟨"TaggedPascal$Expressions", "isOneByte", "()Z"⟩, 4), (⟨"TaggedPascal$Blocks", "types", "()V"⟩, 5), (⟨"TaggedPascal$Blocks", "type", "()LTaggedPascal$Type;"⟩, 5)]
theorem lw_r1 : ∀ q ∈ lw_privs_1, lw_okq q := List.forall_mem_cons.mpr ⟨lw_p0, List.forall_mem_cons.mpr ⟨lw_p1, List.forall_mem_cons.mpr ⟨lw_p2, List.forall_mem_cons.mpr ⟨lw_p3, List.forall_mem_cons.mpr ⟨lw_p4, List.forall_mem_cons.mpr ⟨lw_p5, List.forall_mem_cons.mpr ⟨lw_p6, List.forall_mem_cons.mpr ⟨lw_p7, List.forall_mem_cons.mpr ⟨lw_p8, List.forall_mem_cons.mpr ⟨lw_p9, List.forall_mem_cons.mpr ⟨lw_p10, List.forall_mem_cons.mpr ⟨lw_p11, List.forall_mem_cons.mpr ⟨lw_p12, List.forall_mem_cons.mpr ⟨lw_p13, List.forall_mem_cons.mpr ⟨lw_p14, List.forall_mem_cons.mpr ⟨lw_p15, fun _ h => absurd h List.not_mem_nil⟩⟩⟩⟩⟩⟩⟩⟩⟩⟩⟩⟩⟩⟩⟩⟩
theorem lw_p16 : lw_okq (⟨"TaggedPascal$Blocks", "plainType", "(I)LTaggedPascal$Type;"⟩, 5) := ⟨⟨by decide +kernel, by decide +kernel⟩, List.mem_of_getElem? (i := 182) (by decide +kernel), List.mem_of_getElem? (i := 808) (by decide +kernel), List.mem_of_getElem? (i := 809) (by decide +kernel)⟩
theorem lw_p17 : lw_okq (⟨"TaggedPascal$Blocks", "typeByName", "(I)LTaggedPascal$Type;"⟩, 5) := ⟨⟨by decide +kernel, by decide +kernel⟩, List.mem_of_getElem? (i := 182) (by decide +kernel), List.mem_of_getElem? (i := 815) (by decide +kernel), List.mem_of_getElem? (i := 816) (by decide +kernel)⟩
theorem lw_p18 : lw_okq (⟨"TaggedPascal$Blocks", "variables", "(LTaggedPascal$Routine;)V"⟩, 5) := ⟨⟨by decide +kernel, by decide +kernel⟩, List.mem_of_getElem? (i := 182) (by decide +kernel), List.mem_of_getElem? (i := 832) (by decide +kernel), List.mem_of_getElem? (i := 833) (by decide +kernel)⟩
theorem lw_p19 : lw_okq (⟨"TaggedPascal$Blocks", "settle", "(LTaggedPascal$Routine;ILTaggedPascal$Type;Z)V"⟩, 5) := ⟨⟨by decide +kernel, by decide +kernel⟩, List.mem_of_getElem? (i := 182) (by decide +kernel), List.mem_of_getElem? (i := 840) (by decide +kernel), List.mem_of_getElem? (i := 841) (by decide +kernel)⟩
theorem lw_p20 : lw_okq (⟨"TaggedPascal$Blocks", "isRoutine", "()Z"⟩, 5) := ⟨⟨by decide +kernel, by decide +kernel⟩, List.mem_of_getElem? (i := 182) (by decide +kernel), List.mem_of_getElem? (i := 851) (by decide +kernel), List.mem_of_getElem? (i := 852) (by decide +kernel)⟩
theorem lw_p21 : lw_okq (⟨"TaggedPascal$Blocks", "innerRoutine", "()V"⟩, 5) := ⟨⟨by decide +kernel, by decide +kernel⟩, List.mem_of_getElem? (i := 182) (by decide +kernel), List.mem_of_getElem? (i := 855) (by decide +kernel), List.mem_of_getElem? (i := 856) (by decide +kernel)⟩
theorem lw_p22 : lw_okq (⟨"TaggedPascal$Blocks", "heading", "(LTaggedPascal$Routine;Z)V"⟩, 5) := ⟨⟨by decide +kernel, by decide +kernel⟩, List.mem_of_getElem? (i := 182) (by decide +kernel), List.mem_of_getElem? (i := 859) (by decide +kernel), List.mem_of_getElem? (i := 860) (by decide +kernel)⟩
theorem lw_p23 : lw_okq (⟨"TaggedPascal$Blocks", "parameterGroup", "(LTaggedPascal$Routine;)V"⟩, 5) := ⟨⟨by decide +kernel, by decide +kernel⟩, List.mem_of_getElem? (i := 182) (by decide +kernel), List.mem_of_getElem? (i := 863) (by decide +kernel), List.mem_of_getElem? (i := 864) (by decide +kernel)⟩
theorem lw_p24 : lw_okq (⟨"TaggedPascal$Statements", "statement", "(I)V"⟩, 6) := ⟨⟨by decide +kernel, by decide +kernel⟩, List.mem_of_getElem? (i := 370) (by decide +kernel), List.mem_of_getElem? (i := 885) (by decide +kernel), List.mem_of_getElem? (i := 886) (by decide +kernel)⟩
theorem lw_p25 : lw_okq (⟨"TaggedPascal$Statements", "counted", "(I)V"⟩, 6) := ⟨⟨by decide +kernel, by decide +kernel⟩, List.mem_of_getElem? (i := 370) (by decide +kernel), List.mem_of_getElem? (i := 894) (by decide +kernel), List.mem_of_getElem? (i := 895) (by decide +kernel)⟩
theorem lw_p26 : lw_okq (⟨"TaggedPascal$Statements", "named", "(I)V"⟩, 6) := ⟨⟨by decide +kernel, by decide +kernel⟩, List.mem_of_getElem? (i := 370) (by decide +kernel), List.mem_of_getElem? (i := 902) (by decide +kernel), List.mem_of_getElem? (i := 903) (by decide +kernel)⟩
theorem lw_p27 : lw_okq (⟨"TaggedPascal$Expressions", "argument", "(LTaggedPascal$Type;ZI)V"⟩, 4) := ⟨⟨by decide +kernel, by decide +kernel⟩, List.mem_of_getElem? (i := 351) (by decide +kernel), List.mem_of_getElem? (i := 913) (by decide +kernel), List.mem_of_getElem? (i := 914) (by decide +kernel)⟩
theorem lw_p28 : lw_okq (⟨"TaggedPascal$Expressions", "simple", "(I)I"⟩, 4) := ⟨⟨by decide +kernel, by decide +kernel⟩, List.mem_of_getElem? (i := 351) (by decide +kernel), List.mem_of_getElem? (i := 930) (by decide +kernel), List.mem_of_getElem? (i := 931) (by decide +kernel)⟩
theorem lw_p29 : lw_okq (⟨"TaggedPascal$Expressions", "term", "(I)I"⟩, 4) := ⟨⟨by decide +kernel, by decide +kernel⟩, List.mem_of_getElem? (i := 351) (by decide +kernel), List.mem_of_getElem? (i := 934) (by decide +kernel), List.mem_of_getElem? (i := 935) (by decide +kernel)⟩
theorem lw_p30 : lw_okq (⟨"TaggedPascal$Expressions", "factor", "(I)I"⟩, 4) := ⟨⟨by decide +kernel, by decide +kernel⟩, List.mem_of_getElem? (i := 351) (by decide +kernel), List.mem_of_getElem? (i := 938) (by decide +kernel), List.mem_of_getElem? (i := 939) (by decide +kernel)⟩
theorem lw_p31 : lw_okq (⟨"TaggedPascal$Expressions", "named", "(I)I"⟩, 4) := ⟨⟨by decide +kernel, by decide +kernel⟩, List.mem_of_getElem? (i := 351) (by decide +kernel), List.mem_of_getElem? (i := 948) (by decide +kernel), List.mem_of_getElem? (i := 949) (by decide +kernel)⟩
def lw_privs_2 : List (MethodName × Nat) := [(⟨"TaggedPascal$Blocks", "plainType", "(I)LTaggedPascal$Type;"⟩, 5), (⟨"TaggedPascal$Blocks", "typeByName", "(I)LTaggedPascal$Type;"⟩, 5), (⟨"TaggedPascal$Blocks", "variables", "(LTaggedPascal$Routine;)V"⟩, 5), (⟨"TaggedPascal$Blocks", "settle", "(LTaggedPascal$Routine;ILTaggedPascal$Type;Z)V"⟩, 5), (⟨"TaggedPascal$Blocks", "isRoutine", "()Z"⟩, 5), (⟨"TaggedPascal$Blocks", "innerRoutine", "()V"⟩, 5), (⟨"TaggedPascal$Blocks", "heading", "(LTaggedPascal$Routine;Z)V"⟩, 5), (⟨"TaggedPascal$Blocks", "parameterGroup", "(LTaggedPascal$Routine;)V"⟩, 5), (⟨"TaggedPascal$Statements", "statement", "(I)V"⟩, 6), (⟨"TaggedPascal$Statements", "counted", "(I)V"⟩, 6), (⟨"TaggedPascal$Statements", "named", "(I)V"⟩, 6), (⟨"TaggedPascal$Expressions", "argument", "(LTaggedPascal$Type;ZI)V"⟩, 4), (⟨"TaggedPascal$Expressions", "simple", "(I)I"⟩, 4), (⟨"TaggedPascal$Expressions", "term", "(I)I"⟩, 4), (⟨"TaggedPascal$Expressions", "factor", "(I)I"⟩, 4), (⟨"TaggedPascal$Expressions", "named", "(I)I"⟩, 4)]
theorem lw_r2 : ∀ q ∈ lw_privs_2, lw_okq q := List.forall_mem_cons.mpr ⟨lw_p16, List.forall_mem_cons.mpr ⟨lw_p17, List.forall_mem_cons.mpr ⟨lw_p18, List.forall_mem_cons.mpr ⟨lw_p19, List.forall_mem_cons.mpr ⟨lw_p20, List.forall_mem_cons.mpr ⟨lw_p21, List.forall_mem_cons.mpr ⟨lw_p22, List.forall_mem_cons.mpr ⟨lw_p23, List.forall_mem_cons.mpr ⟨lw_p24, List.forall_mem_cons.mpr ⟨lw_p25, List.forall_mem_cons.mpr ⟨lw_p26, List.forall_mem_cons.mpr ⟨lw_p27, List.forall_mem_cons.mpr ⟨lw_p28, List.forall_mem_cons.mpr ⟨lw_p29, List.forall_mem_cons.mpr ⟨lw_p30, List.forall_mem_cons.mpr ⟨lw_p31, fun _ h => absurd h List.not_mem_nil⟩⟩⟩⟩⟩⟩⟩⟩⟩⟩⟩⟩⟩⟩⟩⟩
theorem lw_p32 : lw_okq (⟨"TaggedPascal$Expressions", "standard", "(II)I"⟩, 4) := ⟨⟨by decide +kernel, by decide +kernel⟩, List.mem_of_getElem? (i := 351) (by decide +kernel), List.mem_of_getElem? (i := 954) (by decide +kernel), List.mem_of_getElem? (i := 955) (by decide +kernel)⟩
theorem lw_p33 : lw_okq (⟨"TaggedPascal$Expressions", "apply", "(II)I"⟩, 4) := ⟨⟨by decide +kernel, by decide +kernel⟩, List.mem_of_getElem? (i := 351) (by decide +kernel), List.mem_of_getElem? (i := 958) (by decide +kernel), List.mem_of_getElem? (i := 959) (by decide +kernel)⟩
theorem lw_p34 : lw_okq (⟨"TaggedPascal$Expressions", "negation", "(I)I"⟩, 4) := ⟨⟨by decide +kernel, by decide +kernel⟩, List.mem_of_getElem? (i := 351) (by decide +kernel), List.mem_of_getElem? (i := 962) (by decide +kernel), List.mem_of_getElem? (i := 963) (by decide +kernel)⟩
theorem lw_p35 : lw_okq (⟨"TaggedPascal$Expressions", "setOfElements", "(I)I"⟩, 4) := ⟨⟨by decide +kernel, by decide +kernel⟩, List.mem_of_getElem? (i := 351) (by decide +kernel), List.mem_of_getElem? (i := 966) (by decide +kernel), List.mem_of_getElem? (i := 967) (by decide +kernel)⟩
theorem lw_p36 : lw_okq (⟨"TaggedPascal$Expressions", "element", "(I)V"⟩, 4) := ⟨⟨by decide +kernel, by decide +kernel⟩, List.mem_of_getElem? (i := 351) (by decide +kernel), List.mem_of_getElem? (i := 970) (by decide +kernel), List.mem_of_getElem? (i := 971) (by decide +kernel)⟩
theorem lw_p37 : lw_okq (⟨"TaggedPascal$Statements", "choiceOfTwo", "(I)V"⟩, 6) := ⟨⟨by decide +kernel, by decide +kernel⟩, List.mem_of_getElem? (i := 370) (by decide +kernel), List.mem_of_getElem? (i := 1004) (by decide +kernel), List.mem_of_getElem? (i := 1005) (by decide +kernel)⟩
theorem lw_p38 : lw_okq (⟨"TaggedPascal$Statements", "step", "()V"⟩, 6) := ⟨⟨by decide +kernel, by decide +kernel⟩, List.mem_of_getElem? (i := 370) (by decide +kernel), List.mem_of_getElem? (i := 1008) (by decide +kernel), List.mem_of_getElem? (i := 1009) (by decide +kernel)⟩
theorem lw_p39 : lw_okq (⟨"TaggedPascal$Statements", "condition", "(I)V"⟩, 6) := ⟨⟨by decide +kernel, by decide +kernel⟩, List.mem_of_getElem? (i := 370) (by decide +kernel), List.mem_of_getElem? (i := 1012) (by decide +kernel), List.mem_of_getElem? (i := 1013) (by decide +kernel)⟩
theorem lw_p40 : lw_okq (⟨"TaggedPascal$Statements", "whileLoop", "(I)V"⟩, 6) := ⟨⟨by decide +kernel, by decide +kernel⟩, List.mem_of_getElem? (i := 370) (by decide +kernel), List.mem_of_getElem? (i := 1018) (by decide +kernel), List.mem_of_getElem? (i := 1019) (by decide +kernel)⟩
theorem lw_p41 : lw_okq (⟨"TaggedPascal$Statements", "repeatLoop", "(I)V"⟩, 6) := ⟨⟨by decide +kernel, by decide +kernel⟩, List.mem_of_getElem? (i := 370) (by decide +kernel), List.mem_of_getElem? (i := 1024) (by decide +kernel), List.mem_of_getElem? (i := 1025) (by decide +kernel)⟩
theorem lw_p42 : lw_okq (⟨"TaggedPascal$Statements", "forLoop", "(I)V"⟩, 6) := ⟨⟨by decide +kernel, by decide +kernel⟩, List.mem_of_getElem? (i := 370) (by decide +kernel), List.mem_of_getElem? (i := 1028) (by decide +kernel), List.mem_of_getElem? (i := 1029) (by decide +kernel)⟩
theorem lw_p43 : lw_okq (⟨"TaggedPascal$Statements", "choiceOfMany", "(I)V"⟩, 6) := ⟨⟨by decide +kernel, by decide +kernel⟩, List.mem_of_getElem? (i := 370) (by decide +kernel), List.mem_of_getElem? (i := 1034) (by decide +kernel), List.mem_of_getElem? (i := 1035) (by decide +kernel)⟩
theorem lw_p44 : lw_okq (⟨"TaggedPascal$Statements", "choice", "(IIII)I"⟩, 6) := ⟨⟨by decide +kernel, by decide +kernel⟩, List.mem_of_getElem? (i := 370) (by decide +kernel), List.mem_of_getElem? (i := 1038) (by decide +kernel), List.mem_of_getElem? (i := 1039) (by decide +kernel)⟩
theorem lw_p45 : lw_okq (⟨"TaggedPascal$Statements", "label", "(III)I"⟩, 6) := ⟨⟨by decide +kernel, by decide +kernel⟩, List.mem_of_getElem? (i := 370) (by decide +kernel), List.mem_of_getElem? (i := 1042) (by decide +kernel), List.mem_of_getElem? (i := 1043) (by decide +kernel)⟩
theorem lw_p46 : lw_okq (⟨"TaggedPascal$Statements", "reading", "(I)V"⟩, 6) := ⟨⟨by decide +kernel, by decide +kernel⟩, List.mem_of_getElem? (i := 370) (by decide +kernel), List.mem_of_getElem? (i := 1048) (by decide +kernel), List.mem_of_getElem? (i := 1049) (by decide +kernel)⟩
theorem lw_p47 : lw_okq (⟨"TaggedPascal$Statements", "items", "(I)V"⟩, 6) := ⟨⟨by decide +kernel, by decide +kernel⟩, List.mem_of_getElem? (i := 370) (by decide +kernel), List.mem_of_getElem? (i := 1052) (by decide +kernel), List.mem_of_getElem? (i := 1053) (by decide +kernel)⟩
def lw_privs_3 : List (MethodName × Nat) := [(⟨"TaggedPascal$Expressions", "standard", "(II)I"⟩, 4), (⟨"TaggedPascal$Expressions", "apply", "(II)I"⟩, 4), (⟨"TaggedPascal$Expressions", "negation", "(I)I"⟩, 4), (⟨"TaggedPascal$Expressions", "setOfElements", "(I)I"⟩, 4), (⟨"TaggedPascal$Expressions", "element", "(I)V"⟩, 4), (⟨"TaggedPascal$Statements", "choiceOfTwo", "(I)V"⟩, 6), (⟨"TaggedPascal$Statements", "step", "()V"⟩, 6), (⟨"TaggedPascal$Statements", "condition", "(I)V"⟩, 6), (⟨"TaggedPascal$Statements", "whileLoop", "(I)V"⟩, 6), (⟨"TaggedPascal$Statements", "repeatLoop", "(I)V"⟩, 6), (⟨"TaggedPascal$Statements", "forLoop", "(I)V"⟩, 6), (⟨"TaggedPascal$Statements", "choiceOfMany", "(I)V"⟩, 6), (⟨"TaggedPascal$Statements", "choice", "(IIII)I"⟩, 6), (⟨"TaggedPascal$Statements", "label", "(III)I"⟩, 6), (⟨"TaggedPascal$Statements", "reading", "(I)V"⟩, 6), (⟨"TaggedPascal$Statements", "items", "(I)V"⟩, 6)]
theorem lw_r3 : ∀ q ∈ lw_privs_3, lw_okq q := List.forall_mem_cons.mpr ⟨lw_p32, List.forall_mem_cons.mpr ⟨lw_p33, List.forall_mem_cons.mpr ⟨lw_p34, List.forall_mem_cons.mpr ⟨lw_p35, List.forall_mem_cons.mpr ⟨lw_p36, List.forall_mem_cons.mpr ⟨lw_p37, List.forall_mem_cons.mpr ⟨lw_p38, List.forall_mem_cons.mpr ⟨lw_p39, List.forall_mem_cons.mpr ⟨lw_p40, List.forall_mem_cons.mpr ⟨lw_p41, List.forall_mem_cons.mpr ⟨lw_p42, List.forall_mem_cons.mpr ⟨lw_p43, List.forall_mem_cons.mpr ⟨lw_p44, List.forall_mem_cons.mpr ⟨lw_p45, List.forall_mem_cons.mpr ⟨lw_p46, List.forall_mem_cons.mpr ⟨lw_p47, fun _ h => absurd h List.not_mem_nil⟩⟩⟩⟩⟩⟩⟩⟩⟩⟩⟩⟩⟩⟩⟩⟩
theorem lw_p48 : lw_okq (⟨"TaggedPascal$Statements", "longString", "()V"⟩, 6) := ⟨⟨by decide +kernel, by decide +kernel⟩, List.mem_of_getElem? (i := 370) (by decide +kernel), List.mem_of_getElem? (i := 1057) (by decide +kernel), List.mem_of_getElem? (i := 1058) (by decide +kernel)⟩
theorem lw_p49 : lw_okq (⟨"TaggedPascal$Machine", "startAgain", "(I)V"⟩, 19) := ⟨⟨by decide +kernel, by decide +kernel⟩, List.mem_of_getElem? (i := 411) (by decide +kernel), List.mem_of_getElem? (i := 1161) (by decide +kernel), List.mem_of_getElem? (i := 1162) (by decide +kernel)⟩
theorem lw_p50 : lw_okq (⟨"TaggedPascal$Machine", "enter", "(II)Z"⟩, 19) := ⟨⟨by decide +kernel, by decide +kernel⟩, List.mem_of_getElem? (i := 411) (by decide +kernel), List.mem_of_getElem? (i := 1166) (by decide +kernel), List.mem_of_getElem? (i := 1167) (by decide +kernel)⟩
theorem lw_p51 : lw_okq (⟨"TaggedPascal$Machine", "put", "(JJ)V"⟩, 19) := ⟨⟨by decide +kernel, by decide +kernel⟩, List.mem_of_getElem? (i := 411) (by decide +kernel), List.mem_of_getElem? (i := 1387) (by decide +kernel), List.mem_of_getElem? (i := 1388) (by decide +kernel)⟩
theorem lw_p52 : lw_okq (⟨"TaggedPascal$Machine", "operand", "()I"⟩, 19) := ⟨⟨by decide +kernel, by decide +kernel⟩, List.mem_of_getElem? (i := 411) (by decide +kernel), List.mem_of_getElem? (i := 1397) (by decide +kernel), List.mem_of_getElem? (i := 1398) (by decide +kernel)⟩
theorem lw_p53 : lw_okq (⟨"TaggedPascal$Machine", "perform", "(I)V"⟩, 19) := ⟨⟨by decide +kernel, by decide +kernel⟩, List.mem_of_getElem? (i := 411) (by decide +kernel), List.mem_of_getElem? (i := 1405) (by decide +kernel), List.mem_of_getElem? (i := 1406) (by decide +kernel)⟩
theorem lw_p54 : lw_okq (⟨"TaggedPascal$Machine", "pop", "()J"⟩, 19) := ⟨⟨by decide +kernel, by decide +kernel⟩, List.mem_of_getElem? (i := 411) (by decide +kernel), List.mem_of_getElem? (i := 1409) (by decide +kernel), List.mem_of_getElem? (i := 1410) (by decide +kernel)⟩
theorem lw_p55 : lw_okq (⟨"TaggedPascal$Machine", "binary", "(IJJ)V"⟩, 19) := ⟨⟨by decide +kernel, by decide +kernel⟩, List.mem_of_getElem? (i := 411) (by decide +kernel), List.mem_of_getElem? (i := 1413) (by decide +kernel), List.mem_of_getElem? (i := 1414) (by decide +kernel)⟩
theorem lw_p56 : lw_okq (⟨"TaggedPascal$Machine", "push", "(J)V"⟩, 19) := ⟨⟨by decide +kernel, by decide +kernel⟩, List.mem_of_getElem? (i := 411) (by decide +kernel), List.mem_of_getElem? (i := 1417) (by decide +kernel), List.mem_of_getElem? (i := 1418) (by decide +kernel)⟩
theorem lw_p57 : lw_okq (⟨"TaggedPascal$Machine", "divide", "(ZJJ)V"⟩, 19) := ⟨⟨by decide +kernel, by decide +kernel⟩, List.mem_of_getElem? (i := 411) (by decide +kernel), List.mem_of_getElem? (i := 1429) (by decide +kernel), List.mem_of_getElem? (i := 1430) (by decide +kernel)⟩
theorem lw_p58 : lw_okq (⟨"TaggedPascal$Machine", "error", "(I)V"⟩, 19) := ⟨⟨by decide +kernel, by decide +kernel⟩, List.mem_of_getElem? (i := 411) (by decide +kernel), List.mem_of_getElem? (i := 1433) (by decide +kernel), List.mem_of_getElem? (i := 1434) (by decide +kernel)⟩
theorem lw_p59 : lw_okq (⟨"TaggedPascal$Machine", "pushTruth", "(Z)V"⟩, 19) := ⟨⟨by decide +kernel, by decide +kernel⟩, List.mem_of_getElem? (i := 411) (by decide +kernel), List.mem_of_getElem? (i := 1446) (by decide +kernel), List.mem_of_getElem? (i := 1447) (by decide +kernel)⟩
theorem lw_p60 : lw_okq (⟨"TaggedPascal$Machine", "unary", "(IJ)V"⟩, 19) := ⟨⟨by decide +kernel, by decide +kernel⟩, List.mem_of_getElem? (i := 411) (by decide +kernel), List.mem_of_getElem? (i := 1453) (by decide +kernel), List.mem_of_getElem? (i := 1454) (by decide +kernel)⟩
theorem lw_p61 : lw_okq (⟨"TaggedPascal$Machine", "transfer", "(I)V"⟩, 19) := ⟨⟨by decide +kernel, by decide +kernel⟩, List.mem_of_getElem? (i := 411) (by decide +kernel), List.mem_of_getElem? (i := 1460) (by decide +kernel), List.mem_of_getElem? (i := 1461) (by decide +kernel)⟩
theorem lw_p62 : lw_okq (⟨"TaggedPascal$Machine", "readNumber", "()V"⟩, 19) := ⟨⟨by decide +kernel, by decide +kernel⟩, List.mem_of_getElem? (i := 411) (by decide +kernel), List.mem_of_getElem? (i := 1464) (by decide +kernel), List.mem_of_getElem? (i := 1465) (by decide +kernel)⟩
theorem lw_p63 : lw_okq (⟨"TaggedPascal$Machine", "nextByte", "()I"⟩, 19) := ⟨⟨by decide +kernel, by decide +kernel⟩, List.mem_of_getElem? (i := 411) (by decide +kernel), List.mem_of_getElem? (i := 1469) (by decide +kernel), List.mem_of_getElem? (i := 1470) (by decide +kernel)⟩
def lw_privs_4 : List (MethodName × Nat) := [(⟨"TaggedPascal$Statements", "longString", "()V"⟩, 6), (⟨"TaggedPascal$Machine", "startAgain", "(I)V"⟩, 19), (⟨"TaggedPascal$Machine", "enter", "(II)Z"⟩, 19), (⟨"TaggedPascal$Machine", "put", "(JJ)V"⟩, 19), (⟨"TaggedPascal$Machine", "operand", "()I"⟩, 19), (⟨"TaggedPascal$Machine", "perform", "(I)V"⟩, 19), (⟨"TaggedPascal$Machine", "pop", "()J"⟩, 19), (⟨"TaggedPascal$Machine", "binary", "(IJJ)V"⟩, 19), (⟨"TaggedPascal$Machine", "push", "(J)V"⟩, 19), (⟨"TaggedPascal$Machine", "divide", "(ZJJ)V"⟩, 19), (⟨"TaggedPascal$Machine", "error", "(I)V"⟩, 19), (⟨"TaggedPascal$Machine", "pushTruth", "(Z)V"⟩, 19), (⟨"TaggedPascal$Machine", "unary", "(IJ)V"⟩, 19), (⟨"TaggedPascal$Machine", "transfer", "(I)V"⟩, 19), (⟨"TaggedPascal$Machine", "readNumber", "()V"⟩, 19), (⟨"TaggedPascal$Machine", "nextByte", "()I"⟩, 19)]
theorem lw_r4 : ∀ q ∈ lw_privs_4, lw_okq q := List.forall_mem_cons.mpr ⟨lw_p48, List.forall_mem_cons.mpr ⟨lw_p49, List.forall_mem_cons.mpr ⟨lw_p50, List.forall_mem_cons.mpr ⟨lw_p51, List.forall_mem_cons.mpr ⟨lw_p52, List.forall_mem_cons.mpr ⟨lw_p53, List.forall_mem_cons.mpr ⟨lw_p54, List.forall_mem_cons.mpr ⟨lw_p55, List.forall_mem_cons.mpr ⟨lw_p56, List.forall_mem_cons.mpr ⟨lw_p57, List.forall_mem_cons.mpr ⟨lw_p58, List.forall_mem_cons.mpr ⟨lw_p59, List.forall_mem_cons.mpr ⟨lw_p60, List.forall_mem_cons.mpr ⟨lw_p61, List.forall_mem_cons.mpr ⟨lw_p62, List.forall_mem_cons.mpr ⟨lw_p63, fun _ h => absurd h List.not_mem_nil⟩⟩⟩⟩⟩⟩⟩⟩⟩⟩⟩⟩⟩⟩⟩⟩
theorem lw_p64 : lw_okq (⟨"TaggedPascal$Machine", "readChar", "()V"⟩, 19) := ⟨⟨by decide +kernel, by decide +kernel⟩, List.mem_of_getElem? (i := 411) (by decide +kernel), List.mem_of_getElem? (i := 1480) (by decide +kernel), List.mem_of_getElem? (i := 1481) (by decide +kernel)⟩
theorem lw_p65 : lw_okq (⟨"TaggedPascal$Machine", "writeNumber", "(J)V"⟩, 19) := ⟨⟨by decide +kernel, by decide +kernel⟩, List.mem_of_getElem? (i := 411) (by decide +kernel), List.mem_of_getElem? (i := 1484) (by decide +kernel), List.mem_of_getElem? (i := 1485) (by decide +kernel)⟩
theorem lw_p66 : lw_okq (⟨"TaggedPascal$Machine", "writeByte", "(I)V"⟩, 19) := ⟨⟨by decide +kernel, by decide +kernel⟩, List.mem_of_getElem? (i := 411) (by decide +kernel), List.mem_of_getElem? (i := 1488) (by decide +kernel), List.mem_of_getElem? (i := 1489) (by decide +kernel)⟩
theorem lw_p67 : lw_okq (⟨"TaggedPascal$Machine", "writeWord", "(Ljava/lang/String;)V"⟩, 19) := ⟨⟨by decide +kernel, by decide +kernel⟩, List.mem_of_getElem? (i := 411) (by decide +kernel), List.mem_of_getElem? (i := 1495) (by decide +kernel), List.mem_of_getElem? (i := 1496) (by decide +kernel)⟩
theorem lw_p68 : lw_okq (⟨"TaggedPascal$Machine", "writeString", "(I)V"⟩, 19) := ⟨⟨by decide +kernel, by decide +kernel⟩, List.mem_of_getElem? (i := 411) (by decide +kernel), List.mem_of_getElem? (i := 1501) (by decide +kernel), List.mem_of_getElem? (i := 1502) (by decide +kernel)⟩
theorem lw_p69 : lw_okq (⟨"TaggedPascal$Machine", "handle", "(I)V"⟩, 19) := ⟨⟨by decide +kernel, by decide +kernel⟩, List.mem_of_getElem? (i := 411) (by decide +kernel), List.mem_of_getElem? (i := 1505) (by decide +kernel), List.mem_of_getElem? (i := 1506) (by decide +kernel)⟩
theorem lw_p70 : lw_okq (⟨"TaggedPascal$Machine", "blockAround", "(I)I"⟩, 19) := ⟨⟨by decide +kernel, by decide +kernel⟩, List.mem_of_getElem? (i := 411) (by decide +kernel), List.mem_of_getElem? (i := 1509) (by decide +kernel), List.mem_of_getElem? (i := 1510) (by decide +kernel)⟩
theorem lw_p71 : lw_okq (⟨"TaggedPascal$Machine", "cell", "(J)J"⟩, 19) := ⟨⟨by decide +kernel, by decide +kernel⟩, List.mem_of_getElem? (i := 411) (by decide +kernel), List.mem_of_getElem? (i := 1513) (by decide +kernel), List.mem_of_getElem? (i := 1514) (by decide +kernel)⟩
theorem lw_p72 : lw_okq (⟨"TaggedPascal$Machine", "index", "(II)V"⟩, 19) := ⟨⟨by decide +kernel, by decide +kernel⟩, List.mem_of_getElem? (i := 411) (by decide +kernel), List.mem_of_getElem? (i := 1517) (by decide +kernel), List.mem_of_getElem? (i := 1518) (by decide +kernel)⟩
theorem lw_p73 : lw_okq (⟨"TaggedPascal$Machine", "checkRange", "(II)V"⟩, 19) := ⟨⟨by decide +kernel, by decide +kernel⟩, List.mem_of_getElem? (i := 411) (by decide +kernel), List.mem_of_getElem? (i := 1521) (by decide +kernel), List.mem_of_getElem? (i := 1522) (by decide +kernel)⟩
theorem lw_p74 : lw_okq (⟨"TaggedPascal$Machine", "peek", "(I)J"⟩, 19) := ⟨⟨by decide +kernel, by decide +kernel⟩, List.mem_of_getElem? (i := 411) (by decide +kernel), List.mem_of_getElem? (i := 1525) (by decide +kernel), List.mem_of_getElem? (i := 1526) (by decide +kernel)⟩
theorem lw_p75 : lw_okq (⟨"TaggedPascal$Machine", "fetch", "(J)V"⟩, 19) := ⟨⟨by decide +kernel, by decide +kernel⟩, List.mem_of_getElem? (i := 411) (by decide +kernel), List.mem_of_getElem? (i := 1529) (by decide +kernel), List.mem_of_getElem? (i := 1530) (by decide +kernel)⟩
theorem lw_p76 : lw_okq (⟨"TaggedPascal$Machine", "isDefined", "(J)Z"⟩, 19) := ⟨⟨by decide +kernel, by decide +kernel⟩, List.mem_of_getElem? (i := 411) (by decide +kernel), List.mem_of_getElem? (i := 1533) (by decide +kernel), List.mem_of_getElem? (i := 1534) (by decide +kernel)⟩
theorem lw_p77 : lw_okq (⟨"TaggedPascal$Machine", "addSpan", "(JJJ)V"⟩, 19) := ⟨⟨by decide +kernel, by decide +kernel⟩, List.mem_of_getElem? (i := 411) (by decide +kernel), List.mem_of_getElem? (i := 1537) (by decide +kernel), List.mem_of_getElem? (i := 1538) (by decide +kernel)⟩
theorem lw_p78 : lw_okq (⟨"TaggedPascal$Machine", "control", "(I)V"⟩, 19) := ⟨⟨by decide +kernel, by decide +kernel⟩, List.mem_of_getElem? (i := 411) (by decide +kernel), List.mem_of_getElem? (i := 1541) (by decide +kernel), List.mem_of_getElem? (i := 1542) (by decide +kernel)⟩
theorem lw_p79 : lw_okq (⟨"TaggedPascal$Machine", "step", "()V"⟩, 19) := ⟨⟨by decide +kernel, by decide +kernel⟩, List.mem_of_getElem? (i := 411) (by decide +kernel), List.mem_of_getElem? (i := 1545) (by decide +kernel), List.mem_of_getElem? (i := 1546) (by decide +kernel)⟩
def lw_privs_5 : List (MethodName × Nat) := [(⟨"TaggedPascal$Machine", "readChar", "()V"⟩, 19), (⟨"TaggedPascal$Machine", "writeNumber", "(J)V"⟩, 19), (⟨"TaggedPascal$Machine", "writeByte", "(I)V"⟩, 19), (⟨"TaggedPascal$Machine", "writeWord", "(Ljava/lang/String;)V"⟩, 19), (⟨"TaggedPascal$Machine", "writeString", "(I)V"⟩, 19), (⟨"TaggedPascal$Machine", "handle", "(I)V"⟩, 19), (⟨"TaggedPascal$Machine", "blockAround", "(I)I"⟩, 19), (⟨"TaggedPascal$Machine", "cell", "(J)J"⟩, 19), (⟨"TaggedPascal$Machine", "index", "(II)V"⟩, 19), (⟨"TaggedPascal$Machine", "checkRange", "(II)V"⟩, 19), (⟨"TaggedPascal$Machine", "peek", "(I)J"⟩, 19), (⟨"TaggedPascal$Machine", "fetch", "(J)V"⟩, 19), (⟨"TaggedPascal$Machine", "isDefined", "(J)Z"⟩, 19), (⟨"TaggedPascal$Machine", "addSpan", "(JJJ)V"⟩, 19), (⟨"TaggedPascal$Machine", "control", "(I)V"⟩, 19), (⟨"TaggedPascal$Machine", "step", "()V"⟩, 19)]
theorem lw_r5 : ∀ q ∈ lw_privs_5, lw_okq q := List.forall_mem_cons.mpr ⟨lw_p64, List.forall_mem_cons.mpr ⟨lw_p65, List.forall_mem_cons.mpr ⟨lw_p66, List.forall_mem_cons.mpr ⟨lw_p67, List.forall_mem_cons.mpr ⟨lw_p68, List.forall_mem_cons.mpr ⟨lw_p69, List.forall_mem_cons.mpr ⟨lw_p70, List.forall_mem_cons.mpr ⟨lw_p71, List.forall_mem_cons.mpr ⟨lw_p72, List.forall_mem_cons.mpr ⟨lw_p73, List.forall_mem_cons.mpr ⟨lw_p74, List.forall_mem_cons.mpr ⟨lw_p75, List.forall_mem_cons.mpr ⟨lw_p76, List.forall_mem_cons.mpr ⟨lw_p77, List.forall_mem_cons.mpr ⟨lw_p78, List.forall_mem_cons.mpr ⟨lw_p79, fun _ h => absurd h List.not_mem_nil⟩⟩⟩⟩⟩⟩⟩⟩⟩⟩⟩⟩⟩⟩⟩⟩
theorem lw_p80 : lw_okq (⟨"TaggedPascal$Machine", "when", "(II)V"⟩, 19) := ⟨⟨by decide +kernel, by decide +kernel⟩, List.mem_of_getElem? (i := 411) (by decide +kernel), List.mem_of_getElem? (i := 1549) (by decide +kernel), List.mem_of_getElem? (i := 1550) (by decide +kernel)⟩
theorem lw_p81 : lw_okq (⟨"TaggedPascal$Machine", "call", "()V"⟩, 19) := ⟨⟨by decide +kernel, by decide +kernel⟩, List.mem_of_getElem? (i := 411) (by decide +kernel), List.mem_of_getElem? (i := 1553) (by decide +kernel), List.mem_of_getElem? (i := 1554) (by decide +kernel)⟩
theorem lw_p82 : lw_okq (⟨"TaggedPascal$Machine", "leave", "()V"⟩, 19) := ⟨⟨by decide +kernel, by decide +kernel⟩, List.mem_of_getElem? (i := 411) (by decide +kernel), List.mem_of_getElem? (i := 1557) (by decide +kernel), List.mem_of_getElem? (i := 1558) (by decide +kernel)⟩
theorem lw_p83 : lw_okq (⟨"TaggedPascal$Machine", "returnValue", "()V"⟩, 19) := ⟨⟨by decide +kernel, by decide +kernel⟩, List.mem_of_getElem? (i := 411) (by decide +kernel), List.mem_of_getElem? (i := 1561) (by decide +kernel), List.mem_of_getElem? (i := 1562) (by decide +kernel)⟩
theorem lw_p84 : lw_okq (⟨"TaggedPascal$Machine", "forValue", "(ZI)V"⟩, 19) := ⟨⟨by decide +kernel, by decide +kernel⟩, List.mem_of_getElem? (i := 411) (by decide +kernel), List.mem_of_getElem? (i := 1565) (by decide +kernel), List.mem_of_getElem? (i := 1566) (by decide +kernel)⟩
theorem lw_p85 : lw_okq (⟨"TaggedPascal$Machine", "forNext", "(II)V"⟩, 19) := ⟨⟨by decide +kernel, by decide +kernel⟩, List.mem_of_getElem? (i := 411) (by decide +kernel), List.mem_of_getElem? (i := 1569) (by decide +kernel), List.mem_of_getElem? (i := 1570) (by decide +kernel)⟩
theorem lw_p86 : lw_okq (⟨"TaggedPascal$Machine", "forget", "(J)V"⟩, 19) := ⟨⟨by decide +kernel, by decide +kernel⟩, List.mem_of_getElem? (i := 411) (by decide +kernel), List.mem_of_getElem? (i := 1573) (by decide +kernel), List.mem_of_getElem? (i := 1574) (by decide +kernel)⟩
theorem lw_p87 : lw_okq (⟨"TaggedPascalModel", "emptyProgram", "()V"⟩, 103) := ⟨⟨by decide +kernel, by decide +kernel⟩, List.mem_of_getElem? (i := 1601) (by decide +kernel), List.mem_of_getElem? (i := 1612) (by decide +kernel), List.mem_of_getElem? (i := 1613) (by decide +kernel)⟩
theorem lw_p88 : lw_okq (⟨"TaggedPascalModel", "beginProgram", "()V"⟩, 103) := ⟨⟨by decide +kernel, by decide +kernel⟩, List.mem_of_getElem? (i := 1601) (by decide +kernel), List.mem_of_getElem? (i := 1616) (by decide +kernel), List.mem_of_getElem? (i := 1617) (by decide +kernel)⟩
theorem lw_p89 : lw_okq (⟨"TaggedPascalModel", "write1", "(II)V"⟩, 103) := ⟨⟨by decide +kernel, by decide +kernel⟩, List.mem_of_getElem? (i := 1601) (by decide +kernel), List.mem_of_getElem? (i := 1620) (by decide +kernel), List.mem_of_getElem? (i := 1621) (by decide +kernel)⟩
theorem lw_p90 : lw_okq (⟨"TaggedPascalModel", "emit", "(IIII)I"⟩, 103) := ⟨⟨by decide +kernel, by decide +kernel⟩, List.mem_of_getElem? (i := 1601) (by decide +kernel), List.mem_of_getElem? (i := 1624) (by decide +kernel), List.mem_of_getElem? (i := 1625) (by decide +kernel)⟩
theorem lw_p91 : lw_okq (⟨"TaggedPascalModel", "keepProgram", "()V"⟩, 103) := ⟨⟨by decide +kernel, by decide +kernel⟩, List.mem_of_getElem? (i := 1601) (by decide +kernel), List.mem_of_getElem? (i := 1628) (by decide +kernel), List.mem_of_getElem? (i := 1629) (by decide +kernel)⟩
theorem lw_p92 : lw_okq (⟨"TaggedPascalModel", "take", "()V"⟩, 103) := ⟨⟨by decide +kernel, by decide +kernel⟩, List.mem_of_getElem? (i := 1601) (by decide +kernel), List.mem_of_getElem? (i := 1959) (by decide +kernel), List.mem_of_getElem? (i := 1960) (by decide +kernel)⟩
theorem lw_p93 : lw_okq (⟨"TaggedPascalModel", "skipBlanks", "()V"⟩, 103) := ⟨⟨by decide +kernel, by decide +kernel⟩, List.mem_of_getElem? (i := 1601) (by decide +kernel), List.mem_of_getElem? (i := 1963) (by decide +kernel), List.mem_of_getElem? (i := 1964) (by decide +kernel)⟩
theorem lw_p94 : lw_okq (⟨"TaggedPascalModel", "fail", "(II)V"⟩, 103) := ⟨⟨by decide +kernel, by decide +kernel⟩, List.mem_of_getElem? (i := 1601) (by decide +kernel), List.mem_of_getElem? (i := 1967) (by decide +kernel), List.mem_of_getElem? (i := 1968) (by decide +kernel)⟩
theorem lw_p95 : lw_okq (⟨"TaggedPascalModel", "byteAt", "(I)I"⟩, 103) := ⟨⟨by decide +kernel, by decide +kernel⟩, List.mem_of_getElem? (i := 1601) (by decide +kernel), List.mem_of_getElem? (i := 1971) (by decide +kernel), List.mem_of_getElem? (i := 1972) (by decide +kernel)⟩
def lw_privs_6 : List (MethodName × Nat) := [(⟨"TaggedPascal$Machine", "when", "(II)V"⟩, 19), (⟨"TaggedPascal$Machine", "call", "()V"⟩, 19), (⟨"TaggedPascal$Machine", "leave", "()V"⟩, 19), (⟨"TaggedPascal$Machine", "returnValue", "()V"⟩, 19), (⟨"TaggedPascal$Machine", "forValue", "(ZI)V"⟩, 19), (⟨"TaggedPascal$Machine", "forNext", "(II)V"⟩, 19), (⟨"TaggedPascal$Machine", "forget", "(J)V"⟩, 19), (⟨"TaggedPascalModel", "emptyProgram", "()V"⟩, 103), (⟨"TaggedPascalModel", "beginProgram", "()V"⟩, 103), (⟨"TaggedPascalModel", "write1", "(II)V"⟩, 103), (⟨"TaggedPascalModel", "emit", "(IIII)I"⟩, 103), (⟨"TaggedPascalModel", "keepProgram", "()V"⟩, 103), (⟨"TaggedPascalModel", "take", "()V"⟩, 103), (⟨"TaggedPascalModel", "skipBlanks", "()V"⟩, 103), (⟨"TaggedPascalModel", "fail", "(II)V"⟩, 103), (⟨"TaggedPascalModel", "byteAt", "(I)I"⟩, 103)]
theorem lw_r6 : ∀ q ∈ lw_privs_6, lw_okq q := List.forall_mem_cons.mpr ⟨lw_p80, List.forall_mem_cons.mpr ⟨lw_p81, List.forall_mem_cons.mpr ⟨lw_p82, List.forall_mem_cons.mpr ⟨lw_p83, List.forall_mem_cons.mpr ⟨lw_p84, List.forall_mem_cons.mpr ⟨lw_p85, List.forall_mem_cons.mpr ⟨lw_p86, List.forall_mem_cons.mpr ⟨lw_p87, List.forall_mem_cons.mpr ⟨lw_p88, List.forall_mem_cons.mpr ⟨lw_p89, List.forall_mem_cons.mpr ⟨lw_p90, List.forall_mem_cons.mpr ⟨lw_p91, List.forall_mem_cons.mpr ⟨lw_p92, List.forall_mem_cons.mpr ⟨lw_p93, List.forall_mem_cons.mpr ⟨lw_p94, List.forall_mem_cons.mpr ⟨lw_p95, fun _ h => absurd h List.not_mem_nil⟩⟩⟩⟩⟩⟩⟩⟩⟩⟩⟩⟩⟩⟩⟩⟩
theorem lw_p96 : lw_okq (⟨"TaggedPascalModel", "takeName", "()V"⟩, 103) := ⟨⟨by decide +kernel, by decide +kernel⟩, List.mem_of_getElem? (i := 1601) (by decide +kernel), List.mem_of_getElem? (i := 1978) (by decide +kernel), List.mem_of_getElem? (i := 1979) (by decide +kernel)⟩
theorem lw_p97 : lw_okq (⟨"TaggedPascalModel", "takeNumber", "()V"⟩, 103) := ⟨⟨by decide +kernel, by decide +kernel⟩, List.mem_of_getElem? (i := 1601) (by decide +kernel), List.mem_of_getElem? (i := 1985) (by decide +kernel), List.mem_of_getElem? (i := 1986) (by decide +kernel)⟩
theorem lw_p98 : lw_okq (⟨"TaggedPascalModel", "takeString", "()V"⟩, 103) := ⟨⟨by decide +kernel, by decide +kernel⟩, List.mem_of_getElem? (i := 1601) (by decide +kernel), List.mem_of_getElem? (i := 1993) (by decide +kernel), List.mem_of_getElem? (i := 1994) (by decide +kernel)⟩
theorem lw_p99 : lw_okq (⟨"TaggedPascalModel", "takeSign", "()V"⟩, 103) := ⟨⟨by decide +kernel, by decide +kernel⟩, List.mem_of_getElem? (i := 1601) (by decide +kernel), List.mem_of_getElem? (i := 1997) (by decide +kernel), List.mem_of_getElem? (i := 1998) (by decide +kernel)⟩
theorem lw_p100 : lw_okq (⟨"TaggedPascalModel", "later", "(I)V"⟩, 103) := ⟨⟨by decide +kernel, by decide +kernel⟩, List.mem_of_getElem? (i := 1601) (by decide +kernel), List.mem_of_getElem? (i := 2004) (by decide +kernel), List.mem_of_getElem? (i := 2005) (by decide +kernel)⟩
theorem lw_p101 : lw_okq (⟨"TaggedPascalModel", "work", "(I)V"⟩, 103) := ⟨⟨by decide +kernel, by decide +kernel⟩, List.mem_of_getElem? (i := 1601) (by decide +kernel), List.mem_of_getElem? (i := 2008) (by decide +kernel), List.mem_of_getElem? (i := 2009) (by decide +kernel)⟩
theorem lw_p102 : lw_okq (⟨"TaggedPascalModel", "relation", "(I)V"⟩, 103) := ⟨⟨by decide +kernel, by decide +kernel⟩, List.mem_of_getElem? (i := 1601) (by decide +kernel), List.mem_of_getElem? (i := 2012) (by decide +kernel), List.mem_of_getElem? (i := 2013) (by decide +kernel)⟩
theorem lw_p103 : lw_okq (⟨"TaggedPascalModel", "deeper", "()V"⟩, 103) := ⟨⟨by decide +kernel, by decide +kernel⟩, List.mem_of_getElem? (i := 1601) (by decide +kernel), List.mem_of_getElem? (i := 2016) (by decide +kernel), List.mem_of_getElem? (i := 2017) (by decide +kernel)⟩
theorem lw_p104 : lw_okq (⟨"TaggedPascalModel", "keep", "(I)V"⟩, 103) := ⟨⟨by decide +kernel, by decide +kernel⟩, List.mem_of_getElem? (i := 1601) (by decide +kernel), List.mem_of_getElem? (i := 2023) (by decide +kernel), List.mem_of_getElem? (i := 2024) (by decide +kernel)⟩
theorem lw_p105 : lw_okq (⟨"TaggedPascalModel", "back", "()I"⟩, 103) := ⟨⟨by decide +kernel, by decide +kernel⟩, List.mem_of_getElem? (i := 1601) (by decide +kernel), List.mem_of_getElem? (i := 2027) (by decide +kernel), List.mem_of_getElem? (i := 2028) (by decide +kernel)⟩
theorem lw_p106 : lw_okq (⟨"TaggedPascalModel", "fits", "(Z)V"⟩, 103) := ⟨⟨by decide +kernel, by decide +kernel⟩, List.mem_of_getElem? (i := 1601) (by decide +kernel), List.mem_of_getElem? (i := 2031) (by decide +kernel), List.mem_of_getElem? (i := 2032) (by decide +kernel)⟩
theorem lw_p107 : lw_okq (⟨"TaggedPascalModel", "sum", "(I)V"⟩, 103) := ⟨⟨by decide +kernel, by decide +kernel⟩, List.mem_of_getElem? (i := 1601) (by decide +kernel), List.mem_of_getElem? (i := 2035) (by decide +kernel), List.mem_of_getElem? (i := 2036) (by decide +kernel)⟩
theorem lw_p108 : lw_okq (⟨"TaggedPascalModel", "write0", "(I)V"⟩, 103) := ⟨⟨by decide +kernel, by decide +kernel⟩, List.mem_of_getElem? (i := 1601) (by decide +kernel), List.mem_of_getElem? (i := 2039) (by decide +kernel), List.mem_of_getElem? (i := 2040) (by decide +kernel)⟩
theorem lw_p109 : lw_okq (⟨"TaggedPascalModel", "product", "(I)V"⟩, 103) := ⟨⟨by decide +kernel, by decide +kernel⟩, List.mem_of_getElem? (i := 1601) (by decide +kernel), List.mem_of_getElem? (i := 2043) (by decide +kernel), List.mem_of_getElem? (i := 2044) (by decide +kernel)⟩
theorem lw_p110 : lw_okq (⟨"TaggedPascalModel", "factor", "()V"⟩, 103) := ⟨⟨by decide +kernel, by decide +kernel⟩, List.mem_of_getElem? (i := 1601) (by decide +kernel), List.mem_of_getElem? (i := 2047) (by decide +kernel), List.mem_of_getElem? (i := 2048) (by decide +kernel)⟩
theorem lw_p111 : lw_okq (⟨"TaggedPascalModel", "nameFactor", "()V"⟩, 103) := ⟨⟨by decide +kernel, by decide +kernel⟩, List.mem_of_getElem? (i := 1601) (by decide +kernel), List.mem_of_getElem? (i := 2051) (by decide +kernel), List.mem_of_getElem? (i := 2052) (by decide +kernel)⟩
def lw_privs_7 : List (MethodName × Nat) := [(⟨"TaggedPascalModel", "takeName", "()V"⟩, 103), (⟨"TaggedPascalModel", "takeNumber", "()V"⟩, 103), (⟨"TaggedPascalModel", "takeString", "()V"⟩, 103), (⟨"TaggedPascalModel", "takeSign", "()V"⟩, 103), (⟨"TaggedPascalModel", "later", "(I)V"⟩, 103), (⟨"TaggedPascalModel", "work", "(I)V"⟩, 103), (⟨"TaggedPascalModel", "relation", "(I)V"⟩, 103), (⟨"TaggedPascalModel", "deeper", "()V"⟩, 103), (⟨"TaggedPascalModel", "keep", "(I)V"⟩, 103), (⟨"TaggedPascalModel", "back", "()I"⟩, 103), (⟨"TaggedPascalModel", "fits", "(Z)V"⟩, 103), (⟨"TaggedPascalModel", "sum", "(I)V"⟩, 103), (⟨"TaggedPascalModel", "write0", "(I)V"⟩, 103), (⟨"TaggedPascalModel", "product", "(I)V"⟩, 103), (⟨"TaggedPascalModel", "factor", "()V"⟩, 103), (⟨"TaggedPascalModel", "nameFactor", "()V"⟩, 103)]
theorem lw_r7 : ∀ q ∈ lw_privs_7, lw_okq q := List.forall_mem_cons.mpr ⟨lw_p96, List.forall_mem_cons.mpr ⟨lw_p97, List.forall_mem_cons.mpr ⟨lw_p98, List.forall_mem_cons.mpr ⟨lw_p99, List.forall_mem_cons.mpr ⟨lw_p100, List.forall_mem_cons.mpr ⟨lw_p101, List.forall_mem_cons.mpr ⟨lw_p102, List.forall_mem_cons.mpr ⟨lw_p103, List.forall_mem_cons.mpr ⟨lw_p104, List.forall_mem_cons.mpr ⟨lw_p105, List.forall_mem_cons.mpr ⟨lw_p106, List.forall_mem_cons.mpr ⟨lw_p107, List.forall_mem_cons.mpr ⟨lw_p108, List.forall_mem_cons.mpr ⟨lw_p109, List.forall_mem_cons.mpr ⟨lw_p110, List.forall_mem_cons.mpr ⟨lw_p111, fun _ h => absurd h List.not_mem_nil⟩⟩⟩⟩⟩⟩⟩⟩⟩⟩⟩⟩⟩⟩⟩⟩
theorem lw_p112 : lw_okq (⟨"TaggedPascalModel", "known", "()I"⟩, 103) := ⟨⟨by decide +kernel, by decide +kernel⟩, List.mem_of_getElem? (i := 1601) (by decide +kernel), List.mem_of_getElem? (i := 2055) (by decide +kernel), List.mem_of_getElem? (i := 2056) (by decide +kernel)⟩
theorem lw_p113 : lw_okq (⟨"TaggedPascalModel", "find", "(J)I"⟩, 103) := ⟨⟨by decide +kernel, by decide +kernel⟩, List.mem_of_getElem? (i := 1601) (by decide +kernel), List.mem_of_getElem? (i := 2059) (by decide +kernel), List.mem_of_getElem? (i := 2060) (by decide +kernel)⟩
theorem lw_p114 : lw_okq (⟨"TaggedPascalModel", "variable", "(I)V"⟩, 103) := ⟨⟨by decide +kernel, by decide +kernel⟩, List.mem_of_getElem? (i := 1601) (by decide +kernel), List.mem_of_getElem? (i := 2063) (by decide +kernel), List.mem_of_getElem? (i := 2064) (by decide +kernel)⟩
theorem lw_p115 : lw_okq (⟨"TaggedPascalModel", "want", "(I)V"⟩, 103) := ⟨⟨by decide +kernel, by decide +kernel⟩, List.mem_of_getElem? (i := 1601) (by decide +kernel), List.mem_of_getElem? (i := 2067) (by decide +kernel), List.mem_of_getElem? (i := 2068) (by decide +kernel)⟩
theorem lw_p116 : lw_okq (⟨"TaggedPascalModel", "call", "(I)V"⟩, 103) := ⟨⟨by decide +kernel, by decide +kernel⟩, List.mem_of_getElem? (i := 1601) (by decide +kernel), List.mem_of_getElem? (i := 2071) (by decide +kernel), List.mem_of_getElem? (i := 2072) (by decide +kernel)⟩
theorem lw_p117 : lw_okq (⟨"TaggedPascalModel", "afterFactor", "(I)V"⟩, 103) := ⟨⟨by decide +kernel, by decide +kernel⟩, List.mem_of_getElem? (i := 1601) (by decide +kernel), List.mem_of_getElem? (i := 2075) (by decide +kernel), List.mem_of_getElem? (i := 2076) (by decide +kernel)⟩
theorem lw_p118 : lw_okq (⟨"TaggedPascalModel", "nextElement", "()V"⟩, 103) := ⟨⟨by decide +kernel, by decide +kernel⟩, List.mem_of_getElem? (i := 1601) (by decide +kernel), List.mem_of_getElem? (i := 2079) (by decide +kernel), List.mem_of_getElem? (i := 2080) (by decide +kernel)⟩
theorem lw_p119 : lw_okq (⟨"TaggedPascalModel", "argument", "(I)V"⟩, 103) := ⟨⟨by decide +kernel, by decide +kernel⟩, List.mem_of_getElem? (i := 1601) (by decide +kernel), List.mem_of_getElem? (i := 2083) (by decide +kernel), List.mem_of_getElem? (i := 2084) (by decide +kernel)⟩
theorem lw_p120 : lw_okq (⟨"TaggedPascalModel", "nextArgument", "()V"⟩, 103) := ⟨⟨by decide +kernel, by decide +kernel⟩, List.mem_of_getElem? (i := 1601) (by decide +kernel), List.mem_of_getElem? (i := 2087) (by decide +kernel), List.mem_of_getElem? (i := 2088) (by decide +kernel)⟩
theorem lw_p121 : lw_okq (⟨"TaggedPascalModel", "afterIf", "(I)V"⟩, 103) := ⟨⟨by decide +kernel, by decide +kernel⟩, List.mem_of_getElem? (i := 1601) (by decide +kernel), List.mem_of_getElem? (i := 2091) (by decide +kernel), List.mem_of_getElem? (i := 2092) (by decide +kernel)⟩
theorem lw_p122 : lw_okq (⟨"TaggedPascalModel", "afterLoop", "(I)V"⟩, 103) := ⟨⟨by decide +kernel, by decide +kernel⟩, List.mem_of_getElem? (i := 1601) (by decide +kernel), List.mem_of_getElem? (i := 2095) (by decide +kernel), List.mem_of_getElem? (i := 2096) (by decide +kernel)⟩
theorem lw_p123 : lw_okq (⟨"TaggedPascalModel", "afterFor", "(I)V"⟩, 103) := ⟨⟨by decide +kernel, by decide +kernel⟩, List.mem_of_getElem? (i := 1601) (by decide +kernel), List.mem_of_getElem? (i := 2099) (by decide +kernel), List.mem_of_getElem? (i := 2100) (by decide +kernel)⟩
theorem lw_p124 : lw_okq (⟨"TaggedPascalModel", "choice", "()V"⟩, 103) := ⟨⟨by decide +kernel, by decide +kernel⟩, List.mem_of_getElem? (i := 1601) (by decide +kernel), List.mem_of_getElem? (i := 2103) (by decide +kernel), List.mem_of_getElem? (i := 2104) (by decide +kernel)⟩
theorem lw_p125 : lw_okq (⟨"TaggedPascalModel", "constant", "()V"⟩, 103) := ⟨⟨by decide +kernel, by decide +kernel⟩, List.mem_of_getElem? (i := 1601) (by decide +kernel), List.mem_of_getElem? (i := 2107) (by decide +kernel), List.mem_of_getElem? (i := 2108) (by decide +kernel)⟩
theorem lw_p126 : lw_okq (⟨"TaggedPascalModel", "afterCase", "(I)V"⟩, 103) := ⟨⟨by decide +kernel, by decide +kernel⟩, List.mem_of_getElem? (i := 1601) (by decide +kernel), List.mem_of_getElem? (i := 2111) (by decide +kernel), List.mem_of_getElem? (i := 2112) (by decide +kernel)⟩
theorem lw_p127 : lw_okq (⟨"TaggedPascalModel", "reading", "(I)V"⟩, 103) := ⟨⟨by decide +kernel, by decide +kernel⟩, List.mem_of_getElem? (i := 1601) (by decide +kernel), List.mem_of_getElem? (i := 2115) (by decide +kernel), List.mem_of_getElem? (i := 2116) (by decide +kernel)⟩
def lw_privs_8 : List (MethodName × Nat) := [(⟨"TaggedPascalModel", "known", "()I"⟩, 103), (⟨"TaggedPascalModel", "find", "(J)I"⟩, 103), (⟨"TaggedPascalModel", "variable", "(I)V"⟩, 103), (⟨"TaggedPascalModel", "want", "(I)V"⟩, 103), (⟨"TaggedPascalModel", "call", "(I)V"⟩, 103), (⟨"TaggedPascalModel", "afterFactor", "(I)V"⟩, 103), (⟨"TaggedPascalModel", "nextElement", "()V"⟩, 103), (⟨"TaggedPascalModel", "argument", "(I)V"⟩, 103), (⟨"TaggedPascalModel", "nextArgument", "()V"⟩, 103), (⟨"TaggedPascalModel", "afterIf", "(I)V"⟩, 103), (⟨"TaggedPascalModel", "afterLoop", "(I)V"⟩, 103), (⟨"TaggedPascalModel", "afterFor", "(I)V"⟩, 103), (⟨"TaggedPascalModel", "choice", "()V"⟩, 103), (⟨"TaggedPascalModel", "constant", "()V"⟩, 103), (⟨"TaggedPascalModel", "afterCase", "(I)V"⟩, 103), (⟨"TaggedPascalModel", "reading", "(I)V"⟩, 103)]
theorem lw_r8 : ∀ q ∈ lw_privs_8, lw_okq q := List.forall_mem_cons.mpr ⟨lw_p112, List.forall_mem_cons.mpr ⟨lw_p113, List.forall_mem_cons.mpr ⟨lw_p114, List.forall_mem_cons.mpr ⟨lw_p115, List.forall_mem_cons.mpr ⟨lw_p116, List.forall_mem_cons.mpr ⟨lw_p117, List.forall_mem_cons.mpr ⟨lw_p118, List.forall_mem_cons.mpr ⟨lw_p119, List.forall_mem_cons.mpr ⟨lw_p120, List.forall_mem_cons.mpr ⟨lw_p121, List.forall_mem_cons.mpr ⟨lw_p122, List.forall_mem_cons.mpr ⟨lw_p123, List.forall_mem_cons.mpr ⟨lw_p124, List.forall_mem_cons.mpr ⟨lw_p125, List.forall_mem_cons.mpr ⟨lw_p126, List.forall_mem_cons.mpr ⟨lw_p127, fun _ h => absurd h List.not_mem_nil⟩⟩⟩⟩⟩⟩⟩⟩⟩⟩⟩⟩⟩⟩⟩⟩
theorem lw_p128 : lw_okq (⟨"TaggedPascalModel", "store", "(I)V"⟩, 103) := ⟨⟨by decide +kernel, by decide +kernel⟩, List.mem_of_getElem? (i := 1601) (by decide +kernel), List.mem_of_getElem? (i := 2119) (by decide +kernel), List.mem_of_getElem? (i := 2120) (by decide +kernel)⟩
theorem lw_p129 : lw_okq (⟨"TaggedPascalModel", "writing", "(I)V"⟩, 103) := ⟨⟨by decide +kernel, by decide +kernel⟩, List.mem_of_getElem? (i := 1601) (by decide +kernel), List.mem_of_getElem? (i := 2123) (by decide +kernel), List.mem_of_getElem? (i := 2124) (by decide +kernel)⟩
theorem lw_p130 : lw_okq (⟨"TaggedPascalModel", "assign", "(I)V"⟩, 103) := ⟨⟨by decide +kernel, by decide +kernel⟩, List.mem_of_getElem? (i := 1601) (by decide +kernel), List.mem_of_getElem? (i := 2127) (by decide +kernel), List.mem_of_getElem? (i := 2128) (by decide +kernel)⟩
theorem lw_p131 : lw_okq (⟨"TaggedPascalModel", "workOfBlocks", "(I)V"⟩, 103) := ⟨⟨by decide +kernel, by decide +kernel⟩, List.mem_of_getElem? (i := 1601) (by decide +kernel), List.mem_of_getElem? (i := 2131) (by decide +kernel), List.mem_of_getElem? (i := 2132) (by decide +kernel)⟩
theorem lw_p132 : lw_okq (⟨"TaggedPascalModel", "block", "()V"⟩, 103) := ⟨⟨by decide +kernel, by decide +kernel⟩, List.mem_of_getElem? (i := 1601) (by decide +kernel), List.mem_of_getElem? (i := 2135) (by decide +kernel), List.mem_of_getElem? (i := 2136) (by decide +kernel)⟩
theorem lw_p133 : lw_okq (⟨"TaggedPascalModel", "constants", "()V"⟩, 103) := ⟨⟨by decide +kernel, by decide +kernel⟩, List.mem_of_getElem? (i := 1601) (by decide +kernel), List.mem_of_getElem? (i := 2139) (by decide +kernel), List.mem_of_getElem? (i := 2140) (by decide +kernel)⟩
theorem lw_p134 : lw_okq (⟨"TaggedPascalModel", "declare", "(I)I"⟩, 103) := ⟨⟨by decide +kernel, by decide +kernel⟩, List.mem_of_getElem? (i := 1601) (by decide +kernel), List.mem_of_getElem? (i := 2143) (by decide +kernel), List.mem_of_getElem? (i := 2144) (by decide +kernel)⟩
theorem lw_p135 : lw_okq (⟨"TaggedPascalModel", "types", "()V"⟩, 103) := ⟨⟨by decide +kernel, by decide +kernel⟩, List.mem_of_getElem? (i := 1601) (by decide +kernel), List.mem_of_getElem? (i := 2147) (by decide +kernel), List.mem_of_getElem? (i := 2148) (by decide +kernel)⟩
theorem lw_p136 : lw_okq (⟨"TaggedPascalModel", "type", "()V"⟩, 103) := ⟨⟨by decide +kernel, by decide +kernel⟩, List.mem_of_getElem? (i := 1601) (by decide +kernel), List.mem_of_getElem? (i := 2151) (by decide +kernel), List.mem_of_getElem? (i := 2152) (by decide +kernel)⟩
theorem lw_p137 : lw_okq (⟨"TaggedPascalModel", "simpleType", "(Z)V"⟩, 103) := ⟨⟨by decide +kernel, by decide +kernel⟩, List.mem_of_getElem? (i := 1601) (by decide +kernel), List.mem_of_getElem? (i := 2155) (by decide +kernel), List.mem_of_getElem? (i := 2156) (by decide +kernel)⟩
theorem lw_p138 : lw_okq (⟨"TaggedPascalModel", "beginsRange", "()Z"⟩, 103) := ⟨⟨by decide +kernel, by decide +kernel⟩, List.mem_of_getElem? (i := 1601) (by decide +kernel), List.mem_of_getElem? (i := 2159) (by decide +kernel), List.mem_of_getElem? (i := 2160) (by decide +kernel)⟩
theorem lw_p139 : lw_okq (⟨"TaggedPascalModel", "range", "()V"⟩, 103) := ⟨⟨by decide +kernel, by decide +kernel⟩, List.mem_of_getElem? (i := 1601) (by decide +kernel), List.mem_of_getElem? (i := 2163) (by decide +kernel), List.mem_of_getElem? (i := 2164) (by decide +kernel)⟩
theorem lw_p140 : lw_okq (⟨"TaggedPascalModel", "nameOfType", "(Z)V"⟩, 103) := ⟨⟨by decide +kernel, by decide +kernel⟩, List.mem_of_getElem? (i := 1601) (by decide +kernel), List.mem_of_getElem? (i := 2167) (by decide +kernel), List.mem_of_getElem? (i := 2168) (by decide +kernel)⟩
theorem lw_p141 : lw_okq (⟨"TaggedPascalModel", "become", "(I)V"⟩, 103) := ⟨⟨by decide +kernel, by decide +kernel⟩, List.mem_of_getElem? (i := 1601) (by decide +kernel), List.mem_of_getElem? (i := 2172) (by decide +kernel), List.mem_of_getElem? (i := 2173) (by decide +kernel)⟩
theorem lw_p142 : lw_okq (⟨"TaggedPascalModel", "variables", "()V"⟩, 103) := ⟨⟨by decide +kernel, by decide +kernel⟩, List.mem_of_getElem? (i := 1601) (by decide +kernel), List.mem_of_getElem? (i := 2176) (by decide +kernel), List.mem_of_getElem? (i := 2177) (by decide +kernel)⟩
theorem lw_p143 : lw_okq (⟨"TaggedPascalModel", "nameRow", "()I"⟩, 103) := ⟨⟨by decide +kernel, by decide +kernel⟩, List.mem_of_getElem? (i := 1601) (by decide +kernel), List.mem_of_getElem? (i := 2180) (by decide +kernel), List.mem_of_getElem? (i := 2181) (by decide +kernel)⟩
def lw_privs_9 : List (MethodName × Nat) := [(⟨"TaggedPascalModel", "store", "(I)V"⟩, 103), (⟨"TaggedPascalModel", "writing", "(I)V"⟩, 103), (⟨"TaggedPascalModel", "assign", "(I)V"⟩, 103), (⟨"TaggedPascalModel", "workOfBlocks", "(I)V"⟩, 103), (⟨"TaggedPascalModel", "block", "()V"⟩, 103), (⟨"TaggedPascalModel", "constants", "()V"⟩, 103), (⟨"TaggedPascalModel", "declare", "(I)I"⟩, 103), (⟨"TaggedPascalModel", "types", "()V"⟩, 103), (⟨"TaggedPascalModel", "type", "()V"⟩, 103), (⟨"TaggedPascalModel", "simpleType", "(Z)V"⟩, 103), (⟨"TaggedPascalModel", "beginsRange", "()Z"⟩, 103), (⟨"TaggedPascalModel", "range", "()V"⟩, 103), (⟨"TaggedPascalModel", "nameOfType", "(Z)V"⟩, 103), (⟨"TaggedPascalModel", "become", "(I)V"⟩, 103), (⟨"TaggedPascalModel", "variables", "()V"⟩, 103), (⟨"TaggedPascalModel", "nameRow", "()I"⟩, 103)]
theorem lw_r9 : ∀ q ∈ lw_privs_9, lw_okq q := List.forall_mem_cons.mpr ⟨lw_p128, List.forall_mem_cons.mpr ⟨lw_p129, List.forall_mem_cons.mpr ⟨lw_p130, List.forall_mem_cons.mpr ⟨lw_p131, List.forall_mem_cons.mpr ⟨lw_p132, List.forall_mem_cons.mpr ⟨lw_p133, List.forall_mem_cons.mpr ⟨lw_p134, List.forall_mem_cons.mpr ⟨lw_p135, List.forall_mem_cons.mpr ⟨lw_p136, List.forall_mem_cons.mpr ⟨lw_p137, List.forall_mem_cons.mpr ⟨lw_p138, List.forall_mem_cons.mpr ⟨lw_p139, List.forall_mem_cons.mpr ⟨lw_p140, List.forall_mem_cons.mpr ⟨lw_p141, List.forall_mem_cons.mpr ⟨lw_p142, List.forall_mem_cons.mpr ⟨lw_p143, fun _ h => absurd h List.not_mem_nil⟩⟩⟩⟩⟩⟩⟩⟩⟩⟩⟩⟩⟩⟩⟩⟩
theorem lw_p144 : lw_okq (⟨"TaggedPascalModel", "seat", "(I)V"⟩, 103) := ⟨⟨by decide +kernel, by decide +kernel⟩, List.mem_of_getElem? (i := 1601) (by decide +kernel), List.mem_of_getElem? (i := 2184) (by decide +kernel), List.mem_of_getElem? (i := 2185) (by decide +kernel)⟩
theorem lw_p145 : lw_okq (⟨"TaggedPascalModel", "actionsOrBody", "()V"⟩, 103) := ⟨⟨by decide +kernel, by decide +kernel⟩, List.mem_of_getElem? (i := 1601) (by decide +kernel), List.mem_of_getElem? (i := 2188) (by decide +kernel), List.mem_of_getElem? (i := 2189) (by decide +kernel)⟩
theorem lw_p146 : lw_okq (⟨"TaggedPascalModel", "header", "()V"⟩, 103) := ⟨⟨by decide +kernel, by decide +kernel⟩, List.mem_of_getElem? (i := 1601) (by decide +kernel), List.mem_of_getElem? (i := 2192) (by decide +kernel), List.mem_of_getElem? (i := 2193) (by decide +kernel)⟩
theorem lw_p147 : lw_okq (⟨"TaggedPascalModel", "group", "(I)V"⟩, 103) := ⟨⟨by decide +kernel, by decide +kernel⟩, List.mem_of_getElem? (i := 1601) (by decide +kernel), List.mem_of_getElem? (i := 2196) (by decide +kernel), List.mem_of_getElem? (i := 2197) (by decide +kernel)⟩
theorem lw_p148 : lw_okq (⟨"TaggedPascalModel", "statements", "()V"⟩, 103) := ⟨⟨by decide +kernel, by decide +kernel⟩, List.mem_of_getElem? (i := 1601) (by decide +kernel), List.mem_of_getElem? (i := 2200) (by decide +kernel), List.mem_of_getElem? (i := 2201) (by decide +kernel)⟩
theorem lw_p149 : lw_okq (⟨"TaggedPascalModel", "afterBlock", "()V"⟩, 103) := ⟨⟨by decide +kernel, by decide +kernel⟩, List.mem_of_getElem? (i := 1601) (by decide +kernel), List.mem_of_getElem? (i := 2204) (by decide +kernel), List.mem_of_getElem? (i := 2205) (by decide +kernel)⟩
theorem lw_p150 : lw_okq (⟨"TaggedPascalModel", "nextStatement", "()V"⟩, 103) := ⟨⟨by decide +kernel, by decide +kernel⟩, List.mem_of_getElem? (i := 1601) (by decide +kernel), List.mem_of_getElem? (i := 2208) (by decide +kernel), List.mem_of_getElem? (i := 2209) (by decide +kernel)⟩
theorem lw_p151 : lw_okq (⟨"TaggedPascalModel", "statement", "()V"⟩, 103) := ⟨⟨by decide +kernel, by decide +kernel⟩, List.mem_of_getElem? (i := 1601) (by decide +kernel), List.mem_of_getElem? (i := 2212) (by decide +kernel), List.mem_of_getElem? (i := 2213) (by decide +kernel)⟩
theorem lw_p152 : lw_okq (⟨"TaggedPascalModel", "nameStatement", "()V"⟩, 103) := ⟨⟨by decide +kernel, by decide +kernel⟩, List.mem_of_getElem? (i := 1601) (by decide +kernel), List.mem_of_getElem? (i := 2216) (by decide +kernel), List.mem_of_getElem? (i := 2217) (by decide +kernel)⟩
theorem lw_p153 : lw_okq (⟨"TaggedPascalModel", "begins", "()V"⟩, 103) := ⟨⟨by decide +kernel, by decide +kernel⟩, List.mem_of_getElem? (i := 1601) (by decide +kernel), List.mem_of_getElem? (i := 2220) (by decide +kernel), List.mem_of_getElem? (i := 2221) (by decide +kernel)⟩
theorem lw_p154 : lw_okq (⟨"TaggedPascalModel", "isWithin", "(I)Z"⟩, 103) := ⟨⟨by decide +kernel, by decide +kernel⟩, List.mem_of_getElem? (i := 1601) (by decide +kernel), List.mem_of_getElem? (i := 2224) (by decide +kernel), List.mem_of_getElem? (i := 2225) (by decide +kernel)⟩
theorem lw_p155 : lw_okq (⟨"TaggedPascalModel", "forStatement", "()V"⟩, 103) := ⟨⟨by decide +kernel, by decide +kernel⟩, List.mem_of_getElem? (i := 1601) (by decide +kernel), List.mem_of_getElem? (i := 2228) (by decide +kernel), List.mem_of_getElem? (i := 2229) (by decide +kernel)⟩
theorem lw_p156 : lw_okq (⟨"TaggedPascalModel", "writeStatement", "()V"⟩, 103) := ⟨⟨by decide +kernel, by decide +kernel⟩, List.mem_of_getElem? (i := 1601) (by decide +kernel), List.mem_of_getElem? (i := 2232) (by decide +kernel), List.mem_of_getElem? (i := 2233) (by decide +kernel)⟩
theorem lw_p157 : lw_okq (⟨"TaggedPascalModel", "open", "(III)Z"⟩, 103) := ⟨⟨by decide +kernel, by decide +kernel⟩, List.mem_of_getElem? (i := 1601) (by decide +kernel), List.mem_of_getElem? (i := 2252) (by decide +kernel), List.mem_of_getElem? (i := 2253) (by decide +kernel)⟩
theorem lw_p158 : lw_okq (⟨"TaggedPascalModel", "isWrong", "(ZI)Z"⟩, 103) := ⟨⟨by decide +kernel, by decide +kernel⟩, List.mem_of_getElem? (i := 1601) (by decide +kernel), List.mem_of_getElem? (i := 2256) (by decide +kernel), List.mem_of_getElem? (i := 2257) (by decide +kernel)⟩
theorem lw_p159 : lw_okq (⟨"TaggedPascalModel", "stop", "(I)V"⟩, 103) := ⟨⟨by decide +kernel, by decide +kernel⟩, List.mem_of_getElem? (i := 1601) (by decide +kernel), List.mem_of_getElem? (i := 2260) (by decide +kernel), List.mem_of_getElem? (i := 2261) (by decide +kernel)⟩
def lw_privs_10 : List (MethodName × Nat) := [(⟨"TaggedPascalModel", "seat", "(I)V"⟩, 103), (⟨"TaggedPascalModel", "actionsOrBody", "()V"⟩, 103), (⟨"TaggedPascalModel", "header", "()V"⟩, 103), (⟨"TaggedPascalModel", "group", "(I)V"⟩, 103), (⟨"TaggedPascalModel", "statements", "()V"⟩, 103), (⟨"TaggedPascalModel", "afterBlock", "()V"⟩, 103), (⟨"TaggedPascalModel", "nextStatement", "()V"⟩, 103), (⟨"TaggedPascalModel", "statement", "()V"⟩, 103), (⟨"TaggedPascalModel", "nameStatement", "()V"⟩, 103), (⟨"TaggedPascalModel", "begins", "()V"⟩, 103), (⟨"TaggedPascalModel", "isWithin", "(I)Z"⟩, 103), (⟨"TaggedPascalModel", "forStatement", "()V"⟩, 103), (⟨"TaggedPascalModel", "writeStatement", "()V"⟩, 103), (⟨"TaggedPascalModel", "open", "(III)Z"⟩, 103), (⟨"TaggedPascalModel", "isWrong", "(ZI)Z"⟩, 103), (⟨"TaggedPascalModel", "stop", "(I)V"⟩, 103)]
theorem lw_r10 : ∀ q ∈ lw_privs_10, lw_okq q := List.forall_mem_cons.mpr ⟨lw_p144, List.forall_mem_cons.mpr ⟨lw_p145, List.forall_mem_cons.mpr ⟨lw_p146, List.forall_mem_cons.mpr ⟨lw_p147, List.forall_mem_cons.mpr ⟨lw_p148, List.forall_mem_cons.mpr ⟨lw_p149, List.forall_mem_cons.mpr ⟨lw_p150, List.forall_mem_cons.mpr ⟨lw_p151, List.forall_mem_cons.mpr ⟨lw_p152, List.forall_mem_cons.mpr ⟨lw_p153, List.forall_mem_cons.mpr ⟨lw_p154, List.forall_mem_cons.mpr ⟨lw_p155, List.forall_mem_cons.mpr ⟨lw_p156, List.forall_mem_cons.mpr ⟨lw_p157, List.forall_mem_cons.mpr ⟨lw_p158, List.forall_mem_cons.mpr ⟨lw_p159, fun _ h => absurd h List.not_mem_nil⟩⟩⟩⟩⟩⟩⟩⟩⟩⟩⟩⟩⟩⟩⟩⟩
theorem lw_p160 : lw_okq (⟨"TaggedPascalModel", "step", "()V"⟩, 103) := ⟨⟨by decide +kernel, by decide +kernel⟩, List.mem_of_getElem? (i := 1601) (by decide +kernel), List.mem_of_getElem? (i := 2264) (by decide +kernel), List.mem_of_getElem? (i := 2265) (by decide +kernel)⟩
theorem lw_p161 : lw_okq (⟨"TaggedPascalModel", "push", "(J)V"⟩, 103) := ⟨⟨by decide +kernel, by decide +kernel⟩, List.mem_of_getElem? (i := 1601) (by decide +kernel), List.mem_of_getElem? (i := 2268) (by decide +kernel), List.mem_of_getElem? (i := 2269) (by decide +kernel)⟩
theorem lw_p162 : lw_okq (⟨"TaggedPascalModel", "cellStep", "(I)V"⟩, 103) := ⟨⟨by decide +kernel, by decide +kernel⟩, List.mem_of_getElem? (i := 1601) (by decide +kernel), List.mem_of_getElem? (i := 2272) (by decide +kernel), List.mem_of_getElem? (i := 2273) (by decide +kernel)⟩
theorem lw_p163 : lw_okq (⟨"TaggedPascalModel", "frameOf", "(I)I"⟩, 103) := ⟨⟨by decide +kernel, by decide +kernel⟩, List.mem_of_getElem? (i := 1601) (by decide +kernel), List.mem_of_getElem? (i := 2276) (by decide +kernel), List.mem_of_getElem? (i := 2277) (by decide +kernel)⟩
theorem lw_p164 : lw_okq (⟨"TaggedPascalModel", "pop", "()J"⟩, 103) := ⟨⟨by decide +kernel, by decide +kernel⟩, List.mem_of_getElem? (i := 1601) (by decide +kernel), List.mem_of_getElem? (i := 2280) (by decide +kernel), List.mem_of_getElem? (i := 2281) (by decide +kernel)⟩
theorem lw_p165 : lw_okq (⟨"TaggedPascalModel", "putThere", "(IJI)V"⟩, 103) := ⟨⟨by decide +kernel, by decide +kernel⟩, List.mem_of_getElem? (i := 1601) (by decide +kernel), List.mem_of_getElem? (i := 2287) (by decide +kernel), List.mem_of_getElem? (i := 2288) (by decide +kernel)⟩
theorem lw_p166 : lw_okq (⟨"TaggedPascalModel", "callAction", "(I)V"⟩, 103) := ⟨⟨by decide +kernel, by decide +kernel⟩, List.mem_of_getElem? (i := 1601) (by decide +kernel), List.mem_of_getElem? (i := 2291) (by decide +kernel), List.mem_of_getElem? (i := 2292) (by decide +kernel)⟩
theorem lw_p167 : lw_okq (⟨"TaggedPascalModel", "leave", "(I)V"⟩, 103) := ⟨⟨by decide +kernel, by decide +kernel⟩, List.mem_of_getElem? (i := 1601) (by decide +kernel), List.mem_of_getElem? (i := 2295) (by decide +kernel), List.mem_of_getElem? (i := 2296) (by decide +kernel)⟩
theorem lw_p168 : lw_okq (⟨"TaggedPascalModel", "forStep", "(I)V"⟩, 103) := ⟨⟨by decide +kernel, by decide +kernel⟩, List.mem_of_getElem? (i := 1601) (by decide +kernel), List.mem_of_getElem? (i := 2299) (by decide +kernel), List.mem_of_getElem? (i := 2300) (by decide +kernel)⟩
theorem lw_p169 : lw_okq (⟨"TaggedPascalModel", "otherStep", "(I)V"⟩, 103) := ⟨⟨by decide +kernel, by decide +kernel⟩, List.mem_of_getElem? (i := 1601) (by decide +kernel), List.mem_of_getElem? (i := 2303) (by decide +kernel), List.mem_of_getElem? (i := 2304) (by decide +kernel)⟩
theorem lw_p170 : lw_okq (⟨"TaggedPascalModel", "join", "(II)V"⟩, 103) := ⟨⟨by decide +kernel, by decide +kernel⟩, List.mem_of_getElem? (i := 1601) (by decide +kernel), List.mem_of_getElem? (i := 2307) (by decide +kernel), List.mem_of_getElem? (i := 2308) (by decide +kernel)⟩
theorem lw_p171 : lw_okq (⟨"TaggedPascalModel", "addRow", "()V"⟩, 103) := ⟨⟨by decide +kernel, by decide +kernel⟩, List.mem_of_getElem? (i := 1601) (by decide +kernel), List.mem_of_getElem? (i := 2322) (by decide +kernel), List.mem_of_getElem? (i := 2323) (by decide +kernel)⟩
theorem lw_p172 : lw_okq (⟨"TaggedPascalModel", "apply", "(II)V"⟩, 103) := ⟨⟨by decide +kernel, by decide +kernel⟩, List.mem_of_getElem? (i := 1601) (by decide +kernel), List.mem_of_getElem? (i := 2327) (by decide +kernel), List.mem_of_getElem? (i := 2328) (by decide +kernel)⟩
theorem lw_p173 : lw_okq (⟨"TaggedPascalModel", "takeIn", "(I)V"⟩, 103) := ⟨⟨by decide +kernel, by decide +kernel⟩, List.mem_of_getElem? (i := 1601) (by decide +kernel), List.mem_of_getElem? (i := 2331) (by decide +kernel), List.mem_of_getElem? (i := 2332) (by decide +kernel)⟩
theorem lw_p174 : lw_okq (⟨"TaggedPascalModel", "putOut", "(IJ)V"⟩, 103) := ⟨⟨by decide +kernel, by decide +kernel⟩, List.mem_of_getElem? (i := 1601) (by decide +kernel), List.mem_of_getElem? (i := 2335) (by decide +kernel), List.mem_of_getElem? (i := 2336) (by decide +kernel)⟩
theorem lw_p175 : lw_okq (⟨"TaggedPascalModel", "putNumber", "(J)V"⟩, 103) := ⟨⟨by decide +kernel, by decide +kernel⟩, List.mem_of_getElem? (i := 1601) (by decide +kernel), List.mem_of_getElem? (i := 2339) (by decide +kernel), List.mem_of_getElem? (i := 2340) (by decide +kernel)⟩
def lw_privs_11 : List (MethodName × Nat) := [(⟨"TaggedPascalModel", "step", "()V"⟩, 103), (⟨"TaggedPascalModel", "push", "(J)V"⟩, 103), (⟨"TaggedPascalModel", "cellStep", "(I)V"⟩, 103), (⟨"TaggedPascalModel", "frameOf", "(I)I"⟩, 103), (⟨"TaggedPascalModel", "pop", "()J"⟩, 103), (⟨"TaggedPascalModel", "putThere", "(IJI)V"⟩, 103), (⟨"TaggedPascalModel", "callAction", "(I)V"⟩, 103), (⟨"TaggedPascalModel", "leave", "(I)V"⟩, 103), (⟨"TaggedPascalModel", "forStep", "(I)V"⟩, 103), (⟨"TaggedPascalModel", "otherStep", "(I)V"⟩, 103), (⟨"TaggedPascalModel", "join", "(II)V"⟩, 103), (⟨"TaggedPascalModel", "addRow", "()V"⟩, 103), (⟨"TaggedPascalModel", "apply", "(II)V"⟩, 103), (⟨"TaggedPascalModel", "takeIn", "(I)V"⟩, 103), (⟨"TaggedPascalModel", "putOut", "(IJ)V"⟩, 103), (⟨"TaggedPascalModel", "putNumber", "(J)V"⟩, 103)]
theorem lw_r11 : ∀ q ∈ lw_privs_11, lw_okq q := List.forall_mem_cons.mpr ⟨lw_p160, List.forall_mem_cons.mpr ⟨lw_p161, List.forall_mem_cons.mpr ⟨lw_p162, List.forall_mem_cons.mpr ⟨lw_p163, List.forall_mem_cons.mpr ⟨lw_p164, List.forall_mem_cons.mpr ⟨lw_p165, List.forall_mem_cons.mpr ⟨lw_p166, List.forall_mem_cons.mpr ⟨lw_p167, List.forall_mem_cons.mpr ⟨lw_p168, List.forall_mem_cons.mpr ⟨lw_p169, List.forall_mem_cons.mpr ⟨lw_p170, List.forall_mem_cons.mpr ⟨lw_p171, List.forall_mem_cons.mpr ⟨lw_p172, List.forall_mem_cons.mpr ⟨lw_p173, List.forall_mem_cons.mpr ⟨lw_p174, List.forall_mem_cons.mpr ⟨lw_p175, fun _ h => absurd h List.not_mem_nil⟩⟩⟩⟩⟩⟩⟩⟩⟩⟩⟩⟩⟩⟩⟩⟩
theorem lw_p176 : lw_okq (⟨"TaggedPascalModel", "putByte", "(I)V"⟩, 103) := ⟨⟨by decide +kernel, by decide +kernel⟩, List.mem_of_getElem? (i := 1601) (by decide +kernel), List.mem_of_getElem? (i := 2343) (by decide +kernel), List.mem_of_getElem? (i := 2344) (by decide +kernel)⟩
theorem lw_p177 : lw_okq (⟨"TaggedPascalModel", "outsideAt", "(I)I"⟩, 103) := ⟨⟨by decide +kernel, by decide +kernel⟩, List.mem_of_getElem? (i := 1601) (by decide +kernel), List.mem_of_getElem? (i := 2347) (by decide +kernel), List.mem_of_getElem? (i := 2348) (by decide +kernel)⟩
theorem lw_p178 : lw_okq (⟨"TaggedPascalModel", "putWord", "(I)V"⟩, 103) := ⟨⟨by decide +kernel, by decide +kernel⟩, List.mem_of_getElem? (i := 1601) (by decide +kernel), List.mem_of_getElem? (i := 2351) (by decide +kernel), List.mem_of_getElem? (i := 2352) (by decide +kernel)⟩
def lw_privs_12 : List (MethodName × Nat) := [(⟨"TaggedPascalModel", "putByte", "(I)V"⟩, 103), (⟨"TaggedPascalModel", "outsideAt", "(I)I"⟩, 103), (⟨"TaggedPascalModel", "putWord", "(I)V"⟩, 103)]
theorem lw_r12 : ∀ q ∈ lw_privs_12, lw_okq q := List.forall_mem_cons.mpr ⟨lw_p176, List.forall_mem_cons.mpr ⟨lw_p177, List.forall_mem_cons.mpr ⟨lw_p178, fun _ h => absurd h List.not_mem_nil⟩⟩⟩
def lw_privs : List (MethodName × Nat) := lw_privs_1 ++ (lw_privs_2 ++ (lw_privs_3 ++ (lw_privs_4 ++ (lw_privs_5 ++ (lw_privs_6 ++ (lw_privs_7 ++ (lw_privs_8 ++ (lw_privs_9 ++ (lw_privs_10 ++ (lw_privs_11 ++ (lw_privs_12)))))))))))
def lw_tbl : List Cond := k2_sels lw_privs ++ tables_1
theorem lw_privs_ok : ∀ q ∈ lw_privs, lw_okq q := by
  show ∀ q ∈ lw_privs_1 ++ (lw_privs_2 ++ (lw_privs_3 ++ (lw_privs_4 ++ (lw_privs_5 ++ (lw_privs_6 ++ (lw_privs_7 ++ (lw_privs_8 ++ (lw_privs_9 ++ (lw_privs_10 ++ (lw_privs_11 ++ (lw_privs_12))))))))))), lw_okq q
  exact List.forall_mem_append.mpr ⟨lw_r1, List.forall_mem_append.mpr ⟨lw_r2, List.forall_mem_append.mpr ⟨lw_r3, List.forall_mem_append.mpr ⟨lw_r4, List.forall_mem_append.mpr ⟨lw_r5, List.forall_mem_append.mpr ⟨lw_r6, List.forall_mem_append.mpr ⟨lw_r7, List.forall_mem_append.mpr ⟨lw_r8, List.forall_mem_append.mpr ⟨lw_r9, List.forall_mem_append.mpr ⟨lw_r10, List.forall_mem_append.mpr ⟨lw_r11, lw_r12⟩⟩⟩⟩⟩⟩⟩⟩⟩⟩⟩
end
section
def RX0 : String := "TaggedPascal$Blocks"
def TX0 : u_T := fun k => match k with
  | 0 => ("TaggedPascal$Blocks", "words", "LTaggedPascal$Words;", true)
  | 1 => ("TaggedPascal$Blocks", "code", "LTaggedPascal$Code;", true)
  | 2 => ("TaggedPascal$Blocks", "names", "LTaggedPascal$Names;", true)
  | 3 => ("TaggedPascal$Blocks", "expressions", "LTaggedPascal$Expressions;", true)
  | _ => ("TaggedPascal$Blocks", "statements", "LTaggedPascal$Statements;", true)
def tyX0 : Nat → FieldType := fun k => match k with
  | 0 => .object "TaggedPascal$Words"
  | 1 => .object "TaggedPascal$Code"
  | 2 => .object "TaggedPascal$Names"
  | 3 => .object "TaggedPascal$Expressions"
  | _ => .object "TaggedPascal$Statements"
abbrev wsX00 : List Cond := u_ws RX0 TX0 5
theorem nmX0 : ∀ a, a < 5 → ∀ b, b < 5 → a ≠ b → (TX0 a).2.1 ≠ (TX0 b).2.1 := by decide +kernel
theorem tyX0_ok : ∀ k, k < 5 → parseFieldDescriptor (TX0 k).2.2.1 = some (tyX0 k) := by decide +kernel
def RX1 : String := "TaggedPascal$Code"
def TX1 : u_T := fun k => match k with
  | 0 => ("TaggedPascal$Code", "cells", "[I", false)
  | 1 => ("TaggedPascal$Code", "origins", "[I", false)
  | 2 => ("TaggedPascal$Code", "length", "I", false)
  | 3 => ("TaggedPascal$Code", "origin", "I", false)
  | 4 => ("TaggedPascal$Code", "frame", "I", false)
  | _ => ("TaggedPascal$Code", "routines", "I", false)
def tyX1 : Nat → FieldType := fun k => match k with
  | 0 => .array .int
  | 1 => .array .int
  | 2 => .int
  | 3 => .int
  | 4 => .int
  | _ => .int
abbrev wsX10 : List Cond := u_ws RX1 TX1 6
theorem nmX1 : ∀ a, a < 6 → ∀ b, b < 6 → a ≠ b → (TX1 a).2.1 ≠ (TX1 b).2.1 := by decide +kernel
theorem tyX1_ok : ∀ k, k < 6 → parseFieldDescriptor (TX1 k).2.2.1 = some (tyX1 k) := by decide +kernel
def RX2 : String := "TaggedPascal$Expressions"
def TX2 : u_T := fun k => match k with
  | 0 => ("TaggedPascal$Expressions", "words", "LTaggedPascal$Words;", true)
  | 1 => ("TaggedPascal$Expressions", "names", "LTaggedPascal$Names;", true)
  | 2 => ("TaggedPascal$Expressions", "code", "LTaggedPascal$Code;", true)
  | _ => ("TaggedPascal$Expressions", "constantValue", "I", false)
def tyX2 : Nat → FieldType := fun k => match k with
  | 0 => .object "TaggedPascal$Words"
  | 1 => .object "TaggedPascal$Names"
  | 2 => .object "TaggedPascal$Code"
  | _ => .int
abbrev wsX20 : List Cond := u_ws RX2 TX2 4
theorem nmX2 : ∀ a, a < 4 → ∀ b, b < 4 → a ≠ b → (TX2 a).2.1 ≠ (TX2 b).2.1 := by decide +kernel
theorem tyX2_ok : ∀ k, k < 4 → parseFieldDescriptor (TX2 k).2.2.1 = some (tyX2 k) := by decide +kernel
def RX3 : String := "TaggedPascal$Machine"
def TX3 : u_T := fun k => match k with
  | 0 => ("TaggedPascal$Machine", "program", "LTaggedPascal$Code;", true)
  | 1 => ("TaggedPascal$Machine", "entered", "LTaggedPascal$Tape;", true)
  | 2 => ("TaggedPascal$Machine", "output", "LTaggedPascal$Tape;", true)
  | 3 => ("TaggedPascal$Machine", "cells", "[J", true)
  | 4 => ("TaggedPascal$Machine", "marks", "[B", true)
  | 5 => ("TaggedPascal$Machine", "stack", "[J", false)
  | 6 => ("TaggedPascal$Machine", "height", "I", false)
  | 7 => ("TaggedPascal$Machine", "base", "I", false)
  | 8 => ("TaggedPascal$Machine", "top", "I", false)
  | 9 => ("TaggedPascal$Machine", "blocks", "I", false)
  | 10 => ("TaggedPascal$Machine", "next", "I", false)
  | 11 => ("TaggedPascal$Machine", "current", "I", false)
  | 12 => ("TaggedPascal$Machine", "ending", "I", false)
  | 13 => ("TaggedPascal$Machine", "errorPlace", "I", false)
  | 14 => ("TaggedPascal$Machine", "limit", "I", false)
  | 15 => ("TaggedPascal$Machine", "steps", "I", false)
  | 16 => ("TaggedPascal$Machine", "mostBlocks", "I", false)
  | 17 => ("TaggedPascal$Machine", "mostCells", "I", false)
  | _ => ("TaggedPascal$Machine", "bytesRead", "I", false)
def tyX3 : Nat → FieldType := fun k => match k with
  | 0 => .object "TaggedPascal$Code"
  | 1 => .object "TaggedPascal$Tape"
  | 2 => .object "TaggedPascal$Tape"
  | 3 => .array .long
  | 4 => .array .byte
  | 5 => .array .long
  | 6 => .int
  | 7 => .int
  | 8 => .int
  | 9 => .int
  | 10 => .int
  | 11 => .int
  | 12 => .int
  | 13 => .int
  | 14 => .int
  | 15 => .int
  | 16 => .int
  | 17 => .int
  | _ => .int
abbrev wsX30 : List Cond := u_ws RX3 TX3 19
theorem nmX3 : ∀ a, a < 19 → ∀ b, b < 19 → a ≠ b → (TX3 a).2.1 ≠ (TX3 b).2.1 := by decide +kernel
theorem tyX3_ok : ∀ k, k < 19 → parseFieldDescriptor (TX3 k).2.2.1 = some (tyX3 k) := by decide +kernel
def RX4 : String := "TaggedPascal$Name"
def TX4 : u_T := fun k => match k with
  | 0 => ("TaggedPascal$Name", "code", "J", false)
  | 1 => ("TaggedPascal$Name", "sort", "I", false)
  | 2 => ("TaggedPascal$Name", "type", "LTaggedPascal$Type;", false)
  | 3 => ("TaggedPascal$Name", "routine", "LTaggedPascal$Routine;", false)
  | 4 => ("TaggedPascal$Name", "value", "I", false)
  | 5 => ("TaggedPascal$Name", "level", "I", false)
  | _ => ("TaggedPascal$Name", "byReference", "Z", false)
def tyX4 : Nat → FieldType := fun k => match k with
  | 0 => .long
  | 1 => .int
  | 2 => .object "TaggedPascal$Type"
  | 3 => .object "TaggedPascal$Routine"
  | 4 => .int
  | 5 => .int
  | _ => .boolean
abbrev wsX40 : List Cond := u_ws RX4 TX4 7
theorem nmX4 : ∀ a, a < 7 → ∀ b, b < 7 → a ≠ b → (TX4 a).2.1 ≠ (TX4 b).2.1 := by decide +kernel
theorem tyX4_ok : ∀ k, k < 7 → parseFieldDescriptor (TX4 k).2.2.1 = some (tyX4 k) := by decide +kernel
def RX5 : String := "TaggedPascal$Names"
def TX5 : u_T := fun k => match k with
  | 0 => ("TaggedPascal$Names", "integers", "LTaggedPascal$Type;", true)
  | 1 => ("TaggedPascal$Names", "chars", "LTaggedPascal$Type;", true)
  | 2 => ("TaggedPascal$Names", "booleans", "LTaggedPascal$Type;", true)
  | 3 => ("TaggedPascal$Names", "noRoutine", "LTaggedPascal$Routine;", true)
  | 4 => ("TaggedPascal$Names", "unknown", "LTaggedPascal$Name;", true)
  | 5 => ("TaggedPascal$Names", "pool", "[LTaggedPascal$Name;", true)
  | 6 => ("TaggedPascal$Names", "count", "I", false)
  | 7 => ("TaggedPascal$Names", "firstOfBlock", "I", false)
  | _ => ("TaggedPascal$Names", "level", "I", false)
def tyX5 : Nat → FieldType := fun k => match k with
  | 0 => .object "TaggedPascal$Type"
  | 1 => .object "TaggedPascal$Type"
  | 2 => .object "TaggedPascal$Type"
  | 3 => .object "TaggedPascal$Routine"
  | 4 => .object "TaggedPascal$Name"
  | 5 => .array (.object "TaggedPascal$Name")
  | 6 => .int
  | 7 => .int
  | _ => .int
abbrev wsX50 : List Cond := u_ws RX5 TX5 9
theorem nmX5 : ∀ a, a < 9 → ∀ b, b < 9 → a ≠ b → (TX5 a).2.1 ≠ (TX5 b).2.1 := by decide +kernel
theorem tyX5_ok : ∀ k, k < 9 → parseFieldDescriptor (TX5 k).2.2.1 = some (tyX5 k) := by decide +kernel
def RX6 : String := "TaggedPascal$Routine"
def TX6 : u_T := fun k => match k with
  | 0 => ("TaggedPascal$Routine", "level", "I", true)
  | 1 => ("TaggedPascal$Routine", "types", "[LTaggedPascal$Type;", true)
  | 2 => ("TaggedPascal$Routine", "byReference", "[Z", true)
  | 3 => ("TaggedPascal$Routine", "parameters", "I", false)
  | 4 => ("TaggedPascal$Routine", "size", "I", false)
  | 5 => ("TaggedPascal$Routine", "entry", "I", false)
  | 6 => ("TaggedPascal$Routine", "result", "LTaggedPascal$Type;", false)
  | _ => ("TaggedPascal$Routine", "open", "Z", false)
def tyX6 : Nat → FieldType := fun k => match k with
  | 0 => .int
  | 1 => .array (.object "TaggedPascal$Type")
  | 2 => .array .boolean
  | 3 => .int
  | 4 => .int
  | 5 => .int
  | 6 => .object "TaggedPascal$Type"
  | _ => .boolean
abbrev wsX60 : List Cond := u_ws RX6 TX6 8
theorem nmX6 : ∀ a, a < 8 → ∀ b, b < 8 → a ≠ b → (TX6 a).2.1 ≠ (TX6 b).2.1 := by decide +kernel
theorem tyX6_ok : ∀ k, k < 8 → parseFieldDescriptor (TX6 k).2.2.1 = some (tyX6 k) := by decide +kernel
def RX7 : String := "TaggedPascal$Statements"
def TX7 : u_T := fun k => match k with
  | 0 => ("TaggedPascal$Statements", "words", "LTaggedPascal$Words;", true)
  | 1 => ("TaggedPascal$Statements", "names", "LTaggedPascal$Names;", true)
  | 2 => ("TaggedPascal$Statements", "code", "LTaggedPascal$Code;", true)
  | 3 => ("TaggedPascal$Statements", "expressions", "LTaggedPascal$Expressions;", true)
  | 4 => ("TaggedPascal$Statements", "labels", "[I", true)
  | _ => ("TaggedPascal$Statements", "labelCount", "I", false)
def tyX7 : Nat → FieldType := fun k => match k with
  | 0 => .object "TaggedPascal$Words"
  | 1 => .object "TaggedPascal$Names"
  | 2 => .object "TaggedPascal$Code"
  | 3 => .object "TaggedPascal$Expressions"
  | 4 => .array .int
  | _ => .int
abbrev wsX70 : List Cond := u_ws RX7 TX7 6
theorem nmX7 : ∀ a, a < 6 → ∀ b, b < 6 → a ≠ b → (TX7 a).2.1 ≠ (TX7 b).2.1 := by decide +kernel
theorem tyX7_ok : ∀ k, k < 6 → parseFieldDescriptor (TX7 k).2.2.1 = some (tyX7 k) := by decide +kernel
def RX8 : String := "TaggedPascal$Tape"
def TX8 : u_T := fun k => match k with
  | 0 => ("TaggedPascal$Tape", "bytes", "[B", true)
  | _ => ("TaggedPascal$Tape", "length", "I", false)
def tyX8 : Nat → FieldType := fun k => match k with
  | 0 => .array .byte
  | _ => .int
abbrev wsX80 : List Cond := u_ws RX8 TX8 2
theorem nmX8 : ∀ a, a < 2 → ∀ b, b < 2 → a ≠ b → (TX8 a).2.1 ≠ (TX8 b).2.1 := by decide +kernel
theorem tyX8_ok : ∀ k, k < 2 → parseFieldDescriptor (TX8 k).2.2.1 = some (tyX8 k) := by decide +kernel
def RX9 : String := "TaggedPascal$Type"
def TX9 : u_T := fun k => match k with
  | 0 => ("TaggedPascal$Type", "kind", "I", true)
  | 1 => ("TaggedPascal$Type", "ranged", "Z", true)
  | 2 => ("TaggedPascal$Type", "low", "I", true)
  | 3 => ("TaggedPascal$Type", "high", "I", true)
  | _ => ("TaggedPascal$Type", "element", "LTaggedPascal$Type;", true)
def tyX9 : Nat → FieldType := fun k => match k with
  | 0 => .int
  | 1 => .boolean
  | 2 => .int
  | 3 => .int
  | _ => .object "TaggedPascal$Type"
abbrev wsX90 : List Cond := u_ws RX9 TX9 5
theorem nmX9 : ∀ a, a < 5 → ∀ b, b < 5 → a ≠ b → (TX9 a).2.1 ≠ (TX9 b).2.1 := by decide +kernel
theorem tyX9_ok : ∀ k, k < 5 → parseFieldDescriptor (TX9 k).2.2.1 = some (tyX9 k) := by decide +kernel
def RX10 : String := "TaggedPascal$Words"
def TX10 : u_T := fun k => match k with
  | 0 => ("TaggedPascal$Words", "reserved", "[J", true)
  | 1 => ("TaggedPascal$Words", "kinds", "[I", true)
  | 2 => ("TaggedPascal$Words", "starts", "[I", true)
  | 3 => ("TaggedPascal$Words", "values", "[J", true)
  | 4 => ("TaggedPascal$Words", "tape", "LTaggedPascal$Tape;", true)
  | 5 => ("TaggedPascal$Words", "position", "I", false)
  | 6 => ("TaggedPascal$Words", "count", "I", false)
  | 7 => ("TaggedPascal$Words", "current", "I", false)
  | 8 => ("TaggedPascal$Words", "failure", "I", false)
  | _ => ("TaggedPascal$Words", "failedAt", "I", false)
def tyX10 : Nat → FieldType := fun k => match k with
  | 0 => .array .long
  | 1 => .array .int
  | 2 => .array .int
  | 3 => .array .long
  | 4 => .object "TaggedPascal$Tape"
  | 5 => .int
  | 6 => .int
  | 7 => .int
  | 8 => .int
  | _ => .int
abbrev wsX100 : List Cond := u_ws RX10 TX10 10
theorem nmX10 : ∀ a, a < 10 → ∀ b, b < 10 → a ≠ b → (TX10 a).2.1 ≠ (TX10 b).2.1 := by decide +kernel
theorem tyX10_ok : ∀ k, k < 10 → parseFieldDescriptor (TX10 k).2.2.1 = some (tyX10 k) := by decide +kernel
def RX11 : String := "TaggedPascal"
def TX11 : u_T := fun k => match k with
  | 0 => ("TaggedPascal", "tape", "LTaggedPascal$Tape;", true)
  | 1 => ("TaggedPascal", "entered", "LTaggedPascal$Tape;", true)
  | 2 => ("TaggedPascal", "words", "LTaggedPascal$Words;", true)
  | 3 => ("TaggedPascal", "draft", "LTaggedPascal$Code;", true)
  | 4 => ("TaggedPascal", "program", "LTaggedPascal$Code;", true)
  | 5 => ("TaggedPascal", "blocks", "LTaggedPascal$Blocks;", true)
  | _ => ("TaggedPascal", "machine", "LTaggedPascal$Machine;", true)
def tyX11 : Nat → FieldType := fun k => match k with
  | 0 => .object "TaggedPascal$Tape"
  | 1 => .object "TaggedPascal$Tape"
  | 2 => .object "TaggedPascal$Words"
  | 3 => .object "TaggedPascal$Code"
  | 4 => .object "TaggedPascal$Code"
  | 5 => .object "TaggedPascal$Blocks"
  | _ => .object "TaggedPascal$Machine"
abbrev wsX110 : List Cond := u_ws RX11 TX11 7
theorem nmX11 : ∀ a, a < 7 → ∀ b, b < 7 → a ≠ b → (TX11 a).2.1 ≠ (TX11 b).2.1 := by decide +kernel
theorem tyX11_ok : ∀ k, k < 7 → parseFieldDescriptor (TX11 k).2.2.1 = some (tyX11 k) := by decide +kernel
def RX12 : String := "TaggedPascalModel"
def TX12 : u_T := fun k => match k with
  | 0 => ("TaggedPascalModel", "reserved", "[I", true)
  | 1 => ("TaggedPascalModel", "outside", "[I", true)
  | 2 => ("TaggedPascalModel", "reservedNames", "[J", true)
  | 3 => ("TaggedPascalModel", "thrown", "I", false)
  | 4 => ("TaggedPascalModel", "tape", "[I", true)
  | 5 => ("TaggedPascalModel", "size", "I", false)
  | 6 => ("TaggedPascalModel", "fault", "I", false)
  | 7 => ("TaggedPascalModel", "place", "I", false)
  | 8 => ("TaggedPascalModel", "at", "I", false)
  | 9 => ("TaggedPascalModel", "begin", "I", false)
  | 10 => ("TaggedPascalModel", "word", "I", false)
  | 11 => ("TaggedPascalModel", "name", "J", false)
  | 12 => ("TaggedPascalModel", "number", "I", false)
  | 13 => ("TaggedPascalModel", "from", "I", false)
  | 14 => ("TaggedPascalModel", "length", "I", false)
  | 15 => ("TaggedPascalModel", "names", "I", false)
  | 16 => ("TaggedPascalModel", "nameOf", "[J", true)
  | 17 => ("TaggedPascalModel", "sortOf", "[I", true)
  | 18 => ("TaggedPascalModel", "levelOf", "[I", true)
  | 19 => ("TaggedPascalModel", "waits", "[Z", true)
  | 20 => ("TaggedPascalModel", "kindOf", "[I", true)
  | 21 => ("TaggedPascalModel", "ranged", "[Z", true)
  | 22 => ("TaggedPascalModel", "lowOf", "[I", true)
  | 23 => ("TaggedPascalModel", "highOf", "[I", true)
  | 24 => ("TaggedPascalModel", "isArray", "[Z", true)
  | 25 => ("TaggedPascalModel", "indexKind", "[I", true)
  | 26 => ("TaggedPascalModel", "indexLow", "[I", true)
  | 27 => ("TaggedPascalModel", "indexHigh", "[I", true)
  | 28 => ("TaggedPascalModel", "cellOf", "[I", true)
  | 29 => ("TaggedPascalModel", "byPlace", "[Z", true)
  | 30 => ("TaggedPascalModel", "actionOf", "[I", true)
  | 31 => ("TaggedPascalModel", "constKind", "I", false)
  | 32 => ("TaggedPascalModel", "constValue", "I", false)
  | 33 => ("TaggedPascalModel", "typeKind", "I", false)
  | 34 => ("TaggedPascalModel", "typeRanged", "Z", false)
  | 35 => ("TaggedPascalModel", "typeLow", "I", false)
  | 36 => ("TaggedPascalModel", "typeHigh", "I", false)
  | 37 => ("TaggedPascalModel", "typeArray", "Z", false)
  | 38 => ("TaggedPascalModel", "typeIndexKind", "I", false)
  | 39 => ("TaggedPascalModel", "typeIndexLow", "I", false)
  | 40 => ("TaggedPascalModel", "typeIndexHigh", "I", false)
  | 41 => ("TaggedPascalModel", "level", "I", false)
  | 42 => ("TaggedPascalModel", "firstName", "[I", true)
  | 43 => ("TaggedPascalModel", "cellsOf", "[I", true)
  | 44 => ("TaggedPascalModel", "openAction", "[I", true)
  | 45 => ("TaggedPascalModel", "actions", "I", false)
  | 46 => ("TaggedPascalModel", "entry", "[I", true)
  | 47 => ("TaggedPascalModel", "actionLevel", "[I", true)
  | 48 => ("TaggedPascalModel", "actionCells", "[I", true)
  | 49 => ("TaggedPascalModel", "many", "[I", true)
  | 50 => ("TaggedPascalModel", "isFunction", "[Z", true)
  | 51 => ("TaggedPascalModel", "parameterKind", "[I", true)
  | 52 => ("TaggedPascalModel", "parameterByPlace", "[Z", true)
  | 53 => ("TaggedPascalModel", "parameterRanged", "[Z", true)
  | 54 => ("TaggedPascalModel", "parameterLow", "[I", true)
  | 55 => ("TaggedPascalModel", "parameterHigh", "[I", true)
  | 56 => ("TaggedPascalModel", "parametersLeft", "I", false)
  | 57 => ("TaggedPascalModel", "steps", "I", false)
  | 58 => ("TaggedPascalModel", "ops", "[I", true)
  | 59 => ("TaggedPascalModel", "ones", "[I", true)
  | 60 => ("TaggedPascalModel", "twos", "[I", true)
  | 61 => ("TaggedPascalModel", "threes", "[I", true)
  | 62 => ("TaggedPascalModel", "kind", "I", false)
  | 63 => ("TaggedPascalModel", "depth", "I", false)
  | 64 => ("TaggedPascalModel", "todo", "[I", true)
  | 65 => ("TaggedPascalModel", "waiting", "I", false)
  | 66 => ("TaggedPascalModel", "data", "[I", true)
  | 67 => ("TaggedPascalModel", "dataSize", "I", false)
  | 68 => ("TaggedPascalModel", "caseValues", "[I", true)
  | 69 => ("TaggedPascalModel", "caseCount", "I", false)
  | 70 => ("TaggedPascalModel", "runOps", "[I", true)
  | 71 => ("TaggedPascalModel", "runOnes", "[I", true)
  | 72 => ("TaggedPascalModel", "runTwos", "[I", true)
  | 73 => ("TaggedPascalModel", "runThrees", "[I", true)
  | 74 => ("TaggedPascalModel", "runEntry", "[I", true)
  | 75 => ("TaggedPascalModel", "runLevel", "[I", true)
  | 76 => ("TaggedPascalModel", "runCells", "[I", true)
  | 77 => ("TaggedPascalModel", "runMany", "[I", true)
  | 78 => ("TaggedPascalModel", "runFunction", "[Z", true)
  | 79 => ("TaggedPascalModel", "source", "[I", true)
  | 80 => ("TaggedPascalModel", "input", "[I", true)
  | 81 => ("TaggedPascalModel", "inputSize", "I", false)
  | 82 => ("TaggedPascalModel", "inputAt", "I", false)
  | 83 => ("TaggedPascalModel", "output", "[I", true)
  | 84 => ("TaggedPascalModel", "outputSize", "I", false)
  | 85 => ("TaggedPascalModel", "cells", "[J", true)
  | 86 => ("TaggedPascalModel", "written", "[Z", true)
  | 87 => ("TaggedPascalModel", "used", "I", false)
  | 88 => ("TaggedPascalModel", "mostUsed", "I", false)
  | 89 => ("TaggedPascalModel", "frames", "I", false)
  | 90 => ("TaggedPascalModel", "mostFrames", "I", false)
  | 91 => ("TaggedPascalModel", "base", "[I", true)
  | 92 => ("TaggedPascalModel", "around", "[I", true)
  | 93 => ("TaggedPascalModel", "action", "[I", true)
  | 94 => ("TaggedPascalModel", "goOn", "[I", true)
  | 95 => ("TaggedPascalModel", "mark", "[I", true)
  | 96 => ("TaggedPascalModel", "stack", "[J", true)
  | 97 => ("TaggedPascalModel", "height", "I", false)
  | 98 => ("TaggedPascalModel", "at1", "I", false)
  | 99 => ("TaggedPascalModel", "limit", "I", false)
  | 100 => ("TaggedPascalModel", "stepCount", "I", false)
  | 101 => ("TaggedPascalModel", "ended", "I", false)
  | _ => ("TaggedPascalModel", "where", "I", false)
def tyX12 : Nat → FieldType := fun k => match k with
  | 0 => .array .int
  | 1 => .array .int
  | 2 => .array .long
  | 3 => .int
  | 4 => .array .int
  | 5 => .int
  | 6 => .int
  | 7 => .int
  | 8 => .int
  | 9 => .int
  | 10 => .int
  | 11 => .long
  | 12 => .int
  | 13 => .int
  | 14 => .int
  | 15 => .int
  | 16 => .array .long
  | 17 => .array .int
  | 18 => .array .int
  | 19 => .array .boolean
  | 20 => .array .int
  | 21 => .array .boolean
  | 22 => .array .int
  | 23 => .array .int
  | 24 => .array .boolean
  | 25 => .array .int
  | 26 => .array .int
  | 27 => .array .int
  | 28 => .array .int
  | 29 => .array .boolean
  | 30 => .array .int
  | 31 => .int
  | 32 => .int
  | 33 => .int
  | 34 => .boolean
  | 35 => .int
  | 36 => .int
  | 37 => .boolean
  | 38 => .int
  | 39 => .int
  | 40 => .int
  | 41 => .int
  | 42 => .array .int
  | 43 => .array .int
  | 44 => .array .int
  | 45 => .int
  | 46 => .array .int
  | 47 => .array .int
  | 48 => .array .int
  | 49 => .array .int
  | 50 => .array .boolean
  | 51 => .array .int
  | 52 => .array .boolean
  | 53 => .array .boolean
  | 54 => .array .int
  | 55 => .array .int
  | 56 => .int
  | 57 => .int
  | 58 => .array .int
  | 59 => .array .int
  | 60 => .array .int
  | 61 => .array .int
  | 62 => .int
  | 63 => .int
  | 64 => .array .int
  | 65 => .int
  | 66 => .array .int
  | 67 => .int
  | 68 => .array .int
  | 69 => .int
  | 70 => .array .int
  | 71 => .array .int
  | 72 => .array .int
  | 73 => .array .int
  | 74 => .array .int
  | 75 => .array .int
  | 76 => .array .int
  | 77 => .array .int
  | 78 => .array .boolean
  | 79 => .array .int
  | 80 => .array .int
  | 81 => .int
  | 82 => .int
  | 83 => .array .int
  | 84 => .int
  | 85 => .array .long
  | 86 => .array .boolean
  | 87 => .int
  | 88 => .int
  | 89 => .int
  | 90 => .int
  | 91 => .array .int
  | 92 => .array .int
  | 93 => .array .int
  | 94 => .array .int
  | 95 => .array .int
  | 96 => .array .long
  | 97 => .int
  | 98 => .int
  | 99 => .int
  | 100 => .int
  | 101 => .int
  | _ => .int
abbrev wsX120 : List Cond := u_ws RX12 TX12 103
theorem nmX12 : ∀ a, a < 103 → ∀ b, b < 103 → a ≠ b → (TX12 a).2.1 ≠ (TX12 b).2.1 := by decide +kernel
theorem tyX12_ok : ∀ k, k < 103 → parseFieldDescriptor (TX12 k).2.2.1 = some (tyX12 k) := by decide +kernel
def RJ0 : String := "java/lang/String"
def TJ0 : u_T := fun k => match k with
  | 0 => ("java/lang/String", "value", "[B", true)
  | 1 => ("java/lang/String", "coder", "B", true)
  | 2 => ("java/lang/String", "hash", "I", false)
  | _ => ("java/lang/String", "hashIsZero", "Z", false)
def tyJ0 : Nat → FieldType := fun k => match k with
  | 0 => .array .byte
  | 1 => .byte
  | 2 => .int
  | _ => .boolean
abbrev wsJ00 : List Cond := u_ws RJ0 TJ0 4
theorem nmJ0 : ∀ a, a < 4 → ∀ b, b < 4 → a ≠ b → (TJ0 a).2.1 ≠ (TJ0 b).2.1 := by decide +kernel
theorem tyJ0_ok : ∀ k, k < 4 → parseFieldDescriptor (TJ0 k).2.2.1 = some (tyJ0 k) := by decide +kernel
def RJ1 : String := "java/lang/StringLatin1"
def RJ9 : String := "java/lang/Math"
def RL : String := "TaggedPascalLaw"
def RJ3 : String := "jdk/internal/util/Preconditions"
/-- the kinds of cells, by number -/
def rc_cls : List vw_C := [(RX0, TX0, 5), (RX1, TX1, 6), (RX2, TX2, 4), (RX3, TX3, 19), (RX4, TX4, 7), (RX5, TX5, 9), (RX6, TX6, 8), (RX7, TX7, 6), (RX8, TX8, 2), (RX9, TX9, 5), (RX10, TX10, 10), (RX11, TX11, 7), (RX12, TX12, 103), (RJ0, TJ0, 4)]
def rc_tyf : List (Nat → FieldType) := [tyX0, tyX1, tyX2, tyX3, tyX4, tyX5, tyX6, tyX7, tyX8, tyX9, tyX10, tyX11, tyX12, tyJ0]
def rc_dfl : List (List Value) := [[.null, .null, .null, .null, .null], [.null, .null, .int 0, .int 0, .int 0, .int 0], [.null, .null, .null, .int 0], [.null, .null, .null, .null, .null, .null, .int 0, .int 0, .int 0, .int 0, .int 0, .int 0, .int 0, .int 0, .int 0, .int 0, .int 0, .int 0, .int 0], [.long 0, .int 0, .null, .null, .int 0, .int 0, .int 0], [.null, .null, .null, .null, .null, .null, .int 0, .int 0, .int 0], [.int 0, .null, .null, .int 0, .int 0, .int 0, .null, .int 0], [.null, .null, .null, .null, .null, .int 0], [.null, .int 0], [.int 0, .int 0, .int 0, .int 0, .null], [.null, .null, .null, .null, .null, .int 0, .int 0, .int 0, .int 0, .int 0], [.null, .null, .null, .null, .null, .null, .null], [.null, .null, .null, .int 0, .null, .int 0, .int 0, .int 0, .int 0, .int 0, .int 0, .long 0, .int 0, .int 0, .int 0, .int 0, .null, .null, .null, .null, .null, .null, .null, .null, .null, .null, .null, .null, .null, .null, .null, .int 0, .int 0, .int 0, .int 0, .int 0, .int 0, .int 0, .int 0, .int 0, .int 0, .int 0, .null, .null, .null, .int 0, .null, .null, .null, .null, .null, .null, .null, .null, .null, .null, .int 0, .int 0, .null, .null, .null, .null, .int 0, .int 0, .null, .int 0, .null, .int 0, .null, .int 0, .null, .null, .null, .null, .null, .null, .null, .null, .null, .null, .null, .int 0, .int 0, .null, .int 0, .null, .null, .int 0, .int 0, .int 0, .int 0, .null, .null, .null, .null, .null, .null, .int 0, .int 0, .int 0, .int 0, .int 0, .int 0], [.null, .int 0, .int 0, .int 0]]
def rc_ftl : List (List FieldType) := [[.object "TaggedPascal$Words", .object "TaggedPascal$Code", .object "TaggedPascal$Names", .object "TaggedPascal$Expressions", .object "TaggedPascal$Statements"], [.array .int, .array .int, .int, .int, .int, .int], [.object "TaggedPascal$Words", .object "TaggedPascal$Names", .object "TaggedPascal$Code", .int], [.object "TaggedPascal$Code", .object "TaggedPascal$Tape", .object "TaggedPascal$Tape", .array .long, .array .byte, .array .long, .int, .int, .int, .int, .int, .int, .int, .int, .int, .int, .int, .int, .int], [.long, .int, .object "TaggedPascal$Type", .object "TaggedPascal$Routine", .int, .int, .boolean], [.object "TaggedPascal$Type", .object "TaggedPascal$Type", .object "TaggedPascal$Type", .object "TaggedPascal$Routine", .object "TaggedPascal$Name", .array (.object "TaggedPascal$Name"), .int, .int, .int], [.int, .array (.object "TaggedPascal$Type"), .array .boolean, .int, .int, .int, .object "TaggedPascal$Type", .boolean], [.object "TaggedPascal$Words", .object "TaggedPascal$Names", .object "TaggedPascal$Code", .object "TaggedPascal$Expressions", .array .int, .int], [.array .byte, .int], [.int, .boolean, .int, .int, .object "TaggedPascal$Type"], [.array .long, .array .int, .array .int, .array .long, .object "TaggedPascal$Tape", .int, .int, .int, .int, .int], [.object "TaggedPascal$Tape", .object "TaggedPascal$Tape", .object "TaggedPascal$Words", .object "TaggedPascal$Code", .object "TaggedPascal$Code", .object "TaggedPascal$Blocks", .object "TaggedPascal$Machine"], [.array .int, .array .int, .array .long, .int, .array .int, .int, .int, .int, .int, .int, .int, .long, .int, .int, .int, .int, .array .long, .array .int, .array .int, .array .boolean, .array .int, .array .boolean, .array .int, .array .int, .array .boolean, .array .int, .array .int, .array .int, .array .int, .array .boolean, .array .int, .int, .int, .int, .boolean, .int, .int, .boolean, .int, .int, .int, .int, .array .int, .array .int, .array .int, .int, .array .int, .array .int, .array .int, .array .int, .array .boolean, .array .int, .array .boolean, .array .boolean, .array .int, .array .int, .int, .int, .array .int, .array .int, .array .int, .array .int, .int, .int, .array .int, .int, .array .int, .int, .array .int, .int, .array .int, .array .int, .array .int, .array .int, .array .int, .array .int, .array .int, .array .int, .array .boolean, .array .int, .array .int, .int, .int, .array .int, .int, .array .long, .array .boolean, .int, .int, .int, .int, .array .int, .array .int, .array .int, .array .int, .array .int, .array .long, .int, .int, .int, .int, .int, .int], [.array .byte, .byte, .int, .boolean]]
def rc_arr : List FieldType := [.int, .long, .byte, .boolean, .object "TaggedPascal$Name", .object "TaggedPascal$Type"]
def rc_arc : List Nat := [99, 99, 99, 99, 4, 9]
end
section
/-! A small runner over rows of code. Its cells are known by number: .ref k below 1000000 is the k-th cell made since the start, .ref (1000000 + j) the j-th cell that was there before. .float 0 is some int, .float (i + 1) the i-th unknown int, .double _ some long. -/
abbrev RRow : Type := Nat × Instr × Nat × List Nat
abbrev RCell : Type := (Nat × Nat × List (Nat × Value)) ⊕ (Nat × List Value)
abbrev RHeap : Type := List RCell
abbrev RLoc : Type := List (Nat × Value)
abbrev RRes : Type := (Option Value ⊕ Nat) × RHeap × Nat × Nat
abbrev RInf : Type := Nat × Nat × List RRow × List (Nat × Nat × Nat × Nat)
abbrev ROld : Type := List (Nat × Nat × Nat × Value) × List (Nat × Nat × List Value)
def rx_nth {α : Type} : List α → Nat → Option α
  | [], _ => none
  | a :: _, 0 => some a
  | _ :: l, k + 1 => rx_nth l k
def rc_fty (ci f : Nat) : Option FieldType := match rx_nth rc_ftl ci with
  | some l => rx_nth l f
  | none => none
def rx_lit {α : Type} (n : Nat) (k : Nat → α) : α := match n with
  | 0 => k 0
  | m + 1 => k (m + 1)
def rx_look : List (Nat × Value) → Nat → Option Value
  | [], _ => none
  | (j, v) :: l, i => match Nat.beq j i with
    | true => some v
    | false => rx_look l i
def rx_at : List RRow → Nat → List RRow
  | [], _ => []
  | r :: l, pc => match Nat.beq r.1 pc with
    | true => r :: l
    | false => rx_at l pc
def rx_isI : Value → Bool
  | .int _ => true
  | .float _ => true
  | _ => false
def rx_isL : Value → Bool
  | .long _ => true
  | .double _ => true
  | _ => false
def rx_isA : Value → Bool
  | .ref _ => true
  | .null => true
  | _ => false
def rx_ib (f : Int32 → Int32 → Int32) : Value → Value → Value
  | .int x, .int y => .int (f x y)
  | _, _ => .float 0
def rx_iu (f : Int32 → Int32) : Value → Value
  | .int x => .int (f x)
  | _ => .float 0
def rx_lb (f : Int64 → Int64 → Int64) : Value → Value → Value
  | .long x, .long y => .long (f x y)
  | _, _ => .double 0
def rx_ls (f : Int64 → Int32 → Int64) : Value → Value → Value
  | .long x, .int y => .long (f x y)
  | _, _ => .double 0
def rx_i2l : Value → Value
  | .int x => .long x.toInt64
  | .float i => .double i.toUInt64
  | _ => .double 0
/-- .double e is the long of the unknown int e % 2 ^ 32, and e / 2 ^ 32 over it -/
def rx_ladd : Value → Value → Value
  | .long x, .long y => .long (x + y)
  | .double e, .long y => match decide (e = 0), Nat.blt e.toNat 4294967296, Nat.blt y.toNatClampNeg 1000, decide (Int64.ofNat y.toNatClampNeg = y) with
    | false, true, true, true => .double (UInt64.ofNat (e.toNat + 4294967296 * y.toNatClampNeg))
    | _, _, _, _ => .double 0
  | _, _ => .double 0
def rx_lfact : List (UInt64 × Int64 × Int32) → UInt64 → Int64 → Option Int32
  | [], _, _ => none
  | (i, n, r) :: l, j, m => match decide (i = j), decide (n = m) with
    | true, true => some r
    | _, _ => rx_lfact l j m
def rx_lcA (F : List (UInt64 × Int64 × Int32)) : Value → Value → Value
  | .long x, .long y => .int (lg_cmp x y)
  | .double e, .long y => match decide (e = 0), rx_lfact F e y with
    | false, some r => .int r
    | _, _ => .float 0
  | _, _ => .float 0
def rx_l2i : Value → Value
  | .long x => .int x.toInt32
  | _ => .float 0
def rx_lc : Value → Value → Value
  | .long x, .long y => .int (lg_cmp x y)
  | _, _ => .float 0
def rx_cb (c : ClassFile.Cond) (x y : Int32) : Bool := match c with
  | .eq => decide (x = y)
  | .ne => !decide (x = y)
  | .lt => decide (x < y)
  | .ge => decide (y ≤ x)
  | .gt => decide (y < x)
  | .le => decide (x ≤ y)
/-- what is known of unknown ints: (which, what is asked, a number) to an answer -/
abbrev RFact : Type := List (UInt32 × ClassFile.Cond × Int32 × Bool)
def rx_fact : RFact → UInt32 → ClassFile.Cond → Int32 → Option Bool
  | [], _, _, _ => none
  | (i, c, n, b) :: l, j, d, m => match decide (i = j), decide (c = d), decide (n = m) with
    | true, true, true => some b
    | _, _, _ => rx_fact l j d m
abbrev RFacts : Type := RFact × List (UInt32 × Int32 × Int32) × List (UInt64 × Int64 × Int32)
def rx_mask : List (UInt32 × Int32 × Int32) → UInt32 → Int32 → Option Int32
  | [], _, _ => none
  | (i, n, r) :: l, j, m => match decide (i = j), decide (n = m) with
    | true, true => some r
    | _, _ => rx_mask l j m
def rx_iand (F : List (UInt32 × Int32 × Int32)) : Value → Value → Value
  | .int x, .int y => .int (x &&& y)
  | .float i, .int y => match decide (i = 0), rx_mask F i y with
    | false, some r => .int r
    | _, _ => .float 0
  | _, _ => .float 0
def rx_cmp (F : RFact) (c : ClassFile.Cond) : Value → Value → Option Bool
  | .int x, .int y => some (rx_cb c x y)
  | .float i, .int y => match decide (i = 0) with
    | true => none
    | false => rx_fact F i c y
  | _, _ => none
def rx_b1 (f : Value → Value) (q : Value → Bool) (st : List Value) (k : List Value → Option RRes) : Option RRes := match st with
  | a :: r => match q a with
    | true => k (f a :: r)
    | false => none
  | _ => none
def rx_b2 (f : Value → Value → Value) (q q2 : Value → Bool) (st : List Value) (k : List Value → Option RRes) : Option RRes := match st with
  | b :: a :: r => match q a, q2 b with
    | true, true => k (f a b :: r)
    | _, _ => none
  | _ => none
def rx_join (a b : Option RRes) : Option RRes := match a, b with
  | some x, some y => match decide (x.1 = y.1), decide (x.2.1 = y.2.1), decide (x.2.2 = y.2.2) with
    | true, true, true => some x
    | _, _, _ => none
  | _, _ => none
def rx_br (o : Option Bool) (a b : Unit → Option RRes) : Option RRes := match o with
  | some true => a ()
  | some false => b ()
  | none => rx_join (a ()) (b ())
def rx_dv (t : Nat) : Value := match t with
  | 0 => .int 0
  | 1 => .long 0
  | 2 => .int 0
  | 3 => .int 0
  | _ => .null
def rx_elt (t : Nat) (u : List (Nat × Value)) (j : Nat) : Value := match rx_look u j with
  | some v => v
  | none => rx_dv t
def rx_old (k : Nat) : Bool := Nat.ble 1000000 k
def rx_oldA : List (Nat × Nat × List Value) → Nat → Option (Nat × List Value)
  | [], _ => none
  | (j, t, l) :: r, i => match Nat.beq j i with
    | true => some (t, l)
    | false => rx_oldA r i
def rx_oldF : List (Nat × Nat × Nat × Value) → Nat → Nat → Nat → Option Value
  | [], _, _, _ => none
  | (j, c, f, v) :: r, i, ci, k => match Nat.beq j i, Nat.beq c ci, Nat.beq f k with
    | true, true, true => some v
    | _, _, _ => rx_oldF r i ci k
/-- a row's element -/
def rx_ald (O : ROld) (q : Nat → Bool) (st : List Value) (h : RHeap) (k : List Value → Option RRes) : Option RRes := match st with
  | .int i :: .ref a :: r => match rx_old a with
    | true => match rx_oldA O.2 (a - 1000000) with
      | some (t, l) => match q t, decide (i < 0) with
        | true, false => match rx_nth l i.toNatClampNeg with
          | some v => k (v :: r)
          | none => none
        | _, _ => none
      | none => none
    | false => match rx_nth h a with
      | some (.inl (t, n, u)) => match q t, decide (i < 0), Nat.blt i.toNatClampNeg n with
        | true, false, true => k (rx_elt t u i.toNatClampNeg :: r)
        | _, _, _ => none
      | _ => none
  | _ => none
def rx_ast (q : Nat → Bool) (f : Nat → Value → Option Value) (st : List Value) (h : RHeap) (k : List Value → RHeap → Option RRes) : Option RRes := match st with
  | v :: .int i :: .ref a :: r => match rx_nth h a with
    | some (.inl (t, n, u)) => match q t && Nat.blt a 1000000, decide (i < 0), Nat.blt i.toNatClampNeg n, f t v with
      | true, false, true, some w => rx_lit i.toNatClampNeg (fun j => k r (h.set a (.inl (t, n, (j, w) :: u))))
      | _, _, _, _ => none
    | _ => none
  | _ => none
def rx_len (O : ROld) (st : List Value) (h : RHeap) (k : List Value → Option RRes) : Option RRes := match st with
  | .ref a :: r => match rx_old a with
    | true => match rx_oldA O.2 (a - 1000000) with
      | some (_, l) => k (.int (Int32.ofNat l.length) :: r)
      | none => none
    | false => match rx_nth h a with
      | some (.inl (_, n, _)) => k (.int (Int32.ofNat n) :: r)
      | _ => none
  | _ => none
def rx_gf (O : ROld) (ci f : Nat) (st : List Value) (h : RHeap) (k : List Value → Option RRes) : Option RRes := match st with
  | .ref a :: r => match rx_old a with
    | true => match rx_oldF O.1 (a - 1000000) ci f with
      | some v => k (v :: r)
      | none => none
    | false => match rx_nth h a with
      | some (.inr (c, fs)) => match Nat.beq c ci, rx_nth fs f with
        | true, some v => k (v :: r)
        | _, _ => none
      | _ => none
  | _ => none
def rx_fit (ty : FieldType) (v : Value) : Bool := match v with
  | .float _ => decide (ty = .int)
  | .double _ => decide (ty = .long)
  | .ref _ => match ty with
    | .object _ => true
    | .array _ => true
    | _ => false
  | v => decide (narrow ty v = v) && fits ty v
def rx_pf (ty : Option FieldType) (ci f : Nat) (st : List Value) (h : RHeap) (k : List Value → RHeap → Option RRes) : Option RRes := match st with
  | v :: .ref a :: r => match rx_nth h a, ty with
    | some (.inr (c, fs)), some ty => match Nat.beq c ci, rx_fit ty v, Nat.blt f fs.length && Nat.blt a 1000000 with
      | true, true, true => k r (h.set a (.inr (c, fs.set f v)))
      | _, _, _ => none
    | _, _ => none
  | _ => none
def rx_lst (la : RLoc) (i : Nat) (v : Value) : RLoc := (i, v) :: la.filter (fun q => !(q.1 == i) && !(q.1 + 1 == i && q.2.category == 2))
def rx_lst2 (la : RLoc) (i : Nat) (v : Value) : RLoc := (i, v) :: la.filter (fun q => !(q.1 == i) && (!(q.1 == i + 1) && !(q.1 + 1 == i && q.2.category == 2)))
def rx_ld (q : Value → Bool) (la : RLoc) (i : Nat) (st : List Value) (k : List Value → Option RRes) : Option RRes := match rx_look la i with
  | some v => match q v with
    | true => k (v :: st)
    | false => none
  | none => none
def rx_str (q : Value → Bool) (nL : Nat) (la : RLoc) (i : Nat) (st : List Value) (k : RLoc → List Value → Option RRes) : Option RRes := match st with
  | v :: r => match q v, Nat.blt i nL with
    | true, true => k (rx_lst la i v) r
    | _, _ => none
  | _ => none
def rx_str2 (q : Value → Bool) (nL : Nat) (la : RLoc) (i : Nat) (st : List Value) (k : RLoc → List Value → Option RRes) : Option RRes := match st with
  | v :: r => match q v, Nat.blt (i + 1) nL with
    | true, true => k (rx_lst2 la i v) r
    | _, _ => none
  | _ => none
def rx_more (mc ms : Nat) (o : Option RRes) : Option RRes := match o with
  | some (r, h, a, b) => some (r, h, a + mc, b + ms)
  | none => none
def rx_take : Nat → List Value → List Value → Option (List Value × List Value)
  | 0, acc, st => some (acc, st)
  | n + 1, acc, v :: st => rx_take n (v :: acc) st
  | _ + 1, _, [] => none
def rx_cats : List Value → Nat
  | [] => 0
  | v :: l => v.category + rx_cats l
def rx_tgt (pc : Nat) (off : Int) : Nat := ((pc : Int) + off).toNat
def rx_tok (pc : Nat) (off : Int) : Bool := decide (0 ≤ (pc : Int) + off)
def rx_to (rows : List RRow) (t : Nat) (k : List RRow → Option RRes) : Option RRes := match rx_at rows t with
  | r :: z => k (r :: z)
  | [] => none
def rx_go (rows : List RRow) (pc : Nat) (off : Int) (k : List RRow → Option RRes) : Option RRes := match rx_tok pc off with
  | true => rx_to rows (rx_tgt pc off) k
  | false => none
def rx_hand (pc E : Nat) : List (Nat × Nat × Nat × Nat) → Option Nat
  | [] => none
  | (a, b, t, e) :: l => match Nat.ble a pc, Nat.blt pc b, Nat.beq e E with
    | true, true, true => some t
    | true, true, false => none
    | _, _, _ => rx_hand pc E l
/-- a row of references takes a cell of its own kind, or none -/
def rx_aast (st : List Value) (h : RHeap) (k : List Value → RHeap → Option RRes) : Option RRes := match st with
  | v :: .int i :: .ref a :: r => match rx_nth h a with
    | some (.inl (t, n, u)) => match decide (i < 0), Nat.blt i.toNatClampNeg n, v with
      | false, true, .null => match Nat.ble 4 t && Nat.blt a 1000000 with
        | true => rx_lit i.toNatClampNeg (fun j => k r (h.set a (.inl (t, n, (j, v) :: u))))
        | false => none
      | false, true, .ref b => match rx_nth h b, rx_nth rc_arc t with
        | some (.inr (ci, _)), some c => match Nat.beq ci c, Nat.ble 4 t && Nat.blt a 1000000 && Nat.blt b 1000000 with
          | true, true => rx_lit i.toNatClampNeg (fun j => k r (h.set a (.inl (t, n, (j, v) :: u))))
          | _, _ => none
        | _, _ => none
      | _, _, _ => none
    | _ => none
  | _ => none
def rx_new (ci : Nat) (st : List Value) (h : RHeap) (k : List Value → RHeap → Option RRes) : Option RRes := match rx_nth rc_dfl ci with
  | some fs => match Nat.blt h.length 1000000 with
    | true => rx_more 1 fs.length (k (.ref h.length :: st) (h ++ [.inr (ci, fs)]))
    | false => none
  | none => none
def rx_newa (t : Nat) (st : List Value) (h : RHeap) (k : List Value → RHeap → Option RRes) : Option RRes := match st with
  | .int n :: r => match decide (n < 0), Nat.blt n.toNatClampNeg 60000000, Nat.blt t rc_arr.length && Nat.blt h.length 1000000 with
    | false, true, true => rx_lit n.toNatClampNeg (fun m => rx_more 1 m (k (.ref h.length :: r) (h ++ [.inl (t, m, [])])))
    | _, _, _ => none
  | _ => none
def rx_dup (st : List Value) (k : List Value → Option RRes) : Option RRes := match st with
  | a :: r => match Nat.beq a.category 1 with
    | true => k (a :: a :: r)
    | false => none
  | _ => none
def rx_dupx1 (st : List Value) (k : List Value → Option RRes) : Option RRes := match st with
  | a :: b :: r => match Nat.beq a.category 1, Nat.beq b.category 1 with
    | true, true => k (a :: b :: a :: r)
    | _, _ => none
  | _ => none
def rx_pop (st : List Value) (k : List Value → Option RRes) : Option RRes := match st with
  | a :: r => match Nat.beq a.category 1 with
    | true => k r
    | false => none
  | _ => none
def rx_inc (nL : Nat) (la : RLoc) (i : Nat) (n : Int) (k : RLoc → Option RRes) : Option RRes := match rx_look la i with
  | some (.int x) => match Nat.blt i nL with
    | true => k (rx_lst la i (.int (x + Int32.ofInt n)))
    | false => none
  | _ => none
/-- the cell that a method is called on is of the method's kind -/
def rx_recv (O : ROld) (ci : Nat) (h : RHeap) : Value → Bool
  | .ref a => match rx_old a with
    | true => match rx_oldF O.1 (a - 1000000) ci 0 with
      | some _ => true
      | none => false
    | false => match rx_nth h a with
      | some (.inr (c, _)) => Nat.beq c ci
      | _ => false
  | _ => false
def rx_back (hh : List (Nat × Nat × Nat × Nat)) (pc : Nat) (rest : List Value) (o : Option RRes) (k : List Value → RHeap → Option RRes) (kx : Nat → RHeap → Option RRes) : Option RRes := match o with
  | some (.inl none, h, mc, ms) => rx_more mc ms (k rest h)
  | some (.inl (some v), h, mc, ms) => rx_more mc ms (k (v :: rest) h)
  | some (.inr E, h, mc, ms) => match rx_hand pc E hh with
    | some t => rx_more mc ms (kx t h)
    | none => some (.inr E, h, mc, ms)
  | none => none
def rx_backN (rest : List Value) (o : Option RRes) (k : List Value → RHeap → Option RRes) : Option RRes := match o with
  | some (.inl none, h, mc, ms) => rx_more mc ms (k rest h)
  | some (.inl (some v), h, mc, ms) => rx_more mc ms (k (v :: rest) h)
  | _ => none
def rx_inv (O : ROld) (C : Nat → List Value → RHeap → Option RRes) (st : List Value) (h : RHeap) (mi n ci : Nat) (kind : Nat) (k : List Value → Option RRes → Option RRes) : Option RRes := match rx_take n [] st with
  | some (as, r) => match kind with
    | 0 => match Nat.ble (rx_cats r) 8 with
      | true => k r (C mi as h)
      | false => none
    | _ => match r with
      | b :: r => match Nat.ble (rx_cats r) 8, rx_recv O ci h b with
        | true, true => k r (C mi (b :: as) h)
        | _, _ => none
      | [] => none
  | none => none
def rx_tsw (F : RFact) (rows : List RRow) (pc : Nat) (dflt lo hi : Int) (offs : Array Int) (st : List Value) (k : List RRow → List Value → Option RRes) : Option RRes := match st with
  | .int x :: r => match decide (x.toInt < lo), decide (hi < x.toInt) with
    | false, false => match rx_nth offs.toList (x.toInt - lo).toNat with
      | some off => rx_go rows pc off (fun z => k z r)
      | none => none
    | _, _ => rx_go rows pc dflt (fun z => k z r)
  | .float i :: r => match decide (i = 0), rx_fact F i .lt (Int32.ofInt lo), rx_fact F i .gt (Int32.ofInt hi), decide ((Int32.ofInt lo).toInt = lo), decide ((Int32.ofInt hi).toInt = hi) with
    | false, some true, _, true, _ => rx_go rows pc dflt (fun z => k z r)
    | false, _, some true, _, true => rx_go rows pc dflt (fun z => k z r)
    | _, _, _, _, _ => none
  | _ => none
def rx_nx (k : List RRow → RLoc → List Value → RHeap → Option RRes) (rest : List RRow) (pc2 : Nat) (la : RLoc) (st : List Value) (h : RHeap) : Option RRes := match rest with
  | r :: z => match Nat.beq r.1 pc2 with
    | true => k (r :: z) la st h
    | false => none
  | [] => none

/-- a copy of no elements from a row of bytes to another -/
def rx_cp0 (st : List Value) (h : RHeap) (k : List Value → Option RRes) : Option RRes := match st with
  | .int n :: .int dp :: .ref a :: .int sp :: .ref b :: r => match decide (n = 0), decide (dp = 0), decide (sp = 0), Nat.blt a 1000000 && Nat.blt b 1000000 && Nat.ble (rx_cats r) 8, rx_nth h a, rx_nth h b with
    | true, true, true, true, some (.inl (2, _, _)), some (.inl (2, _, _)) => k r
    | _, _, _, _, _, _ => none
  | _ => none
def rx_one (O : ROld) (F : RFacts) (C : Nat → List Value → RHeap → Option RRes) (I : RInf) (k : List RRow → RLoc → List Value → RHeap → Option RRes) (pc : Nat) (i : Instr) (len : Nat) (aux : List Nat) (rest : List RRow) (la : RLoc) (st : List Value) (h : RHeap) : Option RRes :=
  match i with
  | .aload_n n => rx_ld rx_isA la n st (fun st => rx_nx k rest (pc + len) la st h)
  | .aload n => rx_ld rx_isA la n st (fun st => rx_nx k rest (pc + len) la st h)
  | .iload_n n => rx_ld rx_isI la n st (fun st => rx_nx k rest (pc + len) la st h)
  | .iload n => rx_ld rx_isI la n st (fun st => rx_nx k rest (pc + len) la st h)
  | .lload_n n => rx_ld rx_isL la n st (fun st => rx_nx k rest (pc + len) la st h)
  | .lload n => rx_ld rx_isL la n st (fun st => rx_nx k rest (pc + len) la st h)
  | .astore_n n => rx_str rx_isA I.1 la n st (fun la st => rx_nx k rest (pc + len) la st h)
  | .astore n => rx_str rx_isA I.1 la n st (fun la st => rx_nx k rest (pc + len) la st h)
  | .istore_n n => rx_str rx_isI I.1 la n st (fun la st => rx_nx k rest (pc + len) la st h)
  | .istore n => rx_str rx_isI I.1 la n st (fun la st => rx_nx k rest (pc + len) la st h)
  | .lstore_n n => rx_str2 rx_isL I.1 la n st (fun la st => rx_nx k rest (pc + len) la st h)
  | .lstore n => rx_str2 rx_isL I.1 la n st (fun la st => rx_nx k rest (pc + len) la st h)
  | .iinc n z => rx_inc I.1 la n z (fun la => rx_nx k rest (pc + len) la st h)
  | .iconst n => rx_nx k rest (pc + len) la (.int (Int32.ofInt n) :: st) h
  | .bipush n => rx_nx k rest (pc + len) la (.int (Int8.ofInt n).toInt32 :: st) h
  | .sipush n => rx_nx k rest (pc + len) la (.int (Int16.ofInt n).toInt32 :: st) h
  | .lconst n => rx_nx k rest (pc + len) la (.long (Int64.ofNat (n : Nat)) :: st) h
  | .aconst_null => rx_nx k rest (pc + len) la (.null :: st) h
  | .ldc _ => match aux with
    | [0, v, _] => rx_nx k rest (pc + len) la (.int (Int32.ofNat v) :: st) h
    | [1, j, _] => rx_nx k rest (pc + len) la (.ref (1000000 + j) :: st) h
    | _ => none
  | .ldc2_w _ => match aux with
    | [v, _] => rx_nx k rest (pc + len) la (.long (Int64.ofNat v) :: st) h
    | _ => none
  | .getstatic _ => match aux with
    | [0, _] => rx_nx k rest (pc + len) la (.int 1 :: st) h
    | [1, _] => rx_nx k rest (pc + len) la (.ref 2000000 :: st) h
    | _ => none
  | .dup => rx_dup st (fun st => rx_nx k rest (pc + len) la st h)
  | .dup_x1 => rx_dupx1 st (fun st => rx_nx k rest (pc + len) la st h)
  | .pop => rx_pop st (fun st => rx_nx k rest (pc + len) la st h)
  | .iadd => rx_b2 (rx_ib (fun x y => x + y)) rx_isI rx_isI st (fun st => rx_nx k rest (pc + len) la st h)
  | .isub => rx_b2 (rx_ib (fun x y => x - y)) rx_isI rx_isI st (fun st => rx_nx k rest (pc + len) la st h)
  | .imul => rx_b2 (rx_ib (fun x y => x * y)) rx_isI rx_isI st (fun st => rx_nx k rest (pc + len) la st h)
  | .iand => rx_b2 (rx_iand F.2.1) rx_isI rx_isI st (fun st => rx_nx k rest (pc + len) la st h)
  | .ior => rx_b2 (rx_ib (fun x y => x ||| y)) rx_isI rx_isI st (fun st => rx_nx k rest (pc + len) la st h)
  | .ishl => rx_b2 (rx_ib (fun x y => x <<< (y &&& 31))) rx_isI rx_isI st (fun st => rx_nx k rest (pc + len) la st h)
  | .ishr => rx_b2 (rx_ib (fun x y => x >>> (y &&& 31))) rx_isI rx_isI st (fun st => rx_nx k rest (pc + len) la st h)
  | .ineg => rx_b1 (rx_iu (fun x => -x)) rx_isI st (fun st => rx_nx k rest (pc + len) la st h)
  | .i2b => rx_b1 (rx_iu (fun x => x.toInt8.toInt32)) rx_isI st (fun st => rx_nx k rest (pc + len) la st h)
  | .i2c => rx_b1 (rx_iu (fun x => (x.toUInt32 % 65536).toInt32)) rx_isI st (fun st => rx_nx k rest (pc + len) la st h)
  | .i2l => rx_b1 rx_i2l rx_isI st (fun st => rx_nx k rest (pc + len) la st h)
  | .l2i => rx_b1 rx_l2i rx_isL st (fun st => rx_nx k rest (pc + len) la st h)
  | .ladd => rx_b2 rx_ladd rx_isL rx_isL st (fun st => rx_nx k rest (pc + len) la st h)
  | .lsub => rx_b2 (rx_lb (fun x y => x - y)) rx_isL rx_isL st (fun st => rx_nx k rest (pc + len) la st h)
  | .lmul => rx_b2 (rx_lb (fun x y => x * y)) rx_isL rx_isL st (fun st => rx_nx k rest (pc + len) la st h)
  | .land => rx_b2 (rx_lb (fun x y => x &&& y)) rx_isL rx_isL st (fun st => rx_nx k rest (pc + len) la st h)
  | .lor => rx_b2 (rx_lb (fun x y => x ||| y)) rx_isL rx_isL st (fun st => rx_nx k rest (pc + len) la st h)
  | .lshl => rx_b2 (rx_ls (fun x y => x <<< (y.toInt64 &&& 63))) rx_isL rx_isI st (fun st => rx_nx k rest (pc + len) la st h)
  | .lshr => rx_b2 (rx_ls (fun x y => x >>> (y.toInt64 &&& 63))) rx_isL rx_isI st (fun st => rx_nx k rest (pc + len) la st h)
  | .lushr => rx_b2 (rx_ls (fun x y => (x.toUInt64 >>> (y.toInt64.toUInt64 &&& Int64.toUInt64 63)).toInt64)) rx_isL rx_isI st (fun st => rx_nx k rest (pc + len) la st h)
  | .lcmp => rx_b2 (rx_lcA F.2.2) rx_isL rx_isL st (fun st => rx_nx k rest (pc + len) la st h)
  | .goto off => rx_go I.2.2.1 pc off (fun z => k z la st h)
  | .if_icmp c off => match st with
    | b :: a :: r => match rx_isI a, rx_isI b, rx_tok pc off with
      | true, true, true => rx_br (rx_cmp F.1 c a b) (fun _ => rx_to I.2.2.1 (rx_tgt pc off) (fun z => k z la r h)) (fun _ => rx_nx k rest (pc + len) la r h)
      | _, _, _ => none
    | _ => none
  | .ifCond c off => match st with
    | a :: r => match rx_isI a, rx_tok pc off with
      | true, true => rx_br (rx_cmp F.1 c a (.int 0)) (fun _ => rx_to I.2.2.1 (rx_tgt pc off) (fun z => k z la r h)) (fun _ => rx_nx k rest (pc + len) la r h)
      | _, _ => none
    | _ => none
  | .tableswitch d lo hi offs => rx_tsw F.1 I.2.2.1 pc d lo hi offs st (fun z st => k z la st h)
  | .getfield _ => match aux with
    | [ci, f, _] => rx_gf O ci f st h (fun st => rx_nx k rest (pc + len) la st h)
    | _ => none
  | .putfield _ => match aux with
    | [ci, f, _] => rx_pf (rc_fty ci f) ci f st h (fun st h => rx_nx k rest (pc + len) la st h)
    | _ => none
  | .new _ => match aux with
    | [7777, E, _] => match I.2.2.2, st with
      | [], [] => some (.inr E, h, 1, 6)
      | _, _ => none
    | [ci, _] => rx_new ci st h (fun st h => rx_nx k rest (pc + len) la st h)
    | _ => none
  | .newarray _ => match aux with
    | [t] => rx_newa t st h (fun st h => rx_nx k rest (pc + len) la st h)
    | _ => none
  | .anewarray _ => match aux with
    | [t, _] => rx_newa t st h (fun st h => rx_nx k rest (pc + len) la st h)
    | _ => none
  | .iaload => rx_ald O (fun t => Nat.beq t 0) st h (fun st => rx_nx k rest (pc + len) la st h)
  | .laload => rx_ald O (fun t => Nat.beq t 1) st h (fun st => rx_nx k rest (pc + len) la st h)
  | .baload => rx_ald O (fun t => Nat.beq t 2 || Nat.beq t 3) st h (fun st => rx_nx k rest (pc + len) la st h)
  | .aaload => rx_ald O (fun t => Nat.ble 4 t) st h (fun st => rx_nx k rest (pc + len) la st h)
  | .iastore => rx_ast (fun t => Nat.beq t 0) (fun _ v => match rx_isI v with | true => some v | false => none) st h (fun st h => rx_nx k rest (pc + len) la st h)
  | .lastore => rx_ast (fun t => Nat.beq t 1) (fun _ v => match rx_isL v with | true => some v | false => none) st h (fun st h => rx_nx k rest (pc + len) la st h)
  | .bastore => rx_ast (fun t => Nat.beq t 2 || Nat.beq t 3) (fun t v => match rx_isI v with | true => some (rx_iu (vp_nar (match t with | 2 => .byte | _ => .boolean)) v) | false => none) st h (fun st h => rx_nx k rest (pc + len) la st h)
  | .aastore => rx_aast st h (fun st h => rx_nx k rest (pc + len) la st h)
  | .arraylength => rx_len O st h (fun st => rx_nx k rest (pc + len) la st h)
  | .invokespecial _ => match aux with
    | [9999, _] => match st with
      | .ref a :: r => match Nat.ble (rx_cats r) 8, Nat.blt a 2000000 with
        | true, true => rx_nx k rest (pc + len) la r h
        | _, _ => none
      | _ => none
    | [mi, n, ci, _] => rx_inv O C st h mi n ci 1 (fun r o => rx_backN r o (fun st h => rx_nx k rest (pc + len) la st h))
    | _ => none
  | .invokevirtual _ => match aux with
    | [mi, n, ci, _] => rx_inv O C st h mi n ci 1 (fun r o => rx_back I.2.2.2 pc r o (fun st h => rx_nx k rest (pc + len) la st h) (fun t h => rx_to I.2.2.1 t (fun z => k z la [.ref 2000000] h)))
    | _ => none
  | .invokestatic _ => match aux with
    | [8888, _] => rx_cp0 st h (fun st => rx_nx k rest (pc + len) la st h)
    | [mi, n, _] => rx_inv O C st h mi n 0 0 (fun r o => rx_backN r o (fun st h => rx_nx k rest (pc + len) la st h))
    | _ => none
  | .return_ => match st, I.2.1 with
    | [], 0 => some (.inl none, h, 0, 0)
    | _, _ => none
  | .ireturn => match st, I.2.1 with
    | [.int x], 1 => some (.inl (some (.int x)), h, 0, 0)
    | [.float x], 1 => some (.inl (some (.float x)), h, 0, 0)
    | [.int x], 2 => match decide (narrow .boolean (.int x) = .int x) with
      | true => some (.inl (some (.int x)), h, 0, 0)
      | false => none
    | [.int x], 3 => match decide (narrow .byte (.int x) = .int x) with
      | true => some (.inl (some (.int x)), h, 0, 0)
      | false => none
    | [.int x], 4 => match decide (narrow .char (.int x) = .int x) with
      | true => some (.inl (some (.int x)), h, 0, 0)
      | false => none
    | _, _ => none
  | .lreturn => match st, I.2.1 with
    | [v], 5 => match rx_isL v with
      | true => some (.inl (some v), h, 0, 0)
      | false => none
    | _, _ => none
  | .areturn => match st, I.2.1 with
    | [v], 6 => match rx_isA v with
      | true => some (.inl (some v), h, 0, 0)
      | false => none
    | _, _ => none
  | _ => none
def rx_run (O : ROld) (F : RFacts) (C : Nat → List Value → RHeap → Option RRes) (I : RInf) : Nat → List RRow → RLoc → List Value → RHeap → Option RRes
  | 0, _, _, _, _ => none
  | _ + 1, [], _, _, _ => none
  | n + 1, (pc, i, len, aux) :: rest, la, st, h => rx_one O F C I (rx_run O F C I n) pc i len aux rest la st h
def rx_call (O : ROld) (F : RFacts) (P : List RInf) (steps : Nat) : Nat → Nat → List Value → RHeap → Option RRes
  | 0, _, _, _ => none
  | d + 1, mi, as, h => match rx_nth P mi with
    | some I => match Nat.ble (rx_cats as) I.1 with
      | true => rx_run O F (rx_call O F P steps d) I steps I.2.2.1 (lv_args 0 as) [] h
      | false => none
    | none => none
end
section
def RJ7 : String := "java/util/Arrays"
abbrev cL_law : ByteArray := code
def yL_law : MethodName := ⟨RL, "law", "([I)Z"⟩
def rw_L_law : List RRow := [(0, .new 8, 3, [11, 209]), (3, .dup, 1, []), (4, .invokespecial 22, 3, [1, 0, 11, 211]), (7, .astore_n 1, 1, []), (8, .new 23, 3, [12, 1779]), (11, .dup, 1, []), (12, .invokespecial 25, 3, [22, 0, 12, 1781]), (15, .astore_n 2, 1, []), (16, .iconst 1, 1, []), (17, .newarray .long, 2, [1]), (19, .astore_n 3, 1, []), (20, .iconst 0, 1, []), (21, .istore 4, 2, []), (23, .iload 4, 2, []), (25, .aload_n 0, 1, []), (26, .arraylength, 1, []), (27, .iconst 4, 1, []), (28, .isub, 1, []), (29, .if_icmp .gt 402, 3, []), (32, .aload_n 0, 1, []), (33, .iload 4, 2, []), (35, .iaload, 1, []), (36, .bipush 15, 2, []), (38, .iand, 1, []), (39, .tableswitch 386 0 10 #[57, 157, 170, 183, 196, 209, 222, 278, 291, 304, 330], 57, []), (96, .aload_n 1, 1, []), (97, .aload_n 0, 1, []), (98, .iload 4, 2, []), (100, .iconst 1, 1, []), (101, .iadd, 1, []), (102, .iaload, 1, []), (103, .aload_n 0, 1, []), (104, .iload 4, 2, []), (106, .iconst 2, 1, []), (107, .iadd, 1, []), (108, .iaload, 1, []), (109, .i2l, 1, []), (110, .bipush 32, 2, []), (112, .lshl, 1, []), (113, .aload_n 0, 1, []), (114, .iload 4, 2, []), (116, .iconst 3, 1, []), (117, .iadd, 1, []), (118, .iaload, 1, []), (119, .i2l, 1, []), (120, .ldc2_w 26, 3, [4294967295, 2549]), (123, .land, 1, []), (124, .lor, 1, []), (125, .aload_n 3, 1, []), (126, .invokestatic 28, 3, [29, 4, 1299]), (129, .istore 5, 2, []), (131, .aload_n 2, 1, []), (132, .aload_n 0, 1, []), (133, .iload 4, 2, []), (135, .iconst 1, 1, []), (136, .iadd, 1, []), (137, .iaload, 1, []), (138, .aload_n 0, 1, []), (139, .iload 4, 2, []), (141, .iconst 2, 1, []), (142, .iadd, 1, []), (143, .iaload, 1, []), (144, .i2l, 1, []), (145, .bipush 32, 2, []), (147, .lshl, 1, []), (148, .aload_n 0, 1, []), (149, .iload 4, 2, []), (151, .iconst 3, 1, []), (152, .iadd, 1, []), (153, .iaload, 1, []), (154, .i2l, 1, []), (155, .ldc2_w 26, 3, [4294967295, 2549]), (158, .land, 1, []), (159, .lor, 1, []), (160, .invokevirtual 33, 3, [31, 2, 12, 2124]), (163, .istore 6, 2, []), (165, .aload_n 2, 1, []), (166, .invokevirtual 34, 3, [32, 0, 12, 2120]), (169, .iload 5, 2, []), (171, .if_icmp .eq 5, 3, []), (174, .iconst 0, 1, []), (175, .ireturn, 1, []), (176, .iload 5, 2, []), (178, .ifCond .ne 15, 3, []), (181, .aload_n 3, 1, []), (182, .iconst 0, 1, []), (183, .laload, 1, []), (184, .iload 6, 2, []), (186, .i2l, 1, []), (187, .lcmp, 1, []), (188, .ifCond .eq 5, 3, []), (191, .iconst 0, 1, []), (192, .ireturn, 1, []), (193, .goto 232, 3, []), (196, .aload_n 1, 1, []), (197, .invokevirtual 38, 3, [35, 0, 11, 697]), (200, .aload_n 2, 1, []), (201, .invokevirtual 41, 3, [37, 0, 12, 2129]), (204, .if_icmp .eq 221, 3, []), (207, .iconst 0, 1, []), (208, .ireturn, 1, []), (209, .aload_n 1, 1, []), (210, .invokevirtual 42, 3, [38, 0, 11, 709]), (213, .aload_n 2, 1, []), (214, .invokevirtual 45, 3, [62, 0, 12, 2133]), (217, .if_icmp .eq 208, 3, []), (220, .iconst 0, 1, []), (221, .ireturn, 1, []), (222, .aload_n 1, 1, []), (223, .invokevirtual 46, 3, [74, 0, 11, 1252]), (226, .aload_n 2, 1, []), (227, .invokevirtual 49, 3, [76, 0, 12, 2414]), (230, .if_icmp .eq 195, 3, []), (233, .iconst 0, 1, []), (234, .ireturn, 1, []), (235, .aload_n 1, 1, []), (236, .invokevirtual 50, 3, [77, 0, 11, 1260]), (239, .aload_n 2, 1, []), (240, .invokevirtual 53, 3, [79, 0, 12, 2418]), (243, .if_icmp .eq 182, 3, []), (246, .iconst 0, 1, []), (247, .ireturn, 1, []), (248, .aload_n 1, 1, []), (249, .invokevirtual 54, 3, [80, 0, 11, 1268]), (252, .aload_n 2, 1, []), (253, .invokevirtual 57, 3, [82, 0, 12, 2422]), (256, .if_icmp .eq 169, 3, []), (259, .iconst 0, 1, []), (260, .ireturn, 1, []), (261, .aload_n 1, 1, []), (262, .aload_n 0, 1, []), (263, .iload 4, 2, []), (265, .iconst 1, 1, []), (266, .iadd, 1, []), (267, .iaload, 1, []), (268, .aload_n 3, 1, []), (269, .invokestatic 58, 3, [83, 3, 1327]), (272, .istore 5, 2, []), (274, .aload_n 2, 1, []), (275, .aload_n 0, 1, []), (276, .iload 4, 2, []), (278, .iconst 1, 1, []), (279, .iadd, 1, []), (280, .iaload, 1, []), (281, .invokevirtual 61, 3, [85, 1, 12, 2426]), (284, .istore 6, 2, []), (286, .aload_n 2, 1, []), (287, .invokevirtual 34, 3, [32, 0, 12, 2120]), (290, .iload 5, 2, []), (292, .if_icmp .eq 5, 3, []), (295, .iconst 0, 1, []), (296, .ireturn, 1, []), (297, .iload 5, 2, []), (299, .ifCond .ne 15, 3, []), (302, .aload_n 3, 1, []), (303, .iconst 0, 1, []), (304, .laload, 1, []), (305, .iload 6, 2, []), (307, .i2l, 1, []), (308, .lcmp, 1, []), (309, .ifCond .eq 5, 3, []), (312, .iconst 0, 1, []), (313, .ireturn, 1, []), (314, .goto 111, 3, []), (317, .aload_n 1, 1, []), (318, .invokevirtual 62, 3, [100, 0, 11, 1277]), (321, .aload_n 2, 1, []), (322, .invokevirtual 65, 3, [102, 0, 12, 2533]), (325, .if_icmp .eq 100, 3, []), (328, .iconst 0, 1, []), (329, .ireturn, 1, []), (330, .aload_n 1, 1, []), (331, .invokevirtual 66, 3, [103, 0, 11, 1285]), (334, .aload_n 2, 1, []), (335, .invokevirtual 69, 3, [105, 0, 12, 2537]), (338, .if_icmp .eq 87, 3, []), (341, .iconst 0, 1, []), (342, .ireturn, 1, []), (343, .aload_n 1, 1, []), (344, .aload_n 0, 1, []), (345, .iload 4, 2, []), (347, .iconst 1, 1, []), (348, .iadd, 1, []), (349, .iaload, 1, []), (350, .invokevirtual 70, 3, [106, 1, 11, 1293]), (353, .aload_n 2, 1, []), (354, .aload_n 0, 1, []), (355, .iload 4, 2, []), (357, .iconst 1, 1, []), (358, .iadd, 1, []), (359, .iaload, 1, []), (360, .invokevirtual 74, 3, [107, 1, 12, 2541]), (363, .lcmp, 1, []), (364, .ifCond .eq 61, 3, []), (367, .iconst 0, 1, []), (368, .ireturn, 1, []), (369, .aload_n 1, 1, []), (370, .aload_n 0, 1, []), (371, .iload 4, 2, []), (373, .iconst 1, 1, []), (374, .iadd, 1, []), (375, .iaload, 1, []), (376, .aload_n 3, 1, []), (377, .invokestatic 75, 3, [108, 3, 1755]), (380, .istore 5, 2, []), (382, .aload_n 2, 1, []), (383, .aload_n 0, 1, []), (384, .iload 4, 2, []), (386, .iconst 1, 1, []), (387, .iadd, 1, []), (388, .iaload, 1, []), (389, .invokevirtual 77, 3, [110, 1, 12, 2545]), (392, .istore 6, 2, []), (394, .aload_n 2, 1, []), (395, .invokevirtual 34, 3, [32, 0, 12, 2120]), (398, .iload 5, 2, []), (400, .if_icmp .eq 5, 3, []), (403, .iconst 0, 1, []), (404, .ireturn, 1, []), (405, .iload 5, 2, []), (407, .ifCond .ne 15, 3, []), (410, .aload_n 3, 1, []), (411, .iconst 0, 1, []), (412, .laload, 1, []), (413, .iload 6, 2, []), (415, .i2l, 1, []), (416, .lcmp, 1, []), (417, .ifCond .eq 5, 3, []), (420, .iconst 0, 1, []), (421, .ireturn, 1, []), (422, .goto 3, 3, []), (425, .iinc 4 4, 3, []), (428, .goto (-405), 3, []), (431, .iconst 1, 1, []), (432, .ireturn, 1, [])]
abbrev cX11_init : ByteArray := prog_1_method_1_code
def yX11_init : MethodName := ⟨RX11, "<init>", "()V"⟩
def rw_X11_init : List RRow := [(0, .aload_n 0, 1, []), (1, .invokespecial 1, 3, [9999, 214]), (4, .aload_n 0, 1, []), (5, .new 7, 3, [8, 217]), (8, .dup, 1, []), (9, .invokespecial 9, 3, [2, 0, 8, 219]), (12, .putfield 10, 3, [11, 0, 675]), (15, .aload_n 0, 1, []), (16, .new 7, 3, [8, 217]), (19, .dup, 1, []), (20, .invokespecial 9, 3, [2, 0, 8, 219]), (23, .putfield 16, 3, [11, 1, 676]), (26, .aload_n 0, 1, []), (27, .new 19, 3, [10, 231]), (30, .dup, 1, []), (31, .aload_n 0, 1, []), (32, .getfield 10, 3, [11, 0, 675]), (35, .invokespecial 21, 3, [3, 1, 10, 233]), (38, .putfield 24, 3, [11, 2, 677]), (41, .aload_n 0, 1, []), (42, .new 28, 3, [1, 329]), (45, .dup, 1, []), (46, .invokespecial 30, 3, [11, 0, 1, 331]), (49, .putfield 31, 3, [11, 3, 678]), (52, .aload_n 0, 1, []), (53, .new 28, 3, [1, 329]), (56, .dup, 1, []), (57, .invokespecial 30, 3, [11, 0, 1, 331]), (60, .putfield 35, 3, [11, 4, 679]), (63, .aload_n 0, 1, []), (64, .new 38, 3, [0, 360]), (67, .dup, 1, []), (68, .aload_n 0, 1, []), (69, .getfield 24, 3, [11, 2, 677]), (72, .aload_n 0, 1, []), (73, .getfield 31, 3, [11, 3, 678]), (76, .invokespecial 40, 3, [12, 2, 0, 362]), (79, .putfield 43, 3, [11, 5, 680]), (82, .aload_n 0, 1, []), (83, .new 47, 3, [3, 589]), (86, .dup, 1, []), (87, .aload_n 0, 1, []), (88, .getfield 35, 3, [11, 4, 679]), (91, .aload_n 0, 1, []), (92, .getfield 16, 3, [11, 1, 676]), (95, .invokespecial 49, 3, [20, 2, 3, 591]), (98, .putfield 52, 3, [11, 6, 681]), (101, .aload_n 0, 1, []), (102, .getfield 35, 3, [11, 4, 679]), (105, .iconst 4, 1, []), (106, .putfield 56, 3, [1, 4, 340]), (109, .aload_n 0, 1, []), (110, .getfield 35, 3, [11, 4, 679]), (113, .iconst 0, 1, []), (114, .invokevirtual 60, 3, [21, 1, 1, 655]), (117, .return_, 1, [])]
abbrev cX8_init : ByteArray := prog_10_method_1_code
def yX8_init : MethodName := ⟨RX8, "<init>", "()V"⟩
def rw_X8_init : List RRow := [(0, .aload_n 0, 1, []), (1, .invokespecial 3, 3, [9999, 222]), (4, .aload_n 0, 1, []), (5, .sipush 1500, 3, []), (8, .newarray .byte, 2, [2]), (10, .putfield 9, 3, [8, 0, 223]), (13, .return_, 1, [])]
abbrev cX10_init : ByteArray := prog_12_method_1_code
def yX10_init : MethodName := ⟨RX10, "<init>", "(LTaggedPascal$Tape;)V"⟩
def rw_X10_init : List RRow := [(0, .aload_n 0, 1, []), (1, .invokespecial 3, 3, [9999, 236]), (4, .aload_n 0, 1, []), (5, .bipush 30, 2, []), (7, .newarray .long, 2, [1]), (9, .putfield 11, 3, [10, 0, 296]), (12, .aload_n 0, 1, []), (13, .sipush 1501, 3, []), (16, .newarray .int, 2, [0]), (18, .putfield 15, 3, [10, 1, 297]), (21, .aload_n 0, 1, []), (22, .sipush 1501, 3, []), (25, .newarray .int, 2, [0]), (27, .putfield 19, 3, [10, 2, 298]), (30, .aload_n 0, 1, []), (31, .sipush 1501, 3, []), (34, .newarray .long, 2, [1]), (36, .putfield 22, 3, [10, 3, 299]), (39, .aload_n 0, 1, []), (40, .iconst (-1), 1, []), (41, .putfield 25, 3, [10, 9, 305]), (44, .aload_n 0, 1, []), (45, .aload_n 1, 1, []), (46, .putfield 29, 3, [10, 4, 300]), (49, .ldc 33, 2, [1, 1, 237]), (51, .aload_n 0, 1, []), (52, .getfield 11, 3, [10, 0, 296]), (55, .invokestatic 35, 3, [4, 2, 238]), (58, .return_, 1, [])]
abbrev cX10_encodeAll : ByteArray := prog_12_method_2_code
def yX10_encodeAll : MethodName := ⟨RX10, "encodeAll", "(Ljava/lang/String;[J)V"⟩
def rw_X10_encodeAll : List RRow := [(0, .iconst 0, 1, []), (1, .istore_n 2, 1, []), (2, .iconst 0, 1, []), (3, .istore_n 3, 1, []), (4, .iload_n 3, 1, []), (5, .aload_n 0, 1, []), (6, .invokevirtual 39, 3, [5, 0, 13, 241]), (9, .if_icmp .ge 52, 3, []), (12, .iload_n 2, 1, []), (13, .aload_n 1, 1, []), (14, .arraylength, 1, []), (15, .if_icmp .ge 46, 3, []), (18, .aload_n 0, 1, []), (19, .iload_n 3, 1, []), (20, .invokevirtual 45, 3, [7, 1, 13, 251]), (23, .istore 4, 2, []), (25, .iload 4, 2, []), (27, .bipush 32, 2, []), (29, .if_icmp .ne 9, 3, []), (32, .iinc 2 1, 3, []), (35, .goto 20, 3, []), (38, .aload_n 1, 1, []), (39, .iload_n 2, 1, []), (40, .aload_n 1, 1, []), (41, .iload_n 2, 1, []), (42, .laload, 1, []), (43, .ldc2_w 49, 3, [37, 289]), (46, .lmul, 1, []), (47, .iload 4, 2, []), (49, .invokestatic 51, 3, [10, 1, 290]), (52, .i2l, 1, []), (53, .ladd, 1, []), (54, .lastore, 1, []), (55, .iinc 3 1, 3, []), (58, .goto (-54), 3, []), (61, .return_, 1, [])]
abbrev cJ0_length_8abf5 : ByteArray := prog_23_method_54_code
def yJ0_length_8abf5 : MethodName := ⟨RJ0, "length", "()I"⟩
def rw_J0_length_8abf5 : List RRow := [(0, .aload_n 0, 1, []), (1, .getfield 9, 3, [13, 0, 1554]), (4, .arraylength, 1, []), (5, .aload_n 0, 1, []), (6, .invokevirtual 335, 3, [6, 0, 13, 245]), (9, .ishr, 1, []), (10, .ireturn, 1, [])]
abbrev cJ0_coder_7d493 : ByteArray := prog_23_method_152_code
def yJ0_coder_7d493 : MethodName := ⟨RJ0, "coder", "()B"⟩
def rw_J0_coder_7d493 : List RRow := [(0, .getstatic 38, 3, [0, 249]), (3, .ifCond .eq 10, 3, []), (6, .aload_n 0, 1, []), (7, .getfield 15, 3, [13, 1, 1555]), (10, .goto 4, 3, []), (13, .iconst 1, 1, []), (14, .ireturn, 1, [])]
abbrev cJ0_charAt_5068e : ByteArray := prog_23_method_56_code
def yJ0_charAt_5068e : MethodName := ⟨RJ0, "charAt", "(I)C"⟩
def rw_J0_charAt_5068e : List RRow := [(0, .aload_n 0, 1, []), (1, .invokevirtual 492, 3, [8, 0, 13, 255]), (4, .ifCond .eq 12, 3, []), (7, .aload_n 0, 1, []), (8, .getfield 9, 3, [13, 0, 1554]), (11, .iload_n 1, 1, []), (12, .invokestatic 495, 3, [9, 2, 259]), (15, .ireturn, 1, []), (16, .aload_n 0, 1, []), (17, .getfield 9, 3, [13, 0, 1554]), (20, .iload_n 1, 1, []), (21, .invokestatic 498, 3, []), (24, .ireturn, 1, [])]
abbrev cJ0_isLatin1_aae02 : ByteArray := prog_23_method_154_code
def yJ0_isLatin1_aae02 : MethodName := ⟨RJ0, "isLatin1", "()Z"⟩
def rw_J0_isLatin1_aae02 : List RRow := [(0, .getstatic 38, 3, [0, 249]), (3, .ifCond .eq 14, 3, []), (6, .aload_n 0, 1, []), (7, .getfield 15, 3, [13, 1, 1555]), (10, .ifCond .ne 7, 3, []), (13, .iconst 1, 1, []), (14, .goto 4, 3, []), (17, .iconst 0, 1, []), (18, .ireturn, 1, [])]
abbrev cJ1_charAt_3b067 : ByteArray := prog_25_method_2_code
def yJ1_charAt_3b067 : MethodName := ⟨RJ1, "charAt", "([BI)C"⟩
def rw_J1_charAt_3b067 : List RRow := [(0, .iload_n 1, 1, []), (1, .aload_n 0, 1, []), (2, .arraylength, 1, []), (3, .invokestatic 9, 3, [115, 2, 262]), (6, .aload_n 0, 1, []), (7, .iload_n 1, 1, []), (8, .baload, 1, []), (9, .sipush 255, 3, []), (12, .iand, 1, []), (13, .i2c, 1, []), (14, .ireturn, 1, [])]
abbrev cX10_symbol : ByteArray := prog_12_method_3_code
def yX10_symbol : MethodName := ⟨RX10, "symbol", "(I)I"⟩
def rw_X10_symbol : List RRow := [(0, .iload_n 0, 1, []), (1, .bipush 97, 2, []), (3, .if_icmp .lt 16, 3, []), (6, .iload_n 0, 1, []), (7, .bipush 122, 2, []), (9, .if_icmp .gt 10, 3, []), (12, .iload_n 0, 1, []), (13, .bipush 97, 2, []), (15, .isub, 1, []), (16, .iconst 1, 1, []), (17, .iadd, 1, []), (18, .ireturn, 1, []), (19, .iload_n 0, 1, []), (20, .invokestatic 55, 3, []), (23, .ifCond .eq 13, 3, []), (26, .iload_n 0, 1, []), (27, .bipush 48, 2, []), (29, .isub, 1, []), (30, .bipush 27, 2, []), (32, .iadd, 1, []), (33, .goto 4, 3, []), (36, .iconst 0, 1, []), (37, .ireturn, 1, [])]
abbrev cX1_init : ByteArray := prog_3_method_1_code
def yX1_init : MethodName := ⟨RX1, "<init>", "()V"⟩
def rw_X1_init : List RRow := [(0, .aload_n 0, 1, []), (1, .invokespecial 3, 3, [9999, 334]), (4, .aload_n 0, 1, []), (5, .sipush 2048, 3, []), (8, .newarray .int, 2, [0]), (10, .putfield 11, 3, [1, 0, 335]), (13, .aload_n 0, 1, []), (14, .sipush 2048, 3, []), (17, .newarray .int, 2, [0]), (19, .putfield 15, 3, [1, 1, 336]), (22, .aload_n 0, 1, []), (23, .iconst (-1), 1, []), (24, .putfield 18, 3, [1, 3, 338]), (27, .return_, 1, [])]
abbrev cX0_init : ByteArray := prog_2_method_1_code
def yX0_init : MethodName := ⟨RX0, "<init>", "(LTaggedPascal$Words;LTaggedPascal$Code;)V"⟩
def rw_X0_init : List RRow := [(0, .aload_n 0, 1, []), (1, .invokespecial 3, 3, [9999, 365]), (4, .aload_n 0, 1, []), (5, .new 9, 3, [5, 366]), (8, .dup, 1, []), (9, .invokespecial 11, 3, [13, 0, 5, 368]), (12, .putfield 12, 3, [0, 2, 575]), (15, .aload_n 0, 1, []), (16, .aload_n 1, 1, []), (17, .putfield 18, 3, [0, 0, 573]), (20, .aload_n 0, 1, []), (21, .aload_n 2, 1, []), (22, .putfield 22, 3, [0, 1, 574]), (25, .aload_n 0, 1, []), (26, .new 26, 3, [2, 529]), (29, .dup, 1, []), (30, .aload_n 1, 1, []), (31, .aload_n 0, 1, []), (32, .getfield 12, 3, [0, 2, 575]), (35, .aload_n 2, 1, []), (36, .invokespecial 28, 3, [18, 3, 2, 531]), (39, .putfield 31, 3, [0, 3, 576]), (42, .aload_n 0, 1, []), (43, .new 35, 3, [7, 548]), (46, .dup, 1, []), (47, .aload_n 1, 1, []), (48, .aload_n 0, 1, []), (49, .getfield 12, 3, [0, 2, 575]), (52, .aload_n 2, 1, []), (53, .aload_n 0, 1, []), (54, .getfield 31, 3, [0, 3, 576]), (57, .invokespecial 37, 3, [19, 4, 7, 550]), (60, .putfield 40, 3, [0, 4, 577]), (63, .return_, 1, [])]
abbrev cX5_init : ByteArray := prog_7_method_1_code
def yX5_init : MethodName := ⟨RX5, "<init>", "()V"⟩
def rw_X5_init : List RRow := [(0, .aload_n 0, 1, []), (1, .invokespecial 3, 3, [9999, 371]), (4, .aload_n 0, 1, []), (5, .new 9, 3, [9, 372]), (8, .dup, 1, []), (9, .iconst 0, 1, []), (10, .invokespecial 11, 3, [14, 1, 9, 374]), (13, .putfield 14, 3, [5, 0, 500]), (16, .aload_n 0, 1, []), (17, .new 9, 3, [9, 372]), (20, .dup, 1, []), (21, .iconst 1, 1, []), (22, .invokespecial 11, 3, [14, 1, 9, 374]), (25, .putfield 20, 3, [5, 1, 502]), (28, .aload_n 0, 1, []), (29, .new 9, 3, [9, 372]), (32, .dup, 1, []), (33, .iconst 2, 1, []), (34, .invokespecial 11, 3, [14, 1, 9, 374]), (37, .putfield 23, 3, [5, 2, 503]), (40, .aload_n 0, 1, []), (41, .new 26, 3, [6, 404]), (44, .dup, 1, []), (45, .iconst 0, 1, []), (46, .aload_n 0, 1, []), (47, .getfield 14, 3, [5, 0, 500]), (50, .invokespecial 28, 3, [15, 2, 6, 406]), (53, .putfield 31, 3, [5, 3, 504]), (56, .aload_n 0, 1, []), (57, .new 35, 3, [4, 451]), (60, .dup, 1, []), (61, .aload_n 0, 1, []), (62, .getfield 14, 3, [5, 0, 500]), (65, .aload_n 0, 1, []), (66, .getfield 31, 3, [5, 3, 504]), (69, .invokespecial 37, 3, [16, 2, 4, 453]), (72, .putfield 40, 3, [5, 4, 505]), (75, .aload_n 0, 1, []), (76, .sipush 134, 3, []), (79, .anewarray 35, 3, [4, 451]), (82, .putfield 44, 3, [5, 5, 506]), (85, .aload_n 0, 1, []), (86, .bipush 14, 2, []), (88, .putfield 48, 3, [5, 6, 507]), (91, .aload_n 0, 1, []), (92, .bipush 14, 2, []), (94, .putfield 52, 3, [5, 7, 508]), (97, .bipush 14, 2, []), (99, .newarray .long, 2, [1]), (101, .astore_n 1, 1, []), (102, .ldc 55, 2, [1, 3, 494]), (104, .aload_n 1, 1, []), (105, .invokestatic 57, 3, [4, 2, 495]), (108, .iconst 0, 1, []), (109, .istore_n 2, 1, []), (110, .iload_n 2, 1, []), (111, .aload_n 0, 1, []), (112, .getfield 44, 3, [5, 5, 506]), (115, .arraylength, 1, []), (116, .if_icmp .ge 123, 3, []), (119, .aload_n 0, 1, []), (120, .getfield 44, 3, [5, 5, 506]), (123, .iload_n 2, 1, []), (124, .new 35, 3, [4, 451]), (127, .dup, 1, []), (128, .aload_n 0, 1, []), (129, .getfield 14, 3, [5, 0, 500]), (132, .aload_n 0, 1, []), (133, .getfield 31, 3, [5, 3, 504]), (136, .invokespecial 37, 3, [16, 2, 4, 453]), (139, .aastore, 1, []), (140, .iload_n 2, 1, []), (141, .aload_n 1, 1, []), (142, .arraylength, 1, []), (143, .if_icmp .ge 90, 3, []), (146, .aload_n 0, 1, []), (147, .getfield 44, 3, [5, 5, 506]), (150, .iload_n 2, 1, []), (151, .aaload, 1, []), (152, .aload_n 1, 1, []), (153, .iload_n 2, 1, []), (154, .laload, 1, []), (155, .putfield 63, 3, [4, 0, 457]), (158, .aload_n 0, 1, []), (159, .getfield 44, 3, [5, 5, 506]), (162, .iload_n 2, 1, []), (163, .aaload, 1, []), (164, .aload_n 0, 1, []), (165, .iload_n 2, 1, []), (166, .iconst 3, 1, []), (167, .if_icmp .ge 7, 3, []), (170, .iload_n 2, 1, []), (171, .goto 4, 3, []), (174, .iconst 2, 1, []), (175, .invokevirtual 67, 3, [17, 1, 5, 496]), (178, .putfield 71, 3, [4, 2, 463]), (181, .aload_n 0, 1, []), (182, .getfield 44, 3, [5, 5, 506]), (185, .iload_n 2, 1, []), (186, .aaload, 1, []), (187, .iload_n 2, 1, []), (188, .iconst 3, 1, []), (189, .if_icmp .ge 7, 3, []), (192, .iconst 3, 1, []), (193, .goto 14, 3, []), (196, .iload_n 2, 1, []), (197, .iconst 5, 1, []), (198, .if_icmp .ge 7, 3, []), (201, .iconst 2, 1, []), (202, .goto 5, 3, []), (205, .bipush 7, 2, []), (207, .putfield 74, 3, [4, 1, 458]), (210, .aload_n 0, 1, []), (211, .getfield 44, 3, [5, 5, 506]), (214, .iload_n 2, 1, []), (215, .aaload, 1, []), (216, .iload_n 2, 1, []), (217, .iconst 5, 1, []), (218, .if_icmp .ge 9, 3, []), (221, .iload_n 2, 1, []), (222, .iconst 3, 1, []), (223, .isub, 1, []), (224, .goto 6, 3, []), (227, .iload_n 2, 1, []), (228, .iconst 5, 1, []), (229, .isub, 1, []), (230, .putfield 77, 3, [4, 4, 471]), (233, .iinc 2 1, 3, []), (236, .goto (-126), 3, []), (239, .return_, 1, [])]
abbrev cX9_init : ByteArray := prog_11_method_1_code
def yX9_init : MethodName := ⟨RX9, "<init>", "(I)V"⟩
def rw_X9_init : List RRow := [(0, .aload_n 0, 1, []), (1, .invokespecial 1, 3, [9999, 377]), (4, .aload_n 0, 1, []), (5, .iload_n 1, 1, []), (6, .putfield 7, 3, [9, 0, 378]), (9, .aload_n 0, 1, []), (10, .iconst 0, 1, []), (11, .putfield 13, 3, [9, 1, 382]), (14, .aload_n 0, 1, []), (15, .iconst 0, 1, []), (16, .putfield 17, 3, [9, 2, 385]), (19, .aload_n 0, 1, []), (20, .iconst 0, 1, []), (21, .putfield 20, 3, [9, 3, 388]), (24, .aload_n 0, 1, []), (25, .aconst_null, 1, []), (26, .putfield 23, 3, [9, 4, 391]), (29, .return_, 1, [])]
abbrev cX6_init : ByteArray := prog_8_method_1_code
def yX6_init : MethodName := ⟨RX6, "<init>", "(ILTaggedPascal$Type;)V"⟩
def rw_X6_init : List RRow := [(0, .aload_n 0, 1, []), (1, .invokespecial 3, 3, [9999, 409]), (4, .aload_n 0, 1, []), (5, .bipush 8, 2, []), (7, .anewarray 9, 3, [5, 410]), (10, .putfield 11, 3, [6, 1, 415]), (13, .aload_n 0, 1, []), (14, .bipush 8, 2, []), (16, .newarray .boolean, 2, [3]), (18, .putfield 17, 3, [6, 2, 417]), (21, .aload_n 0, 1, []), (22, .iconst 4, 1, []), (23, .putfield 21, 3, [6, 4, 422]), (26, .aload_n 0, 1, []), (27, .iload_n 1, 1, []), (28, .putfield 25, 3, [6, 0, 412]), (31, .aload_n 0, 1, []), (32, .aload_n 2, 1, []), (33, .putfield 28, 3, [6, 6, 427]), (36, .return_, 1, [])]
abbrev cX4_init : ByteArray := prog_6_method_1_code
def yX4_init : MethodName := ⟨RX4, "<init>", "(LTaggedPascal$Type;LTaggedPascal$Routine;)V"⟩
def rw_X4_init : List RRow := [(0, .aload_n 0, 1, []), (1, .invokespecial 1, 3, [9999, 456]), (4, .aload_n 0, 1, []), (5, .aload_n 1, 1, []), (6, .putfield 7, 3, [4, 2, 462]), (9, .aload_n 0, 1, []), (10, .aload_n 2, 1, []), (11, .putfield 13, 3, [4, 3, 467]), (14, .return_, 1, [])]
abbrev cX5_ofKind : ByteArray := prog_7_method_2_code
def yX5_ofKind : MethodName := ⟨RX5, "ofKind", "(I)LTaggedPascal$Type;"⟩
def rw_X5_ofKind : List RRow := [(0, .iload_n 1, 1, []), (1, .ifCond .ne 10, 3, []), (4, .aload_n 0, 1, []), (5, .getfield 14, 3, [5, 0, 500]), (8, .goto 19, 3, []), (11, .iload_n 1, 1, []), (12, .iconst 1, 1, []), (13, .if_icmp .ne 10, 3, []), (16, .aload_n 0, 1, []), (17, .getfield 20, 3, [5, 1, 502]), (20, .goto 7, 3, []), (23, .aload_n 0, 1, []), (24, .getfield 23, 3, [5, 2, 503]), (27, .areturn, 1, [])]
abbrev cX2_init : ByteArray := prog_4_method_1_code
def yX2_init : MethodName := ⟨RX2, "<init>", "(LTaggedPascal$Words;LTaggedPascal$Names;LTaggedPascal$Code;)V"⟩
def rw_X2_init : List RRow := [(0, .aload_n 0, 1, []), (1, .invokespecial 3, 3, [9999, 534]), (4, .aload_n 0, 1, []), (5, .aload_n 1, 1, []), (6, .putfield 9, 3, [2, 0, 535]), (9, .aload_n 0, 1, []), (10, .aload_n 2, 1, []), (11, .putfield 15, 3, [2, 1, 536]), (14, .aload_n 0, 1, []), (15, .aload_n 3, 1, []), (16, .putfield 19, 3, [2, 2, 537]), (19, .return_, 1, [])]
abbrev cX7_init : ByteArray := prog_9_method_1_code
def yX7_init : MethodName := ⟨RX7, "<init>", "(LTaggedPascal$Words;LTaggedPascal$Names;LTaggedPascal$Code;LTaggedPascal$Expressions;)V"⟩
def rw_X7_init : List RRow := [(0, .aload_n 0, 1, []), (1, .invokespecial 3, 3, [9999, 553]), (4, .aload_n 0, 1, []), (5, .sipush 1500, 3, []), (8, .newarray .int, 2, [0]), (10, .putfield 9, 3, [7, 4, 558]), (13, .aload_n 0, 1, []), (14, .aload_n 1, 1, []), (15, .putfield 15, 3, [7, 0, 554]), (18, .aload_n 0, 1, []), (19, .aload_n 2, 1, []), (20, .putfield 19, 3, [7, 1, 555]), (23, .aload_n 0, 1, []), (24, .aload_n 3, 1, []), (25, .putfield 23, 3, [7, 2, 556]), (28, .aload_n 0, 1, []), (29, .aload 4, 2, []), (31, .putfield 27, 3, [7, 3, 557]), (34, .return_, 1, [])]
abbrev cX3_init : ByteArray := prog_5_method_1_code
def yX3_init : MethodName := ⟨RX3, "<init>", "(LTaggedPascal$Code;LTaggedPascal$Tape;)V"⟩
def rw_X3_init : List RRow := [(0, .aload_n 0, 1, []), (1, .invokespecial 3, 3, [9999, 594]), (4, .aload_n 0, 1, []), (5, .new 9, 3, [8, 595]), (8, .dup, 1, []), (9, .invokespecial 11, 3, [2, 0, 8, 596]), (12, .putfield 12, 3, [3, 2, 599]), (15, .aload_n 0, 1, []), (16, .sipush 3000, 3, []), (19, .newarray .long, 2, [1]), (21, .putfield 18, 3, [3, 3, 600]), (24, .aload_n 0, 1, []), (25, .sipush 3000, 3, []), (28, .newarray .byte, 2, [2]), (30, .putfield 22, 3, [3, 4, 601]), (33, .aload_n 0, 1, []), (34, .sipush 512, 3, []), (37, .newarray .long, 2, [1]), (39, .putfield 26, 3, [3, 5, 602]), (42, .aload_n 0, 1, []), (43, .iconst (-1), 1, []), (44, .putfield 29, 3, [3, 13, 610]), (47, .aload_n 0, 1, []), (48, .aload_n 1, 1, []), (49, .putfield 33, 3, [3, 0, 597]), (52, .aload_n 0, 1, []), (53, .aload_n 2, 1, []), (54, .putfield 37, 3, [3, 1, 598]), (57, .return_, 1, [])]
abbrev cX1_emit : ByteArray := prog_3_method_4_code
def yX1_emit : MethodName := ⟨RX1, "emit", "(I)V"⟩
def rw_X1_emit : List RRow := [(0, .aload_n 0, 1, []), (1, .getfield 22, 3, [1, 2, 337]), (4, .aload_n 0, 1, []), (5, .getfield 11, 3, [1, 0, 335]), (8, .arraylength, 1, []), (9, .if_icmp .lt 37, 3, []), (12, .aload_n 0, 1, []), (13, .aload_n 0, 1, []), (14, .getfield 11, 3, [1, 0, 335]), (17, .iconst 2, 1, []), (18, .aload_n 0, 1, []), (19, .getfield 11, 3, [1, 0, 335]), (22, .arraylength, 1, []), (23, .imul, 1, []), (24, .invokestatic 28, 3, []), (27, .putfield 11, 3, [1, 0, 335]), (30, .aload_n 0, 1, []), (31, .aload_n 0, 1, []), (32, .getfield 15, 3, [1, 1, 336]), (35, .aload_n 0, 1, []), (36, .getfield 11, 3, [1, 0, 335]), (39, .arraylength, 1, []), (40, .invokestatic 28, 3, []), (43, .putfield 15, 3, [1, 1, 336]), (46, .aload_n 0, 1, []), (47, .getfield 22, 3, [1, 2, 337]), (50, .aload_n 0, 1, []), (51, .getfield 11, 3, [1, 0, 335]), (54, .arraylength, 1, []), (55, .if_icmp .ge 48, 3, []), (58, .aload_n 0, 1, []), (59, .getfield 22, 3, [1, 2, 337]), (62, .aload_n 0, 1, []), (63, .getfield 15, 3, [1, 1, 336]), (66, .arraylength, 1, []), (67, .if_icmp .ge 36, 3, []), (70, .aload_n 0, 1, []), (71, .getfield 11, 3, [1, 0, 335]), (74, .aload_n 0, 1, []), (75, .getfield 22, 3, [1, 2, 337]), (78, .iload_n 1, 1, []), (79, .iastore, 1, []), (80, .aload_n 0, 1, []), (81, .getfield 15, 3, [1, 1, 336]), (84, .aload_n 0, 1, []), (85, .getfield 22, 3, [1, 2, 337]), (88, .aload_n 0, 1, []), (89, .getfield 18, 3, [1, 3, 338]), (92, .iastore, 1, []), (93, .aload_n 0, 1, []), (94, .dup, 1, []), (95, .getfield 22, 3, [1, 2, 337]), (98, .iconst 1, 1, []), (99, .iadd, 1, []), (100, .putfield 22, 3, [1, 2, 337]), (103, .return_, 1, [])]
abbrev cX12_init : ByteArray := prog_14_method_1_code
def yX12_init : MethodName := ⟨RX12, "<init>", "()V"⟩
def rw_X12_init : List RRow := [(0, .aload_n 0, 1, []), (1, .invokespecial 1, 3, [9999, 1784]), (4, .aload_n 0, 1, []), (5, .sipush 152, 3, []), (8, .newarray .int, 2, [0]), (10, .dup, 1, []), (11, .iconst 0, 1, []), (12, .iconst 5, 1, []), (13, .iastore, 1, []), (14, .dup, 1, []), (15, .iconst 1, 1, []), (16, .iconst 3, 1, []), (17, .iastore, 1, []), (18, .dup, 1, []), (19, .iconst 2, 1, []), (20, .bipush 15, 2, []), (22, .iastore, 1, []), (23, .dup, 1, []), (24, .iconst 3, 1, []), (25, .bipush 14, 2, []), (27, .iastore, 1, []), (28, .dup, 1, []), (29, .iconst 4, 1, []), (30, .bipush 19, 2, []), (32, .iastore, 1, []), (33, .dup, 1, []), (34, .iconst 5, 1, []), (35, .bipush 20, 2, []), (37, .iastore, 1, []), (38, .dup, 1, []), (39, .bipush 6, 2, []), (41, .iconst 4, 1, []), (42, .iastore, 1, []), (43, .dup, 1, []), (44, .bipush 7, 2, []), (46, .bipush 20, 2, []), (48, .iastore, 1, []), (49, .dup, 1, []), (50, .bipush 8, 2, []), (52, .bipush 25, 2, []), (54, .iastore, 1, []), (55, .dup, 1, []), (56, .bipush 9, 2, []), (58, .bipush 16, 2, []), (60, .iastore, 1, []), (61, .dup, 1, []), (62, .bipush 10, 2, []), (64, .iconst 5, 1, []), (65, .iastore, 1, []), (66, .dup, 1, []), (67, .bipush 11, 2, []), (69, .iconst 3, 1, []), (70, .iastore, 1, []), (71, .dup, 1, []), (72, .bipush 12, 2, []), (74, .bipush 22, 2, []), (76, .iastore, 1, []), (77, .dup, 1, []), (78, .bipush 13, 2, []), (80, .iconst 1, 1, []), (81, .iastore, 1, []), (82, .dup, 1, []), (83, .bipush 14, 2, []), (85, .bipush 18, 2, []), (87, .iastore, 1, []), (88, .dup, 1, []), (89, .bipush 15, 2, []), (91, .bipush 9, 2, []), (93, .iastore, 1, []), (94, .dup, 1, []), (95, .bipush 16, 2, []), (97, .bipush 16, 2, []), (99, .iastore, 1, []), (100, .dup, 1, []), (101, .bipush 17, 2, []), (103, .bipush 18, 2, []), (105, .iastore, 1, []), (106, .dup, 1, []), (107, .bipush 18, 2, []), (109, .bipush 15, 2, []), (111, .iastore, 1, []), (112, .dup, 1, []), (113, .bipush 19, 2, []), (115, .iconst 3, 1, []), (116, .iastore, 1, []), (117, .dup, 1, []), (118, .bipush 20, 2, []), (120, .iconst 5, 1, []), (121, .iastore, 1, []), (122, .dup, 1, []), (123, .bipush 21, 2, []), (125, .iconst 4, 1, []), (126, .iastore, 1, []), (127, .dup, 1, []), (128, .bipush 22, 2, []), (130, .bipush 21, 2, []), (132, .iastore, 1, []), (133, .dup, 1, []), (134, .bipush 23, 2, []), (136, .bipush 18, 2, []), (138, .iastore, 1, []), (139, .dup, 1, []), (140, .bipush 24, 2, []), (142, .iconst 5, 1, []), (143, .iastore, 1, []), (144, .dup, 1, []), (145, .bipush 25, 2, []), (147, .bipush 8, 2, []), (149, .iastore, 1, []), (150, .dup, 1, []), (151, .bipush 26, 2, []), (153, .bipush 6, 2, []), (155, .iastore, 1, []), (156, .dup, 1, []), (157, .bipush 27, 2, []), (159, .bipush 21, 2, []), (161, .iastore, 1, []), (162, .dup, 1, []), (163, .bipush 28, 2, []), (165, .bipush 14, 2, []), (167, .iastore, 1, []), (168, .dup, 1, []), (169, .bipush 29, 2, []), (171, .iconst 3, 1, []), (172, .iastore, 1, []), (173, .dup, 1, []), (174, .bipush 30, 2, []), (176, .bipush 20, 2, []), (178, .iastore, 1, []), (179, .dup, 1, []), (180, .bipush 31, 2, []), (182, .bipush 9, 2, []), (184, .iastore, 1, []), (185, .dup, 1, []), (186, .bipush 32, 2, []), (188, .bipush 15, 2, []), (190, .iastore, 1, []), (191, .dup, 1, []), (192, .bipush 33, 2, []), (194, .bipush 14, 2, []), (196, .iastore, 1, []), (197, .dup, 1, []), (198, .bipush 34, 2, []), (200, .iconst 5, 1, []), (201, .iastore, 1, []), (202, .dup, 1, []), (203, .bipush 35, 2, []), (205, .iconst 2, 1, []), (206, .iastore, 1, []), (207, .dup, 1, []), (208, .bipush 36, 2, []), (210, .iconst 5, 1, []), (211, .iastore, 1, []), (212, .dup, 1, []), (213, .bipush 37, 2, []), (215, .bipush 7, 2, []), (217, .iastore, 1, []), (218, .dup, 1, []), (219, .bipush 38, 2, []), (221, .bipush 9, 2, []), (223, .iastore, 1, []), (224, .dup, 1, []), (225, .bipush 39, 2, []), (227, .bipush 14, 2, []), (229, .iastore, 1, []), (230, .dup, 1, []), (231, .bipush 40, 2, []), (233, .iconst 3, 1, []), (234, .iastore, 1, []), (235, .dup, 1, []), (236, .bipush 41, 2, []), (238, .iconst 5, 1, []), (239, .iastore, 1, []), (240, .dup, 1, []), (241, .bipush 42, 2, []), (243, .bipush 14, 2, []), (245, .iastore, 1, []), (246, .dup, 1, []), (247, .bipush 43, 2, []), (249, .iconst 4, 1, []), (250, .iastore, 1, []), (251, .dup, 1, []), (252, .bipush 44, 2, []), (254, .iconst 2, 1, []), (255, .iastore, 1, []), (256, .dup, 1, []), (257, .bipush 45, 2, []), (259, .bipush 9, 2, []), (261, .iastore, 1, []), (262, .dup, 1, []), (263, .bipush 46, 2, []), (265, .bipush 6, 2, []), (267, .iastore, 1, []), (268, .dup, 1, []), (269, .bipush 47, 2, []), (271, .iconst 4, 1, []), (272, .iastore, 1, []), (273, .dup, 1, []), (274, .bipush 48, 2, []), (276, .bipush 20, 2, []), (278, .iastore, 1, []), (279, .dup, 1, []), (280, .bipush 49, 2, []), (282, .bipush 8, 2, []), (284, .iastore, 1, []), (285, .dup, 1, []), (286, .bipush 50, 2, []), (288, .iconst 5, 1, []), (289, .iastore, 1, []), (290, .dup, 1, []), (291, .bipush 51, 2, []), (293, .bipush 14, 2, []), (295, .iastore, 1, []), (296, .dup, 1, []), (297, .bipush 52, 2, []), (299, .iconst 4, 1, []), (300, .iastore, 1, []), (301, .dup, 1, []), (302, .bipush 53, 2, []), (304, .iconst 5, 1, []), (305, .iastore, 1, []), (306, .dup, 1, []), (307, .bipush 54, 2, []), (309, .bipush 12, 2, []), (311, .iastore, 1, []), (312, .dup, 1, []), (313, .bipush 55, 2, []), (315, .bipush 19, 2, []), (317, .iastore, 1, []), (318, .dup, 1, []), (319, .bipush 56, 2, []), (321, .iconst 5, 1, []), (322, .iastore, 1, []), (323, .dup, 1, []), (324, .bipush 57, 2, []), (326, .iconst 5, 1, []), (327, .iastore, 1, []), (328, .dup, 1, []), (329, .bipush 58, 2, []), (331, .bipush 23, 2, []), (333, .iastore, 1, []), (334, .dup, 1, []), (335, .bipush 59, 2, []), (337, .bipush 8, 2, []), (339, .iastore, 1, []), (340, .dup, 1, []), (341, .bipush 60, 2, []), (343, .bipush 9, 2, []), (345, .iastore, 1, []), (346, .dup, 1, []), (347, .bipush 61, 2, []), (349, .bipush 12, 2, []), (351, .iastore, 1, []), (352, .dup, 1, []), (353, .bipush 62, 2, []), (355, .iconst 5, 1, []), (356, .iastore, 1, []), (357, .dup, 1, []), (358, .bipush 63, 2, []), (360, .iconst 2, 1, []), (361, .iastore, 1, []), (362, .dup, 1, []), (363, .bipush 64, 2, []), (365, .iconst 4, 1, []), (366, .iastore, 1, []), (367, .dup, 1, []), (368, .bipush 65, 2, []), (370, .bipush 15, 2, []), (372, .iastore, 1, []), (373, .dup, 1, []), (374, .bipush 66, 2, []), (376, .bipush 6, 2, []), (378, .iastore, 1, []), (379, .dup, 1, []), (380, .bipush 67, 2, []), (382, .bipush 18, 2, []), (384, .iastore, 1, []), (385, .dup, 1, []), (386, .bipush 68, 2, []), (388, .iconst 5, 1, []), (389, .iastore, 1, []), (390, .dup, 1, []), (391, .bipush 69, 2, []), (393, .bipush 16, 2, []), (395, .iastore, 1, []), (396, .dup, 1, []), (397, .bipush 70, 2, []), (399, .iconst 5, 1, []), (400, .iastore, 1, []), (401, .dup, 1, []), (402, .bipush 71, 2, []), (404, .iconst 1, 1, []), (405, .iastore, 1, []), (406, .dup, 1, []), (407, .bipush 72, 2, []), (409, .bipush 20, 2, []), (411, .iastore, 1, []), (412, .dup, 1, []), (413, .bipush 73, 2, []), (415, .iconst 5, 1, []), (416, .iastore, 1, []), (417, .dup, 1, []), (418, .bipush 74, 2, []), (420, .bipush 21, 2, []), (422, .iastore, 1, []), (423, .dup, 1, []), (424, .bipush 75, 2, []), (426, .bipush 14, 2, []), (428, .iastore, 1, []), (429, .dup, 1, []), (430, .bipush 76, 2, []), (432, .bipush 20, 2, []), (434, .iastore, 1, []), (435, .dup, 1, []), (436, .bipush 77, 2, []), (438, .bipush 9, 2, []), (440, .iastore, 1, []), (441, .dup, 1, []), (442, .bipush 78, 2, []), (444, .bipush 12, 2, []), (446, .iastore, 1, []), (447, .dup, 1, []), (448, .bipush 79, 2, []), (450, .iconst 3, 1, []), (451, .iastore, 1, []), (452, .dup, 1, []), (453, .bipush 80, 2, []), (455, .bipush 6, 2, []), (457, .iastore, 1, []), (458, .dup, 1, []), (459, .bipush 81, 2, []), (461, .bipush 15, 2, []), (463, .iastore, 1, []), (464, .dup, 1, []), (465, .bipush 82, 2, []), (467, .bipush 18, 2, []), (469, .iastore, 1, []), (470, .dup, 1, []), (471, .bipush 83, 2, []), (473, .iconst 2, 1, []), (474, .iastore, 1, []), (475, .dup, 1, []), (476, .bipush 84, 2, []), (478, .bipush 20, 2, []), (480, .iastore, 1, []), (481, .dup, 1, []), (482, .bipush 85, 2, []), (484, .bipush 15, 2, []), (486, .iastore, 1, []), (487, .dup, 1, []), (488, .bipush 86, 2, []), (490, .bipush 6, 2, []), (492, .iastore, 1, []), (493, .dup, 1, []), (494, .bipush 87, 2, []), (496, .iconst 4, 1, []), (497, .iastore, 1, []), (498, .dup, 1, []), (499, .bipush 88, 2, []), (501, .bipush 15, 2, []), (503, .iastore, 1, []), (504, .dup, 1, []), (505, .bipush 89, 2, []), (507, .bipush 23, 2, []), (509, .iastore, 1, []), (510, .dup, 1, []), (511, .bipush 90, 2, []), (513, .bipush 14, 2, []), (515, .iastore, 1, []), (516, .dup, 1, []), (517, .bipush 91, 2, []), (519, .bipush 20, 2, []), (521, .iastore, 1, []), (522, .dup, 1, []), (523, .bipush 92, 2, []), (525, .bipush 15, 2, []), (527, .iastore, 1, []), (528, .dup, 1, []), (529, .bipush 93, 2, []), (531, .iconst 4, 1, []), (532, .iastore, 1, []), (533, .dup, 1, []), (534, .bipush 94, 2, []), (536, .iconst 3, 1, []), (537, .iastore, 1, []), (538, .dup, 1, []), (539, .bipush 95, 2, []), (541, .iconst 1, 1, []), (542, .iastore, 1, []), (543, .dup, 1, []), (544, .bipush 96, 2, []), (546, .bipush 19, 2, []), (548, .iastore, 1, []), (549, .dup, 1, []), (550, .bipush 97, 2, []), (552, .iconst 5, 1, []), (553, .iastore, 1, []), (554, .dup, 1, []), (555, .bipush 98, 2, []), (557, .iconst 2, 1, []), (558, .iastore, 1, []), (559, .dup, 1, []), (560, .bipush 99, 2, []), (562, .bipush 15, 2, []), (564, .iastore, 1, []), (565, .dup, 1, []), (566, .bipush 100, 2, []), (568, .bipush 6, 2, []), (570, .iastore, 1, []), (571, .dup, 1, []), (572, .bipush 101, 2, []), (574, .iconst 5, 1, []), (575, .iastore, 1, []), (576, .dup, 1, []), (577, .bipush 102, 2, []), (579, .iconst 1, 1, []), (580, .iastore, 1, []), (581, .dup, 1, []), (582, .bipush 103, 2, []), (584, .bipush 18, 2, []), (586, .iastore, 1, []), (587, .dup, 1, []), (588, .bipush 104, 2, []), (590, .bipush 18, 2, []), (592, .iastore, 1, []), (593, .dup, 1, []), (594, .bipush 105, 2, []), (596, .iconst 1, 1, []), (597, .iastore, 1, []), (598, .dup, 1, []), (599, .bipush 106, 2, []), (601, .bipush 25, 2, []), (603, .iastore, 1, []), (604, .dup, 1, []), (605, .bipush 107, 2, []), (607, .iconst 3, 1, []), (608, .iastore, 1, []), (609, .dup, 1, []), (610, .bipush 108, 2, []), (612, .bipush 19, 2, []), (614, .iastore, 1, []), (615, .dup, 1, []), (616, .bipush 109, 2, []), (618, .iconst 5, 1, []), (619, .iastore, 1, []), (620, .dup, 1, []), (621, .bipush 110, 2, []), (623, .bipush 20, 2, []), (625, .iastore, 1, []), (626, .dup, 1, []), (627, .bipush 111, 2, []), (629, .iconst 3, 1, []), (630, .iastore, 1, []), (631, .dup, 1, []), (632, .bipush 112, 2, []), (634, .iconst 4, 1, []), (635, .iastore, 1, []), (636, .dup, 1, []), (637, .bipush 113, 2, []), (639, .bipush 9, 2, []), (641, .iastore, 1, []), (642, .dup, 1, []), (643, .bipush 114, 2, []), (645, .bipush 22, 2, []), (647, .iastore, 1, []), (648, .dup, 1, []), (649, .bipush 115, 2, []), (651, .iconst 3, 1, []), (652, .iastore, 1, []), (653, .dup, 1, []), (654, .bipush 116, 2, []), (656, .bipush 13, 2, []), (658, .iastore, 1, []), (659, .dup, 1, []), (660, .bipush 117, 2, []), (662, .bipush 15, 2, []), (664, .iastore, 1, []), (665, .dup, 1, []), (666, .bipush 118, 2, []), (668, .iconst 4, 1, []), (669, .iastore, 1, []), (670, .dup, 1, []), (671, .bipush 119, 2, []), (673, .iconst 3, 1, []), (674, .iastore, 1, []), (675, .dup, 1, []), (676, .bipush 120, 2, []), (678, .iconst 1, 1, []), (679, .iastore, 1, []), (680, .dup, 1, []), (681, .bipush 121, 2, []), (683, .bipush 14, 2, []), (685, .iastore, 1, []), (686, .dup, 1, []), (687, .bipush 122, 2, []), (689, .iconst 4, 1, []), (690, .iastore, 1, []), (691, .dup, 1, []), (692, .bipush 123, 2, []), (694, .iconst 2, 1, []), (695, .iastore, 1, []), (696, .dup, 1, []), (697, .bipush 124, 2, []), (699, .bipush 15, 2, []), (701, .iastore, 1, []), (702, .dup, 1, []), (703, .bipush 125, 2, []), (705, .bipush 18, 2, []), (707, .iastore, 1, []), (708, .dup, 1, []), (709, .bipush 126, 2, []), (711, .iconst 3, 1, []), (712, .iastore, 1, []), (713, .dup, 1, []), (714, .bipush 127, 2, []), (716, .bipush 14, 2, []), (718, .iastore, 1, []), (719, .dup, 1, []), (720, .sipush 128, 3, []), (723, .bipush 15, 2, []), (725, .iastore, 1, []), (726, .dup, 1, []), (727, .sipush 129, 3, []), (730, .bipush 20, 2, []), (732, .iastore, 1, []), (733, .dup, 1, []), (734, .sipush 130, 3, []), (737, .iconst 2, 1, []), (738, .iastore, 1, []), (739, .dup, 1, []), (740, .sipush 131, 3, []), (743, .bipush 9, 2, []), (745, .iastore, 1, []), (746, .dup, 1, []), (747, .sipush 132, 3, []), (750, .bipush 14, 2, []), (752, .iastore, 1, []), (753, .dup, 1, []), (754, .sipush 133, 3, []), (757, .iconst 4, 1, []), (758, .iastore, 1, []), (759, .dup, 1, []), (760, .sipush 134, 3, []), (763, .bipush 18, 2, []), (765, .iastore, 1, []), (766, .dup, 1, []), (767, .sipush 135, 3, []), (770, .iconst 5, 1, []), (771, .iastore, 1, []), (772, .dup, 1, []), (773, .sipush 136, 3, []), (776, .iconst 1, 1, []), (777, .iastore, 1, []), (778, .dup, 1, []), (779, .sipush 137, 3, []), (782, .iconst 4, 1, []), (783, .iastore, 1, []), (784, .dup, 1, []), (785, .sipush 138, 3, []), (788, .iconst 5, 1, []), (789, .iastore, 1, []), (790, .dup, 1, []), (791, .sipush 139, 3, []), (794, .bipush 23, 2, []), (796, .iastore, 1, []), (797, .dup, 1, []), (798, .sipush 140, 3, []), (801, .bipush 18, 2, []), (803, .iastore, 1, []), (804, .dup, 1, []), (805, .sipush 141, 3, []), (808, .bipush 9, 2, []), (810, .iastore, 1, []), (811, .dup, 1, []), (812, .sipush 142, 3, []), (815, .bipush 20, 2, []), (817, .iastore, 1, []), (818, .dup, 1, []), (819, .sipush 143, 3, []), (822, .iconst 5, 1, []), (823, .iastore, 1, []), (824, .dup, 1, []), (825, .sipush 144, 3, []), (828, .bipush 7, 2, []), (830, .iastore, 1, []), (831, .dup, 1, []), (832, .sipush 145, 3, []), (835, .bipush 23, 2, []), (837, .iastore, 1, []), (838, .dup, 1, []), (839, .sipush 146, 3, []), (842, .bipush 18, 2, []), (844, .iastore, 1, []), (845, .dup, 1, []), (846, .sipush 147, 3, []), (849, .bipush 9, 2, []), (851, .iastore, 1, []), (852, .dup, 1, []), (853, .sipush 148, 3, []), (856, .bipush 20, 2, []), (858, .iastore, 1, []), (859, .dup, 1, []), (860, .sipush 149, 3, []), (863, .iconst 5, 1, []), (864, .iastore, 1, []), (865, .dup, 1, []), (866, .sipush 150, 3, []), (869, .bipush 12, 2, []), (871, .iastore, 1, []), (872, .dup, 1, []), (873, .sipush 151, 3, []), (876, .bipush 14, 2, []), (878, .iastore, 1, []), (879, .putfield 7, 3, [12, 0, 1810]), (882, .aload_n 0, 1, []), (883, .bipush 71, 2, []), (885, .newarray .int, 2, [0]), (887, .dup, 1, []), (888, .iconst 0, 1, []), (889, .bipush 7, 2, []), (891, .iastore, 1, []), (892, .dup, 1, []), (893, .iconst 1, 1, []), (894, .bipush 9, 2, []), (896, .iastore, 1, []), (897, .dup, 1, []), (898, .iconst 2, 1, []), (899, .bipush 14, 2, []), (901, .iastore, 1, []), (902, .dup, 1, []), (903, .iconst 3, 1, []), (904, .bipush 20, 2, []), (906, .iastore, 1, []), (907, .dup, 1, []), (908, .iconst 4, 1, []), (909, .iconst 5, 1, []), (910, .iastore, 1, []), (911, .dup, 1, []), (912, .iconst 5, 1, []), (913, .bipush 7, 2, []), (915, .iastore, 1, []), (916, .dup, 1, []), (917, .bipush 6, 2, []), (919, .iconst 5, 1, []), (920, .iastore, 1, []), (921, .dup, 1, []), (922, .bipush 7, 2, []), (924, .bipush 18, 2, []), (926, .iastore, 1, []), (927, .dup, 1, []), (928, .bipush 8, 2, []), (930, .iconst 4, 1, []), (931, .iastore, 1, []), (932, .dup, 1, []), (933, .bipush 9, 2, []), (935, .iconst 3, 1, []), (936, .iastore, 1, []), (937, .dup, 1, []), (938, .bipush 10, 2, []), (940, .bipush 8, 2, []), (942, .iastore, 1, []), (943, .dup, 1, []), (944, .bipush 11, 2, []), (946, .iconst 1, 1, []), (947, .iastore, 1, []), (948, .dup, 1, []), (949, .bipush 12, 2, []), (951, .bipush 18, 2, []), (953, .iastore, 1, []), (954, .dup, 1, []), (955, .bipush 13, 2, []), (957, .bipush 7, 2, []), (959, .iastore, 1, []), (960, .dup, 1, []), (961, .bipush 14, 2, []), (963, .iconst 2, 1, []), (964, .iastore, 1, []), (965, .dup, 1, []), (966, .bipush 15, 2, []), (968, .bipush 15, 2, []), (970, .iastore, 1, []), (971, .dup, 1, []), (972, .bipush 16, 2, []), (974, .bipush 15, 2, []), (976, .iastore, 1, []), (977, .dup, 1, []), (978, .bipush 17, 2, []), (980, .bipush 12, 2, []), (982, .iastore, 1, []), (983, .dup, 1, []), (984, .bipush 18, 2, []), (986, .iconst 5, 1, []), (987, .iastore, 1, []), (988, .dup, 1, []), (989, .bipush 19, 2, []), (991, .iconst 1, 1, []), (992, .iastore, 1, []), (993, .dup, 1, []), (994, .bipush 20, 2, []), (996, .bipush 14, 2, []), (998, .iastore, 1, []), (999, .dup, 1, []), (1000, .bipush 21, 2, []), (1002, .iconst 5, 1, []), (1003, .iastore, 1, []), (1004, .dup, 1, []), (1005, .bipush 22, 2, []), (1007, .bipush 6, 2, []), (1009, .iastore, 1, []), (1010, .dup, 1, []), (1011, .bipush 23, 2, []), (1013, .iconst 1, 1, []), (1014, .iastore, 1, []), (1015, .dup, 1, []), (1016, .bipush 24, 2, []), (1018, .bipush 12, 2, []), (1020, .iastore, 1, []), (1021, .dup, 1, []), (1022, .bipush 25, 2, []), (1024, .bipush 19, 2, []), (1026, .iastore, 1, []), (1027, .dup, 1, []), (1028, .bipush 26, 2, []), (1030, .iconst 5, 1, []), (1031, .iastore, 1, []), (1032, .dup, 1, []), (1033, .bipush 27, 2, []), (1035, .iconst 4, 1, []), (1036, .iastore, 1, []), (1037, .dup, 1, []), (1038, .bipush 28, 2, []), (1040, .bipush 20, 2, []), (1042, .iastore, 1, []), (1043, .dup, 1, []), (1044, .bipush 29, 2, []), (1046, .bipush 18, 2, []), (1048, .iastore, 1, []), (1049, .dup, 1, []), (1050, .bipush 30, 2, []), (1052, .bipush 21, 2, []), (1054, .iastore, 1, []), (1055, .dup, 1, []), (1056, .bipush 31, 2, []), (1058, .iconst 5, 1, []), (1059, .iastore, 1, []), (1060, .dup, 1, []), (1061, .bipush 32, 2, []), (1063, .iconst 3, 1, []), (1064, .iastore, 1, []), (1065, .dup, 1, []), (1066, .bipush 33, 2, []), (1068, .bipush 15, 2, []), (1070, .iastore, 1, []), (1071, .dup, 1, []), (1072, .bipush 34, 2, []), (1074, .bipush 18, 2, []), (1076, .iastore, 1, []), (1077, .dup, 1, []), (1078, .bipush 35, 2, []), (1080, .iconst 4, 1, []), (1081, .iastore, 1, []), (1082, .dup, 1, []), (1083, .bipush 36, 2, []), (1085, .iconst 3, 1, []), (1086, .iastore, 1, []), (1087, .dup, 1, []), (1088, .bipush 37, 2, []), (1090, .iconst 3, 1, []), (1091, .iastore, 1, []), (1092, .dup, 1, []), (1093, .bipush 38, 2, []), (1095, .bipush 8, 2, []), (1097, .iastore, 1, []), (1098, .dup, 1, []), (1099, .bipush 39, 2, []), (1101, .bipush 18, 2, []), (1103, .iastore, 1, []), (1104, .dup, 1, []), (1105, .bipush 40, 2, []), (1107, .iconst 4, 1, []), (1108, .iastore, 1, []), (1109, .dup, 1, []), (1110, .bipush 41, 2, []), (1112, .bipush 19, 2, []), (1114, .iastore, 1, []), (1115, .dup, 1, []), (1116, .bipush 42, 2, []), (1118, .bipush 21, 2, []), (1120, .iastore, 1, []), (1121, .dup, 1, []), (1122, .bipush 43, 2, []), (1124, .iconst 3, 1, []), (1125, .iastore, 1, []), (1126, .dup, 1, []), (1127, .bipush 44, 2, []), (1129, .iconst 3, 1, []), (1130, .iastore, 1, []), (1131, .dup, 1, []), (1132, .bipush 45, 2, []), (1134, .iconst 4, 1, []), (1135, .iastore, 1, []), (1136, .dup, 1, []), (1137, .bipush 46, 2, []), (1139, .bipush 16, 2, []), (1141, .iastore, 1, []), (1142, .dup, 1, []), (1143, .bipush 47, 2, []), (1145, .bipush 18, 2, []), (1147, .iastore, 1, []), (1148, .dup, 1, []), (1149, .bipush 48, 2, []), (1151, .iconst 5, 1, []), (1152, .iastore, 1, []), (1153, .dup, 1, []), (1154, .bipush 49, 2, []), (1156, .iconst 4, 1, []), (1157, .iastore, 1, []), (1158, .dup, 1, []), (1159, .bipush 50, 2, []), (1161, .iconst 3, 1, []), (1162, .iastore, 1, []), (1163, .dup, 1, []), (1164, .bipush 51, 2, []), (1166, .bipush 15, 2, []), (1168, .iastore, 1, []), (1169, .dup, 1, []), (1170, .bipush 52, 2, []), (1172, .iconst 4, 1, []), (1173, .iastore, 1, []), (1174, .dup, 1, []), (1175, .bipush 53, 2, []), (1177, .iconst 4, 1, []), (1178, .iastore, 1, []), (1179, .dup, 1, []), (1180, .bipush 54, 2, []), (1182, .iconst 3, 1, []), (1183, .iastore, 1, []), (1184, .dup, 1, []), (1185, .bipush 55, 2, []), (1187, .iconst 1, 1, []), (1188, .iastore, 1, []), (1189, .dup, 1, []), (1190, .bipush 56, 2, []), (1192, .iconst 2, 1, []), (1193, .iastore, 1, []), (1194, .dup, 1, []), (1195, .bipush 57, 2, []), (1197, .bipush 19, 2, []), (1199, .iastore, 1, []), (1200, .dup, 1, []), (1201, .bipush 58, 2, []), (1203, .iconst 3, 1, []), (1204, .iastore, 1, []), (1205, .dup, 1, []), (1206, .bipush 59, 2, []), (1208, .bipush 19, 2, []), (1210, .iastore, 1, []), (1211, .dup, 1, []), (1212, .bipush 60, 2, []), (1214, .bipush 17, 2, []), (1216, .iastore, 1, []), (1217, .dup, 1, []), (1218, .bipush 61, 2, []), (1220, .bipush 18, 2, []), (1222, .iastore, 1, []), (1223, .dup, 1, []), (1224, .bipush 62, 2, []), (1226, .iconst 3, 1, []), (1227, .iastore, 1, []), (1228, .dup, 1, []), (1229, .bipush 63, 2, []), (1231, .iconst 5, 1, []), (1232, .iastore, 1, []), (1233, .dup, 1, []), (1234, .bipush 64, 2, []), (1236, .bipush 15, 2, []), (1238, .iastore, 1, []), (1239, .dup, 1, []), (1240, .bipush 65, 2, []), (1242, .bipush 6, 2, []), (1244, .iastore, 1, []), (1245, .dup, 1, []), (1246, .bipush 66, 2, []), (1248, .iconst 4, 1, []), (1249, .iastore, 1, []), (1250, .dup, 1, []), (1251, .bipush 67, 2, []), (1253, .iconst 5, 1, []), (1254, .iastore, 1, []), (1255, .dup, 1, []), (1256, .bipush 68, 2, []), (1258, .bipush 15, 2, []), (1260, .iastore, 1, []), (1261, .dup, 1, []), (1262, .bipush 69, 2, []), (1264, .bipush 12, 2, []), (1266, .iastore, 1, []), (1267, .dup, 1, []), (1268, .bipush 70, 2, []), (1270, .bipush 14, 2, []), (1272, .iastore, 1, []), (1273, .putfield 13, 3, [12, 1, 1811]), (1276, .aload_n 0, 1, []), (1277, .bipush 30, 2, []), (1279, .newarray .long, 2, [1]), (1281, .putfield 16, 3, [12, 2, 1812]), (1284, .aload_n 0, 1, []), (1285, .sipush 1500, 3, []), (1288, .newarray .int, 2, [0]), (1290, .putfield 20, 3, [12, 4, 1814]), (1293, .aload_n 0, 1, []), (1294, .iconst (-1), 1, []), (1295, .putfield 23, 3, [12, 7, 1817]), (1298, .aload_n 0, 1, []), (1299, .sipush 140, 3, []), (1302, .newarray .long, 2, [1]), (1304, .putfield 27, 3, [12, 16, 1826]), (1307, .aload_n 0, 1, []), (1308, .sipush 140, 3, []), (1311, .newarray .int, 2, [0]), (1313, .putfield 30, 3, [12, 17, 1827]), (1316, .aload_n 0, 1, []), (1317, .sipush 140, 3, []), (1320, .newarray .int, 2, [0]), (1322, .putfield 33, 3, [12, 18, 1828]), (1325, .aload_n 0, 1, []), (1326, .sipush 140, 3, []), (1329, .newarray .boolean, 2, [3]), (1331, .putfield 36, 3, [12, 19, 1829]), (1334, .aload_n 0, 1, []), (1335, .sipush 140, 3, []), (1338, .newarray .int, 2, [0]), (1340, .putfield 40, 3, [12, 20, 1830]), (1343, .aload_n 0, 1, []), (1344, .sipush 140, 3, []), (1347, .newarray .boolean, 2, [3]), (1349, .putfield 43, 3, [12, 21, 1831]), (1352, .aload_n 0, 1, []), (1353, .sipush 140, 3, []), (1356, .newarray .int, 2, [0]), (1358, .putfield 46, 3, [12, 22, 1832]), (1361, .aload_n 0, 1, []), (1362, .sipush 140, 3, []), (1365, .newarray .int, 2, [0]), (1367, .putfield 49, 3, [12, 23, 1833]), (1370, .aload_n 0, 1, []), (1371, .sipush 140, 3, []), (1374, .newarray .boolean, 2, [3]), (1376, .putfield 52, 3, [12, 24, 1834]), (1379, .aload_n 0, 1, []), (1380, .sipush 140, 3, []), (1383, .newarray .int, 2, [0]), (1385, .putfield 55, 3, [12, 25, 1835]), (1388, .aload_n 0, 1, []), (1389, .sipush 140, 3, []), (1392, .newarray .int, 2, [0]), (1394, .putfield 58, 3, [12, 26, 1836]), (1397, .aload_n 0, 1, []), (1398, .sipush 140, 3, []), (1401, .newarray .int, 2, [0]), (1403, .putfield 61, 3, [12, 27, 1837]), (1406, .aload_n 0, 1, []), (1407, .sipush 140, 3, []), (1410, .newarray .int, 2, [0]), (1412, .putfield 64, 3, [12, 28, 1838]), (1415, .aload_n 0, 1, []), (1416, .sipush 140, 3, []), (1419, .newarray .boolean, 2, [3]), (1421, .putfield 67, 3, [12, 29, 1839]), (1424, .aload_n 0, 1, []), (1425, .sipush 140, 3, []), (1428, .newarray .int, 2, [0]), (1430, .putfield 70, 3, [12, 30, 1840]), (1433, .aload_n 0, 1, []), (1434, .bipush 8, 2, []), (1436, .newarray .int, 2, [0]), (1438, .putfield 73, 3, [12, 42, 1852]), (1441, .aload_n 0, 1, []), (1442, .bipush 8, 2, []), (1444, .newarray .int, 2, [0]), (1446, .putfield 76, 3, [12, 43, 1853]), (1449, .aload_n 0, 1, []), (1450, .bipush 8, 2, []), (1452, .newarray .int, 2, [0]), (1454, .putfield 79, 3, [12, 44, 1854]), (1457, .aload_n 0, 1, []), (1458, .sipush 240, 3, []), (1461, .newarray .int, 2, [0]), (1463, .putfield 82, 3, [12, 46, 1856]), (1466, .aload_n 0, 1, []), (1467, .sipush 240, 3, []), (1470, .newarray .int, 2, [0]), (1472, .putfield 85, 3, [12, 47, 1857]), (1475, .aload_n 0, 1, []), (1476, .sipush 240, 3, []), (1479, .newarray .int, 2, [0]), (1481, .putfield 88, 3, [12, 48, 1858]), (1484, .aload_n 0, 1, []), (1485, .sipush 240, 3, []), (1488, .newarray .int, 2, [0]), (1490, .putfield 91, 3, [12, 49, 1859]), (1493, .aload_n 0, 1, []), (1494, .sipush 240, 3, []), (1497, .newarray .boolean, 2, [3]), (1499, .putfield 94, 3, [12, 50, 1860]), (1502, .aload_n 0, 1, []), (1503, .sipush 1920, 3, []), (1506, .newarray .int, 2, [0]), (1508, .putfield 97, 3, [12, 51, 1861]), (1511, .aload_n 0, 1, []), (1512, .sipush 1920, 3, []), (1515, .newarray .boolean, 2, [3]), (1517, .putfield 100, 3, [12, 52, 1862]), (1520, .aload_n 0, 1, []), (1521, .sipush 1920, 3, []), (1524, .newarray .boolean, 2, [3]), (1526, .putfield 103, 3, [12, 53, 1863]), (1529, .aload_n 0, 1, []), (1530, .sipush 1920, 3, []), (1533, .newarray .int, 2, [0]), (1535, .putfield 106, 3, [12, 54, 1864]), (1538, .aload_n 0, 1, []), (1539, .sipush 1920, 3, []), (1542, .newarray .int, 2, [0]), (1544, .putfield 109, 3, [12, 55, 1865]), (1547, .aload_n 0, 1, []), (1548, .iconst (-1), 1, []), (1549, .putfield 112, 3, [12, 56, 1866]), (1552, .aload_n 0, 1, []), (1553, .sipush 6000, 3, []), (1556, .newarray .int, 2, [0]), (1558, .putfield 115, 3, [12, 58, 1868]), (1561, .aload_n 0, 1, []), (1562, .sipush 6000, 3, []), (1565, .newarray .int, 2, [0]), (1567, .putfield 118, 3, [12, 59, 1869]), (1570, .aload_n 0, 1, []), (1571, .sipush 6000, 3, []), (1574, .newarray .int, 2, [0]), (1576, .putfield 121, 3, [12, 60, 1870]), (1579, .aload_n 0, 1, []), (1580, .sipush 6000, 3, []), (1583, .newarray .int, 2, [0]), (1585, .putfield 124, 3, [12, 61, 1871]), (1588, .aload_n 0, 1, []), (1589, .sipush 4000, 3, []), (1592, .newarray .int, 2, [0]), (1594, .putfield 127, 3, [12, 64, 1874]), (1597, .aload_n 0, 1, []), (1598, .sipush 8000, 3, []), (1601, .newarray .int, 2, [0]), (1603, .putfield 130, 3, [12, 66, 1876]), (1606, .aload_n 0, 1, []), (1607, .sipush 2000, 3, []), (1610, .newarray .int, 2, [0]), (1612, .putfield 133, 3, [12, 68, 1878]), (1615, .aload_n 0, 1, []), (1616, .sipush 6000, 3, []), (1619, .newarray .int, 2, [0]), (1621, .putfield 136, 3, [12, 70, 1880]), (1624, .aload_n 0, 1, []), (1625, .sipush 6000, 3, []), (1628, .newarray .int, 2, [0]), (1630, .putfield 139, 3, [12, 71, 1881]), (1633, .aload_n 0, 1, []), (1634, .sipush 6000, 3, []), (1637, .newarray .int, 2, [0]), (1639, .putfield 142, 3, [12, 72, 1882]), (1642, .aload_n 0, 1, []), (1643, .sipush 6000, 3, []), (1646, .newarray .int, 2, [0]), (1648, .putfield 145, 3, [12, 73, 1883]), (1651, .aload_n 0, 1, []), (1652, .sipush 240, 3, []), (1655, .newarray .int, 2, [0]), (1657, .putfield 148, 3, [12, 74, 1884]), (1660, .aload_n 0, 1, []), (1661, .sipush 240, 3, []), (1664, .newarray .int, 2, [0]), (1666, .putfield 151, 3, [12, 75, 1885]), (1669, .aload_n 0, 1, []), (1670, .sipush 240, 3, []), (1673, .newarray .int, 2, [0]), (1675, .putfield 154, 3, [12, 76, 1886]), (1678, .aload_n 0, 1, []), (1679, .sipush 240, 3, []), (1682, .newarray .int, 2, [0]), (1684, .putfield 157, 3, [12, 77, 1887]), (1687, .aload_n 0, 1, []), (1688, .sipush 240, 3, []), (1691, .newarray .boolean, 2, [3]), (1693, .putfield 160, 3, [12, 78, 1888]), (1696, .aload_n 0, 1, []), (1697, .sipush 1500, 3, []), (1700, .newarray .int, 2, [0]), (1702, .putfield 163, 3, [12, 79, 1889]), (1705, .aload_n 0, 1, []), (1706, .sipush 1500, 3, []), (1709, .newarray .int, 2, [0]), (1711, .putfield 166, 3, [12, 80, 1890]), (1714, .aload_n 0, 1, []), (1715, .sipush 1500, 3, []), (1718, .newarray .int, 2, [0]), (1720, .putfield 169, 3, [12, 83, 1893]), (1723, .aload_n 0, 1, []), (1724, .sipush 3000, 3, []), (1727, .newarray .long, 2, [1]), (1729, .putfield 172, 3, [12, 85, 1895]), (1732, .aload_n 0, 1, []), (1733, .sipush 3000, 3, []), (1736, .newarray .boolean, 2, [3]), (1738, .putfield 175, 3, [12, 86, 1896]), (1741, .aload_n 0, 1, []), (1742, .sipush 200, 3, []), (1745, .newarray .int, 2, [0]), (1747, .putfield 178, 3, [12, 91, 1901]), (1750, .aload_n 0, 1, []), (1751, .sipush 200, 3, []), (1754, .newarray .int, 2, [0]), (1756, .putfield 181, 3, [12, 92, 1902]), (1759, .aload_n 0, 1, []), (1760, .sipush 200, 3, []), (1763, .newarray .int, 2, [0]), (1765, .putfield 184, 3, [12, 93, 1903]), (1768, .aload_n 0, 1, []), (1769, .sipush 200, 3, []), (1772, .newarray .int, 2, [0]), (1774, .putfield 187, 3, [12, 94, 1904]), (1777, .aload_n 0, 1, []), (1778, .sipush 200, 3, []), (1781, .newarray .int, 2, [0]), (1783, .putfield 190, 3, [12, 95, 1905]), (1786, .aload_n 0, 1, []), (1787, .ldc 193, 2, [0, 70000, 1785]), (1789, .newarray .long, 2, [1]), (1791, .putfield 194, 3, [12, 96, 1906]), (1794, .aload_n 0, 1, []), (1795, .iconst (-1), 1, []), (1796, .putfield 197, 3, [12, 102, 1912]), (1799, .iconst 0, 1, []), (1800, .istore_n 1, 1, []), (1801, .iconst 0, 1, []), (1802, .istore_n 2, 1, []), (1803, .iload_n 2, 1, []), (1804, .bipush 30, 2, []), (1806, .if_icmp .ge 34, 3, []), (1809, .aload_n 0, 1, []), (1810, .getfield 16, 3, [12, 2, 1812]), (1813, .iload_n 2, 1, []), (1814, .aload_n 0, 1, []), (1815, .getfield 7, 3, [12, 0, 1810]), (1818, .iload_n 1, 1, []), (1819, .invokestatic 200, 3, [23, 2, 1786]), (1822, .lastore, 1, []), (1823, .iload_n 1, 1, []), (1824, .aload_n 0, 1, []), (1825, .getfield 7, 3, [12, 0, 1810]), (1828, .iload_n 1, 1, []), (1829, .iaload, 1, []), (1830, .iadd, 1, []), (1831, .iconst 1, 1, []), (1832, .iadd, 1, []), (1833, .istore_n 1, 1, []), (1834, .iinc 2 1, 3, []), (1837, .goto (-34), 3, []), (1840, .iconst 0, 1, []), (1841, .istore_n 1, 1, []), (1842, .iconst 0, 1, []), (1843, .istore_n 2, 1, []), (1844, .iload_n 2, 1, []), (1845, .bipush 14, 2, []), (1847, .if_icmp .ge 91, 3, []), (1850, .aload_n 0, 1, []), (1851, .getfield 27, 3, [12, 16, 1826]), (1854, .iload_n 2, 1, []), (1855, .aload_n 0, 1, []), (1856, .getfield 13, 3, [12, 1, 1811]), (1859, .iload_n 1, 1, []), (1860, .invokestatic 200, 3, [23, 2, 1786]), (1863, .lastore, 1, []), (1864, .iload_n 1, 1, []), (1865, .aload_n 0, 1, []), (1866, .getfield 13, 3, [12, 1, 1811]), (1869, .iload_n 1, 1, []), (1870, .iaload, 1, []), (1871, .iadd, 1, []), (1872, .iconst 1, 1, []), (1873, .iadd, 1, []), (1874, .istore_n 1, 1, []), (1875, .aload_n 0, 1, []), (1876, .getfield 30, 3, [12, 17, 1827]), (1879, .iload_n 2, 1, []), (1880, .iload_n 2, 1, []), (1881, .iconst 3, 1, []), (1882, .if_icmp .ge 7, 3, []), (1885, .iconst 1, 1, []), (1886, .goto 13, 3, []), (1889, .iload_n 2, 1, []), (1890, .iconst 5, 1, []), (1891, .if_icmp .ge 7, 3, []), (1894, .iconst 0, 1, []), (1895, .goto 4, 3, []), (1898, .iconst 5, 1, []), (1899, .iastore, 1, []), (1900, .aload_n 0, 1, []), (1901, .getfield 40, 3, [12, 20, 1830]), (1904, .iload_n 2, 1, []), (1905, .iload_n 2, 1, []), (1906, .iconst 3, 1, []), (1907, .if_icmp .ge 7, 3, []), (1910, .iload_n 2, 1, []), (1911, .goto 4, 3, []), (1914, .iconst 2, 1, []), (1915, .iastore, 1, []), (1916, .aload_n 0, 1, []), (1917, .getfield 46, 3, [12, 22, 1832]), (1920, .iload_n 2, 1, []), (1921, .iload_n 2, 1, []), (1922, .iconst 4, 1, []), (1923, .if_icmp .ne 7, 3, []), (1926, .iconst 1, 1, []), (1927, .goto 4, 3, []), (1930, .iconst 0, 1, []), (1931, .iastore, 1, []), (1932, .iinc 2 1, 3, []), (1935, .goto (-91), 3, []), (1938, .aload_n 0, 1, []), (1939, .invokevirtual 204, 3, [24, 0, 12, 1790]), (1942, .aload_n 0, 1, []), (1943, .invokevirtual 207, 3, [28, 0, 12, 1806]), (1946, .return_, 1, [])]
abbrev cX12_packed : ByteArray := prog_14_method_3_code
def yX12_packed : MethodName := ⟨RX12, "packed", "([II)J"⟩
def rw_X12_packed : List RRow := [(0, .lconst 0, 1, []), (1, .lstore_n 2, 1, []), (2, .iconst 1, 1, []), (3, .istore 4, 2, []), (5, .iload 4, 2, []), (7, .aload_n 0, 1, []), (8, .iload_n 1, 1, []), (9, .iaload, 1, []), (10, .if_icmp .gt 23, 3, []), (13, .lload_n 2, 1, []), (14, .ldc2_w 213, 3, [37, 1789]), (17, .lmul, 1, []), (18, .aload_n 0, 1, []), (19, .iload_n 1, 1, []), (20, .iload 4, 2, []), (22, .iadd, 1, []), (23, .iaload, 1, []), (24, .i2l, 1, []), (25, .ladd, 1, []), (26, .lstore_n 2, 1, []), (27, .iinc 4 1, 3, []), (30, .goto (-25), 3, []), (33, .lload_n 2, 1, []), (34, .lreturn, 1, [])]
abbrev cX12_emptyProgram : ByteArray := prog_14_method_78_code
def yX12_emptyProgram : MethodName := ⟨RX12, "emptyProgram", "()V"⟩
def rw_X12_emptyProgram : List RRow := [(0, .aload_n 0, 1, []), (1, .invokevirtual 532, 3, [25, 0, 12, 1794]), (4, .aload_n 0, 1, []), (5, .getfield 82, 3, [12, 46, 1856]), (8, .iconst 0, 1, []), (9, .iconst 0, 1, []), (10, .iastore, 1, []), (11, .aload_n 0, 1, []), (12, .getfield 88, 3, [12, 48, 1858]), (15, .iconst 0, 1, []), (16, .iconst 4, 1, []), (17, .iastore, 1, []), (18, .aload_n 0, 1, []), (19, .bipush 19, 2, []), (21, .iconst 0, 1, []), (22, .invokevirtual 415, 3, [26, 2, 12, 1798]), (25, .return_, 1, [])]
abbrev cX12_beginProgram : ByteArray := prog_14_method_77_code
def yX12_beginProgram : MethodName := ⟨RX12, "beginProgram", "()V"⟩
def rw_X12_beginProgram : List RRow := [(0, .aload_n 0, 1, []), (1, .bipush 14, 2, []), (3, .putfield 289, 3, [12, 15, 1825]), (6, .aload_n 0, 1, []), (7, .iconst 1, 1, []), (8, .putfield 292, 3, [12, 41, 1851]), (11, .aload_n 0, 1, []), (12, .getfield 73, 3, [12, 42, 1852]), (15, .iconst 1, 1, []), (16, .bipush 14, 2, []), (18, .iastore, 1, []), (19, .aload_n 0, 1, []), (20, .getfield 76, 3, [12, 43, 1853]), (23, .iconst 1, 1, []), (24, .iconst 4, 1, []), (25, .iastore, 1, []), (26, .aload_n 0, 1, []), (27, .getfield 79, 3, [12, 44, 1854]), (30, .iconst 1, 1, []), (31, .iconst 0, 1, []), (32, .iastore, 1, []), (33, .aload_n 0, 1, []), (34, .getfield 85, 3, [12, 47, 1857]), (37, .iconst 0, 1, []), (38, .iconst 1, 1, []), (39, .iastore, 1, []), (40, .aload_n 0, 1, []), (41, .iconst 0, 1, []), (42, .putfield 400, 3, [12, 45, 1855]), (45, .aload_n 0, 1, []), (46, .iconst 0, 1, []), (47, .putfield 378, 3, [12, 57, 1867]), (50, .aload_n 0, 1, []), (51, .iconst 0, 1, []), (52, .putfield 385, 3, [12, 63, 1873]), (55, .aload_n 0, 1, []), (56, .iconst 0, 1, []), (57, .putfield 372, 3, [12, 65, 1875]), (60, .aload_n 0, 1, []), (61, .iconst 0, 1, []), (62, .putfield 375, 3, [12, 67, 1877]), (65, .aload_n 0, 1, []), (66, .iconst 0, 1, []), (67, .putfield 454, 3, [12, 69, 1879]), (70, .aload_n 0, 1, []), (71, .iconst (-1), 1, []), (72, .putfield 112, 3, [12, 56, 1866]), (75, .return_, 1, [])]
abbrev cX12_write1 : ByteArray := prog_14_method_38_code
def yX12_write1 : MethodName := ⟨RX12, "write1", "(II)V"⟩
def rw_X12_write1 : List RRow := [(0, .aload_n 0, 1, []), (1, .iload_n 1, 1, []), (2, .iload_n 2, 1, []), (3, .iconst 0, 1, []), (4, .iconst 0, 1, []), (5, .invokevirtual 381, 3, [27, 4, 12, 1802]), (8, .istore_n 3, 1, []), (9, .return_, 1, [])]
abbrev cX12_emit : ByteArray := prog_14_method_36_code
def yX12_emit : MethodName := ⟨RX12, "emit", "(IIII)I"⟩
def rw_X12_emit : List RRow := [(0, .aload_n 0, 1, []), (1, .getfield 115, 3, [12, 58, 1868]), (4, .aload_n 0, 1, []), (5, .getfield 378, 3, [12, 57, 1867]), (8, .iload_n 1, 1, []), (9, .iastore, 1, []), (10, .aload_n 0, 1, []), (11, .getfield 118, 3, [12, 59, 1869]), (14, .aload_n 0, 1, []), (15, .getfield 378, 3, [12, 57, 1867]), (18, .iload_n 2, 1, []), (19, .iastore, 1, []), (20, .aload_n 0, 1, []), (21, .getfield 121, 3, [12, 60, 1870]), (24, .aload_n 0, 1, []), (25, .getfield 378, 3, [12, 57, 1867]), (28, .iload_n 3, 1, []), (29, .iastore, 1, []), (30, .aload_n 0, 1, []), (31, .getfield 124, 3, [12, 61, 1871]), (34, .aload_n 0, 1, []), (35, .getfield 378, 3, [12, 57, 1867]), (38, .iload 4, 2, []), (40, .iastore, 1, []), (41, .aload_n 0, 1, []), (42, .dup, 1, []), (43, .getfield 378, 3, [12, 57, 1867]), (46, .iconst 1, 1, []), (47, .iadd, 1, []), (48, .putfield 378, 3, [12, 57, 1867]), (51, .aload_n 0, 1, []), (52, .getfield 378, 3, [12, 57, 1867]), (55, .iconst 1, 1, []), (56, .isub, 1, []), (57, .ireturn, 1, [])]
abbrev cX12_keepProgram : ByteArray := prog_14_method_82_code
def yX12_keepProgram : MethodName := ⟨RX12, "keepProgram", "()V"⟩
def rw_X12_keepProgram : List RRow := [(0, .iconst 0, 1, []), (1, .istore_n 1, 1, []), (2, .iload_n 1, 1, []), (3, .aload_n 0, 1, []), (4, .getfield 378, 3, [12, 57, 1867]), (7, .if_icmp .ge 57, 3, []), (10, .aload_n 0, 1, []), (11, .getfield 136, 3, [12, 70, 1880]), (14, .iload_n 1, 1, []), (15, .aload_n 0, 1, []), (16, .getfield 115, 3, [12, 58, 1868]), (19, .iload_n 1, 1, []), (20, .iaload, 1, []), (21, .iastore, 1, []), (22, .aload_n 0, 1, []), (23, .getfield 139, 3, [12, 71, 1881]), (26, .iload_n 1, 1, []), (27, .aload_n 0, 1, []), (28, .getfield 118, 3, [12, 59, 1869]), (31, .iload_n 1, 1, []), (32, .iaload, 1, []), (33, .iastore, 1, []), (34, .aload_n 0, 1, []), (35, .getfield 142, 3, [12, 72, 1882]), (38, .iload_n 1, 1, []), (39, .aload_n 0, 1, []), (40, .getfield 121, 3, [12, 60, 1870]), (43, .iload_n 1, 1, []), (44, .iaload, 1, []), (45, .iastore, 1, []), (46, .aload_n 0, 1, []), (47, .getfield 145, 3, [12, 73, 1883]), (50, .iload_n 1, 1, []), (51, .aload_n 0, 1, []), (52, .getfield 124, 3, [12, 61, 1871]), (55, .iload_n 1, 1, []), (56, .iaload, 1, []), (57, .iastore, 1, []), (58, .iinc 1 1, 3, []), (61, .goto (-59), 3, []), (64, .iconst 0, 1, []), (65, .istore_n 1, 1, []), (66, .iload_n 1, 1, []), (67, .aload_n 0, 1, []), (68, .getfield 400, 3, [12, 45, 1855]), (71, .if_icmp .gt 69, 3, []), (74, .aload_n 0, 1, []), (75, .getfield 148, 3, [12, 74, 1884]), (78, .iload_n 1, 1, []), (79, .aload_n 0, 1, []), (80, .getfield 82, 3, [12, 46, 1856]), (83, .iload_n 1, 1, []), (84, .iaload, 1, []), (85, .iastore, 1, []), (86, .aload_n 0, 1, []), (87, .getfield 151, 3, [12, 75, 1885]), (90, .iload_n 1, 1, []), (91, .aload_n 0, 1, []), (92, .getfield 85, 3, [12, 47, 1857]), (95, .iload_n 1, 1, []), (96, .iaload, 1, []), (97, .iastore, 1, []), (98, .aload_n 0, 1, []), (99, .getfield 154, 3, [12, 76, 1886]), (102, .iload_n 1, 1, []), (103, .aload_n 0, 1, []), (104, .getfield 88, 3, [12, 48, 1858]), (107, .iload_n 1, 1, []), (108, .iaload, 1, []), (109, .iastore, 1, []), (110, .aload_n 0, 1, []), (111, .getfield 157, 3, [12, 77, 1887]), (114, .iload_n 1, 1, []), (115, .aload_n 0, 1, []), (116, .getfield 91, 3, [12, 49, 1859]), (119, .iload_n 1, 1, []), (120, .iaload, 1, []), (121, .iastore, 1, []), (122, .aload_n 0, 1, []), (123, .getfield 160, 3, [12, 78, 1888]), (126, .iload_n 1, 1, []), (127, .aload_n 0, 1, []), (128, .getfield 94, 3, [12, 50, 1860]), (131, .iload_n 1, 1, []), (132, .baload, 1, []), (133, .bastore, 1, []), (134, .iinc 1 1, 3, []), (137, .goto (-71), 3, []), (140, .iconst 0, 1, []), (141, .istore_n 1, 1, []), (142, .iload_n 1, 1, []), (143, .sipush 1500, 3, []), (146, .if_icmp .ge 21, 3, []), (149, .aload_n 0, 1, []), (150, .getfield 163, 3, [12, 79, 1889]), (153, .iload_n 1, 1, []), (154, .aload_n 0, 1, []), (155, .getfield 20, 3, [12, 4, 1814]), (158, .iload_n 1, 1, []), (159, .iaload, 1, []), (160, .iastore, 1, []), (161, .iinc 1 1, 3, []), (164, .goto (-22), 3, []), (167, .return_, 1, [])]
abbrev cL_feed : ByteArray := method_3_code
def yL_feed : MethodName := ⟨RL, "feed", "(LTaggedPascal;IJ[J)I"⟩
def rw_L_feed : List RRow := [(0, .aload 4, 2, []), (2, .iconst 0, 1, []), (3, .aload_n 0, 1, []), (4, .iload_n 1, 1, []), (5, .lload_n 2, 1, []), (6, .invokevirtual 7, 3, [30, 2, 11, 1303]), (9, .i2l, 1, []), (10, .lastore, 1, []), (11, .goto 7, 3, []), (14, .astore 5, 2, []), (16, .iconst 1, 1, []), (17, .ireturn, 1, []), (18, .iconst 0, 1, []), (19, .ireturn, 1, [])]
abbrev cX11_feed : ByteArray := prog_1_method_2_code
def yX11_feed : MethodName := ⟨RX11, "feed", "(IJ)I"⟩
def rw_X11_feed : List RRow := [(0, .iload_n 1, 1, []), (1, .iconst 1, 1, []), (2, .if_icmp .lt 9, 3, []), (5, .iload_n 1, 1, []), (6, .bipush 8, 2, []), (8, .if_icmp .le 13, 3, []), (11, .new 64, 3, [7777, 1, 1307]), (14, .dup, 1, []), (15, .ldc 66, 2, []), (17, .invokespecial 68, 3, []), (20, .athrow, 1, []), (21, .aload_n 0, 1, []), (22, .getfield 10, 3, [11, 0, 675]), (25, .invokevirtual 71, 3, [33, 0, 8, 701]), (28, .iload_n 1, 1, []), (29, .iadd, 1, []), (30, .sipush 1500, 3, []), (33, .if_icmp .le 5, 3, []), (36, .iconst (-1), 1, []), (37, .ireturn, 1, []), (38, .iconst 0, 1, []), (39, .istore 4, 2, []), (41, .iload 4, 2, []), (43, .iload_n 1, 1, []), (44, .if_icmp .ge 25, 3, []), (47, .aload_n 0, 1, []), (48, .getfield 10, 3, [11, 0, 675]), (51, .lload_n 2, 1, []), (52, .bipush 8, 2, []), (54, .iload 4, 2, []), (56, .imul, 1, []), (57, .lushr, 1, []), (58, .l2i, 1, []), (59, .invokevirtual 75, 3, [34, 1, 8, 1323]), (62, .pop, 1, []), (63, .iinc 4 1, 3, []), (66, .goto (-25), 3, []), (69, .aload_n 0, 1, []), (70, .getfield 10, 3, [11, 0, 675]), (73, .invokevirtual 71, 3, [33, 0, 8, 701]), (76, .ireturn, 1, [])]
abbrev cX12_feed : ByteArray := prog_14_method_4_code
def yX12_feed : MethodName := ⟨RX12, "feed", "(IJ)I"⟩
def rw_X12_feed : List RRow := [(0, .aload_n 0, 1, []), (1, .iload_n 1, 1, []), (2, .iconst 1, 1, []), (3, .if_icmp .lt 9, 3, []), (6, .iload_n 1, 1, []), (7, .bipush 8, 2, []), (9, .if_icmp .le 7, 3, []), (12, .iconst 1, 1, []), (13, .goto 4, 3, []), (16, .iconst 0, 1, []), (17, .putfield 210, 3, [12, 3, 1813]), (20, .aload_n 0, 1, []), (21, .getfield 210, 3, [12, 3, 1813]), (24, .ifCond .le 5, 3, []), (27, .iconst 0, 1, []), (28, .ireturn, 1, []), (29, .aload_n 0, 1, []), (30, .getfield 215, 3, [12, 5, 1815]), (33, .iload_n 1, 1, []), (34, .iadd, 1, []), (35, .sipush 1500, 3, []), (38, .if_icmp .le 5, 3, []), (41, .iconst (-1), 1, []), (42, .ireturn, 1, []), (43, .iconst 0, 1, []), (44, .istore 4, 2, []), (46, .iload 4, 2, []), (48, .iload_n 1, 1, []), (49, .if_icmp .ge 40, 3, []), (52, .aload_n 0, 1, []), (53, .getfield 20, 3, [12, 4, 1814]), (56, .aload_n 0, 1, []), (57, .getfield 215, 3, [12, 5, 1815]), (60, .lload_n 2, 1, []), (61, .bipush 8, 2, []), (63, .iload 4, 2, []), (65, .imul, 1, []), (66, .lshr, 1, []), (67, .ldc2_w 218, 3, [255, 2128]), (70, .land, 1, []), (71, .l2i, 1, []), (72, .iastore, 1, []), (73, .aload_n 0, 1, []), (74, .dup, 1, []), (75, .getfield 215, 3, [12, 5, 1815]), (78, .iconst 1, 1, []), (79, .iadd, 1, []), (80, .putfield 215, 3, [12, 5, 1815]), (83, .iinc 4 1, 3, []), (86, .goto (-40), 3, []), (89, .aload_n 0, 1, []), (90, .getfield 215, 3, [12, 5, 1815]), (93, .ireturn, 1, [])]
abbrev cX12_thrown : ByteArray := prog_14_method_2_code
def yX12_thrown : MethodName := ⟨RX12, "thrown", "()I"⟩
def rw_X12_thrown : List RRow := [(0, .aload_n 0, 1, []), (1, .getfield 210, 3, [12, 3, 1813]), (4, .ireturn, 1, [])]
abbrev cX8_length : ByteArray := prog_10_method_2_code
def yX8_length : MethodName := ⟨RX8, "length", "()I"⟩
def rw_X8_length : List RRow := [(0, .aload_n 0, 1, []), (1, .getfield 15, 3, [8, 1, 224]), (4, .ireturn, 1, [])]
abbrev cX8_append : ByteArray := prog_10_method_4_code
def yX8_append : MethodName := ⟨RX8, "append", "(I)Z"⟩
def rw_X8_append : List RRow := [(0, .aload_n 0, 1, []), (1, .getfield 15, 3, [8, 1, 224]), (4, .aload_n 0, 1, []), (5, .getfield 9, 3, [8, 0, 223]), (8, .arraylength, 1, []), (9, .if_icmp .lt 5, 3, []), (12, .iconst 0, 1, []), (13, .ireturn, 1, []), (14, .aload_n 0, 1, []), (15, .getfield 9, 3, [8, 0, 223]), (18, .aload_n 0, 1, []), (19, .getfield 15, 3, [8, 1, 224]), (22, .iload_n 1, 1, []), (23, .i2b, 1, []), (24, .bastore, 1, []), (25, .aload_n 0, 1, []), (26, .dup, 1, []), (27, .getfield 15, 3, [8, 1, 224]), (30, .iconst 1, 1, []), (31, .iadd, 1, []), (32, .putfield 15, 3, [8, 1, 224]), (35, .iconst 1, 1, []), (36, .ireturn, 1, [])]
abbrev cX11_wipe : ByteArray := prog_1_method_3_code
def yX11_wipe : MethodName := ⟨RX11, "wipe", "()I"⟩
def rw_X11_wipe : List RRow := [(0, .aload_n 0, 1, []), (1, .getfield 10, 3, [11, 0, 675]), (4, .invokevirtual 71, 3, [33, 0, 8, 701]), (7, .istore_n 1, 1, []), (8, .aload_n 0, 1, []), (9, .getfield 10, 3, [11, 0, 675]), (12, .invokevirtual 79, 3, [36, 0, 8, 705]), (15, .iload_n 1, 1, []), (16, .ireturn, 1, [])]
abbrev cX8_clear : ByteArray := prog_10_method_5_code
def yX8_clear : MethodName := ⟨RX8, "clear", "()V"⟩
def rw_X8_clear : List RRow := [(0, .aload_n 0, 1, []), (1, .iconst 0, 1, []), (2, .putfield 15, 3, [8, 1, 224]), (5, .return_, 1, [])]
abbrev cX12_wipe : ByteArray := prog_14_method_5_code
def yX12_wipe : MethodName := ⟨RX12, "wipe", "()I"⟩
def rw_X12_wipe : List RRow := [(0, .aload_n 0, 1, []), (1, .iconst 0, 1, []), (2, .putfield 210, 3, [12, 3, 1813]), (5, .aload_n 0, 1, []), (6, .getfield 215, 3, [12, 5, 1815]), (9, .istore_n 1, 1, []), (10, .aload_n 0, 1, []), (11, .iconst 0, 1, []), (12, .putfield 215, 3, [12, 5, 1815]), (15, .iload_n 1, 1, []), (16, .ireturn, 1, [])]
abbrev cX11_compile : ByteArray := prog_1_method_4_code
def yX11_compile : MethodName := ⟨RX11, "compile", "()I"⟩
def rw_X11_compile : List RRow := [(0, .aload_n 0, 1, []), (1, .getfield 24, 3, [11, 2, 677]), (4, .invokevirtual 82, 3, [39, 0, 10, 714]), (7, .aload_n 0, 1, []), (8, .getfield 43, 3, [11, 5, 680]), (11, .invokevirtual 85, 3, [45, 0, 0, 850]), (14, .astore_n 1, 1, []), (15, .aload_n 0, 1, []), (16, .getfield 43, 3, [11, 5, 680]), (19, .aload_n 1, 1, []), (20, .invokevirtual 89, 3, [51, 1, 0, 876]), (23, .aload_n 0, 1, []), (24, .getfield 43, 3, [11, 5, 680]), (27, .aload_n 1, 1, []), (28, .invokevirtual 93, 3, []), (31, .goto 6, 3, []), (34, .astore_n 1, 1, []), (35, .iconst (-1), 1, []), (36, .ireturn, 1, []), (37, .aload_n 0, 1, []), (38, .getfield 35, 3, [11, 4, 679]), (41, .aload_n 0, 1, []), (42, .getfield 31, 3, [11, 3, 678]), (45, .invokevirtual 98, 3, []), (48, .aload_n 0, 1, []), (49, .getfield 35, 3, [11, 4, 679]), (52, .getfield 102, 3, [1, 5, 345]), (55, .ireturn, 1, [])]
abbrev cX10_scan : ByteArray := prog_12_method_5_code
def yX10_scan : MethodName := ⟨RX10, "scan", "()V"⟩
def rw_X10_scan : List RRow := [(0, .aload_n 0, 1, []), (1, .iconst 0, 1, []), (2, .putfield 59, 3, [10, 5, 301]), (5, .aload_n 0, 1, []), (6, .iconst 0, 1, []), (7, .putfield 62, 3, [10, 6, 302]), (10, .aload_n 0, 1, []), (11, .iconst (-1), 1, []), (12, .putfield 65, 3, [10, 7, 303]), (15, .aload_n 0, 1, []), (16, .iconst 0, 1, []), (17, .putfield 68, 3, [10, 8, 304]), (20, .aload_n 0, 1, []), (21, .iconst (-1), 1, []), (22, .putfield 25, 3, [10, 9, 305]), (25, .iconst 1, 1, []), (26, .istore_n 1, 1, []), (27, .iconst 0, 1, []), (28, .istore_n 2, 1, []), (29, .iload_n 2, 1, []), (30, .sipush 1500, 3, []), (33, .if_icmp .gt 49, 3, []), (36, .iload_n 1, 1, []), (37, .ifCond .eq 45, 3, []), (40, .aload_n 0, 1, []), (41, .invokevirtual 71, 3, [40, 0, 10, 718]), (44, .aload_n 0, 1, []), (45, .invokevirtual 74, 3, [42, 0, 10, 731]), (48, .aload_n 0, 1, []), (49, .getfield 62, 3, [10, 6, 302]), (52, .ifCond .le 22, 3, []), (55, .aload_n 0, 1, []), (56, .getfield 15, 3, [10, 1, 297]), (59, .aload_n 0, 1, []), (60, .getfield 62, 3, [10, 6, 302]), (63, .iconst 1, 1, []), (64, .isub, 1, []), (65, .iaload, 1, []), (66, .iconst 1, 1, []), (67, .if_icmp .le 7, 3, []), (70, .iconst 1, 1, []), (71, .goto 4, 3, []), (74, .iconst 0, 1, []), (75, .istore_n 1, 1, []), (76, .iinc 2 1, 3, []), (79, .goto (-50), 3, []), (82, .aload_n 0, 1, []), (83, .invokevirtual 77, 3, [44, 0, 10, 776]), (86, .return_, 1, [])]
abbrev cX10_skipBlanks : ByteArray := prog_12_method_6_code
def yX10_skipBlanks : MethodName := ⟨RX10, "skipBlanks", "()V"⟩
def rw_X10_skipBlanks : List RRow := [(0, .iconst 1, 1, []), (1, .istore_n 1, 1, []), (2, .iconst 0, 1, []), (3, .istore_n 2, 1, []), (4, .iload_n 2, 1, []), (5, .sipush 1500, 3, []), (8, .if_icmp .gt 96, 3, []), (11, .iload_n 1, 1, []), (12, .ifCond .eq 92, 3, []), (15, .aload_n 0, 1, []), (16, .getfield 29, 3, [10, 4, 300]), (19, .aload_n 0, 1, []), (20, .getfield 59, 3, [10, 5, 301]), (23, .i2l, 1, []), (24, .invokevirtual 80, 3, [41, 1, 8, 722]), (27, .istore_n 3, 1, []), (28, .iload_n 3, 1, []), (29, .bipush 123, 2, []), (31, .if_icmp .ne 41, 3, []), (34, .aload_n 0, 1, []), (35, .invokevirtual 86, 3, []), (38, .istore 4, 2, []), (40, .iload 4, 2, []), (42, .iconst (-1), 1, []), (43, .if_icmp .eq 7, 3, []), (46, .iconst 1, 1, []), (47, .goto 4, 3, []), (50, .iconst 0, 1, []), (51, .istore_n 1, 1, []), (52, .aload_n 0, 1, []), (53, .iload_n 1, 1, []), (54, .ifCond .eq 8, 3, []), (57, .iload 4, 2, []), (59, .goto 7, 3, []), (62, .aload_n 0, 1, []), (63, .getfield 59, 3, [10, 5, 301]), (66, .putfield 59, 3, [10, 5, 301]), (69, .goto 29, 3, []), (72, .iload_n 3, 1, []), (73, .iconst (-1), 1, []), (74, .if_icmp .eq 22, 3, []), (77, .iload_n 3, 1, []), (78, .bipush 32, 2, []), (80, .if_icmp .gt 16, 3, []), (83, .aload_n 0, 1, []), (84, .dup, 1, []), (85, .getfield 59, 3, [10, 5, 301]), (88, .iconst 1, 1, []), (89, .iadd, 1, []), (90, .putfield 59, 3, [10, 5, 301]), (93, .goto 5, 3, []), (96, .iconst 0, 1, []), (97, .istore_n 1, 1, []), (98, .iinc 2 1, 3, []), (101, .goto (-97), 3, []), (104, .return_, 1, [])]
abbrev cX8_at : ByteArray := prog_10_method_3_code
def yX8_at : MethodName := ⟨RX8, "at", "(J)I"⟩
def rw_X8_at : List RRow := [(0, .lload_n 1, 1, []), (1, .lconst 0, 1, []), (2, .lcmp, 1, []), (3, .ifCond .lt 13, 3, []), (6, .lload_n 1, 1, []), (7, .aload_n 0, 1, []), (8, .getfield 15, 3, [8, 1, 224]), (11, .i2l, 1, []), (12, .lcmp, 1, []), (13, .ifCond .lt 7, 3, []), (16, .iconst (-1), 1, []), (17, .goto 14, 3, []), (20, .aload_n 0, 1, []), (21, .getfield 9, 3, [8, 0, 223]), (24, .lload_n 1, 1, []), (25, .l2i, 1, []), (26, .baload, 1, []), (27, .sipush 255, 3, []), (30, .iand, 1, []), (31, .ireturn, 1, [])]
abbrev cX10_scanWord : ByteArray := prog_12_method_8_code
def yX10_scanWord : MethodName := ⟨RX10, "scanWord", "()V"⟩
def rw_X10_scanWord : List RRow := [(0, .aload_n 0, 1, []), (1, .getfield 29, 3, [10, 4, 300]), (4, .aload_n 0, 1, []), (5, .getfield 59, 3, [10, 5, 301]), (8, .i2l, 1, []), (9, .invokevirtual 80, 3, [41, 1, 8, 722]), (12, .istore_n 1, 1, []), (13, .iload_n 1, 1, []), (14, .iconst (-1), 1, []), (15, .if_icmp .ne 16, 3, []), (18, .aload_n 0, 1, []), (19, .iconst 0, 1, []), (20, .aload_n 0, 1, []), (21, .getfield 59, 3, [10, 5, 301]), (24, .lconst 0, 1, []), (25, .invokevirtual 90, 3, [43, 3, 10, 735]), (28, .goto 49, 3, []), (31, .iload_n 1, 1, []), (32, .invokestatic 55, 3, []), (35, .ifCond .eq 10, 3, []), (38, .aload_n 0, 1, []), (39, .invokevirtual 94, 3, []), (42, .goto 35, 3, []), (45, .iload_n 1, 1, []), (46, .invokestatic 51, 3, [10, 1, 290]), (49, .ifCond .le 10, 3, []), (52, .aload_n 0, 1, []), (53, .invokevirtual 97, 3, []), (56, .goto 21, 3, []), (59, .iload_n 1, 1, []), (60, .bipush 39, 2, []), (62, .if_icmp .ne 10, 3, []), (65, .aload_n 0, 1, []), (66, .invokevirtual 100, 3, []), (69, .goto 8, 3, []), (72, .aload_n 0, 1, []), (73, .iload_n 1, 1, []), (74, .invokevirtual 103, 3, []), (77, .return_, 1, [])]
abbrev cX10_add : ByteArray := prog_12_method_9_code
def yX10_add : MethodName := ⟨RX10, "add", "(IIJ)V"⟩
def rw_X10_add : List RRow := [(0, .aload_n 0, 1, []), (1, .getfield 62, 3, [10, 6, 302]), (4, .aload_n 0, 1, []), (5, .getfield 15, 3, [10, 1, 297]), (8, .arraylength, 1, []), (9, .if_icmp .ge 43, 3, []), (12, .aload_n 0, 1, []), (13, .getfield 15, 3, [10, 1, 297]), (16, .aload_n 0, 1, []), (17, .getfield 62, 3, [10, 6, 302]), (20, .iload_n 1, 1, []), (21, .iastore, 1, []), (22, .aload_n 0, 1, []), (23, .getfield 19, 3, [10, 2, 298]), (26, .aload_n 0, 1, []), (27, .getfield 62, 3, [10, 6, 302]), (30, .iload_n 2, 1, []), (31, .iastore, 1, []), (32, .aload_n 0, 1, []), (33, .getfield 22, 3, [10, 3, 299]), (36, .aload_n 0, 1, []), (37, .getfield 62, 3, [10, 6, 302]), (40, .lload_n 3, 1, []), (41, .lastore, 1, []), (42, .aload_n 0, 1, []), (43, .dup, 1, []), (44, .getfield 62, 3, [10, 6, 302]), (47, .iconst 1, 1, []), (48, .iadd, 1, []), (49, .putfield 62, 3, [10, 6, 302]), (52, .return_, 1, [])]
abbrev cX10_next : ByteArray := prog_12_method_25_code
def yX10_next : MethodName := ⟨RX10, "next", "()V"⟩
def rw_X10_next : List RRow := [(0, .aload_n 0, 1, []), (1, .getfield 65, 3, [10, 7, 303]), (4, .aload_n 0, 1, []), (5, .getfield 62, 3, [10, 6, 302]), (8, .if_icmp .ge 13, 3, []), (11, .aload_n 0, 1, []), (12, .dup, 1, []), (13, .getfield 65, 3, [10, 7, 303]), (16, .iconst 1, 1, []), (17, .iadd, 1, []), (18, .putfield 65, 3, [10, 7, 303]), (21, .aload_n 0, 1, []), (22, .getfield 65, 3, [10, 7, 303]), (25, .ifCond .lt 41, 3, []), (28, .aload_n 0, 1, []), (29, .getfield 65, 3, [10, 7, 303]), (32, .aload_n 0, 1, []), (33, .getfield 62, 3, [10, 6, 302]), (36, .if_icmp .ge 30, 3, []), (39, .aload_n 0, 1, []), (40, .getfield 15, 3, [10, 1, 297]), (43, .aload_n 0, 1, []), (44, .getfield 65, 3, [10, 7, 303]), (47, .iaload, 1, []), (48, .iconst 1, 1, []), (49, .if_icmp .ne 17, 3, []), (52, .aload_n 0, 1, []), (53, .aload_n 0, 1, []), (54, .getfield 22, 3, [10, 3, 299]), (57, .aload_n 0, 1, []), (58, .getfield 65, 3, [10, 7, 303]), (61, .laload, 1, []), (62, .l2i, 1, []), (63, .invokevirtual 145, 3, [61, 1, 10, 780]), (66, .return_, 1, [])]
abbrev cX0_begin : ByteArray := prog_2_method_2_code
def yX0_begin : MethodName := ⟨RX0, "begin", "()LTaggedPascal$Routine;"⟩
def rw_X0_begin : List RRow := [(0, .aload_n 0, 1, []), (1, .getfield 12, 3, [0, 2, 575]), (4, .invokevirtual 44, 3, [46, 0, 5, 854]), (7, .aload_n 0, 1, []), (8, .getfield 40, 3, [0, 4, 577]), (11, .invokevirtual 47, 3, [47, 0, 7, 858]), (14, .aload_n 0, 1, []), (15, .getfield 22, 3, [0, 1, 574]), (18, .invokevirtual 50, 3, [48, 0, 1, 862]), (21, .aload_n 0, 1, []), (22, .getfield 12, 3, [0, 2, 575]), (25, .invokevirtual 55, 3, [49, 0, 5, 866]), (28, .pop, 1, []), (29, .new 59, 3, [6, 870]), (32, .dup, 1, []), (33, .aload_n 0, 1, []), (34, .getfield 12, 3, [0, 2, 575]), (37, .invokevirtual 61, 3, [50, 0, 5, 871]), (40, .aload_n 0, 1, []), (41, .getfield 12, 3, [0, 2, 575]), (44, .getfield 64, 3, [5, 0, 501]), (47, .invokespecial 68, 3, [15, 2, 6, 875]), (50, .areturn, 1, [])]
abbrev cX5_forgetAll : ByteArray := prog_7_method_3_code
def yX5_forgetAll : MethodName := ⟨RX5, "forgetAll", "()V"⟩
def rw_X5_forgetAll : List RRow := [(0, .aload_n 0, 1, []), (1, .bipush 14, 2, []), (3, .putfield 48, 3, [5, 6, 507]), (6, .aload_n 0, 1, []), (7, .bipush 14, 2, []), (9, .putfield 52, 3, [5, 7, 508]), (12, .aload_n 0, 1, []), (13, .iconst 0, 1, []), (14, .putfield 80, 3, [5, 8, 509]), (17, .return_, 1, [])]
abbrev cX7_forgetLabels : ByteArray := prog_9_method_2_code
def yX7_forgetLabels : MethodName := ⟨RX7, "forgetLabels", "()V"⟩
def rw_X7_forgetLabels : List RRow := [(0, .aload_n 0, 1, []), (1, .iconst 0, 1, []), (2, .putfield 31, 3, [7, 5, 559]), (5, .return_, 1, [])]
abbrev cX1_clear : ByteArray := prog_3_method_3_code
def yX1_clear : MethodName := ⟨RX1, "clear", "()V"⟩
def rw_X1_clear : List RRow := [(0, .aload_n 0, 1, []), (1, .iconst 0, 1, []), (2, .putfield 22, 3, [1, 2, 337]), (5, .aload_n 0, 1, []), (6, .iconst (-1), 1, []), (7, .putfield 18, 3, [1, 3, 338]), (10, .aload_n 0, 1, []), (11, .iconst 0, 1, []), (12, .putfield 25, 3, [1, 5, 344]), (15, .return_, 1, [])]
abbrev cX5_openBlock : ByteArray := prog_7_method_6_code
def yX5_openBlock : MethodName := ⟨RX5, "openBlock", "()I"⟩
def rw_X5_openBlock : List RRow := [(0, .aload_n 0, 1, []), (1, .getfield 52, 3, [5, 7, 508]), (4, .istore_n 1, 1, []), (5, .aload_n 0, 1, []), (6, .aload_n 0, 1, []), (7, .getfield 48, 3, [5, 6, 507]), (10, .putfield 52, 3, [5, 7, 508]), (13, .aload_n 0, 1, []), (14, .dup, 1, []), (15, .getfield 80, 3, [5, 8, 509]), (18, .iconst 1, 1, []), (19, .iadd, 1, []), (20, .putfield 80, 3, [5, 8, 509]), (23, .iload_n 1, 1, []), (24, .ireturn, 1, [])]
abbrev cX5_level : ByteArray := prog_7_method_4_code
def yX5_level : MethodName := ⟨RX5, "level", "()I"⟩
def rw_X5_level : List RRow := [(0, .aload_n 0, 1, []), (1, .getfield 80, 3, [5, 8, 509]), (4, .ireturn, 1, [])]
abbrev cX0_block : ByteArray := prog_2_method_4_code
def yX0_block : MethodName := ⟨RX0, "block", "(LTaggedPascal$Routine;)V"⟩
def rw_X0_block : List RRow := [(0, .aload_n 1, 1, []), (1, .aload_n 0, 1, []), (2, .getfield 22, 3, [0, 1, 574]), (5, .invokevirtual 94, 3, [52, 0, 1, 880]), (8, .putfield 97, 3, [6, 5, 425]), (11, .aload_n 0, 1, []), (12, .getfield 22, 3, [0, 1, 574]), (15, .iconst 2, 1, []), (16, .iconst (-1), 1, []), (17, .invokevirtual 100, 3, [53, 2, 1, 884]), (20, .istore_n 2, 1, []), (21, .aload_n 0, 1, []), (22, .invokevirtual 104, 3, [54, 0, 0, 889]), (25, .aload_n 0, 1, []), (26, .invokevirtual 107, 3, [57, 0, 0, 978]), (29, .aload_n 0, 1, []), (30, .aload_n 1, 1, []), (31, .invokevirtual 110, 3, [58, 1, 0, 1010]), (34, .iconst 0, 1, []), (35, .istore_n 3, 1, []), (36, .iload_n 3, 1, []), (37, .sipush 1500, 3, []), (40, .if_icmp .ge 20, 3, []), (43, .aload_n 0, 1, []), (44, .invokevirtual 114, 3, [59, 0, 0, 1029]), (47, .ifCond .eq 13, 3, []), (50, .aload_n 0, 1, []), (51, .invokevirtual 118, 3, []), (54, .iinc 3 1, 3, []), (57, .goto (-21), 3, []), (60, .aload_n 0, 1, []), (61, .getfield 18, 3, [0, 0, 573]), (64, .bipush 29, 2, []), (66, .invokevirtual 73, 3, [60, 1, 10, 929]), (69, .aload_n 0, 1, []), (70, .getfield 22, 3, [0, 1, 574]), (73, .iload_n 2, 1, []), (74, .invokevirtual 121, 3, []), (77, .aload_n 0, 1, []), (78, .getfield 40, 3, [0, 4, 577]), (81, .iconst 1, 1, []), (82, .invokevirtual 124, 3, []), (85, .aload_n 0, 1, []), (86, .getfield 18, 3, [0, 0, 573]), (89, .bipush 30, 2, []), (91, .invokevirtual 73, 3, [60, 1, 10, 929]), (94, .return_, 1, [])]
abbrev cX1_length : ByteArray := prog_3_method_2_code
def yX1_length : MethodName := ⟨RX1, "length", "()I"⟩
def rw_X1_length : List RRow := [(0, .aload_n 0, 1, []), (1, .getfield 22, 3, [1, 2, 337]), (4, .ireturn, 1, [])]
abbrev cX1_emitAimless : ByteArray := prog_3_method_7_code
def yX1_emitAimless : MethodName := ⟨RX1, "emitAimless", "(II)I"⟩
def rw_X1_emitAimless : List RRow := [(0, .aload_n 0, 1, []), (1, .iload_n 1, 1, []), (2, .invokevirtual 34, 3, [21, 1, 1, 888]), (5, .aload_n 0, 1, []), (6, .iload_n 2, 1, []), (7, .invokevirtual 34, 3, [21, 1, 1, 888]), (10, .aload_n 0, 1, []), (11, .getfield 22, 3, [1, 2, 337]), (14, .iconst 1, 1, []), (15, .isub, 1, []), (16, .ireturn, 1, [])]
abbrev cX0_constants : ByteArray := prog_2_method_7_code
def yX0_constants : MethodName := ⟨RX0, "constants", "()V"⟩
def rw_X0_constants : List RRow := [(0, .aload_n 0, 1, []), (1, .getfield 18, 3, [0, 0, 573]), (4, .bipush 24, 2, []), (6, .invokevirtual 145, 3, [55, 1, 10, 893]), (9, .istore_n 1, 1, []), (10, .iconst 0, 1, []), (11, .istore_n 2, 1, []), (12, .iload_n 2, 1, []), (13, .sipush 1500, 3, []), (16, .if_icmp .ge 72, 3, []), (19, .iload_n 1, 1, []), (20, .ifCond .eq 68, 3, []), (23, .aload_n 0, 1, []), (24, .iconst 0, 1, []), (25, .invokevirtual 148, 3, []), (28, .astore_n 3, 1, []), (29, .aload_n 0, 1, []), (30, .getfield 18, 3, [0, 0, 573]), (33, .bipush 8, 2, []), (35, .invokevirtual 73, 3, [60, 1, 10, 929]), (38, .aload_n 0, 1, []), (39, .getfield 31, 3, [0, 3, 576]), (42, .invokevirtual 151, 3, []), (45, .istore 4, 2, []), (47, .aload_n 0, 1, []), (48, .getfield 18, 3, [0, 0, 573]), (51, .bipush 19, 2, []), (53, .invokevirtual 73, 3, [60, 1, 10, 929]), (56, .aload_n 0, 1, []), (57, .getfield 12, 3, [0, 2, 575]), (60, .aload_n 3, 1, []), (61, .iload 4, 2, []), (63, .aload_n 0, 1, []), (64, .getfield 31, 3, [0, 3, 576]), (67, .invokevirtual 154, 3, []), (70, .invokevirtual 157, 3, []), (73, .aload_n 0, 1, []), (74, .getfield 18, 3, [0, 0, 573]), (77, .iconst 2, 1, []), (78, .invokevirtual 77, 3, [56, 1, 10, 905]), (81, .istore_n 1, 1, []), (82, .iinc 2 1, 3, []), (85, .goto (-73), 3, []), (88, .return_, 1, [])]
abbrev cX10_takeIf : ByteArray := prog_12_method_27_code
def yX10_takeIf : MethodName := ⟨RX10, "takeIf", "(I)Z"⟩
def rw_X10_takeIf : List RRow := [(0, .aload_n 0, 1, []), (1, .iload_n 1, 1, []), (2, .invokevirtual 136, 3, [56, 1, 10, 897]), (5, .istore_n 2, 1, []), (6, .iload_n 2, 1, []), (7, .ifCond .eq 7, 3, []), (10, .aload_n 0, 1, []), (11, .invokevirtual 77, 3, [44, 0, 10, 776]), (14, .iload_n 2, 1, []), (15, .ireturn, 1, [])]
abbrev cX10_is : ByteArray := prog_12_method_19_code
def yX10_is : MethodName := ⟨RX10, "is", "(I)Z"⟩
def rw_X10_is : List RRow := [(0, .aload_n 0, 1, []), (1, .getfield 65, 3, [10, 7, 303]), (4, .ifCond .lt 31, 3, []), (7, .aload_n 0, 1, []), (8, .getfield 65, 3, [10, 7, 303]), (11, .aload_n 0, 1, []), (12, .getfield 62, 3, [10, 6, 302]), (15, .if_icmp .ge 20, 3, []), (18, .aload_n 0, 1, []), (19, .getfield 15, 3, [10, 1, 297]), (22, .aload_n 0, 1, []), (23, .getfield 65, 3, [10, 7, 303]), (26, .iaload, 1, []), (27, .iload_n 1, 1, []), (28, .if_icmp .ne 7, 3, []), (31, .iconst 1, 1, []), (32, .goto 4, 3, []), (35, .iconst 0, 1, []), (36, .ireturn, 1, [])]
abbrev cX0_types : ByteArray := prog_2_method_8_code
def yX0_types : MethodName := ⟨RX0, "types", "()V"⟩
def rw_X0_types : List RRow := [(0, .aload_n 0, 1, []), (1, .getfield 18, 3, [0, 0, 573]), (4, .bipush 25, 2, []), (6, .invokevirtual 145, 3, [55, 1, 10, 893]), (9, .istore_n 1, 1, []), (10, .iconst 0, 1, []), (11, .istore_n 2, 1, []), (12, .iload_n 2, 1, []), (13, .sipush 1500, 3, []), (16, .if_icmp .ge 59, 3, []), (19, .iload_n 1, 1, []), (20, .ifCond .eq 55, 3, []), (23, .aload_n 0, 1, []), (24, .iconst 0, 1, []), (25, .invokevirtual 148, 3, []), (28, .astore_n 3, 1, []), (29, .aload_n 0, 1, []), (30, .getfield 18, 3, [0, 0, 573]), (33, .bipush 8, 2, []), (35, .invokevirtual 73, 3, [60, 1, 10, 929]), (38, .aload_n 3, 1, []), (39, .aload_n 0, 1, []), (40, .invokevirtual 161, 3, []), (43, .putfield 165, 3, [4, 2, 465]), (46, .aload_n 0, 1, []), (47, .getfield 18, 3, [0, 0, 573]), (50, .bipush 19, 2, []), (52, .invokevirtual 73, 3, [60, 1, 10, 929]), (55, .aload_n 3, 1, []), (56, .iconst 3, 1, []), (57, .putfield 169, 3, [4, 1, 461]), (60, .aload_n 0, 1, []), (61, .getfield 18, 3, [0, 0, 573]), (64, .iconst 2, 1, []), (65, .invokevirtual 77, 3, [56, 1, 10, 905]), (68, .istore_n 1, 1, []), (69, .iinc 2 1, 3, []), (72, .goto (-60), 3, []), (75, .return_, 1, [])]
abbrev cX0_variables : ByteArray := prog_2_method_9_code
def yX0_variables : MethodName := ⟨RX0, "variables", "(LTaggedPascal$Routine;)V"⟩
def rw_X0_variables : List RRow := [(0, .aload_n 0, 1, []), (1, .getfield 18, 3, [0, 0, 573]), (4, .bipush 26, 2, []), (6, .invokevirtual 145, 3, [55, 1, 10, 893]), (9, .istore_n 2, 1, []), (10, .iconst 0, 1, []), (11, .istore_n 3, 1, []), (12, .iload_n 3, 1, []), (13, .sipush 1500, 3, []), (16, .if_icmp .ge 106, 3, []), (19, .iload_n 2, 1, []), (20, .ifCond .eq 102, 3, []), (23, .aload_n 0, 1, []), (24, .getfield 12, 3, [0, 2, 575]), (27, .invokevirtual 172, 3, []), (30, .istore 4, 2, []), (32, .aload_n 0, 1, []), (33, .iconst 0, 1, []), (34, .invokevirtual 148, 3, []), (37, .pop, 1, []), (38, .iconst 0, 1, []), (39, .istore 5, 2, []), (41, .iload 5, 2, []), (43, .sipush 1500, 3, []), (46, .if_icmp .ge 27, 3, []), (49, .aload_n 0, 1, []), (50, .getfield 18, 3, [0, 0, 573]), (53, .bipush 18, 2, []), (55, .invokevirtual 145, 3, [55, 1, 10, 893]), (58, .ifCond .eq 15, 3, []), (61, .aload_n 0, 1, []), (62, .iconst 0, 1, []), (63, .invokevirtual 148, 3, []), (66, .pop, 1, []), (67, .iinc 5 1, 3, []), (70, .goto (-29), 3, []), (73, .aload_n 0, 1, []), (74, .getfield 18, 3, [0, 0, 573]), (77, .bipush 20, 2, []), (79, .invokevirtual 73, 3, [60, 1, 10, 929]), (82, .aload_n 0, 1, []), (83, .invokevirtual 161, 3, []), (86, .astore 5, 2, []), (88, .aload_n 0, 1, []), (89, .getfield 18, 3, [0, 0, 573]), (92, .bipush 19, 2, []), (94, .invokevirtual 73, 3, [60, 1, 10, 929]), (97, .aload_n 0, 1, []), (98, .aload_n 1, 1, []), (99, .iload 4, 2, []), (101, .aload 5, 2, []), (103, .iconst 0, 1, []), (104, .invokevirtual 175, 3, []), (107, .aload_n 0, 1, []), (108, .getfield 18, 3, [0, 0, 573]), (111, .iconst 2, 1, []), (112, .invokevirtual 77, 3, [56, 1, 10, 905]), (115, .istore_n 2, 1, []), (116, .iinc 3 1, 3, []), (119, .goto (-107), 3, []), (122, .return_, 1, [])]
abbrev cX0_isRoutine : ByteArray := prog_2_method_5_code
def yX0_isRoutine : MethodName := ⟨RX0, "isRoutine", "()Z"⟩
def rw_X0_isRoutine : List RRow := [(0, .aload_n 0, 1, []), (1, .getfield 18, 3, [0, 0, 573]), (4, .bipush 27, 2, []), (6, .invokevirtual 77, 3, [56, 1, 10, 905]), (9, .ifCond .ne 15, 3, []), (12, .aload_n 0, 1, []), (13, .getfield 18, 3, [0, 0, 573]), (16, .bipush 28, 2, []), (18, .invokevirtual 77, 3, [56, 1, 10, 905]), (21, .ifCond .eq 7, 3, []), (24, .iconst 1, 1, []), (25, .goto 4, 3, []), (28, .iconst 0, 1, []), (29, .ireturn, 1, [])]
abbrev cX10_take : ByteArray := prog_12_method_26_code
def yX10_take : MethodName := ⟨RX10, "take", "(I)V"⟩
def rw_X10_take : List RRow := [(0, .aload_n 0, 1, []), (1, .iload_n 1, 1, []), (2, .invokevirtual 136, 3, [56, 1, 10, 897]), (5, .ifCond .ne 8, 3, []), (8, .aload_n 0, 1, []), (9, .iconst 1, 1, []), (10, .invokevirtual 145, 3, [61, 1, 10, 780]), (13, .aload_n 0, 1, []), (14, .invokevirtual 77, 3, [44, 0, 10, 776]), (17, .return_, 1, [])]
abbrev cX10_fail : ByteArray := prog_12_method_29_code
def yX10_fail : MethodName := ⟨RX10, "fail", "(I)V"⟩
def rw_X10_fail : List RRow := [(0, .aload_n 0, 1, []), (1, .iload_n 1, 1, []), (2, .putfield 68, 3, [10, 8, 304]), (5, .aload_n 0, 1, []), (6, .aload_n 0, 1, []), (7, .getfield 65, 3, [10, 7, 303]), (10, .ifCond .lt 26, 3, []), (13, .aload_n 0, 1, []), (14, .getfield 65, 3, [10, 7, 303]), (17, .aload_n 0, 1, []), (18, .getfield 62, 3, [10, 6, 302]), (21, .if_icmp .ge 15, 3, []), (24, .aload_n 0, 1, []), (25, .getfield 19, 3, [10, 2, 298]), (28, .aload_n 0, 1, []), (29, .getfield 65, 3, [10, 7, 303]), (32, .iaload, 1, []), (33, .goto 4, 3, []), (36, .iconst (-1), 1, []), (37, .putfield 25, 3, [10, 9, 305]), (40, .new 148, 3, [7777, 2, 784]), (43, .dup, 1, []), (44, .ldc 150, 2, []), (46, .invokespecial 152, 3, []), (49, .athrow, 1, [])]
abbrev cX12_compile : ByteArray := prog_14_method_79_code
def yX12_compile : MethodName := ⟨RX12, "compile", "()I"⟩
def rw_X12_compile : List RRow := [(0, .aload_n 0, 1, []), (1, .iconst 0, 1, []), (2, .putfield 210, 3, [12, 3, 1813]), (5, .aload_n 0, 1, []), (6, .iconst 0, 1, []), (7, .putfield 220, 3, [12, 6, 1816]), (10, .aload_n 0, 1, []), (11, .iconst (-1), 1, []), (12, .putfield 23, 3, [12, 7, 1817]), (15, .aload_n 0, 1, []), (16, .iconst 0, 1, []), (17, .putfield 223, 3, [12, 8, 1818]), (20, .aload_n 0, 1, []), (21, .invokevirtual 532, 3, [25, 0, 12, 1794]), (24, .aload_n 0, 1, []), (25, .invokevirtual 286, 3, [63, 0, 12, 2137]), (28, .aload_n 0, 1, []), (29, .bipush 52, 2, []), (31, .invokevirtual 397, 3, [66, 1, 12, 2182]), (34, .aload_n 0, 1, []), (35, .iconst 1, 1, []), (36, .invokevirtual 397, 3, [66, 1, 12, 2182]), (39, .aload_n 0, 1, []), (40, .getfield 372, 3, [12, 65, 1875]), (43, .ifCond .le 36, 3, []), (46, .aload_n 0, 1, []), (47, .getfield 220, 3, [12, 6, 1816]), (50, .ifCond .ne 29, 3, []), (53, .aload_n 0, 1, []), (54, .dup, 1, []), (55, .getfield 372, 3, [12, 65, 1875]), (58, .iconst 1, 1, []), (59, .isub, 1, []), (60, .putfield 372, 3, [12, 65, 1875]), (63, .aload_n 0, 1, []), (64, .aload_n 0, 1, []), (65, .getfield 127, 3, [12, 64, 1874]), (68, .aload_n 0, 1, []), (69, .getfield 372, 3, [12, 65, 1875]), (72, .iaload, 1, []), (73, .invokevirtual 535, 3, [67, 1, 12, 2186]), (76, .goto (-37), 3, []), (79, .aload_n 0, 1, []), (80, .getfield 220, 3, [12, 6, 1816]), (83, .ifCond .le 5, 3, []), (86, .iconst (-1), 1, []), (87, .ireturn, 1, []), (88, .aload_n 0, 1, []), (89, .invokevirtual 207, 3, [28, 0, 12, 1806]), (92, .aload_n 0, 1, []), (93, .getfield 400, 3, [12, 45, 1855]), (96, .ireturn, 1, [])]
abbrev cX12_take : ByteArray := prog_14_method_16_code
def yX12_take : MethodName := ⟨RX12, "take", "()V"⟩
def rw_X12_take : List RRow := [(0, .aload_n 0, 1, []), (1, .invokevirtual 271, 3, [64, 0, 12, 2141]), (4, .aload_n 0, 1, []), (5, .aload_n 0, 1, []), (6, .getfield 223, 3, [12, 8, 1818]), (9, .putfield 245, 3, [12, 9, 1819]), (12, .aload_n 0, 1, []), (13, .aload_n 0, 1, []), (14, .getfield 223, 3, [12, 8, 1818]), (17, .invokevirtual 234, 3, [65, 1, 12, 2149]), (20, .istore_n 1, 1, []), (21, .aload_n 0, 1, []), (22, .getfield 220, 3, [12, 6, 1816]), (25, .ifCond .gt 7, 3, []), (28, .iload_n 1, 1, []), (29, .ifCond .ge 33, 3, []), (32, .aload_n 0, 1, []), (33, .iconst 0, 1, []), (34, .putfield 248, 3, [12, 10, 1820]), (37, .aload_n 0, 1, []), (38, .aload_n 0, 1, []), (39, .getfield 220, 3, [12, 6, 1816]), (42, .ifCond .le 10, 3, []), (45, .aload_n 0, 1, []), (46, .getfield 245, 3, [12, 9, 1819]), (49, .goto 7, 3, []), (52, .aload_n 0, 1, []), (53, .getfield 215, 3, [12, 5, 1815]), (56, .putfield 245, 3, [12, 9, 1819]), (59, .goto 48, 3, []), (62, .iload_n 1, 1, []), (63, .invokestatic 238, 3, []), (66, .ifCond .eq 10, 3, []), (69, .aload_n 0, 1, []), (70, .invokevirtual 274, 3, []), (73, .goto 34, 3, []), (76, .iload_n 1, 1, []), (77, .invokestatic 242, 3, []), (80, .ifCond .eq 10, 3, []), (83, .aload_n 0, 1, []), (84, .invokevirtual 277, 3, []), (87, .goto 20, 3, []), (90, .iload_n 1, 1, []), (91, .bipush 39, 2, []), (93, .if_icmp .ne 10, 3, []), (96, .aload_n 0, 1, []), (97, .invokevirtual 280, 3, []), (100, .goto 7, 3, []), (103, .aload_n 0, 1, []), (104, .invokevirtual 283, 3, []), (107, .return_, 1, [])]
abbrev cX12_skipBlanks : ByteArray := prog_14_method_10_code
def yX12_skipBlanks : MethodName := ⟨RX12, "skipBlanks", "()V"⟩
def rw_X12_skipBlanks : List RRow := [(0, .aload_n 0, 1, []), (1, .getfield 223, 3, [12, 8, 1818]), (4, .aload_n 0, 1, []), (5, .getfield 215, 3, [12, 5, 1815]), (8, .if_icmp .ge 117, 3, []), (11, .aload_n 0, 1, []), (12, .getfield 220, 3, [12, 6, 1816]), (15, .ifCond .ne 110, 3, []), (18, .aload_n 0, 1, []), (19, .getfield 20, 3, [12, 4, 1814]), (22, .aload_n 0, 1, []), (23, .getfield 223, 3, [12, 8, 1818]), (26, .iaload, 1, []), (27, .bipush 32, 2, []), (29, .if_icmp .le 17, 3, []), (32, .aload_n 0, 1, []), (33, .getfield 20, 3, [12, 4, 1814]), (36, .aload_n 0, 1, []), (37, .getfield 223, 3, [12, 8, 1818]), (40, .iaload, 1, []), (41, .bipush 123, 2, []), (43, .if_icmp .ne 82, 3, []), (46, .aload_n 0, 1, []), (47, .getfield 20, 3, [12, 4, 1814]), (50, .aload_n 0, 1, []), (51, .getfield 223, 3, [12, 8, 1818]), (54, .iaload, 1, []), (55, .bipush 123, 2, []), (57, .if_icmp .ne 55, 3, []), (60, .aload_n 0, 1, []), (61, .getfield 223, 3, [12, 8, 1818]), (64, .istore_n 1, 1, []), (65, .iload_n 1, 1, []), (66, .aload_n 0, 1, []), (67, .getfield 215, 3, [12, 5, 1815]), (70, .if_icmp .ge 20, 3, []), (73, .aload_n 0, 1, []), (74, .getfield 20, 3, [12, 4, 1814]), (77, .iload_n 1, 1, []), (78, .iaload, 1, []), (79, .bipush 125, 2, []), (81, .if_icmp .eq 9, 3, []), (84, .iinc 1 1, 3, []), (87, .goto (-22), 3, []), (90, .iload_n 1, 1, []), (91, .aload_n 0, 1, []), (92, .getfield 215, 3, [12, 5, 1815]), (95, .if_icmp .ne 12, 3, []), (98, .aload_n 0, 1, []), (99, .iconst 1, 1, []), (100, .aload_n 0, 1, []), (101, .getfield 223, 3, [12, 8, 1818]), (104, .invokevirtual 226, 3, [72, 2, 12, 2145]), (107, .aload_n 0, 1, []), (108, .iload_n 1, 1, []), (109, .putfield 223, 3, [12, 8, 1818]), (112, .aload_n 0, 1, []), (113, .dup, 1, []), (114, .getfield 223, 3, [12, 8, 1818]), (117, .iconst 1, 1, []), (118, .iadd, 1, []), (119, .putfield 223, 3, [12, 8, 1818]), (122, .goto (-122), 3, []), (125, .return_, 1, [])]
abbrev cX12_byteAt : ByteArray := prog_14_method_7_code
def yX12_byteAt : MethodName := ⟨RX12, "byteAt", "(I)I"⟩
def rw_X12_byteAt : List RRow := [(0, .iload_n 1, 1, []), (1, .aload_n 0, 1, []), (2, .getfield 215, 3, [12, 5, 1815]), (5, .if_icmp .ge 12, 3, []), (8, .aload_n 0, 1, []), (9, .getfield 20, 3, [12, 4, 1814]), (12, .iload_n 1, 1, []), (13, .iaload, 1, []), (14, .goto 4, 3, []), (17, .iconst (-1), 1, []), (18, .ireturn, 1, [])]
abbrev cX12_later : ByteArray := prog_14_method_33_code
def yX12_later : MethodName := ⟨RX12, "later", "(I)V"⟩
def rw_X12_later : List RRow := [(0, .aload_n 0, 1, []), (1, .getfield 127, 3, [12, 64, 1874]), (4, .aload_n 0, 1, []), (5, .getfield 372, 3, [12, 65, 1875]), (8, .iload_n 1, 1, []), (9, .iastore, 1, []), (10, .aload_n 0, 1, []), (11, .dup, 1, []), (12, .getfield 372, 3, [12, 65, 1875]), (15, .iconst 1, 1, []), (16, .iadd, 1, []), (17, .putfield 372, 3, [12, 65, 1875]), (20, .return_, 1, [])]
abbrev cX12_work : ByteArray := prog_14_method_75_code
def yX12_work : MethodName := ⟨RX12, "work", "(I)V"⟩
def rw_X12_work : List RRow := [(0, .iload_n 1, 1, []), (1, .bipush 30, 2, []), (3, .if_icmp .lt 17, 3, []), (6, .iload_n 1, 1, []), (7, .bipush 32, 2, []), (9, .if_icmp .gt 11, 3, []), (12, .aload_n 0, 1, []), (13, .iload_n 1, 1, []), (14, .invokevirtual 472, 3, []), (17, .goto 266, 3, []), (20, .iload_n 1, 1, []), (21, .bipush 33, 2, []), (23, .if_icmp .lt 17, 3, []), (26, .iload_n 1, 1, []), (27, .bipush 36, 2, []), (29, .if_icmp .gt 11, 3, []), (32, .aload_n 0, 1, []), (33, .iload_n 1, 1, []), (34, .invokevirtual 475, 3, []), (37, .goto 246, 3, []), (40, .iload_n 1, 1, []), (41, .bipush 37, 2, []), (43, .if_icmp .lt 17, 3, []), (46, .iload_n 1, 1, []), (47, .bipush 39, 2, []), (49, .if_icmp .gt 11, 3, []), (52, .aload_n 0, 1, []), (53, .iload_n 1, 1, []), (54, .invokevirtual 478, 3, []), (57, .goto 226, 3, []), (60, .iload_n 1, 1, []), (61, .bipush 40, 2, []), (63, .if_icmp .ne 10, 3, []), (66, .aload_n 0, 1, []), (67, .invokevirtual 481, 3, []), (70, .goto 213, 3, []), (73, .iload_n 1, 1, []), (74, .bipush 41, 2, []), (76, .if_icmp .lt 9, 3, []), (79, .iload_n 1, 1, []), (80, .bipush 47, 2, []), (82, .if_icmp .le 9, 3, []), (85, .iload_n 1, 1, []), (86, .bipush 51, 2, []), (88, .if_icmp .ne 11, 3, []), (91, .aload_n 0, 1, []), (92, .iload_n 1, 1, []), (93, .invokevirtual 484, 3, []), (96, .goto 187, 3, []), (99, .iload_n 1, 1, []), (100, .bipush 48, 2, []), (102, .if_icmp .lt 17, 3, []), (105, .iload_n 1, 1, []), (106, .bipush 50, 2, []), (108, .if_icmp .gt 11, 3, []), (111, .aload_n 0, 1, []), (112, .iload_n 1, 1, []), (113, .invokevirtual 487, 3, []), (116, .goto 167, 3, []), (119, .iload_n 1, 1, []), (120, .bipush 11, 2, []), (122, .if_icmp .lt 17, 3, []), (125, .iload_n 1, 1, []), (126, .bipush 13, 2, []), (128, .if_icmp .gt 11, 3, []), (131, .aload_n 0, 1, []), (132, .iload_n 1, 1, []), (133, .invokevirtual 490, 3, []), (136, .goto 147, 3, []), (139, .iload_n 1, 1, []), (140, .bipush 14, 2, []), (142, .if_icmp .lt 17, 3, []), (145, .iload_n 1, 1, []), (146, .bipush 17, 2, []), (148, .if_icmp .gt 11, 3, []), (151, .aload_n 0, 1, []), (152, .iload_n 1, 1, []), (153, .invokevirtual 493, 3, []), (156, .goto 127, 3, []), (159, .iload_n 1, 1, []), (160, .bipush 18, 2, []), (162, .if_icmp .lt 17, 3, []), (165, .iload_n 1, 1, []), (166, .bipush 20, 2, []), (168, .if_icmp .gt 11, 3, []), (171, .aload_n 0, 1, []), (172, .iload_n 1, 1, []), (173, .invokevirtual 496, 3, []), (176, .goto 107, 3, []), (179, .iload_n 1, 1, []), (180, .bipush 22, 2, []), (182, .if_icmp .ne 10, 3, []), (185, .aload_n 0, 1, []), (186, .invokevirtual 499, 3, []), (189, .goto 94, 3, []), (192, .iload_n 1, 1, []), (193, .bipush 21, 2, []), (195, .if_icmp .eq 15, 3, []), (198, .iload_n 1, 1, []), (199, .bipush 23, 2, []), (201, .if_icmp .eq 9, 3, []), (204, .iload_n 1, 1, []), (205, .bipush 24, 2, []), (207, .if_icmp .ne 11, 3, []), (210, .aload_n 0, 1, []), (211, .iload_n 1, 1, []), (212, .invokevirtual 502, 3, []), (215, .goto 68, 3, []), (218, .iload_n 1, 1, []), (219, .bipush 25, 2, []), (221, .if_icmp .eq 9, 3, []), (224, .iload_n 1, 1, []), (225, .bipush 26, 2, []), (227, .if_icmp .ne 11, 3, []), (230, .aload_n 0, 1, []), (231, .iload_n 1, 1, []), (232, .invokevirtual 505, 3, []), (235, .goto 48, 3, []), (238, .iload_n 1, 1, []), (239, .bipush 27, 2, []), (241, .if_icmp .lt 17, 3, []), (244, .iload_n 1, 1, []), (245, .bipush 29, 2, []), (247, .if_icmp .gt 11, 3, []), (250, .aload_n 0, 1, []), (251, .iload_n 1, 1, []), (252, .invokevirtual 508, 3, []), (255, .goto 28, 3, []), (258, .iload_n 1, 1, []), (259, .bipush 8, 2, []), (261, .if_icmp .eq 9, 3, []), (264, .iload_n 1, 1, []), (265, .bipush 9, 2, []), (267, .if_icmp .ne 11, 3, []), (270, .aload_n 0, 1, []), (271, .iload_n 1, 1, []), (272, .invokevirtual 511, 3, []), (275, .goto 8, 3, []), (278, .aload_n 0, 1, []), (279, .iload_n 1, 1, []), (280, .invokevirtual 514, 3, [68, 1, 12, 2309]), (283, .return_, 1, [])]
abbrev cX12_workOfBlocks : ByteArray := prog_14_method_76_code
def yX12_workOfBlocks : MethodName := ⟨RX12, "workOfBlocks", "(I)V"⟩
def rw_X12_workOfBlocks : List RRow := [(0, .iload_n 1, 1, []), (1, .tableswitch 136 1 10 #[55, 62, 69, 76, 100, 107, 114, 136, 136, 127], 55, []), (56, .aload_n 0, 1, []), (57, .invokevirtual 517, 3, [69, 0, 12, 2313]), (60, .goto 106, 3, []), (63, .aload_n 0, 1, []), (64, .invokevirtual 520, 3, [70, 0, 12, 2366]), (67, .goto 99, 3, []), (70, .aload_n 0, 1, []), (71, .invokevirtual 523, 3, []), (74, .goto 92, 3, []), (77, .aload_n 0, 1, []), (78, .bipush 36, 2, []), (80, .invokevirtual 312, 3, [71, 1, 12, 2245]), (83, .aload_n 0, 1, []), (84, .bipush 19, 2, []), (86, .aload_n 0, 1, []), (87, .getfield 79, 3, [12, 44, 1854]), (90, .aload_n 0, 1, []), (91, .getfield 292, 3, [12, 41, 1851]), (94, .iaload, 1, []), (95, .invokevirtual 415, 3, [26, 2, 12, 1798]), (98, .goto 68, 3, []), (101, .aload_n 0, 1, []), (102, .invokevirtual 526, 3, []), (105, .goto 61, 3, []), (108, .aload_n 0, 1, []), (109, .invokevirtual 529, 3, []), (112, .goto 54, 3, []), (115, .aload_n 0, 1, []), (116, .dup, 1, []), (117, .getfield 385, 3, [12, 63, 1873]), (120, .iconst 1, 1, []), (121, .isub, 1, []), (122, .putfield 385, 3, [12, 63, 1873]), (125, .goto 41, 3, []), (128, .aload_n 0, 1, []), (129, .bipush 36, 2, []), (131, .invokevirtual 312, 3, [71, 1, 12, 2245]), (134, .goto 32, 3, []), (137, .aload_n 0, 1, []), (138, .bipush 23, 2, []), (140, .invokevirtual 312, 3, [71, 1, 12, 2245]), (143, .aload_n 0, 1, []), (144, .getfield 220, 3, [12, 6, 1816]), (147, .ifCond .ne 19, 3, []), (150, .aload_n 0, 1, []), (151, .getfield 248, 3, [12, 10, 1820]), (154, .ifCond .eq 12, 3, []), (157, .aload_n 0, 1, []), (158, .iconst 1, 1, []), (159, .aload_n 0, 1, []), (160, .getfield 245, 3, [12, 9, 1819]), (163, .invokevirtual 226, 3, [72, 2, 12, 2145]), (166, .return_, 1, [])]
abbrev cX12_block : ByteArray := prog_14_method_41_code
def yX12_block : MethodName := ⟨RX12, "block", "()V"⟩
def rw_X12_block : List RRow := [(0, .aload_n 0, 1, []), (1, .getfield 248, 3, [12, 10, 1820]), (4, .bipush 30, 2, []), (6, .if_icmp .ne 11, 3, []), (9, .aload_n 0, 1, []), (10, .invokevirtual 286, 3, [63, 0, 12, 2137]), (13, .aload_n 0, 1, []), (14, .invokevirtual 388, 3, []), (17, .aload_n 0, 1, []), (18, .getfield 220, 3, [12, 6, 1816]), (21, .ifCond .ne 20, 3, []), (24, .aload_n 0, 1, []), (25, .getfield 248, 3, [12, 10, 1820]), (28, .bipush 31, 2, []), (30, .if_icmp .ne 11, 3, []), (33, .aload_n 0, 1, []), (34, .invokevirtual 286, 3, [63, 0, 12, 2137]), (37, .aload_n 0, 1, []), (38, .invokevirtual 391, 3, []), (41, .aload_n 0, 1, []), (42, .getfield 220, 3, [12, 6, 1816]), (45, .ifCond .ne 20, 3, []), (48, .aload_n 0, 1, []), (49, .getfield 248, 3, [12, 10, 1820]), (52, .bipush 32, 2, []), (54, .if_icmp .ne 11, 3, []), (57, .aload_n 0, 1, []), (58, .invokevirtual 286, 3, [63, 0, 12, 2137]), (61, .aload_n 0, 1, []), (62, .invokevirtual 394, 3, []), (65, .aload_n 0, 1, []), (66, .iconst 2, 1, []), (67, .invokevirtual 397, 3, [66, 1, 12, 2182]), (70, .return_, 1, [])]
abbrev cX12_actionsOrBody : ByteArray := prog_14_method_45_code
def yX12_actionsOrBody : MethodName := ⟨RX12, "actionsOrBody", "()V"⟩
def rw_X12_actionsOrBody : List RRow := [(0, .aload_n 0, 1, []), (1, .getfield 248, 3, [12, 10, 1820]), (4, .bipush 33, 2, []), (6, .if_icmp .eq 12, 3, []), (9, .aload_n 0, 1, []), (10, .getfield 248, 3, [12, 10, 1820]), (13, .bipush 34, 2, []), (15, .if_icmp .ne 8, 3, []), (18, .aload_n 0, 1, []), (19, .invokevirtual 406, 3, []), (22, .return_, 1, []), (23, .aload_n 0, 1, []), (24, .bipush 35, 2, []), (26, .invokevirtual 312, 3, [71, 1, 12, 2245]), (29, .aload_n 0, 1, []), (30, .getfield 79, 3, [12, 44, 1854]), (33, .aload_n 0, 1, []), (34, .getfield 292, 3, [12, 41, 1851]), (37, .iaload, 1, []), (38, .istore_n 1, 1, []), (39, .aload_n 0, 1, []), (40, .getfield 82, 3, [12, 46, 1856]), (43, .iload_n 1, 1, []), (44, .aload_n 0, 1, []), (45, .getfield 378, 3, [12, 57, 1867]), (48, .iastore, 1, []), (49, .aload_n 0, 1, []), (50, .getfield 88, 3, [12, 48, 1858]), (53, .iload_n 1, 1, []), (54, .aload_n 0, 1, []), (55, .getfield 76, 3, [12, 43, 1853]), (58, .aload_n 0, 1, []), (59, .getfield 292, 3, [12, 41, 1851]), (62, .iaload, 1, []), (63, .iastore, 1, []), (64, .aload_n 0, 1, []), (65, .iconst 4, 1, []), (66, .invokevirtual 397, 3, [66, 1, 12, 2182]), (69, .aload_n 0, 1, []), (70, .invokevirtual 409, 3, [73, 0, 12, 2378]), (73, .return_, 1, [])]
abbrev cX12_want : ByteArray := prog_14_method_17_code
def yX12_want : MethodName := ⟨RX12, "want", "(I)V"⟩
def rw_X12_want : List RRow := [(0, .aload_n 0, 1, []), (1, .getfield 220, 3, [12, 6, 1816]), (4, .ifCond .ne 27, 3, []), (7, .aload_n 0, 1, []), (8, .getfield 248, 3, [12, 10, 1820]), (11, .iload_n 1, 1, []), (12, .if_icmp .ne 10, 3, []), (15, .aload_n 0, 1, []), (16, .invokevirtual 286, 3, [63, 0, 12, 2137]), (19, .goto 12, 3, []), (22, .aload_n 0, 1, []), (23, .iconst 1, 1, []), (24, .aload_n 0, 1, []), (25, .getfield 245, 3, [12, 9, 1819]), (28, .invokevirtual 226, 3, [72, 2, 12, 2145]), (31, .return_, 1, [])]
abbrev cX12_fail : ByteArray := prog_14_method_6_code
def yX12_fail : MethodName := ⟨RX12, "fail", "(II)V"⟩
def rw_X12_fail : List RRow := [(0, .aload_n 0, 1, []), (1, .getfield 220, 3, [12, 6, 1816]), (4, .ifCond .ne 13, 3, []), (7, .aload_n 0, 1, []), (8, .iload_n 1, 1, []), (9, .putfield 220, 3, [12, 6, 1816]), (12, .aload_n 0, 1, []), (13, .iload_n 2, 1, []), (14, .putfield 23, 3, [12, 7, 1817]), (17, .return_, 1, [])]
abbrev cX12_statements : ByteArray := prog_14_method_44_code
def yX12_statements : MethodName := ⟨RX12, "statements", "()V"⟩
def rw_X12_statements : List RRow := [(0, .aload_n 0, 1, []), (1, .iconst 5, 1, []), (2, .invokevirtual 397, 3, [66, 1, 12, 2182]), (5, .aload_n 0, 1, []), (6, .bipush 6, 2, []), (8, .invokevirtual 397, 3, [66, 1, 12, 2182]), (11, .return_, 1, [])]
abbrev cX11_fault : ByteArray := prog_1_method_5_code
def yX11_fault : MethodName := ⟨RX11, "fault", "()I"⟩
def rw_X11_fault : List RRow := [(0, .aload_n 0, 1, []), (1, .getfield 24, 3, [11, 2, 677]), (4, .invokevirtual 105, 3, [75, 0, 10, 1256]), (7, .ireturn, 1, [])]
abbrev cX10_failure : ByteArray := prog_12_method_30_code
def yX10_failure : MethodName := ⟨RX10, "failure", "()I"⟩
def rw_X10_failure : List RRow := [(0, .aload_n 0, 1, []), (1, .getfield 68, 3, [10, 8, 304]), (4, .ireturn, 1, [])]
abbrev cX12_fault : ByteArray := prog_14_method_80_code
def yX12_fault : MethodName := ⟨RX12, "fault", "()I"⟩
def rw_X12_fault : List RRow := [(0, .aload_n 0, 1, []), (1, .iconst 0, 1, []), (2, .putfield 210, 3, [12, 3, 1813]), (5, .aload_n 0, 1, []), (6, .getfield 220, 3, [12, 6, 1816]), (9, .ireturn, 1, [])]
abbrev cX11_place : ByteArray := prog_1_method_6_code
def yX11_place : MethodName := ⟨RX11, "place", "()I"⟩
def rw_X11_place : List RRow := [(0, .aload_n 0, 1, []), (1, .getfield 24, 3, [11, 2, 677]), (4, .invokevirtual 108, 3, [78, 0, 10, 1264]), (7, .ireturn, 1, [])]
abbrev cX10_failedAt : ByteArray := prog_12_method_31_code
def yX10_failedAt : MethodName := ⟨RX10, "failedAt", "()I"⟩
def rw_X10_failedAt : List RRow := [(0, .aload_n 0, 1, []), (1, .getfield 25, 3, [10, 9, 305]), (4, .ireturn, 1, [])]
abbrev cX12_place : ByteArray := prog_14_method_81_code
def yX12_place : MethodName := ⟨RX12, "place", "()I"⟩
def rw_X12_place : List RRow := [(0, .aload_n 0, 1, []), (1, .iconst 0, 1, []), (2, .putfield 210, 3, [12, 3, 1813]), (5, .aload_n 0, 1, []), (6, .getfield 23, 3, [12, 7, 1817]), (9, .ireturn, 1, [])]
abbrev cX11_input : ByteArray := prog_1_method_7_code
def yX11_input : MethodName := ⟨RX11, "input", "()I"⟩
def rw_X11_input : List RRow := [(0, .aload_n 0, 1, []), (1, .getfield 16, 3, [11, 1, 676]), (4, .aload_n 0, 1, []), (5, .getfield 10, 3, [11, 0, 675]), (8, .invokevirtual 111, 3, [81, 1, 8, 1272]), (11, .aload_n 0, 1, []), (12, .getfield 10, 3, [11, 0, 675]), (15, .invokevirtual 79, 3, [36, 0, 8, 705]), (18, .aload_n 0, 1, []), (19, .getfield 16, 3, [11, 1, 676]), (22, .invokevirtual 71, 3, [33, 0, 8, 701]), (25, .ireturn, 1, [])]
abbrev cX8_become : ByteArray := prog_10_method_6_code
def yX8_become : MethodName := ⟨RX8, "become", "(LTaggedPascal$Tape;)V"⟩
def rw_X8_become : List RRow := [(0, .aload_n 1, 1, []), (1, .getfield 9, 3, [8, 0, 223]), (4, .iconst 0, 1, []), (5, .aload_n 0, 1, []), (6, .getfield 9, 3, [8, 0, 223]), (9, .iconst 0, 1, []), (10, .aload_n 1, 1, []), (11, .getfield 15, 3, [8, 1, 224]), (14, .invokestatic 19, 3, [8888, 1276]), (17, .aload_n 0, 1, []), (18, .aload_n 1, 1, []), (19, .getfield 15, 3, [8, 1, 224]), (22, .putfield 15, 3, [8, 1, 224]), (25, .return_, 1, [])]
abbrev cX12_input : ByteArray := prog_14_method_83_code
def yX12_input : MethodName := ⟨RX12, "input", "()I"⟩
def rw_X12_input : List RRow := [(0, .aload_n 0, 1, []), (1, .iconst 0, 1, []), (2, .putfield 210, 3, [12, 3, 1813]), (5, .iconst 0, 1, []), (6, .istore_n 1, 1, []), (7, .iload_n 1, 1, []), (8, .aload_n 0, 1, []), (9, .getfield 215, 3, [12, 5, 1815]), (12, .if_icmp .ge 21, 3, []), (15, .aload_n 0, 1, []), (16, .getfield 166, 3, [12, 80, 1890]), (19, .iload_n 1, 1, []), (20, .aload_n 0, 1, []), (21, .getfield 20, 3, [12, 4, 1814]), (24, .iload_n 1, 1, []), (25, .iaload, 1, []), (26, .iastore, 1, []), (27, .iinc 1 1, 3, []), (30, .goto (-23), 3, []), (33, .aload_n 0, 1, []), (34, .aload_n 0, 1, []), (35, .getfield 215, 3, [12, 5, 1815]), (38, .putfield 538, 3, [12, 81, 1891]), (41, .aload_n 0, 1, []), (42, .iconst 0, 1, []), (43, .putfield 215, 3, [12, 5, 1815]), (46, .aload_n 0, 1, []), (47, .getfield 538, 3, [12, 81, 1891]), (50, .ireturn, 1, [])]
abbrev cL_run : ByteArray := method_4_code
def yL_run : MethodName := ⟨RL, "run", "(LTaggedPascal;I[J)I"⟩
def rw_L_run : List RRow := [(0, .aload_n 2, 1, []), (1, .iconst 0, 1, []), (2, .aload_n 0, 1, []), (3, .iload_n 1, 1, []), (4, .invokevirtual 15, 3, [84, 1, 11, 1330]), (7, .i2l, 1, []), (8, .lastore, 1, []), (9, .goto 6, 3, []), (12, .astore_n 3, 1, []), (13, .iconst 1, 1, []), (14, .ireturn, 1, []), (15, .iconst 0, 1, []), (16, .ireturn, 1, [])]
abbrev cX11_run : ByteArray := prog_1_method_8_code
def yX11_run : MethodName := ⟨RX11, "run", "(I)I"⟩
def rw_X11_run : List RRow := [(0, .iload_n 1, 1, []), (1, .ifCond .lt 10, 3, []), (4, .iload_n 1, 1, []), (5, .sipush 20000, 3, []), (8, .if_icmp .le 13, 3, []), (11, .new 64, 3, [7777, 1, 1307]), (14, .dup, 1, []), (15, .ldc 113, 2, []), (17, .invokespecial 68, 3, []), (20, .athrow, 1, []), (21, .aload_n 0, 1, []), (22, .getfield 52, 3, [11, 6, 681]), (25, .iload_n 1, 1, []), (26, .invokevirtual 115, 3, [86, 1, 3, 1335]), (29, .ireturn, 1, [])]
abbrev cX12_run : ByteArray := prog_14_method_110_code
def yX12_run : MethodName := ⟨RX12, "run", "(I)I"⟩
def rw_X12_run : List RRow := [(0, .aload_n 0, 1, []), (1, .iload_n 1, 1, []), (2, .ifCond .lt 10, 3, []), (5, .iload_n 1, 1, []), (6, .sipush 20000, 3, []), (9, .if_icmp .le 7, 3, []), (12, .iconst 1, 1, []), (13, .goto 4, 3, []), (16, .iconst 0, 1, []), (17, .putfield 210, 3, [12, 3, 1813]), (20, .aload_n 0, 1, []), (21, .getfield 210, 3, [12, 3, 1813]), (24, .ifCond .le 5, 3, []), (27, .iconst 0, 1, []), (28, .ireturn, 1, []), (29, .aload_n 0, 1, []), (30, .iload_n 1, 1, []), (31, .putfield 647, 3, [12, 99, 1909]), (34, .aload_n 0, 1, []), (35, .iconst 0, 1, []), (36, .putfield 644, 3, [12, 100, 1910]), (39, .aload_n 0, 1, []), (40, .iconst 0, 1, []), (41, .putfield 599, 3, [12, 82, 1892]), (44, .aload_n 0, 1, []), (45, .iconst 0, 1, []), (46, .putfield 584, 3, [12, 84, 1894]), (49, .aload_n 0, 1, []), (50, .iconst 0, 1, []), (51, .putfield 553, 3, [12, 87, 1897]), (54, .aload_n 0, 1, []), (55, .iconst 0, 1, []), (56, .putfield 560, 3, [12, 88, 1898]), (59, .aload_n 0, 1, []), (60, .iconst 0, 1, []), (61, .putfield 547, 3, [12, 89, 1899]), (64, .aload_n 0, 1, []), (65, .iconst 0, 1, []), (66, .putfield 563, 3, [12, 90, 1900]), (69, .aload_n 0, 1, []), (70, .iconst 0, 1, []), (71, .putfield 541, 3, [12, 97, 1907]), (74, .aload_n 0, 1, []), (75, .iconst (-1), 1, []), (76, .putfield 544, 3, [12, 101, 1911]), (79, .aload_n 0, 1, []), (80, .iconst (-1), 1, []), (81, .putfield 197, 3, [12, 102, 1912]), (84, .aload_n 0, 1, []), (85, .aload_n 0, 1, []), (86, .getfield 148, 3, [12, 74, 1884]), (89, .iconst 0, 1, []), (90, .iaload, 1, []), (91, .putfield 569, 3, [12, 98, 1908]), (94, .aload_n 0, 1, []), (95, .iconst 0, 1, []), (96, .iconst (-1), 1, []), (97, .iconst (-1), 1, []), (98, .invokevirtual 572, 3, [96, 3, 12, 2430]), (101, .ifCond .eq 17, 3, []), (104, .aload_n 0, 1, []), (105, .getfield 544, 3, [12, 101, 1911]), (108, .ifCond .ge 10, 3, []), (111, .aload_n 0, 1, []), (112, .invokevirtual 665, 3, [98, 0, 12, 2442]), (115, .goto (-11), 3, []), (118, .aload_n 0, 1, []), (119, .getfield 544, 3, [12, 101, 1911]), (122, .ireturn, 1, [])]
abbrev cX3_execute : ByteArray := prog_5_method_8_code
def yX3_execute : MethodName := ⟨RX3, "execute", "(I)I"⟩
def rw_X3_execute : List RRow := [(0, .aload_n 0, 1, []), (1, .iload_n 1, 1, []), (2, .invokevirtual 52, 3, [87, 1, 3, 1339]), (5, .aload_n 0, 1, []), (6, .iconst 0, 1, []), (7, .aload_n 0, 1, []), (8, .getfield 33, 3, [3, 0, 597]), (11, .getfield 56, 3, [1, 4, 342]), (14, .invokevirtual 61, 3, [88, 2, 3, 1344]), (17, .ifCond .ne 9, 3, []), (20, .aload_n 0, 1, []), (21, .bipush 6, 2, []), (23, .putfield 65, 3, [3, 12, 609]), (26, .iconst 0, 1, []), (27, .istore_n 2, 1, []), (28, .iload_n 2, 1, []), (29, .ldc 68, 2, [0, 1000000000, 1574]), (31, .if_icmp .ge 33, 3, []), (34, .aload_n 0, 1, []), (35, .getfield 65, 3, [3, 12, 609]), (38, .iconst (-1), 1, []), (39, .if_icmp .ne 25, 3, []), (42, .aload_n 0, 1, []), (43, .aload_n 0, 1, []), (44, .getfield 69, 3, [3, 10, 607]), (47, .putfield 72, 3, [3, 11, 608]), (50, .aload_n 0, 1, []), (51, .aload_n 0, 1, []), (52, .invokevirtual 75, 3, [92, 0, 3, 1575]), (55, .invokevirtual 79, 3, [94, 1, 3, 1583]), (58, .iinc 2 1, 3, []), (61, .goto (-33), 3, []), (64, .aload_n 0, 1, []), (65, .getfield 65, 3, [3, 12, 609]), (68, .iconst (-1), 1, []), (69, .if_icmp .ne 8, 3, []), (72, .bipush 7, 2, []), (74, .goto 7, 3, []), (77, .aload_n 0, 1, []), (78, .getfield 65, 3, [3, 12, 609]), (81, .ireturn, 1, [])]
abbrev cX3_startAgain : ByteArray := prog_5_method_9_code
def yX3_startAgain : MethodName := ⟨RX3, "startAgain", "(I)V"⟩
def rw_X3_startAgain : List RRow := [(0, .aload_n 0, 1, []), (1, .iload_n 1, 1, []), (2, .putfield 82, 3, [3, 14, 611]), (5, .aload_n 0, 1, []), (6, .getfield 12, 3, [3, 2, 599]), (9, .invokevirtual 85, 3, [36, 0, 8, 1343]), (12, .aload_n 0, 1, []), (13, .iconst 0, 1, []), (14, .putfield 88, 3, [3, 6, 603]), (17, .aload_n 0, 1, []), (18, .iconst 0, 1, []), (19, .putfield 91, 3, [3, 7, 604]), (22, .aload_n 0, 1, []), (23, .iconst 0, 1, []), (24, .putfield 94, 3, [3, 8, 605]), (27, .aload_n 0, 1, []), (28, .iconst 0, 1, []), (29, .putfield 97, 3, [3, 9, 606]), (32, .aload_n 0, 1, []), (33, .iconst 0, 1, []), (34, .putfield 69, 3, [3, 10, 607]), (37, .aload_n 0, 1, []), (38, .iconst 0, 1, []), (39, .putfield 72, 3, [3, 11, 608]), (42, .aload_n 0, 1, []), (43, .iconst (-1), 1, []), (44, .putfield 65, 3, [3, 12, 609]), (47, .aload_n 0, 1, []), (48, .iconst (-1), 1, []), (49, .putfield 29, 3, [3, 13, 610]), (52, .aload_n 0, 1, []), (53, .iconst 0, 1, []), (54, .putfield 40, 3, [3, 15, 612]), (57, .aload_n 0, 1, []), (58, .iconst 0, 1, []), (59, .putfield 43, 3, [3, 16, 613]), (62, .aload_n 0, 1, []), (63, .iconst 0, 1, []), (64, .putfield 46, 3, [3, 17, 614]), (67, .aload_n 0, 1, []), (68, .iconst 0, 1, []), (69, .putfield 49, 3, [3, 18, 615]), (72, .return_, 1, [])]
abbrev cX3_enter : ByteArray := prog_5_method_21_code
def yX3_enter : MethodName := ⟨RX3, "enter", "(II)Z"⟩
def rw_X3_enter : List RRow := [(0, .aload_n 0, 1, []), (1, .getfield 97, 3, [3, 9, 606]), (4, .sipush 200, 3, []), (7, .if_icmp .ge 19, 3, []), (10, .iload_n 2, 1, []), (11, .ifCond .lt 15, 3, []), (14, .iload_n 2, 1, []), (15, .sipush 3000, 3, []), (18, .aload_n 0, 1, []), (19, .getfield 94, 3, [3, 8, 605]), (22, .isub, 1, []), (23, .if_icmp .le 5, 3, []), (26, .iconst 0, 1, []), (27, .ireturn, 1, []), (28, .aload_n 0, 1, []), (29, .getfield 22, 3, [3, 4, 601]), (32, .aload_n 0, 1, []), (33, .getfield 94, 3, [3, 8, 605]), (36, .aload_n 0, 1, []), (37, .getfield 94, 3, [3, 8, 605]), (40, .iload_n 2, 1, []), (41, .iadd, 1, []), (42, .iconst 0, 1, []), (43, .invokestatic 123, 3, [117, 4, 1348]), (46, .aload_n 0, 1, []), (47, .aload_n 0, 1, []), (48, .getfield 94, 3, [3, 8, 605]), (51, .iconst 0, 1, []), (52, .iadd, 1, []), (53, .i2l, 1, []), (54, .iload_n 1, 1, []), (55, .i2l, 1, []), (56, .invokevirtual 127, 3, [89, 2, 3, 1565]), (59, .aload_n 0, 1, []), (60, .aload_n 0, 1, []), (61, .getfield 94, 3, [3, 8, 605]), (64, .iconst 1, 1, []), (65, .iadd, 1, []), (66, .i2l, 1, []), (67, .aload_n 0, 1, []), (68, .getfield 91, 3, [3, 7, 604]), (71, .i2l, 1, []), (72, .invokevirtual 127, 3, [89, 2, 3, 1565]), (75, .aload_n 0, 1, []), (76, .aload_n 0, 1, []), (77, .getfield 94, 3, [3, 8, 605]), (80, .iconst 2, 1, []), (81, .iadd, 1, []), (82, .i2l, 1, []), (83, .aload_n 0, 1, []), (84, .getfield 69, 3, [3, 10, 607]), (87, .i2l, 1, []), (88, .invokevirtual 127, 3, [89, 2, 3, 1565]), (91, .aload_n 0, 1, []), (92, .aload_n 0, 1, []), (93, .getfield 94, 3, [3, 8, 605]), (96, .putfield 91, 3, [3, 7, 604]), (99, .aload_n 0, 1, []), (100, .dup, 1, []), (101, .getfield 94, 3, [3, 8, 605]), (104, .iload_n 2, 1, []), (105, .iadd, 1, []), (106, .putfield 94, 3, [3, 8, 605]), (109, .aload_n 0, 1, []), (110, .dup, 1, []), (111, .getfield 97, 3, [3, 9, 606]), (114, .iconst 1, 1, []), (115, .iadd, 1, []), (116, .putfield 97, 3, [3, 9, 606]), (119, .aload_n 0, 1, []), (120, .aload_n 0, 1, []), (121, .getfield 43, 3, [3, 16, 613]), (124, .aload_n 0, 1, []), (125, .getfield 97, 3, [3, 9, 606]), (128, .invokestatic 131, 3, [91, 2, 1573]), (131, .putfield 43, 3, [3, 16, 613]), (134, .aload_n 0, 1, []), (135, .aload_n 0, 1, []), (136, .getfield 46, 3, [3, 17, 614]), (139, .aload_n 0, 1, []), (140, .getfield 94, 3, [3, 8, 605]), (143, .invokestatic 131, 3, [91, 2, 1573]), (146, .putfield 46, 3, [3, 17, 614]), (149, .iconst 1, 1, []), (150, .ireturn, 1, [])]
abbrev cX3_put : ByteArray := prog_5_method_19_code
def yX3_put : MethodName := ⟨RX3, "put", "(JJ)V"⟩
def rw_X3_put : List RRow := [(0, .lload_n 1, 1, []), (1, .invokestatic 119, 3, [90, 1, 1569]), (4, .ifCond .eq 19, 3, []), (7, .aload_n 0, 1, []), (8, .getfield 18, 3, [3, 3, 600]), (11, .lload_n 1, 1, []), (12, .l2i, 1, []), (13, .lload_n 3, 1, []), (14, .lastore, 1, []), (15, .aload_n 0, 1, []), (16, .getfield 22, 3, [3, 4, 601]), (19, .lload_n 1, 1, []), (20, .l2i, 1, []), (21, .iconst 1, 1, []), (22, .bastore, 1, []), (23, .return_, 1, [])]
abbrev cX3_isCell : ByteArray := prog_5_method_16_code
def yX3_isCell : MethodName := ⟨RX3, "isCell", "(J)Z"⟩
def rw_X3_isCell : List RRow := [(0, .lload_n 0, 1, []), (1, .lconst 0, 1, []), (2, .lcmp, 1, []), (3, .ifCond .lt 15, 3, []), (6, .lload_n 0, 1, []), (7, .ldc2_w 117, 3, [3000, 1572]), (10, .lcmp, 1, []), (11, .ifCond .ge 7, 3, []), (14, .iconst 1, 1, []), (15, .goto 4, 3, []), (18, .iconst 0, 1, []), (19, .ireturn, 1, [])]
abbrev cJ9_max_7cf53 : ByteArray := prog_21_method_65_code
def yJ9_max_7cf53 : MethodName := ⟨RJ9, "max", "(II)I"⟩
def rw_J9_max_7cf53 : List RRow := [(0, .iload_n 0, 1, []), (1, .iload_n 1, 1, []), (2, .if_icmp .lt 7, 3, []), (5, .iload_n 0, 1, []), (6, .goto 4, 3, []), (9, .iload_n 1, 1, []), (10, .ireturn, 1, [])]
abbrev cX3_operand : ByteArray := prog_5_method_10_code
def yX3_operand : MethodName := ⟨RX3, "operand", "()I"⟩
def rw_X3_operand : List RRow := [(0, .aload_n 0, 1, []), (1, .getfield 33, 3, [3, 0, 597]), (4, .aload_n 0, 1, []), (5, .getfield 69, 3, [3, 10, 607]), (8, .invokevirtual 100, 3, [93, 1, 1, 1579]), (11, .istore_n 1, 1, []), (12, .aload_n 0, 1, []), (13, .dup, 1, []), (14, .getfield 69, 3, [3, 10, 607]), (17, .iconst 1, 1, []), (18, .iadd, 1, []), (19, .putfield 69, 3, [3, 10, 607]), (22, .iload_n 1, 1, []), (23, .ireturn, 1, [])]
abbrev cX1_at : ByteArray := prog_3_method_10_code
def yX1_at : MethodName := ⟨RX1, "at", "(I)I"⟩
def rw_X1_at : List RRow := [(0, .iload_n 1, 1, []), (1, .ifCond .lt 11, 3, []), (4, .iload_n 1, 1, []), (5, .aload_n 0, 1, []), (6, .getfield 22, 3, [1, 2, 337]), (9, .if_icmp .lt 7, 3, []), (12, .iconst 0, 1, []), (13, .goto 9, 3, []), (16, .aload_n 0, 1, []), (17, .getfield 11, 3, [1, 0, 335]), (20, .iload_n 1, 1, []), (21, .iaload, 1, []), (22, .ireturn, 1, [])]
abbrev cX3_perform : ByteArray := prog_5_method_24_code
def yX3_perform : MethodName := ⟨RX3, "perform", "(I)V"⟩
def rw_X3_perform : List RRow := [(0, .iload_n 1, 1, []), (1, .bipush 36, 2, []), (3, .if_icmp .lt 21, 3, []), (6, .aload_n 0, 1, []), (7, .invokevirtual 141, 3, []), (10, .lstore_n 2, 1, []), (11, .aload_n 0, 1, []), (12, .iload_n 1, 1, []), (13, .aload_n 0, 1, []), (14, .invokevirtual 141, 3, []), (17, .lload_n 2, 1, []), (18, .invokevirtual 145, 3, []), (21, .goto 54, 3, []), (24, .iload_n 1, 1, []), (25, .bipush 31, 2, []), (27, .if_icmp .lt 15, 3, []), (30, .aload_n 0, 1, []), (31, .iload_n 1, 1, []), (32, .aload_n 0, 1, []), (33, .invokevirtual 141, 3, []), (36, .invokevirtual 149, 3, []), (39, .goto 36, 3, []), (42, .iload_n 1, 1, []), (43, .bipush 22, 2, []), (45, .if_icmp .lt 11, 3, []), (48, .aload_n 0, 1, []), (49, .iload_n 1, 1, []), (50, .invokevirtual 153, 3, []), (53, .goto 22, 3, []), (56, .iload_n 1, 1, []), (57, .bipush 13, 2, []), (59, .if_icmp .lt 11, 3, []), (62, .aload_n 0, 1, []), (63, .iload_n 1, 1, []), (64, .invokevirtual 156, 3, []), (67, .goto 8, 3, []), (70, .aload_n 0, 1, []), (71, .iload_n 1, 1, []), (72, .invokevirtual 159, 3, [95, 1, 3, 1719]), (75, .return_, 1, [])]
abbrev cX3_control : ByteArray := prog_5_method_25_code
def yX3_control : MethodName := ⟨RX3, "control", "(I)V"⟩
def rw_X3_control : List RRow := [(0, .iload_n 1, 1, []), (1, .tableswitch 255 1 12 #[63, 70, 81, 110, 125, 133, 140, 147, 154, 184, 214, 229], 63, []), (64, .aload_n 0, 1, []), (65, .invokevirtual 162, 3, []), (68, .goto 193, 3, []), (71, .aload_n 0, 1, []), (72, .aload_n 0, 1, []), (73, .invokevirtual 75, 3, [92, 0, 3, 1575]), (76, .putfield 69, 3, [3, 10, 607]), (79, .goto 182, 3, []), (82, .aload_n 0, 1, []), (83, .invokevirtual 75, 3, [92, 0, 3, 1575]), (86, .istore_n 2, 1, []), (87, .aload_n 0, 1, []), (88, .aload_n 0, 1, []), (89, .invokevirtual 141, 3, []), (92, .lconst 0, 1, []), (93, .lcmp, 1, []), (94, .ifCond .ne 7, 3, []), (97, .iload_n 2, 1, []), (98, .goto 7, 3, []), (101, .aload_n 0, 1, []), (102, .getfield 69, 3, [3, 10, 607]), (105, .putfield 69, 3, [3, 10, 607]), (108, .goto 153, 3, []), (111, .aload_n 0, 1, []), (112, .aload_n 0, 1, []), (113, .invokevirtual 75, 3, [92, 0, 3, 1575]), (116, .aload_n 0, 1, []), (117, .invokevirtual 75, 3, [92, 0, 3, 1575]), (120, .invokevirtual 165, 3, []), (123, .goto 138, 3, []), (126, .aload_n 0, 1, []), (127, .iconst 4, 1, []), (128, .invokevirtual 169, 3, []), (131, .goto 130, 3, []), (134, .aload_n 0, 1, []), (135, .invokevirtual 172, 3, []), (138, .goto 123, 3, []), (141, .aload_n 0, 1, []), (142, .invokevirtual 175, 3, []), (145, .goto 116, 3, []), (148, .aload_n 0, 1, []), (149, .invokevirtual 178, 3, []), (152, .goto 109, 3, []), (155, .aload_n 0, 1, []), (156, .aload_n 0, 1, []), (157, .iconst 1, 1, []), (158, .invokevirtual 181, 3, []), (161, .aload_n 0, 1, []), (162, .iconst 0, 1, []), (163, .invokevirtual 181, 3, []), (166, .lcmp, 1, []), (167, .ifCond .gt 7, 3, []), (170, .iconst 1, 1, []), (171, .goto 4, 3, []), (174, .iconst 0, 1, []), (175, .aload_n 0, 1, []), (176, .invokevirtual 75, 3, [92, 0, 3, 1575]), (179, .invokevirtual 185, 3, []), (182, .goto 79, 3, []), (185, .aload_n 0, 1, []), (186, .aload_n 0, 1, []), (187, .iconst 1, 1, []), (188, .invokevirtual 181, 3, []), (191, .aload_n 0, 1, []), (192, .iconst 0, 1, []), (193, .invokevirtual 181, 3, []), (196, .lcmp, 1, []), (197, .ifCond .lt 7, 3, []), (200, .iconst 1, 1, []), (201, .goto 4, 3, []), (204, .iconst 0, 1, []), (205, .aload_n 0, 1, []), (206, .invokevirtual 75, 3, [92, 0, 3, 1575]), (209, .invokevirtual 185, 3, []), (212, .goto 49, 3, []), (215, .aload_n 0, 1, []), (216, .aload_n 0, 1, []), (217, .invokevirtual 75, 3, [92, 0, 3, 1575]), (220, .aload_n 0, 1, []), (221, .invokevirtual 75, 3, [92, 0, 3, 1575]), (224, .invokevirtual 189, 3, []), (227, .goto 34, 3, []), (230, .aload_n 0, 1, []), (231, .aload_n 0, 1, []), (232, .iconst 2, 1, []), (233, .invokevirtual 181, 3, []), (236, .invokevirtual 192, 3, []), (239, .aload_n 0, 1, []), (240, .aload_n 0, 1, []), (241, .getfield 88, 3, [3, 6, 603]), (244, .iconst 3, 1, []), (245, .isub, 1, []), (246, .iconst 0, 1, []), (247, .invokestatic 131, 3, [91, 2, 1573]), (250, .putfield 88, 3, [3, 6, 603]), (253, .goto 8, 3, []), (256, .aload_n 0, 1, []), (257, .iconst 0, 1, []), (258, .putfield 65, 3, [3, 12, 609]), (261, .return_, 1, [])]
abbrev cX12_open : ByteArray := prog_14_method_89_code
def yX12_open : MethodName := ⟨RX12, "open", "(III)Z"⟩
def rw_X12_open : List RRow := [(0, .aload_n 0, 1, []), (1, .getfield 154, 3, [12, 76, 1886]), (4, .iload_n 1, 1, []), (5, .iaload, 1, []), (6, .istore 4, 2, []), (8, .aload_n 0, 1, []), (9, .aload_n 0, 1, []), (10, .getfield 547, 3, [12, 89, 1899]), (13, .sipush 200, 3, []), (16, .if_icmp .eq 16, 3, []), (19, .aload_n 0, 1, []), (20, .getfield 553, 3, [12, 87, 1897]), (23, .iload 4, 2, []), (25, .iadd, 1, []), (26, .sipush 3000, 3, []), (29, .if_icmp .le 7, 3, []), (32, .iconst 1, 1, []), (33, .goto 4, 3, []), (36, .iconst 0, 1, []), (37, .bipush 6, 2, []), (39, .invokevirtual 556, 3, [97, 2, 12, 2434]), (42, .ifCond .eq 5, 3, []), (45, .iconst 0, 1, []), (46, .ireturn, 1, []), (47, .aload_n 0, 1, []), (48, .getfield 178, 3, [12, 91, 1901]), (51, .aload_n 0, 1, []), (52, .getfield 547, 3, [12, 89, 1899]), (55, .aload_n 0, 1, []), (56, .getfield 553, 3, [12, 87, 1897]), (59, .iastore, 1, []), (60, .aload_n 0, 1, []), (61, .getfield 181, 3, [12, 92, 1902]), (64, .aload_n 0, 1, []), (65, .getfield 547, 3, [12, 89, 1899]), (68, .iload_n 2, 1, []), (69, .iastore, 1, []), (70, .aload_n 0, 1, []), (71, .getfield 184, 3, [12, 93, 1903]), (74, .aload_n 0, 1, []), (75, .getfield 547, 3, [12, 89, 1899]), (78, .iload_n 1, 1, []), (79, .iastore, 1, []), (80, .aload_n 0, 1, []), (81, .getfield 187, 3, [12, 94, 1904]), (84, .aload_n 0, 1, []), (85, .getfield 547, 3, [12, 89, 1899]), (88, .iload_n 3, 1, []), (89, .iastore, 1, []), (90, .aload_n 0, 1, []), (91, .getfield 190, 3, [12, 95, 1905]), (94, .aload_n 0, 1, []), (95, .getfield 547, 3, [12, 89, 1899]), (98, .iconst (-1), 1, []), (99, .iastore, 1, []), (100, .aload_n 0, 1, []), (101, .getfield 553, 3, [12, 87, 1897]), (104, .istore 5, 2, []), (106, .iload 5, 2, []), (108, .aload_n 0, 1, []), (109, .getfield 553, 3, [12, 87, 1897]), (112, .iload 4, 2, []), (114, .iadd, 1, []), (115, .if_icmp .ge 17, 3, []), (118, .aload_n 0, 1, []), (119, .getfield 175, 3, [12, 86, 1896]), (122, .iload 5, 2, []), (124, .iconst 0, 1, []), (125, .bastore, 1, []), (126, .iinc 5 1, 3, []), (129, .goto (-23), 3, []), (132, .aload_n 0, 1, []), (133, .aload_n 0, 1, []), (134, .getfield 553, 3, [12, 87, 1897]), (137, .iload 4, 2, []), (139, .iadd, 1, []), (140, .putfield 553, 3, [12, 87, 1897]), (143, .aload_n 0, 1, []), (144, .dup, 1, []), (145, .getfield 547, 3, [12, 89, 1899]), (148, .iconst 1, 1, []), (149, .iadd, 1, []), (150, .putfield 547, 3, [12, 89, 1899]), (153, .aload_n 0, 1, []), (154, .aload_n 0, 1, []), (155, .getfield 553, 3, [12, 87, 1897]), (158, .aload_n 0, 1, []), (159, .getfield 560, 3, [12, 88, 1898]), (162, .if_icmp .le 10, 3, []), (165, .aload_n 0, 1, []), (166, .getfield 553, 3, [12, 87, 1897]), (169, .goto 7, 3, []), (172, .aload_n 0, 1, []), (173, .getfield 560, 3, [12, 88, 1898]), (176, .putfield 560, 3, [12, 88, 1898]), (179, .aload_n 0, 1, []), (180, .aload_n 0, 1, []), (181, .getfield 547, 3, [12, 89, 1899]), (184, .aload_n 0, 1, []), (185, .getfield 563, 3, [12, 90, 1900]), (188, .if_icmp .le 10, 3, []), (191, .aload_n 0, 1, []), (192, .getfield 547, 3, [12, 89, 1899]), (195, .goto 7, 3, []), (198, .aload_n 0, 1, []), (199, .getfield 563, 3, [12, 90, 1900]), (202, .putfield 563, 3, [12, 90, 1900]), (205, .iconst 1, 1, []), (206, .ireturn, 1, [])]
abbrev cX12_isWrong : ByteArray := prog_14_method_87_code
def yX12_isWrong : MethodName := ⟨RX12, "isWrong", "(ZI)Z"⟩
def rw_X12_isWrong : List RRow := [(0, .iload_n 1, 1, []), (1, .ifCond .eq 8, 3, []), (4, .aload_n 0, 1, []), (5, .iload_n 2, 1, []), (6, .invokevirtual 550, 3, []), (9, .iload_n 1, 1, []), (10, .ireturn, 1, [])]
abbrev cX12_step : ByteArray := prog_14_method_109_code
def yX12_step : MethodName := ⟨RX12, "step", "()V"⟩
def rw_X12_step : List RRow := [(0, .aload_n 0, 1, []), (1, .getfield 569, 3, [12, 98, 1908]), (4, .istore_n 1, 1, []), (5, .aload_n 0, 1, []), (6, .dup, 1, []), (7, .getfield 569, 3, [12, 98, 1908]), (10, .iconst 1, 1, []), (11, .iadd, 1, []), (12, .putfield 569, 3, [12, 98, 1908]), (15, .aload_n 0, 1, []), (16, .getfield 136, 3, [12, 70, 1880]), (19, .iload_n 1, 1, []), (20, .iaload, 1, []), (21, .istore_n 2, 1, []), (22, .aload_n 0, 1, []), (23, .getfield 139, 3, [12, 71, 1881]), (26, .iload_n 1, 1, []), (27, .iaload, 1, []), (28, .istore_n 3, 1, []), (29, .iload_n 2, 1, []), (30, .ifCond .ne 18, 3, []), (33, .aload_n 0, 1, []), (34, .getfield 190, 3, [12, 95, 1905]), (37, .aload_n 0, 1, []), (38, .getfield 547, 3, [12, 89, 1899]), (41, .iconst 1, 1, []), (42, .isub, 1, []), (43, .iload_n 3, 1, []), (44, .iastore, 1, []), (45, .goto 233, 3, []), (48, .iload_n 2, 1, []), (49, .iconst 1, 1, []), (50, .if_icmp .ne 36, 3, []), (53, .aload_n 0, 1, []), (54, .getfield 644, 3, [12, 100, 1910]), (57, .aload_n 0, 1, []), (58, .getfield 647, 3, [12, 99, 1909]), (61, .if_icmp .ne 12, 3, []), (64, .aload_n 0, 1, []), (65, .bipush 7, 2, []), (67, .invokevirtual 550, 3, []), (70, .goto 208, 3, []), (73, .aload_n 0, 1, []), (74, .dup, 1, []), (75, .getfield 644, 3, [12, 100, 1910]), (78, .iconst 1, 1, []), (79, .iadd, 1, []), (80, .putfield 644, 3, [12, 100, 1910]), (83, .goto 195, 3, []), (86, .iload_n 2, 1, []), (87, .iconst 2, 1, []), (88, .if_icmp .ne 12, 3, []), (91, .aload_n 0, 1, []), (92, .iload_n 3, 1, []), (93, .i2l, 1, []), (94, .invokevirtual 580, 3, []), (97, .goto 181, 3, []), (100, .iload_n 2, 1, []), (101, .iconst 3, 1, []), (102, .if_icmp .lt 17, 3, []), (105, .iload_n 2, 1, []), (106, .bipush 8, 2, []), (108, .if_icmp .gt 11, 3, []), (111, .aload_n 0, 1, []), (112, .iload_n 1, 1, []), (113, .invokevirtual 650, 3, []), (116, .goto 162, 3, []), (119, .iload_n 2, 1, []), (120, .bipush 18, 2, []), (122, .if_icmp .ne 11, 3, []), (125, .aload_n 0, 1, []), (126, .iload_n 3, 1, []), (127, .invokevirtual 653, 3, []), (130, .goto 148, 3, []), (133, .iload_n 2, 1, []), (134, .bipush 19, 2, []), (136, .if_icmp .ne 11, 3, []), (139, .aload_n 0, 1, []), (140, .iload_n 3, 1, []), (141, .invokevirtual 656, 3, [99, 1, 12, 2473]), (144, .goto 134, 3, []), (147, .iload_n 2, 1, []), (148, .bipush 20, 2, []), (150, .if_icmp .ne 11, 3, []), (153, .aload_n 0, 1, []), (154, .iload_n 3, 1, []), (155, .putfield 569, 3, [12, 98, 1908]), (158, .goto 120, 3, []), (161, .iload_n 2, 1, []), (162, .bipush 21, 2, []), (164, .if_icmp .ne 27, 3, []), (167, .aload_n 0, 1, []), (168, .aload_n 0, 1, []), (169, .invokevirtual 576, 3, []), (172, .lconst 0, 1, []), (173, .lcmp, 1, []), (174, .ifCond .ne 7, 3, []), (177, .iload_n 3, 1, []), (178, .goto 7, 3, []), (181, .aload_n 0, 1, []), (182, .getfield 569, 3, [12, 98, 1908]), (185, .putfield 569, 3, [12, 98, 1908]), (188, .goto 90, 3, []), (191, .iload_n 2, 1, []), (192, .bipush 22, 2, []), (194, .if_icmp .lt 17, 3, []), (197, .iload_n 2, 1, []), (198, .bipush 25, 2, []), (200, .if_icmp .gt 11, 3, []), (203, .aload_n 0, 1, []), (204, .iload_n 1, 1, []), (205, .invokevirtual 659, 3, []), (208, .goto 70, 3, []), (211, .iload_n 2, 1, []), (212, .bipush 26, 2, []), (214, .if_icmp .ne 40, 3, []), (217, .aload_n 0, 1, []), (218, .aload_n 0, 1, []), (219, .getfield 194, 3, [12, 96, 1906]), (222, .aload_n 0, 1, []), (223, .getfield 541, 3, [12, 97, 1907]), (226, .iconst 1, 1, []), (227, .isub, 1, []), (228, .laload, 1, []), (229, .iload_n 3, 1, []), (230, .i2l, 1, []), (231, .lcmp, 1, []), (232, .ifCond .ne 12, 3, []), (235, .aload_n 0, 1, []), (236, .getfield 142, 3, [12, 72, 1882]), (239, .iload_n 1, 1, []), (240, .iaload, 1, []), (241, .goto 7, 3, []), (244, .aload_n 0, 1, []), (245, .getfield 569, 3, [12, 98, 1908]), (248, .putfield 569, 3, [12, 98, 1908]), (251, .goto 27, 3, []), (254, .iload_n 2, 1, []), (255, .bipush 27, 2, []), (257, .if_icmp .ne 16, 3, []), (260, .aload_n 0, 1, []), (261, .dup, 1, []), (262, .getfield 541, 3, [12, 97, 1907]), (265, .iconst 1, 1, []), (266, .isub, 1, []), (267, .putfield 541, 3, [12, 97, 1907]), (270, .goto 8, 3, []), (273, .aload_n 0, 1, []), (274, .iload_n 1, 1, []), (275, .invokevirtual 662, 3, []), (278, .return_, 1, [])]
abbrev cX12_leave : ByteArray := prog_14_method_91_code
def yX12_leave : MethodName := ⟨RX12, "leave", "(I)V"⟩
def rw_X12_leave : List RRow := [(0, .aload_n 0, 1, []), (1, .dup, 1, []), (2, .getfield 547, 3, [12, 89, 1899]), (5, .iconst 1, 1, []), (6, .isub, 1, []), (7, .putfield 547, 3, [12, 89, 1899]), (10, .aload_n 0, 1, []), (11, .getfield 178, 3, [12, 91, 1901]), (14, .aload_n 0, 1, []), (15, .getfield 547, 3, [12, 89, 1899]), (18, .iaload, 1, []), (19, .istore_n 2, 1, []), (20, .aload_n 0, 1, []), (21, .iload_n 2, 1, []), (22, .putfield 553, 3, [12, 87, 1897]), (25, .aload_n 0, 1, []), (26, .aload_n 0, 1, []), (27, .getfield 187, 3, [12, 94, 1904]), (30, .aload_n 0, 1, []), (31, .getfield 547, 3, [12, 89, 1899]), (34, .iaload, 1, []), (35, .putfield 569, 3, [12, 98, 1908]), (38, .iload_n 1, 1, []), (39, .ifCond .ne 11, 3, []), (42, .aload_n 0, 1, []), (43, .iconst 0, 1, []), (44, .putfield 544, 3, [12, 101, 1911]), (47, .goto 44, 3, []), (50, .aload_n 0, 1, []), (51, .getfield 160, 3, [12, 78, 1888]), (54, .iload_n 1, 1, []), (55, .baload, 1, []), (56, .ifCond .eq 35, 3, []), (59, .aload_n 0, 1, []), (60, .aload_n 0, 1, []), (61, .getfield 175, 3, [12, 86, 1896]), (64, .iload_n 2, 1, []), (65, .baload, 1, []), (66, .ifCond .ne 7, 3, []), (69, .iconst 1, 1, []), (70, .goto 4, 3, []), (73, .iconst 0, 1, []), (74, .iconst 1, 1, []), (75, .invokevirtual 556, 3, [97, 2, 12, 2434]), (78, .ifCond .ne 13, 3, []), (81, .aload_n 0, 1, []), (82, .aload_n 0, 1, []), (83, .getfield 172, 3, [12, 85, 1895]), (86, .iload_n 2, 1, []), (87, .laload, 1, []), (88, .invokevirtual 580, 3, []), (91, .return_, 1, [])]
abbrev cX11_where : ByteArray := prog_1_method_9_code
def yX11_where : MethodName := ⟨RX11, "where", "()I"⟩
def rw_X11_where : List RRow := [(0, .aload_n 0, 1, []), (1, .getfield 52, 3, [11, 6, 681]), (4, .invokevirtual 119, 3, [101, 0, 3, 1281]), (7, .ireturn, 1, [])]
abbrev cX3_errorPlace : ByteArray := prog_5_method_3_code
def yX3_errorPlace : MethodName := ⟨RX3, "errorPlace", "()I"⟩
def rw_X3_errorPlace : List RRow := [(0, .aload_n 0, 1, []), (1, .getfield 29, 3, [3, 13, 610]), (4, .ireturn, 1, [])]
abbrev cX12_where : ByteArray := prog_14_method_111_code
def yX12_where : MethodName := ⟨RX12, "where", "()I"⟩
def rw_X12_where : List RRow := [(0, .aload_n 0, 1, []), (1, .iconst 0, 1, []), (2, .putfield 210, 3, [12, 3, 1813]), (5, .aload_n 0, 1, []), (6, .getfield 197, 3, [12, 102, 1912]), (9, .ireturn, 1, [])]
abbrev cX11_written : ByteArray := prog_1_method_10_code
def yX11_written : MethodName := ⟨RX11, "written", "()I"⟩
def rw_X11_written : List RRow := [(0, .aload_n 0, 1, []), (1, .getfield 52, 3, [11, 6, 681]), (4, .invokevirtual 122, 3, [104, 0, 3, 1289]), (7, .invokevirtual 71, 3, [33, 0, 8, 701]), (10, .ireturn, 1, [])]
abbrev cX3_output : ByteArray := prog_5_method_2_code
def yX3_output : MethodName := ⟨RX3, "output", "()LTaggedPascal$Tape;"⟩
def rw_X3_output : List RRow := [(0, .aload_n 0, 1, []), (1, .getfield 12, 3, [3, 2, 599]), (4, .areturn, 1, [])]
abbrev cX12_written : ByteArray := prog_14_method_112_code
def yX12_written : MethodName := ⟨RX12, "written", "()I"⟩
def rw_X12_written : List RRow := [(0, .aload_n 0, 1, []), (1, .iconst 0, 1, []), (2, .putfield 210, 3, [12, 3, 1813]), (5, .aload_n 0, 1, []), (6, .getfield 584, 3, [12, 84, 1894]), (9, .ireturn, 1, [])]
abbrev cX11_text : ByteArray := prog_1_method_11_code
def yX11_text : MethodName := ⟨RX11, "text", "(I)J"⟩
def rw_X11_text : List RRow := [(0, .lconst 0, 1, []), (1, .lstore_n 2, 1, []), (2, .iconst 0, 1, []), (3, .istore 4, 2, []), (5, .iload 4, 2, []), (7, .bipush 8, 2, []), (9, .if_icmp .ge 48, 3, []), (12, .aload_n 0, 1, []), (13, .getfield 52, 3, [11, 6, 681]), (16, .invokevirtual 122, 3, [104, 0, 3, 1289]), (19, .iload_n 1, 1, []), (20, .i2l, 1, []), (21, .iload 4, 2, []), (23, .i2l, 1, []), (24, .ladd, 1, []), (25, .invokevirtual 126, 3, [41, 1, 8, 1297]), (28, .i2l, 1, []), (29, .lstore 5, 2, []), (31, .lload 5, 2, []), (33, .ldc2_w 130, 3, [18446744073709551615, 1298]), (36, .lcmp, 1, []), (37, .ifCond .eq 14, 3, []), (40, .lload_n 2, 1, []), (41, .lload 5, 2, []), (43, .bipush 8, 2, []), (45, .iload 4, 2, []), (47, .imul, 1, []), (48, .lshl, 1, []), (49, .lor, 1, []), (50, .lstore_n 2, 1, []), (51, .iinc 4 1, 3, []), (54, .goto (-49), 3, []), (57, .lload_n 2, 1, []), (58, .lreturn, 1, [])]
abbrev cX12_text : ByteArray := prog_14_method_113_code
def yX12_text : MethodName := ⟨RX12, "text", "(I)J"⟩
def rw_X12_text : List RRow := [(0, .aload_n 0, 1, []), (1, .iconst 0, 1, []), (2, .putfield 210, 3, [12, 3, 1813]), (5, .lconst 0, 1, []), (6, .lstore_n 2, 1, []), (7, .iconst 0, 1, []), (8, .istore 4, 2, []), (10, .iload 4, 2, []), (12, .bipush 8, 2, []), (14, .if_icmp .ge 57, 3, []), (17, .iload_n 1, 1, []), (18, .i2l, 1, []), (19, .iload 4, 2, []), (21, .i2l, 1, []), (22, .ladd, 1, []), (23, .lstore 5, 2, []), (25, .lload 5, 2, []), (27, .lconst 0, 1, []), (28, .lcmp, 1, []), (29, .ifCond .lt 34, 3, []), (32, .lload 5, 2, []), (34, .aload_n 0, 1, []), (35, .getfield 584, 3, [12, 84, 1894]), (38, .i2l, 1, []), (39, .lcmp, 1, []), (40, .ifCond .ge 23, 3, []), (43, .lload_n 2, 1, []), (44, .aload_n 0, 1, []), (45, .getfield 169, 3, [12, 83, 1893]), (48, .lload 5, 2, []), (50, .l2i, 1, []), (51, .iaload, 1, []), (52, .i2l, 1, []), (53, .bipush 8, 2, []), (55, .iload 4, 2, []), (57, .imul, 1, []), (58, .lshl, 1, []), (59, .lor, 1, []), (60, .goto 4, 3, []), (63, .lload_n 2, 1, []), (64, .lstore_n 2, 1, []), (65, .iinc 4 1, 3, []), (68, .goto (-58), 3, []), (71, .lload_n 2, 1, []), (72, .lreturn, 1, [])]
abbrev cL_told : ByteArray := method_5_code
def yL_told : MethodName := ⟨RL, "told", "(LTaggedPascal;I[J)I"⟩
def rw_L_told : List RRow := [(0, .aload_n 2, 1, []), (1, .iconst 0, 1, []), (2, .aload_n 0, 1, []), (3, .iload_n 1, 1, []), (4, .invokevirtual 19, 3, [109, 1, 11, 1758]), (7, .i2l, 1, []), (8, .lastore, 1, []), (9, .goto 6, 3, []), (12, .astore_n 3, 1, []), (13, .iconst 1, 1, []), (14, .ireturn, 1, []), (15, .iconst 0, 1, []), (16, .ireturn, 1, [])]
abbrev cX11_told : ByteArray := prog_1_method_12_code
def yX11_told : MethodName := ⟨RX11, "told", "(I)I"⟩
def rw_X11_told : List RRow := [(0, .iload_n 1, 1, []), (1, .tableswitch 63 0 3 #[31, 39, 47, 55], 31, []), (32, .aload_n 0, 1, []), (33, .getfield 52, 3, [11, 6, 681]), (36, .invokevirtual 132, 3, [111, 0, 3, 1762]), (39, .ireturn, 1, []), (40, .aload_n 0, 1, []), (41, .getfield 52, 3, [11, 6, 681]), (44, .invokevirtual 135, 3, [112, 0, 3, 1766]), (47, .ireturn, 1, []), (48, .aload_n 0, 1, []), (49, .getfield 52, 3, [11, 6, 681]), (52, .invokevirtual 138, 3, [113, 0, 3, 1770]), (55, .ireturn, 1, []), (56, .aload_n 0, 1, []), (57, .getfield 52, 3, [11, 6, 681]), (60, .invokevirtual 141, 3, [114, 0, 3, 1774]), (63, .ireturn, 1, []), (64, .new 64, 3, [7777, 1, 1307]), (67, .dup, 1, []), (68, .ldc 144, 2, []), (70, .invokespecial 68, 3, []), (73, .athrow, 1, [])]
abbrev cX12_told : ByteArray := prog_14_method_114_code
def yX12_told : MethodName := ⟨RX12, "told", "(I)I"⟩
def rw_X12_told : List RRow := [(0, .aload_n 0, 1, []), (1, .iload_n 1, 1, []), (2, .ifCond .lt 8, 3, []), (5, .iload_n 1, 1, []), (6, .iconst 3, 1, []), (7, .if_icmp .le 7, 3, []), (10, .iconst 1, 1, []), (11, .goto 4, 3, []), (14, .iconst 0, 1, []), (15, .putfield 210, 3, [12, 3, 1813]), (18, .aload_n 0, 1, []), (19, .getfield 210, 3, [12, 3, 1813]), (22, .ifCond .le 5, 3, []), (25, .iconst 0, 1, []), (26, .ireturn, 1, []), (27, .iload_n 1, 1, []), (28, .ifCond .ne 10, 3, []), (31, .aload_n 0, 1, []), (32, .getfield 644, 3, [12, 100, 1910]), (35, .goto 31, 3, []), (38, .iload_n 1, 1, []), (39, .iconst 1, 1, []), (40, .if_icmp .ne 10, 3, []), (43, .aload_n 0, 1, []), (44, .getfield 563, 3, [12, 90, 1900]), (47, .goto 19, 3, []), (50, .iload_n 1, 1, []), (51, .iconst 2, 1, []), (52, .if_icmp .ne 10, 3, []), (55, .aload_n 0, 1, []), (56, .getfield 560, 3, [12, 88, 1898]), (59, .goto 7, 3, []), (62, .aload_n 0, 1, []), (63, .getfield 599, 3, [12, 82, 1892]), (66, .ireturn, 1, [])]
abbrev cX3_steps : ByteArray := prog_5_method_4_code
def yX3_steps : MethodName := ⟨RX3, "steps", "()I"⟩
def rw_X3_steps : List RRow := [(0, .aload_n 0, 1, []), (1, .getfield 40, 3, [3, 15, 612]), (4, .ireturn, 1, [])]
abbrev cX3_mostBlocks : ByteArray := prog_5_method_5_code
def yX3_mostBlocks : MethodName := ⟨RX3, "mostBlocks", "()I"⟩
def rw_X3_mostBlocks : List RRow := [(0, .aload_n 0, 1, []), (1, .getfield 43, 3, [3, 16, 613]), (4, .ireturn, 1, [])]
abbrev cX3_mostCells : ByteArray := prog_5_method_6_code
def yX3_mostCells : MethodName := ⟨RX3, "mostCells", "()I"⟩
def rw_X3_mostCells : List RRow := [(0, .aload_n 0, 1, []), (1, .getfield 46, 3, [3, 17, 614]), (4, .ireturn, 1, [])]
abbrev cX3_bytesRead : ByteArray := prog_5_method_7_code
def yX3_bytesRead : MethodName := ⟨RX3, "bytesRead", "()I"⟩
def rw_X3_bytesRead : List RRow := [(0, .aload_n 0, 1, []), (1, .getfield 49, 3, [3, 18, 615]), (4, .ireturn, 1, [])]
abbrev cJ0_checkIndex_df160 : ByteArray := prog_23_method_155_code
def yJ0_checkIndex_df160 : MethodName := ⟨RJ0, "checkIndex", "(II)V"⟩
def rw_J0_checkIndex_df160 : List RRow := [(0, .iload_n 0, 1, []), (1, .iload_n 1, 1, []), (2, .getstatic 1053, 3, [1, 265]), (5, .invokestatic 1059, 3, [116, 3, 267]), (8, .pop, 1, []), (9, .return_, 1, [])]
abbrev cJ3_checkIndex_8e157 : ByteArray := prog_31_method_11_code
def yJ3_checkIndex_8e157 : MethodName := ⟨RJ3, "checkIndex", "(IILjava/util/function/BiFunction;)I"⟩
def rw_J3_checkIndex_8e157 : List RRow := [(0, .iload_n 0, 1, []), (1, .ifCond .lt 8, 3, []), (4, .iload_n 0, 1, []), (5, .iload_n 1, 1, []), (6, .if_icmp .lt 10, 3, []), (9, .aload_n 2, 1, []), (10, .iload_n 0, 1, []), (11, .iload_n 1, 1, []), (12, .invokestatic 95, 3, []), (15, .athrow, 1, []), (16, .iload_n 0, 1, []), (17, .ireturn, 1, [])]
abbrev cJ7_fill_eb02e : ByteArray := prog_29_method_110_code
def yJ7_fill_eb02e : MethodName := ⟨RJ7, "fill", "([BIIB)V"⟩
def rw_J7_fill_eb02e : List RRow := [(0, .aload_n 0, 1, []), (1, .arraylength, 1, []), (2, .iload_n 1, 1, []), (3, .iload_n 2, 1, []), (4, .invokestatic 13, 3, [118, 3, 1351]), (7, .iload_n 1, 1, []), (8, .istore 4, 2, []), (10, .iload 4, 2, []), (12, .iload_n 2, 1, []), (13, .if_icmp .ge 14, 3, []), (16, .aload_n 0, 1, []), (17, .iload 4, 2, []), (19, .iload_n 3, 1, []), (20, .bastore, 1, []), (21, .iinc 4 1, 3, []), (24, .goto (-14), 3, []), (27, .return_, 1, [])]
abbrev cJ7_rangeCheck_23922 : ByteArray := prog_29_method_30_code
def yJ7_rangeCheck_23922 : MethodName := ⟨RJ7, "rangeCheck", "(III)V"⟩
def rw_J7_rangeCheck_23922 : List RRow := [(0, .iload_n 1, 1, []), (1, .iload_n 2, 1, []), (2, .if_icmp .le 44, 3, []), (5, .new 43, 3, []), (8, .dup, 1, []), (9, .new 45, 3, []), (12, .dup, 1, []), (13, .invokespecial 47, 3, []), (16, .ldc 48, 2, []), (18, .invokevirtual 50, 3, []), (21, .iload_n 1, 1, []), (22, .invokevirtual 54, 3, []), (25, .ldc 57, 2, []), (27, .invokevirtual 50, 3, []), (30, .iload_n 2, 1, []), (31, .invokevirtual 54, 3, []), (34, .ldc 59, 2, []), (36, .invokevirtual 50, 3, []), (39, .invokevirtual 61, 3, []), (42, .invokespecial 65, 3, []), (45, .athrow, 1, []), (46, .iload_n 1, 1, []), (47, .ifCond .ge 12, 3, []), (50, .new 68, 3, []), (53, .dup, 1, []), (54, .iload_n 1, 1, []), (55, .invokespecial 70, 3, []), (58, .athrow, 1, []), (59, .iload_n 2, 1, []), (60, .iload_n 0, 1, []), (61, .if_icmp .le 12, 3, []), (64, .new 68, 3, []), (67, .dup, 1, []), (68, .iload_n 2, 1, []), (69, .invokespecial 70, 3, []), (72, .athrow, 1, []), (73, .return_, 1, [])]
def rp_inf : List RInf := [(7, 2, rw_L_law, []), (1, 0, rw_X11_init, []), (1, 0, rw_X8_init, []), (2, 0, rw_X10_init, []), (5, 0, rw_X10_encodeAll, []), (1, 1, rw_J0_length_8abf5, []), (1, 3, rw_J0_coder_7d493, []), (2, 4, rw_J0_charAt_5068e, []), (1, 2, rw_J0_isLatin1_aae02, []), (2, 4, rw_J1_charAt_3b067, []), (1, 1, rw_X10_symbol, []), (1, 0, rw_X1_init, []), (3, 0, rw_X0_init, []), (3, 0, rw_X5_init, []), (2, 0, rw_X9_init, []), (3, 0, rw_X6_init, []), (3, 0, rw_X4_init, []), (2, 6, rw_X5_ofKind, []), (4, 0, rw_X2_init, []), (5, 0, rw_X7_init, []), (3, 0, rw_X3_init, []), (2, 0, rw_X1_emit, []), (3, 0, rw_X12_init, []), (5, 5, rw_X12_packed, []), (1, 0, rw_X12_emptyProgram, []), (1, 0, rw_X12_beginProgram, []), (4, 0, rw_X12_write1, []), (5, 1, rw_X12_emit, []), (2, 0, rw_X12_keepProgram, []), (6, 1, rw_L_feed, [(0, 11, 14, 1)]), (5, 1, rw_X11_feed, []), (5, 1, rw_X12_feed, []), (1, 1, rw_X12_thrown, []), (1, 1, rw_X8_length, []), (2, 2, rw_X8_append, []), (2, 1, rw_X11_wipe, []), (1, 0, rw_X8_clear, []), (2, 1, rw_X12_wipe, []), (2, 1, rw_X11_compile, [(0, 31, 34, 2)]), (3, 0, rw_X10_scan, []), (5, 0, rw_X10_skipBlanks, []), (3, 1, rw_X8_at, []), (2, 0, rw_X10_scanWord, []), (5, 0, rw_X10_add, []), (1, 0, rw_X10_next, []), (1, 6, rw_X0_begin, []), (1, 0, rw_X5_forgetAll, []), (1, 0, rw_X7_forgetLabels, []), (1, 0, rw_X1_clear, []), (2, 1, rw_X5_openBlock, []), (1, 1, rw_X5_level, []), (4, 0, rw_X0_block, []), (1, 1, rw_X1_length, []), (3, 1, rw_X1_emitAimless, []), (5, 0, rw_X0_constants, []), (3, 2, rw_X10_takeIf, []), (2, 2, rw_X10_is, []), (4, 0, rw_X0_types, []), (6, 0, rw_X0_variables, []), (1, 2, rw_X0_isRoutine, []), (2, 0, rw_X10_take, []), (2, 0, rw_X10_fail, []), (1, 1, rw_X12_compile, []), (2, 0, rw_X12_take, []), (2, 0, rw_X12_skipBlanks, []), (2, 1, rw_X12_byteAt, []), (2, 0, rw_X12_later, []), (2, 0, rw_X12_work, []), (2, 0, rw_X12_workOfBlocks, []), (1, 0, rw_X12_block, []), (2, 0, rw_X12_actionsOrBody, []), (2, 0, rw_X12_want, []), (3, 0, rw_X12_fail, []), (1, 0, rw_X12_statements, []), (1, 1, rw_X11_fault, []), (1, 1, rw_X10_failure, []), (1, 1, rw_X12_fault, []), (1, 1, rw_X11_place, []), (1, 1, rw_X10_failedAt, []), (1, 1, rw_X12_place, []), (1, 1, rw_X11_input, []), (2, 0, rw_X8_become, []), (2, 1, rw_X12_input, []), (4, 1, rw_L_run, [(0, 9, 12, 1)]), (2, 1, rw_X11_run, []), (2, 1, rw_X12_run, []), (3, 1, rw_X3_execute, []), (2, 0, rw_X3_startAgain, []), (3, 2, rw_X3_enter, []), (5, 0, rw_X3_put, []), (2, 2, rw_X3_isCell, []), (2, 1, rw_J9_max_7cf53, []), (2, 1, rw_X3_operand, []), (2, 1, rw_X1_at, []), (4, 0, rw_X3_perform, []), (3, 0, rw_X3_control, []), (6, 2, rw_X12_open, []), (3, 2, rw_X12_isWrong, []), (4, 0, rw_X12_step, []), (3, 0, rw_X12_leave, []), (1, 1, rw_X11_where, []), (1, 1, rw_X3_errorPlace, []), (1, 1, rw_X12_where, []), (1, 1, rw_X11_written, []), (1, 6, rw_X3_output, []), (1, 1, rw_X12_written, []), (7, 5, rw_X11_text, []), (7, 5, rw_X12_text, []), (4, 1, rw_L_told, [(0, 9, 12, 1)]), (2, 1, rw_X11_told, []), (2, 1, rw_X12_told, []), (1, 1, rw_X3_steps, []), (1, 1, rw_X3_mostBlocks, []), (1, 1, rw_X3_mostCells, []), (1, 1, rw_X3_bytesRead, []), (2, 0, rw_J0_checkIndex_df160, []), (3, 1, rw_J3_checkIndex_8e157, []), (5, 0, rw_J7_fill_eb02e, []), (3, 0, rw_J7_rangeCheck_23922, [])]
end
section
/-! what the runner's values, rows and cells stand for -/
def rx_dl (rho : UInt32 → Int32) (e : UInt64) : Int64 := (rho e.toUInt32).toInt64 + Int64.ofNat (e.toNat / 4294967296)
def rx_R (old : Nat → Nat) (rho : UInt32 → Int32) (ads : List Nat) : Value → Value → Prop
  | .int x, c => c = .int x
  | .long x, c => c = .long x
  | .null, c => c = .null
  | .float i, c => ∃ x, c = .int x ∧ (i ≠ 0 → x = rho i)
  | .double e, c => ∃ x, c = .long x ∧ (e ≠ 0 → x = rx_dl rho e)
  | .ref k, c => (2000000 ≤ k ∧ (c = .null ∨ ∃ a, c = .ref a)) ∨ (1000000 ≤ k ∧ k < 2000000 ∧ c = .ref (old (k - 1000000))) ∨ (k < 1000000 ∧ ∃ a, ads[k]? = some a ∧ c = .ref a)
  | .retAddr _, _ => False
def rx_RL (old : Nat → Nat) (rho : UInt32 → Int32) (ads : List Nat) : List Value → List Value → Prop
  | [], [] => True
  | a :: as, c :: cs => rx_R old rho ads a c ∧ rx_RL old rho ads as cs
  | _, _ => False
def rx_RC (old : Nat → Nat) (rho : UInt32 → Int32) (ads : List Nat) : RLoc → RLoc → Prop
  | [], [] => True
  | a :: as, c :: cs => (a.1 = c.1 ∧ rx_R old rho ads a.2 c.2) ∧ rx_RC old rho ads as cs
  | _, _ => False
def rx_kind (t : Nat) (x : vp_A) : Prop := match t with
  | 0 => ∃ f, x.2 = .inl f
  | 1 => ∃ f, x.2 = .inr (.inl f)
  | 2 => ∃ f, x.2 = .inl f
  | 3 => ∃ f, x.2 = .inl f
  | _ => ∃ f, x.2 = .inr (.inr (.inr (.inr f)))
def rx_xv (x : vp_A) (j : Nat) : Value := match x.2 with
  | .inl f => .int (f j)
  | .inr (.inl f) => .long (f j)
  | .inr (.inr (.inl f)) => .float (f j)
  | .inr (.inr (.inr (.inl f))) => .double (f j)
  | .inr (.inr (.inr (.inr f))) => va_rf (f j)
def rx_RE (old : Nat → Nat) (rho : UInt32 → Int32) (cA : Nat → ClassId) (ads : List Nat) : RCell → va_E → Prop
  | .inl (t, n, u), .inl (c, x) => c = cA t ∧ x.1 = n ∧ rx_kind t x ∧ t < rc_arr.length ∧ ∀ j, j < n → rx_R old rho ads (rx_elt t u j) (rx_xv x j)
  | .inr (ci, fs), .inr (cj, gs) => ci = cj ∧ rx_RL old rho ads fs gs
  | _, _ => False
def rx_RW (old : Nat → Nat) (rho : UInt32 → Int32) (cA : Nat → ClassId) (ads : List Nat) : RHeap → va_W → Prop
  | [], [] => True
  | a :: h, q :: ws => rx_RE old rho cA ads a q.2 ∧ rx_RW old rho cA ads h ws
  | _, _ => False
section RelA
variable {old : Nat → Nat} {rho : UInt32 → Int32} {cA : Nat → ClassId} {ads : List Nat}
theorem rx_nth_eq {α : Type} : ∀ (l : List α) (k : Nat), rx_nth l k = l[k]?
  | [], _ => by simp [rx_nth]
  | _ :: _, 0 => by simp [rx_nth]
  | _ :: l, k + 1 => by simp [rx_nth, rx_nth_eq l k]
theorem rx_lit_eq {α : Type} (n : Nat) (k : Nat → α) : rx_lit n k = k n := by cases n <;> rfl
theorem rx_R.more {l : List Nat} {a c : Value} (h : rx_R old rho ads a c) : rx_R old rho (ads ++ l) a c := by
  cases a with
  | ref k =>
    rcases h with h | h | ⟨h1, a, h2, h3⟩
    · exact Or.inl h
    · exact Or.inr (Or.inl h)
    · refine Or.inr (Or.inr ⟨h1, a, ?_, h3⟩)
      rw [List.getElem?_append_left (List.getElem?_eq_some_iff.mp h2).1]
      exact h2
  | _ => exact h
theorem rx_RL.more {l : List Nat} : ∀ {as cs : List Value}, rx_RL old rho ads as cs → rx_RL old rho (ads ++ l) as cs
  | [], [], _ => trivial
  | _ :: _, _ :: _, h => ⟨h.1.more, rx_RL.more h.2⟩
  | [], _ :: _, h => h.elim
  | _ :: _, [], h => h.elim
theorem rx_RC.more {l : List Nat} : ∀ {as cs : RLoc}, rx_RC old rho ads as cs → rx_RC old rho (ads ++ l) as cs
  | [], [], _ => trivial
  | _ :: _, _ :: _, h => ⟨⟨h.1.1, h.1.2.more⟩, rx_RC.more h.2⟩
  | [], _ :: _, h => h.elim
  | _ :: _, [], h => h.elim
theorem rx_RE.more {l : List Nat} : ∀ {a : RCell} {e : va_E}, rx_RE old rho cA ads a e → rx_RE old rho cA (ads ++ l) a e
  | .inl (_, _, _), .inl (_, _), h => ⟨h.1, h.2.1, h.2.2.1, h.2.2.2.1, fun j hj => (h.2.2.2.2 j hj).more⟩
  | .inr (_, _), .inr (_, _), h => ⟨h.1, h.2.more⟩
  | .inl _, .inr _, h => h.elim
  | .inr _, .inl _, h => h.elim
theorem rx_RW.more {l : List Nat} : ∀ {h : RHeap} {ws : va_W}, rx_RW old rho cA ads h ws → rx_RW old rho cA (ads ++ l) h ws
  | [], [], _ => trivial
  | _ :: _, _ :: _, h => ⟨h.1.more, rx_RW.more h.2⟩
  | [], _ :: _, h => h.elim
  | _ :: _, [], h => h.elim
theorem rx_RW.len : ∀ {h : RHeap} {ws : va_W}, rx_RW old rho cA ads h ws → h.length = ws.length
  | [], [], _ => rfl
  | _ :: _, _ :: _, h => by simp [rx_RW.len h.2]
  | [], _ :: _, h => h.elim
  | _ :: _, [], h => h.elim
theorem rx_RW.get : ∀ {h : RHeap} {ws : va_W} {k : Nat} {a : RCell}, rx_RW old rho cA ads h ws → h[k]? = some a → ∃ q, ws[k]? = some q ∧ rx_RE old rho cA ads a q.2
  | [], _, _, _, _, hk => by simp at hk
  | _ :: _, q :: _, 0, _, h, hk => ⟨q, by simp, by simp at hk; exact hk ▸ h.1⟩
  | _ :: _, _ :: _, k + 1, a, h, hk => by
    simp at hk
    obtain ⟨q, h1, h2⟩ := rx_RW.get h.2 hk
    exact ⟨q, by simpa using h1, h2⟩
  | _ :: _, [], _, _, h, _ => h.elim
theorem rx_RW.set : ∀ {h : RHeap} {ws : va_W} {k : Nat} {a : RCell} {q : Nat × va_E}, rx_RW old rho cA ads h ws → rx_RE old rho cA ads a q.2 → rx_RW old rho cA ads (h.set k a) (ws.set k q)
  | [], [], _, _, _, _, _ => trivial
  | _ :: _, _ :: _, 0, _, _, h, he => ⟨he, h.2⟩
  | _ :: _, _ :: _, _ + 1, _, _, h, he => ⟨h.1, rx_RW.set h.2 he⟩
  | [], _ :: _, _, _, _, h, _ => h.elim
  | _ :: _, [], _, _, _, h, _ => h.elim
theorem rx_RW.push : ∀ {h : RHeap} {ws : va_W} {a : RCell} {q : Nat × va_E}, rx_RW old rho cA ads h ws → rx_RE old rho cA ads a q.2 → rx_RW old rho cA ads (h ++ [a]) (ws ++ [q])
  | [], [], _, _, _, he => ⟨he, trivial⟩
  | _ :: _, _ :: _, _, _, h, he => ⟨h.1, rx_RW.push h.2 he⟩
  | [], _ :: _, _, _, h, _ => h.elim
  | _ :: _, [], _, _, h, _ => h.elim
theorem rx_ads_set {ws : va_W} {k : Nat} {a : Nat} {e0 e : va_E} (h : ws[k]? = some (a, e0)) : (ws.set k (a, e)).map (·.1) = ws.map (·.1) := by
  apply List.ext_getElem?
  intro i
  rw [List.getElem?_map, List.getElem?_map]
  by_cases hi : k = i
  · subst hi
    rw [List.getElem?_set_self (List.getElem?_eq_some_iff.mp h).1, h]
    rfl
  · rw [List.getElem?_set_ne hi]
theorem rx_RL.get : ∀ {fs gs : List Value} {k : Nat} {v : Value}, rx_RL old rho ads fs gs → fs[k]? = some v → ∃ g, gs[k]? = some g ∧ rx_R old rho ads v g
  | [], _, _, _, _, hk => by simp at hk
  | _ :: _, g :: _, 0, _, h, hk => ⟨g, by simp, by simp at hk; exact hk ▸ h.1⟩
  | _ :: _, _ :: _, k + 1, v, h, hk => by
    simp at hk
    obtain ⟨q, h1, h2⟩ := rx_RL.get h.2 hk
    exact ⟨q, by simpa using h1, h2⟩
  | _ :: _, [], _, _, h, _ => h.elim
theorem rx_RL.len : ∀ {fs gs : List Value}, rx_RL old rho ads fs gs → fs.length = gs.length
  | [], [], _ => rfl
  | _ :: _, _ :: _, h => by simp [rx_RL.len h.2]
  | [], _ :: _, h => h.elim
  | _ :: _, [], h => h.elim
theorem rx_RL.set : ∀ {fs gs : List Value} {k : Nat} {v g : Value}, rx_RL old rho ads fs gs → rx_R old rho ads v g → rx_RL old rho ads (fs.set k v) (gs.set k g)
  | [], [], _, _, _, _, _ => trivial
  | _ :: _, _ :: _, 0, _, _, h, he => ⟨he, h.2⟩
  | _ :: _, _ :: _, _ + 1, _, _, h, he => ⟨h.1, rx_RL.set h.2 he⟩
  | [], _ :: _, _, _, _, h, _ => h.elim
  | _ :: _, [], _, _, _, h, _ => h.elim
theorem rx_RL.app : ∀ {fs gs fs' gs' : List Value}, rx_RL old rho ads fs gs → rx_RL old rho ads fs' gs' → rx_RL old rho ads (fs ++ fs') (gs ++ gs')
  | [], [], _, _, _, h => h
  | _ :: _, _ :: _, _, _, h, h' => ⟨h.1, rx_RL.app h.2 h'⟩
  | [], _ :: _, _, _, h, _ => h.elim
  | _ :: _, [], _, _, h, _ => h.elim
theorem rx_R.cat {a c : Value} (h : rx_R old rho ads a c) : a.category = c.category := by
  cases a with
  | int x => cases h; rfl
  | long x => cases h; rfl
  | null => cases h; rfl
  | float i => obtain ⟨x, rfl, -⟩ := h; rfl
  | double i => obtain ⟨x, rfl, -⟩ := h; rfl
  | ref k =>
    rcases h with ⟨-, rfl | ⟨a, rfl⟩⟩ | ⟨-, -, rfl⟩ | ⟨-, a, -, rfl⟩ <;> rfl
  | retAddr _ => exact h.elim
theorem rx_RL.cats : ∀ {fs gs : List Value}, rx_RL old rho ads fs gs → rx_cats fs = (gs.map fun v => v.category).sum
  | [], [], _ => rfl
  | _ :: _, _ :: _, h => by simp [rx_cats, h.1.cat, rx_RL.cats h.2]
  | [], _ :: _, h => h.elim
  | _ :: _, [], h => h.elim
theorem rx_RC.look : ∀ {la lc : RLoc} {i : Nat} {v : Value}, rx_RC old rho ads la lc → rx_look la i = some v → ∃ c, (i, c) ∈ lc ∧ rx_R old rho ads v c
  | [], _, _, _, _, hk => by simp [rx_look] at hk
  | (j, w) :: la, (j', c) :: lc, i, v, h, hk => by
    unfold rx_look at hk
    split at hk
    · rename_i hj
      have hj := Nat.eq_of_beq_eq_true hj
      cases hk
      have h1 : j = j' := h.1.1
      exact ⟨c, by rw [← hj, h1]; exact List.mem_cons_self, h.1.2⟩
    · obtain ⟨c, h1, h2⟩ := rx_RC.look h.2 hk
      exact ⟨c, List.mem_cons_of_mem _ h1, h2⟩
  | _ :: _, [], _, _, h, _ => h.elim
theorem rx_RC.filter (f : Nat → Nat → Bool) : ∀ {la lc : RLoc}, rx_RC old rho ads la lc → rx_RC old rho ads (la.filter fun q => f q.1 q.2.category) (lc.filter fun q => f q.1 q.2.category)
  | [], [], _ => trivial
  | a :: la, c :: lc, h => by
    have h1 : a.1 = c.1 := h.1.1
    have h2 := h.1.2.cat
    simp only [List.filter_cons, h1, h2]
    split
    · exact ⟨h.1, rx_RC.filter f h.2⟩
    · exact rx_RC.filter f h.2
  | [], _ :: _, h => h.elim
  | _ :: _, [], h => h.elim
theorem rx_RC.entry : ∀ {as cs : List Value} {i : Nat}, rx_RL old rho ads as cs → rx_RC old rho ads (lv_args i as) (lv_args i cs)
  | [], [], _, _ => trivial
  | _ :: _, _ :: _, i, h => by
    simp only [lv_args, h.1.cat]
    exact ⟨⟨rfl, h.1⟩, rx_RC.entry h.2⟩
  | [], _ :: _, _, h => h.elim
  | _ :: _, [], _, h => h.elim
theorem rx_R.isI {a c : Value} (h : rx_R old rho ads a c) (hi : rx_isI a = true) : ∃ x, c = .int x := by
  cases a with
  | int x => exact ⟨x, h⟩
  | float i => obtain ⟨x, h1, -⟩ := h; exact ⟨x, h1⟩
  | _ => cases hi
theorem rx_R.isL {a c : Value} (h : rx_R old rho ads a c) (hi : rx_isL a = true) : ∃ x, c = .long x := by
  cases a with
  | long x => exact ⟨x, h⟩
  | double i => obtain ⟨x, hx, -⟩ := h; exact ⟨x, hx⟩
  | _ => cases hi
theorem rx_R.isA {a c : Value} (h : rx_R old rho ads a c) (hi : rx_isA a = true) : c = .null ∨ ∃ x, c = .ref x := by
  cases a with
  | null => exact Or.inl h
  | ref k =>
    rcases h with ⟨-, h⟩ | ⟨-, -, h⟩ | ⟨-, a, -, h⟩
    · exact h
    · exact Or.inr ⟨_, h⟩
    · exact Or.inr ⟨_, h⟩
  | _ => cases hi
theorem rx_R.anyI {x : Int32} : rx_R old rho ads (.float 0) (.int x) := ⟨x, rfl, fun h => absurd rfl h⟩
theorem rx_R.ib {f : Int32 → Int32 → Int32} {a b : Value} {x y : Int32} (ha : rx_R old rho ads a (.int x)) (hb : rx_R old rho ads b (.int y)) : rx_R old rho ads (rx_ib f a b) (.int (f x y)) := by
  unfold rx_ib
  split
  · cases ha; cases hb; rfl
  · exact rx_R.anyI
theorem rx_R.iu {f : Int32 → Int32} {a : Value} {x : Int32} (ha : rx_R old rho ads a (.int x)) : rx_R old rho ads (rx_iu f a) (.int (f x)) := by
  unfold rx_iu
  split
  · cases ha; rfl
  · exact rx_R.anyI
theorem rx_R.anyL {x : Int64} : rx_R old rho ads (.double 0) (.long x) := ⟨x, rfl, fun h => absurd rfl h⟩
theorem rx_R.lb {f : Int64 → Int64 → Int64} {a b : Value} {x y : Int64} (ha : rx_R old rho ads a (.long x)) (hb : rx_R old rho ads b (.long y)) : rx_R old rho ads (rx_lb f a b) (.long (f x y)) := by
  unfold rx_lb
  split
  · cases ha; cases hb; rfl
  · exact rx_R.anyL
theorem rx_R.ls {f : Int64 → Int32 → Int64} {a b : Value} {x : Int64} {y : Int32} (ha : rx_R old rho ads a (.long x)) (hb : rx_R old rho ads b (.int y)) : rx_R old rho ads (rx_ls f a b) (.long (f x y)) := by
  unfold rx_ls
  split
  · cases ha; cases hb; rfl
  · exact rx_R.anyL
theorem rx_R.i2l {a : Value} {x : Int32} (ha : rx_R old rho ads a (.int x)) : rx_R old rho ads (rx_i2l a) (.long x.toInt64) := by
  unfold rx_i2l
  split
  · cases ha; rfl
  · rename_i i
    obtain ⟨x2, e1, e2⟩ := ha
    cases e1
    refine ⟨_, rfl, fun hi => ?_⟩
    have hi2 : i ≠ 0 := fun z => hi (by rw [z]; rfl)
    rw [e2 hi2]
    unfold rx_dl
    rw [UInt32.toUInt32_toUInt64, UInt32.toNat_toUInt64, Nat.div_eq_of_lt i.toNat_lt]
    exact (Int64.add_zero _).symm
  · exact rx_R.anyL
theorem rx_R.ladd {a b : Value} {x y : Int64} (ha : rx_R old rho ads a (.long x)) (hb : rx_R old rho ads b (.long y)) : rx_R old rho ads (rx_ladd a b) (.long (x + y)) := by
  unfold rx_ladd
  split
  · cases ha; cases hb; rfl
  · rename_i e9 y2
    split
    · rename_i h1 h2 h3 h4
      cases hb
      obtain ⟨x2, e1, e2⟩ := ha
      cases e1
      have h1 := of_decide_eq_false h1
      have h2 : e9.toNat < 4294967296 := Nat.le_of_ble_eq_true h2
      have h3 : y.toNatClampNeg < 1000 := Nat.le_of_ble_eq_true h3
      have h4 := of_decide_eq_true h4
      refine ⟨_, rfl, fun _ => ?_⟩
      have hn : (UInt64.ofNat (e9.toNat + 4294967296 * y.toNatClampNeg)).toNat = e9.toNat + 4294967296 * y.toNatClampNeg := by
        rw [UInt64.toNat_ofNat', Nat.mod_eq_of_lt]
        omega
      have h5 : (UInt64.ofNat (e9.toNat + 4294967296 * y.toNatClampNeg)).toUInt32 = e9.toUInt32 := by
        apply UInt32.toNat_inj.mp
        rw [UInt64.toNat_toUInt32, UInt64.toNat_toUInt32, hn]
        omega
      rw [e2 h1]
      unfold rx_dl
      rw [h5, hn, Nat.div_eq_of_lt h2, show (e9.toNat + 4294967296 * y.toNatClampNeg) / 4294967296 = y.toNatClampNeg by omega, h4]
      show _ + 0 + y = _
      rw [Int64.add_zero]
    · exact rx_R.anyL
  · exact rx_R.anyL
theorem rx_R.l2i {a : Value} {x : Int64} (ha : rx_R old rho ads a (.long x)) : rx_R old rho ads (rx_l2i a) (.int x.toInt32) := by
  unfold rx_l2i
  split
  · cases ha; rfl
  · exact rx_R.anyI
theorem rx_R.lc {a b : Value} {x y : Int64} (ha : rx_R old rho ads a (.long x)) (hb : rx_R old rho ads b (.long y)) : rx_R old rho ads (rx_lc a b) (.int (lg_cmp x y)) := by
  unfold rx_lc
  split
  · cases ha; cases hb; rfl
  · exact rx_R.anyI
/-- what is known of the unknown ints holds -/
def rx_FT (rho : UInt32 → Int32) (F : RFact) : Prop := ∀ q ∈ F, rx_cb q.2.1 (rho q.1) q.2.2.1 = q.2.2.2
theorem rx_fact_of {F : RFact} {i : UInt32} {c : ClassFile.Cond} {n : Int32} {b : Bool} (hF : rx_FT rho F) (h : rx_fact F i c n = some b) : rx_cb c (rho i) n = b := by
  induction F with
  | nil => simp [rx_fact] at h
  | cons q F ih =>
    obtain ⟨i', c', n', b'⟩ := q
    unfold rx_fact at h
    split at h
    · rename_i h1 h2 h3
      cases h
      rw [← of_decide_eq_true h1, ← of_decide_eq_true h2, ← of_decide_eq_true h3]
      exact hF _ List.mem_cons_self
    · exact ih (fun q hq => hF q (List.mem_cons_of_mem _ hq)) h
theorem rx_cmp_of {F : RFact} {c : ClassFile.Cond} {a b : Value} {x y : Int32} {r : Bool} (hF : rx_FT rho F) (ha : rx_R old rho ads a (.int x)) (hb : rx_R old rho ads b (.int y)) (h : rx_cmp F c a b = some r) : rx_cb c x y = r := by
  unfold rx_cmp at h
  split at h
  · cases ha; cases hb; exact Option.some.inj h
  · split at h
    · cases h
    · rename_i i y' hi
      cases hb
      obtain ⟨x', h1, h2⟩ := ha
      cases h1
      rw [h2 (of_decide_eq_false hi)]
      exact rx_fact_of hF h
  · cases h
/-- .. and of the masks and of the longs -/
def rx_FT2 (rho : UInt32 → Int32) (F : RFacts) : Prop := rx_FT rho F.1 ∧ (∀ q ∈ F.2.1, rho q.1 &&& q.2.1 = q.2.2) ∧ ∀ q ∈ F.2.2, lg_cmp (rx_dl rho q.1) q.2.1 = q.2.2
theorem rx_lfact_of {F : List (UInt64 × Int64 × Int32)} {i : UInt64} {n : Int64} {r : Int32} (hF : ∀ q ∈ F, lg_cmp (rx_dl rho q.1) q.2.1 = q.2.2) (h : rx_lfact F i n = some r) : lg_cmp (rx_dl rho i) n = r := by
  induction F with
  | nil => simp [rx_lfact] at h
  | cons q F ih =>
    obtain ⟨i', n', r'⟩ := q
    unfold rx_lfact at h
    split at h
    · rename_i h1 h2
      cases h
      have e1 := of_decide_eq_true h1
      have e2 := of_decide_eq_true h2
      subst e1 e2
      have h9 := hF (i', n', r) List.mem_cons_self
      exact h9
    · exact ih (fun q hq => hF q (List.mem_cons_of_mem _ hq)) h
theorem rx_R.lcA {F : List (UInt64 × Int64 × Int32)} (hF : ∀ q ∈ F, lg_cmp (rx_dl rho q.1) q.2.1 = q.2.2) {a b : Value} {x y : Int64} (ha : rx_R old rho ads a (.long x)) (hb : rx_R old rho ads b (.long y)) : rx_R old rho ads (rx_lcA F a b) (.int (lg_cmp x y)) := by
  unfold rx_lcA
  split
  · cases ha; cases hb; rfl
  · rename_i e9 y2
    split
    · rename_i h1 h2
      cases hb
      obtain ⟨x2, e1, e2⟩ := ha
      cases e1
      rw [e2 (of_decide_eq_false h1), rx_lfact_of hF h2]
      rfl
    · exact rx_R.anyI
  · exact rx_R.anyI
theorem rx_mask_of {F : List (UInt32 × Int32 × Int32)} {i : UInt32} {n r : Int32} (hF : ∀ q ∈ F, rho q.1 &&& q.2.1 = q.2.2) (h : rx_mask F i n = some r) : rho i &&& n = r := by
  induction F with
  | nil => simp [rx_mask] at h
  | cons q F ih =>
    obtain ⟨i', n', r'⟩ := q
    unfold rx_mask at h
    split at h
    · rename_i h1 h2
      cases h
      rw [← of_decide_eq_true h1, ← of_decide_eq_true h2]
      exact hF _ List.mem_cons_self
    · exact ih (fun q hq => hF q (List.mem_cons_of_mem _ hq)) h
theorem rx_R.iand {F : List (UInt32 × Int32 × Int32)} (hF : ∀ q ∈ F, rho q.1 &&& q.2.1 = q.2.2) {a b : Value} {x y : Int32} (ha : rx_R old rho ads a (.int x)) (hb : rx_R old rho ads b (.int y)) : rx_R old rho ads (rx_iand F a b) (.int (x &&& y)) := by
  unfold rx_iand
  split
  · cases ha; cases hb; rfl
  · rename_i i y2
    split
    · rename_i h1 h2
      cases hb
      obtain ⟨x2, e1, e2⟩ := ha
      cases e1
      rw [e2 (of_decide_eq_false h1), rx_mask_of hF h2]
      rfl
    · exact rx_R.anyI
  · exact rx_R.anyI
end RelA
end
section
theorem rx_RL.uncons {old : Nat → Nat} {rho : UInt32 → Int32} {ads : List Nat} {a : Value} {as cs : List Value} (h : rx_RL old rho ads (a :: as) cs) : ∃ c cs2, cs = c :: cs2 ∧ rx_R old rho ads a c ∧ rx_RL old rho ads as cs2 := by
  cases cs with
  | nil => exact h.elim
  | cons c cs => exact ⟨c, cs, rfl, h.1, h.2⟩
/-! the frame that the runner's state stands for, and one row for each plain instruction: from the row behind it to the row itself -/
def rx_Rel (s : State) (D : va_G) (cA : Nat → ClassId) (A : Nat → Prop) (old : Nat → Nat) (rho : UInt32 → Int32) (nL : Nat) (ad0 : List Nat) (la : RLoc) (st : List Value) (h : RHeap) (H : Heap) (locs : List Loc) (ls : Array Slot) (cst : List Value) : Prop :=
  ∃ (ws : va_W) (lc : RLoc), rx_RW old rho cA (ws.map (·.1)) h ws ∧ va_P D rc_cls ws H ∧ va_D A ws ∧ va_S A s.heap H locs ∧ lv_has ls nL lc ∧ rx_RC old rho (ws.map (·.1)) la lc ∧ rx_RL old rho (ws.map (·.1)) st cst ∧ ∃ l, ws.map (·.1) = ad0 ++ l
def rx_G (p : Program) (l : Launch) (e : Env) (R : Room) (s : State) (m : MethodId) (args : Array Value) (below : List Frame) (meth : Method) (c : Code) (Q : State → Prop) (D : va_G) (cA : Nat → ClassId) (A : Nat → Prop) (old : Nat → Nat) (rho : UInt32 → Int32) (nL MC MS : Nat) (ad0 : List Nat) (pc : Nat) (la : RLoc) (st : List Value) (h : RHeap) (mc ms : Nat) : Prop :=
  ∀ (H : Heap) (locs : List Loc) (ls : Array Slot) (cst : List Value) (cells slots : Nat), rx_Rel s D cA A old rho nL ad0 la st h H locs ls cst → cells + mc = MC → slots + ms = MS → W p l e R s m args below meth c H locs cells slots Q (F0 m pc ls cst)
section RowsA
variable {p : Program} {l : Launch} {e : Env} {R : Room} {s : State} {m : MethodId} {args : Array Value} {below : List Frame} {meth : Method} {c : Code} {Q : State → Prop} {cc : ByteArray} {D : va_G} {cA : Nat → ClassId} {A : Nat → Prop} {old : Nat → Nat} {rho : UInt32 → Int32} {nL MC MS pc mc ms : Nat} {ad0 : List Nat} {la : RLoc} {st : List Value} {h : RHeap}
theorem rg_iload_n (hx : p.tables.exec = Jvm.exec) (hb : c.code = cc) {k : Fin 4} (hdg : decode cc pc = .ok (.iload_n k, 1)) {v : Value} (hv : rx_look la k = some v) (hi : rx_isI v = true) (kk : rx_G p l e R s m args below meth c Q D cA A old rho nL MC MS ad0 (pc + 1) la (v :: st) h mc ms) : rx_G p l e R s m args below meth c Q D cA A old rho nL MC MS ad0 pc la st h mc ms := by
  intro H locs ls cst cells slots hR h1 h2
  obtain ⟨ws, lc, r1, r2, r3, r4, r5, r6, r7, r8⟩ := hR
  obtain ⟨cv, hm, hr⟩ := r6.look hv
  obtain ⟨x, rfl⟩ := hr.isI hi
  exact lv_iload_n hx hb hdg rfl (r5.2.2 _ hm) (kk H locs ls _ cells slots ⟨ws, lc, r1, r2, r3, r4, r5, r6, ⟨hr, r7⟩, r8⟩ h1 h2)
theorem rg_iload (hx : p.tables.exec = Jvm.exec) (hb : c.code = cc) {i : Nat} (hdg : decode cc pc = .ok (.iload i, 2)) {v : Value} (hv : rx_look la i = some v) (hi : rx_isI v = true) (kk : rx_G p l e R s m args below meth c Q D cA A old rho nL MC MS ad0 (pc + 2) la (v :: st) h mc ms) : rx_G p l e R s m args below meth c Q D cA A old rho nL MC MS ad0 pc la st h mc ms := by
  intro H locs ls cst cells slots hR h1 h2
  obtain ⟨ws, lc, r1, r2, r3, r4, r5, r6, r7, r8⟩ := hR
  obtain ⟨cv, hm, hr⟩ := r6.look hv
  obtain ⟨x, rfl⟩ := hr.isI hi
  exact lv_iload hx hb hdg (r5.2.2 _ hm) (kk H locs ls _ cells slots ⟨ws, lc, r1, r2, r3, r4, r5, r6, ⟨hr, r7⟩, r8⟩ h1 h2)
theorem rg_lload_n (hx : p.tables.exec = Jvm.exec) (hb : c.code = cc) {k : Fin 4} (hdg : decode cc pc = .ok (.lload_n k, 1)) {v : Value} (hv : rx_look la k = some v) (hi : rx_isL v = true) (kk : rx_G p l e R s m args below meth c Q D cA A old rho nL MC MS ad0 (pc + 1) la (v :: st) h mc ms) : rx_G p l e R s m args below meth c Q D cA A old rho nL MC MS ad0 pc la st h mc ms := by
  intro H locs ls cst cells slots hR h1 h2
  obtain ⟨ws, lc, r1, r2, r3, r4, r5, r6, r7, r8⟩ := hR
  obtain ⟨cv, hm, hr⟩ := r6.look hv
  obtain ⟨x, rfl⟩ := hr.isL hi
  exact lv_lload_n hx hb hdg rfl (r5.2.2 _ hm) (kk H locs ls _ cells slots ⟨ws, lc, r1, r2, r3, r4, r5, r6, ⟨hr, r7⟩, r8⟩ h1 h2)
theorem rg_lload (hx : p.tables.exec = Jvm.exec) (hb : c.code = cc) {i : Nat} (hdg : decode cc pc = .ok (.lload i, 2)) {v : Value} (hv : rx_look la i = some v) (hi : rx_isL v = true) (kk : rx_G p l e R s m args below meth c Q D cA A old rho nL MC MS ad0 (pc + 2) la (v :: st) h mc ms) : rx_G p l e R s m args below meth c Q D cA A old rho nL MC MS ad0 pc la st h mc ms := by
  intro H locs ls cst cells slots hR h1 h2
  obtain ⟨ws, lc, r1, r2, r3, r4, r5, r6, r7, r8⟩ := hR
  obtain ⟨cv, hm, hr⟩ := r6.look hv
  obtain ⟨x, rfl⟩ := hr.isL hi
  exact lv_lload hx hb hdg (r5.2.2 _ hm) (kk H locs ls _ cells slots ⟨ws, lc, r1, r2, r3, r4, r5, r6, ⟨hr, r7⟩, r8⟩ h1 h2)
theorem rg_aload_n (hx : p.tables.exec = Jvm.exec) (hb : c.code = cc) {k : Fin 4} (hdg : decode cc pc = .ok (.aload_n k, 1)) {v : Value} (hv : rx_look la k = some v) (hi : rx_isA v = true) (kk : rx_G p l e R s m args below meth c Q D cA A old rho nL MC MS ad0 (pc + 1) la (v :: st) h mc ms) : rx_G p l e R s m args below meth c Q D cA A old rho nL MC MS ad0 pc la st h mc ms := by
  intro H locs ls cst cells slots hR h1 h2
  obtain ⟨ws, lc, r1, r2, r3, r4, r5, r6, r7, r8⟩ := hR
  obtain ⟨cv, hm, hr⟩ := r6.look hv
  rcases hr.isA hi with rfl | ⟨x, rfl⟩
  · exact lv_aload_nN hx hb hdg rfl (r5.2.2 _ hm) (kk H locs ls _ cells slots ⟨ws, lc, r1, r2, r3, r4, r5, r6, ⟨hr, r7⟩, r8⟩ h1 h2)
  · exact lv_aload_n hx hb hdg rfl (r5.2.2 _ hm) (kk H locs ls _ cells slots ⟨ws, lc, r1, r2, r3, r4, r5, r6, ⟨hr, r7⟩, r8⟩ h1 h2)
theorem rg_aload (hx : p.tables.exec = Jvm.exec) (hb : c.code = cc) {i : Nat} (hdg : decode cc pc = .ok (.aload i, 2)) {v : Value} (hv : rx_look la i = some v) (hi : rx_isA v = true) (kk : rx_G p l e R s m args below meth c Q D cA A old rho nL MC MS ad0 (pc + 2) la (v :: st) h mc ms) : rx_G p l e R s m args below meth c Q D cA A old rho nL MC MS ad0 pc la st h mc ms := by
  intro H locs ls cst cells slots hR h1 h2
  obtain ⟨ws, lc, r1, r2, r3, r4, r5, r6, r7, r8⟩ := hR
  obtain ⟨cv, hm, hr⟩ := r6.look hv
  rcases hr.isA hi with rfl | ⟨x, rfl⟩
  · exact lv_aloadN hx hb hdg (r5.2.2 _ hm) (kk H locs ls _ cells slots ⟨ws, lc, r1, r2, r3, r4, r5, r6, ⟨hr, r7⟩, r8⟩ h1 h2)
  · exact lv_aload hx hb hdg (r5.2.2 _ hm) (kk H locs ls _ cells slots ⟨ws, lc, r1, r2, r3, r4, r5, r6, ⟨hr, r7⟩, r8⟩ h1 h2)
theorem rg_istore_n (hx : p.tables.exec = Jvm.exec) (hb : c.code = cc) {k : Fin 4} (hdg : decode cc pc = .ok (.istore_n k, 1)) {v : Value} (hi : rx_isI v = true) (hn : (k : Nat) < nL) (kk : rx_G p l e R s m args below meth c Q D cA A old rho nL MC MS ad0 (pc + 1) (rx_lst la k v) st h mc ms) : rx_G p l e R s m args below meth c Q D cA A old rho nL MC MS ad0 pc la (v :: st) h mc ms := by
  intro H locs ls cst0 cells slots hR h1 h2
  obtain ⟨ws, lc, r1, r2, r3, r4, r5, r6, r7, r8⟩ := hR
  obtain ⟨cv, cst, rfl, hr, q7⟩ := rx_RL.uncons r7
  obtain ⟨x, rfl⟩ := hr.isI hi
  exact lv_istore_n hx hb hdg rfl r5 hn rfl (fun ls2 r5 => kk H locs ls2 _ cells slots ⟨ws, _, r1, r2, r3, r4, r5, ⟨⟨rfl, hr⟩, rx_RC.filter (fun a b => !(a == (k : Nat)) && !(a + 1 == (k : Nat) && b == 2)) r6⟩, q7, r8⟩ h1 h2)
theorem rg_istore (hx : p.tables.exec = Jvm.exec) (hb : c.code = cc) {i : Nat} (hdg : decode cc pc = .ok (.istore i, 2)) {v : Value} (hi : rx_isI v = true) (hn : i < nL) (kk : rx_G p l e R s m args below meth c Q D cA A old rho nL MC MS ad0 (pc + 2) (rx_lst la i v) st h mc ms) : rx_G p l e R s m args below meth c Q D cA A old rho nL MC MS ad0 pc la (v :: st) h mc ms := by
  intro H locs ls cst0 cells slots hR h1 h2
  obtain ⟨ws, lc, r1, r2, r3, r4, r5, r6, r7, r8⟩ := hR
  obtain ⟨cv, cst, rfl, hr, q7⟩ := rx_RL.uncons r7
  obtain ⟨x, rfl⟩ := hr.isI hi
  exact lv_istore hx hb hdg r5 hn rfl (fun ls2 r5 => kk H locs ls2 _ cells slots ⟨ws, _, r1, r2, r3, r4, r5, ⟨⟨rfl, hr⟩, rx_RC.filter (fun a b => !(a == i) && !(a + 1 == i && b == 2)) r6⟩, q7, r8⟩ h1 h2)
theorem rg_lstore_n (hx : p.tables.exec = Jvm.exec) (hb : c.code = cc) {k : Fin 4} (hdg : decode cc pc = .ok (.lstore_n k, 1)) {v : Value} (hi : rx_isL v = true) (hn : (k : Nat) + 1 < nL) (kk : rx_G p l e R s m args below meth c Q D cA A old rho nL MC MS ad0 (pc + 1) (rx_lst2 la k v) st h mc ms) : rx_G p l e R s m args below meth c Q D cA A old rho nL MC MS ad0 pc la (v :: st) h mc ms := by
  intro H locs ls cst0 cells slots hR h1 h2
  obtain ⟨ws, lc, r1, r2, r3, r4, r5, r6, r7, r8⟩ := hR
  obtain ⟨cv, cst, rfl, hr, q7⟩ := rx_RL.uncons r7
  obtain ⟨x, rfl⟩ := hr.isL hi
  exact lv_lstore_n hx hb hdg rfl r5 hn rfl (fun ls2 r5 => kk H locs ls2 _ cells slots ⟨ws, _, r1, r2, r3, r4, r5, ⟨⟨rfl, hr⟩, rx_RC.filter (fun a b => !(a == (k : Nat)) && (!(a == (k : Nat) + 1) && !(a + 1 == (k : Nat) && b == 2))) r6⟩, q7, r8⟩ h1 h2)
theorem rg_lstore (hx : p.tables.exec = Jvm.exec) (hb : c.code = cc) {i : Nat} (hdg : decode cc pc = .ok (.lstore i, 2)) {v : Value} (hi : rx_isL v = true) (hn : i + 1 < nL) (kk : rx_G p l e R s m args below meth c Q D cA A old rho nL MC MS ad0 (pc + 2) (rx_lst2 la i v) st h mc ms) : rx_G p l e R s m args below meth c Q D cA A old rho nL MC MS ad0 pc la (v :: st) h mc ms := by
  intro H locs ls cst0 cells slots hR h1 h2
  obtain ⟨ws, lc, r1, r2, r3, r4, r5, r6, r7, r8⟩ := hR
  obtain ⟨cv, cst, rfl, hr, q7⟩ := rx_RL.uncons r7
  obtain ⟨x, rfl⟩ := hr.isL hi
  exact lv_lstore hx hb hdg r5 hn rfl (fun ls2 r5 => kk H locs ls2 _ cells slots ⟨ws, _, r1, r2, r3, r4, r5, ⟨⟨rfl, hr⟩, rx_RC.filter (fun a b => !(a == i) && (!(a == i + 1) && !(a + 1 == i && b == 2))) r6⟩, q7, r8⟩ h1 h2)
theorem rg_astore_n (hx : p.tables.exec = Jvm.exec) (hb : c.code = cc) {k : Fin 4} (hdg : decode cc pc = .ok (.astore_n k, 1)) {v : Value} (hi : rx_isA v = true) (hn : (k : Nat) < nL) (kk : rx_G p l e R s m args below meth c Q D cA A old rho nL MC MS ad0 (pc + 1) (rx_lst la k v) st h mc ms) : rx_G p l e R s m args below meth c Q D cA A old rho nL MC MS ad0 pc la (v :: st) h mc ms := by
  intro H locs ls cst0 cells slots hR h1 h2
  obtain ⟨ws, lc, r1, r2, r3, r4, r5, r6, r7, r8⟩ := hR
  obtain ⟨cv, cst, rfl, hr, q7⟩ := rx_RL.uncons r7
  rcases hr.isA hi with rfl | ⟨x, rfl⟩
  · exact lv_astore_nN hx hb hdg rfl r5 hn rfl (fun ls2 r5 => kk H locs ls2 _ cells slots ⟨ws, _, r1, r2, r3, r4, r5, ⟨⟨rfl, hr⟩, rx_RC.filter (fun a b => !(a == (k : Nat)) && !(a + 1 == (k : Nat) && b == 2)) r6⟩, q7, r8⟩ h1 h2)
  · exact lv_astore_n hx hb hdg rfl r5 hn rfl (fun ls2 r5 => kk H locs ls2 _ cells slots ⟨ws, _, r1, r2, r3, r4, r5, ⟨⟨rfl, hr⟩, rx_RC.filter (fun a b => !(a == (k : Nat)) && !(a + 1 == (k : Nat) && b == 2)) r6⟩, q7, r8⟩ h1 h2)
theorem rg_astore (hx : p.tables.exec = Jvm.exec) (hb : c.code = cc) {i : Nat} (hdg : decode cc pc = .ok (.astore i, 2)) {v : Value} (hi : rx_isA v = true) (hn : i < nL) (kk : rx_G p l e R s m args below meth c Q D cA A old rho nL MC MS ad0 (pc + 2) (rx_lst la i v) st h mc ms) : rx_G p l e R s m args below meth c Q D cA A old rho nL MC MS ad0 pc la (v :: st) h mc ms := by
  intro H locs ls cst0 cells slots hR h1 h2
  obtain ⟨ws, lc, r1, r2, r3, r4, r5, r6, r7, r8⟩ := hR
  obtain ⟨cv, cst, rfl, hr, q7⟩ := rx_RL.uncons r7
  rcases hr.isA hi with rfl | ⟨x, rfl⟩
  · exact lv_astoreN hx hb hdg r5 hn rfl (fun ls2 r5 => kk H locs ls2 _ cells slots ⟨ws, _, r1, r2, r3, r4, r5, ⟨⟨rfl, hr⟩, rx_RC.filter (fun a b => !(a == i) && !(a + 1 == i && b == 2)) r6⟩, q7, r8⟩ h1 h2)
  · exact lv_astore hx hb hdg r5 hn rfl (fun ls2 r5 => kk H locs ls2 _ cells slots ⟨ws, _, r1, r2, r3, r4, r5, ⟨⟨rfl, hr⟩, rx_RC.filter (fun a b => !(a == i) && !(a + 1 == i && b == 2)) r6⟩, q7, r8⟩ h1 h2)
theorem rg_iinc (hx : p.tables.exec = Jvm.exec) (hb : c.code = cc) {i : Nat} {n : Int} {x : Int32} (hdg : decode cc pc = .ok (.iinc i n, 3)) (hv : rx_look la i = some (.int x)) (hn : i < nL) (kk : rx_G p l e R s m args below meth c Q D cA A old rho nL MC MS ad0 (pc + 3) (rx_lst la i (.int (x + Int32.ofInt n))) st h mc ms) : rx_G p l e R s m args below meth c Q D cA A old rho nL MC MS ad0 pc la st h mc ms := by
  intro H locs ls cst cells slots hR h1 h2
  obtain ⟨ws, lc, r1, r2, r3, r4, r5, r6, r7, r8⟩ := hR
  obtain ⟨cv, hm, hr⟩ := r6.look hv
  cases hr
  obtain ⟨k, hk⟩ := List.getElem?_of_mem hm
  exact lv_iinc hx hb hdg r5 hk rfl hn rfl (fun ls2 r5 => kk H locs ls2 _ cells slots ⟨ws, _, r1, r2, r3, r4, r5, ⟨⟨rfl, rfl⟩, rx_RC.filter (fun a b => !(a == i) && !(a + 1 == i && b == 2)) r6⟩, r7, r8⟩ h1 h2)
theorem rg_iconst (hx : p.tables.exec = Jvm.exec) (hb : c.code = cc) {n : Int} (hdg : decode cc pc = .ok (.iconst n, 1)) (kk : rx_G p l e R s m args below meth c Q D cA A old rho nL MC MS ad0 (pc + 1) la (.int (Int32.ofInt n) :: st) h mc ms) : rx_G p l e R s m args below meth c Q D cA A old rho nL MC MS ad0 pc la st h mc ms := by
  intro H locs ls cst cells slots hR h1 h2
  obtain ⟨ws, lc, r1, r2, r3, r4, r5, r6, r7, r8⟩ := hR
  exact lv_iconst hx hb hdg rfl (kk H locs ls _ cells slots ⟨ws, lc, r1, r2, r3, r4, r5, r6, ⟨rfl, r7⟩, r8⟩ h1 h2)
theorem rg_bipush (hx : p.tables.exec = Jvm.exec) (hb : c.code = cc) {n : Int} (hdg : decode cc pc = .ok (.bipush n, 2)) (kk : rx_G p l e R s m args below meth c Q D cA A old rho nL MC MS ad0 (pc + 2) la (.int (Int8.ofInt n).toInt32 :: st) h mc ms) : rx_G p l e R s m args below meth c Q D cA A old rho nL MC MS ad0 pc la st h mc ms := by
  intro H locs ls cst cells slots hR h1 h2
  obtain ⟨ws, lc, r1, r2, r3, r4, r5, r6, r7, r8⟩ := hR
  exact lv_bipush hx hb hdg rfl (kk H locs ls _ cells slots ⟨ws, lc, r1, r2, r3, r4, r5, r6, ⟨rfl, r7⟩, r8⟩ h1 h2)
theorem rg_sipush (hx : p.tables.exec = Jvm.exec) (hb : c.code = cc) {n : Int} (hdg : decode cc pc = .ok (.sipush n, 3)) (kk : rx_G p l e R s m args below meth c Q D cA A old rho nL MC MS ad0 (pc + 3) la (.int (Int16.ofInt n).toInt32 :: st) h mc ms) : rx_G p l e R s m args below meth c Q D cA A old rho nL MC MS ad0 pc la st h mc ms := by
  intro H locs ls cst cells slots hR h1 h2
  obtain ⟨ws, lc, r1, r2, r3, r4, r5, r6, r7, r8⟩ := hR
  exact lv_sipush hx hb hdg rfl (kk H locs ls _ cells slots ⟨ws, lc, r1, r2, r3, r4, r5, r6, ⟨rfl, r7⟩, r8⟩ h1 h2)
theorem rg_lconst (hx : p.tables.exec = Jvm.exec) (hb : c.code = cc) {n : Fin 2} (hdg : decode cc pc = .ok (.lconst n, 1)) (kk : rx_G p l e R s m args below meth c Q D cA A old rho nL MC MS ad0 (pc + 1) la (.long (Int64.ofNat (n : Nat)) :: st) h mc ms) : rx_G p l e R s m args below meth c Q D cA A old rho nL MC MS ad0 pc la st h mc ms := by
  intro H locs ls cst cells slots hR h1 h2
  obtain ⟨ws, lc, r1, r2, r3, r4, r5, r6, r7, r8⟩ := hR
  exact lv_lconst hx hb hdg rfl (kk H locs ls _ cells slots ⟨ws, lc, r1, r2, r3, r4, r5, r6, ⟨rfl, r7⟩, r8⟩ h1 h2)
theorem rg_aconst_null (hx : p.tables.exec = Jvm.exec) (hb : c.code = cc)  (hdg : decode cc pc = .ok (.aconst_null, 1)) (kk : rx_G p l e R s m args below meth c Q D cA A old rho nL MC MS ad0 (pc + 1) la (.null :: st) h mc ms) : rx_G p l e R s m args below meth c Q D cA A old rho nL MC MS ad0 pc la st h mc ms := by
  intro H locs ls cst cells slots hR h1 h2
  obtain ⟨ws, lc, r1, r2, r3, r4, r5, r6, r7, r8⟩ := hR
  exact lv_null hx hb hdg (kk H locs ls _ cells slots ⟨ws, lc, r1, r2, r3, r4, r5, r6, ⟨rfl, r7⟩, r8⟩ h1 h2)
theorem rg_dup (hx : p.tables.exec = Jvm.exec) (hb : c.code = cc) (hdg : decode cc pc = .ok (.dup, 1)) {v : Value} (hi : v.category = 1) (kk : rx_G p l e R s m args below meth c Q D cA A old rho nL MC MS ad0 (pc + 1) la (v :: v :: st) h mc ms) : rx_G p l e R s m args below meth c Q D cA A old rho nL MC MS ad0 pc la (v :: st) h mc ms := by
  intro H locs ls cst0 cells slots hR h1 h2
  obtain ⟨ws, lc, r1, r2, r3, r4, r5, r6, r7, r8⟩ := hR
  obtain ⟨cv, cst, rfl, hr, q7⟩ := rx_RL.uncons r7
  exact lv_dup hx hb hdg (by rw [← hr.cat]; exact hi) (kk H locs ls _ cells slots ⟨ws, lc, r1, r2, r3, r4, r5, r6, ⟨hr, hr, q7⟩, r8⟩ h1 h2)
theorem rg_pop (hx : p.tables.exec = Jvm.exec) (hb : c.code = cc) (hdg : decode cc pc = .ok (.pop, 1)) {v : Value} (hi : v.category = 1) (kk : rx_G p l e R s m args below meth c Q D cA A old rho nL MC MS ad0 (pc + 1) la st h mc ms) : rx_G p l e R s m args below meth c Q D cA A old rho nL MC MS ad0 pc la (v :: st) h mc ms := by
  intro H locs ls cst0 cells slots hR h1 h2
  obtain ⟨ws, lc, r1, r2, r3, r4, r5, r6, r7, r8⟩ := hR
  obtain ⟨cv, cst, rfl, hr, q7⟩ := rx_RL.uncons r7
  exact lv_pop hx hb hdg (by rw [← hr.cat]; exact hi) (kk H locs ls _ cells slots ⟨ws, lc, r1, r2, r3, r4, r5, r6, q7, r8⟩ h1 h2)
theorem rg_dup_x1 (hx : p.tables.exec = Jvm.exec) (hb : c.code = cc) (hdg : decode cc pc = .ok (.dup_x1, 1)) {v w : Value} (hi : v.category = 1) (hj : w.category = 1) (kk : rx_G p l e R s m args below meth c Q D cA A old rho nL MC MS ad0 (pc + 1) la (v :: w :: v :: st) h mc ms) : rx_G p l e R s m args below meth c Q D cA A old rho nL MC MS ad0 pc la (v :: w :: st) h mc ms := by
  intro H locs ls cst0 cells slots hR h1 h2
  obtain ⟨ws, lc, r1, r2, r3, r4, r5, r6, r7, r8⟩ := hR
  obtain ⟨cv, cst1, rfl, hr, q6⟩ := rx_RL.uncons r7
  obtain ⟨cw, cst, rfl, hr2, q7⟩ := rx_RL.uncons q6
  exact lv_dup_x1 hx hb hdg (by rw [← hr.cat]; exact hi) (by rw [← hr2.cat]; exact hj) (kk H locs ls _ cells slots ⟨ws, lc, r1, r2, r3, r4, r5, r6, ⟨hr, hr2, hr, q7⟩, r8⟩ h1 h2)
theorem rg_iadd (hx : p.tables.exec = Jvm.exec) (hb : c.code = cc) (hdg : decode cc pc = .ok (.iadd, 1)) {a b : Value} (ha : rx_isI a = true) (hb2 : rx_isI b = true) (kk : rx_G p l e R s m args below meth c Q D cA A old rho nL MC MS ad0 (pc + 1) la (rx_ib (fun x y => x + y) a b :: st) h mc ms) : rx_G p l e R s m args below meth c Q D cA A old rho nL MC MS ad0 pc la (b :: a :: st) h mc ms := by
  intro H locs ls cst0 cells slots hR h1 h2
  obtain ⟨ws, lc, r1, r2, r3, r4, r5, r6, r7, r8⟩ := hR
  obtain ⟨cv, cst1, rfl, hr, q6⟩ := rx_RL.uncons r7
  obtain ⟨cw, cst, rfl, hr2, q7⟩ := rx_RL.uncons q6
  obtain ⟨y, rfl⟩ := hr.isI hb2
  obtain ⟨x, rfl⟩ := hr2.isI ha
  exact lv_iadd hx hb hdg (kk H locs ls _ cells slots ⟨ws, lc, r1, r2, r3, r4, r5, r6, ⟨rx_R.ib hr2 hr, q7⟩, r8⟩ h1 h2)
theorem rg_isub (hx : p.tables.exec = Jvm.exec) (hb : c.code = cc) (hdg : decode cc pc = .ok (.isub, 1)) {a b : Value} (ha : rx_isI a = true) (hb2 : rx_isI b = true) (kk : rx_G p l e R s m args below meth c Q D cA A old rho nL MC MS ad0 (pc + 1) la (rx_ib (fun x y => x - y) a b :: st) h mc ms) : rx_G p l e R s m args below meth c Q D cA A old rho nL MC MS ad0 pc la (b :: a :: st) h mc ms := by
  intro H locs ls cst0 cells slots hR h1 h2
  obtain ⟨ws, lc, r1, r2, r3, r4, r5, r6, r7, r8⟩ := hR
  obtain ⟨cv, cst1, rfl, hr, q6⟩ := rx_RL.uncons r7
  obtain ⟨cw, cst, rfl, hr2, q7⟩ := rx_RL.uncons q6
  obtain ⟨y, rfl⟩ := hr.isI hb2
  obtain ⟨x, rfl⟩ := hr2.isI ha
  exact lv_isub hx hb hdg (kk H locs ls _ cells slots ⟨ws, lc, r1, r2, r3, r4, r5, r6, ⟨rx_R.ib hr2 hr, q7⟩, r8⟩ h1 h2)
theorem rg_imul (hx : p.tables.exec = Jvm.exec) (hb : c.code = cc) (hdg : decode cc pc = .ok (.imul, 1)) {a b : Value} (ha : rx_isI a = true) (hb2 : rx_isI b = true) (kk : rx_G p l e R s m args below meth c Q D cA A old rho nL MC MS ad0 (pc + 1) la (rx_ib (fun x y => x * y) a b :: st) h mc ms) : rx_G p l e R s m args below meth c Q D cA A old rho nL MC MS ad0 pc la (b :: a :: st) h mc ms := by
  intro H locs ls cst0 cells slots hR h1 h2
  obtain ⟨ws, lc, r1, r2, r3, r4, r5, r6, r7, r8⟩ := hR
  obtain ⟨cv, cst1, rfl, hr, q6⟩ := rx_RL.uncons r7
  obtain ⟨cw, cst, rfl, hr2, q7⟩ := rx_RL.uncons q6
  obtain ⟨y, rfl⟩ := hr.isI hb2
  obtain ⟨x, rfl⟩ := hr2.isI ha
  exact lv_imul hx hb hdg (kk H locs ls _ cells slots ⟨ws, lc, r1, r2, r3, r4, r5, r6, ⟨rx_R.ib hr2 hr, q7⟩, r8⟩ h1 h2)
theorem rg_iand (hx : p.tables.exec = Jvm.exec) (hb : c.code = cc) (hdg : decode cc pc = .ok (.iand, 1)) {a b : Value} (ha : rx_isI a = true) (hb2 : rx_isI b = true) (kk : rx_G p l e R s m args below meth c Q D cA A old rho nL MC MS ad0 (pc + 1) la (rx_ib (fun x y => x &&& y) a b :: st) h mc ms) : rx_G p l e R s m args below meth c Q D cA A old rho nL MC MS ad0 pc la (b :: a :: st) h mc ms := by
  intro H locs ls cst0 cells slots hR h1 h2
  obtain ⟨ws, lc, r1, r2, r3, r4, r5, r6, r7, r8⟩ := hR
  obtain ⟨cv, cst1, rfl, hr, q6⟩ := rx_RL.uncons r7
  obtain ⟨cw, cst, rfl, hr2, q7⟩ := rx_RL.uncons q6
  obtain ⟨y, rfl⟩ := hr.isI hb2
  obtain ⟨x, rfl⟩ := hr2.isI ha
  exact lv_iand hx hb hdg (kk H locs ls _ cells slots ⟨ws, lc, r1, r2, r3, r4, r5, r6, ⟨rx_R.ib hr2 hr, q7⟩, r8⟩ h1 h2)
theorem rg_ior (hx : p.tables.exec = Jvm.exec) (hb : c.code = cc) (hdg : decode cc pc = .ok (.ior, 1)) {a b : Value} (ha : rx_isI a = true) (hb2 : rx_isI b = true) (kk : rx_G p l e R s m args below meth c Q D cA A old rho nL MC MS ad0 (pc + 1) la (rx_ib (fun x y => x ||| y) a b :: st) h mc ms) : rx_G p l e R s m args below meth c Q D cA A old rho nL MC MS ad0 pc la (b :: a :: st) h mc ms := by
  intro H locs ls cst0 cells slots hR h1 h2
  obtain ⟨ws, lc, r1, r2, r3, r4, r5, r6, r7, r8⟩ := hR
  obtain ⟨cv, cst1, rfl, hr, q6⟩ := rx_RL.uncons r7
  obtain ⟨cw, cst, rfl, hr2, q7⟩ := rx_RL.uncons q6
  obtain ⟨y, rfl⟩ := hr.isI hb2
  obtain ⟨x, rfl⟩ := hr2.isI ha
  exact lv_ior hx hb hdg (kk H locs ls _ cells slots ⟨ws, lc, r1, r2, r3, r4, r5, r6, ⟨rx_R.ib hr2 hr, q7⟩, r8⟩ h1 h2)
theorem rg_ishl (hx : p.tables.exec = Jvm.exec) (hb : c.code = cc) (hdg : decode cc pc = .ok (.ishl, 1)) {a b : Value} (ha : rx_isI a = true) (hb2 : rx_isI b = true) (kk : rx_G p l e R s m args below meth c Q D cA A old rho nL MC MS ad0 (pc + 1) la (rx_ib (fun x y => x <<< (y &&& 31)) a b :: st) h mc ms) : rx_G p l e R s m args below meth c Q D cA A old rho nL MC MS ad0 pc la (b :: a :: st) h mc ms := by
  intro H locs ls cst0 cells slots hR h1 h2
  obtain ⟨ws, lc, r1, r2, r3, r4, r5, r6, r7, r8⟩ := hR
  obtain ⟨cv, cst1, rfl, hr, q6⟩ := rx_RL.uncons r7
  obtain ⟨cw, cst, rfl, hr2, q7⟩ := rx_RL.uncons q6
  obtain ⟨y, rfl⟩ := hr.isI hb2
  obtain ⟨x, rfl⟩ := hr2.isI ha
  exact lv_ishl hx hb hdg (kk H locs ls _ cells slots ⟨ws, lc, r1, r2, r3, r4, r5, r6, ⟨rx_R.ib hr2 hr, q7⟩, r8⟩ h1 h2)
theorem rg_ishr (hx : p.tables.exec = Jvm.exec) (hb : c.code = cc) (hdg : decode cc pc = .ok (.ishr, 1)) {a b : Value} (ha : rx_isI a = true) (hb2 : rx_isI b = true) (kk : rx_G p l e R s m args below meth c Q D cA A old rho nL MC MS ad0 (pc + 1) la (rx_ib (fun x y => x >>> (y &&& 31)) a b :: st) h mc ms) : rx_G p l e R s m args below meth c Q D cA A old rho nL MC MS ad0 pc la (b :: a :: st) h mc ms := by
  intro H locs ls cst0 cells slots hR h1 h2
  obtain ⟨ws, lc, r1, r2, r3, r4, r5, r6, r7, r8⟩ := hR
  obtain ⟨cv, cst1, rfl, hr, q6⟩ := rx_RL.uncons r7
  obtain ⟨cw, cst, rfl, hr2, q7⟩ := rx_RL.uncons q6
  obtain ⟨y, rfl⟩ := hr.isI hb2
  obtain ⟨x, rfl⟩ := hr2.isI ha
  exact lv_ishr hx hb hdg (kk H locs ls _ cells slots ⟨ws, lc, r1, r2, r3, r4, r5, r6, ⟨rx_R.ib hr2 hr, q7⟩, r8⟩ h1 h2)
theorem rg_ladd (hx : p.tables.exec = Jvm.exec) (hb : c.code = cc) (hdg : decode cc pc = .ok (.ladd, 1)) {a b : Value} (ha : rx_isL a = true) (hb2 : rx_isL b = true) (kk : rx_G p l e R s m args below meth c Q D cA A old rho nL MC MS ad0 (pc + 1) la (rx_lb (fun x y => x + y) a b :: st) h mc ms) : rx_G p l e R s m args below meth c Q D cA A old rho nL MC MS ad0 pc la (b :: a :: st) h mc ms := by
  intro H locs ls cst0 cells slots hR h1 h2
  obtain ⟨ws, lc, r1, r2, r3, r4, r5, r6, r7, r8⟩ := hR
  obtain ⟨cv, cst1, rfl, hr, q6⟩ := rx_RL.uncons r7
  obtain ⟨cw, cst, rfl, hr2, q7⟩ := rx_RL.uncons q6
  obtain ⟨y, rfl⟩ := hr.isL hb2
  obtain ⟨x, rfl⟩ := hr2.isL ha
  exact lv_ladd hx hb hdg (kk H locs ls _ cells slots ⟨ws, lc, r1, r2, r3, r4, r5, r6, ⟨rx_R.lb hr2 hr, q7⟩, r8⟩ h1 h2)
theorem rg_lsub (hx : p.tables.exec = Jvm.exec) (hb : c.code = cc) (hdg : decode cc pc = .ok (.lsub, 1)) {a b : Value} (ha : rx_isL a = true) (hb2 : rx_isL b = true) (kk : rx_G p l e R s m args below meth c Q D cA A old rho nL MC MS ad0 (pc + 1) la (rx_lb (fun x y => x - y) a b :: st) h mc ms) : rx_G p l e R s m args below meth c Q D cA A old rho nL MC MS ad0 pc la (b :: a :: st) h mc ms := by
  intro H locs ls cst0 cells slots hR h1 h2
  obtain ⟨ws, lc, r1, r2, r3, r4, r5, r6, r7, r8⟩ := hR
  obtain ⟨cv, cst1, rfl, hr, q6⟩ := rx_RL.uncons r7
  obtain ⟨cw, cst, rfl, hr2, q7⟩ := rx_RL.uncons q6
  obtain ⟨y, rfl⟩ := hr.isL hb2
  obtain ⟨x, rfl⟩ := hr2.isL ha
  exact lv_lsub hx hb hdg (kk H locs ls _ cells slots ⟨ws, lc, r1, r2, r3, r4, r5, r6, ⟨rx_R.lb hr2 hr, q7⟩, r8⟩ h1 h2)
theorem rg_lmul (hx : p.tables.exec = Jvm.exec) (hb : c.code = cc) (hdg : decode cc pc = .ok (.lmul, 1)) {a b : Value} (ha : rx_isL a = true) (hb2 : rx_isL b = true) (kk : rx_G p l e R s m args below meth c Q D cA A old rho nL MC MS ad0 (pc + 1) la (rx_lb (fun x y => x * y) a b :: st) h mc ms) : rx_G p l e R s m args below meth c Q D cA A old rho nL MC MS ad0 pc la (b :: a :: st) h mc ms := by
  intro H locs ls cst0 cells slots hR h1 h2
  obtain ⟨ws, lc, r1, r2, r3, r4, r5, r6, r7, r8⟩ := hR
  obtain ⟨cv, cst1, rfl, hr, q6⟩ := rx_RL.uncons r7
  obtain ⟨cw, cst, rfl, hr2, q7⟩ := rx_RL.uncons q6
  obtain ⟨y, rfl⟩ := hr.isL hb2
  obtain ⟨x, rfl⟩ := hr2.isL ha
  exact lv_lmul hx hb hdg (kk H locs ls _ cells slots ⟨ws, lc, r1, r2, r3, r4, r5, r6, ⟨rx_R.lb hr2 hr, q7⟩, r8⟩ h1 h2)
theorem rg_land (hx : p.tables.exec = Jvm.exec) (hb : c.code = cc) (hdg : decode cc pc = .ok (.land, 1)) {a b : Value} (ha : rx_isL a = true) (hb2 : rx_isL b = true) (kk : rx_G p l e R s m args below meth c Q D cA A old rho nL MC MS ad0 (pc + 1) la (rx_lb (fun x y => x &&& y) a b :: st) h mc ms) : rx_G p l e R s m args below meth c Q D cA A old rho nL MC MS ad0 pc la (b :: a :: st) h mc ms := by
  intro H locs ls cst0 cells slots hR h1 h2
  obtain ⟨ws, lc, r1, r2, r3, r4, r5, r6, r7, r8⟩ := hR
  obtain ⟨cv, cst1, rfl, hr, q6⟩ := rx_RL.uncons r7
  obtain ⟨cw, cst, rfl, hr2, q7⟩ := rx_RL.uncons q6
  obtain ⟨y, rfl⟩ := hr.isL hb2
  obtain ⟨x, rfl⟩ := hr2.isL ha
  exact lv_land hx hb hdg (kk H locs ls _ cells slots ⟨ws, lc, r1, r2, r3, r4, r5, r6, ⟨rx_R.lb hr2 hr, q7⟩, r8⟩ h1 h2)
theorem rg_lor (hx : p.tables.exec = Jvm.exec) (hb : c.code = cc) (hdg : decode cc pc = .ok (.lor, 1)) {a b : Value} (ha : rx_isL a = true) (hb2 : rx_isL b = true) (kk : rx_G p l e R s m args below meth c Q D cA A old rho nL MC MS ad0 (pc + 1) la (rx_lb (fun x y => x ||| y) a b :: st) h mc ms) : rx_G p l e R s m args below meth c Q D cA A old rho nL MC MS ad0 pc la (b :: a :: st) h mc ms := by
  intro H locs ls cst0 cells slots hR h1 h2
  obtain ⟨ws, lc, r1, r2, r3, r4, r5, r6, r7, r8⟩ := hR
  obtain ⟨cv, cst1, rfl, hr, q6⟩ := rx_RL.uncons r7
  obtain ⟨cw, cst, rfl, hr2, q7⟩ := rx_RL.uncons q6
  obtain ⟨y, rfl⟩ := hr.isL hb2
  obtain ⟨x, rfl⟩ := hr2.isL ha
  exact lv_lor hx hb hdg (kk H locs ls _ cells slots ⟨ws, lc, r1, r2, r3, r4, r5, r6, ⟨rx_R.lb hr2 hr, q7⟩, r8⟩ h1 h2)
theorem rg_lshl (hx : p.tables.exec = Jvm.exec) (hb : c.code = cc) (hdg : decode cc pc = .ok (.lshl, 1)) {a b : Value} (ha : rx_isL a = true) (hb2 : rx_isI b = true) (kk : rx_G p l e R s m args below meth c Q D cA A old rho nL MC MS ad0 (pc + 1) la (rx_ls (fun x y => x <<< (y.toInt64 &&& 63)) a b :: st) h mc ms) : rx_G p l e R s m args below meth c Q D cA A old rho nL MC MS ad0 pc la (b :: a :: st) h mc ms := by
  intro H locs ls cst0 cells slots hR h1 h2
  obtain ⟨ws, lc, r1, r2, r3, r4, r5, r6, r7, r8⟩ := hR
  obtain ⟨cv, cst1, rfl, hr, q6⟩ := rx_RL.uncons r7
  obtain ⟨cw, cst, rfl, hr2, q7⟩ := rx_RL.uncons q6
  obtain ⟨y, rfl⟩ := hr.isI hb2
  obtain ⟨x, rfl⟩ := hr2.isL ha
  exact lv_lshl hx hb hdg rfl (kk H locs ls _ cells slots ⟨ws, lc, r1, r2, r3, r4, r5, r6, ⟨rx_R.ls (f := fun x y => x <<< (y.toInt64 &&& 63)) hr2 hr, q7⟩, r8⟩ h1 h2)
theorem rg_lshr (hx : p.tables.exec = Jvm.exec) (hb : c.code = cc) (hdg : decode cc pc = .ok (.lshr, 1)) {a b : Value} (ha : rx_isL a = true) (hb2 : rx_isI b = true) (kk : rx_G p l e R s m args below meth c Q D cA A old rho nL MC MS ad0 (pc + 1) la (rx_ls (fun x y => x >>> (y.toInt64 &&& 63)) a b :: st) h mc ms) : rx_G p l e R s m args below meth c Q D cA A old rho nL MC MS ad0 pc la (b :: a :: st) h mc ms := by
  intro H locs ls cst0 cells slots hR h1 h2
  obtain ⟨ws, lc, r1, r2, r3, r4, r5, r6, r7, r8⟩ := hR
  obtain ⟨cv, cst1, rfl, hr, q6⟩ := rx_RL.uncons r7
  obtain ⟨cw, cst, rfl, hr2, q7⟩ := rx_RL.uncons q6
  obtain ⟨y, rfl⟩ := hr.isI hb2
  obtain ⟨x, rfl⟩ := hr2.isL ha
  exact lv_lshr hx hb hdg rfl (kk H locs ls _ cells slots ⟨ws, lc, r1, r2, r3, r4, r5, r6, ⟨rx_R.ls (f := fun x y => x >>> (y.toInt64 &&& 63)) hr2 hr, q7⟩, r8⟩ h1 h2)
theorem rg_lushr (hx : p.tables.exec = Jvm.exec) (hb : c.code = cc) (hdg : decode cc pc = .ok (.lushr, 1)) {a b : Value} (ha : rx_isL a = true) (hb2 : rx_isI b = true) (kk : rx_G p l e R s m args below meth c Q D cA A old rho nL MC MS ad0 (pc + 1) la (rx_ls (fun x y => (x.toUInt64 >>> (y.toInt64.toUInt64 &&& Int64.toUInt64 63)).toInt64) a b :: st) h mc ms) : rx_G p l e R s m args below meth c Q D cA A old rho nL MC MS ad0 pc la (b :: a :: st) h mc ms := by
  intro H locs ls cst0 cells slots hR h1 h2
  obtain ⟨ws, lc, r1, r2, r3, r4, r5, r6, r7, r8⟩ := hR
  obtain ⟨cv, cst1, rfl, hr, q6⟩ := rx_RL.uncons r7
  obtain ⟨cw, cst, rfl, hr2, q7⟩ := rx_RL.uncons q6
  obtain ⟨y, rfl⟩ := hr.isI hb2
  obtain ⟨x, rfl⟩ := hr2.isL ha
  exact lv_lushr hx hb hdg rfl (kk H locs ls _ cells slots ⟨ws, lc, r1, r2, r3, r4, r5, r6, ⟨rx_R.ls (f := fun x y => (x.toUInt64 >>> (y.toInt64.toUInt64 &&& Int64.toUInt64 63)).toInt64) hr2 hr, q7⟩, r8⟩ h1 h2)
theorem rg_lcmp (hx : p.tables.exec = Jvm.exec) (hb : c.code = cc) (hdg : decode cc pc = .ok (.lcmp, 1)) {a b : Value} (ha : rx_isL a = true) (hb2 : rx_isL b = true) (kk : rx_G p l e R s m args below meth c Q D cA A old rho nL MC MS ad0 (pc + 1) la (rx_lc a b :: st) h mc ms) : rx_G p l e R s m args below meth c Q D cA A old rho nL MC MS ad0 pc la (b :: a :: st) h mc ms := by
  intro H locs ls cst0 cells slots hR h1 h2
  obtain ⟨ws, lc, r1, r2, r3, r4, r5, r6, r7, r8⟩ := hR
  obtain ⟨cv, cst1, rfl, hr, q6⟩ := rx_RL.uncons r7
  obtain ⟨cw, cst, rfl, hr2, q7⟩ := rx_RL.uncons q6
  obtain ⟨y, rfl⟩ := hr.isL hb2
  obtain ⟨x, rfl⟩ := hr2.isL ha
  exact W.lcmp hx hb hdg (kk H locs ls _ cells slots ⟨ws, lc, r1, r2, r3, r4, r5, r6, ⟨rx_R.lc hr2 hr, q7⟩, r8⟩ h1 h2)
theorem rg_ineg (hx : p.tables.exec = Jvm.exec) (hb : c.code = cc) (hdg : decode cc pc = .ok (.ineg, 1)) {a : Value} (ha : rx_isI a = true) (kk : rx_G p l e R s m args below meth c Q D cA A old rho nL MC MS ad0 (pc + 1) la (rx_iu (fun x => -x) a :: st) h mc ms) : rx_G p l e R s m args below meth c Q D cA A old rho nL MC MS ad0 pc la (a :: st) h mc ms := by
  intro H locs ls cst0 cells slots hR h1 h2
  obtain ⟨ws, lc, r1, r2, r3, r4, r5, r6, r7, r8⟩ := hR
  obtain ⟨cv, cst, rfl, hr, q7⟩ := rx_RL.uncons r7
  obtain ⟨x, rfl⟩ := hr.isI ha
  exact lv_ineg hx hb hdg (kk H locs ls _ cells slots ⟨ws, lc, r1, r2, r3, r4, r5, r6, ⟨rx_R.iu hr, q7⟩, r8⟩ h1 h2)
theorem rg_i2b (hx : p.tables.exec = Jvm.exec) (hb : c.code = cc) (hdg : decode cc pc = .ok (.i2b, 1)) {a : Value} (ha : rx_isI a = true) (kk : rx_G p l e R s m args below meth c Q D cA A old rho nL MC MS ad0 (pc + 1) la (rx_iu (fun x => x.toInt8.toInt32) a :: st) h mc ms) : rx_G p l e R s m args below meth c Q D cA A old rho nL MC MS ad0 pc la (a :: st) h mc ms := by
  intro H locs ls cst0 cells slots hR h1 h2
  obtain ⟨ws, lc, r1, r2, r3, r4, r5, r6, r7, r8⟩ := hR
  obtain ⟨cv, cst, rfl, hr, q7⟩ := rx_RL.uncons r7
  obtain ⟨x, rfl⟩ := hr.isI ha
  exact lv_i2b hx hb hdg rfl (kk H locs ls _ cells slots ⟨ws, lc, r1, r2, r3, r4, r5, r6, ⟨rx_R.iu (f := fun x => x.toInt8.toInt32) hr, q7⟩, r8⟩ h1 h2)
theorem rg_i2c (hx : p.tables.exec = Jvm.exec) (hb : c.code = cc) (hdg : decode cc pc = .ok (.i2c, 1)) {a : Value} (ha : rx_isI a = true) (kk : rx_G p l e R s m args below meth c Q D cA A old rho nL MC MS ad0 (pc + 1) la (rx_iu (fun x => (x.toUInt32 % 65536).toInt32) a :: st) h mc ms) : rx_G p l e R s m args below meth c Q D cA A old rho nL MC MS ad0 pc la (a :: st) h mc ms := by
  intro H locs ls cst0 cells slots hR h1 h2
  obtain ⟨ws, lc, r1, r2, r3, r4, r5, r6, r7, r8⟩ := hR
  obtain ⟨cv, cst, rfl, hr, q7⟩ := rx_RL.uncons r7
  obtain ⟨x, rfl⟩ := hr.isI ha
  exact lv_i2c hx hb hdg rfl (kk H locs ls _ cells slots ⟨ws, lc, r1, r2, r3, r4, r5, r6, ⟨rx_R.iu (f := fun x => (x.toUInt32 % 65536).toInt32) hr, q7⟩, r8⟩ h1 h2)
theorem rg_i2l (hx : p.tables.exec = Jvm.exec) (hb : c.code = cc) (hdg : decode cc pc = .ok (.i2l, 1)) {a : Value} (ha : rx_isI a = true) (kk : rx_G p l e R s m args below meth c Q D cA A old rho nL MC MS ad0 (pc + 1) la (rx_i2l a :: st) h mc ms) : rx_G p l e R s m args below meth c Q D cA A old rho nL MC MS ad0 pc la (a :: st) h mc ms := by
  intro H locs ls cst0 cells slots hR h1 h2
  obtain ⟨ws, lc, r1, r2, r3, r4, r5, r6, r7, r8⟩ := hR
  obtain ⟨cv, cst, rfl, hr, q7⟩ := rx_RL.uncons r7
  obtain ⟨x, rfl⟩ := hr.isI ha
  exact lv_i2l hx hb hdg rfl (kk H locs ls _ cells slots ⟨ws, lc, r1, r2, r3, r4, r5, r6, ⟨rx_R.i2l hr, q7⟩, r8⟩ h1 h2)
theorem rg_l2i (hx : p.tables.exec = Jvm.exec) (hb : c.code = cc) (hdg : decode cc pc = .ok (.l2i, 1)) {a : Value} (ha : rx_isL a = true) (kk : rx_G p l e R s m args below meth c Q D cA A old rho nL MC MS ad0 (pc + 1) la (rx_l2i a :: st) h mc ms) : rx_G p l e R s m args below meth c Q D cA A old rho nL MC MS ad0 pc la (a :: st) h mc ms := by
  intro H locs ls cst0 cells slots hR h1 h2
  obtain ⟨ws, lc, r1, r2, r3, r4, r5, r6, r7, r8⟩ := hR
  obtain ⟨cv, cst, rfl, hr, q7⟩ := rx_RL.uncons r7
  obtain ⟨x, rfl⟩ := hr.isL ha
  exact lv_l2i hx hb hdg rfl (kk H locs ls _ cells slots ⟨ws, lc, r1, r2, r3, r4, r5, r6, ⟨rx_R.l2i hr, q7⟩, r8⟩ h1 h2)
theorem rg_goto (hx : p.tables.exec = Jvm.exec) (hb : c.code = cc) {off : Int} {t : Nat} (hdg : decode cc pc = .ok (.goto off, 3)) (ht : (pc : Int) + off = (t : Int)) (kk : rx_G p l e R s m args below meth c Q D cA A old rho nL MC MS ad0 t la st h mc ms) : rx_G p l e R s m args below meth c Q D cA A old rho nL MC MS ad0 pc la st h mc ms := fun H locs ls cst cells slots hR h1 h2 => lv_goto hx hb hdg ht (kk H locs ls cst cells slots hR h1 h2)
theorem rw_icmp (hx : p.tables.exec = Jvm.exec) (hb : c.code = cc) {H : Heap} {locs : List Loc} {ls : Array Slot} {rest : List Value} {cells slots : Nat} {cnd : ClassFile.Cond} {off : Int} {t : Nat} {x y : Int32} (hdg : decode cc pc = .ok (.if_icmp cnd off, 3)) (ht : (pc : Int) + off = (t : Int)) (kt : rx_cb cnd x y = true → W p l e R s m args below meth c H locs cells slots Q (F0 m t ls rest)) (kf : rx_cb cnd x y = false → W p l e R s m args below meth c H locs cells slots Q (F0 m (pc + 3) ls rest)) : W p l e R s m args below meth c H locs cells slots Q (F0 m pc ls (.int y :: .int x :: rest)) := by
  cases cnd with
  | eq => exact lv_icmp_eq hx hb hdg ht (fun z => kt (by simp [rx_cb, z])) (fun z => kf (by simp [rx_cb, z]))
  | ne => exact lv_icmp_ne hx hb hdg ht (fun z => kt (by simp [rx_cb, z])) (fun z => kf (by simp [rx_cb, z]))
  | lt => exact lv_icmp_lt hx hb hdg ht (fun z => kt (by simp only [rx_cb, decide_eq_true z])) (fun z => kf (by simp only [rx_cb, decide_eq_false z]))
  | ge => exact lv_icmp_ge hx hb hdg ht (fun z => kt (by simp only [rx_cb, decide_eq_true z])) (fun z => kf (by simp only [rx_cb, decide_eq_false z]))
  | gt => exact lv_icmp_gt hx hb hdg ht (fun z => kt (by simp only [rx_cb, decide_eq_true z])) (fun z => kf (by simp only [rx_cb, decide_eq_false z]))
  | le => exact lv_icmp_le hx hb hdg ht (fun z => kt (by simp only [rx_cb, decide_eq_true z])) (fun z => kf (by simp only [rx_cb, decide_eq_false z]))
theorem rw_if (hx : p.tables.exec = Jvm.exec) (hb : c.code = cc) {H : Heap} {locs : List Loc} {ls : Array Slot} {rest : List Value} {cells slots : Nat} {cnd : ClassFile.Cond} {off : Int} {t : Nat} {x : Int32} (hdg : decode cc pc = .ok (.ifCond cnd off, 3)) (ht : (pc : Int) + off = (t : Int)) (kt : rx_cb cnd x 0 = true → W p l e R s m args below meth c H locs cells slots Q (F0 m t ls rest)) (kf : rx_cb cnd x 0 = false → W p l e R s m args below meth c H locs cells slots Q (F0 m (pc + 3) ls rest)) : W p l e R s m args below meth c H locs cells slots Q (F0 m pc ls (.int x :: rest)) := by
  cases cnd with
  | eq => exact lv_if_eq hx hb hdg ht (fun z => kt (by simp [rx_cb, z])) (fun z => kf (by simp [rx_cb, z]))
  | ne => exact lv_if_ne hx hb hdg ht (fun z => kt (by simp [rx_cb, z])) (fun z => kf (by simp [rx_cb, z]))
  | lt => exact lv_if_lt hx hb hdg ht (fun z => kt (by simp only [rx_cb, decide_eq_true z])) (fun z => kf (by simp only [rx_cb, decide_eq_false z]))
  | ge => exact lv_if_ge hx hb hdg ht (fun z => kt (by simp only [rx_cb, decide_eq_true z])) (fun z => kf (by simp only [rx_cb, decide_eq_false z]))
  | gt => exact lv_if_gt hx hb hdg ht (fun z => kt (by simp only [rx_cb, decide_eq_true z])) (fun z => kf (by simp only [rx_cb, decide_eq_false z]))
  | le => exact lv_if_le hx hb hdg ht (fun z => kt (by simp only [rx_cb, decide_eq_true z])) (fun z => kf (by simp only [rx_cb, decide_eq_false z]))
theorem rg_icmp (hx : p.tables.exec = Jvm.exec) (hb : c.code = cc) {F : RFact} (hF : rx_FT rho F) {cnd : ClassFile.Cond} {off : Int} {t : Nat} {a b : Value} (hdg : decode cc pc = .ok (.if_icmp cnd off, 3)) (ht : (pc : Int) + off = (t : Int)) (ha : rx_isI a = true) (hb2 : rx_isI b = true) (kt : rx_cmp F cnd a b ≠ some false → rx_G p l e R s m args below meth c Q D cA A old rho nL MC MS ad0 t la st h mc ms) (kf : rx_cmp F cnd a b ≠ some true → rx_G p l e R s m args below meth c Q D cA A old rho nL MC MS ad0 (pc + 3) la st h mc ms) : rx_G p l e R s m args below meth c Q D cA A old rho nL MC MS ad0 pc la (b :: a :: st) h mc ms := by
  intro H locs ls cst0 cells slots hR h1 h2
  obtain ⟨ws, lc, r1, r2, r3, r4, r5, r6, r7, r8⟩ := hR
  obtain ⟨cv, cst1, rfl, hr, q6⟩ := rx_RL.uncons r7
  obtain ⟨cw, cst, rfl, hr2, q7⟩ := rx_RL.uncons q6
  obtain ⟨y, rfl⟩ := hr.isI hb2
  obtain ⟨x, rfl⟩ := hr2.isI ha
  refine rw_icmp hx hb hdg ht (fun z => kt ?_ H locs ls _ cells slots ⟨ws, lc, r1, r2, r3, r4, r5, r6, q7, r8⟩ h1 h2) (fun z => kf ?_ H locs ls _ cells slots ⟨ws, lc, r1, r2, r3, r4, r5, r6, q7, r8⟩ h1 h2)
  · intro hc
    rw [rx_cmp_of hF hr2 hr hc] at z
    cases z
  · intro hc
    rw [rx_cmp_of hF hr2 hr hc] at z
    cases z
theorem rg_if (hx : p.tables.exec = Jvm.exec) (hb : c.code = cc) {F : RFact} (hF : rx_FT rho F) {cnd : ClassFile.Cond} {off : Int} {t : Nat} {a : Value} (hdg : decode cc pc = .ok (.ifCond cnd off, 3)) (ht : (pc : Int) + off = (t : Int)) (ha : rx_isI a = true) (kt : rx_cmp F cnd a (.int 0) ≠ some false → rx_G p l e R s m args below meth c Q D cA A old rho nL MC MS ad0 t la st h mc ms) (kf : rx_cmp F cnd a (.int 0) ≠ some true → rx_G p l e R s m args below meth c Q D cA A old rho nL MC MS ad0 (pc + 3) la st h mc ms) : rx_G p l e R s m args below meth c Q D cA A old rho nL MC MS ad0 pc la (a :: st) h mc ms := by
  intro H locs ls cst0 cells slots hR h1 h2
  obtain ⟨ws, lc, r1, r2, r3, r4, r5, r6, r7, r8⟩ := hR
  obtain ⟨cv, cst, rfl, hr, q7⟩ := rx_RL.uncons r7
  obtain ⟨x, rfl⟩ := hr.isI ha
  refine rw_if hx hb hdg ht (fun z => kt ?_ H locs ls _ cells slots ⟨ws, lc, r1, r2, r3, r4, r5, r6, q7, r8⟩ h1 h2) (fun z => kf ?_ H locs ls _ cells slots ⟨ws, lc, r1, r2, r3, r4, r5, r6, q7, r8⟩ h1 h2)
  · intro hc
    rw [rx_cmp_of hF hr (show rx_R old rho (ws.map (·.1)) (.int 0) (.int 0) from rfl) hc] at z
    cases z
  · intro hc
    rw [rx_cmp_of hF hr (show rx_R old rho (ws.map (·.1)) (.int 0) (.int 0) from rfl) hc] at z
    cases z
end RowsA
end
section
def rx_tys (cA : Nat → ClassId) : List (ClassId × FieldType) := (List.range rc_arr.length).map fun t => (cA t, rc_arr.getD t .int)
theorem rx_tys_at {cA : Nat → ClassId} {t : Nat} {ty : FieldType} (h : rc_arr[t]? = some ty) : (rx_tys cA)[t]? = some (cA t, ty) := by
  have ht : t < rc_arr.length := (List.getElem?_eq_some_iff.mp h).1
  simp [rx_tys, List.getElem?_range ht, h]
theorem rx_ref {old : Nat → Nat} {rho : UInt32 → Int32} {cA : Nat → ClassId} {ws : va_W} {h : RHeap} {k : Nat} {cv : Value} {a : RCell} (hr : rx_R old rho (ws.map (·.1)) (.ref k) cv) (hk : k < 1000000) (r1 : rx_RW old rho cA (ws.map (·.1)) h ws) (hh : h[k]? = some a) : ∃ b e, cv = .ref b ∧ ws[k]? = some (b, e) ∧ rx_RE old rho cA (ws.map (·.1)) a e := by
  obtain ⟨⟨b, e⟩, hq, he⟩ := r1.get hh
  rcases hr with ⟨h1, -⟩ | ⟨h1, -⟩ | ⟨-, x, h2, h3⟩
  · exact absurd hk (Nat.not_lt.mpr (Nat.le_trans (by decide) h1))
  · exact absurd hk (Nat.not_lt.mpr h1)
  · rw [List.getElem?_map, hq] at h2
    cases h2
    exact ⟨b, e, h3, hq, he⟩
theorem rx_refO {old : Nat → Nat} {rho : UInt32 → Int32} {ads : List Nat} {k : Nat} {cv : Value} (hr : rx_R old rho ads (.ref k) cv) (hk : 1000000 ≤ k) (hk2 : k < 2000000) : cv = .ref (old (k - 1000000)) := by
  rcases hr with ⟨h1, -⟩ | ⟨-, -, h3⟩ | ⟨h1, -⟩
  · exact absurd hk2 (Nat.not_lt.mpr h1)
  · exact h3
  · exact absurd h1 (Nat.not_lt.mpr hk)
theorem rx_RE.obj {old : Nat → Nat} {rho : UInt32 → Int32} {cA : Nat → ClassId} {ads : List Nat} {ci : Nat} {fs : List Value} {e : va_E} (h : rx_RE old rho cA ads (.inr (ci, fs)) e) : ∃ gs, e = .inr (ci, gs) ∧ rx_RL old rho ads fs gs := by
  cases e with
  | inl x => exact h.elim
  | inr x => obtain ⟨cj, gs⟩ := x; obtain ⟨h1, h2⟩ := h; exact ⟨gs, by rw [h1], h2⟩
theorem rx_RE.arr {old : Nat → Nat} {rho : UInt32 → Int32} {cA : Nat → ClassId} {ads : List Nat} {t n : Nat} {u : List (Nat × Value)} {e : va_E} (h : rx_RE old rho cA ads (.inl (t, n, u)) e) : ∃ x, e = .inl (cA t, n, x) ∧ rx_kind t (n, x) ∧ t < rc_arr.length ∧ ∀ j, j < n → rx_R old rho ads (rx_elt t u j) (rx_xv (n, x) j) := by
  cases e with
  | inr x => exact h.elim
  | inl x =>
    obtain ⟨c, n', x⟩ := x
    obtain ⟨h1, h2, h3, h4, h5⟩ := h
    have h2 : n' = n := h2
    subst h2
    exact ⟨x, by rw [h1], h3, h4, h5⟩
theorem rx_fit_of {old : Nat → Nat} {rho : UInt32 → Int32} {ads : List Nat} {ty : FieldType} {v cv : Value} (h : rx_fit ty v = true) (hr : rx_R old rho ads v cv) : narrow ty cv = cv ∧ fits ty cv = true := by
  cases v with
  | float i =>
    have h1 : ty = .int := of_decide_eq_true h
    subst h1
    obtain ⟨x, rfl, -⟩ := hr
    exact ⟨rfl, rfl⟩
  | double i =>
    have h1 : ty = .long := of_decide_eq_true h
    subst h1
    obtain ⟨x, rfl, -⟩ := hr
    exact ⟨rfl, rfl⟩
  | ref k =>
    have hA : cv = .null ∨ ∃ x, cv = .ref x := hr.isA rfl
    cases ty with
    | object n => rcases hA with rfl | ⟨x, rfl⟩ <;> exact ⟨rfl, rfl⟩
    | array n => rcases hA with rfl | ⟨x, rfl⟩ <;> exact ⟨rfl, rfl⟩
    | _ => cases h
  | int x =>
    cases hr
    have h1 : (decide (narrow ty (.int x) = .int x) && fits ty (.int x)) = true := h
    rw [Bool.and_eq_true] at h1
    exact ⟨of_decide_eq_true h1.1, h1.2⟩
  | long x =>
    cases hr
    have h1 : (decide (narrow ty (.long x) = .long x) && fits ty (.long x)) = true := h
    rw [Bool.and_eq_true] at h1
    exact ⟨of_decide_eq_true h1.1, h1.2⟩
  | null =>
    cases hr
    have h1 : (decide (narrow ty .null = .null) && fits ty .null) = true := h
    rw [Bool.and_eq_true] at h1
    exact ⟨of_decide_eq_true h1.1, h1.2⟩
  | retAddr x => exact hr.elim
theorem rx_arr_ref {t : Nat} (h4 : 4 ≤ t) (hl : t < rc_arr.length) : ∃ C, rc_arr[t]? = some (.object C) := by
  have hl : t < 6 := hl
  rcases (show t = 4 ∨ t = 5 by omega) with rfl | rfl
  · exact ⟨_, rfl⟩
  · exact ⟨_, rfl⟩
theorem rx_look_cons {u : List (Nat × Value)} {i j : Nat} {w : Value} {t : Nat} : rx_elt t ((i, w) :: u) j = if j = i then w else rx_elt t u j := by
  unfold rx_elt
  simp only [rx_look]
  by_cases h : j = i
  · subst h
    simp
  · have h2 : Nat.beq i j = false := by
      cases hb : Nat.beq i j with
      | false => rfl
      | true => exact absurd (Nat.eq_of_beq_eq_true hb).symm h
    simp [h2, h]
theorem rx_in {i : Int32} {n : Nat} (h1 : ¬ i < 0) (h2 : i.toNatClampNeg < n) : vp_in i n := fun h => h.elim h1 (fun z => absurd h2 (Nat.not_lt.mpr z))
section RowsB
variable {p : Program} {l : Launch} {e : Env} {R : Room} {s : State} {m : MethodId} {args : Array Value} {below : List Frame} {meth : Method} {c : Code} {Q : State → Prop} {cc : ByteArray} {D : va_G} {cA : Nat → ClassId} {A : Nat → Prop} {old : Nat → Nat} {rho : UInt32 → Int32} {nL MC MS pc mc ms : Nat} {ad0 : List Nat} {la : RLoc} {st : List Value} {h : RHeap} {own C : String} {T : u_T} {N ci f k index : Nat} {Ts : List Cond}
theorem rg_getf (hx : p.tables.exec = Jvm.exec) (hb : c.code = cc) (hts : ∀ w ∈ Ts, w.before args s = true) (hin : ∀ w ∈ u_ws C T N, w ∈ Ts) (hown : s.vm.findClass own = some m.cls) (hK : va_K D rc_cls (rx_tys cA) s) (hc : rc_cls[ci]? = some (C, T, N)) (hf : f < N) (hlink : (Cond.fieldLink own index (T f).1 (T f).2.1 (T f).2.2.1).before args s = true) (hdg : decode cc pc = .ok (.getfield index, 3)) (hk : k < 1000000) {fs : List Value} (hh : h[k]? = some (.inr (ci, fs))) {v : Value} (hv : fs[f]? = some v) (kk : rx_G p l e R s m args below meth c Q D cA A old rho nL MC MS ad0 (pc + 3) la (v :: st) h mc ms) : rx_G p l e R s m args below meth c Q D cA A old rho nL MC MS ad0 pc la (.ref k :: st) h mc ms := by
  intro H locs ls cst0 cells slots hR h1 h2
  obtain ⟨ws, lc, r1, r2, r3, r4, r5, r6, r7, r8⟩ := hR
  obtain ⟨cv, cst, rfl, hr, q7⟩ := rx_RL.uncons r7
  obtain ⟨b, e, rfl, hw, he⟩ := rx_ref hr hk r1 hh
  obtain ⟨gs, rfl, hg⟩ := he.obj
  obtain ⟨g, hg1, hg2⟩ := hg.get hv
  exact va_get (C := C) (T := T) (N := N) hx hb hts hin hown hK r2 k hw hc f hf hlink (fun _ z => z) hg1 hdg (kk H locs ls _ cells slots ⟨ws, lc, r1, r2, r3, r4, r5, r6, ⟨hg2, q7⟩, r8⟩ h1 h2)
theorem rg_getfO (hx : p.tables.exec = Jvm.exec) (hb : c.code = cc) (hown : s.vm.findClass own = some m.cls) {fo fn fd : String} {cv : Value} (hE : va_OF fo fn fd cv (old (k - 1000000)) A s s.heap) (hlink : (Cond.fieldLink own index fo fn fd).before args s = true) (hdg : decode cc pc = .ok (.getfield index, 3)) (hk : 1000000 ≤ k) (hk2 : k < 2000000) {v : Value} (hv : ∀ ads, rx_R old rho ads v cv) (kk : rx_G p l e R s m args below meth c Q D cA A old rho nL MC MS ad0 (pc + 3) la (v :: st) h mc ms) : rx_G p l e R s m args below meth c Q D cA A old rho nL MC MS ad0 pc la (.ref k :: st) h mc ms := by
  intro H locs ls cst0 cells slots hR h1 h2
  obtain ⟨ws, lc, r1, r2, r3, r4, r5, r6, r7, r8⟩ := hR
  obtain ⟨cv0, cst, rfl, hr, q7⟩ := rx_RL.uncons r7
  have hr := rx_refO hr hk hk2
  subst hr
  exact vk_getf hx hb hE r4 hown hlink (fun _ z => z) hdg (kk H locs ls _ cells slots ⟨ws, lc, r1, r2, r3, r4, r5, r6, ⟨hv _, q7⟩, r8⟩ h1 h2)
theorem rg_putf (hx : p.tables.exec = Jvm.exec) (hb : c.code = cc) (hts : ∀ w ∈ Ts, w.before args s = true) (hin : ∀ w ∈ u_ws C T N, w ∈ Ts) (hown : s.vm.findClass own = some m.cls) (hK : va_K D rc_cls (rx_tys cA) s) (ty0 : Nat → FieldType) (hty : ∀ k, k < N → parseFieldDescriptor (T k).2.2.1 = some (ty0 k)) (hnm : ∀ a, a < N → ∀ b, b < N → a ≠ b → (T a).2.1 ≠ (T b).2.1) (hc : rc_cls[ci]? = some (C, T, N)) (hf : f < N) (hlink : (Cond.fieldLink own index (T f).1 (T f).2.1 (T f).2.2.1).before args s = true) (hfin : (T f).2.2.2 = false) (hdg : decode cc pc = .ok (.putfield index, 3)) (hk : k < 1000000) {fs : List Value} (hh : h[k]? = some (.inr (ci, fs))) {v : Value} (hft : rx_fit (ty0 f) v = true) (hfl : f < fs.length) (kk : rx_G p l e R s m args below meth c Q D cA A old rho nL MC MS ad0 (pc + 3) la st (h.set k (.inr (ci, fs.set f v))) mc ms) : rx_G p l e R s m args below meth c Q D cA A old rho nL MC MS ad0 pc la (v :: .ref k :: st) h mc ms := by
  intro H locs ls cst0 cells slots hR h1 h2
  obtain ⟨ws, lc, r1, r2, r3, r4, r5, r6, r7, r8⟩ := hR
  obtain ⟨cv, cst1, rfl, hr, q6⟩ := rx_RL.uncons r7
  obtain ⟨cw, cst, rfl, hr2, q7⟩ := rx_RL.uncons q6
  obtain ⟨b, e, rfl, hw, he⟩ := rx_ref hr2 hk r1 hh
  obtain ⟨gs, rfl, hg⟩ := he.obj
  obtain ⟨hn1, hn2⟩ := rx_fit_of hft hr
  refine va_put (C := C) (T := T) (N := N) hx hb hts hin ty0 hty hnm hown hK r2 r3 r4 k hw hc f hf hlink (fun _ z => z) hfin (hty f hf) hn1 hn2 (by rw [← hg.len]; exact hfl) hdg (fun H1 locs1 r2 r3 r4 => ?_)
  have ea := rx_ads_set (e := .inr (ci, gs.set f cv)) hw
  refine kk H1 locs1 ls _ cells slots ⟨_, lc, ?_, r2, r3, r4, r5, ?_, ?_, ?_⟩ h1 h2
  · rw [ea]; exact r1.set ⟨rfl, hg.set hr⟩
  · rw [ea]; exact r6
  · rw [ea]; exact q7
  · rw [ea]; exact r8
theorem rg_putfF (hx : p.tables.exec = Jvm.exec) (hb : c.code = cc) (hts : ∀ w ∈ Ts, w.before args s = true) (hin : ∀ w ∈ u_ws C T N, w ∈ Ts) (hown : s.vm.findClass own = some m.cls) (hK : va_K D rc_cls (rx_tys cA) s) (ty0 : Nat → FieldType) (hty : ∀ k, k < N → parseFieldDescriptor (T k).2.2.1 = some (ty0 k)) (hnm : ∀ a, a < N → ∀ b, b < N → a ≠ b → (T a).2.1 ≠ (T b).2.1) (hc : rc_cls[ci]? = some (C, T, N)) (hf : f < N) (hlink : (Cond.fieldLink own index (T f).1 (T f).2.1 (T f).2.2.1).before args s = true) (hfin : (T f).2.2.2 = true) (hin2 : meth.name = "<init>") (hdecl : (T f).1 = own) (hdg : decode cc pc = .ok (.putfield index, 3)) (hk : k < 1000000) {fs : List Value} (hh : h[k]? = some (.inr (ci, fs))) {v : Value} (hft : rx_fit (ty0 f) v = true) (hfl : f < fs.length) (kk : rx_G p l e R s m args below meth c Q D cA A old rho nL MC MS ad0 (pc + 3) la st (h.set k (.inr (ci, fs.set f v))) mc ms) : rx_G p l e R s m args below meth c Q D cA A old rho nL MC MS ad0 pc la (v :: .ref k :: st) h mc ms := by
  intro H locs ls cst0 cells slots hR h1 h2
  obtain ⟨ws, lc, r1, r2, r3, r4, r5, r6, r7, r8⟩ := hR
  obtain ⟨cv, cst1, rfl, hr, q6⟩ := rx_RL.uncons r7
  obtain ⟨cw, cst, rfl, hr2, q7⟩ := rx_RL.uncons q6
  obtain ⟨b, e, rfl, hw, he⟩ := rx_ref hr2 hk r1 hh
  obtain ⟨gs, rfl, hg⟩ := he.obj
  obtain ⟨hn1, hn2⟩ := rx_fit_of hft hr
  refine va_putF (C := C) (T := T) (N := N) hx hb hts hin ty0 hty hnm hown hK r2 r3 r4 k hw hc f hf hlink (fun _ z => z) hfin hin2 hdecl (hty f hf) hn1 hn2 (by rw [← hg.len]; exact hfl) hdg (fun H1 locs1 r2 r3 r4 => ?_)
  have ea := rx_ads_set (e := .inr (ci, gs.set f cv)) hw
  refine kk H1 locs1 ls _ cells slots ⟨_, lc, ?_, r2, r3, r4, r5, ?_, ?_, ?_⟩ h1 h2
  · rw [ea]; exact r1.set ⟨rfl, hg.set hr⟩
  · rw [ea]; exact r6
  · rw [ea]; exact q7
  · rw [ea]; exact r8
theorem rg_new (hx : p.tables.exec = Jvm.exec) (hb : c.code = cc) (hts : ∀ w ∈ Ts, w.before args s = true) (hin : ∀ w ∈ u_ws C T N, w ∈ Ts) (ty0 : Nat → FieldType) (hty : ∀ k, k < N → parseFieldDescriptor (T k).2.2.1 = some (ty0 k)) (hown : s.vm.findClass own = some m.cls) (hcl : (Cond.classLink own index C).before args s = true) (hinst : (Cond.instantiable C N).before args s = true) (hini : (Cond.initialized C).before args s = true) (hK : va_K D rc_cls (rx_tys cA) s) (hA : ∀ q, s.heap.size ≤ q → A q) (hc : rc_cls[ci]? = some (C, T, N)) {fs : List Value} (hfs : ∀ j, j < N → defaultValue (ty0 j) = vp_V fs j) (hRL : ∀ ads, rx_RL old rho ads fs fs) (hMC : MC ≤ R.cells) (hMS : MS ≤ R.slots) (hdg : decode cc pc = .ok (.new index, 3)) (hlen : h.length < 1000000) (kk : rx_G p l e R s m args below meth c Q D cA A old rho nL MC MS ad0 (pc + 3) la (.ref h.length :: st) (h ++ [.inr (ci, fs)]) mc ms) : rx_G p l e R s m args below meth c Q D cA A old rho nL MC MS ad0 pc la st h (mc + 1) (ms + N) := by
  intro H locs ls cst cells slots hR h1 h2
  obtain ⟨ws, lc, r1, r2, r3, r4, r5, r6, r7, r8⟩ := hR
  refine va_new (C := C) (T := T) (N := N) hx hb hts hin ty0 hty hown hcl hinst hini hK r2 r3 r4 hA hc hfs (by omega) (by omega) hdg (fun q H1 r2 r3 r4 => ?_)
  have ea : (ws ++ [(q, Sum.inr (ci, fs))] : va_W).map (·.1) = ws.map (·.1) ++ [q] := by simp
  have hl := r1.len
  refine kk H1 locs ls _ (cells + 1) (slots + N) ⟨_, lc, ?_, r2, r3, r4, r5, ?_, ?_, ?_⟩ (by omega) (by omega)
  · rw [ea]; exact r1.more.push ⟨rfl, hRL _⟩
  · rw [ea]; exact r6.more
  · rw [ea]
    refine ⟨Or.inr (Or.inr ⟨hlen, q, ?_, rfl⟩), r7.more⟩
    rw [hl, List.getElem?_append_right (by simp)]
    simp
  · obtain ⟨l9, h9⟩ := r8
    exact ⟨l9 ++ [q], by rw [ea, h9, List.append_assoc]⟩
end RowsB
theorem rx_arr_one {D : va_G} {cl : List vw_C} {s : State} {cA : Nat → ClassId} {t : Nat} {ty : FieldType} {cB : ClassId} (ht : rc_arr[t]? = some ty) (hK : va_K D cl (rx_tys cA ++ [(cB, ty)]) s) : cB = cA t := by
  have ht2 := rx_tys_at (cA := cA) ht
  have hlt : t < (rx_tys cA).length := (List.getElem?_eq_some_iff.mp ht2).1
  have h1 := (hK.2 t (cA t, ty) (by rw [List.getElem?_append_left hlt]; exact ht2)).2
  have h2 := (hK.2 (rx_tys cA).length (cB, ty) (by simp)).2
  cases ty with
  | object n =>
    obtain ⟨_, _, _, _, _, g1⟩ := h1
    obtain ⟨_, _, _, _, _, g2⟩ := h2
    exact Option.some.inj (g2.symm.trans g1)
  | _ => exact Option.some.inj (Eq.trans (Eq.symm (show s.vm.findClass _ = some cB from h2)) h1)
section RowsC
variable {p : Program} {l : Launch} {e : Env} {R : Room} {s : State} {m : MethodId} {args : Array Value} {below : List Frame} {meth : Method} {c : Code} {Q : State → Prop} {cc : ByteArray} {D : va_G} {cA : Nat → ClassId} {A : Nat → Prop} {old : Nat → Nat} {rho : UInt32 → Int32} {nL MC MS pc mc ms : Nat} {ad0 : List Nat} {la : RLoc} {st : List Value} {h : RHeap} {own C : String} {T : u_T} {N ci f k index : Nat} {Ts : List Cond} {t : Nat}
theorem rg_newa (hx : p.tables.exec = Jvm.exec) (hb : c.code = cc) {atype : ArrayType} {ty : FieldType} (harr : (Cond.arrayClass (newarray.typeOf atype)).before args s = true) (hty : newarray.typeOf atype = ty) (ht : rc_arr[t]? = some ty) (hK : va_K D rc_cls (rx_tys cA) s) (hA : ∀ q, s.heap.size ≤ q → A q) {n : Int32} {x : (Nat → Int32) ⊕ (Nat → Int64) ⊕ (Nat → UInt32) ⊕ (Nat → UInt64) ⊕ (Nat → Option Nat)} (ha : ∀ cB : ClassId, vp_cell cB (n.toNatClampNeg, x) = arrV cB n.toNatClampNeg (fun _ => defaultValue ty)) (hkd : rx_kind t (n.toNatClampNeg, x)) (hxv : ∀ j, rx_xv (n.toNatClampNeg, x) j = rx_dv t) (hdv : ∀ ads, rx_R old rho ads (rx_dv t) (rx_dv t)) (hn : ¬ n < 0) (hby : n.toNatClampNeg * componentBytes ty ≤ 536870912) (hMC : MC ≤ R.cells) (hMS : MS ≤ R.slots) (hdg : decode cc pc = .ok (.newarray atype, 2)) (hlen : h.length < 1000000) (kk : rx_G p l e R s m args below meth c Q D cA A old rho nL MC MS ad0 (pc + 2) la (.ref h.length :: st) (h ++ [.inl (t, n.toNatClampNeg, [])]) mc ms) : rx_G p l e R s m args below meth c Q D cA A old rho nL MC MS ad0 pc la (.int n :: st) h (mc + 1) (ms + n.toNatClampNeg) := by
  intro H locs ls cst0 cells slots hR h1 h2
  obtain ⟨ws, lc, r1, r2, r3, r4, r5, r6, r7, r8⟩ := hR
  obtain ⟨cv, cst, rfl, hr, q7⟩ := rx_RL.uncons r7
  cases hr
  refine va_newa (a0 := (n.toNatClampNeg, x)) hx hb harr hty hK r2 r3 r4 hA ha hn rfl hby (by omega) (by omega) hdg (fun q cB H1 hK2 r2 r3 r4 => ?_)
  have hB := rx_arr_one ht hK2
  subst hB
  have ea : (ws ++ [(q, Sum.inl (cA t, n.toNatClampNeg, x))] : va_W).map (·.1) = ws.map (·.1) ++ [q] := by simp
  have hl := r1.len
  refine kk H1 locs ls _ (cells + 1) (slots + n.toNatClampNeg) ⟨_, lc, ?_, r2, r3, r4, r5, ?_, ?_, ?_⟩ (by omega) (by omega)
  · rw [ea]; exact r1.more.push ⟨rfl, rfl, hkd, (List.getElem?_eq_some_iff.mp ht).1, fun j _ => by rw [hxv j]; exact hdv _⟩
  · rw [ea]; exact r6.more
  · rw [ea]
    refine ⟨Or.inr (Or.inr ⟨hlen, q, ?_, rfl⟩), q7.more⟩
    rw [hl, List.getElem?_append_right (by simp)]
    simp
  · obtain ⟨l9, h9⟩ := r8
    exact ⟨l9 ++ [q], by rw [ea, h9, List.append_assoc]⟩
theorem rg_anewa (hx : p.tables.exec = Jvm.exec) (hb : c.code = cc) (hown : s.vm.findClass own = some m.cls) (hcl : (Cond.classLink own index C).before args s = true) (hov : va_AO C s) (ht : rc_arr[t]? = some (.object C)) (ht4 : 4 ≤ t) (hK : va_K D rc_cls (rx_tys cA) s) (hA : ∀ q, s.heap.size ≤ q → A q) {n : Int32} (hn : ¬ n < 0) (hby : n.toNatClampNeg * 4 ≤ 536870912) (hMC : MC ≤ R.cells) (hMS : MS ≤ R.slots) (hdg : decode cc pc = .ok (.anewarray index, 3)) (hlen : h.length < 1000000) (kk : rx_G p l e R s m args below meth c Q D cA A old rho nL MC MS ad0 (pc + 3) la (.ref h.length :: st) (h ++ [.inl (t, n.toNatClampNeg, [])]) mc ms) : rx_G p l e R s m args below meth c Q D cA A old rho nL MC MS ad0 pc la (.int n :: st) h (mc + 1) (ms + n.toNatClampNeg) := by
  intro H locs ls cst0 cells slots hR h1 h2
  obtain ⟨ws, lc, r1, r2, r3, r4, r5, r6, r7, r8⟩ := hR
  obtain ⟨cv, cst, rfl, hr, q7⟩ := rx_RL.uncons r7
  cases hr
  refine va_newq hx hb hown hcl hov hK r2 r3 r4 hA hn rfl hby (by omega) (by omega) hdg (fun q cB H1 hK2 r2 r3 r4 => ?_)
  have hB := rx_arr_one ht hK2
  subst hB
  have hkd : rx_kind t (n.toNatClampNeg, .inr (.inr (.inr (.inr (fun _ => none))))) := by
    match t, ht4 with
    | t + 4, _ => exact ⟨_, rfl⟩
  have hxv : ∀ j, rx_xv (n.toNatClampNeg, .inr (.inr (.inr (.inr (fun _ => none))))) j = .null := fun _ => rfl
  have hdv : rx_dv t = .null := by
    match t, ht4 with
    | t + 4, _ => rfl
  have ea : (ws ++ [(q, Sum.inl (cA t, n.toNatClampNeg, .inr (.inr (.inr (.inr (fun _ => none))))))] : va_W).map (·.1) = ws.map (·.1) ++ [q] := by simp
  have hl := r1.len
  refine kk H1 locs ls _ (cells + 1) (slots + n.toNatClampNeg) ⟨_, lc, ?_, r2, r3, r4, r5, ?_, ?_, ?_⟩ (by omega) (by omega)
  · rw [ea]; exact r1.more.push ⟨rfl, rfl, hkd, (List.getElem?_eq_some_iff.mp ht).1, fun j _ => by rw [hxv j]; show rx_R old rho _ (rx_dv t) _; rw [hdv]; exact rfl⟩
  · rw [ea]; exact r6.more
  · rw [ea]
    refine ⟨Or.inr (Or.inr ⟨hlen, q, ?_, rfl⟩), q7.more⟩
    rw [hl, List.getElem?_append_right (by simp)]
    simp
  · obtain ⟨l9, h9⟩ := r8
    exact ⟨l9 ++ [q], by rw [ea, h9, List.append_assoc]⟩
theorem rg_iald (hx : p.tables.exec = Jvm.exec) (hb : c.code = cc) (hK : va_K D rc_cls (rx_tys cA) s) (hdg : decode cc pc = .ok (.iaload, 1)) (hk : k < 1000000) {i : Int32} {n : Nat} {u : List (Nat × Value)} (hh : h[k]? = some (.inl (0, n, u))) (h0 : ¬ i < 0) (hi : i.toNatClampNeg < n) (kk : rx_G p l e R s m args below meth c Q D cA A old rho nL MC MS ad0 (pc + 1) la (rx_elt 0 u i.toNatClampNeg :: st) h mc ms) : rx_G p l e R s m args below meth c Q D cA A old rho nL MC MS ad0 pc la (.int i :: .ref k :: st) h mc ms := by
  intro H locs ls cst0 cells slots hR h1 h2
  obtain ⟨ws, lc, r1, r2, r3, r4, r5, r6, r7, r8⟩ := hR
  obtain ⟨cv, cst1, rfl, hr, q6⟩ := rx_RL.uncons r7
  obtain ⟨cw, cst, rfl, hr2, q7⟩ := rx_RL.uncons q6
  cases hr
  obtain ⟨b, e, rfl, hw, he⟩ := rx_ref hr2 hk r1 hh
  obtain ⟨x, rfl, hkd, htl, hel⟩ := he.arr
  obtain ⟨f, hf0⟩ := hkd
  have hf1 : x = .inl f := hf0
  subst hf1
  exact va_iald hx hb hK r2 k 0 hw (rx_tys_at (show rc_arr[0]? = some .int from rfl)) (rx_in h0 hi) hdg (kk H locs ls _ cells slots ⟨ws, lc, r1, r2, r3, r4, r5, r6, ⟨hel _ hi, q7⟩, r8⟩ h1 h2)
theorem rg_lald (hx : p.tables.exec = Jvm.exec) (hb : c.code = cc) (hK : va_K D rc_cls (rx_tys cA) s) (hdg : decode cc pc = .ok (.laload, 1)) (hk : k < 1000000) {i : Int32} {n : Nat} {u : List (Nat × Value)} (hh : h[k]? = some (.inl (1, n, u))) (h0 : ¬ i < 0) (hi : i.toNatClampNeg < n) (kk : rx_G p l e R s m args below meth c Q D cA A old rho nL MC MS ad0 (pc + 1) la (rx_elt 1 u i.toNatClampNeg :: st) h mc ms) : rx_G p l e R s m args below meth c Q D cA A old rho nL MC MS ad0 pc la (.int i :: .ref k :: st) h mc ms := by
  intro H locs ls cst0 cells slots hR h1 h2
  obtain ⟨ws, lc, r1, r2, r3, r4, r5, r6, r7, r8⟩ := hR
  obtain ⟨cv, cst1, rfl, hr, q6⟩ := rx_RL.uncons r7
  obtain ⟨cw, cst, rfl, hr2, q7⟩ := rx_RL.uncons q6
  cases hr
  obtain ⟨b, e, rfl, hw, he⟩ := rx_ref hr2 hk r1 hh
  obtain ⟨x, rfl, hkd, htl, hel⟩ := he.arr
  obtain ⟨f, hf0⟩ := hkd
  have hf1 : x = .inr (.inl f) := hf0
  subst hf1
  exact va_lald hx hb hK r2 k 1 hw (rx_tys_at (show rc_arr[1]? = some .long from rfl)) (rx_in h0 hi) hdg (kk H locs ls _ cells slots ⟨ws, lc, r1, r2, r3, r4, r5, r6, ⟨hel _ hi, q7⟩, r8⟩ h1 h2)
theorem rg_bald (hx : p.tables.exec = Jvm.exec) (hb : c.code = cc) (hK : va_K D rc_cls (rx_tys cA) s) (hdg : decode cc pc = .ok (.baload, 1)) (hk : k < 1000000) {i : Int32} {n : Nat} {u : List (Nat × Value)} (hh : h[k]? = some (.inl (2, n, u))) (h0 : ¬ i < 0) (hi : i.toNatClampNeg < n) (kk : rx_G p l e R s m args below meth c Q D cA A old rho nL MC MS ad0 (pc + 1) la (rx_elt 2 u i.toNatClampNeg :: st) h mc ms) : rx_G p l e R s m args below meth c Q D cA A old rho nL MC MS ad0 pc la (.int i :: .ref k :: st) h mc ms := by
  intro H locs ls cst0 cells slots hR h1 h2
  obtain ⟨ws, lc, r1, r2, r3, r4, r5, r6, r7, r8⟩ := hR
  obtain ⟨cv, cst1, rfl, hr, q6⟩ := rx_RL.uncons r7
  obtain ⟨cw, cst, rfl, hr2, q7⟩ := rx_RL.uncons q6
  cases hr
  obtain ⟨b, e, rfl, hw, he⟩ := rx_ref hr2 hk r1 hh
  obtain ⟨x, rfl, hkd, htl, hel⟩ := he.arr
  obtain ⟨f, hf0⟩ := hkd
  have hf1 : x = .inl f := hf0
  subst hf1
  exact va_bald hx hb hK r2 k 2 hw (rx_tys_at (show rc_arr[2]? = some .byte from rfl)) (rx_in h0 hi) hdg (kk H locs ls _ cells slots ⟨ws, lc, r1, r2, r3, r4, r5, r6, ⟨hel _ hi, q7⟩, r8⟩ h1 h2)
theorem rg_zald (hx : p.tables.exec = Jvm.exec) (hb : c.code = cc) (hK : va_K D rc_cls (rx_tys cA) s) (hdg : decode cc pc = .ok (.baload, 1)) (hk : k < 1000000) {i : Int32} {n : Nat} {u : List (Nat × Value)} (hh : h[k]? = some (.inl (3, n, u))) (h0 : ¬ i < 0) (hi : i.toNatClampNeg < n) (kk : rx_G p l e R s m args below meth c Q D cA A old rho nL MC MS ad0 (pc + 1) la (rx_elt 3 u i.toNatClampNeg :: st) h mc ms) : rx_G p l e R s m args below meth c Q D cA A old rho nL MC MS ad0 pc la (.int i :: .ref k :: st) h mc ms := by
  intro H locs ls cst0 cells slots hR h1 h2
  obtain ⟨ws, lc, r1, r2, r3, r4, r5, r6, r7, r8⟩ := hR
  obtain ⟨cv, cst1, rfl, hr, q6⟩ := rx_RL.uncons r7
  obtain ⟨cw, cst, rfl, hr2, q7⟩ := rx_RL.uncons q6
  cases hr
  obtain ⟨b, e, rfl, hw, he⟩ := rx_ref hr2 hk r1 hh
  obtain ⟨x, rfl, hkd, htl, hel⟩ := he.arr
  obtain ⟨f, hf0⟩ := hkd
  have hf1 : x = .inl f := hf0
  subst hf1
  exact va_zald hx hb hK r2 k 3 hw (rx_tys_at (show rc_arr[3]? = some .boolean from rfl)) (rx_in h0 hi) hdg (kk H locs ls _ cells slots ⟨ws, lc, r1, r2, r3, r4, r5, r6, ⟨hel _ hi, q7⟩, r8⟩ h1 h2)
theorem rg_aald (hx : p.tables.exec = Jvm.exec) (hb : c.code = cc) (hK : va_K D rc_cls (rx_tys cA) s) (ht4 : 4 ≤ t) (hdg : decode cc pc = .ok (.aaload, 1)) (hk : k < 1000000) {i : Int32} {n : Nat} {u : List (Nat × Value)} (hh : h[k]? = some (.inl (t, n, u))) (h0 : ¬ i < 0) (hi : i.toNatClampNeg < n) (kk : rx_G p l e R s m args below meth c Q D cA A old rho nL MC MS ad0 (pc + 1) la (rx_elt t u i.toNatClampNeg :: st) h mc ms) : rx_G p l e R s m args below meth c Q D cA A old rho nL MC MS ad0 pc la (.int i :: .ref k :: st) h mc ms := by
  intro H locs ls cst0 cells slots hR h1 h2
  obtain ⟨ws, lc, r1, r2, r3, r4, r5, r6, r7, r8⟩ := hR
  obtain ⟨cv, cst1, rfl, hr, q6⟩ := rx_RL.uncons r7
  obtain ⟨cw, cst, rfl, hr2, q7⟩ := rx_RL.uncons q6
  cases hr
  obtain ⟨b, e, rfl, hw, he⟩ := rx_ref hr2 hk r1 hh
  obtain ⟨x, rfl, hkd, htl, hel⟩ := he.arr
  have hkd2 : ∃ f, x = .inr (.inr (.inr (.inr f))) := by
    match t, ht4, hkd with
    | t + 4, _, hkd => exact hkd
  obtain ⟨f, rfl⟩ := hkd2
  obtain ⟨C, ht⟩ := rx_arr_ref ht4 htl
  exact va_aldq hx hb hK r2 k t hw (rx_tys_at ht) (rx_in h0 hi) hdg (kk H locs ls _ cells slots ⟨ws, lc, r1, r2, r3, r4, r5, r6, ⟨hel _ hi, q7⟩, r8⟩ h1 h2)
theorem rg_iast (hx : p.tables.exec = Jvm.exec) (hb : c.code = cc) (hK : va_K D rc_cls (rx_tys cA) s) (hdg : decode cc pc = .ok (.iastore, 1)) (hk : k < 1000000) {i : Int32} {n : Nat} {u : List (Nat × Value)} {v : Value} (hh : h[k]? = some (.inl (0, n, u))) (h0 : ¬ i < 0) (hi : i.toNatClampNeg < n) (hv : rx_isI v = true) (kk : rx_G p l e R s m args below meth c Q D cA A old rho nL MC MS ad0 (pc + 1) la st (h.set k (.inl (0, n, (i.toNatClampNeg, v) :: u))) mc ms) : rx_G p l e R s m args below meth c Q D cA A old rho nL MC MS ad0 pc la (v :: .int i :: .ref k :: st) h mc ms := by
  intro H locs ls cst0 cells slots hR h1 h2
  obtain ⟨ws, lc, r1, r2, r3, r4, r5, r6, r7, r8⟩ := hR
  obtain ⟨cv, cst1, rfl, hr, q5⟩ := rx_RL.uncons r7
  obtain ⟨cw, cst2, rfl, hr2, q6⟩ := rx_RL.uncons q5
  obtain ⟨cz, cst, rfl, hr3, q7⟩ := rx_RL.uncons q6
  cases hr2
  obtain ⟨b, e, rfl, hw, he⟩ := rx_ref hr3 hk r1 hh
  obtain ⟨x, rfl, hkd, htl, hel⟩ := he.arr
  obtain ⟨f, hf0⟩ := hkd
  have hf1 : x = .inl f := hf0
  subst hf1
  obtain ⟨y, rfl⟩ := hr.isI hv
  refine va_iast hx hb hK r2 r3 r4 k 0 hw (rx_tys_at (show rc_arr[0]? = some .int from rfl)) (rx_in h0 hi) hdg (fun H1 locs1 r2 r3 r4 => ?_)
  have ea := rx_ads_set (e := .inl (cA 0, n, .inl (upd f i.toNatClampNeg y))) hw
  refine kk H1 locs1 ls _ cells slots ⟨_, lc, ?_, r2, r3, r4, r5, ?_, ?_, ?_⟩ h1 h2
  · rw [ea]
    refine r1.set ⟨rfl, rfl, ⟨_, rfl⟩, htl, fun j hj => ?_⟩
    rw [rx_look_cons]
    by_cases hji : j = i.toNatClampNeg
    · rw [if_pos hji]
      simp only [rx_xv, upd, if_pos hji]
      exact hr
    · rw [if_neg hji]
      have := hel j hj
      simp only [rx_xv, upd, if_neg hji] at this ⊢
      exact this
  · rw [ea]; exact r6
  · rw [ea]; exact q7
  · rw [ea]; exact r8
theorem rg_last (hx : p.tables.exec = Jvm.exec) (hb : c.code = cc) (hK : va_K D rc_cls (rx_tys cA) s) (hdg : decode cc pc = .ok (.lastore, 1)) (hk : k < 1000000) {i : Int32} {n : Nat} {u : List (Nat × Value)} {v : Value} (hh : h[k]? = some (.inl (1, n, u))) (h0 : ¬ i < 0) (hi : i.toNatClampNeg < n) (hv : rx_isL v = true) (kk : rx_G p l e R s m args below meth c Q D cA A old rho nL MC MS ad0 (pc + 1) la st (h.set k (.inl (1, n, (i.toNatClampNeg, v) :: u))) mc ms) : rx_G p l e R s m args below meth c Q D cA A old rho nL MC MS ad0 pc la (v :: .int i :: .ref k :: st) h mc ms := by
  intro H locs ls cst0 cells slots hR h1 h2
  obtain ⟨ws, lc, r1, r2, r3, r4, r5, r6, r7, r8⟩ := hR
  obtain ⟨cv, cst1, rfl, hr, q5⟩ := rx_RL.uncons r7
  obtain ⟨cw, cst2, rfl, hr2, q6⟩ := rx_RL.uncons q5
  obtain ⟨cz, cst, rfl, hr3, q7⟩ := rx_RL.uncons q6
  cases hr2
  obtain ⟨b, e, rfl, hw, he⟩ := rx_ref hr3 hk r1 hh
  obtain ⟨x, rfl, hkd, htl, hel⟩ := he.arr
  obtain ⟨f, hf0⟩ := hkd
  have hf1 : x = .inr (.inl f) := hf0
  subst hf1
  obtain ⟨y, rfl⟩ := hr.isL hv
  refine va_last hx hb hK r2 r3 r4 k 1 hw (rx_tys_at (show rc_arr[1]? = some .long from rfl)) (rx_in h0 hi) hdg (fun H1 locs1 r2 r3 r4 => ?_)
  have ea := rx_ads_set (e := .inl (cA 1, n, .inr (.inl (vp_updL f i.toNatClampNeg y)))) hw
  refine kk H1 locs1 ls _ cells slots ⟨_, lc, ?_, r2, r3, r4, r5, ?_, ?_, ?_⟩ h1 h2
  · rw [ea]
    refine r1.set ⟨rfl, rfl, ⟨_, rfl⟩, htl, fun j hj => ?_⟩
    rw [rx_look_cons]
    by_cases hji : j = i.toNatClampNeg
    · rw [if_pos hji]
      simp only [rx_xv, vp_updL, if_pos hji]
      exact hr
    · rw [if_neg hji]
      have := hel j hj
      simp only [rx_xv, vp_updL, if_neg hji] at this ⊢
      exact this
  · rw [ea]; exact r6
  · rw [ea]; exact q7
  · rw [ea]; exact r8
theorem rg_bast (hx : p.tables.exec = Jvm.exec) (hb : c.code = cc) (hK : va_K D rc_cls (rx_tys cA) s) (hdg : decode cc pc = .ok (.bastore, 1)) (hk : k < 1000000) {i : Int32} {n : Nat} {u : List (Nat × Value)} {v : Value} (hh : h[k]? = some (.inl (2, n, u))) (h0 : ¬ i < 0) (hi : i.toNatClampNeg < n) (hv : rx_isI v = true) (kk : rx_G p l e R s m args below meth c Q D cA A old rho nL MC MS ad0 (pc + 1) la st (h.set k (.inl (2, n, (i.toNatClampNeg, (rx_iu (vp_nar .byte) v)) :: u))) mc ms) : rx_G p l e R s m args below meth c Q D cA A old rho nL MC MS ad0 pc la (v :: .int i :: .ref k :: st) h mc ms := by
  intro H locs ls cst0 cells slots hR h1 h2
  obtain ⟨ws, lc, r1, r2, r3, r4, r5, r6, r7, r8⟩ := hR
  obtain ⟨cv, cst1, rfl, hr, q5⟩ := rx_RL.uncons r7
  obtain ⟨cw, cst2, rfl, hr2, q6⟩ := rx_RL.uncons q5
  obtain ⟨cz, cst, rfl, hr3, q7⟩ := rx_RL.uncons q6
  cases hr2
  obtain ⟨b, e, rfl, hw, he⟩ := rx_ref hr3 hk r1 hh
  obtain ⟨x, rfl, hkd, htl, hel⟩ := he.arr
  obtain ⟨f, hf0⟩ := hkd
  have hf1 : x = .inl f := hf0
  subst hf1
  obtain ⟨y, rfl⟩ := hr.isI hv
  refine va_bast hx hb hK r2 r3 r4 k 2 hw (rx_tys_at (show rc_arr[2]? = some .byte from rfl)) (rx_in h0 hi) hdg (fun H1 locs1 r2 r3 r4 => ?_)
  have ea := rx_ads_set (e := .inl (cA 2, n, .inl (upd f i.toNatClampNeg (vp_nar .byte y)))) hw
  refine kk H1 locs1 ls _ cells slots ⟨_, lc, ?_, r2, r3, r4, r5, ?_, ?_, ?_⟩ h1 h2
  · rw [ea]
    refine r1.set ⟨rfl, rfl, ⟨_, rfl⟩, htl, fun j hj => ?_⟩
    rw [rx_look_cons]
    by_cases hji : j = i.toNatClampNeg
    · rw [if_pos hji]
      simp only [rx_xv, upd, if_pos hji]
      exact rx_R.iu hr
    · rw [if_neg hji]
      have := hel j hj
      simp only [rx_xv, upd, if_neg hji] at this ⊢
      exact this
  · rw [ea]; exact r6
  · rw [ea]; exact q7
  · rw [ea]; exact r8
theorem rg_zast (hx : p.tables.exec = Jvm.exec) (hb : c.code = cc) (hK : va_K D rc_cls (rx_tys cA) s) (hdg : decode cc pc = .ok (.bastore, 1)) (hk : k < 1000000) {i : Int32} {n : Nat} {u : List (Nat × Value)} {v : Value} (hh : h[k]? = some (.inl (3, n, u))) (h0 : ¬ i < 0) (hi : i.toNatClampNeg < n) (hv : rx_isI v = true) (kk : rx_G p l e R s m args below meth c Q D cA A old rho nL MC MS ad0 (pc + 1) la st (h.set k (.inl (3, n, (i.toNatClampNeg, (rx_iu (vp_nar .boolean) v)) :: u))) mc ms) : rx_G p l e R s m args below meth c Q D cA A old rho nL MC MS ad0 pc la (v :: .int i :: .ref k :: st) h mc ms := by
  intro H locs ls cst0 cells slots hR h1 h2
  obtain ⟨ws, lc, r1, r2, r3, r4, r5, r6, r7, r8⟩ := hR
  obtain ⟨cv, cst1, rfl, hr, q5⟩ := rx_RL.uncons r7
  obtain ⟨cw, cst2, rfl, hr2, q6⟩ := rx_RL.uncons q5
  obtain ⟨cz, cst, rfl, hr3, q7⟩ := rx_RL.uncons q6
  cases hr2
  obtain ⟨b, e, rfl, hw, he⟩ := rx_ref hr3 hk r1 hh
  obtain ⟨x, rfl, hkd, htl, hel⟩ := he.arr
  obtain ⟨f, hf0⟩ := hkd
  have hf1 : x = .inl f := hf0
  subst hf1
  obtain ⟨y, rfl⟩ := hr.isI hv
  refine va_zast hx hb hK r2 r3 r4 k 3 hw (rx_tys_at (show rc_arr[3]? = some .boolean from rfl)) (rx_in h0 hi) hdg (fun H1 locs1 r2 r3 r4 => ?_)
  have ea := rx_ads_set (e := .inl (cA 3, n, .inl (upd f i.toNatClampNeg (vp_nar .boolean y)))) hw
  refine kk H1 locs1 ls _ cells slots ⟨_, lc, ?_, r2, r3, r4, r5, ?_, ?_, ?_⟩ h1 h2
  · rw [ea]
    refine r1.set ⟨rfl, rfl, ⟨_, rfl⟩, htl, fun j hj => ?_⟩
    rw [rx_look_cons]
    by_cases hji : j = i.toNatClampNeg
    · rw [if_pos hji]
      simp only [rx_xv, upd, if_pos hji]
      exact rx_R.iu hr
    · rw [if_neg hji]
      have := hel j hj
      simp only [rx_xv, upd, if_neg hji] at this ⊢
      exact this
  · rw [ea]; exact r6
  · rw [ea]; exact q7
  · rw [ea]; exact r8
end RowsC
end
section
theorem rx_arc_of {t ci : Nat} (h4 : 4 ≤ t) (h : rc_arc[t]? = some ci) : ∃ C T N, rc_arr[t]? = some (.object C) ∧ rc_cls[ci]? = some (C, T, N) := by
  have hl : t < 6 := (List.getElem?_eq_some_iff.mp h).1
  rcases (show t = 4 ∨ t = 5 by omega) with rfl | rfl
  · cases h; exact ⟨_, _, _, rfl, rfl⟩
  · cases h; exact ⟨_, _, _, rfl, rfl⟩
theorem rx_nfw {x : Nat} {cst : List Value} {R : Room} (hq : x = (cst.map fun v => v.category).sum) (hst : x ≤ 8) (hlo : 200 ≤ R.locals) : (cst.map fun v => v.category).sum + (nativeFrameWords "java/lang/System" "arraycopy" 5 + 11) ≤ R.locals := by
  have h9 : nativeFrameWords "java/lang/System" "arraycopy" 5 + 11 ≤ 100 := by decide +kernel
  omega
section RowsD
variable {p : Program} {l : Launch} {e : Env} {R : Room} {s : State} {m : MethodId} {args : Array Value} {below : List Frame} {meth : Method} {c : Code} {Q : State → Prop} {cc : ByteArray} {D : va_G} {cA : Nat → ClassId} {A : Nat → Prop} {old : Nat → Nat} {rho : UInt32 → Int32} {nL MC MS pc mc ms : Nat} {ad0 : List Nat} {la : RLoc} {st : List Value} {h : RHeap} {own C : String} {T : u_T} {N ci f k index t : Nat} {Ts : List Cond}
theorem rg_aast (hx : p.tables.exec = Jvm.exec) (hb : c.code = cc) (hK : va_K D rc_cls (rx_tys cA) s) (ht4 : 4 ≤ t) (hdg : decode cc pc = .ok (.aastore, 1)) (hk : k < 1000000) {i : Int32} {n kv : Nat} {u : List (Nat × Value)} (hkv : kv < 1000000) {vs : List Value} (hhv : h[kv]? = some (.inr (ci, vs))) (hct : rc_arc[t]? = some ci) (hh : h[k]? = some (.inl (t, n, u))) (h0 : ¬ i < 0) (hi : i.toNatClampNeg < n) (kk : rx_G p l e R s m args below meth c Q D cA A old rho nL MC MS ad0 (pc + 1) la st (h.set k (.inl (t, n, (i.toNatClampNeg, .ref kv) :: u))) mc ms) : rx_G p l e R s m args below meth c Q D cA A old rho nL MC MS ad0 pc la (.ref kv :: .int i :: .ref k :: st) h mc ms := by
  intro H locs ls cst0 cells slots hR h1 h2
  obtain ⟨ws, lc, r1, r2, r3, r4, r5, r6, r7, r8⟩ := hR
  obtain ⟨cv, cst1, rfl, hr, q5⟩ := rx_RL.uncons r7
  obtain ⟨cw, cst2, rfl, hr2, q6⟩ := rx_RL.uncons q5
  obtain ⟨cz, cst, rfl, hr3, q7⟩ := rx_RL.uncons q6
  cases hr2
  obtain ⟨b, e, rfl, hw, he⟩ := rx_ref hr3 hk r1 hh
  obtain ⟨x, rfl, hkd, htl, hel⟩ := he.arr
  have hkd2 : ∃ f, x = .inr (.inr (.inr (.inr f))) := by
    match t, ht4, hkd with
    | t + 4, _, hkd => exact hkd
  obtain ⟨f, rfl⟩ := hkd2
  obtain ⟨bv, ev, rfl, hwv, hev⟩ := rx_ref hr hkv r1 hhv
  obtain ⟨gs, rfl, -⟩ := hev.obj
  obtain ⟨C, T, N, ht, hc⟩ := rx_arc_of ht4 hct
  refine va_astq (r := (C, T, N)) hx hb hK r2 r3 r4 k t kv ci hw (rx_tys_at ht) hwv hc (rx_in h0 hi) hdg (fun H1 locs1 r2 r3 r4 => ?_)
  have ea := rx_ads_set (e := .inl (cA t, n, .inr (.inr (.inr (.inr (va_up f i.toNatClampNeg (some bv))))))) hw
  refine kk H1 locs1 ls _ cells slots ⟨_, lc, ?_, r2, r3, r4, r5, ?_, ?_, ?_⟩ h1 h2
  · rw [ea]
    refine r1.set ⟨rfl, rfl, ?_, htl, fun j hj => ?_⟩
    · match t, ht4 with
      | t + 4, _ => exact ⟨_, rfl⟩
    rw [rx_look_cons]
    by_cases hji : j = i.toNatClampNeg
    · rw [if_pos hji]
      simp only [rx_xv, va_up, if_pos hji]
      exact hr
    · rw [if_neg hji]
      have := hel j hj
      simp only [rx_xv, va_up, if_neg hji] at this ⊢
      exact this
  · rw [ea]; exact r6
  · rw [ea]; exact q7
  · rw [ea]; exact r8
theorem rg_aastN (hx : p.tables.exec = Jvm.exec) (hb : c.code = cc) (hK : va_K D rc_cls (rx_tys cA) s) (ht4 : 4 ≤ t) (hdg : decode cc pc = .ok (.aastore, 1)) (hk : k < 1000000) {i : Int32} {n kv : Nat} {u : List (Nat × Value)} (hh : h[k]? = some (.inl (t, n, u))) (h0 : ¬ i < 0) (hi : i.toNatClampNeg < n) (kk : rx_G p l e R s m args below meth c Q D cA A old rho nL MC MS ad0 (pc + 1) la st (h.set k (.inl (t, n, (i.toNatClampNeg, .null) :: u))) mc ms) : rx_G p l e R s m args below meth c Q D cA A old rho nL MC MS ad0 pc la (.null :: .int i :: .ref k :: st) h mc ms := by
  intro H locs ls cst0 cells slots hR h1 h2
  obtain ⟨ws, lc, r1, r2, r3, r4, r5, r6, r7, r8⟩ := hR
  obtain ⟨cv, cst1, rfl, hr, q5⟩ := rx_RL.uncons r7
  obtain ⟨cw, cst2, rfl, hr2, q6⟩ := rx_RL.uncons q5
  obtain ⟨cz, cst, rfl, hr3, q7⟩ := rx_RL.uncons q6
  cases hr2
  obtain ⟨b, e, rfl, hw, he⟩ := rx_ref hr3 hk r1 hh
  obtain ⟨x, rfl, hkd, htl, hel⟩ := he.arr
  have hkd2 : ∃ f, x = .inr (.inr (.inr (.inr f))) := by
    match t, ht4, hkd with
    | t + 4, _, hkd => exact hkd
  obtain ⟨f, rfl⟩ := hkd2
  cases hr
  obtain ⟨C, ht⟩ := rx_arr_ref ht4 htl
  refine va_astqN hx hb hK r2 r3 r4 k t hw (rx_tys_at ht) (rx_in h0 hi) hdg (fun H1 locs1 r2 r3 r4 => ?_)
  have ea := rx_ads_set (e := .inl (cA t, n, .inr (.inr (.inr (.inr (va_up f i.toNatClampNeg (none))))))) hw
  refine kk H1 locs1 ls _ cells slots ⟨_, lc, ?_, r2, r3, r4, r5, ?_, ?_, ?_⟩ h1 h2
  · rw [ea]
    refine r1.set ⟨rfl, rfl, ?_, htl, fun j hj => ?_⟩
    · match t, ht4 with
      | t + 4, _ => exact ⟨_, rfl⟩
    rw [rx_look_cons]
    by_cases hji : j = i.toNatClampNeg
    · rw [if_pos hji]
      simp only [rx_xv, va_up, if_pos hji]
      exact rfl
    · rw [if_neg hji]
      have := hel j hj
      simp only [rx_xv, va_up, if_neg hji] at this ⊢
      exact this
  · rw [ea]; exact r6
  · rw [ea]; exact q7
  · rw [ea]; exact r8
theorem rg_alen (hx : p.tables.exec = Jvm.exec) (hb : c.code = cc) (hK : va_K D rc_cls (rx_tys cA) s) (hdg : decode cc pc = .ok (.arraylength, 1)) (hk : k < 1000000) {n : Nat} {u : List (Nat × Value)} (hh : h[k]? = some (.inl (t, n, u))) (kk : rx_G p l e R s m args below meth c Q D cA A old rho nL MC MS ad0 (pc + 1) la (.int (Int32.ofNat n) :: st) h mc ms) : rx_G p l e R s m args below meth c Q D cA A old rho nL MC MS ad0 pc la (.ref k :: st) h mc ms := by
  intro H locs ls cst0 cells slots hR h1 h2
  obtain ⟨ws, lc, r1, r2, r3, r4, r5, r6, r7, r8⟩ := hR
  obtain ⟨cv, cst, rfl, hr, q7⟩ := rx_RL.uncons r7
  obtain ⟨b, e, rfl, hw, he⟩ := rx_ref hr hk r1 hh
  obtain ⟨x, rfl, hkd, htl, hel⟩ := he.arr
  obtain ⟨ty, hty⟩ : ∃ ty, rc_arr[t]? = some ty := ⟨_, List.getElem?_eq_getElem htl⟩
  exact va_alen hx hb hK r2 k t hw (rx_tys_at hty) rfl hdg (kk H locs ls _ cells slots ⟨ws, lc, r1, r2, r3, r4, r5, r6, ⟨rfl, q7⟩, r8⟩ h1 h2)
theorem rg_alenO (hx : p.tables.exec = Jvm.exec) (hb : c.code = cc) (hdg : decode cc pc = .ok (.arraylength, 1)) (hk : 1000000 ≤ k) (hk2 : k < 2000000) {ty : FieldType} {n : Nat} {g : Nat → Value} (hT : va_T ty (old (k - 1000000)) n g A s s.heap) (kk : rx_G p l e R s m args below meth c Q D cA A old rho nL MC MS ad0 (pc + 1) la (.int (Int32.ofNat n) :: st) h mc ms) : rx_G p l e R s m args below meth c Q D cA A old rho nL MC MS ad0 pc la (.ref k :: st) h mc ms := by
  intro H locs ls cst0 cells slots hR h1 h2
  obtain ⟨ws, lc, r1, r2, r3, r4, r5, r6, r7, r8⟩ := hR
  obtain ⟨cv, cst, rfl, hr, q7⟩ := rx_RL.uncons r7
  have hr := rx_refO hr hk hk2
  subst hr
  exact va_tlen hx hb hT r4 rfl hdg (kk H locs ls _ cells slots ⟨ws, lc, r1, r2, r3, r4, r5, r6, ⟨rfl, q7⟩, r8⟩ h1 h2)
theorem rg_ialdO (hx : p.tables.exec = Jvm.exec) (hb : c.code = cc) (hdg : decode cc pc = .ok (.iaload, 1)) (hk : 1000000 ≤ k) (hk2 : k < 2000000) {n : Nat} {i : Int32} {g : Nat → Value} (hT : va_T .int (old (k - 1000000)) n g A s s.heap) (h0 : ¬ i < 0) (hi : i.toNatClampNeg < n) {v : Value} (hv : ∀ ads, rx_R old rho ads v (g i.toNatClampNeg)) (kk : rx_G p l e R s m args below meth c Q D cA A old rho nL MC MS ad0 (pc + 1) la (v :: st) h mc ms) : rx_G p l e R s m args below meth c Q D cA A old rho nL MC MS ad0 pc la (.int i :: .ref k :: st) h mc ms := by
  intro H locs ls cst0 cells slots hR h1 h2
  obtain ⟨ws, lc, r1, r2, r3, r4, r5, r6, r7, r8⟩ := hR
  obtain ⟨cv, cst1, rfl, hr, q6⟩ := rx_RL.uncons r7
  obtain ⟨cw, cst, rfl, hr2, q7⟩ := rx_RL.uncons q6
  cases hr
  have hr2 := rx_refO hr2 hk hk2
  subst hr2
  exact va_ti hx hb hT r4 (rx_in h0 hi) rfl hdg (kk H locs ls _ cells slots ⟨ws, lc, r1, r2, r3, r4, r5, r6, ⟨hv _, q7⟩, r8⟩ h1 h2)
theorem rg_baldO (hx : p.tables.exec = Jvm.exec) (hb : c.code = cc) (hdg : decode cc pc = .ok (.baload, 1)) (hk : 1000000 ≤ k) (hk2 : k < 2000000) {n : Nat} {i : Int32} {g : Nat → Value} (hT : va_T .byte (old (k - 1000000)) n g A s s.heap) (h0 : ¬ i < 0) (hi : i.toNatClampNeg < n) {v : Value} (hv : ∀ ads, rx_R old rho ads v (g i.toNatClampNeg)) (kk : rx_G p l e R s m args below meth c Q D cA A old rho nL MC MS ad0 (pc + 1) la (v :: st) h mc ms) : rx_G p l e R s m args below meth c Q D cA A old rho nL MC MS ad0 pc la (.int i :: .ref k :: st) h mc ms := by
  intro H locs ls cst0 cells slots hR h1 h2
  obtain ⟨ws, lc, r1, r2, r3, r4, r5, r6, r7, r8⟩ := hR
  obtain ⟨cv, cst1, rfl, hr, q6⟩ := rx_RL.uncons r7
  obtain ⟨cw, cst, rfl, hr2, q7⟩ := rx_RL.uncons q6
  cases hr
  have hr2 := rx_refO hr2 hk hk2
  subst hr2
  exact va_tb hx hb hT r4 (rx_in h0 hi) rfl hdg (kk H locs ls _ cells slots ⟨ws, lc, r1, r2, r3, r4, r5, r6, ⟨hv _, q7⟩, r8⟩ h1 h2)
theorem rg_ldc (hx : p.tables.exec = Jvm.exec) (hb : c.code = cc) (hown : s.vm.findClass own = some m.cls) {v : Int32} (hcst : (Jvm.Cond.constant own index v).before args s = true) (hdg : decode cc pc = .ok (.ldc index, 2)) (kk : rx_G p l e R s m args below meth c Q D cA A old rho nL MC MS ad0 (pc + 2) la (.int v :: st) h mc ms) : rx_G p l e R s m args below meth c Q D cA A old rho nL MC MS ad0 pc la st h mc ms := by
  intro H locs ls cst cells slots hR h1 h2
  obtain ⟨ws, lc, r1, r2, r3, r4, r5, r6, r7, r8⟩ := hR
  exact lv_ldc hx hb hown hcst hdg (kk H locs ls _ cells slots ⟨ws, lc, r1, r2, r3, r4, r5, r6, ⟨rfl, r7⟩, r8⟩ h1 h2)
theorem rg_ldc2 (hx : p.tables.exec = Jvm.exec) (hb : c.code = cc) (hown : s.vm.findClass own = some m.cls) {v : Int64} (hcst : (Jvm.Cond.constantLong own index v).before args s = true) (hdg : decode cc pc = .ok (.ldc2_w index, 3)) (kk : rx_G p l e R s m args below meth c Q D cA A old rho nL MC MS ad0 (pc + 3) la (.long v :: st) h mc ms) : rx_G p l e R s m args below meth c Q D cA A old rho nL MC MS ad0 pc la st h mc ms := by
  intro H locs ls cst cells slots hR h1 h2
  obtain ⟨ws, lc, r1, r2, r3, r4, r5, r6, r7, r8⟩ := hR
  exact lv_ldc2 hx hb hown hcst hdg (kk H locs ls _ cells slots ⟨ws, lc, r1, r2, r3, r4, r5, r6, ⟨rfl, r7⟩, r8⟩ h1 h2)
theorem rg_ldcS (hx : p.tables.exec = Jvm.exec) (hb : c.code = cc) (hown : s.vm.findClass own = some m.cls) {tx : String} (hZ : vk_R own index tx (old k) s) (hk : k < 1000000) (hdg : decode cc pc = .ok (.ldc index, 2)) (kk : rx_G p l e R s m args below meth c Q D cA A old rho nL MC MS ad0 (pc + 2) la (.ref (1000000 + k) :: st) h mc ms) : rx_G p l e R s m args below meth c Q D cA A old rho nL MC MS ad0 pc la st h mc ms := by
  intro H locs ls cst cells slots hR h1 h2
  obtain ⟨ws, lc, r1, r2, r3, r4, r5, r6, r7, r8⟩ := hR
  exact va_ldcS hx hb hown hZ hdg (kk H locs ls _ cells slots ⟨ws, lc, r1, r2, r3, r4, r5, r6, ⟨Or.inr (Or.inl ⟨Nat.le_add_right _ _, Nat.lt_of_lt_of_le (Nat.add_lt_add_left hk 1000000) (by decide), by rw [Nat.add_sub_cancel_left]⟩), r7⟩, r8⟩ h1 h2)
theorem rg_gets (hx : p.tables.exec = Jvm.exec) (hb : c.code = cc) (hown : s.vm.findClass own = some m.cls) {fo fn fd : String} {x : Int32} (hZ : va_Z fo fn fd (.int x) A s s.heap) (hlink : (Cond.fieldLink own index fo fn fd).before args s = true) (hdg : decode cc pc = .ok (.getstatic index, 3)) (kk : rx_G p l e R s m args below meth c Q D cA A old rho nL MC MS ad0 (pc + 3) la (.int x :: st) h mc ms) : rx_G p l e R s m args below meth c Q D cA A old rho nL MC MS ad0 pc la st h mc ms := by
  intro H locs ls cst cells slots hR h1 h2
  obtain ⟨ws, lc, r1, r2, r3, r4, r5, r6, r7, r8⟩ := hR
  exact va_gets hx hb hZ r4 hown hlink (fun _ z => z) hdg (kk H locs ls _ cells slots ⟨ws, lc, r1, r2, r3, r4, r5, r6, ⟨rfl, r7⟩, r8⟩ h1 h2)
theorem rg_getsq (hx : p.tables.exec = Jvm.exec) (hb : c.code = cc) (hown : s.vm.findClass own = some m.cls) {fo fn fd : String} (hZ : va_Zq fo fn fd A s s.heap) (hlink : (Cond.fieldLink own index fo fn fd).before args s = true) (hdg : decode cc pc = .ok (.getstatic index, 3)) (kk : rx_G p l e R s m args below meth c Q D cA A old rho nL MC MS ad0 (pc + 3) la (.ref 2000000 :: st) h mc ms) : rx_G p l e R s m args below meth c Q D cA A old rho nL MC MS ad0 pc la st h mc ms := by
  intro H locs ls cst cells slots hR h1 h2
  obtain ⟨ws, lc, r1, r2, r3, r4, r5, r6, r7, r8⟩ := hR
  rcases hZ with hZ | ⟨t, hZ⟩
  · exact va_gets hx hb hZ r4 hown hlink (fun _ z => z) hdg (kk H locs ls _ cells slots ⟨ws, lc, r1, r2, r3, r4, r5, r6, ⟨Or.inl ⟨Nat.le_refl _, Or.inl rfl⟩, r7⟩, r8⟩ h1 h2)
  · exact va_gets hx hb hZ r4 hown hlink (fun _ z => z) hdg (kk H locs ls _ cells slots ⟨ws, lc, r1, r2, r3, r4, r5, r6, ⟨Or.inl ⟨Nat.le_refl _, Or.inr ⟨t, rfl⟩⟩, r7⟩, r8⟩ h1 h2)
theorem rg_tswO (hx : p.tables.exec = Jvm.exec) (hb : c.code = cc) {dflt lo hi : Int} {offs : Array Int} {len t : Nat} {x : Int32} (hdg : decode cc pc = .ok (.tableswitch dflt lo hi offs, len)) (hx2 : x.toInt < lo ∨ hi < x.toInt) (ht : (pc : Int) + dflt = (t : Int)) (kk : rx_G p l e R s m args below meth c Q D cA A old rho nL MC MS ad0 t la st h mc ms) : rx_G p l e R s m args below meth c Q D cA A old rho nL MC MS ad0 pc la (.int x :: st) h mc ms := by
  intro H locs ls cst0 cells slots hR h1 h2
  obtain ⟨ws, lc, r1, r2, r3, r4, r5, r6, r7, r8⟩ := hR
  obtain ⟨cv, cst, rfl, hr, q7⟩ := rx_RL.uncons r7
  cases hr
  exact lv_tableOut hx hb hdg hx2 ht (kk H locs ls _ cells slots ⟨ws, lc, r1, r2, r3, r4, r5, r6, q7, r8⟩ h1 h2)
theorem rg_tswI (hx : p.tables.exec = Jvm.exec) (hb : c.code = cc) {dflt lo hi : Int} {offs : Array Int} {len t : Nat} {x : Int32} {off : Int} (hdg : decode cc pc = .ok (.tableswitch dflt lo hi offs, len)) (hx1 : ¬ x.toInt < lo) (hx2 : ¬ hi < x.toInt) (ho : offs[(x.toInt - lo).toNat]? = some off) (ht : (pc : Int) + off = (t : Int)) (kk : rx_G p l e R s m args below meth c Q D cA A old rho nL MC MS ad0 t la st h mc ms) : rx_G p l e R s m args below meth c Q D cA A old rho nL MC MS ad0 pc la (.int x :: st) h mc ms := by
  intro H locs ls cst0 cells slots hR h1 h2
  obtain ⟨ws, lc, r1, r2, r3, r4, r5, r6, r7, r8⟩ := hR
  obtain ⟨cv, cst, rfl, hr, q7⟩ := rx_RL.uncons r7
  cases hr
  exact lv_tableIn hx hb hdg hx1 hx2 ho ht (kk H locs ls _ cells slots ⟨ws, lc, r1, r2, r3, r4, r5, r6, q7, r8⟩ h1 h2)
theorem rg_tswF (hx : p.tables.exec = Jvm.exec) (hb : c.code = cc) {dflt lo hi : Int} {offs : Array Int} {len t : Nat} {i : UInt32} (hi0 : i ≠ 0) (hdg : decode cc pc = .ok (.tableswitch dflt lo hi offs, len)) (hx2 : (rho i).toInt < lo ∨ hi < (rho i).toInt) (ht : (pc : Int) + dflt = (t : Int)) (kk : rx_G p l e R s m args below meth c Q D cA A old rho nL MC MS ad0 t la st h mc ms) : rx_G p l e R s m args below meth c Q D cA A old rho nL MC MS ad0 pc la (.float i :: st) h mc ms := by
  intro H locs ls cst0 cells slots hR h1 h2
  obtain ⟨ws, lc, r1, r2, r3, r4, r5, r6, r7, r8⟩ := hR
  obtain ⟨cv, cst, rfl, hr, q7⟩ := rx_RL.uncons r7
  obtain ⟨x, rfl, h9⟩ := hr
  have h9 := h9 hi0
  subst h9
  exact lv_tableOut hx hb hdg hx2 ht (kk H locs ls _ cells slots ⟨ws, lc, r1, r2, r3, r4, r5, r6, q7, r8⟩ h1 h2)
theorem rg_objinit (hx : p.tables.exec = Jvm.exec) (hb : c.code = cc) (hml : c.maxLocals = nL) (hown : s.vm.findClass own = some m.cls) (hlink : (Cond.methodLink own index Lib.objectInit).before args s = true) (hinst : (Cond.instanceMethod Lib.objectInit).before args s = true) (hcode : (Cond.code Lib.objectInit ⟨#[0xb1]⟩ 1 none).before args s = true) (hfr : 1 ≤ R.frames) (hlo : 20 ≤ R.locals) (hst : rx_cats st ≤ 8) (hdg : decode cc pc = .ok (.invokespecial index, 3)) (hk : k < 2000000) (kk : rx_G p l e R s m args below meth c Q D cA A old rho nL MC MS ad0 (pc + 3) la st h mc ms) : rx_G p l e R s m args below meth c Q D cA A old rho nL MC MS ad0 pc la (.ref k :: st) h mc ms := by
  intro H locs ls cst0 cells slots hR h1 h2
  obtain ⟨ws, lc, r1, r2, r3, r4, r5, r6, r7, r8⟩ := hR
  obtain ⟨cv, cst, rfl, hr, q7⟩ := rx_RL.uncons r7
  have hb2 : ∃ b, cv = .ref b := by
    rcases hr with ⟨h9, -⟩ | ⟨-, -, h9⟩ | ⟨-, b, -, h9⟩
    · exact absurd hk (Nat.not_lt.mpr h9)
    · exact ⟨_, h9⟩
    · exact ⟨_, h9⟩
  obtain ⟨b, rfl⟩ := hb2
  have hq := q7.cats
  refine W.objInit hx hb hown hlink hinst hcode (g := F0 m pc ls (.ref b :: cst)) rfl (r5.1.trans hml.symm) rfl hdg hfr ?_ (kk H locs ls _ cells slots ⟨ws, lc, r1, r2, r3, r4, r5, r6, q7, r8⟩ h1 h2)
  show 2 * 0 + (cst.map fun v => v.category).sum + 12 ≤ R.locals
  omega
theorem rg_iandA (hx : p.tables.exec = Jvm.exec) (hb : c.code = cc) {F : List (UInt32 × Int32 × Int32)} (hF : ∀ q ∈ F, rho q.1 &&& q.2.1 = q.2.2) (hdg : decode cc pc = .ok (.iand, 1)) {a b : Value} (ha : rx_isI a = true) (hb2 : rx_isI b = true) (kk : rx_G p l e R s m args below meth c Q D cA A old rho nL MC MS ad0 (pc + 1) la (rx_iand F a b :: st) h mc ms) : rx_G p l e R s m args below meth c Q D cA A old rho nL MC MS ad0 pc la (b :: a :: st) h mc ms := by
  intro H locs ls cst0 cells slots hR h1 h2
  obtain ⟨ws, lc, r1, r2, r3, r4, r5, r6, r7, r8⟩ := hR
  obtain ⟨cv, cst1, rfl, hr, q6⟩ := rx_RL.uncons r7
  obtain ⟨cw, cst, rfl, hr2, q7⟩ := rx_RL.uncons q6
  obtain ⟨y, rfl⟩ := hr.isI hb2
  obtain ⟨x, rfl⟩ := hr2.isI ha
  exact lv_iand hx hb hdg (kk H locs ls _ cells slots ⟨ws, lc, r1, r2, r3, r4, r5, r6, ⟨rx_R.iand hF hr2 hr, q7⟩, r8⟩ h1 h2)
theorem rg_laddA (hx : p.tables.exec = Jvm.exec) (hb : c.code = cc) (hdg : decode cc pc = .ok (.ladd, 1)) {a b : Value} (ha : rx_isL a = true) (hb2 : rx_isL b = true) (kk : rx_G p l e R s m args below meth c Q D cA A old rho nL MC MS ad0 (pc + 1) la (rx_ladd a b :: st) h mc ms) : rx_G p l e R s m args below meth c Q D cA A old rho nL MC MS ad0 pc la (b :: a :: st) h mc ms := by
  intro H locs ls cst0 cells slots hR h1 h2
  obtain ⟨ws, lc, r1, r2, r3, r4, r5, r6, r7, r8⟩ := hR
  obtain ⟨cv, cst1, rfl, hr, q6⟩ := rx_RL.uncons r7
  obtain ⟨cw, cst, rfl, hr2, q7⟩ := rx_RL.uncons q6
  obtain ⟨y, rfl⟩ := hr.isL hb2
  obtain ⟨x, rfl⟩ := hr2.isL ha
  exact lv_ladd hx hb hdg (kk H locs ls _ cells slots ⟨ws, lc, r1, r2, r3, r4, r5, r6, ⟨rx_R.ladd hr2 hr, q7⟩, r8⟩ h1 h2)
theorem rg_lcmpA (hx : p.tables.exec = Jvm.exec) (hb : c.code = cc) {F : List (UInt64 × Int64 × Int32)} (hF : ∀ q ∈ F, lg_cmp (rx_dl rho q.1) q.2.1 = q.2.2) (hdg : decode cc pc = .ok (.lcmp, 1)) {a b : Value} (ha : rx_isL a = true) (hb2 : rx_isL b = true) (kk : rx_G p l e R s m args below meth c Q D cA A old rho nL MC MS ad0 (pc + 1) la (rx_lcA F a b :: st) h mc ms) : rx_G p l e R s m args below meth c Q D cA A old rho nL MC MS ad0 pc la (b :: a :: st) h mc ms := by
  intro H locs ls cst0 cells slots hR h1 h2
  obtain ⟨ws, lc, r1, r2, r3, r4, r5, r6, r7, r8⟩ := hR
  obtain ⟨cv, cst1, rfl, hr, q6⟩ := rx_RL.uncons r7
  obtain ⟨cw, cst, rfl, hr2, q7⟩ := rx_RL.uncons q6
  obtain ⟨y, rfl⟩ := hr.isL hb2
  obtain ⟨x, rfl⟩ := hr2.isL ha
  exact W.lcmp hx hb hdg (kk H locs ls _ cells slots ⟨ws, lc, r1, r2, r3, r4, r5, r6, ⟨rx_R.lcA hF hr2 hr, q7⟩, r8⟩ h1 h2)
theorem rg_cp0 (hx : p.tables.exec = Jvm.exec) (hb : c.code = cc) (hml : c.maxLocals = nL) (hown : s.vm.findClass own = some m.cls) (hlink : (Cond.methodLink own index arraycopyName).before args s = true) (hcp : (Cond.native arraycopyName).before args s = true ∧ (Cond.static arraycopyName).before args s = true ∧ (Cond.initialized "java/lang/System").before args s = true) (hK : va_K D rc_cls (rx_tys cA) s) (hfr : 1 ≤ R.frames) (hlo : 200 ≤ R.locals) (hdg : decode cc pc = .ok (.invokestatic index, 3)) {a b n0 n1 : Nat} {u0 u1 : List (Nat × Value)} (hka : a < 1000000) (hkb : b < 1000000) (hha : h[a]? = some (.inl (2, n1, u1))) (hhb : h[b]? = some (.inl (2, n0, u0))) (hst : rx_cats st ≤ 8) (kk : rx_G p l e R s m args below meth c Q D cA A old rho nL MC MS ad0 (pc + 3) la st h mc ms) : rx_G p l e R s m args below meth c Q D cA A old rho nL MC MS ad0 pc la (.int 0 :: .int 0 :: .ref a :: .int 0 :: .ref b :: st) h mc ms := by
  intro H locs ls cst0 cells slots hR h1 h2
  obtain ⟨ws, lc, r1, r2, r3, r4, r5, r6, r7, r8⟩ := hR
  obtain ⟨v1, c1, rfl, e1, q1⟩ := rx_RL.uncons r7
  obtain ⟨v2, c2, rfl, e2, q2⟩ := rx_RL.uncons q1
  obtain ⟨v3, c3, rfl, e3, q3⟩ := rx_RL.uncons q2
  obtain ⟨v4, c4, rfl, e4, q4⟩ := rx_RL.uncons q3
  obtain ⟨v5, cst, rfl, e5, q7⟩ := rx_RL.uncons q4
  cases e1
  cases e2
  cases e4
  obtain ⟨ba, ea, rfl, hwa, hea⟩ := rx_ref e3 hka r1 hha
  obtain ⟨bb, eb, rfl, hwb, heb⟩ := rx_ref e5 hkb r1 hhb
  obtain ⟨xa, rfl, hkda, htl, hela⟩ := hea.arr
  obtain ⟨xb, rfl, hkdb, -, -⟩ := heb.arr
  obtain ⟨ga, hga⟩ := hkda
  obtain ⟨gb, hgb⟩ := hkdb
  have hga : xa = .inl ga := hga
  have hgb : xb = .inl gb := hgb
  subst hga hgb
  have hq := q7.cats
  refine va_copyi (ty := .byte) hx hb (hml.trans r5.1.symm) hown hlink hcp.1 hcp.2.1 hcp.2.2 hK r2 r3 r4 b a 2 2 hwb hwa (rx_tys_at (show rc_arr[2]? = some .byte from rfl)) (rx_tys_at (show rc_arr[2]? = some .byte from rfl)) rfl (by decide) (by decide) (by decide) (Nat.zero_le _) (Nat.zero_le _) (fun i hi => absurd hi (Nat.not_lt_zero _)) hfr (rx_nfw hq hst hlo) hdg (fun H1 locs1 r2 r3 r4 => ?_)
  have ea := rx_ads_set (e := .inl (cA 2, n1, .inl (va_cpy gb ga (0 : Int32).toNatClampNeg (0 : Int32).toNatClampNeg (0 : Int32).toNatClampNeg))) hwa
  have hset : h.set a (.inl (2, n1, u1)) = h := by
    apply List.ext_getElem?
    intro i
    by_cases hi : a = i
    · subst hi
      rw [List.getElem?_set_self (List.getElem?_eq_some_iff.mp hha).1, hha]
    · rw [List.getElem?_set_ne hi]
  refine kk H1 locs1 ls _ cells slots ⟨_, lc, ?_, r2, r3, r4, r5, ?_, ?_, ?_⟩ h1 h2
  · rw [ea, ← hset]
    refine r1.set ⟨rfl, rfl, ⟨_, rfl⟩, htl, fun j hj => ?_⟩
    have h9 := hela j hj
    have h8 : va_cpy gb ga (0 : Int32).toNatClampNeg (0 : Int32).toNatClampNeg (0 : Int32).toNatClampNeg j = ga j := by
      simp only [va_cpy]
      rw [if_neg]
      intro z
      have z1 : 0 ≤ j ∧ j < 0 + 0 := z
      omega
    show rx_R old rho _ _ (.int (va_cpy gb ga (0 : Int32).toNatClampNeg (0 : Int32).toNatClampNeg (0 : Int32).toNatClampNeg j))
    rw [h8]
    exact h9
  · rw [ea]; exact r6
  · rw [ea]; exact q7
  · rw [ea]; exact r8
end RowsD
end
section
/-! ===== BEGIN exceptions that leave a method, and their catching by the caller (launches without stack traces) ===== -/
section VXA
/-! The laws vx_back, vx_callV, vx_callS, vx_callSW, vx_throw0, vx_throwS follow proofs of the library, with one case more: JvmDerived/Free/Laws.lean (Back.of_free), Shelf42/LK1.lean (callV, callS), Shelf/KitTraced.lean (throwNew0V, throwNewS). -/
/-- where a method has thrown q: the class by its name, the cell, what was written, the world -/
def vx_T (XC : String → State → State → Prop) (st : State) (q : Addr) (t : State) (mc ms : Nat) (free : Addr → Prop) : Prop :=
  ∃ (E : String) (ce : Cell) (L : List Loc), XC E st t ∧ t.heap[q]? = some ce ∧ ce.vm = .none ∧ st.vm.findClass E = some ce.cls ∧ st.WarmedH t.vm ∧ st.sameButNew ({ t with vm := st.vm } : State) L mc ms ∧ ∀ z ∈ L, free z.base
def vx_Q (Qc : Array Value → State → Outcome → State → Prop) (XC : String → State → State → Prop) (mc ms : Nat) (free : Addr → Prop) : Array Value → State → Outcome → State → Prop := fun a st o t =>
  (Qc a st o t ∧ ∃ L, FrameEnd st o t L mc ms ∧ ∀ q ∈ L, free q.base) ∨ ∃ q, o = .threw q ∧ vx_T XC st q t mc ms free
/-- a callee that returns or throws -/
def vx_Met (l : Launch) (y : MethodName) (ws : List Cond) (rm : Room) (Pc : Array Value → State → Prop) (Qc : Array Value → State → Outcome → State → Prop) (XC : String → State → State → Prop) (mc ms : Nat) (free : Addr → Prop) : Prop :=
  MetFree l y (headSpec ws rm) Pc (fun _ _ _ _ _ => True) (vx_Q Qc XC mc ms free)
def vx_Post (XC : String → State → State → Prop) (mc ms : Nat) (free : Addr → Prop) : Pt → Array Value → Addr → Pt → Prop := fun A a q B =>
  ∃ (g : JFrame) (mk : MethodId) (t : State) (L : List Loc) (E : String) (ce : Cell), B.U.heap = t.heap ∧ B.U.vm = t.vm ∧ XC E (A.U.calling g mk a) t ∧ t.heap[q]? = some ce ∧ ce.vm = .none ∧ A.U.vm.findClass E = some ce.cls ∧ B.locs = A.locs ++ L ∧ (∀ z ∈ L, free z.base) ∧ B.cells = A.cells + mc ∧ B.slots = A.slots + ms
def vx_Back (l : Launch) (R : Room) (p : Program) (e : Env) (below : List Frame) (s : State) (sargs : Array Value) (y : MethodName) (len W9 : Nat)
    (Pre : Pt → Array Value → Prop) (Post : Pt → Array Value → Option Value → Pt → Prop) (PostX : Pt → Array Value → Addr → Pt → Prop) : Prop :=
  ∀ (m : MethodId) (meth : Method) (c : Code) (A : Pt) (g : JFrame) (ig : Instr) (mk : MethodId) (a : Array Value),
    Stand p l e R s m sargs below meth c A.U A.locs A.cells A.slots → g.method = m → g.locals.size = c.maxLocals → decode c.code g.pc = .ok (ig, len) →
    2 * g.monitorRoom + (g.stack.map fun v => v.category).sum ≤ W9 → A.U.methodNamed? y = some mk → Pre A a →
    (∃ (v : Option Value) (B : Pt), Stand p l e R s m sargs below meth c B.U B.locs B.cells B.slots ∧ Post A a v B ∧
      Steps p.tables e below (doInvoke e (A.U.setTop g) [] mk a).1 (B.U.setTop { g with pc := g.pc + len, stack := v.toList ++ g.stack })) ∨
    (∃ (q : Addr) (B : Pt), Stand p l e R s m sargs below meth c B.U B.locs B.cells B.slots ∧ PostX A a q B ∧
      Steps p.tables e below (doInvoke e (A.U.setTop g) [] mk a).1 ((B.U.setTop g).pushFrame (.throwing q)))
section Payer
variable {l : Launch} {R : Room} {p : Program} {e : Env} {below : List Frame} {s : State} {sargs : Array Value} {y : MethodName} {len W9 : Nat}
theorem vx_back {ws : List Cond} {rm : Room} {Pc : Array Value → State → Prop} {Qc : Array Value → State → Outcome → State → Prop} {XC : String → State → State → Prop} {mc ms : Nat} {free : Addr → Prop} {bytes : ByteArray} {maxL : Nat} {ret : Option FieldType}
    (hM : vx_Met l y ws rm Pc Qc XC mc ms free) (hblind : FrameBlind Pc) (hrc : rm.cells = mc) (hrs : rm.slots = ms)
    (hframes : rm.frames + 1 ≤ R.frames) (hlocals : W9 + (maxL + 11) + rm.locals ≤ R.locals)
    (hws : ∀ w ∈ ws, ∀ a' U, s.WarmedH U.vm → w.before a' U = true) (hcode : Cond.code y bytes maxL ret ∈ ws) (hinit : ∀ a' U, s.WarmedH U.vm → (Cond.initialized y.cls).before a' U = true) :
    vx_Back l R p e below s sargs y len W9 (PreOf R mc ms Pc) (PostOf Qc mc ms free) (vx_Post XC mc ms free) := by
  intro m meth c A g ig mk a X hg hsize hdg hW hn hp
  have h1 : (headSpec ws rm).pre.before a A.U = true := atoms_intro fun w hw => hws w hw _ _ X.warmed
  have h2 : (Cond.code y bytes maxL ret).before a A.U = true := hws _ hcode _ _ X.warmed
  have h3 : (Cond.initialized y.cls).before a A.U = true := hinit _ _ X.warmed
  have h4 : A.cells + (headSpec ws rm).room.cells ≤ R.cells := by rw [show (headSpec ws rm).room.cells = mc from hrc]; exact hp.1
  have h5 : A.slots + (headSpec ws rm).room.slots ≤ R.slots := by rw [show (headSpec ws rm).room.slots = ms from hrs]; exact hp.2.1
  have hPc : Pc a (A.U.calling g mk a) := hblind _ _ _ _ hp.2.2
  obtain ⟨U, Ls, c0, s0⟩ := A
  dsimp only [Pt.U, Pt.locs, Pt.cells, Pt.slots] at h1 h2 h3 h4 h5 X hn hPc ⊢
  obtain ⟨methY, cY, hmY, hcY, -, hlY, -, -, -, -⟩ := Cond.code_spec hn h2
  obtain ⟨kY, hkY, -⟩ := className_of_methodNamed hn
  have hinitY : kY.init = .initialized := Cond.initialized_spec (findClass_of_methodNamed hn) hkY h3
  have h : At U g.method c below := by rw [hg]; exact X.here
  have hlocals9 : W9 + (maxL + 11) + (headSpec ws rm).room.locals ≤ R.locals := hlocals
  have happ : (headSpec ws rm).appliesLoose y e.platform (U.calling g mk a) = true :=
    Spec.appliesLoose_calling (g := g) h hdg hn hkY hinitY
      (X.room_calling (g := g) (R' := (headSpec ws rm).room) hsize hmY hcY hframes (by rw [hlY]; omega) h4 h5) h1
  obtain ⟨mid, hmid⟩ := h.above
  have hfr : (U.setTop g).frames = (.java g :: mid) ++ below := by rw [State.frames_setTop' g h.top, hmid]; rfl
  obtain ⟨o, s₂, hsteps, -, hend, hq⟩ := Steps.callFree hM p X.admits X.cas X.clock (acts := []) hfr happ hPc trivial
  have hq' : vx_Q Qc XC mc ms free a (U.calling g mk a) o s₂ := hq
  rw [State.frames_setTop' g h.top] at hend
  obtain ⟨g₀, hg0⟩ := Option.isSome_iff_exists.mp h.top
  obtain ⟨r, hr⟩ := State.topJava?_eq_some.mp hg0
  have hr' : (({ U with heap := s₂.heap, slotsUsed := s₂.slotsUsed } : State).setVm s₂.vm).frames = .java g₀ :: r := hr
  rcases hq' with ⟨hqc, L, hfe, hL⟩ | ⟨q, rfl, E, ce, L, hx, hce, hcv, hcl, hW₂, hsm, hL⟩
  · obtain ⟨⟨v, rfl⟩, hW₂, e2, q2, q3, q4, q5, q6⟩ := id hfe
    have e3 : s₂ = ({ (U.calling g mk a).setFrames s₂.frames with heap := s₂.heap, slotsUsed := s₂.slotsUsed } : State).setVm s₂.vm := by
      have : s₂ = ({ s₂ with vm := (U.calling g mk a).vm } : State).setVm s₂.vm := rfl
      rw [e2] at this
      exact this
    obtain ⟨c₂, i₂, len₂, hc₂, hd₂, hf₂⟩ := hend
    have hW' : U.WarmedH s₂.vm := hW₂
    have hcc : c₂ = c := by
      have h1 : s₂.code? g.method = U.code? g.method := by
        rw [State.code?_eq, State.code?_eq, hW'.alike.method?]
      exact Option.some.inj (hc₂.symm.trans (h1.trans h.code))
    subst hcc
    have hlen : len₂ = len := by rw [hdg] at hd₂; cases hd₂; rfl
    subst hlen
    have hs₂ : s₂ = (({ U with heap := s₂.heap, slotsUsed := s₂.slotsUsed } : State).setVm s₂.vm).setTop { g with pc := g.pc + len₂, stack := v.toList ++ g.stack } := by
      refine e3.trans ?_
      rw [hf₂, State.calling_eq h.top, State.setFrames_setFrames, State.setTop_of_frames _ hr', hr]
      rfl
    have hsame : U.sameButNew ({ U with heap := s₂.heap, slotsUsed := s₂.slotsUsed } : State) L mc ms := by
      refine ⟨?_, q2, q3, q4, q5, q6⟩
      obtain ⟨t, ht, -⟩ := State.frames_cons hr
      show ({ U with heap := s₂.heap, slotsUsed := s₂.slotsUsed } : State) = { U.setFrames U.frames with heap := s₂.heap, slotsUsed := s₂.slotsUsed }
      rw [State.setFrames_self ht]
    subst hg
    refine Or.inl ⟨v, ⟨(({ U with heap := s₂.heap, slotsUsed := s₂.slotsUsed } : State).setVm s₂.vm), Ls ++ L, c0 + mc, s0 + ms⟩,
      ⟨X.admits, X.cas, X.clock, X.frames, X.room, X.hears, X.method, X.code, (X.here.setHeapUsed s₂.heap s₂.slotsUsed).setVm hW'.alike, X.tail, State.WarmedH.trans X.warmed hW', X.limits, X.bytes, X.same.trans (hsame.setVm s.vm)⟩,
      ⟨g, mk, s₂, L, rfl, rfl, hqc, rfl, hL, rfl, rfl⟩, ?_⟩
    show Steps p.tables e below _ ((({ U with heap := s₂.heap, slotsUsed := s₂.slotsUsed } : State).setVm s₂.vm).setTop { g with pc := g.pc + len₂, stack := v.toList ++ g.stack })
    rw [← hs₂]
    exact hsteps
  · obtain ⟨e2, q2, q3, q4, q5, q6⟩ := id hsm
    have e3 : s₂ = ({ (U.calling g mk a).setFrames s₂.frames with heap := s₂.heap, slotsUsed := s₂.slotsUsed } : State).setVm s₂.vm := by
      have : s₂ = ({ s₂ with vm := (U.calling g mk a).vm } : State).setVm s₂.vm := rfl
      rw [e2] at this
      exact this
    have hf₂ : s₂.frames = .throwing q :: .java g :: U.frames.tail := hend
    have hW' : U.WarmedH s₂.vm := hW₂
    have hs₂ : s₂ = ((({ U with heap := s₂.heap, slotsUsed := s₂.slotsUsed } : State).setVm s₂.vm).setTop g).pushFrame (.throwing q) := by
      refine e3.trans ?_
      rw [hf₂, State.calling_eq h.top, State.setFrames_setFrames, State.pushFrame, State.frames_setTop _ hr', State.setTop_of_frames _ hr', State.setFrames_setFrames, hr]
      rfl
    have hsame : U.sameButNew ({ U with heap := s₂.heap, slotsUsed := s₂.slotsUsed } : State) L mc ms := by
      refine ⟨?_, q2, q3, q4, q5, q6⟩
      obtain ⟨t, ht, -⟩ := State.frames_cons hr
      show ({ U with heap := s₂.heap, slotsUsed := s₂.slotsUsed } : State) = { U.setFrames U.frames with heap := s₂.heap, slotsUsed := s₂.slotsUsed }
      rw [State.setFrames_self ht]
    subst hg
    refine Or.inr ⟨q, ⟨(({ U with heap := s₂.heap, slotsUsed := s₂.slotsUsed } : State).setVm s₂.vm), Ls ++ L, c0 + mc, s0 + ms⟩,
      ⟨X.admits, X.cas, X.clock, X.frames, X.room, X.hears, X.method, X.code, (X.here.setHeapUsed s₂.heap s₂.slotsUsed).setVm hW'.alike, X.tail, State.WarmedH.trans X.warmed hW', X.limits, X.bytes, X.same.trans (hsame.setVm s.vm)⟩,
      ⟨g, mk, s₂, L, E, ce, rfl, rfl, hx, hce, hcv, hcl, rfl, hL, rfl, rfl⟩, ?_⟩
    show Steps p.tables e below _ (((({ U with heap := s₂.heap, slotsUsed := s₂.slotsUsed } : State).setVm s₂.vm).setTop g).pushFrame (.throwing q))
    rw [← hs₂]
    exact hsteps
end Payer
section Calls
variable {p : Program} {l : Launch} {e : Env} {R : Room} {s : State} {m : MethodId} {args : Array Value} {below : List Frame} {meth : Method} {c : Code} {T : State} {locs : List Loc} {cells slots : Nat}
theorem vx_callV (X : Stand p l e R s m args below meth c T locs cells slots) (hexec : p.tables.exec = Jvm.exec) {own C : String} {index : Nat} {y : MethodName} {bytes : ByteArray} {maxL : Nat} {ret : Option FieldType}
    (hown : s.vm.findClass own = some m.cls) (hlink : (Cond.methodLink own index y).before args s = true) (hinst : (Cond.instanceMethod y).before args s = true) (hsel : (Cond.selects C y y).before args s = true)
    (hcode : (Cond.code y bytes maxL ret).before args s = true) (hy : y.cls ≠ "java/lang/invoke/MethodHandle" ∧ y.cls ≠ "java/lang/invoke/VarHandle")
    {W9 : Nat} {Pre : Pt → Array Value → Prop} {Post : Pt → Array Value → Option Value → Pt → Prop} {PostX : Pt → Array Value → Addr → Pt → Prop} (hK : vx_Back l R p e below s args y 3 W9 Pre Post PostX)
    {b : Addr} {cellB : Cell} (hcell : T.heap[b]? = some cellB) (hobj : cellB.vm.isStatics = false) (hcls : s.vm.findClass C = some cellB.cls)
    {g : JFrame} (hg : g.method = m) (hsize : g.locals.size = c.maxLocals) {argsL rest : List Value} (hlen : ∀ sig, parseMethodDescriptor y.desc = some sig → argsL.length = sig.parameters.length)
    (hstack : g.stack = argsL.reverse ++ .ref b :: rest) (hW : 2 * g.monitorRoom + (rest.map fun v => v.category).sum ≤ W9) (hdg : decode c.code g.pc = .ok (.invokevirtual index, 3))
    (hpre : ∀ vm₁, s.WarmedH vm₁ → Pre ⟨T.setVm vm₁, locs, cells, slots⟩ (Value.ref b :: argsL).toArray) :
    (∃ (v : Option Value) (vm₁ : Vm) (B : Pt), s.WarmedH vm₁ ∧ Stand p l e R s m args below meth c B.U B.locs B.cells B.slots ∧ Post ⟨T.setVm vm₁, locs, cells, slots⟩ (Value.ref b :: argsL).toArray v B ∧
      ∀ target, Steps p.tables e below (B.U.setTop { g with pc := g.pc + 3, stack := v.toList ++ rest }) target → Steps p.tables e below (T.setTop g) target) ∨
    (∃ (q : Addr) (vm₁ : Vm) (B : Pt), s.WarmedH vm₁ ∧ Stand p l e R s m args below meth c B.U B.locs B.cells B.slots ∧ PostX ⟨T.setVm vm₁, locs, cells, slots⟩ (Value.ref b :: argsL).toArray q B ∧
      Steps p.tables e below (T.setTop g) ((B.U.setTop { g with stack := rest }).pushFrame (.throwing q))) := by
  obtain ⟨mk, methM, hnamed, hmethM, hstM, habM⟩ := Cond.instanceMethod_spec hinst
  obtain ⟨methM', cM, hmethM', -, -, -, -, -, -, hsigM⟩ := Cond.code_spec hnamed hcode
  cases hmethM.symm.trans hmethM'
  obtain ⟨c2, r2, m2, q1, q2, q3, q4, kP, hkP, hkPi⟩ := Cond.selects_spec hsel
  cases hcls.symm.trans q1
  cases (State.methodFound?_of_named hnamed hy).symm.trans q2
  cases hnamed.symm.trans q3
  have hselP : selectMethod e.platform s.vm cellB.cls mk = .method mk := by rw [Launch.admits_selectMethod X.admits]; exact q4
  obtain ⟨vm₁, X₁, hstep₁⟩ := X.invokevirtual hexec hown hlink hnamed hmethM hstM hkP hkPi hy (a := b) (cell := cellB) hcell
    (fun z h => by rw [h] at hobj; cases hobj) hselP hmethM habM hkP hkPi (g := g) hg (argsL := argsL) (rest := rest) (hlen _ hsigM) hstack hdg
  rcases hK m meth c ⟨T.setVm vm₁, locs, cells, slots⟩ { g with stack := rest } (.invokevirtual index) mk (Value.ref b :: argsL).toArray X₁ hg hsize hdg hW (X₁.named hnamed) (hpre vm₁ X₁.warmed) with ⟨v, B, X', hpost, hsteps⟩ | ⟨q, B, X', hpost, hsteps⟩
  · exact Or.inl ⟨v, vm₁, B, X₁.warmed, X', hpost, fun target h => hstep₁ _ fun acts => by rw [doInvoke_state]; exact hsteps.trans h⟩
  · exact Or.inr ⟨q, vm₁, B, X₁.warmed, X', hpost, hstep₁ _ fun acts => by rw [doInvoke_state]; exact hsteps⟩
theorem vx_callS (X : Stand p l e R s m args below meth c T locs cells slots) (hexec : p.tables.exec = Jvm.exec) {own : String} {index : Nat} {y : MethodName} {bytes : ByteArray} {maxL : Nat} {ret : Option FieldType}
    (hown : s.vm.findClass own = some m.cls) (hlink : (Cond.methodLink own index y).before args s = true) (hstat : (Cond.static y).before args s = true) (hinit : (Cond.initialized y.cls).before args s = true)
    (hcode : (Cond.code y bytes maxL ret).before args s = true) (hy : y.cls ≠ "java/lang/invoke/MethodHandle" ∧ y.cls ≠ "java/lang/invoke/VarHandle")
    {W9 : Nat} {Pre : Pt → Array Value → Prop} {Post : Pt → Array Value → Option Value → Pt → Prop} {PostX : Pt → Array Value → Addr → Pt → Prop} (hK : vx_Back l R p e below s args y 3 W9 Pre Post PostX)
    {g : JFrame} (hg : g.method = m) (hsize : g.locals.size = c.maxLocals) {argsL rest : List Value} (hlen : ∀ sig, parseMethodDescriptor y.desc = some sig → argsL.length = sig.parameters.length)
    (hstack : g.stack = argsL.reverse ++ rest) (hW : 2 * g.monitorRoom + (rest.map fun v => v.category).sum ≤ W9) (hdg : decode c.code g.pc = .ok (.invokestatic index, 3))
    (hpre : ∀ vm₁, s.WarmedH vm₁ → Pre ⟨T.setVm vm₁, locs, cells, slots⟩ argsL.toArray) :
    (∃ (v : Option Value) (vm₁ : Vm) (B : Pt), s.WarmedH vm₁ ∧ Stand p l e R s m args below meth c B.U B.locs B.cells B.slots ∧ Post ⟨T.setVm vm₁, locs, cells, slots⟩ argsL.toArray v B ∧
      ∀ target, Steps p.tables e below (B.U.setTop { g with pc := g.pc + 3, stack := v.toList ++ rest }) target → Steps p.tables e below (T.setTop g) target) ∨
    (∃ (q : Addr) (vm₁ : Vm) (B : Pt), s.WarmedH vm₁ ∧ Stand p l e R s m args below meth c B.U B.locs B.cells B.slots ∧ PostX ⟨T.setVm vm₁, locs, cells, slots⟩ argsL.toArray q B ∧
      Steps p.tables e below (T.setTop g) ((B.U.setTop { g with stack := rest }).pushFrame (.throwing q))) := by
  obtain ⟨mk, hnamed⟩ := Cond.code_named hcode
  obtain ⟨methM, cM, hmethM, -, -, -, -, -, -, hsigM⟩ := Cond.code_spec hnamed hcode
  have hstatic : methM.isStatic = true := Cond.static_spec hnamed hmethM hstat
  obtain ⟨kP, hkP, -⟩ := className_of_methodNamed hnamed
  have hinitP : kP.init = .initialized := Cond.initialized_spec (findClass_of_methodNamed hnamed) hkP hinit
  obtain ⟨vm₁, X₁, hstep₁⟩ := X.invokestatic hexec hown hlink hnamed hmethM hstatic hkP hinitP hy (g := g) hg (argsL := argsL) (rest := rest) (hlen _ hsigM) hstack hdg
  rcases hK m meth c ⟨T.setVm vm₁, locs, cells, slots⟩ { g with stack := rest } (.invokestatic index) mk argsL.toArray X₁ hg hsize hdg hW (X₁.named hnamed) (hpre vm₁ X₁.warmed) with ⟨v, B, X', hpost, hsteps⟩ | ⟨q, B, X', hpost, hsteps⟩
  · exact Or.inl ⟨v, vm₁, B, X₁.warmed, X', hpost, fun target h => hstep₁ _ fun acts => by rw [doInvoke_state]; exact hsteps.trans h⟩
  · exact Or.inr ⟨q, vm₁, B, X₁.warmed, X', hpost, hstep₁ _ fun acts => by rw [doInvoke_state]; exact hsteps⟩
end Calls
theorem vx_cls {s : State} {T : State} {vm₁ : Vm} {E : String} {k : ClassId} (hW : s.WarmedH vm₁) (h : (T.setVm vm₁).vm.findClass E = some k) : s.vm.findClass E = some k := by
  have h1 : vm₁.findClass E = some k := h
  rw [hW.alike.findClass] at h1
  exact h1
/-- the method's frame g, with q thrown over it -/
def vx_W (p : Program) (l : Launch) (e : Env) (R : Room) (s : State) (m : MethodId) (args : Array Value) (below : List Frame) (meth : Method) (c : Code) (H : Heap) (locs : List Loc) (cells slots : Nat) (Q : State → Prop) (g : JFrame) (q : Addr) : Prop :=
  ∀ T : State, T.heap = H → Stand p l e R s m args below meth c T locs cells slots → ∃ t, Steps p.tables e below ((T.setTop g).pushFrame (.throwing q)) t ∧ Q t
def vx_Run (p : Program) (l : Launch) (e : Env) (R : Room) (s : State) (m : MethodId) (args : Array Value) (below : List Frame) (meth : Method) (c : Code) (H : Heap) (locs : List Loc) (cells slots mc ms : Nat) (g : JFrame) (rest : List Value) (Qa : State → Outcome → State → Prop) (XC : String → State → State → Prop) (free : Addr → Prop) : Prop :=
  ∀ T : State, T.heap = H → Stand p l e R s m args below meth c T locs cells slots →
    (∃ (v : Option Value) (st₀ t T' : State) (L : List Loc), st₀.heap = H ∧ Stand p l e R s m args below meth c T' (locs ++ L) (cells + mc) (slots + ms) ∧ (∀ q ∈ L, free q.base) ∧ T'.heap = t.heap ∧ T'.vm = t.vm ∧ Qa st₀ (.returned v) t ∧
      Goes p e below T g T' { g with pc := g.pc + 3, stack := v.toList ++ rest }) ∨
    (∃ (q : Addr) (st₀ t T' : State) (L : List Loc) (E : String) (ce : Cell), st₀.heap = H ∧ Stand p l e R s m args below meth c T' (locs ++ L) (cells + mc) (slots + ms) ∧ (∀ z ∈ L, free z.base) ∧ T'.heap = t.heap ∧ T'.vm = t.vm ∧ XC E st₀ t ∧ t.heap[q]? = some ce ∧ ce.vm = .none ∧ s.vm.findClass E = some ce.cls ∧
      Steps p.tables e below (T.setTop g) ((T'.setTop { g with stack := rest }).pushFrame (.throwing q)))
def vx_X {S : Type} (px : S → Prop) (B : String → S → State → Prop) (A : Nat → Prop) : String → State → State → Prop := fun E st t => ∃ u : S, px u ∧ B E u t ∧ va_F A st t
section Runs
variable {p : Program} {l : Launch} {e : Env} {R : Room} {s : State} {m : MethodId} {args : Array Value} {below : List Frame} {meth : Method} {c : Code} {H : Heap} {locs : List Loc} {cells slots : Nat}
variable {y : MethodName} {bytes cc : ByteArray} {maxL nL mc ms n index : Nat} {ret : Option FieldType} {ws : List Cond} {rm : Room} {Pc : Array Value → State → Prop} {Qc : Array Value → State → Outcome → State → Prop} {XC : String → State → State → Prop} {free : Addr → Prop} {Ts : List Cond} {own C : String} {b : Addr} {As rest : List Value} {g : JFrame}
theorem vx_callBack (cb : CallB R s args own index y bytes maxL ret ws rm mc ms n) (hM : vx_Met l y ws rm Pc Qc XC mc ms free) (hbl : FrameBlind Pc) : vx_Back l R p e below s args y 3 8 (PreOf R mc ms Pc) (PostOf Qc mc ms free) (vx_Post XC mc ms free) := by
  obtain ⟨hrc, hrs, hfr, hlo, hws, hcw, -, hini, -⟩ := cb
  exact vx_back (bytes := bytes) (maxL := maxL) (ret := ret) hM hbl hrc hrs hfr hlo hws hcw (fun a' U hW => word_at hW (Or.inl (by first | rfl | simp [Cond.onTables, Cond.keeps, Cond.steady])) hini)
theorem vx_runV (S : CallFix p m c cc nL s args Ts own) (hM : vx_Met l y ws rm Pc Qc XC mc ms free) (cw : CallW R s args own C index y bytes maxL ret ws rm mc ms n) (hp : PreV s H C b Pc As)
    (hg : g.method = m) (hn : As.length = n) (hsize : g.locals.size = nL) (hstack : g.stack = As.reverse ++ .ref b :: rest) (hW : 2 * g.monitorRoom + (rest.map fun v => v.category).sum ≤ 8) (hdg : decode cc g.pc = .ok (.invokevirtual index, 3)) (hf : cells + mc ≤ R.cells ∧ slots + ms ≤ R.slots) :
    vx_Run p l e R s m args below meth c H locs cells slots mc ms g rest (Qc (Value.ref b :: As).toArray) XC free := by
  have hK : vx_Back l R p e below s args y 3 8 (PreOf R mc ms Pc) (PostOf Qc mc ms free) (vx_Post XC mc ms free) := vx_callBack cw.1 hM hp.1
  obtain ⟨⟨-, -, -, -, -, -, hcode, -, hy, hlen, hl⟩, hin, hse⟩ := cw
  obtain ⟨hx, hb, hml, ho, -⟩ := S
  obtain ⟨-, ⟨cellB, hcB, hoB, hclB⟩, hPc⟩ := hp
  intro T hT X
  rcases vx_callV X hx (C := C) (bytes := bytes) (maxL := maxL) (ret := ret) ho hl hin hse hcode hy hK (by rw [hT]; exact hcB) hoB hclB hg (hsize.trans hml.symm) (argsL := As) (rest := rest) (fun sig h => hn.trans (hlen sig h)) hstack hW (by rw [hb]; exact hdg)
    (fun vm₁ hW₁ => ⟨hf.1, hf.2, hPc (T.setVm vm₁) hT hW₁⟩) with ⟨v, vm₁, ⟨U', l2, c2, s2⟩, hW₁, X', ⟨g', mk, t, L, e1, e2, hq, h1, hL, h2, h3⟩, st⟩ | ⟨q, vm₁, ⟨U', l2, c2, s2⟩, hW₁, X', ⟨g', mk, t, L, E, ce, e1, e2, hq, hce, hcv, hcl, h1, hL, h2, h3⟩, st⟩
  · dsimp only [Pt.U, Pt.locs, Pt.cells, Pt.slots] at X' e1 e2 h1 h2 h3 st
    subst h1; subst h2; subst h3
    exact Or.inl ⟨v, (T.setVm vm₁).calling g' mk (Value.ref b :: As).toArray, t, U', L, hT, X', hL, e1, e2, hq, st⟩
  · dsimp only [Pt.U, Pt.locs, Pt.cells, Pt.slots] at X' e1 e2 h1 h2 h3 st hcl
    subst h1; subst h2; subst h3
    exact Or.inr ⟨q, (T.setVm vm₁).calling g' mk (Value.ref b :: As).toArray, t, U', L, E, ce, hT, X', hL, e1, e2, hq, hce, hcv, vx_cls hW₁ hcl, st⟩
theorem vx_runS (S : CallFix p m c cc nL s args Ts own) (hM : vx_Met l y ws rm Pc Qc XC mc ms free) (cw : CallB R s args own index y bytes maxL ret ws rm mc ms n ∧ (Cond.static y).before args s = true) (hp : PreS s H Pc As)
    (hg : g.method = m) (hn : As.length = n) (hsize : g.locals.size = nL) (hstack : g.stack = As.reverse ++ rest) (hW : 2 * g.monitorRoom + (rest.map fun v => v.category).sum ≤ 8) (hdg : decode cc g.pc = .ok (.invokestatic index, 3)) (hf : cells + mc ≤ R.cells ∧ slots + ms ≤ R.slots) :
    vx_Run p l e R s m args below meth c H locs cells slots mc ms g rest (Qc As.toArray) XC free := by
  have hK : vx_Back l R p e below s args y 3 8 (PreOf R mc ms Pc) (PostOf Qc mc ms free) (vx_Post XC mc ms free) := vx_callBack cw.1 hM hp.1
  obtain ⟨⟨-, -, -, -, -, -, hcode, hini, hy, hlen, hl⟩, hstt⟩ := cw
  obtain ⟨hx, hb, hml, ho, -⟩ := S
  intro T hT X
  rcases vx_callS X hx (bytes := bytes) (maxL := maxL) (ret := ret) ho hl hstt hini hcode hy hK hg (hsize.trans hml.symm) (argsL := As) (rest := rest) (fun sig h => hn.trans (hlen sig h)) hstack hW (by rw [hb]; exact hdg)
    (fun vm₁ hW₁ => ⟨hf.1, hf.2, hp.2 (T.setVm vm₁) hT hW₁⟩) with ⟨v, vm₁, ⟨U', l2, c2, s2⟩, hW₁, X', ⟨g', mk, t, L, e1, e2, hq, h1, hL, h2, h3⟩, st⟩ | ⟨q, vm₁, ⟨U', l2, c2, s2⟩, hW₁, X', ⟨g', mk, t, L, E, ce, e1, e2, hq, hce, hcv, hcl, h1, hL, h2, h3⟩, st⟩
  · dsimp only [Pt.U, Pt.locs, Pt.cells, Pt.slots] at X' e1 e2 h1 h2 h3 st
    subst h1; subst h2; subst h3
    exact Or.inl ⟨v, (T.setVm vm₁).calling g' mk As.toArray, t, U', L, hT, X', hL, e1, e2, hq, st⟩
  · dsimp only [Pt.U, Pt.locs, Pt.cells, Pt.slots] at X' e1 e2 h1 h2 h3 st hcl
    subst h1; subst h2; subst h3
    exact Or.inr ⟨q, (T.setVm vm₁).calling g' mk As.toArray, t, U', L, E, ce, hT, X', hL, e1, e2, hq, hce, hcv, vx_cls hW₁ hcl, st⟩
end Runs
section Rows
variable {p : Program} {l : Launch} {e : Env} {R : Room} {s : State} {m : MethodId} {args : Array Value} {below : List Frame} {meth : Method} {c : Code} {H : Heap} {locs : List Loc} {cells slots : Nat} {Q : State → Prop}
variable {mc ms : Nat} {free : Addr → Prop} {A0 A1 : Nat → Prop} {H0 : Heap} {a : Array Value} {pc : Nat} {ls : Array Slot} {st0 rest : List Value}
theorem vx_keep {st₀ t T' : State} {L : List Loc} (h0 : st₀.heap = H) (e1 : T'.heap = t.heap) (hS : va_S A0 H0 H locs) (hA : ∀ q, q < H.size → A1 q → A0 q) (hf : ∀ q, free q → A0 q) (hL : ∀ q ∈ L, free q.base) (hF : va_F A1 st₀ t) :
    H.size ≤ T'.heap.size ∧ (∀ q : Nat, q < H.size → ¬ A1 q → T'.heap[q]? = H[q]?) ∧ va_S A0 H0 T'.heap (locs ++ L) := by
  obtain ⟨hz, hk⟩ := hF
  rw [h0] at hz hk
  exact ⟨by rw [e1]; exact hz, fun q h1 h2 => by rw [e1]; exact hk q h1 h2,
    ⟨Nat.le_trans hS.1 (by rw [e1]; exact hz), fun q h1 h2 => by rw [e1, hk q (Nat.lt_of_lt_of_le h1 hS.1) (fun z => h2 (hA q (Nat.lt_of_lt_of_le h1 hS.1) z))]; exact hS.2.1 q h1 h2, fun q hq => by
      rcases List.mem_append.mp hq with h | h
      · exact hS.2.2 q h
      · exact hf _ (hL q h)⟩⟩
theorem vx_calli {S SX : Type} {post : Int32 → S → Prop} {px : SX → Prop} {B : S → State → Prop} {BX : String → SX → State → Prop} {AX : Nat → Prop} (hr : vx_Run p l e R s m args below meth c H locs cells slots mc ms (F0 m pc ls st0) rest (va_Qi post B A1 a) (vx_X px BX AX) free) (hS : va_S A0 H0 H locs) (hA : ∀ q, q < H.size → A1 q → A0 q) (hf : ∀ q, free q → A0 q) (hAX : ∀ q, q < H.size → AX q → A0 q)
    (kx : ∀ (E : String) (ce : Cell) (q9 : Addr) (u : SX) (t : State) (H1 : Heap) (locs1 : List Loc), t.heap = H1 → s.vm.Alike t.vm → px u → BX E u t → H.size ≤ H1.size → (∀ q : Nat, q < H.size → ¬ AX q → H1[q]? = H[q]?) → va_S A0 H0 H1 locs1 → H1[q9]? = some ce → ce.vm = .none → s.vm.findClass E = some ce.cls → vx_W p l e R s m args below meth c H1 locs1 (cells + mc) (slots + ms) Q (F0 m pc ls rest) q9)
    (kk : ∀ (r : Int32) (u : S) (t : State) (H1 : Heap) (locs1 : List Loc), t.heap = H1 → s.vm.Alike t.vm → post r u → B u t → H.size ≤ H1.size → (∀ q : Nat, q < H.size → ¬ A1 q → H1[q]? = H[q]?) → va_S A0 H0 H1 locs1 → W p l e R s m args below meth c H1 locs1 (cells + mc) (slots + ms) Q (F0 m (pc + 3) ls (.int r :: rest))) : W p l e R s m args below meth c H locs cells slots Q (F0 m pc ls st0) := by
  intro T hT X
  rcases hr T hT X with ⟨v, st₀, t, T', L, h0, X', hL, e1, e2, ⟨⟨r, u, hv, hp, hb⟩, hF⟩, st⟩ | ⟨q, st₀, t, T', L, E, ce, h0, X', hL, e1, e2, ⟨u, hp, hb, hF⟩, hce, hcv, hcl, st⟩
  · cases hv
    obtain ⟨k1, k2, k3⟩ := vx_keep h0 e1 hS hA hf hL hF
    obtain ⟨t2, a1, b1⟩ := kk r u t T'.heap (locs ++ L) e1.symm (by rw [← e2]; exact X'.warmed.alike) hp hb k1 k2 k3 T' rfl X'
    exact ⟨t2, st t2 a1, b1⟩
  · obtain ⟨k1, k2, k3⟩ := vx_keep h0 e1 hS hAX hf hL hF
    obtain ⟨t2, a1, b1⟩ := kx E ce q u t T'.heap (locs ++ L) e1.symm (by rw [← e2]; exact X'.warmed.alike) hp hb k1 k2 k3 (by rw [e1]; exact hce) hcv hcl T' rfl X'
    exact ⟨t2, st.trans a1, b1⟩
theorem vx_calll {S SX : Type} {post : Int64 → S → Prop} {px : SX → Prop} {B : S → State → Prop} {BX : String → SX → State → Prop} {AX : Nat → Prop} (hr : vx_Run p l e R s m args below meth c H locs cells slots mc ms (F0 m pc ls st0) rest (va_Ql post B A1 a) (vx_X px BX AX) free) (hS : va_S A0 H0 H locs) (hA : ∀ q, q < H.size → A1 q → A0 q) (hf : ∀ q, free q → A0 q) (hAX : ∀ q, q < H.size → AX q → A0 q)
    (kx : ∀ (E : String) (ce : Cell) (q9 : Addr) (u : SX) (t : State) (H1 : Heap) (locs1 : List Loc), t.heap = H1 → s.vm.Alike t.vm → px u → BX E u t → H.size ≤ H1.size → (∀ q : Nat, q < H.size → ¬ AX q → H1[q]? = H[q]?) → va_S A0 H0 H1 locs1 → H1[q9]? = some ce → ce.vm = .none → s.vm.findClass E = some ce.cls → vx_W p l e R s m args below meth c H1 locs1 (cells + mc) (slots + ms) Q (F0 m pc ls rest) q9)
    (kk : ∀ (r : Int64) (u : S) (t : State) (H1 : Heap) (locs1 : List Loc), t.heap = H1 → s.vm.Alike t.vm → post r u → B u t → H.size ≤ H1.size → (∀ q : Nat, q < H.size → ¬ A1 q → H1[q]? = H[q]?) → va_S A0 H0 H1 locs1 → W p l e R s m args below meth c H1 locs1 (cells + mc) (slots + ms) Q (F0 m (pc + 3) ls (.long r :: rest))) : W p l e R s m args below meth c H locs cells slots Q (F0 m pc ls st0) := by
  intro T hT X
  rcases hr T hT X with ⟨v, st₀, t, T', L, h0, X', hL, e1, e2, ⟨⟨r, u, hv, hp, hb⟩, hF⟩, st⟩ | ⟨q, st₀, t, T', L, E, ce, h0, X', hL, e1, e2, ⟨u, hp, hb, hF⟩, hce, hcv, hcl, st⟩
  · cases hv
    obtain ⟨k1, k2, k3⟩ := vx_keep h0 e1 hS hA hf hL hF
    obtain ⟨t2, a1, b1⟩ := kk r u t T'.heap (locs ++ L) e1.symm (by rw [← e2]; exact X'.warmed.alike) hp hb k1 k2 k3 T' rfl X'
    exact ⟨t2, st t2 a1, b1⟩
  · obtain ⟨k1, k2, k3⟩ := vx_keep h0 e1 hS hAX hf hL hF
    obtain ⟨t2, a1, b1⟩ := kx E ce q u t T'.heap (locs ++ L) e1.symm (by rw [← e2]; exact X'.warmed.alike) hp hb k1 k2 k3 (by rw [e1]; exact hce) hcv hcl T' rfl X'
    exact ⟨t2, st.trans a1, b1⟩
theorem vx_callf {S SX : Type} {post : UInt32 → S → Prop} {px : SX → Prop} {B : S → State → Prop} {BX : String → SX → State → Prop} {AX : Nat → Prop} (hr : vx_Run p l e R s m args below meth c H locs cells slots mc ms (F0 m pc ls st0) rest (va_Qf post B A1 a) (vx_X px BX AX) free) (hS : va_S A0 H0 H locs) (hA : ∀ q, q < H.size → A1 q → A0 q) (hf : ∀ q, free q → A0 q) (hAX : ∀ q, q < H.size → AX q → A0 q)
    (kx : ∀ (E : String) (ce : Cell) (q9 : Addr) (u : SX) (t : State) (H1 : Heap) (locs1 : List Loc), t.heap = H1 → s.vm.Alike t.vm → px u → BX E u t → H.size ≤ H1.size → (∀ q : Nat, q < H.size → ¬ AX q → H1[q]? = H[q]?) → va_S A0 H0 H1 locs1 → H1[q9]? = some ce → ce.vm = .none → s.vm.findClass E = some ce.cls → vx_W p l e R s m args below meth c H1 locs1 (cells + mc) (slots + ms) Q (F0 m pc ls rest) q9)
    (kk : ∀ (r : UInt32) (u : S) (t : State) (H1 : Heap) (locs1 : List Loc), t.heap = H1 → s.vm.Alike t.vm → post r u → B u t → H.size ≤ H1.size → (∀ q : Nat, q < H.size → ¬ A1 q → H1[q]? = H[q]?) → va_S A0 H0 H1 locs1 → W p l e R s m args below meth c H1 locs1 (cells + mc) (slots + ms) Q (F0 m (pc + 3) ls (.float r :: rest))) : W p l e R s m args below meth c H locs cells slots Q (F0 m pc ls st0) := by
  intro T hT X
  rcases hr T hT X with ⟨v, st₀, t, T', L, h0, X', hL, e1, e2, ⟨⟨r, u, hv, hp, hb⟩, hF⟩, st⟩ | ⟨q, st₀, t, T', L, E, ce, h0, X', hL, e1, e2, ⟨u, hp, hb, hF⟩, hce, hcv, hcl, st⟩
  · cases hv
    obtain ⟨k1, k2, k3⟩ := vx_keep h0 e1 hS hA hf hL hF
    obtain ⟨t2, a1, b1⟩ := kk r u t T'.heap (locs ++ L) e1.symm (by rw [← e2]; exact X'.warmed.alike) hp hb k1 k2 k3 T' rfl X'
    exact ⟨t2, st t2 a1, b1⟩
  · obtain ⟨k1, k2, k3⟩ := vx_keep h0 e1 hS hAX hf hL hF
    obtain ⟨t2, a1, b1⟩ := kx E ce q u t T'.heap (locs ++ L) e1.symm (by rw [← e2]; exact X'.warmed.alike) hp hb k1 k2 k3 (by rw [e1]; exact hce) hcv hcl T' rfl X'
    exact ⟨t2, st.trans a1, b1⟩
theorem vx_calld {S SX : Type} {post : UInt64 → S → Prop} {px : SX → Prop} {B : S → State → Prop} {BX : String → SX → State → Prop} {AX : Nat → Prop} (hr : vx_Run p l e R s m args below meth c H locs cells slots mc ms (F0 m pc ls st0) rest (va_Qd post B A1 a) (vx_X px BX AX) free) (hS : va_S A0 H0 H locs) (hA : ∀ q, q < H.size → A1 q → A0 q) (hf : ∀ q, free q → A0 q) (hAX : ∀ q, q < H.size → AX q → A0 q)
    (kx : ∀ (E : String) (ce : Cell) (q9 : Addr) (u : SX) (t : State) (H1 : Heap) (locs1 : List Loc), t.heap = H1 → s.vm.Alike t.vm → px u → BX E u t → H.size ≤ H1.size → (∀ q : Nat, q < H.size → ¬ AX q → H1[q]? = H[q]?) → va_S A0 H0 H1 locs1 → H1[q9]? = some ce → ce.vm = .none → s.vm.findClass E = some ce.cls → vx_W p l e R s m args below meth c H1 locs1 (cells + mc) (slots + ms) Q (F0 m pc ls rest) q9)
    (kk : ∀ (r : UInt64) (u : S) (t : State) (H1 : Heap) (locs1 : List Loc), t.heap = H1 → s.vm.Alike t.vm → post r u → B u t → H.size ≤ H1.size → (∀ q : Nat, q < H.size → ¬ A1 q → H1[q]? = H[q]?) → va_S A0 H0 H1 locs1 → W p l e R s m args below meth c H1 locs1 (cells + mc) (slots + ms) Q (F0 m (pc + 3) ls (.double r :: rest))) : W p l e R s m args below meth c H locs cells slots Q (F0 m pc ls st0) := by
  intro T hT X
  rcases hr T hT X with ⟨v, st₀, t, T', L, h0, X', hL, e1, e2, ⟨⟨r, u, hv, hp, hb⟩, hF⟩, st⟩ | ⟨q, st₀, t, T', L, E, ce, h0, X', hL, e1, e2, ⟨u, hp, hb, hF⟩, hce, hcv, hcl, st⟩
  · cases hv
    obtain ⟨k1, k2, k3⟩ := vx_keep h0 e1 hS hA hf hL hF
    obtain ⟨t2, a1, b1⟩ := kk r u t T'.heap (locs ++ L) e1.symm (by rw [← e2]; exact X'.warmed.alike) hp hb k1 k2 k3 T' rfl X'
    exact ⟨t2, st t2 a1, b1⟩
  · obtain ⟨k1, k2, k3⟩ := vx_keep h0 e1 hS hAX hf hL hF
    obtain ⟨t2, a1, b1⟩ := kx E ce q u t T'.heap (locs ++ L) e1.symm (by rw [← e2]; exact X'.warmed.alike) hp hb k1 k2 k3 (by rw [e1]; exact hce) hcv hcl T' rfl X'
    exact ⟨t2, st.trans a1, b1⟩
theorem vx_callv {S SX : Type} {post : S → Prop} {px : SX → Prop} {B : S → State → Prop} {BX : String → SX → State → Prop} {AX : Nat → Prop} (hr : vx_Run p l e R s m args below meth c H locs cells slots mc ms (F0 m pc ls st0) rest (va_Qv post B A1 a) (vx_X px BX AX) free) (hS : va_S A0 H0 H locs) (hA : ∀ q, q < H.size → A1 q → A0 q) (hf : ∀ q, free q → A0 q) (hAX : ∀ q, q < H.size → AX q → A0 q)
    (kx : ∀ (E : String) (ce : Cell) (q9 : Addr) (u : SX) (t : State) (H1 : Heap) (locs1 : List Loc), t.heap = H1 → s.vm.Alike t.vm → px u → BX E u t → H.size ≤ H1.size → (∀ q : Nat, q < H.size → ¬ AX q → H1[q]? = H[q]?) → va_S A0 H0 H1 locs1 → H1[q9]? = some ce → ce.vm = .none → s.vm.findClass E = some ce.cls → vx_W p l e R s m args below meth c H1 locs1 (cells + mc) (slots + ms) Q (F0 m pc ls rest) q9)
    (kk : ∀ (u : S) (t : State) (H1 : Heap) (locs1 : List Loc), t.heap = H1 → s.vm.Alike t.vm → post u → B u t → H.size ≤ H1.size → (∀ q : Nat, q < H.size → ¬ A1 q → H1[q]? = H[q]?) → va_S A0 H0 H1 locs1 → W p l e R s m args below meth c H1 locs1 (cells + mc) (slots + ms) Q (F0 m (pc + 3) ls (rest))) : W p l e R s m args below meth c H locs cells slots Q (F0 m pc ls st0) := by
  intro T hT X
  rcases hr T hT X with ⟨v, st₀, t, T', L, h0, X', hL, e1, e2, ⟨⟨u, hv, hp, hb⟩, hF⟩, st⟩ | ⟨q, st₀, t, T', L, E, ce, h0, X', hL, e1, e2, ⟨u, hp, hb, hF⟩, hce, hcv, hcl, st⟩
  · cases hv
    obtain ⟨k1, k2, k3⟩ := vx_keep h0 e1 hS hA hf hL hF
    obtain ⟨t2, a1, b1⟩ := kk u t T'.heap (locs ++ L) e1.symm (by rw [← e2]; exact X'.warmed.alike) hp hb k1 k2 k3 T' rfl X'
    exact ⟨t2, st t2 a1, b1⟩
  · obtain ⟨k1, k2, k3⟩ := vx_keep h0 e1 hS hAX hf hL hF
    obtain ⟨t2, a1, b1⟩ := kx E ce q u t T'.heap (locs ++ L) e1.symm (by rw [← e2]; exact X'.warmed.alike) hp hb k1 k2 k3 (by rw [e1]; exact hce) hcv hcl T' rfl X'
    exact ⟨t2, st.trans a1, b1⟩
/-- caught by the row x of this method's table; the rows ahead don't take it -/
theorem vx_catch {own name : String} {E : String} {ce : Cell} {q : Addr} (hown : s.vm.findClass own = some m.cls) (pre : List ExceptionTableEntry) (x : ExceptionTableEntry) (suf : List ExceptionTableEntry) (hsplit : c.exceptionTable.toList = pre ++ x :: suf)
    (hpass : ∀ z ∈ pre, covers z pc = false ∨ (z.catchType ≠ 0 ∧ ∃ nm : String, (Cond.classLink own z.catchType nm).before args s = true ∧ va_Nc E nm s)) (hx : covers x pc = true) (h0 : x.catchType ≠ 0)
    (hlink : (Cond.classLink own x.catchType name).before args s = true) (hcast : (Cond.castable E name).before args s = true) (hcell : H[q]? = some ce) (hv : ce.vm = .none) (hcl : s.vm.findClass E = some ce.cls)
    (kk : W p l e R s m args below meth c H locs cells slots Q (F0 m x.handlerPc ls [.ref q])) : vx_W p l e R s m args below meth c H locs cells slots Q (F0 m pc ls rest) q := by
  intro T hT X
  have hpl : e.platform.magicAccessors = ({} : Platform).magicAccessors := by rw [X.admits.platform]
  obtain ⟨c3, c4, hc3, hc4, hasg⟩ := Cond.castable_spec hcast
  cases Option.some.inj (hc3.symm.trans hcl)
  obtain ⟨c5, hc5, hcl5⟩ := Cond.classLink_spec hown hlink e.platform hpl
  cases Option.some.inj (hc4.symm.trans hc5)
  obtain ⟨vm', X', st⟩ := Jvm.Stand.thenCaughtThrough X q (g := F0 m pc ls rest) rfl (Steps.refl _) (by rw [hT]; exact hcell) (by rw [hv]; rfl) (by obtain ⟨k9, h9, -⟩ := Vm.findClass_spec hcl; exact ⟨k9, h9⟩) pre x suf hsplit
    (fun z hz => by
      rcases hpass z hz with h | ⟨hz0, nm, hl1, hn1⟩
      · exact Or.inl h
      · obtain ⟨c6, hc6, hcl6⟩ := Cond.classLink_spec hown hl1 e.platform hpl
        obtain ⟨a8, b8, h1, h2, h3⟩ := hn1
        cases Option.some.inj (h1.symm.trans hcl)
        cases Option.some.inj (h2.symm.trans hc6)
        exact Or.inr ⟨hz0, _, hcl6, h3⟩) hx (Or.inr ⟨h0, c4, hcl5, hasg⟩)
  obtain ⟨t, a1, b1⟩ := kk (T.setVm vm') hT X'
  exact ⟨t, st.trans a1, b1⟩
end Rows
section Ends
variable {p : Program} {l : Launch} {e : Env} {R : Room} {s : State} {m : MethodId} {args : Array Value} {below : List Frame} {meth : Method} {c : Code} {H : Heap} {locs : List Loc} {cells slots : Nat} {Q : State → Prop}
variable {mc ms : Nat} {free : Addr → Prop} {A0 A1 : Nat → Prop} {H0 : Heap} {a : Array Value} {ls : Array Slot} {st0 rest : List Value}
variable {Qc : Array Value → State → Outcome → State → Prop} {XC : String → State → State → Prop}
/-- what a body that may throw owes at its end -/
def vx_MQ (below : List Frame) (Qc : Array Value → State → Outcome → State → Prop) (XC : String → State → State → Prop) (a : Array Value) (s : State) (mc ms : Nat) (free : Addr → Prop) : State → Prop := fun t =>
  ∃ o, t.status = .running ∧ Ended t below o ∧ vx_Q Qc XC mc ms free a s o t
theorem vx_ret {g : JFrame} {mc ms : Nat} (k : W p l e R s m args below meth c H locs cells slots (MQ below Qc args s mc ms free) g) : W p l e R s m args below meth c H locs cells slots (vx_MQ below Qc XC args s mc ms free) g := by
  intro T hT X
  obtain ⟨t, a1, o, b1, b2, b3, b4⟩ := k T hT X
  exact ⟨t, a1, o, b1, b2, Or.inl ⟨b3, b4⟩⟩
/-- not caught here: it goes on to the caller -/
theorem vx_widen {g : JFrame} {q : Addr} {k n : Nat} (h1 : cells ≤ k) (h2 : slots ≤ n) (kk : vx_W p l e R s m args below meth c H locs k n Q g q) : vx_W p l e R s m args below meth c H locs cells slots Q g q := fun T hT X => kk T hT (stand_widen X h1 h2)
theorem vx_out {pc : Nat} {E : String} {ce : Cell} {q : Addr} {mc ms : Nat} (hout : ∀ x ∈ c.exceptionTable.toList, covers x pc = false) (hlocks : meth.locks = false) (hcell : H[q]? = some ce) (hv : ce.vm = .none) (hcl : s.vm.findClass E = some ce.cls)
    (hx : ∀ t : State, t.heap = H → s.vm.Alike t.vm → XC E s t) (hf : ∀ z ∈ locs, free z.base) (hc : cells ≤ mc) (hs : slots ≤ ms) :
    vx_W p l e R s m args below meth c H locs cells slots (vx_MQ below Qc XC args s mc ms free) (F0 m pc ls rest) q := by
  intro T hT X
  obtain ⟨st1, hrun, hend, hW, hsm⟩ := X.leaveThrown q (g := F0 m pc ls rest) rfl rfl rfl hout hlocks
  have hcell9 : (T.setFrames (.throwing q :: below)).heap[q]? = some ce := by
    show T.heap[q]? = some ce
    rw [hT]; exact hcell
  exact ⟨_, st1, .threw q, hrun, hend, Or.inr ⟨q, rfl, E, ce, locs, hx _ hT hW.alike, hcell9, hv, hcl, hW, hsm.mono hc hs, hf⟩⟩
theorem vx_frame {U : State} {k n : Nat} (h : s.sameButNew ({ U with vm := s.vm } : State) locs k n) : s.heap.size ≤ U.heap.size ∧ ∀ q : Nat, q < s.heap.size → (∀ z ∈ locs, z.base ≠ q) → U.heap[q]? = s.heap[q]? := by
  obtain ⟨-, h2, -, -, -, h6⟩ := h
  refine ⟨h2, fun q hq hz => ?_⟩
  obtain ⟨c9, e1, e2, e3, e4⟩ := h6 q _ (Array.getElem?_eq_getElem hq)
  have hs : c9.slots = (s.heap[q]).slots := Array.ext_getElem? fun i => e4 i fun hm => hz _ hm rfl
  have h9 : c9 = s.heap[q] := by
    rw [hs] at e2
    exact e2
  have e5 : U.heap[q]? = some c9 := e1
  rw [e5, h9, Array.getElem?_eq_getElem hq]
/-- the words of a throw but the four that speak of the heap -/
def vx_no (w : Cond) : Bool := decide (w ≠ .isRef (.static Bundle.tN "UNASSIGNED_STACK" Bundle.steD)) && decide (w ≠ .isRef (.static Bundle.tN "SUPPRESSED_SENTINEL" Bundle.listD)) && decide (w ≠ .laysStatic Bundle.tN "UNASSIGNED_STACK" Bundle.steD) && decide (w ≠ .laysStatic Bundle.tN "SUPPRESSED_SENTINEL" Bundle.listD)
def vx_at0 (own : String) (ic : Nat) (X : String) (names : List String) : List Cond := (Bundle.ownAtoms0 own ic X names).filter vx_no
def vx_atS (own : String) (ic : Nat) (X : String) (names : List String) : List Cond := (Bundle.ownAtoms own ic X names).filter vx_no
/-- a word that the tables alone decide, or a good one -/
def vx_ot (w : Cond) : Bool := w.onTables || goodWord w
theorem vx_ot_at {args a' : Array Value} {s U : State} {w : Cond} (hW : s.WarmedH U.vm) (hvm : s.vm = U.vm) (hg : vx_ot w = true) (h : w.before args s = true) : w.before a' U = true := by
  simp only [vx_ot, Bool.or_eq_true] at hg
  rcases hg with hg | hg
  · exact va_tabs hg hvm h
  · exact word_at hW (good_of_word hg) h
/-- a list's words: the good ones out of the method's own list, the others by premises of their own -/
theorem vx_hat {args : Array Value} {s : State} {L B : List Cond} (h1 : ∀ w ∈ L.filter goodWord, w.before args s = true) (h2 : ∀ w ∈ L.filter (fun w => !goodWord w), w ∈ B) (h3 : ∀ w ∈ B, w.before args s = true) : ∀ w ∈ L, w.before args s = true := by
  intro w hw
  by_cases g : goodWord w = true
  · exact h1 w (List.mem_filter.mpr ⟨hw, g⟩)
  · refine h3 w (h2 w (List.mem_filter.mpr ⟨hw, ?_⟩))
    show (!goodWord w) = true
    cases hgw : goodWord w
    · rfl
    · exact absurd hgw g
theorem vx_c {args : Array Value} {s : State} {w : Cond} {B : List Cond} (h : w.before args s = true) (t : ∀ w ∈ B, w.before args s = true) : ∀ w' ∈ w :: B, w'.before args s = true := fun w' h' => (List.mem_cons.mp h').elim (fun e => by rw [e]; exact h) (t w')
theorem vx_n {args : Array Value} {s : State} : ∀ w ∈ ([] : List Cond), w.before args s = true := fun _ h => nomatch h
theorem vx_own {args : Array Value} {s : State} {L : List Cond} (h1 : ∀ w ∈ L.filter vx_no, w.before args s = true)
    (hU : (Cond.isRef (.static Bundle.tN "UNASSIGNED_STACK" Bundle.steD)).before args s = true) (hN : (Cond.isRef (.static Bundle.tN "SUPPRESSED_SENTINEL" Bundle.listD)).before args s = true)
    (lU : (Cond.laysStatic Bundle.tN "UNASSIGNED_STACK" Bundle.steD).before args s = true) (lN : (Cond.laysStatic Bundle.tN "SUPPRESSED_SENTINEL" Bundle.listD).before args s = true) : ∀ w ∈ L, w.before args s = true := by
  intro w hw
  by_cases e1 : w = .isRef (.static Bundle.tN "UNASSIGNED_STACK" Bundle.steD)
  · rw [e1]; exact hU
  · by_cases e2 : w = .isRef (.static Bundle.tN "SUPPRESSED_SENTINEL" Bundle.listD)
    · rw [e2]; exact hN
    · by_cases e3 : w = .laysStatic Bundle.tN "UNASSIGNED_STACK" Bundle.steD
      · rw [e3]; exact lU
      · by_cases e4 : w = .laysStatic Bundle.tN "SUPPRESSED_SENTINEL" Bundle.listD
        · rw [e4]; exact lN
        · exact h1 w (List.mem_filter.mpr ⟨hw, by unfold vx_no; rw [decide_eq_true e1, decide_eq_true e2, decide_eq_true e3, decide_eq_true e4]; rfl⟩)
/-- where a static field lies, its class's statics cell in H -/
def vx_L (C n d : String) (A : Nat → Prop) (U : State) (H : Heap) : Prop := ∃ (c : ClassId) (k : Class) (i : Nat) (f : Field) (a : Nat) (cell : Cell), U.vm.findClass C = some c ∧ U.fieldFound? C n d = some (c, k, i, f) ∧ f.isStatic = true ∧ k.statics = some a ∧ H[a]? = some cell ∧ cell.vm.isStatics = true ∧ cell.cls = c ∧ f.slot < cell.slots.size ∧ k.staticTypes[f.slot]? = some f.type ∧ ¬ A a
theorem vx_L.moved {C n d : String} {A : Nat → Prop} {u U : State} {H : Heap} (hvm : u.vm.Alike U.vm) (h : vx_L C n d A u H) : vx_L C n d A U H := by
  obtain ⟨c, k, i, f, a, cell, h1, h2, h3, h4, h5, h6, h7, h8, h9, h10⟩ := h
  obtain ⟨k', hi', he⟩ := State.fieldFound?_setVm hvm h2
  exact ⟨c, k', i, f, a, cell, by rw [hvm.findClass]; exact h1, hi', h3, by rw [he]; exact h4, h5, h6, h7, h8, by rw [he]; exact h9, h10⟩
theorem vx_L.kept {C n d : String} {A : Nat → Prop} {U : State} {H H1 : Heap} (h : vx_L C n d A U H) (hq : ∀ a : Nat, a < H.size → ¬ A a → H1[a]? = H[a]?) : vx_L C n d A U H1 := by
  obtain ⟨c, k, i, f, a, cell, h1, h2, h3, h4, h5, h6, h7, h8, h9, h10⟩ := h
  exact ⟨c, k, i, f, a, cell, h1, h2, h3, h4, by rw [hq a (Array.getElem?_eq_some_iff.mp h5).1 h10]; exact h5, h6, h7, h8, h9, h10⟩
theorem vx_L.narrow {C n d : String} {A B : Nat → Prop} {U : State} {H : Heap} (h : vx_L C n d A U H) (hAB : ∀ q, B q → A q) : vx_L C n d B U H := by
  obtain ⟨c, k, i, f, a, cell, h1, h2, h3, h4, h5, h6, h7, h8, h9, h10⟩ := h
  exact ⟨c, k, i, f, a, cell, h1, h2, h3, h4, h5, h6, h7, h8, h9, fun z => h10 (hAB _ z)⟩
theorem vx_L.word {C n d : String} {A : Nat → Prop} {s : State} {args : Array Value} (h : vx_L C n d A s s.heap) : (Cond.laysStatic C n d).before args s = true := by
  obtain ⟨c, k, i, f, a, cell, h1, h2, h3, h4, h5, h6, h7, h8, h9, -⟩ := h
  show (Cond.laysStatic C n d).holds args s none s [] = true
  exact Cond.laysStatic_of h1 h2 h3 h4 h5 h6 h7 h8 h9
/-- .. and what it holds: null or some reference -/
def vx_Zq (C n d : String) (A : Nat → Prop) (U : State) (H : Heap) : Prop := va_Zq C n d A U H ∧ vx_L C n d A U H
theorem vx_Zq.moved {C n d : String} {A : Nat → Prop} {u U : State} {H : Heap} (hvm : u.vm.Alike U.vm) (h : vx_Zq C n d A u H) : vx_Zq C n d A U H := ⟨va_Zq.moved hvm h.1, vx_L.moved hvm h.2⟩
theorem vx_Zq.kept {C n d : String} {A : Nat → Prop} {U : State} {H H1 : Heap} (h : vx_Zq C n d A U H) (hq : ∀ a : Nat, a < H.size → ¬ A a → H1[a]? = H[a]?) : vx_Zq C n d A U H1 := ⟨va_Zq.kept h.1 hq, vx_L.kept h.2 hq⟩
theorem vx_Zq.narrow {C n d : String} {A B : Nat → Prop} {U : State} {H : Heap} (h : vx_Zq C n d A U H) (hAB : ∀ q, B q → A q) : vx_Zq C n d B U H := ⟨va_Zq.narrow h.1 hAB, vx_L.narrow h.2 hAB⟩
theorem vx_Zqof {args : Array Value} {s : State} {C n d : String} {A : Nat → Prop} (hl : (Cond.laysStatic C n d).before args s = true) (hini : (Cond.initialized C).before args s = true) (h : (Cond.isRef (.static C n d)).before args s = true) (hA : ∀ a : Nat, a < s.heap.size → ¬ A a) : vx_Zq C n d A s s.heap := by
  refine ⟨va_Zqof hl hini h hA, ?_⟩
  obtain ⟨c, k, i, f, a, cell, h1, h2, h3, h4, h5, h6, h7, h8, h9⟩ := Cond.laysStatic_spec hl
  exact ⟨c, k, i, f, a, cell, h1, h2, h3, h4, h5, h6, h7, h8, h9, hA a (Array.getElem?_eq_some_iff.mp h5).1⟩
theorem vx_isRef {C n d : String} {v : Value} {A : Nat → Prop} {s : State} {args : Array Value} (h : va_Z C n d v A s s.heap) (hv : v.isRef = true) : (Cond.isRef (.static C n d)).before args s = true := by
  obtain ⟨cf, kf, fi, f, a, cell, h1, h2, h3, h4, h5, h6, h7, -⟩ := h
  have he : (Term.static C n d).eval args s none [] s = some v := by
    simp [Term.eval, State.fieldNamed?, h1, h2, h4, h5, h6, h7]
  simp only [Cond.before, Cond.holds, Cond.value, he]
  cases v <;> simp_all [Value.isRef]
theorem vx_isRefq {C n d : String} {A : Nat → Prop} {s : State} {args : Array Value} (h : va_Zq C n d A s s.heap) : (Cond.isRef (.static C n d)).before args s = true := by
  rcases h with h | ⟨t, h⟩
  · exact vx_isRef h rfl
  · exact vx_isRef h rfl
/-- the same frame, seen from here: as if the method were called anew in this heap -/
theorem vx_rebase {T : State} (X : Stand p l e R s m args below meth c T locs cells slots) {R' : Room} (hf : R'.frames ≤ R.frames) (hl : R'.locals ≤ R.locals) (hc : cells + R'.cells ≤ R.cells) (hs : slots + R'.slots ≤ R.slots) :
    Stand p l e R' ((T.setVm s.vm).setFrames (.invoking m args :: below)) m args below meth c T [] 0 0 := by
  have htop : (T.setVm s.vm).topJava?.isSome := X.here.top
  have hF : ((T.setVm s.vm).setFrames (.invoking m args :: below)).frames = .invoking m args :: below := State.frames_setFrames _ (State.cur_lt_of_top htop)
  obtain ⟨g₀, hg0⟩ := Option.isSome_iff_exists.mp htop
  obtain ⟨r, hr⟩ := State.topJava?_eq_some.mp hg0
  have hl9 : e.platform.stackLimits (T.setVm s.vm).me = e.platform.stackLimits s.me := X.limits
  have hb9 : (T.setVm s.vm).me.stackBytes = s.me.stackBytes := X.bytes
  refine ⟨X.admits, X.cas, X.clock, hF, ?_, X.hears, X.method, X.code, X.here, X.tail, X.warmed, ?_, ?_, ?_⟩
  · have h := X.room
    have hU : ((T.setVm s.vm).setFrames (.invoking m args :: below)).localsInUse = s.localsInUse := by
      rw [State.localsInUse_invoking hF (meth := meth) (c := c) X.method X.code, State.localsInUse_invoking X.frames X.method X.code]
    simp only [State.hasRoom, Bool.and_eq_true, decide_eq_true_eq] at h ⊢
    obtain ⟨⟨⟨⟨h1, h2, h3, h4, h5, h6⟩, h7⟩, h8⟩, h9⟩ := h
    rw [X.frames, List.length_cons] at h2 h3
    have q1 := X.heapSize
    have q2 := X.used
    simp only [hF, hU, List.length_cons, State.stackLimits_setFrames, State.stackBytes_setFrames, hl9, hb9]
    refine ⟨⟨⟨⟨by omega, by omega, by omega, by omega, by omega, h6⟩, ?_⟩, ?_⟩, X.book⟩
    · show T.heap.size + R'.cells ≤ e.platform.maxCells
      omega
    · show T.slotsUsed + R'.slots ≤ e.platform.maxSlots
      omega
  · rw [State.stackLimits_setFrames]; rfl
  · rw [State.stackBytes_setFrames]; rfl
  · refine ⟨?_, Nat.le_refl _, Nat.le_refl _, ?_, ?_, fun a c9 h9 => ⟨c9, h9, rfl, rfl, fun _ _ => rfl⟩⟩
    · obtain ⟨t, ht, -⟩ := State.frames_cons hr
      show T.setVm s.vm = { ((T.setVm s.vm).setFrames (.invoking m args :: below)).setFrames (T.setVm s.vm).frames with heap := T.heap, slotsUsed := T.slotsUsed }
      rw [State.setFrames_setFrames, State.setFrames_self ht]
      rfl
    · show T.slotsUsed = T.slotsUsed + ((T.heap.toList.drop T.heap.size).map (·.slots.size)).sum
      rw [List.drop_eq_nil_of_le (Nat.le_of_eq Array.length_toList)]
      rfl
    · show ((T.heap.toList.drop T.heap.size).map (·.slots.size)).sum ≤ 0
      rw [List.drop_eq_nil_of_le (Nat.le_of_eq Array.length_toList)]
      exact Nat.le_refl _
/-- 'throw new E()': new; dup; invokespecial; athrow -/
theorem vx_throw0 {cc : ByteArray} {pc : Nat} (hexec : p.tables.exec = Jvm.exec) (hb : c.code = cc) (hl : l.stackTraces = false) {own cls : String} {names : List String} {ik ic mc ms : Nat} {A : Nat → Prop}
    (hown : s.vm.findClass own = some m.cls) (hcls : Bundle.fit cls = true) (hnames : ∀ n ∈ names, Bundle.fit n = true)
    (hk : (Cond.classLink own ik cls).before args s = true) (hini : (Cond.initialized cls).before args s = true) (hat : ∀ w ∈ vx_at0 own ic cls names, w.before args s = true)
    (hgood : ∀ w ∈ Cond.classLink own ik cls :: Cond.initialized cls :: vx_at0 own ic cls names, vx_ot w = true)
    (hU : vx_Zq Bundle.tN "UNASSIGNED_STACK" Bundle.steD A s s.heap) (hN : vx_Zq Bundle.tN "SUPPRESSED_SENTINEL" Bundle.listD A s s.heap) (hS : va_S A s.heap H locs) (hsize : ls.size = c.maxLocals)
    (d0 : decode cc pc = .ok (.new ik, 3)) (d3 : decode cc (pc + 3) = .ok (.dup, 1)) (d4 : decode cc (pc + 4) = .ok (.invokespecial ic, 3)) (d7 : decode cc (pc + 7) = .ok (.athrow, 1))
    (hout : ∀ x ∈ c.exceptionTable.toList, covers x (pc + 7) = false)
    (hRframes : names.length + 3 < R.frames) (hRlocals : (rest.map fun v => v.category).sum + (13 * (names.length + 1) + 42) ≤ R.locals) (hRcells : cells + 1 ≤ R.cells) (hRslots : slots + 6 ≤ R.slots) (hlocks : meth.locks = false)
    (hx : ∀ t : State, s.vm.Alike t.vm → H.size ≤ t.heap.size → (∀ q : Nat, q < H.size → t.heap[q]? = H[q]?) → XC cls s t)
    (hf : ∀ z ∈ locs, free z.base) (hc : cells + 1 ≤ mc) (hs : slots + 6 ≤ ms) :
    W p l e R s m args below meth c H locs cells slots (vx_MQ below Qc XC args s mc ms free) (F0 m pc ls rest) := by
  intro T hT X
  have htr : e.platform.stackTraces = false := (show e.platform.stackTraces = l.stackTraces by rw [X.admits.platform]).trans hl
  have Y := vx_rebase X (R' := { frames := R.frames, locals := R.locals, cells := 1, slots := 6 }) (Nat.le_refl _) (Nat.le_refl _) hRcells hRslots
  obtain ⟨s', hA⟩ : ∃ z, z = (T.setVm s.vm).setFrames (.invoking m args :: below) := ⟨_, rfl⟩
  rw [← hA] at Y
  have hvm : s'.vm = s.vm := by rw [hA]; rfl
  have hhp : s'.heap = H := by rw [hA]; exact hT
  have hW0 : s.WarmedH s'.vm := by rw [hvm]; exact State.WarmedH.refl s
  have hat' : ∀ w ∈ vx_at0 own ic cls names, w.before args s' = true := fun w hw => vx_ot_at hW0 hvm.symm (hgood w (List.mem_cons_of_mem _ (List.mem_cons_of_mem _ hw))) (hat w hw)
  have hk' : (Cond.classLink own ik cls).before args s' = true := vx_ot_at hW0 hvm.symm (hgood _ List.mem_cons_self) hk
  have hini' : (Cond.initialized cls).before args s' = true := vx_ot_at hW0 hvm.symm (hgood _ (List.mem_cons_of_mem _ List.mem_cons_self)) hini
  have hU' : vx_Zq Bundle.tN "UNASSIGNED_STACK" Bundle.steD A s' s'.heap := by rw [hhp]; exact vx_Zq.moved hW0.alike (hU.kept hS.2.1)
  have hN' : vx_Zq Bundle.tN "SUPPRESSED_SENTINEL" Bundle.listD A s' s'.heap := by rw [hhp]; exact vx_Zq.moved hW0.alike (hN.kept hS.2.1)
  have h : ∀ w ∈ Bundle.ownAtoms0 own ic cls names, w.before args s' = true := vx_own hat' (vx_isRefq hU'.1) (vx_isRefq hN'.1) hU'.2.word hN'.2.word
  have hown' : s'.vm.findClass own = some m.cls := by rw [hvm]; exact hown
  have hins : (Cond.instantiable cls 6).before args s' = true := h _ (by simp [Bundle.ownAtoms0])
  obtain ⟨vm₁, cX, kX, hfX, hkX, -, -, X₁, st1⟩ := Y.newCold hexec (own := own) (C := cls) (index := ik) (n := 6) hown' hk' hins hini'
    (g := F0 m pc ls rest) rfl (by rw [hb]; exact d0) (Nat.le_refl _) (Nat.le_refl _)
  generalize hT1 : (T.setVm vm₁).pushCell { cls := cX, slots := kX.instanceTypes.map defaultValue, vm := .none } = T1 at X₁ st1
  have hcat : (Value.ref T.heap.size).category = 1 := rfl
  have hcellA : T1.heap[T.heap.size]? = some (freshCell cX kX) := by rw [← hT1]; exact State.heap_pushCell_size _ _
  have d3' : decode c.code (pc + 3) = .ok (.dup, 1) := by rw [hb]; exact d3
  obtain ⟨U, hsteps, hrun, hend, hW, hsame, ce, hce, hO⟩ := X₁.ctorThrow0 hexec htr (own := own) (cls := cls) (names := names) (ic := ic) hown' hcls hnames h (fun x hx => nomatch hx) hfX hkX hcellA (by rw [hhp, hT]; exact Nat.le_refl _)
    (g := { method := m, pc := pc + 4, locals := ls, stack := .ref T.heap.size :: .ref T.heap.size :: rest, locked := none }) rfl hsize rfl rfl (rest := rest) rfl
    (by rw [hb]; exact d4) (by rw [hb]; exact d7) hout hRframes (by simp only [List.map_cons, List.sum_cons, hcat]; omega) hlocks
  obtain ⟨f1, f2⟩ := vx_frame hsame
  rw [hhp] at f1 f2
  have hWs : s.WarmedH U.vm := State.WarmedH.trans hW0 hW
  have hcl : s.vm.findClass cls = some ce.cls := by
    have h9 := hO.cls
    rw [hvm] at h9
    exact h9
  have hall : s.sameButNew ({ U with vm := s.vm } : State) locs mc ms := by
    subst hA
    obtain ⟨e1, e2⟩ := hsame
    rw [State.setFrames_setFrames] at e1
    have h2 : (T.setVm s.vm).sameButNew ({ U with vm := s.vm } : State) [] (0 + 1) (0 + 6) := ⟨e1, e2⟩
    have h3 := X.same.trans h2
    rw [List.append_nil] at h3
    exact h3.mono hc hs
  refine ⟨U, ?_, .threw T.heap.size, hrun, hend, Or.inr ⟨T.heap.size, rfl, cls, ce, locs, hx U hWs.alike f1 (fun q hq => f2 q hq (fun z hz => nomatch hz)), hce, hO.vm, hcl, hWs, hall, hf⟩⟩
  refine st1 _ ?_
  show Steps p.tables e below (T1.setTop { method := m, pc := pc + 3, locals := ls, stack := .ref T.heap.size :: rest, locked := none }) _
  jvm_step X₁.here [X₁.here.top, hexec, d3', Value.category]
  exact hsteps
/-- 'throw new E("text")': new; dup; ldc; invokespecial; athrow -/
theorem vx_throwS {cc : ByteArray} {pc : Nat} (hexec : p.tables.exec = Jvm.exec) (hb : c.code = cc) (hl : l.stackTraces = false) {own cls text : String} {names : List String} {ik is ic mc ms sa : Nat} {A : Nat → Prop}
    (hown : s.vm.findClass own = some m.cls) (hcls : Bundle.fit cls = true) (hnames : ∀ n ∈ names, Bundle.fit n = true)
    (hk : (Cond.classLink own ik cls).before args s = true) (hini : (Cond.initialized cls).before args s = true) (hstr : vk_R own is text sa s) (hat : ∀ w ∈ vx_atS own ic cls names, w.before args s = true)
    (hgood : ∀ w ∈ Cond.classLink own ik cls :: Cond.initialized cls :: vx_atS own ic cls names, vx_ot w = true)
    (hU : vx_Zq Bundle.tN "UNASSIGNED_STACK" Bundle.steD A s s.heap) (hN : vx_Zq Bundle.tN "SUPPRESSED_SENTINEL" Bundle.listD A s s.heap) (hS : va_S A s.heap H locs) (hsize : ls.size = c.maxLocals)
    (d0 : decode cc pc = .ok (.new ik, 3)) (d3 : decode cc (pc + 3) = .ok (.dup, 1)) (d4 : decode cc (pc + 4) = .ok (.ldc is, 2)) (d6 : decode cc (pc + 6) = .ok (.invokespecial ic, 3)) (d9 : decode cc (pc + 9) = .ok (.athrow, 1))
    (hout : ∀ x ∈ c.exceptionTable.toList, covers x (pc + 9) = false)
    (hRframes : names.length + 3 < R.frames) (hRlocals : (rest.map fun v => v.category).sum + (13 * (names.length + 1) + 43) ≤ R.locals) (hRcells : cells + 1 ≤ R.cells) (hRslots : slots + 6 ≤ R.slots) (hlocks : meth.locks = false)
    (hx : ∀ t : State, s.vm.Alike t.vm → H.size ≤ t.heap.size → (∀ q : Nat, q < H.size → t.heap[q]? = H[q]?) → XC cls s t)
    (hf : ∀ z ∈ locs, free z.base) (hc : cells + 1 ≤ mc) (hs : slots + 6 ≤ ms) :
    W p l e R s m args below meth c H locs cells slots (vx_MQ below Qc XC args s mc ms free) (F0 m pc ls rest) := by
  intro T hT X
  have htr : e.platform.stackTraces = false := (show e.platform.stackTraces = l.stackTraces by rw [X.admits.platform]).trans hl
  have Y := vx_rebase X (R' := { frames := R.frames, locals := R.locals, cells := 1, slots := 6 }) (Nat.le_refl _) (Nat.le_refl _) hRcells hRslots
  obtain ⟨s', hA⟩ : ∃ z, z = (T.setVm s.vm).setFrames (.invoking m args :: below) := ⟨_, rfl⟩
  rw [← hA] at Y
  have hvm : s'.vm = s.vm := by rw [hA]; rfl
  have hhp : s'.heap = H := by rw [hA]; exact hT
  have hW0 : s.WarmedH s'.vm := by rw [hvm]; exact State.WarmedH.refl s
  have hat' : ∀ w ∈ vx_atS own ic cls names, w.before args s' = true := fun w hw => vx_ot_at hW0 hvm.symm (hgood w (List.mem_cons_of_mem _ (List.mem_cons_of_mem _ hw))) (hat w hw)
  have hk' : (Cond.classLink own ik cls).before args s' = true := vx_ot_at hW0 hvm.symm (hgood _ List.mem_cons_self) hk
  have hini' : (Cond.initialized cls).before args s' = true := vx_ot_at hW0 hvm.symm (hgood _ (List.mem_cons_of_mem _ List.mem_cons_self)) hini
  have hU' : vx_Zq Bundle.tN "UNASSIGNED_STACK" Bundle.steD A s' s'.heap := by rw [hhp]; exact vx_Zq.moved hW0.alike (hU.kept hS.2.1)
  have hN' : vx_Zq Bundle.tN "SUPPRESSED_SENTINEL" Bundle.listD A s' s'.heap := by rw [hhp]; exact vx_Zq.moved hW0.alike (hN.kept hS.2.1)
  have h : ∀ w ∈ Bundle.ownAtoms own ic cls names, w.before args s' = true := vx_own hat' (vx_isRefq hU'.1) (vx_isRefq hN'.1) hU'.2.word hN'.2.word
  have hown' : s'.vm.findClass own = some m.cls := by rw [hvm]; exact hown
  have hins : (Cond.instantiable cls 6).before args s' = true := h _ (by simp [Bundle.ownAtoms])
  obtain ⟨vm₁, cX, kX, hfX, hkX, -, -, X₁, st1⟩ := Y.newCold hexec (own := own) (C := cls) (index := ik) (n := 6) hown' hk' hins hini'
    (g := F0 m pc ls rest) rfl (by rw [hb]; exact d0) (Nat.le_refl _) (Nat.le_refl _)
  generalize hT1 : (T.setVm vm₁).pushCell { cls := cX, slots := kX.instanceTypes.map defaultValue, vm := .none } = T1 at X₁ st1
  have hcat : (Value.ref T.heap.size).category = 1 := rfl
  have hcellA : T1.heap[T.heap.size]? = some (freshCell cX kX) := by rw [← hT1]; exact State.heap_pushCell_size _ _
  have d3' : decode c.code (pc + 3) = .ok (.dup, 1) := by rw [hb]; exact d3
  have d4' : decode c.code (pc + 4) = .ok (.ldc is, 2) := by rw [hb]; exact d4
  have hstr' : vk_R own is text sa s' := vk_R.warm hW0 hstr
  obtain ⟨U, hsteps, hrun, hend, hW, hsame, ce, hce, hO⟩ := X₁.ctorThrowS hexec htr (own := own) (cls := cls) (names := names) (ic := ic) hown' hcls hnames h (fun x hx => nomatch hx) hfX hkX hcellA (by rw [hhp, hT]; exact Nat.le_refl _) (msg := .ref sa) rfl
    (g := { method := m, pc := pc + 6, locals := ls, stack := .ref sa :: .ref T.heap.size :: .ref T.heap.size :: rest, locked := none }) rfl hsize rfl rfl (rest := rest) rfl
    (by rw [hb]; exact d6) (by rw [hb]; exact d9) hout hRframes (by simp only [List.map_cons, List.sum_cons, hcat]; omega) hlocks
  obtain ⟨f1, f2⟩ := vx_frame hsame
  rw [hhp] at f1 f2
  have hWs : s.WarmedH U.vm := State.WarmedH.trans hW0 hW
  have hcl : s.vm.findClass cls = some ce.cls := by
    have h9 := hO.cls
    rw [hvm] at h9
    exact h9
  have hall : s.sameButNew ({ U with vm := s.vm } : State) locs mc ms := by
    subst hA
    obtain ⟨e1, e2⟩ := hsame
    rw [State.setFrames_setFrames] at e1
    have h2 : (T.setVm s.vm).sameButNew ({ U with vm := s.vm } : State) [] (0 + 1) (0 + 6) := ⟨e1, e2⟩
    have h3 := X.same.trans h2
    rw [List.append_nil] at h3
    exact h3.mono hc hs
  refine ⟨U, ?_, .threw T.heap.size, hrun, hend, Or.inr ⟨T.heap.size, rfl, cls, ce, locs, hx U hWs.alike f1 (fun q hq => f2 q hq (fun z hz => nomatch hz)), hce, hO.vm, hcl, hWs, hall, hf⟩⟩
  refine st1 _ ?_
  show Steps p.tables e below (T1.setTop { method := m, pc := pc + 3, locals := ls, stack := .ref T.heap.size :: rest, locked := none }) _
  jvm_step X₁.here [X₁.here.top, hexec, d3', Value.category]
  exact X₁.ldcString hexec (own := own) (text := text) (index := is) (a := sa) hown' hstr'.1 hstr'.2
    (g := { method := m, pc := pc + 4, locals := ls, stack := .ref T.heap.size :: .ref T.heap.size :: rest, locked := none }) rfl d4' _ hsteps
/-- 'throw new E("text")', the text by a wide index -/
theorem vx_throwSW {cc : ByteArray} {pc : Nat} (hexec : p.tables.exec = Jvm.exec) (hb : c.code = cc) (hl : l.stackTraces = false) {own cls text : String} {names : List String} {ik is ic mc ms sa : Nat} {A : Nat → Prop}
    (hown : s.vm.findClass own = some m.cls) (hcls : Bundle.fit cls = true) (hnames : ∀ n ∈ names, Bundle.fit n = true)
    (hk : (Cond.classLink own ik cls).before args s = true) (hini : (Cond.initialized cls).before args s = true) (hstr : vk_R own is text sa s) (hat : ∀ w ∈ vx_atS own ic cls names, w.before args s = true)
    (hgood : ∀ w ∈ Cond.classLink own ik cls :: Cond.initialized cls :: vx_atS own ic cls names, vx_ot w = true)
    (hU : vx_Zq Bundle.tN "UNASSIGNED_STACK" Bundle.steD A s s.heap) (hN : vx_Zq Bundle.tN "SUPPRESSED_SENTINEL" Bundle.listD A s s.heap) (hS : va_S A s.heap H locs) (hsize : ls.size = c.maxLocals)
    (d0 : decode cc pc = .ok (.new ik, 3)) (d3 : decode cc (pc + 3) = .ok (.dup, 1)) (d4 : decode cc (pc + 4) = .ok (.ldc_w is, 3)) (d7 : decode cc (pc + 7) = .ok (.invokespecial ic, 3)) (d10 : decode cc (pc + 10) = .ok (.athrow, 1))
    (hout : ∀ x ∈ c.exceptionTable.toList, covers x (pc + 10) = false)
    (hRframes : names.length + 3 < R.frames) (hRlocals : (rest.map fun v => v.category).sum + (13 * (names.length + 1) + 43) ≤ R.locals) (hRcells : cells + 1 ≤ R.cells) (hRslots : slots + 6 ≤ R.slots) (hlocks : meth.locks = false)
    (hx : ∀ t : State, s.vm.Alike t.vm → H.size ≤ t.heap.size → (∀ q : Nat, q < H.size → t.heap[q]? = H[q]?) → XC cls s t)
    (hf : ∀ z ∈ locs, free z.base) (hc : cells + 1 ≤ mc) (hs : slots + 6 ≤ ms) :
    W p l e R s m args below meth c H locs cells slots (vx_MQ below Qc XC args s mc ms free) (F0 m pc ls rest) := by
  intro T hT X
  have htr : e.platform.stackTraces = false := (show e.platform.stackTraces = l.stackTraces by rw [X.admits.platform]).trans hl
  have Y := vx_rebase X (R' := { frames := R.frames, locals := R.locals, cells := 1, slots := 6 }) (Nat.le_refl _) (Nat.le_refl _) hRcells hRslots
  obtain ⟨s', hA⟩ : ∃ z, z = (T.setVm s.vm).setFrames (.invoking m args :: below) := ⟨_, rfl⟩
  rw [← hA] at Y
  have hvm : s'.vm = s.vm := by rw [hA]; rfl
  have hhp : s'.heap = H := by rw [hA]; exact hT
  have hW0 : s.WarmedH s'.vm := by rw [hvm]; exact State.WarmedH.refl s
  have hat' : ∀ w ∈ vx_atS own ic cls names, w.before args s' = true := fun w hw => vx_ot_at hW0 hvm.symm (hgood w (List.mem_cons_of_mem _ (List.mem_cons_of_mem _ hw))) (hat w hw)
  have hk' : (Cond.classLink own ik cls).before args s' = true := vx_ot_at hW0 hvm.symm (hgood _ List.mem_cons_self) hk
  have hini' : (Cond.initialized cls).before args s' = true := vx_ot_at hW0 hvm.symm (hgood _ (List.mem_cons_of_mem _ List.mem_cons_self)) hini
  have hU' : vx_Zq Bundle.tN "UNASSIGNED_STACK" Bundle.steD A s' s'.heap := by rw [hhp]; exact vx_Zq.moved hW0.alike (hU.kept hS.2.1)
  have hN' : vx_Zq Bundle.tN "SUPPRESSED_SENTINEL" Bundle.listD A s' s'.heap := by rw [hhp]; exact vx_Zq.moved hW0.alike (hN.kept hS.2.1)
  have h : ∀ w ∈ Bundle.ownAtoms own ic cls names, w.before args s' = true := vx_own hat' (vx_isRefq hU'.1) (vx_isRefq hN'.1) hU'.2.word hN'.2.word
  have hown' : s'.vm.findClass own = some m.cls := by rw [hvm]; exact hown
  have hins : (Cond.instantiable cls 6).before args s' = true := h _ (by simp [Bundle.ownAtoms])
  obtain ⟨vm₁, cX, kX, hfX, hkX, -, -, X₁, st1⟩ := Y.newCold hexec (own := own) (C := cls) (index := ik) (n := 6) hown' hk' hins hini'
    (g := F0 m pc ls rest) rfl (by rw [hb]; exact d0) (Nat.le_refl _) (Nat.le_refl _)
  generalize hT1 : (T.setVm vm₁).pushCell { cls := cX, slots := kX.instanceTypes.map defaultValue, vm := .none } = T1 at X₁ st1
  have hcat : (Value.ref T.heap.size).category = 1 := rfl
  have hcellA : T1.heap[T.heap.size]? = some (freshCell cX kX) := by rw [← hT1]; exact State.heap_pushCell_size _ _
  have d3' : decode c.code (pc + 3) = .ok (.dup, 1) := by rw [hb]; exact d3
  have d4' : decode c.code (pc + 4) = .ok (.ldc_w is, 3) := by rw [hb]; exact d4
  have hstr' : vk_R own is text sa s' := vk_R.warm hW0 hstr
  obtain ⟨U, hsteps, hrun, hend, hW, hsame, ce, hce, hO⟩ := X₁.ctorThrowS hexec htr (own := own) (cls := cls) (names := names) (ic := ic) hown' hcls hnames h (fun x hx => nomatch hx) hfX hkX hcellA (by rw [hhp, hT]; exact Nat.le_refl _) (msg := .ref sa) rfl
    (g := { method := m, pc := pc + 7, locals := ls, stack := .ref sa :: .ref T.heap.size :: .ref T.heap.size :: rest, locked := none }) rfl hsize rfl rfl (rest := rest) rfl
    (by rw [hb]; exact d7) (by rw [hb]; exact d10) hout hRframes (by simp only [List.map_cons, List.sum_cons, hcat]; omega) hlocks
  obtain ⟨f1, f2⟩ := vx_frame hsame
  rw [hhp] at f1 f2
  have hWs : s.WarmedH U.vm := State.WarmedH.trans hW0 hW
  have hcl : s.vm.findClass cls = some ce.cls := by
    have h9 := hO.cls
    rw [hvm] at h9
    exact h9
  have hall : s.sameButNew ({ U with vm := s.vm } : State) locs mc ms := by
    subst hA
    obtain ⟨e1, e2⟩ := hsame
    rw [State.setFrames_setFrames] at e1
    have h2 : (T.setVm s.vm).sameButNew ({ U with vm := s.vm } : State) [] (0 + 1) (0 + 6) := ⟨e1, e2⟩
    have h3 := X.same.trans h2
    rw [List.append_nil] at h3
    exact h3.mono hc hs
  refine ⟨U, ?_, .threw T.heap.size, hrun, hend, Or.inr ⟨T.heap.size, rfl, cls, ce, locs, hx U hWs.alike f1 (fun q hq => f2 q hq (fun z hz => nomatch hz)), hce, hO.vm, hcl, hWs, hall, hf⟩⟩
  refine st1 _ ?_
  show Steps p.tables e below (T1.setTop { method := m, pc := pc + 3, locals := ls, stack := .ref T.heap.size :: rest, locked := none }) _
  jvm_step X₁.here [X₁.here.top, hexec, d3', Value.category]
  exact X₁.ldcStringW hexec (own := own) (text := text) (index := is) (a := sa) hown' hstr'.1 hstr'.2
    (g := { method := m, pc := pc + 4, locals := ls, stack := .ref T.heap.size :: .ref T.heap.size :: rest, locked := none }) rfl d4' _ hsteps
end Ends
section Bodies
variable {l : Launch}
theorem vx_ofW {y : MethodName} {ws ws' : List Cond} {rm : Room} {Pc : Array Value → State → Prop} {Qc : Array Value → State → Outcome → State → Prop} {XC : String → State → State → Prop} {mc ms : Nat} {free : Addr → Prop} {cc : ByteArray} {maxL : Nat} {ret : Option FieldType}
    (hy : plainName y.cls = true) (hw : ws = Cond.code y cc maxL ret :: ws')
    (body : ∀ p e s m args below meth c s₁, BodyLoose p l y (headSpec ws rm) cc maxL ret e s m args below meth c s₁ → c.maxLocals = maxL → (∀ x ∈ c.exceptionTable.toList, False) → Pc args s →
      W p l e (headSpec ws rm).room s m args below meth c s.heap [] 0 0 (vx_MQ below Qc XC args s mc ms free) (entryFrame m args maxL)) : vx_Met l y ws rm Pc Qc XC mc ms free := by
  refine MetFree.of_bodyS (code := cc) (maxLocals := maxL) (ret := ret) hy ?_ ?_
  · intro args s m h hn
    obtain ⟨meth, c, h1, h2, h3, h4, h5, h6, -, -⟩ := Cond.code_spec hn (atoms_spec (ws := ws) h _ (by rw [hw]; exact List.mem_cons_self))
    exact ⟨meth, c, h1, h2, h3, h4, h5, h6⟩
  · intro p e s m args below meth c s₁ B hml hP _
    have hh0 : s₁.heap = s.heap := by rw [B.state]; rfl
    have ht : ∀ x ∈ c.exceptionTable.toList, False := by
      obtain ⟨meth9, c9, h1, h2, -, -, -, -, h7, -⟩ := Cond.code_spec B.named (atoms_spec (ws := ws) B.pre _ (by rw [hw]; exact List.mem_cons_self))
      cases Option.some.inj (h1.symm.trans B.method)
      cases Option.some.inj (h2.symm.trans (Stand.of_body B).code)
      intro x hx
      rw [Array.isEmpty_iff.mp h7] at hx
      cases hx
    obtain ⟨t, a1, o, b1, b2, b3⟩ := body p e s m args below meth c s₁ B hml ht hP s₁ hh0 (Stand.of_body B)
    exact ⟨t, o, a1, b1, b2, b3⟩
/-- the table of a body with handlers -/
theorem vx_table {p : Program} {x y : MethodName} {S : Spec} {cc bytes : ByteArray} {maxL maxL' : Nat} {ret ret' : Option FieldType} {e : Env} {s s₁ : State} {m : MethodId} {args : Array Value} {below : List Frame} {meth : Method} {c : Code} {hh : List (Nat × Nat × Nat × Nat)}
    (B : BodyLoose p l y S cc maxL ret e s m args below meth c s₁) (h : (Cond.codeWith y bytes maxL' ret' hh).before args s = true) : c.exceptionTable.toList = tableOf hh := by
  obtain ⟨m9, meth9, c9, hn9, h1, h2, -, -, h6, -⟩ := Cond.codeWith_spec h
  cases Option.some.inj (hn9.symm.trans B.named)
  cases Option.some.inj (h1.symm.trans B.method)
  cases Option.some.inj (h2.symm.trans (Stand.of_body B).code)
  rw [← h6, table_eq]
end Bodies
end VXA
/-! ===== END ===== -/
/-! ===== BEGIN a static call of a method with an exception table ===== -/
section VXS
variable {p : Program} {l : Launch} {e : Env} {R : Room} {s : State} {m : MethodId} {args : Array Value} {below : List Frame} {meth : Method} {c : Code} {T : State} {H : Heap} {locs : List Loc} {cells slots : Nat}
abbrev vx_CSW (R : Room) (s : State) (args : Array Value) (own : String) (index : Nat) (y : MethodName) (bytes : ByteArray) (maxL : Nat) (ret : Option FieldType) (hh : List (Nat × Nat × Nat × Nat)) (ws : List Cond) (rm : Room) (mc ms n : Nat) : Prop :=
  (rm.cells = mc ∧ rm.slots = ms ∧ rm.frames + 1 ≤ R.frames ∧ 8 + (maxL + 11) + rm.locals ≤ R.locals ∧ (∀ w ∈ ws, ∀ (a' : Array Value) (U : State), s.WarmedH U.vm → w.before a' U = true) ∧ Cond.codeWith y bytes maxL ret hh ∈ ws) ∧
  (Cond.codeWith y bytes maxL ret hh).before args s = true ∧ (Cond.initialized y.cls).before args s = true ∧ (y.cls ≠ "java/lang/invoke/MethodHandle" ∧ y.cls ≠ "java/lang/invoke/VarHandle") ∧
  (∀ sig, parseMethodDescriptor y.desc = some sig → n = sig.parameters.length) ∧ (Cond.methodLink own index y).before args s = true ∧ (Cond.static y).before args s = true
theorem vx_cwSW {own : String} {index maxL mc ms : Nat} {y : MethodName} {bytes : ByteArray} {ret : Option FieldType} {hh : List (Nat × Nat × Nat × Nat)} {Ts ws ws' : List Cond} {rm : Room} (n : Nat) (ht : ∀ w ∈ Ts, w.before args s = true) (hT : GoodIn Ts (va_wsS own index y ws)) (hw : ws = Cond.codeWith y bytes maxL ret hh :: ws') (hrc : rm.cells = mc) (hrs : rm.slots = ms)
    (hd : y.cls ≠ "java/lang/invoke/MethodHandle" ∧ y.cls ≠ "java/lang/invoke/VarHandle" ∧ (parseMethodDescriptor y.desc).map (fun d => d.parameters.length) = some n) (hR : rm.frames + 1 ≤ R.frames ∧ 8 + (maxL + 11) + rm.locals ≤ R.locals) :
    vx_CSW R s args own index y bytes maxL ret hh ws rm mc ms n := by
  have ok : ∀ w ∈ va_wsS own index y ws, w.before args s = true := fun w h => ht w (hT w h).1
  have hG : GoodIn Ts ws := fun w h => hT w (by unfold va_wsS; exact List.mem_append_right _ h)
  have hc : Cond.codeWith y bytes maxL ret hh ∈ ws := by rw [hw]; exact List.mem_cons_self
  refine ⟨⟨hrc, hrs, hR.1, hR.2, pay_in ht hG, hc⟩, ht _ (hG _ hc).1, ok _ (by simp [va_wsS]), ⟨hd.1, hd.2.1⟩, fun sig h => ?_, ok _ (by simp [va_wsS]), ok _ (by simp [va_wsS])⟩
  have h2 := hd.2.2
  rw [h] at h2
  exact (Option.some.inj h2).symm
theorem vx_callSW (X : Stand p l e R s m args below meth c T locs cells slots) (hexec : p.tables.exec = Jvm.exec) {own : String} {index : Nat} {y : MethodName} {bytes : ByteArray} {maxL : Nat} {ret : Option FieldType} {hh : List (Nat × Nat × Nat × Nat)}
    (hown : s.vm.findClass own = some m.cls) (hlink : (Cond.methodLink own index y).before args s = true) (hstat : (Cond.static y).before args s = true) (hinit : (Cond.initialized y.cls).before args s = true)
    (hcode : (Cond.codeWith y bytes maxL ret hh).before args s = true) (hy : y.cls ≠ "java/lang/invoke/MethodHandle" ∧ y.cls ≠ "java/lang/invoke/VarHandle")
    {W9 : Nat} {Pre : Pt → Array Value → Prop} {Post : Pt → Array Value → Option Value → Pt → Prop} (hK : Back l R p e below s args y 3 W9 Pre Post)
    {g : JFrame} (hg : g.method = m) (hsize : g.locals.size = c.maxLocals) {argsL rest : List Value} (hlen : ∀ sig, parseMethodDescriptor y.desc = some sig → argsL.length = sig.parameters.length)
    (hstack : g.stack = argsL.reverse ++ rest) (hW : 2 * g.monitorRoom + (rest.map fun v => v.category).sum ≤ W9) (hdg : decode c.code g.pc = .ok (.invokestatic index, 3))
    (hpre : ∀ vm₁, s.WarmedH vm₁ → Pre ⟨T.setVm vm₁, locs, cells, slots⟩ argsL.toArray) :
    ∃ (v : Option Value) (vm₁ : Vm) (B : Pt), s.WarmedH vm₁ ∧ Stand p l e R s m args below meth c B.U B.locs B.cells B.slots ∧ Post ⟨T.setVm vm₁, locs, cells, slots⟩ argsL.toArray v B ∧
      ∀ target, Steps p.tables e below (B.U.setTop { g with pc := g.pc + 3, stack := v.toList ++ rest }) target → Steps p.tables e below (T.setTop g) target := by
  obtain ⟨mk, methM, cM, hnamed, hmethM, -, -, -, -, -, -, hsigM⟩ := Cond.codeWith_spec hcode
  have hstatic : methM.isStatic = true := Cond.static_spec hnamed hmethM hstat
  obtain ⟨kP, hkP, -⟩ := className_of_methodNamed hnamed
  have hinitP : kP.init = .initialized := Cond.initialized_spec (findClass_of_methodNamed hnamed) hkP hinit
  obtain ⟨vm₁, X₁, hstep₁⟩ := X.invokestatic hexec hown hlink hnamed hmethM hstatic hkP hinitP hy (g := g) hg (argsL := argsL) (rest := rest) (hlen _ hsigM) hstack hdg
  obtain ⟨v, B, X', hpost, hsteps⟩ := hK m meth c ⟨T.setVm vm₁, locs, cells, slots⟩ { g with stack := rest } (.invokestatic index) mk argsL.toArray X₁ hg hsize hdg hW (X₁.named hnamed) (hpre vm₁ X₁.warmed)
  exact ⟨v, vm₁, B, X₁.warmed, X', hpost, fun target h => hstep₁ _ fun acts => by rw [doInvoke_state]; exact hsteps.trans h⟩
theorem vx_runSW {y : MethodName} {bytes cc : ByteArray} {maxL nL mc ms n index : Nat} {ret : Option FieldType} {hh : List (Nat × Nat × Nat × Nat)} {ws : List Cond} {rm : Room} {Pc : Array Value → State → Prop} {Qc : Array Value → State → Outcome → State → Prop} {free : Addr → Prop} {Ts : List Cond} {own : String} {As rest : List Value} {g : JFrame}
    (S : CallFix p m c cc nL s args Ts own) (hM : Met l y ws rm Pc Qc mc ms free) (cw : vx_CSW R s args own index y bytes maxL ret hh ws rm mc ms n) (hp : PreS s H Pc As)
    (hg : g.method = m) (hn : As.length = n) (hsize : g.locals.size = nL) (hstack : g.stack = As.reverse ++ rest) (hW : 2 * g.monitorRoom + (rest.map fun v => v.category).sum ≤ 8) (hdg : decode cc g.pc = .ok (.invokestatic index, 3)) (hf : cells + mc ≤ R.cells ∧ slots + ms ≤ R.slots) :
    va_Run p l e R s m args below meth c H locs cells slots mc ms g rest (Qc As.toArray) (free) := by
  obtain ⟨⟨hrc, hrs, hfr, hlo, hws, hcw⟩, hcode, hini, hy, hlen, hl, hstt⟩ := cw
  have hK : Back l R p e below s args y 3 8 (PreOf R mc ms Pc) (PostOf Qc mc ms free) := va_backW (hh := hh) (bytes := bytes) (maxL := maxL) (ret := ret) hM hp.1 hrc hrs hfr hlo hws hcw (fun a' U hW => word_at hW (Or.inl (by first | rfl | simp [Cond.onTables, Cond.keeps, Cond.steady])) hini)
  obtain ⟨hx, hb, hml, ho, -⟩ := S
  intro T hT X
  obtain ⟨v, vm₁, ⟨U', l2, c2, s2⟩, hW₁, X', ⟨g', mk, t, L, e1, e2, hq, h1, hL, h2, h3⟩, st⟩ := vx_callSW X hx (hh := hh) (bytes := bytes) (maxL := maxL) (ret := ret) ho hl hstt hini hcode hy hK hg (hsize.trans hml.symm) (argsL := As) (rest := rest) (fun sig h => hn.trans (hlen sig h)) hstack hW (by rw [hb]; exact hdg)
    (fun vm₁ hW₁ => ⟨hf.1, hf.2, hp.2 (T.setVm vm₁) hT hW₁⟩)
  dsimp only [Pt.U, Pt.locs, Pt.cells, Pt.slots] at X' e1 e2 h1 h2 h3 st
  subst h1; subst h2; subst h3
  exact ⟨v, (T.setVm vm₁).calling g' mk As.toArray, t, U', L, hT, X', hL, e1, e2, hq, st⟩
/-- not caught here, past rows that name other classes: it goes on to the caller -/
theorem vx_outP {p : Program} {l : Launch} {e : Env} {R : Room} {s : State} {m : MethodId} {args : Array Value} {below : List Frame} {meth : Method} {c : Code} {H : Heap} {locs : List Loc} {cells slots : Nat} {free : Addr → Prop} {ls : Array Slot} {rest : List Value} {Qc : Array Value → State → Outcome → State → Prop} {XC : String → State → State → Prop}
    {pc : Nat} {own E : String} {ce : Cell} {q : Addr} {mc ms : Nat} (hown : s.vm.findClass own = some m.cls) (hlocks : meth.locks = false)
    (hpass : ∀ z ∈ c.exceptionTable.toList, covers z pc = false ∨ (z.catchType ≠ 0 ∧ ∃ nm : String, (Cond.classLink own z.catchType nm).before args s = true ∧ va_Nc E nm s)) (hcell : H[q]? = some ce) (hv : ce.vm = .none) (hcl : s.vm.findClass E = some ce.cls)
    (hx : ∀ t : State, t.heap = H → s.vm.Alike t.vm → XC E s t) (hf : ∀ z ∈ locs, free z.base) (hc : cells ≤ mc) (hs : slots ≤ ms) :
    vx_W p l e R s m args below meth c H locs cells slots (vx_MQ below Qc XC args s mc ms free) (F0 m pc ls rest) q := by
  intro T hT X
  have hpl : e.platform.magicAccessors = ({} : Platform).magicAccessors := by rw [X.admits.platform]
  obtain ⟨vm', hW', X', st⟩ := Jvm.Stand.outThrough X hlocks q (g := F0 m pc ls rest) rfl rfl rfl (cell := ce) (by rw [hT]; exact hcell) (by rw [hv]; rfl)
    (by obtain ⟨k9, h9, -⟩ := Vm.findClass_spec hcl; exact ⟨k9, h9⟩) (fun z hz => by
      rcases hpass z hz with h | ⟨hz0, nm, hl1, hn1⟩
      · exact Or.inl h
      · obtain ⟨c6, hc6, hcl6⟩ := Cond.classLink_spec hown hl1 e.platform hpl
        obtain ⟨a8, b8, h1, h2, h3⟩ := hn1
        cases Option.some.inj (h1.symm.trans hcl)
        cases Option.some.inj (h2.symm.trans hc6)
        exact Or.inr ⟨hz0, _, hcl6, h3⟩)
  obtain ⟨g₀, hfr⟩ := X'.frames_eq
  have hcell9 : ((T.setVm vm').setFrames (.throwing q :: below)).heap[q]? = some ce := by
    show T.heap[q]? = some ce
    rw [hT]; exact hcell
  have hend : Ended ((T.setVm vm').setFrames (.throwing q :: below)) below (.threw q) := State.frames_setFrames _ (State.cur_lt_of_frames hfr)
  refine ⟨(T.setVm vm').setFrames (.throwing q :: below), ?_, .threw q, X'.here.running, hend, Or.inr ⟨q, rfl, E, ce, locs, hx _ hT (X'.ends _).1.alike, hcell9, hv, hcl, (X'.ends _).1, (X'.ends _).2.mono hc hs, hf⟩⟩
  rw [X.pushThrowing_eq]
  exact st
/-- a thing of a world lies in the heap -/
theorem vx_lt {D : va_G} {cl : List vw_C} {ws : va_W} {H1 : Heap} (h : va_P D cl ws H1) {k : Nat} {q : Nat × va_E} (hk : ws[k]? = some q) : q.1 < H1.size := (h k q hk).lt
end VXS
/-! ===== END ===== -/
/-! ===== BEGIN methods with a table of their own: called by a name, returning or throwing ===== -/
section VXH
/-! vx_backW, vx_callVX, vx_callSX, vx_callVW, vx_runVW, vx_runVX, vx_runSX, vx_ofWH follow the same proofs as their sisters above (Free/Laws.lean, Shelf42/LK1.lean); vx_outP calls Shelf42/NT130.lean (outThrough). -/
section
variable {l : Launch} {R : Room} {p : Program} {e : Env} {below : List Frame} {s : State} {sargs : Array Value} {y : MethodName} {len W9 : Nat}
theorem vx_backW {ws : List Cond} {rm : Room} {Pc : Array Value → State → Prop} {Qc : Array Value → State → Outcome → State → Prop} {XC : String → State → State → Prop} {mc ms : Nat} {free : Addr → Prop} {bytes : ByteArray} {maxL : Nat} {ret : Option FieldType} {hh : List (Nat × Nat × Nat × Nat)}
    (hM : vx_Met l y ws rm Pc Qc XC mc ms free) (hblind : FrameBlind Pc) (hrc : rm.cells = mc) (hrs : rm.slots = ms)
    (hframes : rm.frames + 1 ≤ R.frames) (hlocals : W9 + (maxL + 11) + rm.locals ≤ R.locals)
    (hws : ∀ w ∈ ws, ∀ a' U, s.WarmedH U.vm → w.before a' U = true) (hcode : Cond.codeWith y bytes maxL ret hh ∈ ws) (hinit : ∀ a' U, s.WarmedH U.vm → (Cond.initialized y.cls).before a' U = true) :
    vx_Back l R p e below s sargs y len W9 (PreOf R mc ms Pc) (PostOf Qc mc ms free) (vx_Post XC mc ms free) := by
  intro m meth c A g ig mk a X hg hsize hdg hW hn hp
  have h1 : (headSpec ws rm).pre.before a A.U = true := atoms_intro fun w hw => hws w hw _ _ X.warmed
  have h2 : (Cond.codeWith y bytes maxL ret hh).before a A.U = true := hws _ hcode _ _ X.warmed
  have h3 : (Cond.initialized y.cls).before a A.U = true := hinit _ _ X.warmed
  have h4 : A.cells + (headSpec ws rm).room.cells ≤ R.cells := by rw [show (headSpec ws rm).room.cells = mc from hrc]; exact hp.1
  have h5 : A.slots + (headSpec ws rm).room.slots ≤ R.slots := by rw [show (headSpec ws rm).room.slots = ms from hrs]; exact hp.2.1
  have hPc : Pc a (A.U.calling g mk a) := hblind _ _ _ _ hp.2.2
  obtain ⟨U, Ls, c0, s0⟩ := A
  dsimp only [Pt.U, Pt.locs, Pt.cells, Pt.slots] at h1 h2 h3 h4 h5 X hn hPc ⊢
  obtain ⟨m9, methY, cY, hn9, hmY, hcY, -, hlY, -⟩ := Cond.codeWith_spec h2
  cases Option.some.inj (hn9.symm.trans hn)
  obtain ⟨kY, hkY, -⟩ := className_of_methodNamed hn
  have hinitY : kY.init = .initialized := Cond.initialized_spec (findClass_of_methodNamed hn) hkY h3
  have h : At U g.method c below := by rw [hg]; exact X.here
  have hlocals9 : W9 + (maxL + 11) + (headSpec ws rm).room.locals ≤ R.locals := hlocals
  have happ : (headSpec ws rm).appliesLoose y e.platform (U.calling g mk a) = true :=
    Spec.appliesLoose_calling (g := g) h hdg hn hkY hinitY
      (X.room_calling (g := g) (R' := (headSpec ws rm).room) hsize hmY hcY hframes (by rw [hlY]; omega) h4 h5) h1
  obtain ⟨mid, hmid⟩ := h.above
  have hfr : (U.setTop g).frames = (.java g :: mid) ++ below := by rw [State.frames_setTop' g h.top, hmid]; rfl
  obtain ⟨o, s₂, hsteps, -, hend, hq⟩ := Steps.callFree hM p X.admits X.cas X.clock (acts := []) hfr happ hPc trivial
  have hq' : vx_Q Qc XC mc ms free a (U.calling g mk a) o s₂ := hq
  rw [State.frames_setTop' g h.top] at hend
  obtain ⟨g₀, hg0⟩ := Option.isSome_iff_exists.mp h.top
  obtain ⟨r, hr⟩ := State.topJava?_eq_some.mp hg0
  have hr' : (({ U with heap := s₂.heap, slotsUsed := s₂.slotsUsed } : State).setVm s₂.vm).frames = .java g₀ :: r := hr
  rcases hq' with ⟨hqc, L, hfe, hL⟩ | ⟨q, rfl, E, ce, L, hx, hce, hcv, hcl, hW₂, hsm, hL⟩
  · obtain ⟨⟨v, rfl⟩, hW₂, e2, q2, q3, q4, q5, q6⟩ := id hfe
    have e3 : s₂ = ({ (U.calling g mk a).setFrames s₂.frames with heap := s₂.heap, slotsUsed := s₂.slotsUsed } : State).setVm s₂.vm := by
      have : s₂ = ({ s₂ with vm := (U.calling g mk a).vm } : State).setVm s₂.vm := rfl
      rw [e2] at this
      exact this
    obtain ⟨c₂, i₂, len₂, hc₂, hd₂, hf₂⟩ := hend
    have hW' : U.WarmedH s₂.vm := hW₂
    have hcc : c₂ = c := by
      have h1 : s₂.code? g.method = U.code? g.method := by
        rw [State.code?_eq, State.code?_eq, hW'.alike.method?]
      exact Option.some.inj (hc₂.symm.trans (h1.trans h.code))
    subst hcc
    have hlen : len₂ = len := by rw [hdg] at hd₂; cases hd₂; rfl
    subst hlen
    have hs₂ : s₂ = (({ U with heap := s₂.heap, slotsUsed := s₂.slotsUsed } : State).setVm s₂.vm).setTop { g with pc := g.pc + len₂, stack := v.toList ++ g.stack } := by
      refine e3.trans ?_
      rw [hf₂, State.calling_eq h.top, State.setFrames_setFrames, State.setTop_of_frames _ hr', hr]
      rfl
    have hsame : U.sameButNew ({ U with heap := s₂.heap, slotsUsed := s₂.slotsUsed } : State) L mc ms := by
      refine ⟨?_, q2, q3, q4, q5, q6⟩
      obtain ⟨t, ht, -⟩ := State.frames_cons hr
      show ({ U with heap := s₂.heap, slotsUsed := s₂.slotsUsed } : State) = { U.setFrames U.frames with heap := s₂.heap, slotsUsed := s₂.slotsUsed }
      rw [State.setFrames_self ht]
    subst hg
    refine Or.inl ⟨v, ⟨(({ U with heap := s₂.heap, slotsUsed := s₂.slotsUsed } : State).setVm s₂.vm), Ls ++ L, c0 + mc, s0 + ms⟩,
      ⟨X.admits, X.cas, X.clock, X.frames, X.room, X.hears, X.method, X.code, (X.here.setHeapUsed s₂.heap s₂.slotsUsed).setVm hW'.alike, X.tail, State.WarmedH.trans X.warmed hW', X.limits, X.bytes, X.same.trans (hsame.setVm s.vm)⟩,
      ⟨g, mk, s₂, L, rfl, rfl, hqc, rfl, hL, rfl, rfl⟩, ?_⟩
    show Steps p.tables e below _ ((({ U with heap := s₂.heap, slotsUsed := s₂.slotsUsed } : State).setVm s₂.vm).setTop { g with pc := g.pc + len₂, stack := v.toList ++ g.stack })
    rw [← hs₂]
    exact hsteps
  · obtain ⟨e2, q2, q3, q4, q5, q6⟩ := id hsm
    have e3 : s₂ = ({ (U.calling g mk a).setFrames s₂.frames with heap := s₂.heap, slotsUsed := s₂.slotsUsed } : State).setVm s₂.vm := by
      have : s₂ = ({ s₂ with vm := (U.calling g mk a).vm } : State).setVm s₂.vm := rfl
      rw [e2] at this
      exact this
    have hf₂ : s₂.frames = .throwing q :: .java g :: U.frames.tail := hend
    have hW' : U.WarmedH s₂.vm := hW₂
    have hs₂ : s₂ = ((({ U with heap := s₂.heap, slotsUsed := s₂.slotsUsed } : State).setVm s₂.vm).setTop g).pushFrame (.throwing q) := by
      refine e3.trans ?_
      rw [hf₂, State.calling_eq h.top, State.setFrames_setFrames, State.pushFrame, State.frames_setTop _ hr', State.setTop_of_frames _ hr', State.setFrames_setFrames, hr]
      rfl
    have hsame : U.sameButNew ({ U with heap := s₂.heap, slotsUsed := s₂.slotsUsed } : State) L mc ms := by
      refine ⟨?_, q2, q3, q4, q5, q6⟩
      obtain ⟨t, ht, -⟩ := State.frames_cons hr
      show ({ U with heap := s₂.heap, slotsUsed := s₂.slotsUsed } : State) = { U.setFrames U.frames with heap := s₂.heap, slotsUsed := s₂.slotsUsed }
      rw [State.setFrames_self ht]
    subst hg
    refine Or.inr ⟨q, ⟨(({ U with heap := s₂.heap, slotsUsed := s₂.slotsUsed } : State).setVm s₂.vm), Ls ++ L, c0 + mc, s0 + ms⟩,
      ⟨X.admits, X.cas, X.clock, X.frames, X.room, X.hears, X.method, X.code, (X.here.setHeapUsed s₂.heap s₂.slotsUsed).setVm hW'.alike, X.tail, State.WarmedH.trans X.warmed hW', X.limits, X.bytes, X.same.trans (hsame.setVm s.vm)⟩,
      ⟨g, mk, s₂, L, E, ce, rfl, rfl, hx, hce, hcv, hcl, rfl, hL, rfl, rfl⟩, ?_⟩
    show Steps p.tables e below _ (((({ U with heap := s₂.heap, slotsUsed := s₂.slotsUsed } : State).setVm s₂.vm).setTop g).pushFrame (.throwing q))
    rw [← hs₂]
    exact hsteps
end
variable {p : Program} {l : Launch} {e : Env} {R : Room} {s : State} {m : MethodId} {args : Array Value} {below : List Frame} {meth : Method} {c : Code} {T : State} {H : Heap} {locs : List Loc} {cells slots : Nat}
theorem vx_callVX (X : Stand p l e R s m args below meth c T locs cells slots) (hexec : p.tables.exec = Jvm.exec) {own C : String} {index : Nat} {y : MethodName} {bytes : ByteArray} {maxL : Nat} {ret : Option FieldType} {hh : List (Nat × Nat × Nat × Nat)}
    (hown : s.vm.findClass own = some m.cls) (hlink : (Cond.methodLink own index y).before args s = true) (hinst : (Cond.instanceMethod y).before args s = true) (hsel : (Cond.selects C y y).before args s = true)
    (hcode : (Cond.codeWith y bytes maxL ret hh).before args s = true) (hy : y.cls ≠ "java/lang/invoke/MethodHandle" ∧ y.cls ≠ "java/lang/invoke/VarHandle")
    {W9 : Nat} {Pre : Pt → Array Value → Prop} {Post : Pt → Array Value → Option Value → Pt → Prop} {PostX : Pt → Array Value → Addr → Pt → Prop} (hK : vx_Back l R p e below s args y 3 W9 Pre Post PostX)
    {b : Addr} {cellB : Cell} (hcell : T.heap[b]? = some cellB) (hobj : cellB.vm.isStatics = false) (hcls : s.vm.findClass C = some cellB.cls)
    {g : JFrame} (hg : g.method = m) (hsize : g.locals.size = c.maxLocals) {argsL rest : List Value} (hlen : ∀ sig, parseMethodDescriptor y.desc = some sig → argsL.length = sig.parameters.length)
    (hstack : g.stack = argsL.reverse ++ .ref b :: rest) (hW : 2 * g.monitorRoom + (rest.map fun v => v.category).sum ≤ W9) (hdg : decode c.code g.pc = .ok (.invokevirtual index, 3))
    (hpre : ∀ vm₁, s.WarmedH vm₁ → Pre ⟨T.setVm vm₁, locs, cells, slots⟩ (Value.ref b :: argsL).toArray) :
    (∃ (v : Option Value) (vm₁ : Vm) (B : Pt), s.WarmedH vm₁ ∧ Stand p l e R s m args below meth c B.U B.locs B.cells B.slots ∧ Post ⟨T.setVm vm₁, locs, cells, slots⟩ (Value.ref b :: argsL).toArray v B ∧
      ∀ target, Steps p.tables e below (B.U.setTop { g with pc := g.pc + 3, stack := v.toList ++ rest }) target → Steps p.tables e below (T.setTop g) target) ∨
    (∃ (q : Addr) (vm₁ : Vm) (B : Pt), s.WarmedH vm₁ ∧ Stand p l e R s m args below meth c B.U B.locs B.cells B.slots ∧ PostX ⟨T.setVm vm₁, locs, cells, slots⟩ (Value.ref b :: argsL).toArray q B ∧
      Steps p.tables e below (T.setTop g) ((B.U.setTop { g with stack := rest }).pushFrame (.throwing q))) := by
  obtain ⟨mk, methM, hnamed, hmethM, hstM, habM⟩ := Cond.instanceMethod_spec hinst
  obtain ⟨m8, methM', cM, hn8, hmethM', -, -, -, -, -, -, hsigM⟩ := Cond.codeWith_spec hcode
  cases Option.some.inj (hn8.symm.trans hnamed)
  cases hmethM.symm.trans hmethM'
  obtain ⟨c2, r2, m2, q1, q2, q3, q4, kP, hkP, hkPi⟩ := Cond.selects_spec hsel
  cases hcls.symm.trans q1
  cases (State.methodFound?_of_named hnamed hy).symm.trans q2
  cases hnamed.symm.trans q3
  have hselP : selectMethod e.platform s.vm cellB.cls mk = .method mk := by rw [Launch.admits_selectMethod X.admits]; exact q4
  obtain ⟨vm₁, X₁, hstep₁⟩ := X.invokevirtual hexec hown hlink hnamed hmethM hstM hkP hkPi hy (a := b) (cell := cellB) hcell
    (fun z h => by rw [h] at hobj; cases hobj) hselP hmethM habM hkP hkPi (g := g) hg (argsL := argsL) (rest := rest) (hlen _ hsigM) hstack hdg
  rcases hK m meth c ⟨T.setVm vm₁, locs, cells, slots⟩ { g with stack := rest } (.invokevirtual index) mk (Value.ref b :: argsL).toArray X₁ hg hsize hdg hW (X₁.named hnamed) (hpre vm₁ X₁.warmed) with ⟨v, B, X', hpost, hsteps⟩ | ⟨q, B, X', hpost, hsteps⟩
  · exact Or.inl ⟨v, vm₁, B, X₁.warmed, X', hpost, fun target h => hstep₁ _ fun acts => by rw [doInvoke_state]; exact hsteps.trans h⟩
  · exact Or.inr ⟨q, vm₁, B, X₁.warmed, X', hpost, hstep₁ _ fun acts => by rw [doInvoke_state]; exact hsteps⟩
theorem vx_callSX (X : Stand p l e R s m args below meth c T locs cells slots) (hexec : p.tables.exec = Jvm.exec) {own : String} {index : Nat} {y : MethodName} {bytes : ByteArray} {maxL : Nat} {ret : Option FieldType} {hh : List (Nat × Nat × Nat × Nat)}
    (hown : s.vm.findClass own = some m.cls) (hlink : (Cond.methodLink own index y).before args s = true) (hstat : (Cond.static y).before args s = true) (hinit : (Cond.initialized y.cls).before args s = true)
    (hcode : (Cond.codeWith y bytes maxL ret hh).before args s = true) (hy : y.cls ≠ "java/lang/invoke/MethodHandle" ∧ y.cls ≠ "java/lang/invoke/VarHandle")
    {W9 : Nat} {Pre : Pt → Array Value → Prop} {Post : Pt → Array Value → Option Value → Pt → Prop} {PostX : Pt → Array Value → Addr → Pt → Prop} (hK : vx_Back l R p e below s args y 3 W9 Pre Post PostX)
    {g : JFrame} (hg : g.method = m) (hsize : g.locals.size = c.maxLocals) {argsL rest : List Value} (hlen : ∀ sig, parseMethodDescriptor y.desc = some sig → argsL.length = sig.parameters.length)
    (hstack : g.stack = argsL.reverse ++ rest) (hW : 2 * g.monitorRoom + (rest.map fun v => v.category).sum ≤ W9) (hdg : decode c.code g.pc = .ok (.invokestatic index, 3))
    (hpre : ∀ vm₁, s.WarmedH vm₁ → Pre ⟨T.setVm vm₁, locs, cells, slots⟩ argsL.toArray) :
    (∃ (v : Option Value) (vm₁ : Vm) (B : Pt), s.WarmedH vm₁ ∧ Stand p l e R s m args below meth c B.U B.locs B.cells B.slots ∧ Post ⟨T.setVm vm₁, locs, cells, slots⟩ argsL.toArray v B ∧
      ∀ target, Steps p.tables e below (B.U.setTop { g with pc := g.pc + 3, stack := v.toList ++ rest }) target → Steps p.tables e below (T.setTop g) target) ∨
    (∃ (q : Addr) (vm₁ : Vm) (B : Pt), s.WarmedH vm₁ ∧ Stand p l e R s m args below meth c B.U B.locs B.cells B.slots ∧ PostX ⟨T.setVm vm₁, locs, cells, slots⟩ argsL.toArray q B ∧
      Steps p.tables e below (T.setTop g) ((B.U.setTop { g with stack := rest }).pushFrame (.throwing q))) := by
  obtain ⟨mk, methM, cM, hnamed, hmethM, -, -, -, -, -, -, hsigM⟩ := Cond.codeWith_spec hcode
  have hstatic : methM.isStatic = true := Cond.static_spec hnamed hmethM hstat
  obtain ⟨kP, hkP, -⟩ := className_of_methodNamed hnamed
  have hinitP : kP.init = .initialized := Cond.initialized_spec (findClass_of_methodNamed hnamed) hkP hinit
  obtain ⟨vm₁, X₁, hstep₁⟩ := X.invokestatic hexec hown hlink hnamed hmethM hstatic hkP hinitP hy (g := g) hg (argsL := argsL) (rest := rest) (hlen _ hsigM) hstack hdg
  rcases hK m meth c ⟨T.setVm vm₁, locs, cells, slots⟩ { g with stack := rest } (.invokestatic index) mk argsL.toArray X₁ hg hsize hdg hW (X₁.named hnamed) (hpre vm₁ X₁.warmed) with ⟨v, B, X', hpost, hsteps⟩ | ⟨q, B, X', hpost, hsteps⟩
  · exact Or.inl ⟨v, vm₁, B, X₁.warmed, X', hpost, fun target h => hstep₁ _ fun acts => by rw [doInvoke_state]; exact hsteps.trans h⟩
  · exact Or.inr ⟨q, vm₁, B, X₁.warmed, X', hpost, hstep₁ _ fun acts => by rw [doInvoke_state]; exact hsteps⟩
theorem vx_callVW (X : Stand p l e R s m args below meth c T locs cells slots) (hexec : p.tables.exec = Jvm.exec) {own C : String} {index : Nat} {y : MethodName} {bytes : ByteArray} {maxL : Nat} {ret : Option FieldType} {hh : List (Nat × Nat × Nat × Nat)}
    (hown : s.vm.findClass own = some m.cls) (hlink : (Cond.methodLink own index y).before args s = true) (hinst : (Cond.instanceMethod y).before args s = true) (hsel : (Cond.selects C y y).before args s = true)
    (hcode : (Cond.codeWith y bytes maxL ret hh).before args s = true) (hy : y.cls ≠ "java/lang/invoke/MethodHandle" ∧ y.cls ≠ "java/lang/invoke/VarHandle")
    {W9 : Nat} {Pre : Pt → Array Value → Prop} {Post : Pt → Array Value → Option Value → Pt → Prop} (hK : Back l R p e below s args y 3 W9 Pre Post)
    {b : Addr} {cellB : Cell} (hcell : T.heap[b]? = some cellB) (hobj : cellB.vm.isStatics = false) (hcls : s.vm.findClass C = some cellB.cls)
    {g : JFrame} (hg : g.method = m) (hsize : g.locals.size = c.maxLocals) {argsL rest : List Value} (hlen : ∀ sig, parseMethodDescriptor y.desc = some sig → argsL.length = sig.parameters.length)
    (hstack : g.stack = argsL.reverse ++ .ref b :: rest) (hW : 2 * g.monitorRoom + (rest.map fun v => v.category).sum ≤ W9) (hdg : decode c.code g.pc = .ok (.invokevirtual index, 3))
    (hpre : ∀ vm₁, s.WarmedH vm₁ → Pre ⟨T.setVm vm₁, locs, cells, slots⟩ (Value.ref b :: argsL).toArray) :
    ∃ (v : Option Value) (vm₁ : Vm) (B : Pt), s.WarmedH vm₁ ∧ Stand p l e R s m args below meth c B.U B.locs B.cells B.slots ∧ Post ⟨T.setVm vm₁, locs, cells, slots⟩ (Value.ref b :: argsL).toArray v B ∧
      ∀ target, Steps p.tables e below (B.U.setTop { g with pc := g.pc + 3, stack := v.toList ++ rest }) target → Steps p.tables e below (T.setTop g) target := by
  obtain ⟨mk, methM, hnamed, hmethM, hstM, habM⟩ := Cond.instanceMethod_spec hinst
  obtain ⟨m8, methM', cM, hn8, hmethM', -, -, -, -, -, -, hsigM⟩ := Cond.codeWith_spec hcode
  cases Option.some.inj (hn8.symm.trans hnamed)
  cases hmethM.symm.trans hmethM'
  obtain ⟨c2, r2, m2, q1, q2, q3, q4, kP, hkP, hkPi⟩ := Cond.selects_spec hsel
  cases hcls.symm.trans q1
  cases (State.methodFound?_of_named hnamed hy).symm.trans q2
  cases hnamed.symm.trans q3
  have hselP : selectMethod e.platform s.vm cellB.cls mk = .method mk := by rw [Launch.admits_selectMethod X.admits]; exact q4
  obtain ⟨vm₁, X₁, hstep₁⟩ := X.invokevirtual hexec hown hlink hnamed hmethM hstM hkP hkPi hy (a := b) (cell := cellB) hcell
    (fun z h => by rw [h] at hobj; cases hobj) hselP hmethM habM hkP hkPi (g := g) hg (argsL := argsL) (rest := rest) (hlen _ hsigM) hstack hdg
  obtain ⟨v, B, X', hpost, hsteps⟩ := hK m meth c ⟨T.setVm vm₁, locs, cells, slots⟩ { g with stack := rest } (.invokevirtual index) mk (Value.ref b :: argsL).toArray X₁ hg hsize hdg hW (X₁.named hnamed) (hpre vm₁ X₁.warmed)
  exact ⟨v, vm₁, B, X₁.warmed, X', hpost, fun target h => hstep₁ _ fun acts => by rw [doInvoke_state]; exact hsteps.trans h⟩
abbrev vx_CVW (R : Room) (s : State) (args : Array Value) (own C : String) (index : Nat) (y : MethodName) (bytes : ByteArray) (maxL : Nat) (ret : Option FieldType) (hh : List (Nat × Nat × Nat × Nat)) (ws : List Cond) (rm : Room) (mc ms n : Nat) : Prop :=
  (rm.cells = mc ∧ rm.slots = ms ∧ rm.frames + 1 ≤ R.frames ∧ 8 + (maxL + 11) + rm.locals ≤ R.locals ∧ (∀ w ∈ ws, ∀ (a' : Array Value) (U : State), s.WarmedH U.vm → w.before a' U = true) ∧ Cond.codeWith y bytes maxL ret hh ∈ ws) ∧
  (Cond.codeWith y bytes maxL ret hh).before args s = true ∧ (Cond.initialized y.cls).before args s = true ∧ (y.cls ≠ "java/lang/invoke/MethodHandle" ∧ y.cls ≠ "java/lang/invoke/VarHandle") ∧
  (∀ sig, parseMethodDescriptor y.desc = some sig → n = sig.parameters.length) ∧ (Cond.methodLink own index y).before args s = true ∧ (Cond.instanceMethod y).before args s = true ∧ (Cond.selects C y y).before args s = true
theorem vx_cwVW {own C : String} {index maxL mc ms : Nat} {y : MethodName} {bytes : ByteArray} {ret : Option FieldType} {hh : List (Nat × Nat × Nat × Nat)} {Ts ws ws' : List Cond} {rm : Room} (n : Nat) (ht : ∀ w ∈ Ts, w.before args s = true) (hT : GoodIn Ts (wsV own index C y ws)) (hw : ws = Cond.codeWith y bytes maxL ret hh :: ws') (hrc : rm.cells = mc) (hrs : rm.slots = ms)
    (hd : y.cls = C ∧ y.cls ≠ "java/lang/invoke/MethodHandle" ∧ y.cls ≠ "java/lang/invoke/VarHandle" ∧ (parseMethodDescriptor y.desc).map (fun d => d.parameters.length) = some n) (hR : rm.frames + 1 ≤ R.frames ∧ 8 + (maxL + 11) + rm.locals ≤ R.locals) :
    vx_CVW R s args own C index y bytes maxL ret hh ws rm mc ms n := by
  obtain ⟨hC, hd⟩ := hd
  subst hC
  have ok : ∀ w ∈ wsV own index y.cls y ws, w.before args s = true := fun w h => ht w (hT w h).1
  have hG : GoodIn Ts ws := fun w h => hT w (by unfold wsV; exact List.mem_append_right _ h)
  have hc : Cond.codeWith y bytes maxL ret hh ∈ ws := by rw [hw]; exact List.mem_cons_self
  refine ⟨⟨hrc, hrs, hR.1, hR.2, pay_in ht hG, hc⟩, ht _ (hG _ hc).1, ok _ (by simp [wsV]), ⟨hd.1, hd.2.1⟩, fun sig h => ?_, ok _ (by simp [wsV]), ok _ (by simp [wsV]), ok _ (by simp [wsV])⟩
  have h2 := hd.2.2
  rw [h] at h2
  exact (Option.some.inj h2).symm
theorem vx_runVW {y : MethodName} {bytes cc : ByteArray} {maxL nL mc ms n index : Nat} {ret : Option FieldType} {hh : List (Nat × Nat × Nat × Nat)} {ws : List Cond} {rm : Room} {Pc : Array Value → State → Prop} {Qc : Array Value → State → Outcome → State → Prop} {free : Addr → Prop} {Ts : List Cond} {own C : String} {b : Addr} {As rest : List Value} {g : JFrame}
    (S : CallFix p m c cc nL s args Ts own) (hM : Met l y ws rm Pc Qc mc ms free) (cw : vx_CVW R s args own C index y bytes maxL ret hh ws rm mc ms n) (hp : PreV s H C b Pc As)
    (hg : g.method = m) (hn : As.length = n) (hsize : g.locals.size = nL) (hstack : g.stack = As.reverse ++ .ref b :: rest) (hW : 2 * g.monitorRoom + (rest.map fun v => v.category).sum ≤ 8) (hdg : decode cc g.pc = .ok (.invokevirtual index, 3)) (hf : cells + mc ≤ R.cells ∧ slots + ms ≤ R.slots) :
    va_Run p l e R s m args below meth c H locs cells slots mc ms g rest (Qc (Value.ref b :: As).toArray) free := by
  obtain ⟨⟨hrc, hrs, hfr, hlo, hws, hcw⟩, hcode, hini, hy, hlen, hl, hin, hse⟩ := cw
  have hK : Back l R p e below s args y 3 8 (PreOf R mc ms Pc) (PostOf Qc mc ms free) := va_backW (hh := hh) (bytes := bytes) (maxL := maxL) (ret := ret) hM hp.1 hrc hrs hfr hlo hws hcw (fun a' U hW => word_at hW (Or.inl (by first | rfl | simp [Cond.onTables, Cond.keeps, Cond.steady])) hini)
  obtain ⟨hx, hb, hml, ho, -⟩ := S
  obtain ⟨-, ⟨cellB, hcB, hoB, hclB⟩, hPc⟩ := hp
  intro T hT X
  obtain ⟨v, vm₁, ⟨U', l2, c2, s2⟩, hW₁, X', ⟨g', mk, t, L, e1, e2, hq, h1, hL, h2, h3⟩, st⟩ := vx_callVW X hx (C := C) (hh := hh) (bytes := bytes) (maxL := maxL) (ret := ret) ho hl hin hse hcode hy hK (by rw [hT]; exact hcB) hoB hclB hg (hsize.trans hml.symm) (argsL := As) (rest := rest) (fun sig h => hn.trans (hlen sig h)) hstack hW (by rw [hb]; exact hdg)
    (fun vm₁ hW₁ => ⟨hf.1, hf.2, hPc (T.setVm vm₁) hT hW₁⟩)
  dsimp only [Pt.U, Pt.locs, Pt.cells, Pt.slots] at X' e1 e2 h1 h2 h3 st
  subst h1; subst h2; subst h3
  exact ⟨v, (T.setVm vm₁).calling g' mk (Value.ref b :: As).toArray, t, U', L, hT, X', hL, e1, e2, hq, st⟩
section
variable {y : MethodName} {bytes cc : ByteArray} {maxL nL mc ms n index : Nat} {ret : Option FieldType} {ws : List Cond} {rm : Room} {Pc : Array Value → State → Prop} {Qc : Array Value → State → Outcome → State → Prop} {XC : String → State → State → Prop} {free : Addr → Prop} {Ts : List Cond} {own C : String} {b : Addr} {As rest : List Value} {g : JFrame}
theorem vx_runVX {hh : List (Nat × Nat × Nat × Nat)} (S : CallFix p m c cc nL s args Ts own) (hM : vx_Met l y ws rm Pc Qc XC mc ms free) (cw : vx_CVW R s args own C index y bytes maxL ret hh ws rm mc ms n) (hp : PreV s H C b Pc As)
    (hg : g.method = m) (hn : As.length = n) (hsize : g.locals.size = nL) (hstack : g.stack = As.reverse ++ .ref b :: rest) (hW : 2 * g.monitorRoom + (rest.map fun v => v.category).sum ≤ 8) (hdg : decode cc g.pc = .ok (.invokevirtual index, 3)) (hf : cells + mc ≤ R.cells ∧ slots + ms ≤ R.slots) :
    vx_Run p l e R s m args below meth c H locs cells slots mc ms g rest (Qc (Value.ref b :: As).toArray) XC free := by
  obtain ⟨⟨hrc, hrs, hfr, hlo, hws, hcw⟩, hcode, hini, hy, hlen, hl, hin, hse⟩ := cw
  have hK : vx_Back l R p e below s args y 3 8 (PreOf R mc ms Pc) (PostOf Qc mc ms free) (vx_Post XC mc ms free) := vx_backW (hh := hh) (bytes := bytes) (maxL := maxL) (ret := ret) hM hp.1 hrc hrs hfr hlo hws hcw (fun a' U hW => word_at hW (Or.inl (by first | rfl | simp [Cond.onTables, Cond.keeps, Cond.steady])) hini)
  obtain ⟨hx, hb, hml, ho, -⟩ := S
  obtain ⟨-, ⟨cellB, hcB, hoB, hclB⟩, hPc⟩ := hp
  intro T hT X
  rcases vx_callVX X hx (C := C) (hh := hh) (bytes := bytes) (maxL := maxL) (ret := ret) ho hl hin hse hcode hy hK (by rw [hT]; exact hcB) hoB hclB hg (hsize.trans hml.symm) (argsL := As) (rest := rest) (fun sig h => hn.trans (hlen sig h)) hstack hW (by rw [hb]; exact hdg)
    (fun vm₁ hW₁ => ⟨hf.1, hf.2, hPc (T.setVm vm₁) hT hW₁⟩) with ⟨v, vm₁, ⟨U', l2, c2, s2⟩, hW₁, X', ⟨g', mk, t, L, e1, e2, hq, h1, hL, h2, h3⟩, st⟩ | ⟨q, vm₁, ⟨U', l2, c2, s2⟩, hW₁, X', ⟨g', mk, t, L, E, ce, e1, e2, hq, hce, hcv, hcl, h1, hL, h2, h3⟩, st⟩
  · dsimp only [Pt.U, Pt.locs, Pt.cells, Pt.slots] at X' e1 e2 h1 h2 h3 st
    subst h1; subst h2; subst h3
    exact Or.inl ⟨v, (T.setVm vm₁).calling g' mk (Value.ref b :: As).toArray, t, U', L, hT, X', hL, e1, e2, hq, st⟩
  · dsimp only [Pt.U, Pt.locs, Pt.cells, Pt.slots] at X' e1 e2 h1 h2 h3 st hcl
    subst h1; subst h2; subst h3
    exact Or.inr ⟨q, (T.setVm vm₁).calling g' mk (Value.ref b :: As).toArray, t, U', L, E, ce, hT, X', hL, e1, e2, hq, hce, hcv, vx_cls hW₁ hcl, st⟩
theorem vx_runSX {hh : List (Nat × Nat × Nat × Nat)} (S : CallFix p m c cc nL s args Ts own) (hM : vx_Met l y ws rm Pc Qc XC mc ms free) (cw : vx_CSW R s args own index y bytes maxL ret hh ws rm mc ms n) (hp : PreS s H Pc As)
    (hg : g.method = m) (hn : As.length = n) (hsize : g.locals.size = nL) (hstack : g.stack = As.reverse ++ rest) (hW : 2 * g.monitorRoom + (rest.map fun v => v.category).sum ≤ 8) (hdg : decode cc g.pc = .ok (.invokestatic index, 3)) (hf : cells + mc ≤ R.cells ∧ slots + ms ≤ R.slots) :
    vx_Run p l e R s m args below meth c H locs cells slots mc ms g rest (Qc As.toArray) XC free := by
  obtain ⟨⟨hrc, hrs, hfr, hlo, hws, hcw⟩, hcode, hini, hy, hlen, hl, hstt⟩ := cw
  have hK : vx_Back l R p e below s args y 3 8 (PreOf R mc ms Pc) (PostOf Qc mc ms free) (vx_Post XC mc ms free) := vx_backW (hh := hh) (bytes := bytes) (maxL := maxL) (ret := ret) hM hp.1 hrc hrs hfr hlo hws hcw (fun a' U hW => word_at hW (Or.inl (by first | rfl | simp [Cond.onTables, Cond.keeps, Cond.steady])) hini)
  obtain ⟨hx, hb, hml, ho, -⟩ := S
  intro T hT X
  rcases vx_callSX X hx (hh := hh) (bytes := bytes) (maxL := maxL) (ret := ret) ho hl hstt hini hcode hy hK hg (hsize.trans hml.symm) (argsL := As) (rest := rest) (fun sig h => hn.trans (hlen sig h)) hstack hW (by rw [hb]; exact hdg)
    (fun vm₁ hW₁ => ⟨hf.1, hf.2, hp.2 (T.setVm vm₁) hT hW₁⟩) with ⟨v, vm₁, ⟨U', l2, c2, s2⟩, hW₁, X', ⟨g', mk, t, L, e1, e2, hq, h1, hL, h2, h3⟩, st⟩ | ⟨q, vm₁, ⟨U', l2, c2, s2⟩, hW₁, X', ⟨g', mk, t, L, E, ce, e1, e2, hq, hce, hcv, hcl, h1, hL, h2, h3⟩, st⟩
  · dsimp only [Pt.U, Pt.locs, Pt.cells, Pt.slots] at X' e1 e2 h1 h2 h3 st
    subst h1; subst h2; subst h3
    exact Or.inl ⟨v, (T.setVm vm₁).calling g' mk As.toArray, t, U', L, hT, X', hL, e1, e2, hq, st⟩
  · dsimp only [Pt.U, Pt.locs, Pt.cells, Pt.slots] at X' e1 e2 h1 h2 h3 st hcl
    subst h1; subst h2; subst h3
    exact Or.inr ⟨q, (T.setVm vm₁).calling g' mk As.toArray, t, U', L, E, ce, hT, X', hL, e1, e2, hq, hce, hcv, vx_cls hW₁ hcl, st⟩
end
end VXH
theorem vx_ofWH {l : Launch} {y : MethodName} {ws ws' : List Cond} {rm : Room} {Pc : Array Value → State → Prop} {Qc : Array Value → State → Outcome → State → Prop} {XC : String → State → State → Prop} {mc ms : Nat} {free : Addr → Prop} {cc : ByteArray} {maxL : Nat} {ret : Option FieldType} {hh : List (Nat × Nat × Nat × Nat)}
    (hy : plainName y.cls = true) (hw : ws = Cond.codeWith y cc maxL ret hh :: ws')
    (body : ∀ p e s m args below meth c s₁, BodyLoose p l y (headSpec ws rm) cc maxL ret e s m args below meth c s₁ → c.maxLocals = maxL → Pc args s →
      W p l e (headSpec ws rm).room s m args below meth c s.heap [] 0 0 (vx_MQ below Qc XC args s mc ms free) (entryFrame m args maxL)) : vx_Met l y ws rm Pc Qc XC mc ms free := by
  refine MetFree.of_bodyS (code := cc) (maxLocals := maxL) (ret := ret) hy ?_ ?_
  · intro args s m h hn
    obtain ⟨m9, meth, c, hn9, h1, h2, h3, h4, -, h5, h6, -⟩ := Cond.codeWith_spec (atoms_spec (ws := ws) h _ (by rw [hw]; exact List.mem_cons_self))
    cases hn.symm.trans hn9
    exact ⟨meth, c, h1, h2, h3, h4, h5, h6⟩
  · intro p e s m args below meth c s₁ B hml hP _
    have hh0 : s₁.heap = s.heap := by rw [B.state]; rfl
    obtain ⟨t, a1, o, b1, b2, b3⟩ := body p e s m args below meth c s₁ B hml hP s₁ hh0 (Stand.of_body B)
    exact ⟨t, o, a1, b1, b2, b3⟩
/-! ===== END ===== -/
end
section
/-! what holds at the entry of each method; contracts -/
def rx_E (O : ROld) (D : va_G) (cA : Nat → ClassId) (A : Nat → Prop) (old : Nat → Nat) (rho : UInt32 → Int32) (U : State) : Prop :=
  va_K D rc_cls (rx_tys cA) U ∧ (∀ q, U.heap.size ≤ q → A q) ∧
  (∀ q ∈ O.1, ∃ (C : String) (T : u_T) (N : Nat) (cv : Value), rc_cls[q.2.1]? = some (C, T, N) ∧ va_OF (T q.2.2.1).1 (T q.2.2.1).2.1 (T q.2.2.1).2.2.1 cv (old q.1) A U U.heap ∧ va_O C (old q.1) A U U.heap ∧ ∀ ads, rx_R old rho ads q.2.2.2 cv) ∧
  (∀ q ∈ O.2, ∃ (ty : FieldType) (f : Nat → Value), rc_arr[q.2.1]? = some ty ∧ va_T ty (old q.1) q.2.2.length f A U U.heap ∧ ∀ (i : Nat) (v : Value), q.2.2[i]? = some v → ∀ ads, rx_R old rho ads v (f i)) ∧
  va_Z "java/lang/String" "COMPACT_STRINGS" "Z" (.int 1) A U U.heap ∧ va_Zq "jdk/internal/util/Preconditions" "SIOOBE_FORMATTER" "Ljava/util/function/BiFunction;" A U U.heap ∧
  va_AO RX4 U ∧ va_AO RX9 U ∧ va_Nw (.methodLinkNest RX11 9 ⟨RX8, "<init>", "()V"⟩ RX11) U ∧ va_Nw (.methodLinkNest RX11 30 ⟨RX1, "<init>", "()V"⟩ RX11) U ∧ va_Nw (.methodLinkNest RX3 11 ⟨RX8, "<init>", "()V"⟩ RX11) U ∧
  vk_R RX10 33 "const type var procedure function begin end if then else while do repeat until for to downto case of array set div mod and or not in read write writeln" (old 1) U ∧ vk_R RX5 55 "integer char boolean false true ord chr succ pred odd abs sqr eof eoln" (old 3) U ∧
  va_Nw (.castable "java/lang/IllegalArgumentException" "java/lang/IllegalArgumentException") U ∧ va_Nw (.castable "java/lang/IllegalStateException" "java/lang/IllegalStateException") U ∧ vx_Zq Bundle.tN "UNASSIGNED_STACK" Bundle.steD A U U.heap ∧ vx_Zq Bundle.tN "SUPPRESSED_SENTINEL" Bundle.listD A U U.heap ∧
  vk_R RX11 66 "n is not 1 to 8" (old 10) U ∧ vk_R RX11 113 "steps is not 0 to 20000" (old 11) U ∧ vk_R RX11 144 "what is not 0 to 3" (old 12) U ∧ vk_R RX10 150 "a fault" (old 13) U ∧
  va_Nw (.declares ⟨"java/lang/RuntimeException", "<init>", "(Ljava/lang/String;)V"⟩) U ∧ va_Nw (.declares ⟨"java/lang/Exception", "<init>", "(Ljava/lang/String;)V"⟩) U ∧ va_Nw (.declares ⟨"java/lang/Throwable", "<init>", "(Ljava/lang/String;)V"⟩) U
theorem rx_E.to {O : ROld} {D : va_G} {cA : Nat → ClassId} {A : Nat → Prop} {old : Nat → Nat} {rho : UInt32 → Int32} {s U : State} (h : rx_E O D cA A old rho s) (hW : s.WarmedH U.vm) (hz : s.heap.size ≤ U.heap.size) (hq : ∀ a : Nat, a < s.heap.size → ¬ A a → U.heap[a]? = s.heap[a]?) : rx_E O D cA A old rho U := by
  obtain ⟨h1, h2, h3, h4, h5, h6, h7, h8, h9, h10, h11, h12, h13, h14, h15, h16, h17, h18, h19, h20, h21, h22, h23, h24⟩ := h
  refine ⟨h1.moved hW.alike, fun q hq => h2 q (Nat.le_trans hz hq), fun q hqO => ?_, fun q hqO => ?_, (h5.moved hW.alike).kept hq, (h6.moved hW.alike).kept hq, h7.moved hW.alike, h8.moved hW.alike, h9.warmM hW, h10.warmM hW, h11.warmM hW, h12.warm hW, h13.warm hW, h14.warmC hW, h15.warmC hW, (h16.moved hW.alike).kept hq, (h17.moved hW.alike).kept hq, h18.warm hW, h19.warm hW, h20.warm hW, h21.warm hW, h22.warmD hW, h23.warmD hW, h24.warmD hW⟩
  · obtain ⟨C, T, N, cv, g1, g2, g3, g4⟩ := h3 q hqO
    exact ⟨C, T, N, cv, g1, (g2.moved hW.alike).kept hq, (g3.moved hW.alike).kept hq, g4⟩
  · obtain ⟨ty, f, g1, g2, g3⟩ := h4 q hqO
    exact ⟨ty, f, g1, (g2.moved hW.alike).kept hq, g3⟩
def rx_rm (d mc ms : Nat) : Room := { frames := d + 10, cells := mc, slots := ms, locals := 64 * d + 200 }
def rx_Pc (O : ROld) (D : va_G) (cA : Nat → ClassId) (A : Nat → Prop) (old : Nat → Nat) (rho : UInt32 → Int32) (as : List Value) (h : RHeap) (ad : List Nat) : Array Value → State → Prop := fun v U =>
  ∃ (cs : List Value) (ws : va_W), v = cs.toArray ∧ ws.map (·.1) = ad ∧ rx_RL old rho ad as cs ∧ rx_RW old rho cA ad h ws ∧ va_P D rc_cls ws U.heap ∧ va_D A ws ∧ rx_E O D cA A old rho U
def rx_RO (old : Nat → Nat) (rho : UInt32 → Int32) (ads : List Nat) : Option Value → Option Value → Prop
  | none, none => True
  | some a, some c => rx_R old rho ads a c
  | _, _ => False
def rx_Qc (D : va_G) (cA : Nat → ClassId) (A : Nat → Prop) (old : Nat → Nat) (rho : UInt32 → Int32) (v : Option Value) (h : RHeap) (ad : List Nat) : Array Value → State → Outcome → State → Prop := fun _ st o t =>
  (∃ (cv : Option Value) (ws : va_W) (l : List Nat), o = .returned cv ∧ rx_RO old rho (ad ++ l) v cv ∧ ws.map (·.1) = ad ++ l ∧ rx_RW old rho cA (ad ++ l) h ws ∧ va_P D rc_cls ws t.heap ∧ va_D A ws) ∧ va_F A st t
theorem rx_Pc.blind {O : ROld} {D : va_G} {cA : Nat → ClassId} {A : Nat → Prop} {old : Nat → Nat} {rho : UInt32 → Int32} {as : List Value} {h : RHeap} {ad : List Nat} : FrameBlind (rx_Pc O D cA A old rho as h ad) := by
  intro a U g mk hp
  obtain ⟨cs, ws, q1, q2, q3, q4, q5, q6, q7⟩ := hp
  exact ⟨cs, ws, q1, q2, q3, q4, q5, q6, q7.to (State.WarmedH.refl U) (Nat.le_refl _) (fun _ _ _ => rfl)⟩
theorem rx_take_of {old : Nat → Nat} {rho : UInt32 → Int32} {ads : List Nat} : ∀ {n : Nat} {acc cacc st cst as r : List Value}, rx_take n acc st = some (as, r) → rx_RL old rho ads acc cacc → rx_RL old rho ads st cst → ∃ cs cr, cst = cs ++ cr ∧ rx_RL old rho ads as (cs.reverse ++ cacc) ∧ rx_RL old rho ads r cr ∧ cs.length = n
  | 0, acc, cacc, st, cst, as, r, h, ha, hs => by
    simp only [rx_take, Option.some.injEq, Prod.mk.injEq] at h
    obtain ⟨rfl, rfl⟩ := h
    exact ⟨[], cst, rfl, ha, hs, rfl⟩
  | n + 1, acc, cacc, v :: st, c :: cst, as, r, h, ha, hs => by
    simp only [rx_take] at h
    obtain ⟨cs, cr, e1, e2, e3, e4⟩ := rx_take_of (cacc := c :: cacc) h ⟨hs.1, ha⟩ hs.2
    exact ⟨c :: cs, cr, by rw [e1]; rfl, by simpa using e2, e3, by simp [e4]⟩
  | n + 1, acc, cacc, v :: st, [], as, r, h, ha, hs => hs.elim
  | n + 1, acc, cacc, [], cst, as, r, h, ha, hs => by simp [rx_take] at h
section Calls9
variable {p : Program} {l : Launch} {e : Env} {R : Room} {s : State} {m : MethodId} {args : Array Value} {below : List Frame} {meth : Method} {c : Code} {Q : State → Prop} {cc : ByteArray} {D : va_G} {cA : Nat → ClassId} {A : Nat → Prop} {old : Nat → Nat} {rho : UInt32 → Int32} {nL MC MS pc mc ms : Nat} {ad0 : List Nat} {la : RLoc} {st : List Value} {h : RHeap} {O : ROld} {own C : String} {index n : Nat} {Ts : List Cond}
/-- a call that has come back -/
theorem rg_back {v : Option Value} {h2 : RHeap} {ad : List Nat} {H : Heap} {locs : List Loc} {ls : Array Slot} {cells slots mc2 ms2 : Nat} {st0 rest : List Value} {a : Array Value} (hr : va_Run p l e R s m args below meth c H locs cells slots mc2 ms2 (F0 m pc ls st0) rest (rx_Qc D cA A old rho v h2 ad a) A) (hS : va_S A s.heap H locs)
    (kk : ∀ (cv : Option Value) (ws : va_W) (l9 : List Nat) (H1 : Heap) (locs1 : List Loc), rx_RO old rho (ad ++ l9) v cv → ws.map (·.1) = ad ++ l9 → rx_RW old rho cA (ad ++ l9) h2 ws → va_P D rc_cls ws H1 → va_D A ws → va_S A s.heap H1 locs1 → W p l e R s m args below meth c H1 locs1 (cells + mc2) (slots + ms2) Q (F0 m (pc + 3) ls (cv.toList ++ rest))) : W p l e R s m args below meth c H locs cells slots Q (F0 m pc ls st0) := by
  intro T hT X
  obtain ⟨v9, st₀, t, T', L, h0, X', hL, e1, e2, ⟨⟨cv, ws, l9, hv, q1, q2, q3, q4, q5⟩, hz, hk⟩, st⟩ := hr T hT X
  cases hv
  rw [h0] at hz hk
  obtain ⟨t2, a1, b1⟩ := kk v9 ws l9 T'.heap (locs ++ L) q1 q2 q3 (by rw [e1]; exact q4) q5
    ⟨Nat.le_trans hS.1 (by rw [e1]; exact hz), fun q h1 h2 => by rw [e1, hk q (Nat.lt_of_lt_of_le h1 hS.1) h2]; exact hS.2.1 q h1 h2, fun q hq => by
      rcases List.mem_append.mp hq with h | h
      · exact hS.2.2 q h
      · exact hL q h⟩ T' rfl X'
  exact ⟨t2, st t2 a1, b1⟩
/-- the frame behind a call that has come back -/
theorem rg_after {v : Option Value} {h2 : RHeap} {H : Heap} {locs : List Loc} {ls : Array Slot} {cells slots mc2 ms2 : Nat} {st0 rest : List Value} {r : List Value} {a : Array Value} {ws : va_W} {lc : RLoc} (hr : va_Run p l e R s m args below meth c H locs cells slots mc2 ms2 (F0 m pc ls st0) rest (rx_Qc D cA A old rho v h2 (ws.map (·.1)) a) A) (r4 : va_S A s.heap H locs) (r5 : lv_has ls nL lc) (r6 : rx_RC old rho (ws.map (·.1)) la lc) (q7 : rx_RL old rho (ws.map (·.1)) r rest) (r8 : ∃ l, ws.map (·.1) = ad0 ++ l) (h1 : cells + (mc + mc2) = MC) (h2e : slots + (ms + ms2) = MS)
    (kk : rx_G p l e R s m args below meth c Q D cA A old rho nL MC MS ad0 (pc + 3) la (v.toList ++ r) h2 mc ms) : W p l e R s m args below meth c H locs cells slots Q (F0 m pc ls st0) := by
  refine rg_back hr r4 (fun cv ws2 l9 H1 locs1 g1 g2 g3 g4 g5 g6 => kk H1 locs1 ls _ (cells + mc2) (slots + ms2) ⟨ws2, lc, by rw [g2]; exact g3, g4, g5, g6, r5, by rw [g2]; exact r6.more, ?_, ?_⟩ (by omega) (by omega))
  · rw [g2]
    cases v with
    | none =>
      cases cv with
      | none => exact q7.more
      | some c => exact g1.elim
    | some a9 =>
      cases cv with
      | none => exact g1.elim
      | some c => exact ⟨g1, q7.more⟩
  · obtain ⟨l8, h8⟩ := r8
    exact ⟨l8 ++ l9, by rw [g2, h8, List.append_assoc]⟩
theorem rg_callS {y : MethodName} {bytes : ByteArray} {maxL : Nat} {ret : Option FieldType} {ws9 : List Cond} {d mc2 ms2 : Nat} {as r : List Value} {v : Option Value} {h2 : RHeap} (hS : CallFix p m c cc nL s args Ts own) (hE : rx_E O D cA A old rho s) (hM : ∀ ad, Met l y ws9 (rx_rm d mc2 ms2) (rx_Pc O D cA A old rho as h ad) (rx_Qc D cA A old rho v h2 ad) mc2 ms2 A) (cw : CallB R s args own index y bytes maxL ret ws9 (rx_rm d mc2 ms2) mc2 ms2 n ∧ (Cond.static y).before args s = true) (hMC : MC ≤ R.cells) (hMS : MS ≤ R.slots) (htk : rx_take n [] st = some (as, r)) (hdg : decode cc pc = .ok (.invokestatic index, 3)) (hst : rx_cats r ≤ 8) (kk : rx_G p l e R s m args below meth c Q D cA A old rho nL MC MS ad0 (pc + 3) la (v.toList ++ r) h2 mc ms) : rx_G p l e R s m args below meth c Q D cA A old rho nL MC MS ad0 pc la st h (mc + mc2) (ms + ms2) := by
  intro H locs ls cst cells slots hR h1 h2e
  obtain ⟨ws, lc, r1, r2, r3, r4, r5, r6, r7, r8⟩ := hR
  obtain ⟨cs, cr, rfl, t2, t3, t4⟩ := rx_take_of htk (cacc := []) trivial r7
  simp only [List.append_nil] at t2
  have hpc : ∀ U : State, U.heap = H → s.WarmedH U.vm → rx_Pc O D cA A old rho as h (ws.map (·.1)) (cs.reverse).toArray U := fun U hU hW => ⟨_, ws, rfl, rfl, t2, r1, by rw [hU]; exact r2, r3, hE.to hW (by rw [hU]; exact r4.1) (fun a g1 g2 => by rw [hU]; exact r4.2.1 a g1 g2)⟩
  have hq := t3.cats
  refine rg_after (mc2 := mc2) (ms2 := ms2) (va_runS (As := cs.reverse) (rest := cr) hS (hM _) cw ⟨rx_Pc.blind, hpc⟩ (g := F0 m pc ls (cs ++ cr)) rfl (by rw [List.length_reverse]; exact t4) r5.1 (by rw [List.reverse_reverse]) (lv_room (by rw [← hq]; exact hst)) hdg ⟨by omega, by omega⟩) r4 r5 r6 t3 r8 h1 h2e kk
theorem rg_callI {y : MethodName} {bytes : ByteArray} {maxL : Nat} {ret : Option FieldType} {ws9 : List Cond} {d mc2 ms2 : Nat} {as r : List Value} {v : Option Value} {h2 : RHeap} {k : Nat} (hS : CallFix p m c cc nL s args Ts own) (hE : rx_E O D cA A old rho s) (hM : ∀ ad, Met l y ws9 (rx_rm d mc2 ms2) (rx_Pc O D cA A old rho (.ref k :: as) h ad) (rx_Qc D cA A old rho v h2 ad) mc2 ms2 A) (cw : CallB R s args own index y bytes maxL none ws9 (rx_rm d mc2 ms2) mc2 ms2 n ∧ y.name = "<init>" ∧ (Cond.instanceMethod y).before args s = true) (hMC : MC ≤ R.cells) (hMS : MS ≤ R.slots) (htk : rx_take n [] st = some (as, .ref k :: r)) (hk : k < 2000000) (hdg : decode cc pc = .ok (.invokespecial index, 3)) (hst : rx_cats r ≤ 8) (kk : rx_G p l e R s m args below meth c Q D cA A old rho nL MC MS ad0 (pc + 3) la (v.toList ++ r) h2 mc ms) : rx_G p l e R s m args below meth c Q D cA A old rho nL MC MS ad0 pc la st h (mc + mc2) (ms + ms2) := by
  intro H locs ls cst cells slots hR h1 h2e
  obtain ⟨ws, lc, r1, r2, r3, r4, r5, r6, r7, r8⟩ := hR
  obtain ⟨cs, cr, rfl, t2, t3, t4⟩ := rx_take_of htk (cacc := []) trivial r7
  simp only [List.append_nil] at t2
  obtain ⟨cb, cr2, rfl, hr, q7⟩ := rx_RL.uncons t3
  have hb2 : ∃ b, cb = .ref b := by
    rcases hr with ⟨h9, -⟩ | ⟨-, -, h9⟩ | ⟨-, b, -, h9⟩
    · exact absurd hk (Nat.not_lt.mpr h9)
    · exact ⟨_, h9⟩
    · exact ⟨_, h9⟩
  obtain ⟨b, rfl⟩ := hb2
  have hpc : ∀ U : State, U.heap = H → s.WarmedH U.vm → rx_Pc O D cA A old rho (.ref k :: as) h (ws.map (·.1)) (Value.ref b :: cs.reverse).toArray U := fun U hU hW => ⟨_, ws, rfl, rfl, ⟨hr, t2⟩, r1, by rw [hU]; exact r2, r3, hE.to hW (by rw [hU]; exact r4.1) (fun a g1 g2 => by rw [hU]; exact r4.2.1 a g1 g2)⟩
  have hq := q7.cats
  refine rg_after (mc2 := mc2) (ms2 := ms2) (va_runI (As := cs.reverse) (rest := cr2) hS (hM _) cw ⟨rx_Pc.blind, hpc⟩ (g := F0 m pc ls (cs ++ .ref b :: cr2)) rfl (by rw [List.length_reverse]; exact t4) r5.1 (by rw [List.reverse_reverse]) (lv_room (by rw [← hq]; exact hst)) hdg ⟨by omega, by omega⟩) r4 r5 r6 q7 r8 h1 h2e kk
theorem rg_callIN {y : MethodName} {bytes : ByteArray} {maxL : Nat} {ret : Option FieldType} {ws9 : List Cond} {d mc2 ms2 : Nat} {as r : List Value} {v : Option Value} {h2 : RHeap} {k : Nat} (hS : CallFix p m c cc nL s args Ts own) (hE : rx_E O D cA A old rho s) (hM : ∀ ad, Met l y ws9 (rx_rm d mc2 ms2) (rx_Pc O D cA A old rho (.ref k :: as) h ad) (rx_Qc D cA A old rho v h2 ad) mc2 ms2 A) {host : String} (cw : va_CN R s args own index y host bytes maxL none ws9 (rx_rm d mc2 ms2) mc2 ms2 n ∧ y.name = "<init>" ∧ (Cond.instanceMethod y).before args s = true) (hMC : MC ≤ R.cells) (hMS : MS ≤ R.slots) (htk : rx_take n [] st = some (as, .ref k :: r)) (hk : k < 2000000) (hdg : decode cc pc = .ok (.invokespecial index, 3)) (hst : rx_cats r ≤ 8) (kk : rx_G p l e R s m args below meth c Q D cA A old rho nL MC MS ad0 (pc + 3) la (v.toList ++ r) h2 mc ms) : rx_G p l e R s m args below meth c Q D cA A old rho nL MC MS ad0 pc la st h (mc + mc2) (ms + ms2) := by
  intro H locs ls cst cells slots hR h1 h2e
  obtain ⟨ws, lc, r1, r2, r3, r4, r5, r6, r7, r8⟩ := hR
  obtain ⟨cs, cr, rfl, t2, t3, t4⟩ := rx_take_of htk (cacc := []) trivial r7
  simp only [List.append_nil] at t2
  obtain ⟨cb, cr2, rfl, hr, q7⟩ := rx_RL.uncons t3
  have hb2 : ∃ b, cb = .ref b := by
    rcases hr with ⟨h9, -⟩ | ⟨-, -, h9⟩ | ⟨-, b, -, h9⟩
    · exact absurd hk (Nat.not_lt.mpr h9)
    · exact ⟨_, h9⟩
    · exact ⟨_, h9⟩
  obtain ⟨b, rfl⟩ := hb2
  have hpc : ∀ U : State, U.heap = H → s.WarmedH U.vm → rx_Pc O D cA A old rho (.ref k :: as) h (ws.map (·.1)) (Value.ref b :: cs.reverse).toArray U := fun U hU hW => ⟨_, ws, rfl, rfl, ⟨hr, t2⟩, r1, by rw [hU]; exact r2, r3, hE.to hW (by rw [hU]; exact r4.1) (fun a g1 g2 => by rw [hU]; exact r4.2.1 a g1 g2)⟩
  have hq := q7.cats
  refine rg_after (mc2 := mc2) (ms2 := ms2) (va_runIN (As := cs.reverse) (rest := cr2) hS (hM _) cw ⟨rx_Pc.blind, hpc⟩ (g := F0 m pc ls (cs ++ .ref b :: cr2)) rfl (by rw [List.length_reverse]; exact t4) r5.1 (by rw [List.reverse_reverse]) (lv_room (by rw [← hq]; exact hst)) hdg ⟨by omega, by omega⟩) r4 r5 r6 q7 r8 h1 h2e kk
theorem rg_callV {y : MethodName} {bytes : ByteArray} {maxL : Nat} {ret : Option FieldType} {ws9 : List Cond} {d mc2 ms2 : Nat} {as r : List Value} {v : Option Value} {h2 : RHeap} {k : Nat} (hS : CallFix p m c cc nL s args Ts own) (hE : rx_E O D cA A old rho s) (hM : ∀ ad, Met l y ws9 (rx_rm d mc2 ms2) (rx_Pc O D cA A old rho (.ref k :: as) h ad) (rx_Qc D cA A old rho v h2 ad) mc2 ms2 A) (cw : CallW R s args own C index y bytes maxL ret ws9 (rx_rm d mc2 ms2) mc2 ms2 n) (hMC : MC ≤ R.cells) (hMS : MS ≤ R.slots) (htk : rx_take n [] st = some (as, .ref k :: r)) (hrv : ∀ (ws : va_W) (H : Heap) (locs : List Loc) (cb : Value), rx_RW old rho cA (ws.map (·.1)) h ws → va_P D rc_cls ws H → va_S A s.heap H locs → rx_R old rho (ws.map (·.1)) (.ref k) cb → ∃ cell : Cell, ∀ b, cb = .ref b → H[b]? = some cell ∧ cell.vm.isStatics = false ∧ s.vm.findClass C = some cell.cls) (hk : k < 2000000) (hdg : decode cc pc = .ok (.invokevirtual index, 3)) (hst : rx_cats r ≤ 8) (kk : rx_G p l e R s m args below meth c Q D cA A old rho nL MC MS ad0 (pc + 3) la (v.toList ++ r) h2 mc ms) : rx_G p l e R s m args below meth c Q D cA A old rho nL MC MS ad0 pc la st h (mc + mc2) (ms + ms2) := by
  intro H locs ls cst cells slots hR h1 h2e
  obtain ⟨ws, lc, r1, r2, r3, r4, r5, r6, r7, r8⟩ := hR
  obtain ⟨cs, cr, rfl, t2, t3, t4⟩ := rx_take_of htk (cacc := []) trivial r7
  simp only [List.append_nil] at t2
  obtain ⟨cb, cr2, rfl, hr, q7⟩ := rx_RL.uncons t3
  have hb2 : ∃ b, cb = .ref b := by
    rcases hr with ⟨h9, -⟩ | ⟨-, -, h9⟩ | ⟨-, b, -, h9⟩
    · exact absurd hk (Nat.not_lt.mpr h9)
    · exact ⟨_, h9⟩
    · exact ⟨_, h9⟩
  obtain ⟨b, rfl⟩ := hb2
  have hpc : ∀ U : State, U.heap = H → s.WarmedH U.vm → rx_Pc O D cA A old rho (.ref k :: as) h (ws.map (·.1)) (Value.ref b :: cs.reverse).toArray U := fun U hU hW => ⟨_, ws, rfl, rfl, ⟨hr, t2⟩, r1, by rw [hU]; exact r2, r3, hE.to hW (by rw [hU]; exact r4.1) (fun a g1 g2 => by rw [hU]; exact r4.2.1 a g1 g2)⟩
  have hq := q7.cats
  obtain ⟨cell, hcell⟩ := hrv ws H locs _ r1 r2 r4 hr
  refine rg_after (mc2 := mc2) (ms2 := ms2) (va_runV (As := cs.reverse) (rest := cr2) hS (hM _) cw ⟨rx_Pc.blind, ⟨cell, hcell b rfl⟩, hpc⟩ (g := F0 m pc ls (cs ++ .ref b :: cr2)) rfl (by rw [List.length_reverse]; exact t4) r5.1 (by rw [List.reverse_reverse]) (lv_room (by rw [← hq]; exact hst)) hdg ⟨by omega, by omega⟩) r4 r5 r6 q7 r8 h1 h2e kk
end Calls9
end
section
/-! what a step of the runner says when it goes on -/
theorem rx_more_of {a b : Nat} {o : Option RRes} {r : Option Value ⊕ Nat} {hf : RHeap} {mc ms : Nat} (h : rx_more a b o = some (r, hf, mc, ms)) : ∃ mc2 ms2, o = some (r, hf, mc2, ms2) ∧ mc = mc2 + a ∧ ms = ms2 + b := by
  unfold rx_more at h
  split at h
  · simp only [Option.some.injEq, Prod.mk.injEq] at h
    obtain ⟨rfl, rfl, rfl, rfl⟩ := h
    exact ⟨_, _, rfl, rfl, rfl⟩
  · cases h
theorem rx_ld_of {q : Value → Bool} {la : RLoc} {i : Nat} {st : List Value} {k : List Value → Option RRes} {x : RRes} (h : rx_ld q la i st k = some x) : ∃ v, rx_look la i = some v ∧ q v = true ∧ k (v :: st) = some x := by
  unfold rx_ld at h
  split at h
  · rename_i v hv
    split at h
    · rename_i hq; exact ⟨v, hv, hq, h⟩
    · cases h
  · cases h
theorem rx_str_of {q : Value → Bool} {nL : Nat} {la : RLoc} {i : Nat} {st : List Value} {k : RLoc → List Value → Option RRes} {x : RRes} (h : rx_str q nL la i st k = some x) : ∃ v r, st = v :: r ∧ q v = true ∧ i < nL ∧ k (rx_lst la i v) r = some x := by
  cases st with
  | nil => cases h
  | cons v r =>
    simp only [rx_str] at h
    cases hq : q v with
    | false => simp [hq] at h
    | true =>
      cases hn : Nat.blt i nL with
      | false => simp [hq, hn] at h
      | true =>
        simp only [hq, hn] at h
        exact ⟨v, r, rfl, hq, Nat.le_of_ble_eq_true hn, h⟩
theorem rx_str2_of {q : Value → Bool} {nL : Nat} {la : RLoc} {i : Nat} {st : List Value} {k : RLoc → List Value → Option RRes} {x : RRes} (h : rx_str2 q nL la i st k = some x) : ∃ v r, st = v :: r ∧ q v = true ∧ i + 1 < nL ∧ k (rx_lst2 la i v) r = some x := by
  cases st with
  | nil => cases h
  | cons v r =>
    simp only [rx_str2] at h
    cases hq : q v with
    | false => simp [hq] at h
    | true =>
      cases hn : Nat.blt (i + 1) nL with
      | false => simp [hq, hn] at h
      | true =>
        simp only [hq, hn] at h
        exact ⟨v, r, rfl, hq, Nat.le_of_ble_eq_true hn, h⟩
theorem rx_b1_of {f : Value → Value} {q : Value → Bool} {st : List Value} {k : List Value → Option RRes} {x : RRes} (h : rx_b1 f q st k = some x) : ∃ a r, st = a :: r ∧ q a = true ∧ k (f a :: r) = some x := by
  cases st with
  | nil => cases h
  | cons a r =>
    simp only [rx_b1] at h
    cases hq : q a with
    | false => simp [hq] at h
    | true =>
      simp only [hq] at h
      exact ⟨a, r, rfl, hq, h⟩
theorem rx_b2_of {f : Value → Value → Value} {q q2 : Value → Bool} {st : List Value} {k : List Value → Option RRes} {x : RRes} (h : rx_b2 f q q2 st k = some x) : ∃ b a r, st = b :: a :: r ∧ q a = true ∧ q2 b = true ∧ k (f a b :: r) = some x := by
  match st, h with
  | [], h => cases h
  | [_], h => cases h
  | b :: a :: r, h =>
    simp only [rx_b2] at h
    cases hq : q a with
    | false => simp [hq] at h
    | true =>
      cases hq2 : q2 b with
      | false => simp [hq, hq2] at h
      | true =>
        simp only [hq, hq2] at h
        exact ⟨b, a, r, rfl, hq, hq2, h⟩
theorem rx_inc_of {nL : Nat} {la : RLoc} {i : Nat} {n : Int} {k : RLoc → Option RRes} {x : RRes} (h : rx_inc nL la i n k = some x) : ∃ v, rx_look la i = some (.int v) ∧ i < nL ∧ k (rx_lst la i (.int (v + Int32.ofInt n))) = some x := by
  unfold rx_inc at h
  split at h
  · rename_i v hv
    split at h
    · rename_i hn; exact ⟨v, hv, Nat.lt_of_lt_of_le (Nat.lt_succ_self _) (Nat.le_of_ble_eq_true hn), h⟩
    · cases h
  · cases h
theorem rx_dup_of {st : List Value} {k : List Value → Option RRes} {x : RRes} (h : rx_dup st k = some x) : ∃ a r, st = a :: r ∧ a.category = 1 ∧ k (a :: a :: r) = some x := by
  cases st with
  | nil => cases h
  | cons a r =>
    simp only [rx_dup] at h
    cases hq : Nat.beq a.category 1 with
    | false => simp [hq] at h
    | true =>
      simp only [hq] at h
      exact ⟨a, r, rfl, Nat.eq_of_beq_eq_true hq, h⟩
theorem rx_pop_of {st : List Value} {k : List Value → Option RRes} {x : RRes} (h : rx_pop st k = some x) : ∃ a r, st = a :: r ∧ a.category = 1 ∧ k r = some x := by
  cases st with
  | nil => cases h
  | cons a r =>
    simp only [rx_pop] at h
    cases hq : Nat.beq a.category 1 with
    | false => simp [hq] at h
    | true =>
      simp only [hq] at h
      exact ⟨a, r, rfl, Nat.eq_of_beq_eq_true hq, h⟩
theorem rx_dupx1_of {st : List Value} {k : List Value → Option RRes} {x : RRes} (h : rx_dupx1 st k = some x) : ∃ a b r, st = a :: b :: r ∧ a.category = 1 ∧ b.category = 1 ∧ k (a :: b :: a :: r) = some x := by
  match st, h with
  | [], h => cases h
  | [_], h => cases h
  | a :: b :: r, h =>
    simp only [rx_dupx1] at h
    cases hq : Nat.beq a.category 1 with
    | false => simp [hq] at h
    | true =>
      cases hq2 : Nat.beq b.category 1 with
      | false => simp [hq, hq2] at h
      | true =>
        simp only [hq, hq2] at h
        exact ⟨a, b, r, rfl, Nat.eq_of_beq_eq_true hq, Nat.eq_of_beq_eq_true hq2, h⟩
theorem rx_at_of : ∀ {rows : List RRow} {t : Nat} {r : RRow} {z : List RRow}, rx_at rows t = r :: z → r.1 = t ∧ ∀ q ∈ r :: z, q ∈ rows
  | [], _, _, _, h => by simp [rx_at] at h
  | r0 :: l, t, r, z, h => by
    unfold rx_at at h
    split at h
    · rename_i hb
      cases h
      exact ⟨Nat.eq_of_beq_eq_true hb, fun q hq => hq⟩
    · obtain ⟨h1, h2⟩ := rx_at_of h
      exact ⟨h1, fun q hq => List.mem_cons_of_mem _ (h2 q hq)⟩
theorem rx_to_of {rows : List RRow} {t : Nat} {k : List RRow → Option RRes} {x : RRes} (h : rx_to rows t k = some x) : ∃ r z, r.1 = t ∧ (∀ q ∈ r :: z, q ∈ rows) ∧ k (r :: z) = some x := by
  unfold rx_to at h
  split at h
  · rename_i r z hz
    obtain ⟨h1, h2⟩ := rx_at_of hz
    exact ⟨r, z, h1, h2, h⟩
  · cases h
theorem rx_go_of {rows : List RRow} {pc : Nat} {off : Int} {k : List RRow → Option RRes} {x : RRes} (h : rx_go rows pc off k = some x) : ∃ r z, (pc : Int) + off = (r.1 : Int) ∧ (∀ q ∈ r :: z, q ∈ rows) ∧ k (r :: z) = some x := by
  unfold rx_go at h
  split at h
  · rename_i ht
    obtain ⟨r, z, h1, h2, h3⟩ := rx_to_of h
    refine ⟨r, z, ?_, h2, h3⟩
    have h0 : 0 ≤ (pc : Int) + off := of_decide_eq_true ht
    rw [h1]
    unfold rx_tgt
    rw [Int.toNat_of_nonneg h0]
  · cases h
theorem rx_br_of {o : Option Bool} {a b : Unit → Option RRes} {x : RRes} (h : rx_br o a b = some x) : (o ≠ some false → a () = some x) ∧ (o ≠ some true → b () = some x) := by
  unfold rx_br at h
  split at h
  · exact ⟨fun _ => h, fun z => absurd rfl z⟩
  · exact ⟨fun z => absurd rfl z, fun _ => h⟩
  · unfold rx_join at h
    split at h
    · rename_i x1 y1 hx1 hy1
      split at h
      · rename_i e1 e2 e3
        have he : x1 = y1 := Prod.ext (of_decide_eq_true e1) (Prod.ext (of_decide_eq_true e2) (of_decide_eq_true e3))
        cases h
        exact ⟨fun _ => hx1, fun _ => by rw [hy1, he]⟩
      · cases h
    · cases h
theorem rx_old_of {k : Nat} (h : rx_old k = false) : k < 1000000 := by
  apply Nat.lt_of_not_le
  intro h2
  have : Nat.ble 1000000 k = true := Nat.ble_eq_true_of_le h2
  rw [show rx_old k = Nat.ble 1000000 k from rfl, this] at h
  cases h
theorem rx_oldA_of : ∀ {l : List (Nat × Nat × List Value)} {i t : Nat} {a : List Value}, rx_oldA l i = some (t, a) → (i, t, a) ∈ l
  | [], _, _, _, h => by simp [rx_oldA] at h
  | (j, t0, a0) :: l, i, t, a, h => by
    unfold rx_oldA at h
    split at h
    · rename_i hb
      have hb := Nat.eq_of_beq_eq_true hb
      cases h
      rw [← hb]
      exact List.mem_cons_self
    · exact List.mem_cons_of_mem _ (rx_oldA_of h)
theorem rx_oldF_of : ∀ {l : List (Nat × Nat × Nat × Value)} {i ci f : Nat} {v : Value}, rx_oldF l i ci f = some v → (i, ci, f, v) ∈ l
  | [], _, _, _, _, h => by simp [rx_oldF] at h
  | (j, c0, f0, v0) :: l, i, ci, f, v, h => by
    unfold rx_oldF at h
    split at h
    · rename_i h1 h2 h3
      have h1 := Nat.eq_of_beq_eq_true h1
      have h2 := Nat.eq_of_beq_eq_true h2
      have h3 := Nat.eq_of_beq_eq_true h3
      cases h
      rw [← h1, ← h2, ← h3]
      exact List.mem_cons_self
    · exact List.mem_cons_of_mem _ (rx_oldF_of h)
/-! the check of a row: it decodes, and its words are among the tables' -/
abbrev RSig : Type := MethodName × ByteArray × Option FieldType × Nat × Nat × Nat × Nat × List (Nat × Nat × Nat × Nat) × Nat
def rc_good : List Jvm.Cond := lw_tbl.filter goodWord
def rx_wd (w : Nat) (d : Jvm.Cond) : Bool := match rx_nth lw_tbl w with
  | some x => decide (x = d) && goodWord d
  | none => false
theorem rx_wd_mem {w : Nat} {d : Jvm.Cond} (h : rx_wd w d = true) : d ∈ rc_good := by
  unfold rx_wd at h
  split at h
  · rename_i x hx
    rw [Bool.and_eq_true] at h
    have h1 : x = d := of_decide_eq_true h.1
    subst h1
    rw [rx_nth_eq] at hx
    exact List.mem_filter.mpr ⟨List.mem_of_getElem? hx, h.2⟩
  · cases h
def rx_ilen : Instr → Nat
  | .aload _ => 2
  | .iload _ => 2
  | .lload _ => 2
  | .astore _ => 2
  | .istore _ => 2
  | .lstore _ => 2
  | .bipush _ => 2
  | .newarray _ => 2
  | .ldc _ => 2
  | .sipush _ => 3
  | .getfield _ => 3
  | .putfield _ => 3
  | .getstatic _ => 3
  | .new _ => 3
  | .anewarray _ => 3
  | .ldc2_w _ => 3
  | .goto _ => 3
  | .if_icmp _ _ => 3
  | .ifCond _ _ => 3
  | .ifnull _ => 3
  | .ifnonnull _ => 3
  | .iinc _ _ => 3
  | .invokespecial _ => 3
  | .invokevirtual _ => 3
  | .invokestatic _ => 3
  | _ => 1
def rx_isT : Instr → Bool
  | .tableswitch _ _ _ _ => true
  | _ => false
def rx_cw (sg : RSig) : Jvm.Cond := match sg.2.2.2.2.2.2.2.1 with
  | [] => .code sg.1 sg.2.1 sg.2.2.2.2.2.2.2.2 sg.2.2.1
  | h :: t => .codeWith sg.1 sg.2.1 sg.2.2.2.2.2.2.2.2 sg.2.2.1 (h :: t)
def rx_sgok (sg : RSig) : Bool := rx_wd sg.2.2.2.1 (rx_cw sg) && rx_wd sg.2.2.2.2.2.2.1 (.initialized sg.1.cls) && Nat.ble sg.2.2.2.2.2.2.2.2 40
def rx_sigok (sg : RSig) (n : Nat) : Bool := decide (sg.1.cls ≠ "java/lang/invoke/MethodHandle") && decide (sg.1.cls ≠ "java/lang/invoke/VarHandle") && decide ((parseMethodDescriptor sg.1.desc).map (fun d => d.parameters.length) = some n)
def rx_aok (ini : Bool) (own : String) (sigs : List RSig) (i : Instr) (aux : List Nat) : Bool := match i, aux with
  | .getfield x, [ci, f, w] => match rx_nth rc_cls ci with
    | some q => Nat.blt f q.2.2 && rx_wd w (.fieldLink own x (q.2.1 f).1 (q.2.1 f).2.1 (q.2.1 f).2.2.1)
    | none => false
  | .putfield x, [ci, f, w] => match rx_nth rc_cls ci with
    | some q => Nat.blt f q.2.2 && rx_wd w (.fieldLink own x (q.2.1 f).1 (q.2.1 f).2.1 (q.2.1 f).2.2.1) && (!(q.2.1 f).2.2.2 || (ini && decide ((q.2.1 f).1 = own)))
    | none => false
  | .new x, [ci, w] => match rx_nth rc_cls ci with
    | some q => rx_wd w (.classLink own x q.1)
    | none => false
  | .newarray a, [t] => decide (rx_nth rc_arr t = some (newarray.typeOf a)) && Nat.blt t 4
  | .anewarray x, [t, w] => match t with
    | 4 => rx_wd w (.classLink own x RX4)
    | 5 => rx_wd w (.classLink own x RX9)
    | _ => false
  | .ldc x, [0, v, w] => rx_wd w (.constant own x (Int32.ofNat v))
  | .ldc x, [1, 1, _] => decide (own = RX10) && Nat.beq x 33
  | .ldc x, [1, 3, _] => decide (own = RX5) && Nat.beq x 55
  | .ldc _, [1, _, _] => false
  | .ldc2_w x, [v, w] => rx_wd w (.constantLong own x (Int64.ofNat v))
  | .getstatic x, [0, w] => rx_wd w (.fieldLink own x "java/lang/String" "COMPACT_STRINGS" "Z")
  | .getstatic x, [1, w] => rx_wd w (.fieldLink own x "jdk/internal/util/Preconditions" "SIOOBE_FORMATTER" "Ljava/util/function/BiFunction;")
  | .invokespecial x, [9999, w] => rx_wd w (.methodLink own x Lib.objectInit)
  | .invokespecial x, [mi, n, _, w] => match rx_nth sigs mi with
    | some sg => (rx_wd w (.methodLink own x sg.1) || (decide (own = RX11) && Nat.beq x 9 && decide (sg.1 = ⟨RX8, "<init>", "()V"⟩)) || (decide (own = RX11) && Nat.beq x 30 && decide (sg.1 = ⟨RX1, "<init>", "()V"⟩)) || (decide (own = RX3) && Nat.beq x 11 && decide (sg.1 = ⟨RX8, "<init>", "()V"⟩))) && decide (sg.1.name = "<init>") && decide (sg.2.2.1 = none) && rx_sigok sg n && sg.2.2.2.2.2.2.2.1.isEmpty && rx_sgok sg && rx_wd sg.2.2.2.2.1 (.instanceMethod sg.1)
    | none => false
  | .invokevirtual x, [mi, n, ci, w] => match rx_nth sigs mi, rx_nth rc_cls ci with
    | some sg, some q => rx_wd w (.methodLink own x sg.1) && rx_sigok sg n && decide (sg.1.cls = q.1) && rx_sgok sg && rx_wd sg.2.2.2.2.1 (.instanceMethod sg.1) && rx_wd sg.2.2.2.2.2.1 (.selects sg.1.cls sg.1 sg.1)
    | _, _ => false
  | .invokestatic x, [8888, w] => rx_wd w (.methodLink own x arraycopyName)
  | .invokestatic x, [mi, n, w] => match rx_nth sigs mi with
    | some sg => rx_wd w (.methodLink own x sg.1) && rx_sigok sg n && rx_sgok sg && rx_wd sg.2.2.2.2.1 (.static sg.1)
    | none => false
  | _, _ => true
def rx_chk (ini : Bool) (own : String) (cc : ByteArray) (sigs : List RSig) (q : RRow) : Bool := decide (decode cc q.1 = .ok (q.2.1, q.2.2.1)) && (Nat.beq q.2.2.1 (rx_ilen q.2.1) || rx_isT q.2.1) && rx_aok ini own sigs q.2.1 q.2.2.2
end
section
theorem rx_nx_of {k9 : List RRow → RLoc → List Value → RHeap → Option RRes} {rest : List RRow} {pc2 : Nat} {la : RLoc} {st : List Value} {h : RHeap} {x : RRes} (hh : rx_nx k9 rest pc2 la st h = some x) : ∃ r z, rest = r :: z ∧ r.1 = pc2 ∧ k9 (r :: z) la st h = some x := by
  cases rest with
  | nil => cases hh
  | cons r z =>
    simp only [rx_nx] at hh
    cases hq : Nat.beq r.1 pc2 with
    | false => simp [hq] at hh
    | true =>
      simp only [hq] at hh
      exact ⟨r, z, rfl, Nat.eq_of_beq_eq_true hq, hh⟩
theorem rx_ald_of {O : ROld} {q : Nat → Bool} {st : List Value} {h : RHeap} {k : List Value → Option RRes} {x : RRes} (hh : rx_ald O q st h k = some x) : ∃ (i : Int32) (a : Nat) (r : List Value), st = .int i :: .ref a :: r ∧ ¬ i < 0 ∧ ((∃ t l v, (a - 1000000, t, l) ∈ O.2 ∧ 1000000 ≤ a ∧ q t = true ∧ l[i.toNatClampNeg]? = some v ∧ k (v :: r) = some x) ∨ (∃ t n u, a < 1000000 ∧ h[a]? = some (.inl (t, n, u)) ∧ q t = true ∧ i.toNatClampNeg < n ∧ k (rx_elt t u i.toNatClampNeg :: r) = some x)) := by
  unfold rx_ald at hh
  split at hh
  · rename_i i a r
    refine ⟨i, a, r, rfl, ?_⟩
    cases ho : rx_old a with
    | true =>
      simp only [ho] at hh
      cases hA : rx_oldA O.2 (a - 1000000) with
      | none => simp [hA] at hh
      | some tl =>
        obtain ⟨t, l⟩ := tl
        simp only [hA] at hh
        cases hq : q t with
        | false => simp [hq] at hh
        | true =>
          cases hi : decide (i < 0) with
          | true => simp [hq, hi] at hh
          | false =>
            simp only [hq, hi] at hh
            cases hn : rx_nth l i.toNatClampNeg with
            | none => simp [hn] at hh
            | some v =>
              simp only [hn] at hh
              rw [rx_nth_eq] at hn
              exact ⟨of_decide_eq_false hi, Or.inl ⟨t, l, v, rx_oldA_of hA, Nat.le_of_ble_eq_true ho, hq, hn, hh⟩⟩
    | false =>
      simp only [ho] at hh
      cases hA : rx_nth h a with
      | none => simp [hA] at hh
      | some cl =>
        cases cl with
        | inr y => simp [hA] at hh
        | inl y =>
          obtain ⟨t, n, u⟩ := y
          simp only [hA] at hh
          rw [rx_nth_eq] at hA
          cases hq : q t with
          | false => simp [hq] at hh
          | true =>
            cases hi : decide (i < 0) with
            | true => simp [hq, hi] at hh
            | false =>
              cases hn : Nat.blt i.toNatClampNeg n with
              | false => simp [hq, hi, hn] at hh
              | true =>
                simp only [hq, hi, hn] at hh
                exact ⟨of_decide_eq_false hi, Or.inr ⟨t, n, u, rx_old_of ho, hA, hq, Nat.le_of_ble_eq_true hn, hh⟩⟩
  · cases hh
theorem rx_ast_of {q : Nat → Bool} {f : Nat → Value → Option Value} {st : List Value} {h : RHeap} {k : List Value → RHeap → Option RRes} {x : RRes} (hh : rx_ast q f st h k = some x) : ∃ (v : Value) (i : Int32) (a : Nat) (r : List Value) (t n : Nat) (u : List (Nat × Value)) (w : Value), st = v :: .int i :: .ref a :: r ∧ ¬ i < 0 ∧ a < 1000000 ∧ h[a]? = some (.inl (t, n, u)) ∧ q t = true ∧ i.toNatClampNeg < n ∧ f t v = some w ∧ k r (h.set a (.inl (t, n, (i.toNatClampNeg, w) :: u))) = some x := by
  unfold rx_ast at hh
  split at hh
  · rename_i v i a r
    cases hA : rx_nth h a with
    | none => simp [hA] at hh
    | some cl =>
      cases cl with
      | inr y => simp [hA] at hh
      | inl y =>
        obtain ⟨t, n, u⟩ := y
        simp only [hA] at hh
        rw [rx_nth_eq] at hA
        cases hq : (q t && Nat.blt a 1000000) with
        | false => simp only [hq] at hh; cases hh
        | true =>
          cases hi : decide (i < 0) with
          | true => simp only [hq, hi] at hh; cases hh
          | false =>
            cases hn : Nat.blt i.toNatClampNeg n with
            | false => simp only [hq, hi, hn] at hh; cases hh
            | true =>
              cases hf : f t v with
              | none => simp only [hq, hi, hn, hf] at hh; cases hh
              | some w =>
                simp only [hq, hi, hn, hf, rx_lit_eq] at hh
                rw [Bool.and_eq_true] at hq
                exact ⟨v, i, a, r, t, n, u, w, rfl, of_decide_eq_false hi, Nat.le_of_ble_eq_true hq.2, hA, hq.1, Nat.le_of_ble_eq_true hn, hf, hh⟩
  · cases hh
theorem rx_gf_of {O : ROld} {ci f : Nat} {st : List Value} {h : RHeap} {k : List Value → Option RRes} {x : RRes} (hh : rx_gf O ci f st h k = some x) : ∃ (a : Nat) (r : List Value) (v : Value), st = .ref a :: r ∧ k (v :: r) = some x ∧ ((1000000 ≤ a ∧ (a - 1000000, ci, f, v) ∈ O.1) ∨ (a < 1000000 ∧ ∃ fs, h[a]? = some (.inr (ci, fs)) ∧ fs[f]? = some v)) := by
  unfold rx_gf at hh
  split at hh
  · rename_i a r
    cases ho : rx_old a with
    | true =>
      simp only [ho] at hh
      cases hA : rx_oldF O.1 (a - 1000000) ci f with
      | none => simp [hA] at hh
      | some v =>
        simp only [hA] at hh
        exact ⟨a, r, v, rfl, hh, Or.inl ⟨Nat.le_of_ble_eq_true ho, rx_oldF_of hA⟩⟩
    | false =>
      simp only [ho] at hh
      cases hA : rx_nth h a with
      | none => simp [hA] at hh
      | some cl =>
        cases cl with
        | inl y => simp [hA] at hh
        | inr y =>
          obtain ⟨c0, fs⟩ := y
          simp only [hA] at hh
          rw [rx_nth_eq] at hA
          cases hc : Nat.beq c0 ci with
          | false => simp [hc] at hh
          | true =>
            have hc2 := Nat.eq_of_beq_eq_true hc
            subst hc2
            cases hv : rx_nth fs f with
            | none => simp [hc, hv] at hh
            | some v =>
              simp only [hc, hv] at hh
              rw [rx_nth_eq] at hv
              exact ⟨a, r, v, rfl, hh, Or.inr ⟨rx_old_of ho, fs, hA, hv⟩⟩
  · cases hh
theorem rx_pf_of {ty : Option FieldType} {ci f : Nat} {st : List Value} {h : RHeap} {k : List Value → RHeap → Option RRes} {x : RRes} (hh : rx_pf ty ci f st h k = some x) : ∃ (v : Value) (a : Nat) (r : List Value) (fs : List Value) (ty2 : FieldType), st = v :: .ref a :: r ∧ ty = some ty2 ∧ a < 1000000 ∧ h[a]? = some (.inr (ci, fs)) ∧ rx_fit ty2 v = true ∧ f < fs.length ∧ k r (h.set a (.inr (ci, fs.set f v))) = some x := by
  unfold rx_pf at hh
  split at hh
  · rename_i v a r
    cases hA : rx_nth h a with
    | none => simp [hA] at hh
    | some cl =>
      cases cl with
      | inl y => simp [hA] at hh
      | inr y =>
        obtain ⟨c0, fs⟩ := y
        cases ty with
        | none => simp [hA] at hh
        | some ty2 =>
          simp only [hA] at hh
          rw [rx_nth_eq] at hA
          cases hc : Nat.beq c0 ci with
          | false => simp [hc] at hh
          | true =>
            have hc2 := Nat.eq_of_beq_eq_true hc
            subst hc2
            cases hv : rx_fit ty2 v with
            | false => simp [hc, hv] at hh
            | true =>
              cases hl : (Nat.blt f fs.length && Nat.blt a 1000000) with
              | false => simp only [hc, hv, hl] at hh; cases hh
              | true =>
                simp only [hc, hv, hl] at hh
                rw [Bool.and_eq_true] at hl
                exact ⟨v, a, r, fs, ty2, rfl, rfl, Nat.le_of_ble_eq_true hl.2, hA, hv, Nat.le_of_ble_eq_true hl.1, hh⟩
  · cases hh
end
section
theorem rx_len_of {O : ROld} {st : List Value} {h : RHeap} {k : List Value → Option RRes} {x : RRes} (hh : rx_len O st h k = some x) : ∃ (a : Nat) (r : List Value), st = .ref a :: r ∧ ((∃ t l, (a - 1000000, t, l) ∈ O.2 ∧ 1000000 ≤ a ∧ k (.int (Int32.ofNat l.length) :: r) = some x) ∨ (∃ t n u, a < 1000000 ∧ h[a]? = some (.inl (t, n, u)) ∧ k (.int (Int32.ofNat n) :: r) = some x)) := by
  unfold rx_len at hh
  split at hh
  · rename_i a r
    refine ⟨a, r, rfl, ?_⟩
    cases ho : rx_old a with
    | true =>
      simp only [ho] at hh
      cases hA : rx_oldA O.2 (a - 1000000) with
      | none => simp [hA] at hh
      | some tl =>
        obtain ⟨t, l⟩ := tl
        simp only [hA] at hh
        exact Or.inl ⟨t, l, rx_oldA_of hA, Nat.le_of_ble_eq_true ho, hh⟩
    | false =>
      simp only [ho] at hh
      cases hA : rx_nth h a with
      | none => simp [hA] at hh
      | some cl =>
        cases cl with
        | inr y => simp [hA] at hh
        | inl y =>
          obtain ⟨t, n, u⟩ := y
          simp only [hA] at hh
          rw [rx_nth_eq] at hA
          exact Or.inr ⟨t, n, u, rx_old_of ho, hA, hh⟩
  · cases hh
theorem rx_aast_of {st : List Value} {h : RHeap} {k : List Value → RHeap → Option RRes} {x : RRes} (hh : rx_aast st h k = some x) : ∃ (v : Value) (i : Int32) (a : Nat) (r : List Value) (t n : Nat) (u : List (Nat × Value)), st = v :: .int i :: .ref a :: r ∧ ¬ i < 0 ∧ a < 1000000 ∧ h[a]? = some (.inl (t, n, u)) ∧ 4 ≤ t ∧ i.toNatClampNeg < n ∧ k r (h.set a (.inl (t, n, (i.toNatClampNeg, v) :: u))) = some x ∧ (v = .null ∨ ∃ b ci vs, v = .ref b ∧ b < 1000000 ∧ h[b]? = some (.inr (ci, vs)) ∧ rc_arc[t]? = some ci) := by
  unfold rx_aast at hh
  split at hh
  · rename_i v i a r
    cases hA : rx_nth h a with
    | none => simp [hA] at hh
    | some cl =>
      cases cl with
      | inr y => simp [hA] at hh
      | inl y =>
        obtain ⟨t, n, u⟩ := y
        simp only [hA] at hh
        rw [rx_nth_eq] at hA
        cases hi : decide (i < 0) with
        | true => simp [hi] at hh
        | false =>
          cases hn : Nat.blt i.toNatClampNeg n with
          | false => simp [hi, hn] at hh
          | true =>
            cases v with
            | null =>
              simp only [hi, hn] at hh
              cases ht : (Nat.ble 4 t && Nat.blt a 1000000) with
              | false => simp only [ht] at hh; cases hh
              | true =>
                simp only [ht, rx_lit_eq] at hh
                rw [Bool.and_eq_true] at ht
                exact ⟨_, i, a, r, t, n, u, rfl, of_decide_eq_false hi, Nat.le_of_ble_eq_true ht.2, hA, Nat.le_of_ble_eq_true ht.1, Nat.le_of_ble_eq_true hn, hh, Or.inl rfl⟩
            | ref b =>
              simp only [hi, hn] at hh
              cases hB : rx_nth h b with
              | none => simp [hB] at hh
              | some cb =>
                cases cb with
                | inl y => simp [hB] at hh
                | inr y =>
                  obtain ⟨ci, vs⟩ := y
                  cases hc : rx_nth rc_arc t with
                  | none => simp [hB, hc] at hh
                  | some c0 =>
                    simp only [hB, hc] at hh
                    cases he : Nat.beq ci c0 with
                    | false => simp [he] at hh
                    | true =>
                      cases ht : (Nat.ble 4 t && Nat.blt a 1000000 && Nat.blt b 1000000) with
                      | false => simp only [he, ht] at hh; cases hh
                      | true =>
                        simp only [he, ht, rx_lit_eq] at hh
                        rw [Bool.and_eq_true, Bool.and_eq_true] at ht
                        rw [rx_nth_eq] at hB hc
                        have he2 := Nat.eq_of_beq_eq_true he
                        subst he2
                        exact ⟨_, i, a, r, t, n, u, rfl, of_decide_eq_false hi, Nat.le_of_ble_eq_true ht.1.2, hA, Nat.le_of_ble_eq_true ht.1.1, Nat.le_of_ble_eq_true hn, hh, Or.inr ⟨b, ci, vs, rfl, Nat.le_of_ble_eq_true ht.2, hB, hc⟩⟩
            | _ => simp [hi, hn] at hh
  · cases hh
theorem rx_cp0_of {st : List Value} {h : RHeap} {k : List Value → Option RRes} {x : RRes} (hh : rx_cp0 st h k = some x) : ∃ (a b n0 n1 : Nat) (u0 u1 : List (Nat × Value)) (r : List Value), st = .int 0 :: .int 0 :: .ref a :: .int 0 :: .ref b :: r ∧ a < 1000000 ∧ b < 1000000 ∧ h[a]? = some (.inl (2, n1, u1)) ∧ h[b]? = some (.inl (2, n0, u0)) ∧ rx_cats r ≤ 8 ∧ k r = some x := by
  unfold rx_cp0 at hh
  split at hh
  · rename_i n dp a sp b r
    cases g1 : decide (n = 0) <;> cases g2 : decide (dp = 0) <;> cases g3 : decide (sp = 0) <;> cases g4 : (Nat.blt a 1000000 && Nat.blt b 1000000 && Nat.ble (rx_cats r) 8) <;> simp only [g1, g2, g3, g4] at hh <;> first | (cases hh; done) | skip
    split at hh
    · rename_i g5 g6
      have e1 := of_decide_eq_true g1
      have e2 := of_decide_eq_true g2
      have e3 := of_decide_eq_true g3
      subst e1 e2 e3
      rw [Bool.and_eq_true, Bool.and_eq_true] at g4
      rw [rx_nth_eq] at g5 g6
      exact ⟨a, b, _, _, _, _, r, rfl, Nat.le_of_ble_eq_true g4.1.1, Nat.le_of_ble_eq_true g4.1.2, g5, g6, Nat.le_of_ble_eq_true g4.2, hh⟩
    · cases hh
  · cases hh
theorem rx_new_of {ci : Nat} {st : List Value} {h : RHeap} {k : List Value → RHeap → Option RRes} {x : RRes} (hh : rx_new ci st h k = some x) : ∃ fs, rc_dfl[ci]? = some fs ∧ h.length < 1000000 ∧ rx_more 1 fs.length (k (.ref h.length :: st) (h ++ [.inr (ci, fs)])) = some x := by
  unfold rx_new at hh
  split at hh
  · rename_i fs hfs
    rw [rx_nth_eq] at hfs
    cases hl : Nat.blt h.length 1000000 with
    | false => simp [hl] at hh
    | true =>
      simp only [hl] at hh
      exact ⟨fs, hfs, Nat.le_of_ble_eq_true hl, hh⟩
  · cases hh
theorem rx_newa_of {t : Nat} {st : List Value} {h : RHeap} {k : List Value → RHeap → Option RRes} {x : RRes} (hh : rx_newa t st h k = some x) : ∃ (n : Int32) (r : List Value), st = .int n :: r ∧ ¬ n < 0 ∧ n.toNatClampNeg < 60000000 ∧ h.length < 1000000 ∧ rx_more 1 n.toNatClampNeg (k (.ref h.length :: r) (h ++ [.inl (t, n.toNatClampNeg, [])])) = some x := by
  unfold rx_newa at hh
  split at hh
  · rename_i n r
    cases hi : decide (n < 0) with
    | true => simp [hi] at hh
    | false =>
      cases hn : Nat.blt n.toNatClampNeg 60000000 with
      | false => simp [hi, hn] at hh
      | true =>
        cases hl : (Nat.blt t rc_arr.length && Nat.blt h.length 1000000) with
        | false => simp only [hi, hn, hl] at hh; cases hh
        | true =>
          simp only [hi, hn, hl, rx_lit_eq] at hh
          rw [Bool.and_eq_true] at hl
          exact ⟨n, r, rfl, of_decide_eq_false hi, Nat.le_of_ble_eq_true hn, Nat.le_of_ble_eq_true hl.2, hh⟩
  · cases hh
theorem rx_inv1_of {O : ROld} {C9 : Nat → List Value → RHeap → Option RRes} {st : List Value} {h : RHeap} {mi n ci : Nat} {k : List Value → Option RRes → Option RRes} {x : RRes} (hh : rx_inv O C9 st h mi n ci 1 k = some x) : ∃ (as r : List Value) (a : Nat), rx_take n [] st = some (as, .ref a :: r) ∧ rx_cats r ≤ 8 ∧ rx_recv O ci h (.ref a) = true ∧ k r (C9 mi (.ref a :: as) h) = some x := by
  unfold rx_inv at hh
  split at hh
  · rename_i as r ht
    cases r with
    | nil => cases hh
    | cons b r =>
      simp only at hh
      cases hc : Nat.ble (rx_cats r) 8 with
      | false => simp [hc] at hh
      | true =>
        cases hr : rx_recv O ci h b with
        | false => simp [hc, hr] at hh
        | true =>
          simp only [hc, hr] at hh
          cases b with
          | ref a => exact ⟨as, r, a, ht, Nat.le_of_ble_eq_true hc, hr, hh⟩
          | _ => cases hr
  · cases hh
theorem rx_inv0_of {O : ROld} {C9 : Nat → List Value → RHeap → Option RRes} {st : List Value} {h : RHeap} {mi n ci : Nat} {k : List Value → Option RRes → Option RRes} {x : RRes} (hh : rx_inv O C9 st h mi n ci 0 k = some x) : ∃ (as r : List Value), rx_take n [] st = some (as, r) ∧ rx_cats r ≤ 8 ∧ k r (C9 mi as h) = some x := by
  unfold rx_inv at hh
  split at hh
  · rename_i as r ht
    simp only at hh
    cases hc : Nat.ble (rx_cats r) 8 with
    | false => simp [hc] at hh
    | true =>
      simp only [hc] at hh
      exact ⟨as, r, ht, Nat.le_of_ble_eq_true hc, hh⟩
  · cases hh
theorem rx_backN_of {r : List Value} {o : Option RRes} {k : List Value → RHeap → Option RRes} {x : RRes} (hh : rx_backN r o k = some x) : ∃ v h2 mc2 ms2, o = some (.inl v, h2, mc2, ms2) ∧ rx_more mc2 ms2 (k (v.toList ++ r) h2) = some x := by
  unfold rx_backN at hh
  split at hh
  · exact ⟨none, _, _, _, rfl, hh⟩
  · exact ⟨some _, _, _, _, rfl, hh⟩
  · cases hh
theorem rx_back_of {hh9 : List (Nat × Nat × Nat × Nat)} {pc : Nat} {r : List Value} {o : Option RRes} {k : List Value → RHeap → Option RRes} {kx : Nat → RHeap → Option RRes} {x : RRes} (hh : rx_back hh9 pc r o k kx = some x) : (∃ v h2 mc2 ms2, o = some (.inl v, h2, mc2, ms2) ∧ rx_more mc2 ms2 (k (v.toList ++ r) h2) = some x) ∨ (∃ E h2 mc2 ms2 t, o = some (.inr E, h2, mc2, ms2) ∧ rx_hand pc E hh9 = some t ∧ rx_more mc2 ms2 (kx t h2) = some x) ∨ (∃ E h2 mc2 ms2, o = some (.inr E, h2, mc2, ms2) ∧ rx_hand pc E hh9 = none ∧ x = (.inr E, h2, mc2, ms2)) := by
  unfold rx_back at hh
  split at hh
  · exact Or.inl ⟨none, _, _, _, rfl, hh⟩
  · exact Or.inl ⟨some _, _, _, _, rfl, hh⟩
  · rename_i E h2 mc2 ms2
    cases hn : rx_hand pc E hh9 with
    | some t =>
      simp only [hn] at hh
      exact Or.inr (Or.inl ⟨E, h2, mc2, ms2, t, rfl, hn, hh⟩)
    | none =>
      simp only [hn] at hh
      exact Or.inr (Or.inr ⟨E, h2, mc2, ms2, rfl, hn, (Option.some.inj hh).symm⟩)
  · cases hh
theorem rx_chk_of {ini : Bool} {own : String} {cc : ByteArray} {sigs : List RSig} {pc : Nat} {i : Instr} {len : Nat} {aux : List Nat} (h : rx_chk ini own cc sigs (pc, i, len, aux) = true) : decode cc pc = .ok (i, len) ∧ (len = rx_ilen i ∨ rx_isT i = true) ∧ rx_aok ini own sigs i aux = true := by
  unfold rx_chk at h
  rw [Bool.and_eq_true, Bool.and_eq_true, Bool.or_eq_true] at h
  obtain ⟨⟨h1, h2⟩, h3⟩ := h
  exact ⟨of_decide_eq_true h1, h2.elim (fun z => Or.inl (Nat.eq_of_beq_eq_true z)) Or.inr, h3⟩
/-! facts of the tables of kinds -/
def rx_plainV : Value → Bool
  | .int _ => true
  | .long _ => true
  | .null => true
  | _ => false
theorem rx_RL_plain {old : Nat → Nat} {rho : UInt32 → Int32} {ads : List Nat} : ∀ {fs : List Value}, fs.all rx_plainV = true → rx_RL old rho ads fs fs
  | [], _ => trivial
  | v :: fs, h => by
    rw [List.all_cons, Bool.and_eq_true] at h
    refine ⟨?_, rx_RL_plain h.2⟩
    cases v with
    | int x => rfl
    | long x => rfl
    | null => rfl
    | _ => cases h.1
theorem rc_dfl_plain : ∀ fs ∈ rc_dfl, fs.all rx_plainV = true := by decide +kernel
theorem rc_has {ci : Nat} {C : String} {T : u_T} {N : Nat} (h : rc_cls[ci]? = some (C, T, N)) : ∃ (ty : Nat → FieldType) (fs : List Value), (∀ k, k < N → parseFieldDescriptor (T k).2.2.1 = some (ty k)) ∧ (∀ a, a < N → ∀ b, b < N → a ≠ b → (T a).2.1 ≠ (T b).2.1) ∧ rc_dfl[ci]? = some fs ∧ fs.length = N ∧ (∀ j, j < N → defaultValue (ty j) = vp_V fs j) ∧ (∀ k, k < N → rc_fty ci k = some (ty k)) := by
  match ci, h with
  | 0, h =>
    cases h
    exact ⟨tyX0, _, tyX0_ok, nmX0, rfl, rfl, by decide +kernel, by decide +kernel⟩
  | 1, h =>
    cases h
    exact ⟨tyX1, _, tyX1_ok, nmX1, rfl, rfl, by decide +kernel, by decide +kernel⟩
  | 2, h =>
    cases h
    exact ⟨tyX2, _, tyX2_ok, nmX2, rfl, rfl, by decide +kernel, by decide +kernel⟩
  | 3, h =>
    cases h
    exact ⟨tyX3, _, tyX3_ok, nmX3, rfl, rfl, by decide +kernel, by decide +kernel⟩
  | 4, h =>
    cases h
    exact ⟨tyX4, _, tyX4_ok, nmX4, rfl, rfl, by decide +kernel, by decide +kernel⟩
  | 5, h =>
    cases h
    exact ⟨tyX5, _, tyX5_ok, nmX5, rfl, rfl, by decide +kernel, by decide +kernel⟩
  | 6, h =>
    cases h
    exact ⟨tyX6, _, tyX6_ok, nmX6, rfl, rfl, by decide +kernel, by decide +kernel⟩
  | 7, h =>
    cases h
    exact ⟨tyX7, _, tyX7_ok, nmX7, rfl, rfl, by decide +kernel, by decide +kernel⟩
  | 8, h =>
    cases h
    exact ⟨tyX8, _, tyX8_ok, nmX8, rfl, rfl, by decide +kernel, by decide +kernel⟩
  | 9, h =>
    cases h
    exact ⟨tyX9, _, tyX9_ok, nmX9, rfl, rfl, by decide +kernel, by decide +kernel⟩
  | 10, h =>
    cases h
    exact ⟨tyX10, _, tyX10_ok, nmX10, rfl, rfl, by decide +kernel, by decide +kernel⟩
  | 11, h =>
    cases h
    exact ⟨tyX11, _, tyX11_ok, nmX11, rfl, rfl, by decide +kernel, by decide +kernel⟩
  | 12, h =>
    cases h
    exact ⟨tyX12, _, tyX12_ok, nmX12, rfl, rfl, by decide +kernel, by decide +kernel⟩
  | 13, h =>
    cases h
    exact ⟨tyJ0, _, tyJ0_ok, nmJ0, rfl, rfl, by decide +kernel, by decide +kernel⟩
  | k + 14, h => cases h
def rc_wpos : List (Nat × Nat) := [(361, 188), (330, 187), (530, 193), (590, 195), (452, 192), (367, 189), (405, 191), (549, 194), (218, 181), (373, 190), (232, 182), (210, 180), (1780, 199), (1511, 183)]
def rc_wok (ci : Nat) : Bool := match rx_nth rc_cls ci, rx_nth rc_wpos ci with
  | some q, some w => rx_wd w.1 (.instantiable q.1 q.2.2) && rx_wd w.2 (.initialized q.1)
  | _, _ => false
theorem rx_lay_in {C : String} {T : u_T} {N : Nat} (ps : List Nat) (h : (List.range N).all (fun k => match rx_nth ps k with | some w => rx_wd w (u_lay C T k) | none => false) = true) : ∀ w ∈ u_ws C T N, w ∈ rc_good := by
  intro w hw
  obtain ⟨k, hk, rfl⟩ := List.mem_map.mp hw
  have h1 := List.all_eq_true.mp h k hk
  split at h1
  · exact rx_wd_mem h1
  · cases h1
theorem rc_ws_in {ci : Nat} {C : String} {T : u_T} {N : Nat} (h : rc_cls[ci]? = some (C, T, N)) : ∀ w ∈ u_ws C T N, w ∈ rc_good := by
  match ci, h with
  | 0, h =>
    cases h
    exact fun w hw => rx_lay_in [578, 580, 582, 584, 586] (by decide +kernel) w hw
  | 1, h =>
    cases h
    exact fun w hw => rx_lay_in [347, 349, 351, 353, 355, 357] (by decide +kernel) w hw
  | 2, h =>
    cases h
    exact fun w hw => rx_lay_in [539, 541, 543, 545] (by decide +kernel) w hw
  | 3, h =>
    cases h
    exact fun w hw => rx_lay_in [616, 618, 620, 622, 624, 626, 628, 630, 632, 634, 636, 638, 640, 642, 644, 646, 648, 650, 652] (by decide +kernel) w hw
  | 4, h =>
    cases h
    exact fun w hw => rx_lay_in [478, 480, 482, 484, 486, 488, 490] (by decide +kernel) w hw
  | 5, h =>
    cases h
    exact fun w hw => rx_lay_in [510, 512, 514, 516, 518, 520, 522, 524, 526] (by decide +kernel) w hw
  | 6, h =>
    cases h
    exact fun w hw => rx_lay_in [433, 435, 437, 439, 441, 443, 445, 447] (by decide +kernel) w hw
  | 7, h =>
    cases h
    exact fun w hw => rx_lay_in [560, 562, 564, 566, 568, 570] (by decide +kernel) w hw
  | 8, h =>
    cases h
    exact fun w hw => rx_lay_in [225, 227] (by decide +kernel) w hw
  | 9, h =>
    cases h
    exact fun w hw => rx_lay_in [393, 395, 397, 399, 401] (by decide +kernel) w hw
  | 10, h =>
    cases h
    exact fun w hw => rx_lay_in [306, 308, 310, 312, 314, 316, 318, 320, 322, 324] (by decide +kernel) w hw
  | 11, h =>
    cases h
    exact fun w hw => rx_lay_in [682, 684, 686, 688, 690, 692, 694] (by decide +kernel) w hw
  | 12, h =>
    cases h
    exact fun w hw => rx_lay_in [1913, 1915, 1917, 1919, 1921, 1923, 1925, 1927, 1929, 1931, 1933, 1935, 1937, 1939, 1941, 1943, 1945, 1947, 1949, 1951, 1953, 1955, 1957, 1959, 1961, 1963, 1965, 1967, 1969, 1971, 1973, 1975, 1977, 1979, 1981, 1983, 1985, 1987, 1989, 1991, 1993, 1995, 1997, 1999, 2001, 2003, 2005, 2007, 2009, 2011, 2013, 2015, 2017, 2019, 2021, 2023, 2025, 2027, 2029, 2031, 2033, 2035, 2037, 2039, 2041, 2043, 2045, 2047, 2049, 2051, 2053, 2055, 2057, 2059, 2061, 2063, 2065, 2067, 2069, 2071, 2073, 2075, 2077, 2079, 2081, 2083, 2085, 2087, 2089, 2091, 2093, 2095, 2097, 2099, 2101, 2103, 2105, 2107, 2109, 2111, 2113, 2115, 2117] (by decide +kernel) w hw
  | 13, h =>
    cases h
    exact fun w hw => rx_lay_in [1556, 1558, 1560, 1562] (by decide +kernel) w hw
  | k + 14, h => cases h
end
section
theorem rx_lret_of {O : ROld} {F : RFacts} {C9 : Nat → List Value → RHeap → Option RRes} {I : RInf} {k9 : List RRow → RLoc → List Value → RHeap → Option RRes} {pc len : Nat} {aux : List Nat} {rest : List RRow} {la : RLoc} {st : List Value} {h hf0 : RHeap} {o0 : Option Value ⊕ Nat} {mc ms : Nat} (hh : rx_one O F C9 I k9 pc .lreturn len aux rest la st h = some (o0, hf0, mc, ms)) : ∃ v, st = [v] ∧ I.2.1 = 5 ∧ rx_isL v = true ∧ o0 = .inl (some v) ∧ h = hf0 ∧ 0 = mc ∧ 0 = ms := by
  simp only [rx_one] at hh
  split at hh
  · rename_i v hk9
    cases hq : rx_isL v with
    | false => simp [hq] at hh
    | true =>
      simp only [hq, Option.some.injEq, Prod.mk.injEq] at hh
      obtain ⟨e1, e2, e3, e4⟩ := hh
      exact ⟨v, rfl, hk9, hq, e1.symm, e2, e3, e4⟩
  · cases hh
theorem rx_aret_of {O : ROld} {F : RFacts} {C9 : Nat → List Value → RHeap → Option RRes} {I : RInf} {k9 : List RRow → RLoc → List Value → RHeap → Option RRes} {pc len : Nat} {aux : List Nat} {rest : List RRow} {la : RLoc} {st : List Value} {h hf0 : RHeap} {o0 : Option Value ⊕ Nat} {mc ms : Nat} (hh : rx_one O F C9 I k9 pc .areturn len aux rest la st h = some (o0, hf0, mc, ms)) : ∃ v, st = [v] ∧ I.2.1 = 6 ∧ rx_isA v = true ∧ o0 = .inl (some v) ∧ h = hf0 ∧ 0 = mc ∧ 0 = ms := by
  simp only [rx_one] at hh
  split at hh
  · rename_i v hk9
    cases hq : rx_isA v with
    | false => simp [hq] at hh
    | true =>
      simp only [hq, Option.some.injEq, Prod.mk.injEq] at hh
      obtain ⟨e1, e2, e3, e4⟩ := hh
      exact ⟨v, rfl, hk9, hq, e1.symm, e2, e3, e4⟩
  · cases hh
theorem rx_iret_of {O : ROld} {F : RFacts} {C9 : Nat → List Value → RHeap → Option RRes} {I : RInf} {k9 : List RRow → RLoc → List Value → RHeap → Option RRes} {pc len : Nat} {aux : List Nat} {rest : List RRow} {la : RLoc} {st : List Value} {h hf0 : RHeap} {o0 : Option Value ⊕ Nat} {mc ms : Nat} (hh : rx_one O F C9 I k9 pc .ireturn len aux rest la st h = some (o0, hf0, mc, ms)) : ∃ v, st = [v] ∧ ((I.2.1 = 1 ∧ rx_isI v = true) ∨ (∃ x, v = .int x ∧ ((I.2.1 = 2 ∧ narrow .boolean (.int x) = .int x) ∨ (I.2.1 = 3 ∧ narrow .byte (.int x) = .int x) ∨ (I.2.1 = 4 ∧ narrow .char (.int x) = .int x)))) ∧ o0 = .inl (some v) ∧ h = hf0 ∧ 0 = mc ∧ 0 = ms := by
  simp only [rx_one] at hh
  split at hh
  · rename_i x hk9
    simp only [Option.some.injEq, Prod.mk.injEq] at hh
    obtain ⟨e1, e2, e3, e4⟩ := hh
    exact ⟨_, rfl, Or.inl ⟨hk9, rfl⟩, e1.symm, e2, e3, e4⟩
  · rename_i x hk9
    simp only [Option.some.injEq, Prod.mk.injEq] at hh
    obtain ⟨e1, e2, e3, e4⟩ := hh
    exact ⟨_, rfl, Or.inl ⟨hk9, rfl⟩, e1.symm, e2, e3, e4⟩
  · rename_i x hk9
    split at hh
    · rename_i hq
      simp only [Option.some.injEq, Prod.mk.injEq] at hh
      obtain ⟨e1, e2, e3, e4⟩ := hh
      exact ⟨_, rfl, Or.inr ⟨x, rfl, Or.inl ⟨hk9, of_decide_eq_true hq⟩⟩, e1.symm, e2, e3, e4⟩
    · cases hh
  · rename_i x hk9
    split at hh
    · rename_i hq
      simp only [Option.some.injEq, Prod.mk.injEq] at hh
      obtain ⟨e1, e2, e3, e4⟩ := hh
      exact ⟨_, rfl, Or.inr ⟨x, rfl, Or.inr (Or.inl ⟨hk9, of_decide_eq_true hq⟩)⟩, e1.symm, e2, e3, e4⟩
    · cases hh
  · rename_i x hk9
    split at hh
    · rename_i hq
      simp only [Option.some.injEq, Prod.mk.injEq] at hh
      obtain ⟨e1, e2, e3, e4⟩ := hh
      exact ⟨_, rfl, Or.inr ⟨x, rfl, Or.inr (Or.inr ⟨hk9, of_decide_eq_true hq⟩)⟩, e1.symm, e2, e3, e4⟩
    · cases hh
  · cases hh
section Tsw
variable {p : Program} {l : Launch} {e : Env} {R : Room} {s : State} {m : MethodId} {args : Array Value} {below : List Frame} {meth : Method} {c : Code} {Q : State → Prop} {cc : ByteArray} {D : va_G} {cA : Nat → ClassId} {A : Nat → Prop} {old : Nat → Nat} {rho : UInt32 → Int32} {nL MC MS : Nat} {ad0 : List Nat} {O : ROld} {F : RFacts} {C9 : Nat → List Value → RHeap → Option RRes} {I : RInf} {k9 : List RRow → RLoc → List Value → RHeap → Option RRes} {own : String} {Ts : List Jvm.Cond} {ini : Bool} {sigs : List RSig} {o0 : Option Value ⊕ Nat} {hf0 : RHeap}
theorem rx_cb_lt {x lo : Int32} (h : rx_cb .lt x lo = true) : x.toInt < lo.toInt := Int32.lt_iff_toInt_lt.mp (of_decide_eq_true h)
theorem rx_cb_gt {x lo : Int32} (h : rx_cb .gt x lo = true) : lo.toInt < x.toInt := Int32.lt_iff_toInt_lt.mp (of_decide_eq_true h)
theorem rx_tsw_ok (hx : p.tables.exec = Jvm.exec) (hb : c.code = cc) (hF : rx_FT rho F.1) {pc len : Nat} {d9 lo hi : Int} {offs : Array Int} {aux : List Nat} {rest : List RRow} {la : RLoc} {st : List Value} {h : RHeap} {mc ms : Nat} (hdec : decode cc pc = .ok (.tableswitch d9 lo hi offs, len))
    (hk : ∀ (r : RRow) (z : List RRow) (la : RLoc) (st : List Value) (h : RHeap) (mc ms : Nat), k9 (r :: z) la st h = some (o0, hf0, mc, ms) → (∀ q ∈ r :: z, q ∈ I.2.2.1) → rx_G p l e R s m args below meth c Q D cA A old rho nL MC MS ad0 r.1 la st h mc ms) (hh : rx_one O F C9 I k9 pc (.tableswitch d9 lo hi offs) len aux rest la st h = some (o0, hf0, mc, ms)) : rx_G p l e R s m args below meth c Q D cA A old rho nL MC MS ad0 pc la st h mc ms := by
  have hh : rx_tsw F.1 I.2.2.1 pc d9 lo hi offs st (fun z st => k9 z la st h) = some (o0, hf0, mc, ms) := hh
  have hgo : ∀ (off : Int) (st : List Value), rx_go I.2.2.1 pc off (fun z => k9 z la st h) = some (o0, hf0, mc, ms) → ∃ t : Nat, (pc : Int) + off = (t : Int) ∧ rx_G p l e R s m args below meth c Q D cA A old rho nL MC MS ad0 t la st h mc ms := by
    intro off st hz
    obtain ⟨r, z, h1, h2, h3⟩ := rx_go_of hz
    exact ⟨r.1, h1, hk r z la st h mc ms h3 h2⟩
  match st, hh with
  | [], hh => cases hh
  | .long _ :: _, hh => cases hh
  | .double _ :: _, hh => cases hh
  | .null :: _, hh => cases hh
  | .ref _ :: _, hh => cases hh
  | .retAddr _ :: _, hh => cases hh
  | .int x :: r, hh =>
    simp only [rx_tsw] at hh
    cases g1 : decide (x.toInt < lo) with
    | true =>
      simp only [g1] at hh
      obtain ⟨t, e1, e2⟩ := hgo _ _ hh
      exact rg_tswO hx hb hdec (Or.inl (of_decide_eq_true g1)) e1 e2
    | false =>
      cases g2 : decide (hi < x.toInt) with
      | true =>
        simp only [g1, g2] at hh
        obtain ⟨t, e1, e2⟩ := hgo _ _ hh
        exact rg_tswO hx hb hdec (Or.inr (of_decide_eq_true g2)) e1 e2
      | false =>
        simp only [g1, g2] at hh
        cases hn : rx_nth offs.toList (x.toInt - lo).toNat with
        | none => simp [hn] at hh
        | some off =>
          simp only [hn] at hh
          obtain ⟨t, e1, e2⟩ := hgo _ _ hh
          rw [rx_nth_eq] at hn
          exact rg_tswI hx hb hdec (of_decide_eq_false g1) (of_decide_eq_false g2) (by simpa using hn) e1 e2
  | .float i :: r, hh =>
    simp only [rx_tsw] at hh
    cases g1 : decide (i = 0) with
    | true => simp [g1] at hh
    | false =>
      have g1 := of_decide_eq_false g1
      by_cases g5 : rx_fact F.1 i .lt (Int32.ofInt lo) = some true ∧ (Int32.ofInt lo).toInt = lo
      · obtain ⟨t, e1, e2⟩ : ∃ t : Nat, (pc : Int) + d9 = (t : Int) ∧ rx_G p l e R s m args below meth c Q D cA A old rho nL MC MS ad0 t la r h mc ms := by
          split at hh
          · exact hgo _ _ hh
          · exact hgo _ _ hh
          · cases hh
        have g4 := rx_cb_lt (rx_fact_of hF g5.1)
        rw [g5.2] at g4
        exact rg_tswF hx hb g1 hdec (Or.inl g4) e1 e2
      · split at hh
        · rename_i g6 g7 g8
          exact absurd ⟨g7, of_decide_eq_true g8⟩ g5
        · rename_i g7 g8 g9
          obtain ⟨t, e1, e2⟩ := hgo _ _ hh
          have g4 := rx_cb_gt (rx_fact_of hF g7)
          rw [of_decide_eq_true g8] at g4
          exact rg_tswF hx hb g1 hdec (Or.inr g4) e1 e2
        · cases hh
end Tsw
section StepT
variable {p : Program} {l : Launch} {e : Env} {R : Room} {s : State} {m : MethodId} {args : Array Value} {below : List Frame} {meth : Method} {c : Code} {Q : State → Prop} {cc : ByteArray} {D : va_G} {cA : Nat → ClassId} {A : Nat → Prop} {old : Nat → Nat} {rho : UInt32 → Int32} {nL MC MS : Nat} {ad0 : List Nat} {O : ROld} {F : RFacts} {C9 : Nat → List Value → RHeap → Option RRes} {I : RInf} {k9 : List RRow → RLoc → List Value → RHeap → Option RRes} {own : String} {Ts : List Jvm.Cond} {ini : Bool} {sigs : List RSig} {o0 : Option Value ⊕ Nat} {hf0 : RHeap}
set_option maxHeartbeats 4000000 in
theorem rx_one_ok (hx : p.tables.exec = Jvm.exec) (hb : c.code = cc) (hml : c.maxLocals = nL) (hown : s.vm.findClass own = some m.cls) (hts : ∀ w ∈ rc_good, w.before args s = true) (hE : rx_E O D cA A old rho s) (hF : rx_FT2 rho F) (hMC : MC ≤ R.cells) (hMS : MS ≤ R.slots) (hfr : 1 ≤ R.frames) (hlo : 200 ≤ R.locals) (hini : ini = true → meth.name = "<init>") (hI : I.1 = nL)
    (hk : ∀ (r : RRow) (z : List RRow) (la : RLoc) (st : List Value) (h : RHeap) (mc ms : Nat), k9 (r :: z) la st h = some (o0, hf0, mc, ms) → (∀ q ∈ r :: z, q ∈ I.2.2.1) → rx_G p l e R s m args below meth c Q D cA A old rho nL MC MS ad0 r.1 la st h mc ms)
    (hcI : ∀ (pc x mi n ci w : Nat) (la : RLoc) (st as r : List Value) (a : Nat) (h h2 : RHeap) (v : Option Value) (mc ms mc2 ms2 : Nat), decode cc pc = .ok (.invokespecial x, 3) → rx_aok ini own sigs (.invokespecial x) [mi, n, ci, w] = true → rx_take n [] st = some (as, .ref a :: r) → rx_cats r ≤ 8 → rx_recv O ci h (.ref a) = true → C9 mi (.ref a :: as) h = some (.inl v, h2, mc2, ms2) → rx_G p l e R s m args below meth c Q D cA A old rho nL MC MS ad0 (pc + 3) la (v.toList ++ r) h2 mc ms → rx_G p l e R s m args below meth c Q D cA A old rho nL MC MS ad0 pc la st h (mc + mc2) (ms + ms2))
    (hcV : ∀ (pc x mi n ci w : Nat) (la : RLoc) (st as r : List Value) (a : Nat) (h h2 : RHeap) (v : Option Value) (mc ms mc2 ms2 : Nat), decode cc pc = .ok (.invokevirtual x, 3) → rx_aok ini own sigs (.invokevirtual x) [mi, n, ci, w] = true → rx_take n [] st = some (as, .ref a :: r) → rx_cats r ≤ 8 → rx_recv O ci h (.ref a) = true → C9 mi (.ref a :: as) h = some (.inl v, h2, mc2, ms2) → rx_G p l e R s m args below meth c Q D cA A old rho nL MC MS ad0 (pc + 3) la (v.toList ++ r) h2 mc ms → rx_G p l e R s m args below meth c Q D cA A old rho nL MC MS ad0 pc la st h (mc + mc2) (ms + ms2))
    (hcS : ∀ (pc x mi n w : Nat) (la : RLoc) (st as r : List Value) (h h2 : RHeap) (v : Option Value) (mc ms mc2 ms2 : Nat), decode cc pc = .ok (.invokestatic x, 3) → rx_aok ini own sigs (.invokestatic x) [mi, n, w] = true → rx_take n [] st = some (as, r) → rx_cats r ≤ 8 → C9 mi as h = some (.inl v, h2, mc2, ms2) → rx_G p l e R s m args below meth c Q D cA A old rho nL MC MS ad0 (pc + 3) la (v.toList ++ r) h2 mc ms → rx_G p l e R s m args below meth c Q D cA A old rho nL MC MS ad0 pc la st h (mc + mc2) (ms + ms2))
    (hcX : ∀ (pc x mi n ci w E : Nat) (la : RLoc) (st as r : List Value) (a : Nat) (h h2 : RHeap) (mc2 ms2 : Nat), decode cc pc = .ok (.invokevirtual x, 3) → rx_aok ini own sigs (.invokevirtual x) [mi, n, ci, w] = true → rx_take n [] st = some (as, .ref a :: r) → rx_cats r ≤ 8 → rx_recv O ci h (.ref a) = true → C9 mi (.ref a :: as) h = some (.inr E, h2, mc2, ms2) → rx_hand pc E I.2.2.2 = none → o0 = .inr E → hf0 = h2 → rx_G p l e R s m args below meth c Q D cA A old rho nL MC MS ad0 pc la st h mc2 ms2)
    (hcH : ∀ (pc x mi n ci w E t : Nat) (la : RLoc) (st as r : List Value) (a : Nat) (h h2 : RHeap) (mc ms mc2 ms2 : Nat), decode cc pc = .ok (.invokevirtual x, 3) → rx_aok ini own sigs (.invokevirtual x) [mi, n, ci, w] = true → rx_take n [] st = some (as, .ref a :: r) → rx_cats r ≤ 8 → rx_recv O ci h (.ref a) = true → C9 mi (.ref a :: as) h = some (.inr E, h2, mc2, ms2) → rx_hand pc E I.2.2.2 = some t → rx_G p l e R s m args below meth c Q D cA A old rho nL MC MS ad0 t la [.ref 2000000] h2 mc ms → rx_G p l e R s m args below meth c Q D cA A old rho nL MC MS ad0 pc la st h (mc + mc2) (ms + ms2))
    (hXn : ∀ (pc x E w : Nat) (la : RLoc) (st : List Value), decode cc pc = .ok (.new x, 3) → rx_aok ini own sigs (.new x) [7777, E, w] = true → (∃ z, (pc, .new x, 3, [7777, E, w]) ∈ I.2.2.1 ∧ z = 0) → I.2.2.2 = [] → st = [] → o0 = .inr E → rx_G p l e R s m args below meth c Q D cA A old rho nL MC MS ad0 pc la st hf0 1 6)
    (hRv : ∀ (pc : Nat) (la : RLoc), decode cc pc = .ok (.return_, 1) → o0 = .inl none → I.2.1 = 0 → rx_G p l e R s m args below meth c Q D cA A old rho nL MC MS ad0 pc la [] hf0 0 0)
    (hRi : ∀ (pc : Nat) (la : RLoc) (v : Value), decode cc pc = .ok (.ireturn, 1) → o0 = .inl (some v) → (I.2.1 = 1 ∧ rx_isI v = true) ∨ (∃ x, v = .int x ∧ ((I.2.1 = 2 ∧ narrow .boolean (.int x) = .int x) ∨ (I.2.1 = 3 ∧ narrow .byte (.int x) = .int x) ∨ (I.2.1 = 4 ∧ narrow .char (.int x) = .int x))) → rx_G p l e R s m args below meth c Q D cA A old rho nL MC MS ad0 pc la [v] hf0 0 0)
    (hRl : ∀ (pc : Nat) (la : RLoc) (v : Value), decode cc pc = .ok (.lreturn, 1) → o0 = .inl (some v) → I.2.1 = 5 → rx_isL v = true → rx_G p l e R s m args below meth c Q D cA A old rho nL MC MS ad0 pc la [v] hf0 0 0)
    (hRa : ∀ (pc : Nat) (la : RLoc) (v : Value), decode cc pc = .ok (.areturn, 1) → o0 = .inl (some v) → I.2.1 = 6 → rx_isA v = true → rx_G p l e R s m args below meth c Q D cA A old rho nL MC MS ad0 pc la [v] hf0 0 0)
    (hO1 : ∀ q ∈ O.1, q.1 < 1000000) (hO2 : ∀ q ∈ O.2, q.1 < 1000000 ∧ (q.2.1 = 0 ∨ q.2.1 = 2)) (hwk : ∀ (ci : Nat) (q : vw_C), rc_cls[ci]? = some q → (Cond.instantiable q.1 q.2.2).before args s = true ∧ (Cond.initialized q.1).before args s = true) (hak : ∀ ty, ty ∈ rc_arr → ty ≠ .object RX4 → ty ≠ .object RX9 → (Cond.arrayClass ty).before args s = true) (hcp : (Cond.native arraycopyName).before args s = true ∧ (Cond.static arraycopyName).before args s = true ∧ (Cond.initialized "java/lang/System").before args s = true) (hoi : (Cond.instanceMethod Lib.objectInit).before args s = true ∧ (Cond.code Lib.objectInit ⟨#[0xb1]⟩ 1 none).before args s = true)
    {pc : Nat} {i : Instr} {len : Nat} {aux : List Nat} {rest : List RRow} {la : RLoc} {st : List Value} {h : RHeap} {mc ms : Nat} (hrow : rx_chk ini own cc sigs (pc, i, len, aux) = true) (hin9 : (pc, i, len, aux) ∈ I.2.2.1) (hrest : ∀ q ∈ rest, q ∈ I.2.2.1) (hh : rx_one O F C9 I k9 pc i len aux rest la st h = some (o0, hf0, mc, ms)) : rx_G p l e R s m args below meth c Q D cA A old rho nL MC MS ad0 pc la st h mc ms := by
  obtain ⟨hdec, hlen, haok⟩ := rx_chk_of hrow
  have hnx : ∀ (la : RLoc) (st : List Value) (h : RHeap) (mc ms : Nat), rx_nx k9 rest (pc + len) la st h = some (o0, hf0, mc, ms) → rx_G p l e R s m args below meth c Q D cA A old rho nL MC MS ad0 (pc + len) la st h mc ms := by
    intro la st h mc ms hz
    obtain ⟨r, z, rfl, h1, h2⟩ := rx_nx_of hz
    rw [← h1]
    exact hk r z la st h mc ms h2 hrest
  have hgo : ∀ (off : Int) (la : RLoc) (st : List Value) (h : RHeap) (mc ms : Nat), rx_go I.2.2.1 pc off (fun z => k9 z la st h) = some (o0, hf0, mc, ms) → ∃ t : Nat, (pc : Int) + off = (t : Int) ∧ rx_G p l e R s m args below meth c Q D cA A old rho nL MC MS ad0 t la st h mc ms := by
    intro off la st h mc ms hz
    obtain ⟨r, z, h1, h2, h3⟩ := rx_go_of hz
    exact ⟨r.1, h1, hk r z la st h mc ms h3 h2⟩
  have hw : ∀ {w : Nat} {d : Jvm.Cond}, rx_wd w d = true → d.before args s = true := fun hq => hts _ (rx_wd_mem hq)
  have hK := hE.1
  have hA := hE.2.1
  cases i
  case aload_n n =>
    have hl : len = 1 := hlen.elim id (fun z => by cases z)
    subst hl
    have hh : rx_ld rx_isA la n st (fun st => rx_nx k9 rest (pc + 1) la st h) = some (o0, hf0, mc, ms) := hh
    obtain ⟨v, g1, g2, g3⟩ := rx_ld_of hh
    exact rg_aload_n hx hb hdec g1 g2 (hnx _ _ _ _ _ g3)
  case astore_n n =>
    have hl : len = 1 := hlen.elim id (fun z => by cases z)
    subst hl
    have hh : rx_str rx_isA I.1 la n st (fun la st => rx_nx k9 rest (pc + 1) la st h) = some (o0, hf0, mc, ms) := hh
    obtain ⟨v, r, rfl, g1, g2, g3⟩ := rx_str_of hh
    exact rg_astore_n hx hb hdec g1 (by rw [← hI]; exact g2) (hnx _ _ _ _ _ g3)
  case aload n =>
    have hl : len = 2 := hlen.elim id (fun z => by cases z)
    subst hl
    have hh : rx_ld rx_isA la n st (fun st => rx_nx k9 rest (pc + 2) la st h) = some (o0, hf0, mc, ms) := hh
    obtain ⟨v, g1, g2, g3⟩ := rx_ld_of hh
    exact rg_aload hx hb hdec g1 g2 (hnx _ _ _ _ _ g3)
  case astore n =>
    have hl : len = 2 := hlen.elim id (fun z => by cases z)
    subst hl
    have hh : rx_str rx_isA I.1 la n st (fun la st => rx_nx k9 rest (pc + 2) la st h) = some (o0, hf0, mc, ms) := hh
    obtain ⟨v, r, rfl, g1, g2, g3⟩ := rx_str_of hh
    exact rg_astore hx hb hdec g1 (by rw [← hI]; exact g2) (hnx _ _ _ _ _ g3)
  case iload_n n =>
    have hl : len = 1 := hlen.elim id (fun z => by cases z)
    subst hl
    have hh : rx_ld rx_isI la n st (fun st => rx_nx k9 rest (pc + 1) la st h) = some (o0, hf0, mc, ms) := hh
    obtain ⟨v, g1, g2, g3⟩ := rx_ld_of hh
    exact rg_iload_n hx hb hdec g1 g2 (hnx _ _ _ _ _ g3)
  case istore_n n =>
    have hl : len = 1 := hlen.elim id (fun z => by cases z)
    subst hl
    have hh : rx_str rx_isI I.1 la n st (fun la st => rx_nx k9 rest (pc + 1) la st h) = some (o0, hf0, mc, ms) := hh
    obtain ⟨v, r, rfl, g1, g2, g3⟩ := rx_str_of hh
    exact rg_istore_n hx hb hdec g1 (by rw [← hI]; exact g2) (hnx _ _ _ _ _ g3)
  case iload n =>
    have hl : len = 2 := hlen.elim id (fun z => by cases z)
    subst hl
    have hh : rx_ld rx_isI la n st (fun st => rx_nx k9 rest (pc + 2) la st h) = some (o0, hf0, mc, ms) := hh
    obtain ⟨v, g1, g2, g3⟩ := rx_ld_of hh
    exact rg_iload hx hb hdec g1 g2 (hnx _ _ _ _ _ g3)
  case istore n =>
    have hl : len = 2 := hlen.elim id (fun z => by cases z)
    subst hl
    have hh : rx_str rx_isI I.1 la n st (fun la st => rx_nx k9 rest (pc + 2) la st h) = some (o0, hf0, mc, ms) := hh
    obtain ⟨v, r, rfl, g1, g2, g3⟩ := rx_str_of hh
    exact rg_istore hx hb hdec g1 (by rw [← hI]; exact g2) (hnx _ _ _ _ _ g3)
  case lload_n n =>
    have hl : len = 1 := hlen.elim id (fun z => by cases z)
    subst hl
    have hh : rx_ld rx_isL la n st (fun st => rx_nx k9 rest (pc + 1) la st h) = some (o0, hf0, mc, ms) := hh
    obtain ⟨v, g1, g2, g3⟩ := rx_ld_of hh
    exact rg_lload_n hx hb hdec g1 g2 (hnx _ _ _ _ _ g3)
  case lstore_n n =>
    have hl : len = 1 := hlen.elim id (fun z => by cases z)
    subst hl
    have hh : rx_str2 rx_isL I.1 la n st (fun la st => rx_nx k9 rest (pc + 1) la st h) = some (o0, hf0, mc, ms) := hh
    obtain ⟨v, r, rfl, g1, g2, g3⟩ := rx_str2_of hh
    exact rg_lstore_n hx hb hdec g1 (by rw [← hI]; exact g2) (hnx _ _ _ _ _ g3)
  case lload n =>
    have hl : len = 2 := hlen.elim id (fun z => by cases z)
    subst hl
    have hh : rx_ld rx_isL la n st (fun st => rx_nx k9 rest (pc + 2) la st h) = some (o0, hf0, mc, ms) := hh
    obtain ⟨v, g1, g2, g3⟩ := rx_ld_of hh
    exact rg_lload hx hb hdec g1 g2 (hnx _ _ _ _ _ g3)
  case lstore n =>
    have hl : len = 2 := hlen.elim id (fun z => by cases z)
    subst hl
    have hh : rx_str2 rx_isL I.1 la n st (fun la st => rx_nx k9 rest (pc + 2) la st h) = some (o0, hf0, mc, ms) := hh
    obtain ⟨v, r, rfl, g1, g2, g3⟩ := rx_str2_of hh
    exact rg_lstore hx hb hdec g1 (by rw [← hI]; exact g2) (hnx _ _ _ _ _ g3)
  case iinc n z =>
    have hl : len = 3 := hlen.elim id (fun z => by cases z)
    subst hl
    have hh : rx_inc I.1 la n z (fun la => rx_nx k9 rest (pc + 3) la st h) = some (o0, hf0, mc, ms) := hh
    obtain ⟨v, g1, g2, g3⟩ := rx_inc_of hh
    exact rg_iinc hx hb hdec g1 (by rw [← hI]; exact g2) (hnx _ _ _ _ _ g3)
  case iconst n =>
    have hl : len = 1 := hlen.elim id (fun z => by cases z)
    subst hl
    have hh : rx_nx k9 rest (pc + 1) la (.int (Int32.ofInt n) :: st) h = some (o0, hf0, mc, ms) := hh
    exact rg_iconst hx hb hdec (hnx _ _ _ _ _ hh)
  case bipush n =>
    have hl : len = 2 := hlen.elim id (fun z => by cases z)
    subst hl
    have hh : rx_nx k9 rest (pc + 2) la (.int (Int8.ofInt n).toInt32 :: st) h = some (o0, hf0, mc, ms) := hh
    exact rg_bipush hx hb hdec (hnx _ _ _ _ _ hh)
  case sipush n =>
    have hl : len = 3 := hlen.elim id (fun z => by cases z)
    subst hl
    have hh : rx_nx k9 rest (pc + 3) la (.int (Int16.ofInt n).toInt32 :: st) h = some (o0, hf0, mc, ms) := hh
    exact rg_sipush hx hb hdec (hnx _ _ _ _ _ hh)
  case lconst n =>
    have hl : len = 1 := hlen.elim id (fun z => by cases z)
    subst hl
    have hh : rx_nx k9 rest (pc + 1) la (.long (Int64.ofNat (n : Nat)) :: st) h = some (o0, hf0, mc, ms) := hh
    exact rg_lconst hx hb hdec (hnx _ _ _ _ _ hh)
  case aconst_null =>
    have hl : len = 1 := hlen.elim id (fun z => by cases z)
    subst hl
    have hh : rx_nx k9 rest (pc + 1) la (.null :: st) h = some (o0, hf0, mc, ms) := hh
    exact rg_aconst_null hx hb hdec (hnx _ _ _ _ _ hh)
  case dup =>
    have hl : len = 1 := hlen.elim id (fun z => by cases z)
    subst hl
    have hh : rx_dup st (fun st => rx_nx k9 rest (pc + 1) la st h) = some (o0, hf0, mc, ms) := hh
    obtain ⟨a, r, rfl, g1, g2⟩ := rx_dup_of hh
    exact rg_dup hx hb hdec g1 (hnx _ _ _ _ _ g2)
  case pop =>
    have hl : len = 1 := hlen.elim id (fun z => by cases z)
    subst hl
    have hh : rx_pop st (fun st => rx_nx k9 rest (pc + 1) la st h) = some (o0, hf0, mc, ms) := hh
    obtain ⟨a, r, rfl, g1, g2⟩ := rx_pop_of hh
    exact rg_pop hx hb hdec g1 (hnx _ _ _ _ _ g2)
  case dup_x1 =>
    have hl : len = 1 := hlen.elim id (fun z => by cases z)
    subst hl
    have hh : rx_dupx1 st (fun st => rx_nx k9 rest (pc + 1) la st h) = some (o0, hf0, mc, ms) := hh
    obtain ⟨a, b, r, rfl, g1, g3, g2⟩ := rx_dupx1_of hh
    exact rg_dup_x1 hx hb hdec g1 g3 (hnx _ _ _ _ _ g2)
  case iand =>
    have hl : len = 1 := hlen.elim id (fun z => by cases z)
    subst hl
    have hh : rx_b2 (rx_iand F.2.1) rx_isI rx_isI st (fun st => rx_nx k9 rest (pc + 1) la st h) = some (o0, hf0, mc, ms) := hh
    obtain ⟨b, a, r, rfl, g1, g2, g3⟩ := rx_b2_of hh
    exact rg_iandA hx hb hF.2.1 hdec g1 g2 (hnx _ _ _ _ _ g3)
  case iadd =>
    have hl : len = 1 := hlen.elim id (fun z => by cases z)
    subst hl
    have hh : rx_b2 (rx_ib (fun x y => x + y)) rx_isI rx_isI st (fun st => rx_nx k9 rest (pc + 1) la st h) = some (o0, hf0, mc, ms) := hh
    obtain ⟨b, a, r, rfl, g1, g2, g3⟩ := rx_b2_of hh
    exact rg_iadd hx hb hdec g1 g2 (hnx _ _ _ _ _ g3)
  case isub =>
    have hl : len = 1 := hlen.elim id (fun z => by cases z)
    subst hl
    have hh : rx_b2 (rx_ib (fun x y => x - y)) rx_isI rx_isI st (fun st => rx_nx k9 rest (pc + 1) la st h) = some (o0, hf0, mc, ms) := hh
    obtain ⟨b, a, r, rfl, g1, g2, g3⟩ := rx_b2_of hh
    exact rg_isub hx hb hdec g1 g2 (hnx _ _ _ _ _ g3)
  case imul =>
    have hl : len = 1 := hlen.elim id (fun z => by cases z)
    subst hl
    have hh : rx_b2 (rx_ib (fun x y => x * y)) rx_isI rx_isI st (fun st => rx_nx k9 rest (pc + 1) la st h) = some (o0, hf0, mc, ms) := hh
    obtain ⟨b, a, r, rfl, g1, g2, g3⟩ := rx_b2_of hh
    exact rg_imul hx hb hdec g1 g2 (hnx _ _ _ _ _ g3)
  case ior =>
    have hl : len = 1 := hlen.elim id (fun z => by cases z)
    subst hl
    have hh : rx_b2 (rx_ib (fun x y => x ||| y)) rx_isI rx_isI st (fun st => rx_nx k9 rest (pc + 1) la st h) = some (o0, hf0, mc, ms) := hh
    obtain ⟨b, a, r, rfl, g1, g2, g3⟩ := rx_b2_of hh
    exact rg_ior hx hb hdec g1 g2 (hnx _ _ _ _ _ g3)
  case ishl =>
    have hl : len = 1 := hlen.elim id (fun z => by cases z)
    subst hl
    have hh : rx_b2 (rx_ib (fun x y => x <<< (y &&& 31))) rx_isI rx_isI st (fun st => rx_nx k9 rest (pc + 1) la st h) = some (o0, hf0, mc, ms) := hh
    obtain ⟨b, a, r, rfl, g1, g2, g3⟩ := rx_b2_of hh
    exact rg_ishl hx hb hdec g1 g2 (hnx _ _ _ _ _ g3)
  case ishr =>
    have hl : len = 1 := hlen.elim id (fun z => by cases z)
    subst hl
    have hh : rx_b2 (rx_ib (fun x y => x >>> (y &&& 31))) rx_isI rx_isI st (fun st => rx_nx k9 rest (pc + 1) la st h) = some (o0, hf0, mc, ms) := hh
    obtain ⟨b, a, r, rfl, g1, g2, g3⟩ := rx_b2_of hh
    exact rg_ishr hx hb hdec g1 g2 (hnx _ _ _ _ _ g3)
  case ladd =>
    have hl : len = 1 := hlen.elim id (fun z => by cases z)
    subst hl
    have hh : rx_b2 rx_ladd rx_isL rx_isL st (fun st => rx_nx k9 rest (pc + 1) la st h) = some (o0, hf0, mc, ms) := hh
    obtain ⟨b, a, r, rfl, g1, g2, g3⟩ := rx_b2_of hh
    exact rg_laddA hx hb hdec g1 g2 (hnx _ _ _ _ _ g3)
  case lsub =>
    have hl : len = 1 := hlen.elim id (fun z => by cases z)
    subst hl
    have hh : rx_b2 (rx_lb (fun x y => x - y)) rx_isL rx_isL st (fun st => rx_nx k9 rest (pc + 1) la st h) = some (o0, hf0, mc, ms) := hh
    obtain ⟨b, a, r, rfl, g1, g2, g3⟩ := rx_b2_of hh
    exact rg_lsub hx hb hdec g1 g2 (hnx _ _ _ _ _ g3)
  case lmul =>
    have hl : len = 1 := hlen.elim id (fun z => by cases z)
    subst hl
    have hh : rx_b2 (rx_lb (fun x y => x * y)) rx_isL rx_isL st (fun st => rx_nx k9 rest (pc + 1) la st h) = some (o0, hf0, mc, ms) := hh
    obtain ⟨b, a, r, rfl, g1, g2, g3⟩ := rx_b2_of hh
    exact rg_lmul hx hb hdec g1 g2 (hnx _ _ _ _ _ g3)
  case land =>
    have hl : len = 1 := hlen.elim id (fun z => by cases z)
    subst hl
    have hh : rx_b2 (rx_lb (fun x y => x &&& y)) rx_isL rx_isL st (fun st => rx_nx k9 rest (pc + 1) la st h) = some (o0, hf0, mc, ms) := hh
    obtain ⟨b, a, r, rfl, g1, g2, g3⟩ := rx_b2_of hh
    exact rg_land hx hb hdec g1 g2 (hnx _ _ _ _ _ g3)
  case lor =>
    have hl : len = 1 := hlen.elim id (fun z => by cases z)
    subst hl
    have hh : rx_b2 (rx_lb (fun x y => x ||| y)) rx_isL rx_isL st (fun st => rx_nx k9 rest (pc + 1) la st h) = some (o0, hf0, mc, ms) := hh
    obtain ⟨b, a, r, rfl, g1, g2, g3⟩ := rx_b2_of hh
    exact rg_lor hx hb hdec g1 g2 (hnx _ _ _ _ _ g3)
  case lshl =>
    have hl : len = 1 := hlen.elim id (fun z => by cases z)
    subst hl
    have hh : rx_b2 (rx_ls (fun x y => x <<< (y.toInt64 &&& 63))) rx_isL rx_isI st (fun st => rx_nx k9 rest (pc + 1) la st h) = some (o0, hf0, mc, ms) := hh
    obtain ⟨b, a, r, rfl, g1, g2, g3⟩ := rx_b2_of hh
    exact rg_lshl hx hb hdec g1 g2 (hnx _ _ _ _ _ g3)
  case lshr =>
    have hl : len = 1 := hlen.elim id (fun z => by cases z)
    subst hl
    have hh : rx_b2 (rx_ls (fun x y => x >>> (y.toInt64 &&& 63))) rx_isL rx_isI st (fun st => rx_nx k9 rest (pc + 1) la st h) = some (o0, hf0, mc, ms) := hh
    obtain ⟨b, a, r, rfl, g1, g2, g3⟩ := rx_b2_of hh
    exact rg_lshr hx hb hdec g1 g2 (hnx _ _ _ _ _ g3)
  case lushr =>
    have hl : len = 1 := hlen.elim id (fun z => by cases z)
    subst hl
    have hh : rx_b2 (rx_ls (fun x y => (x.toUInt64 >>> (y.toInt64.toUInt64 &&& Int64.toUInt64 63)).toInt64)) rx_isL rx_isI st (fun st => rx_nx k9 rest (pc + 1) la st h) = some (o0, hf0, mc, ms) := hh
    obtain ⟨b, a, r, rfl, g1, g2, g3⟩ := rx_b2_of hh
    exact rg_lushr hx hb hdec g1 g2 (hnx _ _ _ _ _ g3)
  case lcmp =>
    have hl : len = 1 := hlen.elim id (fun z => by cases z)
    subst hl
    have hh : rx_b2 (rx_lcA F.2.2) rx_isL rx_isL st (fun st => rx_nx k9 rest (pc + 1) la st h) = some (o0, hf0, mc, ms) := hh
    obtain ⟨b, a, r, rfl, g1, g2, g3⟩ := rx_b2_of hh
    exact rg_lcmpA hx hb hF.2.2 hdec g1 g2 (hnx _ _ _ _ _ g3)
  case ineg =>
    have hl : len = 1 := hlen.elim id (fun z => by cases z)
    subst hl
    have hh : rx_b1 (rx_iu (fun x => -x)) rx_isI st (fun st => rx_nx k9 rest (pc + 1) la st h) = some (o0, hf0, mc, ms) := hh
    obtain ⟨a, r, rfl, g1, g3⟩ := rx_b1_of hh
    exact rg_ineg hx hb hdec g1 (hnx _ _ _ _ _ g3)
  case i2b =>
    have hl : len = 1 := hlen.elim id (fun z => by cases z)
    subst hl
    have hh : rx_b1 (rx_iu (fun x => x.toInt8.toInt32)) rx_isI st (fun st => rx_nx k9 rest (pc + 1) la st h) = some (o0, hf0, mc, ms) := hh
    obtain ⟨a, r, rfl, g1, g3⟩ := rx_b1_of hh
    exact rg_i2b hx hb hdec g1 (hnx _ _ _ _ _ g3)
  case i2c =>
    have hl : len = 1 := hlen.elim id (fun z => by cases z)
    subst hl
    have hh : rx_b1 (rx_iu (fun x => (x.toUInt32 % 65536).toInt32)) rx_isI st (fun st => rx_nx k9 rest (pc + 1) la st h) = some (o0, hf0, mc, ms) := hh
    obtain ⟨a, r, rfl, g1, g3⟩ := rx_b1_of hh
    exact rg_i2c hx hb hdec g1 (hnx _ _ _ _ _ g3)
  case i2l =>
    have hl : len = 1 := hlen.elim id (fun z => by cases z)
    subst hl
    have hh : rx_b1 rx_i2l rx_isI st (fun st => rx_nx k9 rest (pc + 1) la st h) = some (o0, hf0, mc, ms) := hh
    obtain ⟨a, r, rfl, g1, g3⟩ := rx_b1_of hh
    exact rg_i2l hx hb hdec g1 (hnx _ _ _ _ _ g3)
  case l2i =>
    have hl : len = 1 := hlen.elim id (fun z => by cases z)
    subst hl
    have hh : rx_b1 rx_l2i rx_isL st (fun st => rx_nx k9 rest (pc + 1) la st h) = some (o0, hf0, mc, ms) := hh
    obtain ⟨a, r, rfl, g1, g3⟩ := rx_b1_of hh
    exact rg_l2i hx hb hdec g1 (hnx _ _ _ _ _ g3)
  case goto off =>
    have hl : len = 3 := hlen.elim id (fun z => by cases z)
    subst hl
    have hh : rx_go I.2.2.1 pc off (fun z => k9 z la st h) = some (o0, hf0, mc, ms) := hh
    obtain ⟨t, g1, g2⟩ := hgo _ _ _ _ _ _ hh
    exact rg_goto hx hb hdec g1 g2
  case if_icmp cnd off =>
    have hl : len = 3 := hlen.elim id (fun z => by cases z)
    subst hl
    match st, hh with
    | [], hh => cases hh
    | [_], hh => cases hh
    | b :: a :: r, hh =>
      have hh : (match rx_isI a, rx_isI b, rx_tok pc off with
        | true, true, true => rx_br (rx_cmp F.1 cnd a b) (fun _ => rx_to I.2.2.1 (rx_tgt pc off) (fun z => k9 z la r h)) (fun _ => rx_nx k9 rest (pc + 3) la r h)
        | _, _, _ => none) = some (o0, hf0, mc, ms) := hh
      cases g1 : rx_isI a <;> cases g2 : rx_isI b <;> cases hc : rx_tok pc off <;> simp only [g1, g2, hc] at hh <;> first | (cases hh; done) | skip
      obtain ⟨g3, g4⟩ := rx_br_of hh
      have ht : (pc : Int) + off = ((rx_tgt pc off : Nat) : Int) := by
        unfold rx_tgt
        rw [Int.toNat_of_nonneg (of_decide_eq_true hc)]
      refine rg_icmp hx hb hF.1 hdec ht g1 g2 (fun z => ?_) (fun z => hnx _ _ _ _ _ (g4 z))
      obtain ⟨r2, z2, e1, e2, e3⟩ := rx_to_of (g3 z)
      rw [← e1]
      exact hk r2 z2 _ _ _ _ _ e3 e2
  case ifCond cnd off =>
    have hl : len = 3 := hlen.elim id (fun z => by cases z)
    subst hl
    match st, hh with
    | [], hh => cases hh
    | a :: r, hh =>
      have hh : (match rx_isI a, rx_tok pc off with
        | true, true => rx_br (rx_cmp F.1 cnd a (.int 0)) (fun _ => rx_to I.2.2.1 (rx_tgt pc off) (fun z => k9 z la r h)) (fun _ => rx_nx k9 rest (pc + 3) la r h)
        | _, _ => none) = some (o0, hf0, mc, ms) := hh
      cases g1 : rx_isI a <;> cases hc : rx_tok pc off <;> simp only [g1, hc] at hh <;> first | (cases hh; done) | skip
      obtain ⟨g3, g4⟩ := rx_br_of hh
      have ht : (pc : Int) + off = ((rx_tgt pc off : Nat) : Int) := by
        unfold rx_tgt
        rw [Int.toNat_of_nonneg (of_decide_eq_true hc)]
      refine rg_if hx hb hF.1 hdec ht g1 (fun z => ?_) (fun z => hnx _ _ _ _ _ (g4 z))
      obtain ⟨r2, z2, e1, e2, e3⟩ := rx_to_of (g3 z)
      rw [← e1]
      exact hk r2 z2 _ _ _ _ _ e3 e2
  case getfield x =>
    have hl : len = 3 := hlen.elim id (fun z => by cases z)
    subst hl
    match aux, haok, hh with
    | [ci, f, w], haok, hh =>
      have hh : rx_gf O ci f st h (fun st => rx_nx k9 rest (pc + 3) la st h) = some (o0, hf0, mc, ms) := hh
      have haok : (match rx_nth rc_cls ci with
        | some q => Nat.blt f q.2.2 && rx_wd w (.fieldLink own x (q.2.1 f).1 (q.2.1 f).2.1 (q.2.1 f).2.2.1)
        | none => false) = true := haok
      rw [rx_nth_eq] at haok
      cases hcl : rc_cls[ci]? with
      | none => rw [hcl] at haok; cases haok
      | some q =>
        obtain ⟨C, T, N⟩ := q
        rw [hcl] at haok
        simp only [Bool.and_eq_true] at haok
        obtain ⟨a1, a2⟩ := haok
        obtain ⟨a, r, v, rfl, g1, g2⟩ := rx_gf_of hh
        rcases g2 with ⟨g2, g3⟩ | ⟨g2, fs, g3, g4⟩
        · obtain ⟨C', T', N', cv, e1, e2, e3, e4⟩ := hE.2.2.1 _ g3
          have e1 : rc_cls[ci]? = some (C', T', N') := e1
          rw [hcl] at e1
          cases e1
          have := hO1 _ g3
          have h2 : a - 1000000 < 1000000 := this
          exact rg_getfO hx hb hown e2 (hw a2) hdec g2 (by omega) e4 (hnx _ _ _ _ _ g1)
        · exact rg_getf hx hb (Ts := rc_good) hts (rc_ws_in hcl) hown hK hcl (Nat.le_of_ble_eq_true a1) (hw a2) hdec g2 g3 g4 (hnx _ _ _ _ _ g1)
  case putfield x =>
    have hl : len = 3 := hlen.elim id (fun z => by cases z)
    subst hl
    match aux, haok, hh with
    | [ci, f, w], haok, hh =>
      have hh : rx_pf (rc_fty ci f) ci f st h (fun st h => rx_nx k9 rest (pc + 3) la st h) = some (o0, hf0, mc, ms) := hh
      have haok : (match rx_nth rc_cls ci with
        | some q => Nat.blt f q.2.2 && rx_wd w (.fieldLink own x (q.2.1 f).1 (q.2.1 f).2.1 (q.2.1 f).2.2.1) && (!(q.2.1 f).2.2.2 || (ini && decide ((q.2.1 f).1 = own)))
        | none => false) = true := haok
      rw [rx_nth_eq] at haok
      cases hcl : rc_cls[ci]? with
      | none => rw [hcl] at haok; cases haok
      | some q =>
        obtain ⟨C, T, N⟩ := q
        rw [hcl] at haok
        simp only [Bool.and_eq_true, Bool.or_eq_true] at haok
        obtain ⟨⟨a1, a2⟩, a3⟩ := haok
        have a1 : f < N := Nat.le_of_ble_eq_true a1
        obtain ⟨v, a, r, fs, ty2, rfl, e1, hka, e2, e3, e4, e5⟩ := rx_pf_of hh
        obtain ⟨ty, fs0, t1, t2, -, -, -, t3⟩ := rc_has hcl
        rw [t3 f a1] at e1
        cases e1
        rcases a3 with a3 | ⟨a3, a4⟩
        · exact rg_putf hx hb (Ts := rc_good) hts (rc_ws_in hcl) hown hK ty t1 t2 hcl a1 (hw a2) (by simpa using a3) hdec hka e2 e3 e4 (hnx _ _ _ _ _ e5)
        · cases hfin : (T f).2.2.2 with
          | true => exact rg_putfF hx hb (Ts := rc_good) hts (rc_ws_in hcl) hown hK ty t1 t2 hcl a1 (hw a2) hfin (hini a3) (of_decide_eq_true a4) hdec hka e2 e3 e4 (hnx _ _ _ _ _ e5)
          | false => exact rg_putf hx hb (Ts := rc_good) hts (rc_ws_in hcl) hown hK ty t1 t2 hcl a1 (hw a2) hfin hdec hka e2 e3 e4 (hnx _ _ _ _ _ e5)
  case new x =>
    have hl : len = 3 := hlen.elim id (fun z => by cases z)
    subst hl
    simp only [rx_one] at hh
    split at hh
    · rename_i E w
      cases hI2 : I.2.2.2 with
      | nil =>
        rw [hI2] at hh
        cases st with
        | nil =>
          simp only [Option.some.injEq, Prod.mk.injEq] at hh
          obtain ⟨e1, rfl, rfl, rfl⟩ := hh
          exact hXn pc x E w la [] hdec haok ⟨0, hin9, rfl⟩ hI2 rfl e1.symm
        | cons a b => cases hh
      | cons a b => rw [hI2] at hh; cases hh
    · rename_i ci w
      have haok : (match rx_nth rc_cls ci with
        | some q => rx_wd w (.classLink own x q.1)
        | none => false) = true := haok
      rw [rx_nth_eq] at haok
      cases hcl : rc_cls[ci]? with
      | none => rw [hcl] at haok; cases haok
      | some q =>
        obtain ⟨C, T, N⟩ := q
        rw [hcl] at haok
        simp only at haok
        obtain ⟨fs, e1, e2, e3⟩ := rx_new_of hh
        obtain ⟨mc2, ms2, e4, rfl, rfl⟩ := rx_more_of e3
        obtain ⟨ty, fs0, t1, t2, t3, t4, t5, t6⟩ := rc_has hcl
        rw [e1] at t3
        cases t3
        have hp := rc_dfl_plain fs (List.mem_of_getElem? e1)
        obtain ⟨w1, w2⟩ := hwk ci _ hcl
        rw [t4]
        exact rg_new hx hb (Ts := rc_good) hts (rc_ws_in hcl) ty t1 hown (hw haok) w1 w2 hK hA hcl t5 (fun _ => rx_RL_plain hp) hMC hMS hdec e2 (hnx _ _ _ _ _ e4)
    · cases hh
  case newarray at9 =>
    have hl : len = 2 := hlen.elim id (fun z => by cases z)
    subst hl
    match aux, haok, hh with
    | [t], haok, hh =>
      have hh : rx_newa t st h (fun st h => rx_nx k9 rest (pc + 2) la st h) = some (o0, hf0, mc, ms) := hh
      have haok : (decide (rx_nth rc_arr t = some (newarray.typeOf at9)) && Nat.blt t 4) = true := haok
      rw [Bool.and_eq_true] at haok
      have a1 : rx_nth rc_arr t = some (newarray.typeOf at9) := of_decide_eq_true haok.1
      have a2 : t < 4 := Nat.le_of_ble_eq_true haok.2
      rw [rx_nth_eq] at a1
      obtain ⟨n, r, rfl, e1, e2, e3, e5⟩ := rx_newa_of hh
      obtain ⟨mc2, ms2, e6, rfl, rfl⟩ := rx_more_of e5
      have hmem := List.mem_of_getElem? a1
      have hac : ∀ ty, newarray.typeOf at9 = ty → ty ≠ .object RX4 → ty ≠ .object RX9 → (Cond.arrayClass (newarray.typeOf at9)).before args s = true := fun ty e z1 z2 => hak _ hmem (by rw [e]; exact z1) (by rw [e]; exact z2)
      match t, a2, a1, hh, e6 with
      | 0, _, a1, hh, e6 =>
        have ty0 : newarray.typeOf at9 = .int := (Option.some.inj a1).symm
        exact rg_newa (x := .inl fun _ => 0) hx hb (hac _ ty0 (fun z => by cases z) (fun z => by cases z)) ty0 (show rc_arr[0]? = some .int from rfl) hK hA (fun _ => rfl) ⟨_, rfl⟩ (fun _ => rfl) (fun _ => rfl) e1 (by show n.toNatClampNeg * 4 ≤ _; omega) hMC hMS hdec e3 (hnx _ _ _ _ _ e6)
      | 1, _, a1, hh, e6 =>
        have ty0 : newarray.typeOf at9 = .long := (Option.some.inj a1).symm
        exact rg_newa (x := .inr (.inl fun _ => 0)) hx hb (hac _ ty0 (fun z => by cases z) (fun z => by cases z)) ty0 (show rc_arr[1]? = some .long from rfl) hK hA (fun _ => rfl) ⟨_, rfl⟩ (fun _ => rfl) (fun _ => rfl) e1 (by show n.toNatClampNeg * 8 ≤ _; omega) hMC hMS hdec e3 (hnx _ _ _ _ _ e6)
      | 2, _, a1, hh, e6 =>
        have ty0 : newarray.typeOf at9 = .byte := (Option.some.inj a1).symm
        exact rg_newa (x := .inl fun _ => 0) hx hb (hac _ ty0 (fun z => by cases z) (fun z => by cases z)) ty0 (show rc_arr[2]? = some .byte from rfl) hK hA (fun _ => rfl) ⟨_, rfl⟩ (fun _ => rfl) (fun _ => rfl) e1 (by show n.toNatClampNeg * 1 ≤ _; omega) hMC hMS hdec e3 (hnx _ _ _ _ _ e6)
      | 3, _, a1, hh, e6 =>
        have ty0 : newarray.typeOf at9 = .boolean := (Option.some.inj a1).symm
        exact rg_newa (x := .inl fun _ => 0) hx hb (hac _ ty0 (fun z => by cases z) (fun z => by cases z)) ty0 (show rc_arr[3]? = some .boolean from rfl) hK hA (fun _ => rfl) ⟨_, rfl⟩ (fun _ => rfl) (fun _ => rfl) e1 (by show n.toNatClampNeg * 1 ≤ _; omega) hMC hMS hdec e3 (hnx _ _ _ _ _ e6)
  case anewarray x =>
    have hl : len = 3 := hlen.elim id (fun z => by cases z)
    subst hl
    match aux, haok, hh with
    | [t, w], haok, hh =>
      have hh : rx_newa t st h (fun st h => rx_nx k9 rest (pc + 3) la st h) = some (o0, hf0, mc, ms) := hh
      obtain ⟨n, r, rfl, e1, e2, e3, e5⟩ := rx_newa_of hh
      obtain ⟨mc2, ms2, e6, rfl, rfl⟩ := rx_more_of e5
      simp only [rx_aok] at haok
      split at haok
      · exact rg_anewa hx hb hown (hw haok) hE.2.2.2.2.2.2.1 (show rc_arr[4]? = some (.object RX4) from rfl) (Nat.le_refl _) hK hA e1 (by omega) hMC hMS hdec e3 (hnx _ _ _ _ _ e6)
      · exact rg_anewa hx hb hown (hw haok) hE.2.2.2.2.2.2.2.1 (show rc_arr[5]? = some (.object RX9) from rfl) (by decide) hK hA e1 (by omega) hMC hMS hdec e3 (hnx _ _ _ _ _ e6)
      · cases haok
  case iaload =>
    have hl : len = 1 := hlen.elim id (fun z => by cases z)
    subst hl
    have hh : rx_ald O (fun t => Nat.beq t 0) st h (fun st => rx_nx k9 rest (pc + 1) la st h) = some (o0, hf0, mc, ms) := hh
    obtain ⟨i, a, r, rfl, g0, g⟩ := rx_ald_of hh
    rcases g with ⟨t, l9, v, e1, e2, e3, e4, e5⟩ | ⟨t, n, u, e1, e2, e3, e4, e5⟩
    · obtain ⟨ty, f, f1, f2, f3⟩ := hE.2.2.2.1 _ e1
      have hlt := (hO2 _ e1).1
      have hlt : a - 1000000 < 1000000 := hlt
      have f1 : rc_arr[t]? = some ty := f1
      have ht := Nat.eq_of_beq_eq_true e3
      subst ht
      cases f1
      exact rg_ialdO hx hb hdec e2 (by omega) f2 g0 (List.getElem?_eq_some_iff.mp e4).1 (f3 _ _ e4) (hnx _ _ _ _ _ e5)
    · have ht := Nat.eq_of_beq_eq_true e3
      subst ht
      exact rg_iald hx hb hK hdec e1 e2 g0 e4 (hnx _ _ _ _ _ e5)
  case laload =>
    have hl : len = 1 := hlen.elim id (fun z => by cases z)
    subst hl
    have hh : rx_ald O (fun t => Nat.beq t 1) st h (fun st => rx_nx k9 rest (pc + 1) la st h) = some (o0, hf0, mc, ms) := hh
    obtain ⟨i, a, r, rfl, g0, g⟩ := rx_ald_of hh
    rcases g with ⟨t, l9, v, e1, e2, e3, e4, e5⟩ | ⟨t, n, u, e1, e2, e3, e4, e5⟩
    · exfalso
      have h3 : t = 0 ∨ t = 2 := (hO2 _ e1).2
      rcases h3 with rfl | rfl <;> cases e3
    · have ht := Nat.eq_of_beq_eq_true e3
      subst ht
      exact rg_lald hx hb hK hdec e1 e2 g0 e4 (hnx _ _ _ _ _ e5)
  case baload =>
    have hl : len = 1 := hlen.elim id (fun z => by cases z)
    subst hl
    have hh : rx_ald O (fun t => Nat.beq t 2 || Nat.beq t 3) st h (fun st => rx_nx k9 rest (pc + 1) la st h) = some (o0, hf0, mc, ms) := hh
    obtain ⟨i, a, r, rfl, g0, g⟩ := rx_ald_of hh
    rcases g with ⟨t, l9, v, e1, e2, e3, e4, e5⟩ | ⟨t, n, u, e1, e2, e3, e4, e5⟩
    · obtain ⟨ty, f, f1, f2, f3⟩ := hE.2.2.2.1 _ e1
      have hlt := (hO2 _ e1).1
      have hlt : a - 1000000 < 1000000 := hlt
      have f1 : rc_arr[t]? = some ty := f1
      have e3 : (Nat.beq t 2 || Nat.beq t 3) = true := e3
      rw [Bool.or_eq_true] at e3
      rcases e3 with e3 | e3
      · have ht := Nat.eq_of_beq_eq_true e3
        subst ht
        cases f1
        exact rg_baldO hx hb hdec e2 (by omega) f2 g0 (List.getElem?_eq_some_iff.mp e4).1 (f3 _ _ e4) (hnx _ _ _ _ _ e5)
      · have ht := Nat.eq_of_beq_eq_true e3
        subst ht
        have h3 := (hO2 _ e1).2
        simp at h3
    · have e3 : (Nat.beq t 2 || Nat.beq t 3) = true := e3
      rw [Bool.or_eq_true] at e3
      rcases e3 with e3 | e3
      · have ht := Nat.eq_of_beq_eq_true e3
        subst ht
        exact rg_bald hx hb hK hdec e1 e2 g0 e4 (hnx _ _ _ _ _ e5)
      · have ht := Nat.eq_of_beq_eq_true e3
        subst ht
        exact rg_zald hx hb hK hdec e1 e2 g0 e4 (hnx _ _ _ _ _ e5)
  case aaload =>
    have hl : len = 1 := hlen.elim id (fun z => by cases z)
    subst hl
    have hh : rx_ald O (fun t => Nat.ble 4 t) st h (fun st => rx_nx k9 rest (pc + 1) la st h) = some (o0, hf0, mc, ms) := hh
    obtain ⟨i, a, r, rfl, g0, g⟩ := rx_ald_of hh
    rcases g with ⟨t, l9, v, e1, e2, e3, e4, e5⟩ | ⟨t, n, u, e1, e2, e3, e4, e5⟩
    · exfalso
      have h3 : t = 0 ∨ t = 2 := (hO2 _ e1).2
      rcases h3 with rfl | rfl <;> cases e3
    · have e3 : Nat.ble 4 t = true := e3
      exact rg_aald hx hb hK (Nat.le_of_ble_eq_true e3) hdec e1 e2 g0 e4 (hnx _ _ _ _ _ e5)
  case iastore =>
    have hl : len = 1 := hlen.elim id (fun z => by cases z)
    subst hl
    have hh : rx_ast (fun t => Nat.beq t 0) (fun _ v => match rx_isI v with | true => some v | false => none) st h (fun st h => rx_nx k9 rest (pc + 1) la st h) = some (o0, hf0, mc, ms) := hh
    obtain ⟨v, i, a, r, t, n, u, w, rfl, g0, ga, e1, e2, e3, e4, e5⟩ := rx_ast_of hh
    have ht := Nat.eq_of_beq_eq_true e2
    subst ht
    have e4 : (match rx_isI v with | true => some v | false => none) = some w := e4
    cases hv9 : rx_isI v with
    | false => simp [hv9] at e4
    | true =>
      simp only [hv9, Option.some.injEq] at e4
      subst e4
      exact rg_iast hx hb hK hdec ga e1 g0 e3 hv9 (hnx _ _ _ _ _ e5)
  case lastore =>
    have hl : len = 1 := hlen.elim id (fun z => by cases z)
    subst hl
    have hh : rx_ast (fun t => Nat.beq t 1) (fun _ v => match rx_isL v with | true => some v | false => none) st h (fun st h => rx_nx k9 rest (pc + 1) la st h) = some (o0, hf0, mc, ms) := hh
    obtain ⟨v, i, a, r, t, n, u, w, rfl, g0, ga, e1, e2, e3, e4, e5⟩ := rx_ast_of hh
    have ht := Nat.eq_of_beq_eq_true e2
    subst ht
    have e4 : (match rx_isL v with | true => some v | false => none) = some w := e4
    cases hv9 : rx_isL v with
    | false => simp [hv9] at e4
    | true =>
      simp only [hv9, Option.some.injEq] at e4
      subst e4
      exact rg_last hx hb hK hdec ga e1 g0 e3 hv9 (hnx _ _ _ _ _ e5)
  case bastore =>
    have hl : len = 1 := hlen.elim id (fun z => by cases z)
    subst hl
    have hh : rx_ast (fun t => Nat.beq t 2 || Nat.beq t 3) (fun t v => match rx_isI v with | true => some (rx_iu (vp_nar (match t with | 2 => .byte | _ => .boolean)) v) | false => none) st h (fun st h => rx_nx k9 rest (pc + 1) la st h) = some (o0, hf0, mc, ms) := hh
    obtain ⟨v, i, a, r, t, n, u, w, rfl, g0, ga, e1, e2, e3, e4, e5⟩ := rx_ast_of hh
    have e2 : (Nat.beq t 2 || Nat.beq t 3) = true := e2
    cases hv9 : rx_isI v with
    | false => simp [hv9] at e4
    | true =>
      simp only [hv9, Option.some.injEq] at e4
      subst e4
      rw [Bool.or_eq_true] at e2
      rcases e2 with e2 | e2
      · have ht := Nat.eq_of_beq_eq_true e2
        subst ht
        exact rg_bast hx hb hK hdec ga e1 g0 e3 hv9 (hnx _ _ _ _ _ e5)
      · have ht := Nat.eq_of_beq_eq_true e2
        subst ht
        exact rg_zast hx hb hK hdec ga e1 g0 e3 hv9 (hnx _ _ _ _ _ e5)
  case aastore =>
    have hl : len = 1 := hlen.elim id (fun z => by cases z)
    subst hl
    have hh : rx_aast st h (fun st h => rx_nx k9 rest (pc + 1) la st h) = some (o0, hf0, mc, ms) := hh
    obtain ⟨v, i, a, r, t, n, u, rfl, g0, ga, e1, e2, e3, e5, e6⟩ := rx_aast_of hh
    rcases e6 with rfl | ⟨b, ci, vs, rfl, f1, f2, f3⟩
    · exact rg_aastN hx hb hK e2 hdec ga (kv := 0) e1 g0 e3 (hnx _ _ _ _ _ e5)
    · exact rg_aast hx hb hK e2 hdec ga f1 f2 f3 e1 g0 e3 (hnx _ _ _ _ _ e5)
  case arraylength =>
    have hl : len = 1 := hlen.elim id (fun z => by cases z)
    subst hl
    have hh : rx_len O st h (fun st => rx_nx k9 rest (pc + 1) la st h) = some (o0, hf0, mc, ms) := hh
    obtain ⟨a, r, rfl, g⟩ := rx_len_of hh
    rcases g with ⟨t, l9, e1, e2, e5⟩ | ⟨t, n, u, e1, e2, e5⟩
    · obtain ⟨ty, f, f1, f2, f3⟩ := hE.2.2.2.1 _ e1
      have hlt : a - 1000000 < 1000000 := (hO2 _ e1).1
      exact rg_alenO hx hb hdec e2 (by omega) f2 (hnx _ _ _ _ _ e5)
    · exact rg_alen hx hb hK hdec e1 e2 (hnx _ _ _ _ _ e5)
  case ldc x =>
    have hl : len = 2 := hlen.elim id (fun z => by cases z)
    subst hl
    simp only [rx_one] at hh
    split at hh
    · rename_i v w
      have haok : rx_wd w (.constant own x (Int32.ofNat v)) = true := haok
      exact rg_ldc hx hb hown (hw haok) hdec (hnx _ _ _ _ _ hh)
    · rename_i j w
      match j, haok, hh with
      | 1, haok, hh =>
        have haok : (decide (own = RX10) && Nat.beq x 33) = true := haok
        rw [Bool.and_eq_true] at haok
        have a1 : own = RX10 := of_decide_eq_true haok.1
        have a2 := Nat.eq_of_beq_eq_true haok.2
        subst a2
        rw [a1] at hown
        exact rg_ldcS hx hb hown hE.2.2.2.2.2.2.2.2.2.2.2.1 (by decide) hdec (hnx _ _ _ _ _ hh)
      | 3, haok, hh =>
        have haok : (decide (own = RX5) && Nat.beq x 55) = true := haok
        rw [Bool.and_eq_true] at haok
        have a1 : own = RX5 := of_decide_eq_true haok.1
        have a2 := Nat.eq_of_beq_eq_true haok.2
        subst a2
        rw [a1] at hown
        exact rg_ldcS hx hb hown hE.2.2.2.2.2.2.2.2.2.2.2.2.1 (by decide) hdec (hnx _ _ _ _ _ hh)
      | 0, haok, hh => cases haok
      | 2, haok, hh => cases haok
      | j + 4, haok, hh => cases haok
    · cases hh
  case ldc2_w x =>
    have hl : len = 3 := hlen.elim id (fun z => by cases z)
    subst hl
    match aux, haok, hh with
    | [v, w], haok, hh =>
      have hh : rx_nx k9 rest (pc + 3) la (.long (Int64.ofNat v) :: st) h = some (o0, hf0, mc, ms) := hh
      have haok : rx_wd w (.constantLong own x (Int64.ofNat v)) = true := haok
      exact rg_ldc2 hx hb hown (hw haok) hdec (hnx _ _ _ _ _ hh)
  case getstatic x =>
    have hl : len = 3 := hlen.elim id (fun z => by cases z)
    subst hl
    simp only [rx_one] at hh
    split at hh
    · rename_i w
      have haok : rx_wd w (.fieldLink own x "java/lang/String" "COMPACT_STRINGS" "Z") = true := haok
      exact rg_gets hx hb hown hE.2.2.2.2.1 (hw haok) hdec (hnx _ _ _ _ _ hh)
    · rename_i w
      have haok : rx_wd w (.fieldLink own x "jdk/internal/util/Preconditions" "SIOOBE_FORMATTER" "Ljava/util/function/BiFunction;") = true := haok
      exact rg_getsq hx hb hown hE.2.2.2.2.2.1 (hw haok) hdec (hnx _ _ _ _ _ hh)
    · cases hh
  case tableswitch d9 lo hi offs =>
    exact rx_tsw_ok hx hb hF.1 hdec hk hh
  case invokespecial x =>
    have hl : len = 3 := hlen.elim id (fun z => by cases z)
    subst hl
    simp only [rx_one] at hh
    split at hh
    · rename_i w
      have haok : rx_wd w (.methodLink own x Lib.objectInit) = true := haok
      split at hh
      · rename_i a r
        cases g1 : Nat.ble (rx_cats r) 8 <;> cases g2 : Nat.blt a 2000000 <;> simp only [g1, g2] at hh <;> first | (cases hh; done) | skip
        exact rg_objinit hx hb hml hown (hw haok) hoi.1 hoi.2 hfr (by omega) (Nat.le_of_ble_eq_true g1) hdec (Nat.le_of_ble_eq_true g2) (hnx _ _ _ _ _ hh)
      · cases hh
    · rename_i mi n ci w
      obtain ⟨as, r, a, e1, e2, e3, e4⟩ := rx_inv1_of hh
      obtain ⟨v, h2, mc2, ms2, e5, e6⟩ := rx_backN_of e4
      obtain ⟨mc3, ms3, e7, rfl, rfl⟩ := rx_more_of e6
      exact hcI pc x mi n ci w la st as r a h h2 v mc3 ms3 mc2 ms2 hdec haok e1 e2 e3 e5 (hnx _ _ _ _ _ e7)
    · cases hh
  case invokestatic x =>
    have hl : len = 3 := hlen.elim id (fun z => by cases z)
    subst hl
    simp only [rx_one] at hh
    split at hh
    · rename_i w
      have haok : rx_wd w (.methodLink own x arraycopyName) = true := haok
      obtain ⟨a, b, n0, n1, u0, u1, r, rfl, g1, g2, g3, g4, g5, g6⟩ := rx_cp0_of hh
      exact rg_cp0 hx hb hml hown (hw haok) hcp hK hfr hlo hdec g1 g2 g3 g4 g5 (hnx _ _ _ _ _ g6)
    · rename_i mi n w
      obtain ⟨as, r, e1, e2, e4⟩ := rx_inv0_of hh
      obtain ⟨v, h2, mc2, ms2, e5, e6⟩ := rx_backN_of e4
      obtain ⟨mc3, ms3, e7, rfl, rfl⟩ := rx_more_of e6
      exact hcS pc x mi n w la st as r h h2 v mc3 ms3 mc2 ms2 hdec haok e1 e2 e5 (hnx _ _ _ _ _ e7)
    · cases hh
  case invokevirtual x =>
    have hl : len = 3 := hlen.elim id (fun z => by cases z)
    subst hl
    match aux, haok, hh with
    | [mi, n, ci, w], haok, hh =>
      have hh : rx_inv O C9 st h mi n ci 1 (fun r o => rx_back I.2.2.2 pc r o (fun st h => rx_nx k9 rest (pc + 3) la st h) (fun t h => rx_to I.2.2.1 t (fun z => k9 z la [.ref 2000000] h))) = some (o0, hf0, mc, ms) := hh
      obtain ⟨as, r, a, e1, e2, e3, e4⟩ := rx_inv1_of hh
      rcases rx_back_of e4 with ⟨v, h2, mc2, ms2, e5, e6⟩ | ⟨E, h2, mc2, ms2, t, e5, e6, e7⟩ | ⟨E, h2, mc2, ms2, e5, e6, e7⟩
      · obtain ⟨mc3, ms3, e7, rfl, rfl⟩ := rx_more_of e6
        exact hcV pc x mi n ci w la st as r a h h2 v mc3 ms3 mc2 ms2 hdec haok e1 e2 e3 e5 (hnx _ _ _ _ _ e7)
      · obtain ⟨mc3, ms3, e8, rfl, rfl⟩ := rx_more_of e7
        obtain ⟨r2, z2, f1, f2, f3⟩ := rx_to_of e8
        subst f1
        exact hcH pc x mi n ci w E _ la st as r a h h2 mc3 ms3 mc2 ms2 hdec haok e1 e2 e3 e5 e6 (hk r2 z2 _ _ _ _ _ f3 f2)
      · simp only [Prod.mk.injEq] at e7
        obtain ⟨f1, f2, rfl, rfl⟩ := e7
        exact hcX pc x mi n ci w E la st as r a h h2 _ _ hdec haok e1 e2 e3 e5 e6 f1 f2
  case return_ =>
    have hl : len = 1 := hlen.elim id (fun z => by cases z)
    subst hl
    cases st with
    | cons a r => cases hr9 : I.2.1 <;> (simp only [rx_one, hr9] at hh; cases hh)
    | nil =>
      cases hr9 : I.2.1 with
      | succ n => simp only [rx_one, hr9] at hh; cases hh
      | zero =>
        simp only [rx_one, hr9, Option.some.injEq, Prod.mk.injEq] at hh
        obtain ⟨e1, rfl, rfl, rfl⟩ := hh
        exact hRv pc la hdec e1.symm hr9
  case lreturn =>
    have hl : len = 1 := hlen.elim id (fun z => by cases z)
    subst hl
    obtain ⟨v, rfl, g1, g2, e1, rfl, rfl, rfl⟩ := rx_lret_of hh
    exact hRl pc la v hdec e1 g1 g2
  case areturn =>
    have hl : len = 1 := hlen.elim id (fun z => by cases z)
    subst hl
    obtain ⟨v, rfl, g1, g2, e1, rfl, rfl, rfl⟩ := rx_aret_of hh
    exact hRa pc la v hdec e1 g1 g2
  case ireturn =>
    have hl : len = 1 := hlen.elim id (fun z => by cases z)
    subst hl
    obtain ⟨v, rfl, g1, e1, rfl, rfl, rfl⟩ := rx_iret_of hh
    exact hRi pc la v hdec e1 g1
  all_goals cases hh
end StepT
end
section
section RunT
variable {p : Program} {l : Launch} {e : Env} {R : Room} {s : State} {m : MethodId} {args : Array Value} {below : List Frame} {meth : Method} {c : Code} {Q : State → Prop} {cc : ByteArray} {D : va_G} {cA : Nat → ClassId} {A : Nat → Prop} {old : Nat → Nat} {rho : UInt32 → Int32} {nL MC MS : Nat} {ad0 : List Nat} {O : ROld} {F : RFacts} {C9 : Nat → List Value → RHeap → Option RRes} {I : RInf} {own : String} {Ts : List Jvm.Cond} {ini : Bool} {sigs : List RSig} {o0 : Option Value ⊕ Nat} {hf0 : RHeap}
theorem rx_run_ok (hx : p.tables.exec = Jvm.exec) (hb : c.code = cc) (hml : c.maxLocals = nL) (hown : s.vm.findClass own = some m.cls) (hts : ∀ w ∈ rc_good, w.before args s = true) (hE : rx_E O D cA A old rho s) (hF : rx_FT2 rho F) (hMC : MC ≤ R.cells) (hMS : MS ≤ R.slots) (hfr : 1 ≤ R.frames) (hlo : 200 ≤ R.locals) (hini : ini = true → meth.name = "<init>") (hI : I.1 = nL)
    (hcI : ∀ (pc x mi n ci w : Nat) (la : RLoc) (st as r : List Value) (a : Nat) (h h2 : RHeap) (v : Option Value) (mc ms mc2 ms2 : Nat), decode cc pc = .ok (.invokespecial x, 3) → rx_aok ini own sigs (.invokespecial x) [mi, n, ci, w] = true → rx_take n [] st = some (as, .ref a :: r) → rx_cats r ≤ 8 → rx_recv O ci h (.ref a) = true → C9 mi (.ref a :: as) h = some (.inl v, h2, mc2, ms2) → rx_G p l e R s m args below meth c Q D cA A old rho nL MC MS ad0 (pc + 3) la (v.toList ++ r) h2 mc ms → rx_G p l e R s m args below meth c Q D cA A old rho nL MC MS ad0 pc la st h (mc + mc2) (ms + ms2))
    (hcV : ∀ (pc x mi n ci w : Nat) (la : RLoc) (st as r : List Value) (a : Nat) (h h2 : RHeap) (v : Option Value) (mc ms mc2 ms2 : Nat), decode cc pc = .ok (.invokevirtual x, 3) → rx_aok ini own sigs (.invokevirtual x) [mi, n, ci, w] = true → rx_take n [] st = some (as, .ref a :: r) → rx_cats r ≤ 8 → rx_recv O ci h (.ref a) = true → C9 mi (.ref a :: as) h = some (.inl v, h2, mc2, ms2) → rx_G p l e R s m args below meth c Q D cA A old rho nL MC MS ad0 (pc + 3) la (v.toList ++ r) h2 mc ms → rx_G p l e R s m args below meth c Q D cA A old rho nL MC MS ad0 pc la st h (mc + mc2) (ms + ms2))
    (hcS : ∀ (pc x mi n w : Nat) (la : RLoc) (st as r : List Value) (h h2 : RHeap) (v : Option Value) (mc ms mc2 ms2 : Nat), decode cc pc = .ok (.invokestatic x, 3) → rx_aok ini own sigs (.invokestatic x) [mi, n, w] = true → rx_take n [] st = some (as, r) → rx_cats r ≤ 8 → C9 mi as h = some (.inl v, h2, mc2, ms2) → rx_G p l e R s m args below meth c Q D cA A old rho nL MC MS ad0 (pc + 3) la (v.toList ++ r) h2 mc ms → rx_G p l e R s m args below meth c Q D cA A old rho nL MC MS ad0 pc la st h (mc + mc2) (ms + ms2))
    (hcX : ∀ (pc x mi n ci w E : Nat) (la : RLoc) (st as r : List Value) (a : Nat) (h h2 : RHeap) (mc2 ms2 : Nat), decode cc pc = .ok (.invokevirtual x, 3) → rx_aok ini own sigs (.invokevirtual x) [mi, n, ci, w] = true → rx_take n [] st = some (as, .ref a :: r) → rx_cats r ≤ 8 → rx_recv O ci h (.ref a) = true → C9 mi (.ref a :: as) h = some (.inr E, h2, mc2, ms2) → rx_hand pc E I.2.2.2 = none → o0 = .inr E → hf0 = h2 → rx_G p l e R s m args below meth c Q D cA A old rho nL MC MS ad0 pc la st h mc2 ms2)
    (hcH : ∀ (pc x mi n ci w E t : Nat) (la : RLoc) (st as r : List Value) (a : Nat) (h h2 : RHeap) (mc ms mc2 ms2 : Nat), decode cc pc = .ok (.invokevirtual x, 3) → rx_aok ini own sigs (.invokevirtual x) [mi, n, ci, w] = true → rx_take n [] st = some (as, .ref a :: r) → rx_cats r ≤ 8 → rx_recv O ci h (.ref a) = true → C9 mi (.ref a :: as) h = some (.inr E, h2, mc2, ms2) → rx_hand pc E I.2.2.2 = some t → rx_G p l e R s m args below meth c Q D cA A old rho nL MC MS ad0 t la [.ref 2000000] h2 mc ms → rx_G p l e R s m args below meth c Q D cA A old rho nL MC MS ad0 pc la st h (mc + mc2) (ms + ms2))
    (hXn : ∀ (pc x E w : Nat) (la : RLoc) (st : List Value), decode cc pc = .ok (.new x, 3) → rx_aok ini own sigs (.new x) [7777, E, w] = true → (∃ z, (pc, .new x, 3, [7777, E, w]) ∈ I.2.2.1 ∧ z = 0) → I.2.2.2 = [] → st = [] → o0 = .inr E → rx_G p l e R s m args below meth c Q D cA A old rho nL MC MS ad0 pc la st hf0 1 6)
    (hRv : ∀ (pc : Nat) (la : RLoc), decode cc pc = .ok (.return_, 1) → o0 = .inl none → I.2.1 = 0 → rx_G p l e R s m args below meth c Q D cA A old rho nL MC MS ad0 pc la [] hf0 0 0)
    (hRi : ∀ (pc : Nat) (la : RLoc) (v : Value), decode cc pc = .ok (.ireturn, 1) → o0 = .inl (some v) → (I.2.1 = 1 ∧ rx_isI v = true) ∨ (∃ x, v = .int x ∧ ((I.2.1 = 2 ∧ narrow .boolean (.int x) = .int x) ∨ (I.2.1 = 3 ∧ narrow .byte (.int x) = .int x) ∨ (I.2.1 = 4 ∧ narrow .char (.int x) = .int x))) → rx_G p l e R s m args below meth c Q D cA A old rho nL MC MS ad0 pc la [v] hf0 0 0)
    (hRl : ∀ (pc : Nat) (la : RLoc) (v : Value), decode cc pc = .ok (.lreturn, 1) → o0 = .inl (some v) → I.2.1 = 5 → rx_isL v = true → rx_G p l e R s m args below meth c Q D cA A old rho nL MC MS ad0 pc la [v] hf0 0 0)
    (hRa : ∀ (pc : Nat) (la : RLoc) (v : Value), decode cc pc = .ok (.areturn, 1) → o0 = .inl (some v) → I.2.1 = 6 → rx_isA v = true → rx_G p l e R s m args below meth c Q D cA A old rho nL MC MS ad0 pc la [v] hf0 0 0)
    (hO1 : ∀ q ∈ O.1, q.1 < 1000000) (hO2 : ∀ q ∈ O.2, q.1 < 1000000 ∧ (q.2.1 = 0 ∨ q.2.1 = 2)) (hwk : ∀ (ci : Nat) (q : vw_C), rc_cls[ci]? = some q → (Cond.instantiable q.1 q.2.2).before args s = true ∧ (Cond.initialized q.1).before args s = true) (hak : ∀ ty, ty ∈ rc_arr → ty ≠ .object RX4 → ty ≠ .object RX9 → (Cond.arrayClass ty).before args s = true) (hcp : (Cond.native arraycopyName).before args s = true ∧ (Cond.static arraycopyName).before args s = true ∧ (Cond.initialized "java/lang/System").before args s = true) (hoi : (Cond.instanceMethod Lib.objectInit).before args s = true ∧ (Cond.code Lib.objectInit ⟨#[0xb1]⟩ 1 none).before args s = true)
    (hrows : ∀ q ∈ I.2.2.1, rx_chk ini own cc sigs q = true) : ∀ (n : Nat) (r : RRow) (z : List RRow) (la : RLoc) (st : List Value) (h : RHeap) (mc ms : Nat), rx_run O F C9 I n (r :: z) la st h = some (o0, hf0, mc, ms) → (∀ q ∈ r :: z, q ∈ I.2.2.1) → rx_G p l e R s m args below meth c Q D cA A old rho nL MC MS ad0 r.1 la st h mc ms := by
  intro n
  induction n with
  | zero => intro r z la st h mc ms hh; cases hh
  | succ n ih =>
    intro r z la st h mc ms hh hin
    obtain ⟨pc, i, len, aux⟩ := r
    exact rx_one_ok hx hb hml hown hts hE hF hMC hMS hfr hlo hini hI (fun r z la st h mc ms h1 h2 => ih r z la st h mc ms h1 h2) hcI hcV hcS hcX hcH hXn hRv hRi hRl hRa hO1 hO2 hwk hak hcp hoi (hrows _ (hin _ List.mem_cons_self)) (hin _ List.mem_cons_self) (fun q hq => hin q (List.mem_cons_of_mem _ hq)) hh
end RunT
end
section
section Calls15
variable {p : Program} {l : Launch} {e : Env} {R : Room} {s : State} {m : MethodId} {args : Array Value} {below : List Frame} {meth : Method} {c : Code} {Q : State → Prop} {cc : ByteArray} {D : va_G} {cA : Nat → ClassId} {A : Nat → Prop} {old : Nat → Nat} {rho : UInt32 → Int32} {nL MC MS pc mc ms : Nat} {ad0 : List Nat} {la : RLoc} {st : List Value} {h : RHeap} {O : ROld} {own C : String} {index n : Nat} {Ts : List Jvm.Cond}
theorem rg_callSW {y : MethodName} {bytes : ByteArray} {maxL : Nat} {ret : Option FieldType} {ws9 : List Cond} {d mc2 ms2 : Nat} {as r : List Value} {v : Option Value} {h2 : RHeap} {hh9 : List (Nat × Nat × Nat × Nat)} (hS : CallFix p m c cc nL s args Ts own) (hE : rx_E O D cA A old rho s) (hM : ∀ ad, Met l y ws9 (rx_rm d mc2 ms2) (rx_Pc O D cA A old rho as h ad) (rx_Qc D cA A old rho v h2 ad) mc2 ms2 A) (cw : vx_CSW R s args own index y bytes maxL ret hh9 ws9 (rx_rm d mc2 ms2) mc2 ms2 n) (hMC : MC ≤ R.cells) (hMS : MS ≤ R.slots) (htk : rx_take n [] st = some (as, r)) (hdg : decode cc pc = .ok (.invokestatic index, 3)) (hst : rx_cats r ≤ 8) (kk : rx_G p l e R s m args below meth c Q D cA A old rho nL MC MS ad0 (pc + 3) la (v.toList ++ r) h2 mc ms) : rx_G p l e R s m args below meth c Q D cA A old rho nL MC MS ad0 pc la st h (mc + mc2) (ms + ms2) := by
  intro H locs ls cst cells slots hR h1 h2e
  obtain ⟨ws, lc, r1, r2, r3, r4, r5, r6, r7, r8⟩ := hR
  obtain ⟨cs, cr, rfl, t2, t3, t4⟩ := rx_take_of htk (cacc := []) trivial r7
  simp only [List.append_nil] at t2
  have hpc : ∀ U : State, U.heap = H → s.WarmedH U.vm → rx_Pc O D cA A old rho as h (ws.map (·.1)) (cs.reverse).toArray U := fun U hU hW => ⟨_, ws, rfl, rfl, t2, r1, by rw [hU]; exact r2, r3, hE.to hW (by rw [hU]; exact r4.1) (fun a g1 g2 => by rw [hU]; exact r4.2.1 a g1 g2)⟩
  have hq := t3.cats
  refine rg_after (mc2 := mc2) (ms2 := ms2) (vx_runSW (As := cs.reverse) (rest := cr) hS (hM _) cw ⟨rx_Pc.blind, hpc⟩ (g := F0 m pc ls (cs ++ cr)) rfl (by rw [List.length_reverse]; exact t4) r5.1 (by rw [List.reverse_reverse]) (lv_room (by rw [← hq]; exact hst)) hdg ⟨by omega, by omega⟩) r4 r5 r6 t3 r8 h1 h2e kk
theorem rg_callVW {y : MethodName} {bytes : ByteArray} {maxL : Nat} {ret : Option FieldType} {ws9 : List Cond} {d mc2 ms2 : Nat} {as r : List Value} {v : Option Value} {h2 : RHeap} {hh9 : List (Nat × Nat × Nat × Nat)} {k : Nat} (hS : CallFix p m c cc nL s args Ts own) (hE : rx_E O D cA A old rho s) (hM : ∀ ad, Met l y ws9 (rx_rm d mc2 ms2) (rx_Pc O D cA A old rho (.ref k :: as) h ad) (rx_Qc D cA A old rho v h2 ad) mc2 ms2 A) (cw : vx_CVW R s args own C index y bytes maxL ret hh9 ws9 (rx_rm d mc2 ms2) mc2 ms2 n) (hMC : MC ≤ R.cells) (hMS : MS ≤ R.slots) (htk : rx_take n [] st = some (as, .ref k :: r)) (hrv : ∀ (ws : va_W) (H : Heap) (locs : List Loc) (cb : Value), rx_RW old rho cA (ws.map (·.1)) h ws → va_P D rc_cls ws H → va_S A s.heap H locs → rx_R old rho (ws.map (·.1)) (.ref k) cb → ∃ cell : Cell, ∀ b, cb = .ref b → H[b]? = some cell ∧ cell.vm.isStatics = false ∧ s.vm.findClass C = some cell.cls) (hk : k < 2000000) (hdg : decode cc pc = .ok (.invokevirtual index, 3)) (hst : rx_cats r ≤ 8) (kk : rx_G p l e R s m args below meth c Q D cA A old rho nL MC MS ad0 (pc + 3) la (v.toList ++ r) h2 mc ms) : rx_G p l e R s m args below meth c Q D cA A old rho nL MC MS ad0 pc la st h (mc + mc2) (ms + ms2) := by
  intro H locs ls cst cells slots hR h1 h2e
  obtain ⟨ws, lc, r1, r2, r3, r4, r5, r6, r7, r8⟩ := hR
  obtain ⟨cs, cr, rfl, t2, t3, t4⟩ := rx_take_of htk (cacc := []) trivial r7
  simp only [List.append_nil] at t2
  obtain ⟨cb, cr2, rfl, hr, q7⟩ := rx_RL.uncons t3
  have hb2 : ∃ b, cb = .ref b := by
    rcases hr with ⟨h9, -⟩ | ⟨-, -, h9⟩ | ⟨-, b, -, h9⟩
    · exact absurd hk (Nat.not_lt.mpr h9)
    · exact ⟨_, h9⟩
    · exact ⟨_, h9⟩
  obtain ⟨b, rfl⟩ := hb2
  have hpc : ∀ U : State, U.heap = H → s.WarmedH U.vm → rx_Pc O D cA A old rho (.ref k :: as) h (ws.map (·.1)) (Value.ref b :: cs.reverse).toArray U := fun U hU hW => ⟨_, ws, rfl, rfl, ⟨hr, t2⟩, r1, by rw [hU]; exact r2, r3, hE.to hW (by rw [hU]; exact r4.1) (fun a g1 g2 => by rw [hU]; exact r4.2.1 a g1 g2)⟩
  have hq := q7.cats
  obtain ⟨cell, hcell⟩ := hrv ws H locs _ r1 r2 r4 hr
  refine rg_after (mc2 := mc2) (ms2 := ms2) (vx_runVW (As := cs.reverse) (rest := cr2) hS (hM _) cw ⟨rx_Pc.blind, ⟨cell, hcell b rfl⟩, hpc⟩ (g := F0 m pc ls (cs ++ .ref b :: cr2)) rfl (by rw [List.length_reverse]; exact t4) r5.1 (by rw [List.reverse_reverse]) (lv_room (by rw [← hq]; exact hst)) hdg ⟨by omega, by omega⟩) r4 r5 r6 q7 r8 h1 h2e kk
/-- what a thrown exception leaves -/
def rx_XN (E : Nat) : String := match E with
  | 1 => "java/lang/IllegalArgumentException"
  | _ => "java/lang/IllegalStateException"
def rx_XC (D : va_G) (cA : Nat → ClassId) (A : Nat → Prop) (old : Nat → Nat) (rho : UInt32 → Int32) (E : Nat) (h : RHeap) (ad : List Nat) : String → State → State → Prop := fun nm st t =>
  nm = rx_XN E ∧ (∃ (ws : va_W) (l : List Nat), ws.map (·.1) = ad ++ l ∧ rx_RW old rho cA (ad ++ l) h ws ∧ va_P D rc_cls ws t.heap ∧ va_D A ws) ∧ va_F A st t
def rx_CS (l : Launch) (O : ROld) (D : va_G) (cA : Nat → ClassId) (A : Nat → Prop) (old : Nat → Nat) (rho : UInt32 → Int32) (sg : RSig) (d : Nat) (as : List Value) (h : RHeap) : RRes → Prop
  | (.inl v, h2, mc, ms) => ∀ ad, Met l sg.1 (rx_cw sg :: rc_good) (rx_rm d mc ms) (rx_Pc O D cA A old rho as h ad) (rx_Qc D cA A old rho v h2 ad) mc ms A
  | (.inr E, h2, mc, ms) => ∀ ad, vx_Met l sg.1 (rx_cw sg :: rc_good) (rx_rm d mc ms) (rx_Pc O D cA A old rho as h ad) (fun _ _ _ _ => False) (rx_XC D cA A old rho E h2 ad) mc ms A
/-- a call that throws: what holds where the exception lies over the frame -/
theorem rg_callX {y : MethodName} {bytes : ByteArray} {maxL : Nat} {ret : Option FieldType} {ws9 : List Cond} {d mc2 ms2 : Nat} {as r : List Value} {h2 : RHeap} {k E : Nat} (hS : CallFix p m c cc nL s args Ts own) (hE : rx_E O D cA A old rho s) (hM : ∀ ad, vx_Met l y ws9 (rx_rm d mc2 ms2) (rx_Pc O D cA A old rho (.ref k :: as) h ad) (fun _ _ _ _ => False) (rx_XC D cA A old rho E h2 ad) mc2 ms2 A) (cw : CallW R s args own C index y bytes maxL ret ws9 (rx_rm d mc2 ms2) mc2 ms2 n) (hMC : MC ≤ R.cells) (hMS : MS ≤ R.slots) (htk : rx_take n [] st = some (as, .ref k :: r)) (hrv : ∀ (ws : va_W) (H : Heap) (locs : List Loc) (cb : Value), rx_RW old rho cA (ws.map (·.1)) h ws → va_P D rc_cls ws H → va_S A s.heap H locs → rx_R old rho (ws.map (·.1)) (.ref k) cb → ∃ cell : Cell, ∀ b, cb = .ref b → H[b]? = some cell ∧ cell.vm.isStatics = false ∧ s.vm.findClass C = some cell.cls) (hk : k < 2000000) (hdg : decode cc pc = .ok (.invokevirtual index, 3)) (hst : rx_cats r ≤ 8)
    (kk : ∀ (H : Heap) (locs : List Loc) (ls : Array Slot) (rest : List Value) (cells slots : Nat) (ws : va_W) (lc : RLoc) (q : Addr) (ce : Cell), rx_RW old rho cA (ws.map (·.1)) h2 ws → va_P D rc_cls ws H → va_D A ws → va_S A s.heap H locs → lv_has ls nL lc → rx_RC old rho (ws.map (·.1)) la lc → (∃ l, ws.map (·.1) = ad0 ++ l) → H[q]? = some ce → ce.vm = .none → s.vm.findClass (rx_XN E) = some ce.cls → cells + mc = MC → slots + ms = MS → vx_W p l e R s m args below meth c H locs cells slots Q (F0 m pc ls rest) q) : rx_G p l e R s m args below meth c Q D cA A old rho nL MC MS ad0 pc la st h (mc + mc2) (ms + ms2) := by
  intro H locs ls cst cells slots hR h1 h2e
  obtain ⟨ws, lc, r1, r2, r3, r4, r5, r6, r7, r8⟩ := hR
  obtain ⟨cs, cr, rfl, t2, t3, t4⟩ := rx_take_of htk (cacc := []) trivial r7
  simp only [List.append_nil] at t2
  obtain ⟨cb, cr2, rfl, hr, q7⟩ := rx_RL.uncons t3
  have hb2 : ∃ b, cb = .ref b := by
    rcases hr with ⟨h9, -⟩ | ⟨-, -, h9⟩ | ⟨-, b, -, h9⟩
    · exact absurd hk (Nat.not_lt.mpr h9)
    · exact ⟨_, h9⟩
    · exact ⟨_, h9⟩
  obtain ⟨b, rfl⟩ := hb2
  have hpc : ∀ U : State, U.heap = H → s.WarmedH U.vm → rx_Pc O D cA A old rho (.ref k :: as) h (ws.map (·.1)) (Value.ref b :: cs.reverse).toArray U := fun U hU hW => ⟨_, ws, rfl, rfl, ⟨hr, t2⟩, r1, by rw [hU]; exact r2, r3, hE.to hW (by rw [hU]; exact r4.1) (fun a g1 g2 => by rw [hU]; exact r4.2.1 a g1 g2)⟩
  have hq := q7.cats
  obtain ⟨cell, hcell⟩ := hrv ws H locs _ r1 r2 r4 hr
  have hrun := vx_runV (As := cs.reverse) (rest := cr2) (H := H) (locs := locs) (cells := cells) (slots := slots) (below := below) (meth := meth) (e := e) hS (hM (ws.map (·.1))) cw ⟨rx_Pc.blind, ⟨cell, hcell b rfl⟩, hpc⟩ (g := F0 m pc ls (cs ++ .ref b :: cr2)) rfl (by rw [List.length_reverse]; exact t4) r5.1 (by rw [List.reverse_reverse]) (lv_room (by rw [← hq]; exact hst)) hdg ⟨by omega, by omega⟩
  intro T hT X
  rcases hrun T hT X with ⟨v9, st₀, t, T', L, -, -, -, -, -, hF, -⟩ | ⟨q, st₀, t, T', L, E9, ce, h0, X', hL, e1, e2, ⟨hE9, ⟨ws2, l9, g2, g3, g4, g5⟩, hz, hkk⟩, hce, hcv, hcl, st⟩
  · exact hF.elim
  · subst hE9
    rw [h0] at hz hkk
    obtain ⟨t2, a1, b1⟩ := kk T'.heap (locs ++ L) ls cr2 (cells + mc2) (slots + ms2) ws2 lc q ce (by rw [g2]; exact g3) (by rw [e1]; exact g4) g5
      ⟨Nat.le_trans r4.1 (by rw [e1]; exact hz), fun q h1 h2 => by rw [e1, hkk q (Nat.lt_of_lt_of_le h1 r4.1) h2]; exact r4.2.1 q h1 h2, fun q hq => by
        rcases List.mem_append.mp hq with h | h
        · exact r4.2.2 q h
        · exact hL q h⟩ r5 (by rw [g2]; exact r6.more) (by obtain ⟨l8, h8⟩ := r8; exact ⟨l8 ++ l9, by rw [g2, h8, List.append_assoc]⟩) (by rw [e1]; exact hce) hcv hcl (by omega) (by omega) T' rfl X'
    exact ⟨t2, st.trans a1, b1⟩
end Calls15
end
section
theorem rx_good_in {w : Nat} {x : Jvm.Cond} (h : rx_wd w x = true) : GoodIn rc_good (x :: rc_good) := by
  have hg : ∀ z ∈ rc_good, z ∈ rc_good ∧ ((z.onTables && z.keeps) = true ∨ ∃ ty, z = .arrayClass ty) := fun z hz => ⟨hz, good_of_word (List.mem_filter.mp hz).2⟩
  intro z hz
  rcases List.mem_cons.mp hz with rfl | hz
  · exact hg _ (rx_wd_mem h)
  · exact hg _ hz
theorem rx_sigok_of {sg : RSig} {n : Nat} (h : rx_sigok sg n = true) : sg.1.cls ≠ "java/lang/invoke/MethodHandle" ∧ sg.1.cls ≠ "java/lang/invoke/VarHandle" ∧ (parseMethodDescriptor sg.1.desc).map (fun d => d.parameters.length) = some n := by
  unfold rx_sigok at h
  rw [Bool.and_eq_true, Bool.and_eq_true] at h
  exact ⟨of_decide_eq_true h.1.1, of_decide_eq_true h.1.2, of_decide_eq_true h.2⟩
theorem rx_recv_lt {O : ROld} {ci : Nat} {h : RHeap} {a : Nat} (hO1 : ∀ q ∈ O.1, q.1 < 1000000) (hr : rx_recv O ci h (.ref a) = true) : a < 2000000 := by
  simp only [rx_recv] at hr
  cases ho : rx_old a with
  | false => exact Nat.lt_of_lt_of_le (rx_old_of ho) (by decide)
  | true =>
    simp only [ho] at hr
    cases hf : rx_oldF O.1 (a - 1000000) ci 0 with
    | none => simp [hf] at hr
    | some v =>
      have := hO1 _ (rx_oldF_of hf)
      have h2 : a - 1000000 < 1000000 := this
      omega
section Calls16
variable {p : Program} {l : Launch} {e : Env} {R : Room} {s : State} {m : MethodId} {args : Array Value} {below : List Frame} {meth : Method} {c : Code} {Q : State → Prop} {cc : ByteArray} {D : va_G} {cA : Nat → ClassId} {A : Nat → Prop} {old : Nat → Nat} {rho : UInt32 → Int32} {nL MC MS : Nat} {ad0 : List Nat} {O : ROld} {F : RFacts} {C9 : Nat → List Value → RHeap → Option RRes} {own : String} {ini : Bool} {sigs : List RSig} {d : Nat} {C : String} {T : u_T} {N : Nat}
theorem rx_recv_ok {ci : Nat} {h : RHeap} {a : Nat} (hE : rx_E O D cA A old rho s) (hO1 : ∀ q ∈ O.1, q.1 < 1000000) (hcl : rc_cls[ci]? = some (C, T, N)) (hr : rx_recv O ci h (.ref a) = true) : ∀ (ws : va_W) (H : Heap) (locs : List Loc) (cb : Value), rx_RW old rho cA (ws.map (·.1)) h ws → va_P D rc_cls ws H → va_S A s.heap H locs → rx_R old rho (ws.map (·.1)) (.ref a) cb → ∃ cell : Cell, ∀ b, cb = .ref b → H[b]? = some cell ∧ cell.vm.isStatics = false ∧ s.vm.findClass C = some cell.cls := by
  intro ws H locs cb r1 r2 r4 hR
  have hlt := rx_recv_lt hO1 hr
  simp only [rx_recv] at hr
  cases ho : rx_old a with
  | false =>
    simp only [ho] at hr
    cases hn : rx_nth h a with
    | none => simp [hn] at hr
    | some x =>
      cases x with
      | inl y => simp [hn] at hr
      | inr y =>
        obtain ⟨c0, fs⟩ := y
        simp only [hn] at hr
        rw [rx_nth_eq] at hn
        have hc0 := Nat.eq_of_beq_eq_true hr
        subst hc0
        obtain ⟨b, e9, rfl, hw, he⟩ := rx_ref hR (rx_old_of ho) r1 hn
        obtain ⟨gs, rfl, -⟩ := he.obj
        obtain ⟨cell, g1, g2, g3⟩ := va_recv hE.1 r2 hcl hw
        exact ⟨cell, fun b2 hb2 => by cases hb2; exact ⟨g1, g2, g3⟩⟩
  | true =>
    simp only [ho] at hr
    cases hf : rx_oldF O.1 (a - 1000000) ci 0 with
    | none => simp [hf] at hr
    | some v =>
      obtain ⟨C2, T2, N2, cv, e1, e2, e3, -⟩ := hE.2.2.1 _ (rx_oldF_of hf)
      have e1 : rc_cls[ci]? = some (C2, T2, N2) := e1
      rw [hcl] at e1
      cases e1
      have hcb := rx_refO hR (Nat.le_of_ble_eq_true ho) hlt
      obtain ⟨cell, g1, g2, g3, -⟩ := e3.kept r4.2.1
      exact ⟨cell, fun b2 hb2 => by rw [hcb] at hb2; cases hb2; exact ⟨g1, g2, g3⟩⟩
theorem rx_hcS (hS : CallFix p m c cc nL s args rc_good own) (hE : rx_E O D cA A old rho s) (hO1 : ∀ q ∈ O.1, q.1 < 1000000) (hMC : MC ≤ R.cells) (hMS : MS ≤ R.slots) (hfr : d + 11 ≤ R.frames) (hlo : 64 * d + 264 ≤ R.locals) (ih : ∀ (mi : Nat) (as : List Value) (h : RHeap) (r : RRes), C9 mi as h = some r → ∀ sg, sigs[mi]? = some sg → rx_CS l O D cA A old rho sg d as h r) : ∀ (pc x mi n w : Nat) (la : RLoc) (st as r : List Value) (h h2 : RHeap) (v : Option Value) (mc ms mc2 ms2 : Nat), decode cc pc = .ok (.invokestatic x, 3) → rx_aok ini own sigs (.invokestatic x) [mi, n, w] = true → rx_take n [] st = some (as, r) → rx_cats r ≤ 8 → C9 mi as h = some (.inl v, h2, mc2, ms2) → rx_G p l e R s m args below meth c Q D cA A old rho nL MC MS ad0 (pc + 3) la (v.toList ++ r) h2 mc ms → rx_G p l e R s m args below meth c Q D cA A old rho nL MC MS ad0 pc la st h (mc + mc2) (ms + ms2) := by
  intro pc x mi n w la st as r h h2 v mc ms mc2 ms2 hdec haok htk hst hC kk
  have hw : ∀ {w : Nat} {x : Jvm.Cond}, rx_wd w x = true → x.before args s = true := fun hq => hS.2.2.2.2 _ (rx_wd_mem hq)
  simp only [rx_aok, rx_nth_eq] at haok
  cases hsg : sigs[mi]? with
  | none => rw [hsg] at haok; cases haok
  | some sg =>
    rw [hsg] at haok
    simp only [Bool.and_eq_true] at haok
    obtain ⟨⟨⟨a1, a2⟩, a3⟩, a4⟩ := haok
    have hM := ih _ _ _ _ hC sg hsg
    obtain ⟨y, bytes, ret, wc, wi, wsel, wini, hh, nL9⟩ := sg
    simp only [rx_sgok, Bool.and_eq_true] at a3
    obtain ⟨⟨b1, b2⟩, b3⟩ := a3
    have b3 : nL9 ≤ 40 := Nat.le_of_ble_eq_true b3
    have hgi := rx_good_in b1
    have hd := rx_sigok_of a2
    have hR : (rx_rm d mc2 ms2).frames + 1 ≤ R.frames ∧ 8 + (nL9 + 11) + (rx_rm d mc2 ms2).locals ≤ R.locals := ⟨by show d + 10 + 1 ≤ _; omega, by show 8 + (nL9 + 11) + (64 * d + 200) ≤ _; omega⟩
    cases hh with
    | nil => exact rg_callS hS hE hM ⟨callB_of n hS.2.2.2.2 hgi rfl rfl rfl (hw b2) (hw a1) hd hR, hw a4⟩ hMC hMS htk hdec hst kk
    | cons z zs => exact rg_callSW hS hE hM ⟨⟨rfl, rfl, hR.1, hR.2, pay_in hS.2.2.2.2 hgi, List.mem_cons_self⟩, hw b1, hw b2, ⟨hd.1, hd.2.1⟩, (fun sig h => by have h2 := hd.2.2; rw [h] at h2; exact (Option.some.inj h2).symm), hw a1, hw a4⟩ hMC hMS htk hdec hst kk
theorem rx_hcI (hS : CallFix p m c cc nL s args rc_good own) (hE : rx_E O D cA A old rho s) (hO1 : ∀ q ∈ O.1, q.1 < 1000000) (hMC : MC ≤ R.cells) (hMS : MS ≤ R.slots) (hfr : d + 11 ≤ R.frames) (hlo : 64 * d + 264 ≤ R.locals) (ih : ∀ (mi : Nat) (as : List Value) (h : RHeap) (r : RRes), C9 mi as h = some r → ∀ sg, sigs[mi]? = some sg → rx_CS l O D cA A old rho sg d as h r) : ∀ (pc x mi n ci w : Nat) (la : RLoc) (st as r : List Value) (a : Nat) (h h2 : RHeap) (v : Option Value) (mc ms mc2 ms2 : Nat), decode cc pc = .ok (.invokespecial x, 3) → rx_aok ini own sigs (.invokespecial x) [mi, n, ci, w] = true → rx_take n [] st = some (as, .ref a :: r) → rx_cats r ≤ 8 → rx_recv O ci h (.ref a) = true → C9 mi (.ref a :: as) h = some (.inl v, h2, mc2, ms2) → rx_G p l e R s m args below meth c Q D cA A old rho nL MC MS ad0 (pc + 3) la (v.toList ++ r) h2 mc ms → rx_G p l e R s m args below meth c Q D cA A old rho nL MC MS ad0 pc la st h (mc + mc2) (ms + ms2) := by
  intro pc x mi n ci w la st as r a h h2 v mc ms mc2 ms2 hdec haok htk hst hrv hC kk
  have hw : ∀ {w : Nat} {x : Jvm.Cond}, rx_wd w x = true → x.before args s = true := fun hq => hS.2.2.2.2 _ (rx_wd_mem hq)
  have hk := rx_recv_lt hO1 hrv
  rw [rx_aok] at haok
  rw [rx_nth_eq] at haok
  cases hsg : sigs[mi]? with
  | none => rw [hsg] at haok; cases haok
  | some sg =>
    rw [hsg] at haok
    simp only [Bool.and_eq_true, Bool.or_eq_true] at haok
    obtain ⟨⟨⟨⟨⟨⟨a1, a5⟩, a6⟩, a2⟩, a7⟩, a3⟩, a4⟩ := haok
    have hM := ih _ _ _ _ hC sg hsg
    obtain ⟨y, bytes, ret, wc, wi, wsel, wini, hh, nL9⟩ := sg
    simp only [rx_sgok, Bool.and_eq_true] at a3
    obtain ⟨⟨b1, b2⟩, b3⟩ := a3
    have b3 : nL9 ≤ 40 := Nat.le_of_ble_eq_true b3
    have hgi := rx_good_in b1
    have hd := rx_sigok_of a2
    have hR : (rx_rm d mc2 ms2).frames + 1 ≤ R.frames ∧ 8 + (nL9 + 11) + (rx_rm d mc2 ms2).locals ≤ R.locals := ⟨by show d + 10 + 1 ≤ _; omega, by show 8 + (nL9 + 11) + (64 * d + 200) ≤ _; omega⟩
    have a6 : ret = none := of_decide_eq_true a6
    subst a6
    have e5 : y.name = "<init>" := of_decide_eq_true a5
    cases hh with
    | cons z zs => cases a7
    | nil =>
      rcases a1 with ((a1 | a1) | a1) | a1
      · exact rg_callI (ret := none) hS hE hM ⟨callB_of n hS.2.2.2.2 hgi rfl rfl rfl (hw b2) (hw a1) hd hR, e5, hw a4⟩ hMC hMS htk hk hdec hst kk
      · have c1 : own = RX11 := of_decide_eq_true a1.1.1
        have c2 := Nat.eq_of_beq_eq_true a1.1.2
        have c3 : y = ⟨RX8, "<init>", "()V"⟩ := of_decide_eq_true a1.2
        subst c1 c2 c3
        exact rg_callIN (ret := none) (host := RX11) hS hE hM ⟨va_cnB n hS.2.2.2.2 hgi rfl rfl rfl hE.2.2.2.2.2.2.2.2.1 (hw b2) hd hR, e5, hw a4⟩ hMC hMS htk hk hdec hst kk
      · have c1 : own = RX11 := of_decide_eq_true a1.1.1
        have c2 := Nat.eq_of_beq_eq_true a1.1.2
        have c3 : y = ⟨RX1, "<init>", "()V"⟩ := of_decide_eq_true a1.2
        subst c1 c2 c3
        exact rg_callIN (ret := none) (host := RX11) hS hE hM ⟨va_cnB n hS.2.2.2.2 hgi rfl rfl rfl hE.2.2.2.2.2.2.2.2.2.1 (hw b2) hd hR, e5, hw a4⟩ hMC hMS htk hk hdec hst kk
      · have c1 : own = RX3 := of_decide_eq_true a1.1.1
        have c2 := Nat.eq_of_beq_eq_true a1.1.2
        have c3 : y = ⟨RX8, "<init>", "()V"⟩ := of_decide_eq_true a1.2
        subst c1 c2 c3
        exact rg_callIN (ret := none) (host := RX11) hS hE hM ⟨va_cnB n hS.2.2.2.2 hgi rfl rfl rfl hE.2.2.2.2.2.2.2.2.2.2.1 (hw b2) hd hR, e5, hw a4⟩ hMC hMS htk hk hdec hst kk
theorem rx_hcV (hS : CallFix p m c cc nL s args rc_good own) (hE : rx_E O D cA A old rho s) (hO1 : ∀ q ∈ O.1, q.1 < 1000000) (hMC : MC ≤ R.cells) (hMS : MS ≤ R.slots) (hfr : d + 11 ≤ R.frames) (hlo : 64 * d + 264 ≤ R.locals) (ih : ∀ (mi : Nat) (as : List Value) (h : RHeap) (r : RRes), C9 mi as h = some r → ∀ sg, sigs[mi]? = some sg → rx_CS l O D cA A old rho sg d as h r) : ∀ (pc x mi n ci w : Nat) (la : RLoc) (st as r : List Value) (a : Nat) (h h2 : RHeap) (v : Option Value) (mc ms mc2 ms2 : Nat), decode cc pc = .ok (.invokevirtual x, 3) → rx_aok ini own sigs (.invokevirtual x) [mi, n, ci, w] = true → rx_take n [] st = some (as, .ref a :: r) → rx_cats r ≤ 8 → rx_recv O ci h (.ref a) = true → C9 mi (.ref a :: as) h = some (.inl v, h2, mc2, ms2) → rx_G p l e R s m args below meth c Q D cA A old rho nL MC MS ad0 (pc + 3) la (v.toList ++ r) h2 mc ms → rx_G p l e R s m args below meth c Q D cA A old rho nL MC MS ad0 pc la st h (mc + mc2) (ms + ms2) := by
  intro pc x mi n ci w la st as r a h h2 v mc ms mc2 ms2 hdec haok htk hst hrv hC kk
  have hw : ∀ {w : Nat} {x : Jvm.Cond}, rx_wd w x = true → x.before args s = true := fun hq => hS.2.2.2.2 _ (rx_wd_mem hq)
  have hk := rx_recv_lt hO1 hrv
  have haok : (match rx_nth sigs mi, rx_nth rc_cls ci with
    | some sg, some q => rx_wd w (.methodLink own x sg.1) && rx_sigok sg n && decide (sg.1.cls = q.1) && rx_sgok sg && rx_wd sg.2.2.2.2.1 (.instanceMethod sg.1) && rx_wd sg.2.2.2.2.2.1 (.selects sg.1.cls sg.1 sg.1)
    | _, _ => false) = true := haok
  rw [rx_nth_eq, rx_nth_eq] at haok
  cases hsg : sigs[mi]? with
  | none => rw [hsg] at haok; cases haok
  | some sg =>
    cases hcl : rc_cls[ci]? with
    | none => rw [hsg, hcl] at haok; cases haok
    | some q =>
    obtain ⟨C, T, N⟩ := q
    rw [hsg, hcl] at haok
    simp only [Bool.and_eq_true] at haok
    obtain ⟨⟨⟨⟨⟨a1, a2⟩, a5⟩, a3⟩, a4⟩, a6⟩ := haok
    have hM := ih _ _ _ _ hC sg hsg
    obtain ⟨y, bytes, ret, wc, wi, wsel, wini, hh, nL9⟩ := sg
    simp only [rx_sgok, Bool.and_eq_true] at a3
    obtain ⟨⟨b1, b2⟩, b3⟩ := a3
    have b3 : nL9 ≤ 40 := Nat.le_of_ble_eq_true b3
    have hgi := rx_good_in b1
    have hd := rx_sigok_of a2
    have hR : (rx_rm d mc2 ms2).frames + 1 ≤ R.frames ∧ 8 + (nL9 + 11) + (rx_rm d mc2 ms2).locals ≤ R.locals := ⟨by show d + 10 + 1 ≤ _; omega, by show 8 + (nL9 + 11) + (64 * d + 200) ≤ _; omega⟩
    have a5 : y.cls = C := of_decide_eq_true a5
    subst a5
    have hrv2 := rx_recv_ok hE hO1 hcl hrv
    cases hh with
    | nil => exact rg_callV hS hE hM ⟨callB_of n hS.2.2.2.2 hgi rfl rfl rfl (hw b2) (hw a1) hd hR, hw a4, hw a6⟩ hMC hMS htk hrv2 hk hdec hst kk
    | cons z zs => exact rg_callVW hS hE hM ⟨⟨rfl, rfl, hR.1, hR.2, pay_in hS.2.2.2.2 hgi, List.mem_cons_self⟩, hw b1, hw b2, ⟨hd.1, hd.2.1⟩, (fun sig h => by have h2 := hd.2.2; rw [h] at h2; exact (Option.some.inj h2).symm), hw a1, hw a4, hw a6⟩ hMC hMS htk hrv2 hk hdec hst kk
/-- a call that throws, out of a row -/
theorem rx_hcT (hS : CallFix p m c cc nL s args rc_good own) (hE : rx_E O D cA A old rho s) (hO1 : ∀ q ∈ O.1, q.1 < 1000000) (hMC : MC ≤ R.cells) (hMS : MS ≤ R.slots) (hfr : d + 11 ≤ R.frames) (hlo : 64 * d + 264 ≤ R.locals) (ih : ∀ (mi : Nat) (as : List Value) (h : RHeap) (r : RRes), C9 mi as h = some r → ∀ sg, sigs[mi]? = some sg → rx_CS l O D cA A old rho sg d as h r) {pc x mi n ci w E : Nat} {la : RLoc} {st as r : List Value} {a : Nat} {h h2 : RHeap} {mc ms mc2 ms2 : Nat} (hdec : decode cc pc = .ok (.invokevirtual x, 3)) (haok : rx_aok ini own sigs (.invokevirtual x) [mi, n, ci, w] = true) (htk : rx_take n [] st = some (as, .ref a :: r)) (hst : rx_cats r ≤ 8) (hrv : rx_recv O ci h (.ref a) = true) (hC : C9 mi (.ref a :: as) h = some (.inr E, h2, mc2, ms2)) (hnt : ∀ sg, sigs[mi]? = some sg → sg.2.2.2.2.2.2.2.1 = [])
    (kk : ∀ (H : Heap) (locs : List Loc) (ls : Array Slot) (rest : List Value) (cells slots : Nat) (ws : va_W) (lc : RLoc) (q : Addr) (ce : Cell), rx_RW old rho cA (ws.map (·.1)) h2 ws → va_P D rc_cls ws H → va_D A ws → va_S A s.heap H locs → lv_has ls nL lc → rx_RC old rho (ws.map (·.1)) la lc → (∃ l, ws.map (·.1) = ad0 ++ l) → H[q]? = some ce → ce.vm = .none → s.vm.findClass (rx_XN E) = some ce.cls → cells + mc = MC → slots + ms = MS → vx_W p l e R s m args below meth c H locs cells slots Q (F0 m pc ls rest) q) : rx_G p l e R s m args below meth c Q D cA A old rho nL MC MS ad0 pc la st h (mc + mc2) (ms + ms2) := by
  have hw : ∀ {w : Nat} {x : Jvm.Cond}, rx_wd w x = true → x.before args s = true := fun hq => hS.2.2.2.2 _ (rx_wd_mem hq)
  have hk := rx_recv_lt hO1 hrv
  have haok : (match rx_nth sigs mi, rx_nth rc_cls ci with
    | some sg, some q => rx_wd w (.methodLink own x sg.1) && rx_sigok sg n && decide (sg.1.cls = q.1) && rx_sgok sg && rx_wd sg.2.2.2.2.1 (.instanceMethod sg.1) && rx_wd sg.2.2.2.2.2.1 (.selects sg.1.cls sg.1 sg.1)
    | _, _ => false) = true := haok
  rw [rx_nth_eq, rx_nth_eq] at haok
  cases hsg : sigs[mi]? with
  | none => rw [hsg] at haok; cases haok
  | some sg =>
    cases hcl : rc_cls[ci]? with
    | none => rw [hsg, hcl] at haok; cases haok
    | some q =>
    obtain ⟨C, T, N⟩ := q
    rw [hsg, hcl] at haok
    simp only [Bool.and_eq_true] at haok
    obtain ⟨⟨⟨⟨⟨a1, a2⟩, a5⟩, a3⟩, a4⟩, a6⟩ := haok
    have hM := ih _ _ _ _ hC sg hsg
    have hnt := hnt sg hsg
    obtain ⟨y, bytes, ret, wc, wi, wsel, wini, hh, nL9⟩ := sg
    simp only [rx_sgok, Bool.and_eq_true] at a3
    obtain ⟨⟨b1, b2⟩, b3⟩ := a3
    have b3 : nL9 ≤ 40 := Nat.le_of_ble_eq_true b3
    have hgi := rx_good_in b1
    have hd := rx_sigok_of a2
    have hR : (rx_rm d mc2 ms2).frames + 1 ≤ R.frames ∧ 8 + (nL9 + 11) + (rx_rm d mc2 ms2).locals ≤ R.locals := ⟨by show d + 10 + 1 ≤ _; omega, by show 8 + (nL9 + 11) + (64 * d + 200) ≤ _; omega⟩
    have a5 : y.cls = C := of_decide_eq_true a5
    subst a5
    have hnt : hh = [] := hnt
    subst hnt
    exact rg_callX hS hE hM ⟨callB_of n hS.2.2.2.2 hgi rfl rfl rfl (hw b2) (hw a1) hd hR, hw a4, hw a6⟩ hMC hMS htk (rx_recv_ok hE hO1 hcl hrv) hk hdec hst kk
end Calls16
end
section
/-! the check of a method -/
def rx_any (d : Jvm.Cond) : Bool := lw_tbl.any (fun x => decide (x = d)) && goodWord d
theorem rx_any_mem {d : Jvm.Cond} (h : rx_any d = true) : d ∈ rc_good := by
  unfold rx_any at h
  rw [Bool.and_eq_true, List.any_eq_true] at h
  obtain ⟨⟨x, hx, he⟩, hg⟩ := h
  have he : x = d := of_decide_eq_true he
  subst he
  exact List.mem_filter.mpr ⟨hx, hg⟩
def rx_retok (k : Nat) (ret : Option FieldType) : Bool := match k, ret with
  | 0, none => true
  | 1, some .int => true
  | 2, some .boolean => true
  | 3, some .byte => true
  | 4, some .char => true
  | 5, some .long => true
  | 6, some (.object _) => true
  | 6, some (.array _) => true
  | _, _ => false
def rx_hok (own : String) (raw hh : List (Nat × Nat × Nat × Nat)) : Bool := match raw, hh with
  | [], [] => true
  | [x], [y] => Nat.beq x.1 y.1 && Nat.beq x.2.1 y.2.1 && Nat.beq x.2.2.1 y.2.2.1 && !Nat.beq x.2.2.2 0 && rx_any (.classLink own x.2.2.2 (rx_XN y.2.2.2))
  | _, _ => false
def rx_xok (own : String) (cc : ByteArray) (q : RRow) : Bool := match q.2.1, q.2.2.2 with
  | .new x, [7777, E, w] => rx_wd w (.classLink own x (rx_XN E)) && decide (decode cc (q.1 + 3) = .ok (.dup, 1)) && decide (decode cc (q.1 + 9) = .ok (.athrow, 1)) &&
      ((decide (own = RX11) && Nat.beq E 1 && (decide (decode cc (q.1 + 4) = .ok (.ldc 66, 2)) || decide (decode cc (q.1 + 4) = .ok (.ldc 113, 2)) || decide (decode cc (q.1 + 4) = .ok (.ldc 144, 2))) && decide (decode cc (q.1 + 6) = .ok (.invokespecial 68, 3))) ||
       (decide (own = RX10) && Nat.beq E 2 && decide (decode cc (q.1 + 4) = .ok (.ldc 150, 2)) && decide (decode cc (q.1 + 6) = .ok (.invokespecial 152, 3))))
  | _, _ => true
def rx_rowsok (sigs : List RSig) (sg : RSig) (rows : List RRow) : Bool := rows.all (fun q => rx_chk (decide (sg.1.name = "<init>")) sg.1.cls sg.2.1 sigs q && rx_xok sg.1.cls sg.2.1 q)
def rx_mok0 (sg : RSig) (I : RInf) : Bool := Nat.beq I.1 sg.2.2.2.2.2.2.2.2 && plainFor sg.1 && (sg.2.2.2.2.2.2.2.1.isEmpty || Jvm.plainName sg.1.cls) && rx_retok I.2.1 sg.2.2.1 && (match I.2.2.1 with
  | r :: _ => Nat.beq r.1 0
  | [] => false) && rx_hok sg.1.cls sg.2.2.2.2.2.2.2.1 I.2.2.2
end
section
theorem rx_lg_len : ∀ (cs : List Value), (lg_sl cs).length = (cs.map fun v => v.category).sum
  | [] => rfl
  | v :: cs => by
    have ih := rx_lg_len cs
    have hs : lg_sl (v :: cs) = (if v.category = 2 then [.val v, .second] else [.val v]) ++ lg_sl cs := by simp [lg_sl]
    rw [hs, List.length_append, ih, List.map_cons, List.sum_cons]
    rcases lv_cat v with h | h <;> simp [h]
theorem rx_wk_all : (List.range rc_cls.length).all rc_wok = true := by decide +kernel
theorem rx_kw1 {args : Array Value} {s : State} (hts : ∀ w ∈ rc_good, w.before args s = true) : ∀ (ci : Nat) (q : vw_C), rc_cls[ci]? = some q → (Cond.instantiable q.1 q.2.2).before args s = true ∧ (Cond.initialized q.1).before args s = true := by
  intro ci q hq
  have h1 := List.all_eq_true.mp rx_wk_all ci (List.mem_range.mpr (List.getElem?_eq_some_iff.mp hq).1)
  unfold rc_wok at h1
  rw [rx_nth_eq, hq] at h1
  split at h1
  · rename_i q2 w e1 e2
    cases e1
    rw [Bool.and_eq_true] at h1
    exact ⟨hts _ (rx_wd_mem h1.1), hts _ (rx_wd_mem h1.2)⟩
  · cases h1
theorem rx_kw2a : rx_any (.arrayClass .int) = true ∧ rx_any (.arrayClass .long) = true ∧ rx_any (.arrayClass .byte) = true ∧ rx_any (.arrayClass .boolean) = true ∧ rx_any (.instanceMethod Lib.objectInit) = true ∧ rx_any (.code Lib.objectInit ⟨#[0xb1]⟩ 1 none) = true := by decide +kernel
theorem rx_kw4a : rx_any (.native arraycopyName) = true ∧ rx_any (.static arraycopyName) = true ∧ rx_any (.initialized "java/lang/System") = true := by decide +kernel
theorem rx_kw4 {args : Array Value} {s : State} (hts : ∀ w ∈ rc_good, w.before args s = true) : (Cond.native arraycopyName).before args s = true ∧ (Cond.static arraycopyName).before args s = true ∧ (Cond.initialized "java/lang/System").before args s = true := ⟨hts _ (rx_any_mem rx_kw4a.1), hts _ (rx_any_mem rx_kw4a.2.1), hts _ (rx_any_mem rx_kw4a.2.2)⟩
theorem rx_kw2 {args : Array Value} {s : State} (hts : ∀ w ∈ rc_good, w.before args s = true) : ∀ ty, ty ∈ rc_arr → ty ≠ .object RX4 → ty ≠ .object RX9 → (Cond.arrayClass ty).before args s = true := by
  intro ty hty h1 h2
  obtain ⟨a1, a2, a3, a4, -, -⟩ := rx_kw2a
  simp only [rc_arr, List.mem_cons, List.not_mem_nil, or_false] at hty
  rcases hty with rfl | rfl | rfl | rfl | rfl | rfl
  · exact hts _ (rx_any_mem a1)
  · exact hts _ (rx_any_mem a2)
  · exact hts _ (rx_any_mem a3)
  · exact hts _ (rx_any_mem a4)
  · exact absurd rfl h1
  · exact absurd rfl h2
theorem rx_kw3 {args : Array Value} {s : State} (hts : ∀ w ∈ rc_good, w.before args s = true) : (Cond.instanceMethod Lib.objectInit).before args s = true ∧ (Cond.code Lib.objectInit ⟨#[0xb1]⟩ 1 none).before args s = true := ⟨hts _ (rx_any_mem rx_kw2a.2.2.2.2.1), hts _ (rx_any_mem rx_kw2a.2.2.2.2.2)⟩
/-- a body that may throw, of a member that the machine has no entry for -/
theorem rx_ofWF {l : Launch} {y : MethodName} {ws ws' : List Jvm.Cond} {rm : Room} {Pc : Array Value → State → Prop} {Qc : Array Value → State → Outcome → State → Prop} {XC : String → State → State → Prop} {mc ms : Nat} {free : Addr → Prop} {cc : ByteArray} {maxL : Nat} {ret : Option FieldType}
    (hy : plainFor y = true) (hw : ws = Cond.code y cc maxL ret :: ws')
    (body : ∀ p e s m args below meth c s₁, BodyLoose p l y (headSpec ws rm) cc maxL ret e s m args below meth c s₁ → c.maxLocals = maxL → (∀ x ∈ c.exceptionTable.toList, False) → Pc args s →
      W p l e (headSpec ws rm).room s m args below meth c s.heap [] 0 0 (vx_MQ below Qc XC args s mc ms free) (entryFrame m args maxL)) : vx_Met l y ws rm Pc Qc XC mc ms free := by
  refine MetFree.of_bodySF (code := cc) (maxLocals := maxL) (ret := ret) hy ?_ ?_
  · intro args s m h hn
    obtain ⟨meth, c, h1, h2, h3, h4, h5, h6, -, -⟩ := Cond.code_spec hn (atoms_spec (ws := ws) h _ (by rw [hw]; exact List.mem_cons_self))
    exact ⟨meth, c, h1, h2, h3, h4, h5, h6⟩
  · intro p e s m args below meth c s₁ B hml hP _
    have hh0 : s₁.heap = s.heap := by rw [B.state]; rfl
    have ht : ∀ x ∈ c.exceptionTable.toList, False := by
      obtain ⟨meth9, c9, h1, h2, -, -, -, -, h7, -⟩ := Cond.code_spec B.named (atoms_spec (ws := ws) B.pre _ (by rw [hw]; exact List.mem_cons_self))
      cases Option.some.inj (h1.symm.trans B.method)
      cases Option.some.inj (h2.symm.trans (Stand.of_body B).code)
      intro x hx
      rw [Array.isEmpty_iff.mp h7] at hx
      cases hx
    obtain ⟨t, a1, o, b1, b2, b3⟩ := body p e s m args below meth c s₁ B hml ht hP s₁ hh0 (Stand.of_body B)
    exact ⟨t, o, a1, b1, b2, b3⟩
theorem rx_Qc_of {D : va_G} {cA : Nat → ClassId} {A : Nat → Prop} {old : Nat → Nat} {rho : UInt32 → Int32} {s t : State} {H : Heap} {locs : List Loc} {ws : va_W} {ad : List Nat} {hf : RHeap} {v : Option Value} {cv : Option Value} {a : Array Value} (r1 : rx_RW old rho cA (ws.map (·.1)) hf ws) (r2 : va_P D rc_cls ws H) (r3 : va_D A ws) (r4 : va_S A s.heap H locs) (r8 : ∃ l, ws.map (·.1) = ad ++ l) (hv : rx_RO old rho (ws.map (·.1)) v cv) (ht : t.heap = H) : rx_Qc D cA A old rho v hf ad a s (.returned cv) t := by
  obtain ⟨l, hl⟩ := r8
  exact ⟨⟨cv, ws, l, rfl, by rw [← hl]; exact hv, hl, by rw [← hl]; exact r1, by rw [ht]; exact r2, r3⟩, r4.F ht⟩
theorem rx_hatA1 : ((vx_atS RX11 68 "java/lang/IllegalArgumentException" ["java/lang/RuntimeException", "java/lang/Exception"]).filter goodWord).all rx_any = true := by decide +kernel
theorem rx_hatB1 : ((vx_atS RX11 68 "java/lang/IllegalArgumentException" ["java/lang/RuntimeException", "java/lang/Exception"]).filter (fun w => !goodWord w)).all (fun w => decide (w ∈ ([.declares ⟨"java/lang/RuntimeException", "<init>", "(Ljava/lang/String;)V"⟩, .declares ⟨"java/lang/Exception", "<init>", "(Ljava/lang/String;)V"⟩, .declares ⟨"java/lang/Throwable", "<init>", "(Ljava/lang/String;)V"⟩, .castable "java/lang/IllegalArgumentException" "java/lang/IllegalArgumentException"] : List Jvm.Cond))) = true := by decide +kernel
theorem rx_hatC1 : (vx_atS RX11 68 "java/lang/IllegalArgumentException" ["java/lang/RuntimeException", "java/lang/Exception"]).all vx_ot = true ∧ rx_any (.initialized "java/lang/IllegalArgumentException") = true := by decide +kernel
theorem rx_hat1 {O : ROld} {D : va_G} {cA : Nat → ClassId} {A : Nat → Prop} {old : Nat → Nat} {rho : UInt32 → Int32} {s : State} {args : Array Value} (hE : rx_E O D cA A old rho s) (hts : ∀ w ∈ rc_good, w.before args s = true) : ∀ w ∈ vx_atS RX11 68 "java/lang/IllegalArgumentException" ["java/lang/RuntimeException", "java/lang/Exception"], w.before args s = true := by
  obtain ⟨h1, h2, h3, h4, h5, h6, h7, h8, h9, h10, h11, h12, h13, h14, h15, h16, h17, h18, h19, h20, h21, h22, h23, h24⟩ := hE
  refine vx_hat (fun w hw => hts _ (rx_any_mem (List.all_eq_true.mp rx_hatA1 w hw))) (fun w hw => of_decide_eq_true (List.all_eq_true.mp rx_hatB1 w hw)) ?_
  exact vx_c (h22.use rfl) (vx_c (h23.use rfl) (vx_c (h24.use rfl) (vx_c (h14.use rfl) vx_n)))
theorem rx_hatA2 : ((vx_atS RX10 152 "java/lang/IllegalStateException" ["java/lang/RuntimeException", "java/lang/Exception"]).filter goodWord).all rx_any = true := by decide +kernel
theorem rx_hatB2 : ((vx_atS RX10 152 "java/lang/IllegalStateException" ["java/lang/RuntimeException", "java/lang/Exception"]).filter (fun w => !goodWord w)).all (fun w => decide (w ∈ ([.declares ⟨"java/lang/RuntimeException", "<init>", "(Ljava/lang/String;)V"⟩, .declares ⟨"java/lang/Exception", "<init>", "(Ljava/lang/String;)V"⟩, .declares ⟨"java/lang/Throwable", "<init>", "(Ljava/lang/String;)V"⟩, .castable "java/lang/IllegalStateException" "java/lang/IllegalStateException"] : List Jvm.Cond))) = true := by decide +kernel
theorem rx_hatC2 : (vx_atS RX10 152 "java/lang/IllegalStateException" ["java/lang/RuntimeException", "java/lang/Exception"]).all vx_ot = true ∧ rx_any (.initialized "java/lang/IllegalStateException") = true := by decide +kernel
theorem rx_hat2 {O : ROld} {D : va_G} {cA : Nat → ClassId} {A : Nat → Prop} {old : Nat → Nat} {rho : UInt32 → Int32} {s : State} {args : Array Value} (hE : rx_E O D cA A old rho s) (hts : ∀ w ∈ rc_good, w.before args s = true) : ∀ w ∈ vx_atS RX10 152 "java/lang/IllegalStateException" ["java/lang/RuntimeException", "java/lang/Exception"], w.before args s = true := by
  obtain ⟨h1, h2, h3, h4, h5, h6, h7, h8, h9, h10, h11, h12, h13, h14, h15, h16, h17, h18, h19, h20, h21, h22, h23, h24⟩ := hE
  refine vx_hat (fun w hw => hts _ (rx_any_mem (List.all_eq_true.mp rx_hatA2 w hw))) (fun w hw => of_decide_eq_true (List.all_eq_true.mp rx_hatB2 w hw)) ?_
  exact vx_c (h22.use rfl) (vx_c (h23.use rfl) (vx_c (h24.use rfl) (vx_c (h15.use rfl) vx_n)))
end
section
section CtrT
variable {l : Launch} {O : ROld} {F : RFacts} {D : va_G} {cA : Nat → ClassId} {A : Nat → Prop} {old : Nat → Nat} {rho : UInt32 → Int32} {sigs : List RSig} {P : List RInf} {steps : Nat}
theorem rx_mok0_of {sg : RSig} {I : RInf} (h : rx_mok0 sg I = true) : I.1 = sg.2.2.2.2.2.2.2.2 ∧ plainFor sg.1 = true ∧ rx_retok I.2.1 sg.2.2.1 = true ∧ (∃ r z, I.2.2.1 = r :: z ∧ r.1 = 0) ∧ rx_hok sg.1.cls sg.2.2.2.2.2.2.2.1 I.2.2.2 = true := by
  unfold rx_mok0 at h
  simp only [Bool.and_eq_true] at h
  obtain ⟨⟨⟨⟨⟨h1, h2⟩, -⟩, h3⟩, h4⟩, h5⟩ := h
  refine ⟨Nat.eq_of_beq_eq_true h1, h2, h3, ?_, h5⟩
  cases hr : I.2.2.1 with
  | nil => rw [hr] at h4; cases h4
  | cons r z => rw [hr] at h4; exact ⟨r, z, rfl, Nat.eq_of_beq_eq_true h4⟩
/-- a method's body, run: whatever it is that is owed at its ends -/
theorem rx_body {d : Nat} {C9 : Nat → List Value → RHeap → Option RRes} {sg : RSig} {I : RInf} (hF : rx_FT2 rho F) (hO1 : ∀ q ∈ O.1, q.1 < 1000000) (hO2 : ∀ q ∈ O.2, q.1 < 1000000 ∧ (q.2.1 = 0 ∨ q.2.1 = 2)) (hmok : rx_mok0 sg I = true) (hrok : rx_rowsok sigs sg I.2.2.1 = true)
    (ih : ∀ (mi : Nat) (as : List Value) (h : RHeap) (r : RRes), C9 mi as h = some r → ∀ sg, sigs[mi]? = some sg → rx_CS l O D cA A old rho sg d as h r)
    {p : Program} {e : Env} {s : State} {m : MethodId} {below : List Frame} {meth : Method} {c : Code} {R : Room} {Q : State → Prop} {o0 : Option Value ⊕ Nat} {hf0 : RHeap} {as cs : List Value} {h : RHeap} {ws : va_W} {MC MS : Nat}
    (hx : p.tables.exec = Jvm.exec) (hb : c.code = sg.2.1) (hml : c.maxLocals = I.1) (hown : s.vm.findClass sg.1.cls = some m.cls) (hnm : meth.name = sg.1.name) (hts : ∀ w ∈ rc_good, w.before cs.toArray s = true) (hE : rx_E O D cA A old rho s) (hMC : MC ≤ R.cells) (hMS : MS ≤ R.slots) (hfr : d + 11 ≤ R.frames) (hlo : 64 * d + 264 ≤ R.locals)
    (hcats : rx_cats as ≤ I.1) (q3 : rx_RL old rho (ws.map (·.1)) as cs) (q4 : rx_RW old rho cA (ws.map (·.1)) h ws) (q5 : va_P D rc_cls ws s.heap) (q6 : va_D A ws)
    (hrun : rx_run O F C9 I steps I.2.2.1 (lv_args 0 as) [] h = some (o0, hf0, MC, MS))
    (hcX : ∀ (pc x mi n ci w E : Nat) (la : RLoc) (st as r : List Value) (a : Nat) (h h2 : RHeap) (mc2 ms2 : Nat), decode sg.2.1 pc = .ok (.invokevirtual x, 3) → rx_aok (decide (sg.1.name = "<init>")) sg.1.cls sigs (.invokevirtual x) [mi, n, ci, w] = true → rx_take n [] st = some (as, .ref a :: r) → rx_cats r ≤ 8 → rx_recv O ci h (.ref a) = true → C9 mi (.ref a :: as) h = some (.inr E, h2, mc2, ms2) → rx_hand pc E I.2.2.2 = none → o0 = .inr E → hf0 = h2 → rx_G p l e R s m cs.toArray below meth c Q D cA A old rho I.1 MC MS (ws.map (·.1)) pc la st h mc2 ms2)
    (hcH : ∀ (pc x mi n ci w E t : Nat) (la : RLoc) (st as r : List Value) (a : Nat) (h h2 : RHeap) (mc ms mc2 ms2 : Nat), decode sg.2.1 pc = .ok (.invokevirtual x, 3) → rx_aok (decide (sg.1.name = "<init>")) sg.1.cls sigs (.invokevirtual x) [mi, n, ci, w] = true → rx_take n [] st = some (as, .ref a :: r) → rx_cats r ≤ 8 → rx_recv O ci h (.ref a) = true → C9 mi (.ref a :: as) h = some (.inr E, h2, mc2, ms2) → rx_hand pc E I.2.2.2 = some t → rx_G p l e R s m cs.toArray below meth c Q D cA A old rho I.1 MC MS (ws.map (·.1)) t la [.ref 2000000] h2 mc ms → rx_G p l e R s m cs.toArray below meth c Q D cA A old rho I.1 MC MS (ws.map (·.1)) pc la st h (mc + mc2) (ms + ms2))
    (hXn : ∀ (pc x E w : Nat) (la : RLoc) (st : List Value), decode sg.2.1 pc = .ok (.new x, 3) → rx_aok (decide (sg.1.name = "<init>")) sg.1.cls sigs (.new x) [7777, E, w] = true → (∃ z, (pc, .new x, 3, [7777, E, w]) ∈ I.2.2.1 ∧ z = 0) → I.2.2.2 = [] → st = [] → o0 = .inr E → rx_G p l e R s m cs.toArray below meth c Q D cA A old rho I.1 MC MS (ws.map (·.1)) pc la st hf0 1 6)
    (hRv : ∀ (pc : Nat) (la : RLoc), decode sg.2.1 pc = .ok (.return_, 1) → o0 = .inl none → I.2.1 = 0 → rx_G p l e R s m cs.toArray below meth c Q D cA A old rho I.1 MC MS (ws.map (·.1)) pc la [] hf0 0 0)
    (hRi : ∀ (pc : Nat) (la : RLoc) (v : Value), decode sg.2.1 pc = .ok (.ireturn, 1) → o0 = .inl (some v) → (I.2.1 = 1 ∧ rx_isI v = true) ∨ (∃ x, v = .int x ∧ ((I.2.1 = 2 ∧ narrow .boolean (.int x) = .int x) ∨ (I.2.1 = 3 ∧ narrow .byte (.int x) = .int x) ∨ (I.2.1 = 4 ∧ narrow .char (.int x) = .int x))) → rx_G p l e R s m cs.toArray below meth c Q D cA A old rho I.1 MC MS (ws.map (·.1)) pc la [v] hf0 0 0)
    (hRl : ∀ (pc : Nat) (la : RLoc) (v : Value), decode sg.2.1 pc = .ok (.lreturn, 1) → o0 = .inl (some v) → I.2.1 = 5 → rx_isL v = true → rx_G p l e R s m cs.toArray below meth c Q D cA A old rho I.1 MC MS (ws.map (·.1)) pc la [v] hf0 0 0)
    (hRa : ∀ (pc : Nat) (la : RLoc) (v : Value), decode sg.2.1 pc = .ok (.areturn, 1) → o0 = .inl (some v) → I.2.1 = 6 → rx_isA v = true → rx_G p l e R s m cs.toArray below meth c Q D cA A old rho I.1 MC MS (ws.map (·.1)) pc la [v] hf0 0 0)
    : W p l e R s m cs.toArray below meth c s.heap [] 0 0 Q (entryFrame m cs.toArray I.1) := by
  obtain ⟨m1, m2, m3, ⟨r0, z0, m4, m5⟩, m6⟩ := rx_mok0_of hmok
  have hrows : ∀ q ∈ I.2.2.1, rx_chk (decide (sg.1.name = "<init>")) sg.1.cls sg.2.1 sigs q = true := fun q hq => by
    have := List.all_eq_true.mp hrok q hq
    rw [Bool.and_eq_true] at this
    exact this.1
  have hS : CallFix p m c sg.2.1 I.1 s cs.toArray rc_good sg.1.cls := ⟨hx, hb, hml, hown, hts⟩
  have hle := lv_entry cs (n := I.1) (by rw [rx_lg_len, ← q3.cats]; exact hcats)
  rw [lg_entry_eq]
  have hin : ∀ q ∈ r0 :: z0, q ∈ I.2.2.1 := fun q hq => by rw [m4]; exact hq
  rw [m4] at hrun
  have hG := rx_run_ok (R := R) (Q := Q) (meth := meth) (below := below) (e := e) (nL := I.1) (MC := MC) (MS := MS) (ad0 := ws.map (·.1)) (ini := decide (sg.1.name = "<init>")) hx hb hml hown hts hE hF hMC hMS (by omega) (by omega) (fun z => by rw [hnm]; exact of_decide_eq_true z) rfl (rx_hcI hS hE hO1 hMC hMS hfr hlo ih) (rx_hcV hS hE hO1 hMC hMS hfr hlo ih) (rx_hcS hS hE hO1 hMC hMS hfr hlo ih) hcX hcH hXn hRv hRi hRl hRa hO1 hO2 (rx_kw1 hts) (rx_kw2 hts) (rx_kw4 hts) (rx_kw3 hts) hrows steps r0 z0 (lv_args 0 as) [] h MC MS hrun hin
  rw [m5] at hG
  exact hG s.heap [] _ [] 0 0 ⟨ws, _, q4, q5, q6, va_S.rf, hle, rx_RC.entry q3, trivial, [], by simp⟩ (by omega) (by omega)
/-- ends of a body that returns -/
theorem rx_retv {s : State} {p : Program} {e : Env} {R : Room} {m : MethodId} {args : Array Value} {below : List Frame} {meth : Method} {c : Code} {cc : ByteArray} {nL mc ms pc : Nat} {ad0 : List Nat} {la : RLoc} {hf0 : RHeap} {v : Option Value} (hx : p.tables.exec = Jvm.exec) (hb : c.code = cc) (hlocks : meth.locks = false) (hr : meth.sig.returnType = none) (hv : v = none) (hdec : decode cc pc = .ok (.return_, 1)) : rx_G p l e R s m args below meth c (MQ below (rx_Qc D cA A old rho v hf0 ad0) args s mc ms A) D cA A old rho nL mc ms ad0 pc la [] hf0 0 0 := by
  intro H locs ls cst cells slots hR h1 h2
  obtain ⟨ws, lc, r1, r2, r3, r4, r5, r6, r7, r8⟩ := hR
  have h1 : cells = mc := h1
  have h2 : slots = ms := h2
  subst h1 h2 hv
  cases cst with
  | cons a b => exact r7.elim
  | nil => exact W.vret hx hb hr (fun t ht _ => rx_Qc_of r1 r2 r3 r4 r8 (v := none) (cv := none) trivial ht) r4.2.2 hdec
theorem rx_reti {s : State} {p : Program} {e : Env} {R : Room} {m : MethodId} {args : Array Value} {below : List Frame} {meth : Method} {c : Code} {cc : ByteArray} {nL mc ms pc : Nat} {ad0 : List Nat} {la : RLoc} {hf0 : RHeap} {v : Value} (hx : p.tables.exec = Jvm.exec) (hb : c.code = cc) (hlocks : meth.locks = false) (hk : (meth.sig.returnType = some .int ∧ rx_isI v = true) ∨ (∃ x, v = .int x ∧ ∃ ty, meth.sig.returnType = some ty ∧ narrow ty (.int x) = .int x)) (hdec : decode cc pc = .ok (.ireturn, 1)) : rx_G p l e R s m args below meth c (MQ below (rx_Qc D cA A old rho (some v) hf0 ad0) args s mc ms A) D cA A old rho nL mc ms ad0 pc la [v] hf0 0 0 := by
  intro H locs ls cst0 cells slots hR h1 h2
  obtain ⟨ws, lc, r1, r2, r3, r4, r5, r6, r7, r8⟩ := hR
  have h1 : cells = mc := h1
  have h2 : slots = ms := h2
  subst h1 h2
  obtain ⟨cv, cst, rfl, hr1, q7⟩ := rx_RL.uncons r7
  cases cst with
  | cons a b => exact q7.elim
  | nil =>
    rcases hk with ⟨hk1, hk2⟩ | ⟨x, rfl, ty, hk1, hk2⟩
    · obtain ⟨x, rfl⟩ := hr1.isI hk2
      exact W.iret hx hb hk1 (fun t ht _ => rx_Qc_of r1 r2 r3 r4 r8 (v := some v) hr1 ht) r4.2.2 hdec
    · cases hr1
      exact W.zret hx hb hk1 hk2 (fun t ht _ => rx_Qc_of r1 r2 r3 r4 r8 (v := some (.int x)) (show rx_RO old rho _ (some (.int x)) (some (.int x)) from rfl) ht) r4.2.2 hdec
theorem rx_retl {s : State} {p : Program} {e : Env} {R : Room} {m : MethodId} {args : Array Value} {below : List Frame} {meth : Method} {c : Code} {cc : ByteArray} {nL mc ms pc : Nat} {ad0 : List Nat} {la : RLoc} {hf0 : RHeap} {v : Value} (hx : p.tables.exec = Jvm.exec) (hb : c.code = cc) (hlocks : meth.locks = false) (hk1 : meth.sig.returnType = some .long) (hk2 : rx_isL v = true) (hdec : decode cc pc = .ok (.lreturn, 1)) : rx_G p l e R s m args below meth c (MQ below (rx_Qc D cA A old rho (some v) hf0 ad0) args s mc ms A) D cA A old rho nL mc ms ad0 pc la [v] hf0 0 0 := by
  intro H locs ls cst0 cells slots hR h1 h2
  obtain ⟨ws, lc, r1, r2, r3, r4, r5, r6, r7, r8⟩ := hR
  have h1 : cells = mc := h1
  have h2 : slots = ms := h2
  subst h1 h2
  obtain ⟨cv, cst, rfl, hr1, q7⟩ := rx_RL.uncons r7
  cases cst with
  | cons a b => exact q7.elim
  | nil =>
    obtain ⟨x, rfl⟩ := hr1.isL hk2
    exact W.lret hx hb hk1 (fun t ht _ => rx_Qc_of r1 r2 r3 r4 r8 (v := some v) hr1 ht) r4.2.2 hdec
theorem rx_reta {s : State} {p : Program} {e : Env} {R : Room} {m : MethodId} {args : Array Value} {below : List Frame} {meth : Method} {c : Code} {cc : ByteArray} {nL mc ms pc : Nat} {ad0 : List Nat} {la : RLoc} {hf0 : RHeap} {v : Value} (hx : p.tables.exec = Jvm.exec) (hb : c.code = cc) (hlocks : meth.locks = false) {rt : FieldType} (hk1 : meth.sig.returnType = some rt) (hrt : (∃ n, rt = .object n) ∨ ∃ t, rt = .array t) (hk2 : rx_isA v = true) (hdec : decode cc pc = .ok (.areturn, 1)) : rx_G p l e R s m args below meth c (MQ below (rx_Qc D cA A old rho (some v) hf0 ad0) args s mc ms A) D cA A old rho nL mc ms ad0 pc la [v] hf0 0 0 := by
  intro H locs ls cst0 cells slots hR h1 h2
  obtain ⟨ws, lc, r1, r2, r3, r4, r5, r6, r7, r8⟩ := hR
  have h1 : cells = mc := h1
  have h2 : slots = ms := h2
  subst h1 h2
  obtain ⟨cv, cst, rfl, hr1, q7⟩ := rx_RL.uncons r7
  cases cst with
  | cons a b => exact q7.elim
  | nil =>
    exact W.aret hx hb hk1 hrt (hr1.isA hk2) (fun t ht _ => rx_Qc_of r1 r2 r3 r4 r8 (v := some v) hr1 ht) r4.2.2 hdec
end CtrT
end
section
section CtrU
variable {l : Launch} {O : ROld} {F : RFacts} {D : va_G} {cA : Nat → ClassId} {A : Nat → Prop} {old : Nat → Nat} {rho : UInt32 → Int32} {sigs : List RSig} {P : List RInf} {steps : Nat}
/-- an exception made and thrown -/
theorem rx_throw {p : Program} {e : Env} {R : Room} {s : State} {m : MethodId} {args : Array Value} {below : List Frame} {meth : Method} {c : Code} {cc : ByteArray} {nL mc ms pc x E w : Nat} {own : String} {ad0 : List Nat} {la : RLoc} {st : List Value} {hf0 : RHeap} {Qc : Array Value → State → Outcome → State → Prop} (hl : l.stackTraces = false) (hx : p.tables.exec = Jvm.exec) (hb : c.code = cc) (hml : c.maxLocals = nL) (hlocks : meth.locks = false) (hown : s.vm.findClass own = some m.cls) (hts : ∀ w ∈ rc_good, w.before args s = true) (hE : rx_E O D cA A old rho s) (hex : ∀ x ∈ c.exceptionTable.toList, False) (hfr : 11 ≤ R.frames) (hlo : 264 ≤ R.locals) (hMC : mc ≤ R.cells) (hMS : ms ≤ R.slots)
    (hdec : decode cc pc = .ok (.new x, 3)) (hxok : rx_xok own cc (pc, .new x, 3, [7777, E, w]) = true) (hst : st = []) : rx_G p l e R s m args below meth c (vx_MQ below Qc (rx_XC D cA A old rho E hf0 ad0) args s mc ms A) D cA A old rho nL mc ms ad0 pc la st hf0 1 6 := by
  subst hst
  intro H locs ls cst cells slots hR h1 h2
  obtain ⟨ws, lc, r1, r2, r3, r4, r5, r6, r7, r8⟩ := hR
  have hxok : (rx_wd w (.classLink own x (rx_XN E)) && decide (decode cc (pc + 3) = .ok (.dup, 1)) && decide (decode cc (pc + 9) = .ok (.athrow, 1)) &&
      ((decide (own = RX11) && Nat.beq E 1 && (decide (decode cc (pc + 4) = .ok (.ldc 66, 2)) || decide (decode cc (pc + 4) = .ok (.ldc 113, 2)) || decide (decode cc (pc + 4) = .ok (.ldc 144, 2))) && decide (decode cc (pc + 6) = .ok (.invokespecial 68, 3))) ||
       (decide (own = RX10) && Nat.beq E 2 && decide (decode cc (pc + 4) = .ok (.ldc 150, 2)) && decide (decode cc (pc + 6) = .ok (.invokespecial 152, 3))))) = true := hxok
  simp only [Bool.and_eq_true, Bool.or_eq_true] at hxok
  obtain ⟨⟨⟨k1, k2⟩, k3⟩, k4⟩ := hxok
  have k1 := hts _ (rx_wd_mem k1)
  have k2 := of_decide_eq_true k2
  have k3 := of_decide_eq_true k3
  have hE0 := hE
  obtain ⟨-, -, -, -, -, -, -, -, -, -, -, -, -, -, -, h16, h17, h18, h19, h20, h21, -⟩ := hE0
  have hcst : cst = [] := by
    cases cst with
    | nil => rfl
    | cons a b => exact r7.elim
  subst hcst
  have hXC : ∀ t : State, s.vm.Alike t.vm → H.size ≤ t.heap.size → (∀ q : Nat, q < H.size → t.heap[q]? = H[q]?) → rx_XC D cA A old rho E hf0 ad0 (rx_XN E) s t := by
    intro t _ hz hk
    obtain ⟨l9, hl9⟩ := r8
    refine ⟨rfl, ⟨ws, l9, hl9, by rw [← hl9]; exact r1, r2.kept (fun k q hq => hk _ ((r2 k q hq).lt)), r3⟩, Nat.le_trans r4.1 hz, fun q hq hA => ?_⟩
    rw [hk q (Nat.lt_of_lt_of_le hq r4.1)]
    exact r4.2.1 q hq hA
  rcases k4 with ⟨⟨⟨k4, k5⟩, k6⟩, k7⟩ | ⟨⟨⟨k4, k5⟩, k6⟩, k7⟩
  · have k4 : own = RX11 := of_decide_eq_true k4
    have k5 := Nat.eq_of_beq_eq_true k5
    have k7 := of_decide_eq_true k7
    subst k4 k5
    have hgood : ∀ w ∈ Cond.classLink RX11 x (rx_XN 1) :: Cond.initialized (rx_XN 1) :: vx_atS RX11 68 (rx_XN 1) ["java/lang/RuntimeException", "java/lang/Exception"], vx_ot w = true := by
      intro w hw
      rcases List.mem_cons.mp hw with rfl | hw
      · rfl
      rcases List.mem_cons.mp hw with rfl | hw
      · rfl
      exact List.all_eq_true.mp rx_hatC1.1 w hw
    rcases k6 with (k6 | k6) | k6
    · exact vx_throwS (names := ["java/lang/RuntimeException", "java/lang/Exception"]) hx hb hl hown (by decide +kernel) (by decide +kernel) k1 (hts _ (rx_any_mem rx_hatC1.2)) h18 (rx_hat1 hE hts) hgood h16 h17 r4 (r5.1.trans hml.symm) hdec k2 (of_decide_eq_true k6) k7 k3 (fun x hx => (hex x hx).elim) (by show 2 + 3 < _; omega) (by show 0 + (13 * (2 + 1) + 43) ≤ _; omega) (by omega) (by omega) hlocks hXC r4.2.2 (by omega) (by omega)
    · exact vx_throwS (names := ["java/lang/RuntimeException", "java/lang/Exception"]) hx hb hl hown (by decide +kernel) (by decide +kernel) k1 (hts _ (rx_any_mem rx_hatC1.2)) h19 (rx_hat1 hE hts) hgood h16 h17 r4 (r5.1.trans hml.symm) hdec k2 (of_decide_eq_true k6) k7 k3 (fun x hx => (hex x hx).elim) (by show 2 + 3 < _; omega) (by show 0 + (13 * (2 + 1) + 43) ≤ _; omega) (by omega) (by omega) hlocks hXC r4.2.2 (by omega) (by omega)
    · exact vx_throwS (names := ["java/lang/RuntimeException", "java/lang/Exception"]) hx hb hl hown (by decide +kernel) (by decide +kernel) k1 (hts _ (rx_any_mem rx_hatC1.2)) h20 (rx_hat1 hE hts) hgood h16 h17 r4 (r5.1.trans hml.symm) hdec k2 (of_decide_eq_true k6) k7 k3 (fun x hx => (hex x hx).elim) (by show 2 + 3 < _; omega) (by show 0 + (13 * (2 + 1) + 43) ≤ _; omega) (by omega) (by omega) hlocks hXC r4.2.2 (by omega) (by omega)
  · have k4 : own = RX10 := of_decide_eq_true k4
    have k5 := Nat.eq_of_beq_eq_true k5
    have k7 := of_decide_eq_true k7
    subst k4 k5
    have hgood : ∀ w ∈ Cond.classLink RX10 x (rx_XN 2) :: Cond.initialized (rx_XN 2) :: vx_atS RX10 152 (rx_XN 2) ["java/lang/RuntimeException", "java/lang/Exception"], vx_ot w = true := by
      intro w hw
      rcases List.mem_cons.mp hw with rfl | hw
      · rfl
      rcases List.mem_cons.mp hw with rfl | hw
      · rfl
      exact List.all_eq_true.mp rx_hatC2.1 w hw
    exact vx_throwS (names := ["java/lang/RuntimeException", "java/lang/Exception"]) hx hb hl hown (by decide +kernel) (by decide +kernel) k1 (hts _ (rx_any_mem rx_hatC2.2)) h21 (rx_hat2 hE hts) hgood h16 h17 r4 (r5.1.trans hml.symm) hdec k2 (of_decide_eq_true k6) k7 k3 (fun x hx => (hex x hx).elim) (by show 2 + 3 < _; omega) (by show 0 + (13 * (2 + 1) + 43) ≤ _; omega) (by omega) (by omega) hlocks hXC r4.2.2 (by omega) (by omega)
theorem rx_call_ok (hl : l.stackTraces = false) (hF : rx_FT2 rho F) (hO1 : ∀ q ∈ O.1, q.1 < 1000000) (hO2 : ∀ q ∈ O.2, q.1 < 1000000 ∧ (q.2.1 = 0 ∨ q.2.1 = 2)) (hP : ∀ (mi : Nat) (I : RInf) (sg : RSig), P[mi]? = some I → sigs[mi]? = some sg → I.2.2.1 ≠ [] → sg.2.2.2.2.2.2.2.1 = [] ∧ rx_mok0 sg I = true ∧ rx_rowsok sigs sg I.2.2.1 = true) :
    ∀ (d mi : Nat) (as : List Value) (h : RHeap) (r : RRes), rx_call O F P steps d mi as h = some r → ∀ sg, sigs[mi]? = some sg → rx_CS l O D cA A old rho sg d as h r ∧ sg.2.2.2.2.2.2.2.1 = [] := by
  intro d
  induction d with
  | zero => intro mi as h r hr; cases hr
  | succ d ih =>
    intro mi as h r hr sg hsg
    simp only [rx_call] at hr
    rw [rx_nth_eq] at hr
    cases hPi : P[mi]? with
    | none => rw [hPi] at hr; cases hr
    | some I =>
      rw [hPi] at hr
      simp only at hr
      cases hc : Nat.ble (rx_cats as) I.1 with
      | false => rw [hc] at hr; cases hr
      | true =>
        rw [hc] at hr
        simp only at hr
        have hne : I.2.2.1 ≠ [] := by
          intro z
          rw [z] at hr
          cases steps <;> cases hr
        obtain ⟨g1, g2, g3⟩ := hP mi I sg hPi hsg hne
        refine ⟨?_, g1⟩
        have hcats := Nat.le_of_ble_eq_true hc
        obtain ⟨m1, m2, m3, m4, m6⟩ := rx_mok0_of g2
        have ih1 : ∀ (mi : Nat) (as : List Value) (h : RHeap) (r : RRes), rx_call O F P steps d mi as h = some r → ∀ sg, sigs[mi]? = some sg → rx_CS l O D cA A old rho sg d as h r := fun mi as h r hr sg hsg => (ih mi as h r hr sg hsg).1
        have hcw : rx_cw sg = .code sg.1 sg.2.1 I.1 sg.2.2.1 := by
          unfold rx_cw
          rw [g1, m1]
        have hI4 : I.2.2.2 = [] := by
          rw [g1] at m6
          cases hz : I.2.2.2 with
          | nil => rfl
          | cons a b => rw [hz] at m6; cases m6
        obtain ⟨o0, hf0, mc, ms⟩ := r
        cases o0 with
        | inl v =>
          intro ad
          rw [hcw]
          refine va_MetF (cc := sg.2.1) (maxL := I.1) (ret := sg.2.2.1) m2 rfl ?_
          intro p e s m args below meth c s₁ B hml hv
          obtain ⟨cs, ws, rfl, rfl, q3, q4, q5, q6, q7⟩ := hv
          have hts0 := atoms_spec (ws := Cond.code sg.1 sg.2.1 I.1 sg.2.2.1 :: rc_good) B.pre
          have hts : ∀ w ∈ rc_good, w.before cs.toArray s = true := fun w hw => hts0 w (List.mem_cons_of_mem _ hw)
          have hr9 := B.returns
          have hlocks := B.notSynchronized
          refine rx_body hF hO1 hO2 g2 g3 ih1 B.exec B.bytes hml (findClass_of_methodNamed B.named) (name_of_methodNamed B.named B.method).1 hts q7 (Nat.le_refl _) (Nat.le_refl _) (by show d + 11 ≤ d + 1 + 10; omega) (by show 64 * d + 264 ≤ 64 * (d + 1) + 200; omega) hcats q3 q4 q5 q6 hr ?_ ?_ ?_ ?_ ?_ ?_ ?_
          · intro pc x mi n ci w E la st as r a h h2 mc2 ms2 z1 z2 z3 z4 z5 z6 z7 z8
            cases z8
          · intro pc x mi n ci w E t la st as r a h h2 mc ms mc2 ms2 z1 z2 z3 z4 z5 z6 z7
            rw [hI4] at z7
            cases z7
          · intro pc x E w la st z1 z2 z3 z4 z4b z5
            cases z5
          · intro pc la z1 z2 z3
            have hret : sg.2.2.1 = none := by
              rw [z3] at m3
              cases hq : sg.2.2.1 with
              | none => rfl
              | some ty => rw [hq] at m3; cases m3
            exact rx_retv B.exec B.bytes hlocks (hr9.trans hret) (by cases z2; rfl) z1
          · intro pc la v9 z1 z2 z3
            cases z2
            refine rx_reti B.exec B.bytes hlocks ?_ z1
            rcases z3 with ⟨z3, z4⟩ | ⟨x, z4, ⟨z3, z5⟩ | ⟨z3, z5⟩ | ⟨z3, z5⟩⟩
            · refine Or.inl ⟨hr9.trans ?_, z4⟩
              rw [z3] at m3
              revert m3
              cases sg.2.2.1 with
              | none => intro m3; cases m3
              | some ty => cases ty <;> intro m3 <;> first | rfl | cases m3
            all_goals
              refine Or.inr ⟨x, z4, _, hr9.trans ?_, z5⟩
              rw [z3] at m3
              revert m3
              cases sg.2.2.1 with
              | none => intro m3; cases m3
              | some ty => cases ty <;> intro m3 <;> first | rfl | cases m3
          · intro pc la v9 z1 z2 z3 z4
            cases z2
            refine rx_retl B.exec B.bytes hlocks (hr9.trans ?_) z4 z1
            rw [z3] at m3
            revert m3
            cases sg.2.2.1 with
            | none => intro m3; cases m3
            | some ty => cases ty <;> intro m3 <;> first | rfl | cases m3
          · intro pc la v9 z1 z2 z3 z4
            cases z2
            obtain ⟨rt, e1, e2⟩ : ∃ rt, sg.2.2.1 = some rt ∧ ((∃ n, rt = .object n) ∨ ∃ t, rt = .array t) := by
              rw [z3] at m3
              revert m3
              cases sg.2.2.1 with
              | none => intro m3; cases m3
              | some ty => cases ty <;> intro m3 <;> first | exact ⟨_, rfl, Or.inl ⟨_, rfl⟩⟩ | exact ⟨_, rfl, Or.inr ⟨_, rfl⟩⟩ | cases m3
            exact rx_reta B.exec B.bytes hlocks (hr9.trans e1) e2 z4 z1
        | inr E =>
          intro ad
          rw [hcw]
          refine rx_ofWF (cc := sg.2.1) (maxL := I.1) (ret := sg.2.2.1) m2 rfl ?_
          intro p e s m args below meth c s₁ B hml hex hv
          obtain ⟨cs, ws, rfl, rfl, q3, q4, q5, q6, q7⟩ := hv
          have hts0 := atoms_spec (ws := Cond.code sg.1 sg.2.1 I.1 sg.2.2.1 :: rc_good) B.pre
          have hts : ∀ w ∈ rc_good, w.before cs.toArray s = true := fun w hw => hts0 w (List.mem_cons_of_mem _ hw)
          have hlocks := B.notSynchronized
          have hS : CallFix p m c sg.2.1 I.1 s cs.toArray rc_good sg.1.cls := ⟨B.exec, B.bytes, hml, findClass_of_methodNamed B.named, hts⟩
          have hfr : d + 11 ≤ (headSpec (Cond.code sg.1 sg.2.1 I.1 sg.2.2.1 :: rc_good) (rx_rm (d + 1) mc ms)).room.frames := by show d + 11 ≤ d + 1 + 10; omega
          have hlo : 64 * d + 264 ≤ (headSpec (Cond.code sg.1 sg.2.1 I.1 sg.2.2.1 :: rc_good) (rx_rm (d + 1) mc ms)).room.locals := by show 64 * d + 264 ≤ 64 * (d + 1) + 200; omega
          refine rx_body hF hO1 hO2 g2 g3 ih1 B.exec B.bytes hml (findClass_of_methodNamed B.named) (name_of_methodNamed B.named B.method).1 hts q7 (Nat.le_refl _) (Nat.le_refl _) hfr hlo hcats q3 q4 q5 q6 hr ?_ ?_ ?_ ?_ ?_ ?_ ?_
          · intro pc x mi n ci w E9 la st as r a h h2 mc2 ms2 z1 z2 z3 z4 z5 z6 z7 z8 z9
            cases z8
            subst z9
            have hG := rx_hcT (mc := 0) (ms := 0) (MC := mc) (MS := ms) (ad0 := ws.map (·.1)) (Q := vx_MQ below (fun _ _ _ _ => False) (rx_XC D cA A old rho E hf0 (ws.map (·.1))) cs.toArray s mc ms A) (la := la) (below := below) (meth := meth) (e := e) hS q7 hO1 (Nat.le_refl _) (Nat.le_refl _) hfr hlo ih1 z1 z2 z3 z4 z5 z6 (fun sg hs => (ih _ _ _ _ z6 sg hs).2)
              (fun H locs ls rest cells slots ws2 lc q ce k1 k2 k3 k4 k5 k6 k7 k8 k9 k10 k11 k12 => vx_out (fun x hx => (hex x hx).elim) hlocks k8 k9 k10 (fun t ht _ => by
                obtain ⟨l9, hl9⟩ := k7
                exact ⟨rfl, ⟨ws2, l9, hl9, by rw [← hl9]; exact k1, by rw [ht]; exact k2, k3⟩, k4.F ht⟩) k4.2.2 (by omega) (by omega))
            rw [Nat.zero_add, Nat.zero_add] at hG
            exact hG
          · intro pc x mi n ci w E t la st as r a h h2 mc ms mc2 ms2 z1 z2 z3 z4 z5 z6 z7
            rw [hI4] at z7
            cases z7
          · intro pc x E9 w la st z1 z2 z3 z4 z4b z5
            cases z5
            obtain ⟨-, hz, -⟩ := z3
            have hq := List.all_eq_true.mp g3 _ hz
            rw [Bool.and_eq_true] at hq
            exact rx_throw hl B.exec B.bytes hml hlocks (findClass_of_methodNamed B.named) hts q7 hex (by omega) (by omega) (Nat.le_refl _) (Nat.le_refl _) z1 hq.2 z4b
          · intro pc la z1 z2
            cases z2
          · intro pc la v9 z1 z2
            cases z2
          · intro pc la v9 z1 z2
            cases z2
          · intro pc la v9 z1 z2
            cases z2
end CtrU
end
section
section CtrV
variable {l : Launch} {O : ROld} {F : RFacts} {D : va_G} {cA : Nat → ClassId} {A : Nat → Prop} {old : Nat → Nat} {rho : UInt32 → Int32} {sigs : List RSig} {steps : Nat}
theorem rx_hand_of {pc E t : Nat} {y : Nat × Nat × Nat × Nat} (h : rx_hand pc E [y] = some t) : y.1 ≤ pc ∧ pc < y.2.1 ∧ y.2.2.2 = E ∧ y.2.2.1 = t := by
  obtain ⟨a, b, t2, e⟩ := y
  simp only [rx_hand] at h
  cases g1 : Nat.ble a pc <;> cases g2 : Nat.blt pc b <;> cases g3 : Nat.beq e E <;> simp only [g1, g2, g3] at h <;> first | (cases h; done) | skip
  exact ⟨Nat.le_of_ble_eq_true g1, Nat.le_of_ble_eq_true g2, Nat.eq_of_beq_eq_true g3, Option.some.inj h⟩
theorem rx_tab_ok {d : Nat} {C9 : Nat → List Value → RHeap → Option RRes} {sg : RSig} {I : RInf} (hF : rx_FT2 rho F) (hO1 : ∀ q ∈ O.1, q.1 < 1000000) (hO2 : ∀ q ∈ O.2, q.1 < 1000000 ∧ (q.2.1 = 0 ∨ q.2.1 = 2)) (g2 : rx_mok0 sg I = true) (g3 : rx_rowsok sigs sg I.2.2.1 = true)
    (ih : ∀ (mi : Nat) (as : List Value) (h : RHeap) (r : RRes), C9 mi as h = some r → ∀ sg, sigs[mi]? = some sg → rx_CS l O D cA A old rho sg d as h r ∧ sg.2.2.2.2.2.2.2.1 = [])
    (hpn : Jvm.plainName sg.1.cls = true) {xr : Nat × Nat × Nat × Nat} (hraw : sg.2.2.2.2.2.2.2.1 = [xr])
    {as : List Value} {h hf0 : RHeap} {v : Option Value} {mc ms : Nat} (hcats : rx_cats as ≤ I.1) (hr : rx_run O F C9 I steps I.2.2.1 (lv_args 0 as) [] h = some (.inl v, hf0, mc, ms)) : rx_CS l O D cA A old rho sg (d + 1) as h (.inl v, hf0, mc, ms) := by
  obtain ⟨m1, m2, m3, m4, m6⟩ := rx_mok0_of g2
  have ih1 : ∀ (mi : Nat) (as : List Value) (h : RHeap) (r : RRes), C9 mi as h = some r → ∀ sg, sigs[mi]? = some sg → rx_CS l O D cA A old rho sg d as h r := fun mi as h r hr sg hsg => (ih mi as h r hr sg hsg).1
  have hcw : rx_cw sg = .codeWith sg.1 sg.2.1 I.1 sg.2.2.1 [xr] := by
    unfold rx_cw
    rw [hraw, m1]
  rw [hraw] at m6
  obtain ⟨yr, hI4⟩ : ∃ yr, I.2.2.2 = [yr] := by
    cases hz : I.2.2.2 with
    | nil => rw [hz] at m6; cases m6
    | cons a b =>
      cases b with
      | nil => exact ⟨a, rfl⟩
      | cons b c => rw [hz] at m6; cases m6
  rw [hI4] at m6
  have m6 : (Nat.beq xr.1 yr.1 && Nat.beq xr.2.1 yr.2.1 && Nat.beq xr.2.2.1 yr.2.2.1 && !Nat.beq xr.2.2.2 0 && rx_any (.classLink sg.1.cls xr.2.2.2 (rx_XN yr.2.2.2))) = true := m6
  simp only [Bool.and_eq_true] at m6
  obtain ⟨⟨⟨⟨n1, n2⟩, n3⟩, n4⟩, n5⟩ := m6
  have n1 := Nat.eq_of_beq_eq_true n1
  have n2 := Nat.eq_of_beq_eq_true n2
  have n3 := Nat.eq_of_beq_eq_true n3
  have n4 : xr.2.2.2 ≠ 0 := by
    intro z
    rw [z] at n4
    cases n4
  intro ad
  rw [hcw]
  refine va_MetW (cc := sg.2.1) (maxL := I.1) (ret := sg.2.2.1) (hh := [xr]) hpn rfl ?_
  intro p e s m args below meth c s₁ B hml hv
  obtain ⟨cs, ws, rfl, rfl, q3, q4, q5, q6, q7⟩ := hv
  have hts0 := atoms_spec (ws := Cond.codeWith sg.1 sg.2.1 I.1 sg.2.2.1 [xr] :: rc_good) B.pre
  have hts : ∀ w ∈ rc_good, w.before cs.toArray s = true := fun w hw => hts0 w (List.mem_cons_of_mem _ hw)
  have htab := vx_table (x := sg.1) B (hts0 _ List.mem_cons_self)
  have hr9 := B.returns
  have hlocks := B.notSynchronized
  have hown := findClass_of_methodNamed B.named
  have hS : CallFix p m c sg.2.1 I.1 s cs.toArray rc_good sg.1.cls := ⟨B.exec, B.bytes, hml, hown, hts⟩
  have hfr : d + 11 ≤ (headSpec (Cond.codeWith sg.1 sg.2.1 I.1 sg.2.2.1 [xr] :: rc_good) (rx_rm (d + 1) mc ms)).room.frames := by show d + 11 ≤ d + 1 + 10; omega
  have hlo : 64 * d + 264 ≤ (headSpec (Cond.codeWith sg.1 sg.2.1 I.1 sg.2.2.1 [xr] :: rc_good) (rx_rm (d + 1) mc ms)).room.locals := by show 64 * d + 264 ≤ 64 * (d + 1) + 200; omega
  refine rx_body hF hO1 hO2 g2 g3 ih1 B.exec B.bytes hml hown (name_of_methodNamed B.named B.method).1 hts q7 (Nat.le_refl _) (Nat.le_refl _) hfr hlo hcats q3 q4 q5 q6 hr ?_ ?_ ?_ ?_ ?_ ?_ ?_
  · intro pc x mi n ci w E la st as r a h h2 mc2 ms2 z1 z2 z3 z4 z5 z6 z7 z8
    cases z8
  · intro pc x mi n ci w E t la st as r a h h2 mc3 ms3 mc2 ms2 z1 z2 z3 z4 z5 z6 z7 z8
    rw [hI4] at z7
    obtain ⟨y1, y2, y3, y4⟩ := rx_hand_of z7
    refine rx_hcT (la := la) (below := below) (meth := meth) (e := e) hS q7 hO1 (Nat.le_refl _) (Nat.le_refl _) hfr hlo ih1 z1 z2 z3 z4 z5 z6 (fun sg hs => (ih _ _ _ _ z6 sg hs).2) (fun H locs ls rest cells slots ws2 lc q ce k1 k2 k3 k4 k5 k6 k7 k8 k9 k10 k11 k12 => ?_)
    have hcast : (Cond.castable (rx_XN E) (rx_XN E)).before cs.toArray s = true := by
      obtain ⟨-, -, -, -, -, -, -, -, -, -, -, -, -, h14, h15, -⟩ := q7
      unfold rx_XN
      split
      · exact h14.use rfl
      · exact h15.use rfl
    have hlink := hts _ (rx_any_mem n5)
    rw [y3] at hlink
    refine vx_catch (E := rx_XN E) (name := rx_XN E) hown [] ⟨xr.1, xr.2.1, xr.2.2.1, xr.2.2.2⟩ [] (by rw [htab]; rfl) (fun z hz => nomatch hz) ?_ n4 hlink hcast k8 k9 k10 ?_
    · show covers ⟨xr.1, xr.2.1, xr.2.2.1, xr.2.2.2⟩ pc = true
      unfold covers
      simp only [Bool.and_eq_true, decide_eq_true_eq]
      omega
    · have hpc : (⟨xr.1, xr.2.1, xr.2.2.1, xr.2.2.2⟩ : ExceptionTableEntry).handlerPc = t := n3.trans y4
      rw [hpc]
      exact z8 H locs ls _ cells slots ⟨ws2, lc, k1, k2, k3, k4, k5, k6, ⟨Or.inl ⟨Nat.le_refl _, Or.inr ⟨q, rfl⟩⟩, trivial⟩, k7⟩ k11 k12
  · intro pc x E w la st z1 z2 z3 z4
    rw [hI4] at z4
    cases z4
  · intro pc la z1 z2 z3
    have hret : sg.2.2.1 = none := by
      rw [z3] at m3
      cases hq : sg.2.2.1 with
      | none => rfl
      | some ty => rw [hq] at m3; cases m3
    exact rx_retv B.exec B.bytes hlocks (hr9.trans hret) (by cases z2; rfl) z1
  · intro pc la v9 z1 z2 z3
    cases z2
    refine rx_reti B.exec B.bytes hlocks ?_ z1
    rcases z3 with ⟨z3, z4⟩ | ⟨x, z4, ⟨z3, z5⟩ | ⟨z3, z5⟩ | ⟨z3, z5⟩⟩
    · refine Or.inl ⟨hr9.trans ?_, z4⟩
      rw [z3] at m3
      revert m3
      cases sg.2.2.1 with
      | none => intro m3; cases m3
      | some ty => cases ty <;> intro m3 <;> first | rfl | cases m3
    all_goals
      refine Or.inr ⟨x, z4, _, hr9.trans ?_, z5⟩
      rw [z3] at m3
      revert m3
      cases sg.2.2.1 with
      | none => intro m3; cases m3
      | some ty => cases ty <;> intro m3 <;> first | rfl | cases m3
  · intro pc la v9 z1 z2 z3 z4
    cases z2
    refine rx_retl B.exec B.bytes hlocks (hr9.trans ?_) z4 z1
    rw [z3] at m3
    revert m3
    cases sg.2.2.1 with
    | none => intro m3; cases m3
    | some ty => cases ty <;> intro m3 <;> first | rfl | cases m3
  · intro pc la v9 z1 z2 z3 z4
    cases z2
    obtain ⟨rt, e1, e2⟩ : ∃ rt, sg.2.2.1 = some rt ∧ ((∃ n, rt = .object n) ∨ ∃ t, rt = .array t) := by
      rw [z3] at m3
      revert m3
      cases sg.2.2.1 with
      | none => intro m3; cases m3
      | some ty => cases ty <;> intro m3 <;> first | exact ⟨_, rfl, Or.inl ⟨_, rfl⟩⟩ | exact ⟨_, rfl, Or.inr ⟨_, rfl⟩⟩ | cases m3
    exact rx_reta B.exec B.bytes hlocks (hr9.trans e1) e2 z4 z1
end CtrV
end
section
def rp_sig : List RSig := [(yL_law, cL_law, some .boolean, 0, 0, 0, 0, [], 7),
  (yX11_init, cX11_init, (none : Option FieldType), 213, 212, 0, 180, [], 1),
  (yX8_init, cX8_init, (none : Option FieldType), 221, 220, 0, 181, [], 1),
  (yX10_init, cX10_init, (none : Option FieldType), 235, 234, 0, 182, [], 2),
  (yX10_encodeAll, cX10_encodeAll, (none : Option FieldType), 240, 239, 0, 182, [], 5),
  (yJ0_length_8abf5, cJ0_length_8abf5, (some FieldType.int), 244, 242, 243, 183, [], 1),
  (yJ0_coder_7d493, cJ0_coder_7d493, (some FieldType.byte), 248, 246, 247, 183, [], 1),
  (yJ0_charAt_5068e, cJ0_charAt_5068e, (some FieldType.char), 254, 252, 253, 183, [], 2),
  (yJ0_isLatin1_aae02, cJ0_isLatin1_aae02, (some FieldType.boolean), 258, 256, 257, 183, [], 1),
  (yJ1_charAt_3b067, cJ1_charAt_3b067, (some FieldType.char), 261, 260, 0, 184, [], 2),
  (yX10_symbol, cX10_symbol, (some FieldType.int), 292, 291, 0, 182, [], 1),
  (yX1_init, cX1_init, (none : Option FieldType), 333, 332, 0, 187, [], 1),
  (yX0_init, cX0_init, (none : Option FieldType), 364, 363, 0, 188, [], 3),
  (yX5_init, cX5_init, (none : Option FieldType), 370, 369, 0, 189, [], 3),
  (yX9_init, cX9_init, (none : Option FieldType), 376, 375, 0, 190, [], 2),
  (yX6_init, cX6_init, (none : Option FieldType), 408, 407, 0, 191, [], 3),
  (yX4_init, cX4_init, (none : Option FieldType), 455, 454, 0, 192, [], 3),
  (yX5_ofKind, cX5_ofKind, (some (FieldType.object "TaggedPascal$Type")), 499, 498, 0, 189, [], 2),
  (yX2_init, cX2_init, (none : Option FieldType), 533, 532, 0, 193, [], 4),
  (yX7_init, cX7_init, (none : Option FieldType), 552, 551, 0, 194, [], 5),
  (yX3_init, cX3_init, (none : Option FieldType), 593, 592, 0, 195, [], 3),
  (yX1_emit, cX1_emit, (none : Option FieldType), 658, 656, 657, 187, [], 2),
  (yX12_init, cX12_init, (none : Option FieldType), 1783, 1782, 0, 199, [], 3),
  (yX12_packed, cX12_packed, (some FieldType.long), 1788, 1787, 0, 199, [], 5),
  (yX12_emptyProgram, cX12_emptyProgram, (none : Option FieldType), 1793, 1792, 87, 199, [], 1),
  (yX12_beginProgram, cX12_beginProgram, (none : Option FieldType), 1797, 1796, 88, 199, [], 1),
  (yX12_write1, cX12_write1, (none : Option FieldType), 1801, 1800, 89, 199, [], 4),
  (yX12_emit, cX12_emit, (some FieldType.int), 1805, 1804, 90, 199, [], 5),
  (yX12_keepProgram, cX12_keepProgram, (none : Option FieldType), 1809, 1808, 91, 199, [], 2),
  (yL_feed, cL_feed, (some FieldType.int), 1301, 1300, 0, 179, [(0, 11, 14, 13)], 6),
  (yX11_feed, cX11_feed, (some FieldType.int), 1306, 1304, 1305, 180, [], 5),
  (yX12_feed, cX12_feed, (some FieldType.int), 2127, 2125, 2126, 199, [], 5),
  (yX12_thrown, cX12_thrown, (some FieldType.int), 2123, 2121, 2122, 199, [], 1),
  (yX8_length, cX8_length, (some FieldType.int), 704, 702, 703, 181, [], 1),
  (yX8_append, cX8_append, (some FieldType.boolean), 1326, 1324, 1325, 181, [], 2),
  (yX11_wipe, cX11_wipe, (some FieldType.int), 700, 698, 699, 180, [], 2),
  (yX8_clear, cX8_clear, (none : Option FieldType), 708, 706, 707, 181, [], 1),
  (yX12_wipe, cX12_wipe, (some FieldType.int), 2132, 2130, 2131, 199, [], 2),
  (yX11_compile, cX11_compile, (some FieldType.int), 712, 710, 711, 180, [(0, 31, 34, 96)], 2),
  (yX10_scan, cX10_scan, (none : Option FieldType), 717, 715, 716, 182, [], 3),
  (yX10_skipBlanks, cX10_skipBlanks, (none : Option FieldType), 721, 720, 1, 182, [], 5),
  (yX8_at, cX8_at, (some FieldType.int), 725, 723, 724, 181, [], 3),
  (yX10_scanWord, cX10_scanWord, (none : Option FieldType), 734, 733, 3, 182, [], 2),
  (yX10_add, cX10_add, (none : Option FieldType), 738, 737, 4, 182, [], 5),
  (yX10_next, cX10_next, (none : Option FieldType), 779, 777, 778, 182, [], 1),
  (yX0_begin, cX0_begin, (some (FieldType.object "TaggedPascal$Routine")), 853, 851, 852, 188, [], 1),
  (yX5_forgetAll, cX5_forgetAll, (none : Option FieldType), 857, 855, 856, 189, [], 1),
  (yX7_forgetLabels, cX7_forgetLabels, (none : Option FieldType), 861, 859, 860, 194, [], 1),
  (yX1_clear, cX1_clear, (none : Option FieldType), 865, 863, 864, 187, [], 1),
  (yX5_openBlock, cX5_openBlock, (some FieldType.int), 869, 867, 868, 189, [], 2),
  (yX5_level, cX5_level, (some FieldType.int), 874, 872, 873, 189, [], 1),
  (yX0_block, cX0_block, (none : Option FieldType), 879, 877, 878, 188, [], 4),
  (yX1_length, cX1_length, (some FieldType.int), 883, 881, 882, 187, [], 1),
  (yX1_emitAimless, cX1_emitAimless, (some FieldType.int), 887, 885, 886, 187, [], 3),
  (yX0_constants, cX0_constants, (none : Option FieldType), 892, 891, 11, 188, [], 5),
  (yX10_takeIf, cX10_takeIf, (some FieldType.boolean), 896, 894, 895, 182, [], 3),
  (yX10_is, cX10_is, (some FieldType.boolean), 900, 898, 899, 182, [], 2),
  (yX0_types, cX0_types, (none : Option FieldType), 981, 980, 14, 188, [], 4),
  (yX0_variables, cX0_variables, (none : Option FieldType), 1013, 1012, 18, 188, [], 6),
  (yX0_isRoutine, cX0_isRoutine, (some FieldType.boolean), 1032, 1031, 20, 188, [], 1),
  (yX10_take, cX10_take, (none : Option FieldType), 932, 930, 931, 182, [], 2),
  (yX10_fail, cX10_fail, (none : Option FieldType), 783, 781, 782, 182, [], 2),
  (yX12_compile, cX12_compile, (some FieldType.int), 2136, 2134, 2135, 199, [], 1),
  (yX12_take, cX12_take, (none : Option FieldType), 2140, 2139, 92, 199, [], 2),
  (yX12_skipBlanks, cX12_skipBlanks, (none : Option FieldType), 2144, 2143, 93, 199, [], 2),
  (yX12_byteAt, cX12_byteAt, (some FieldType.int), 2152, 2151, 95, 199, [], 2),
  (yX12_later, cX12_later, (none : Option FieldType), 2185, 2184, 100, 199, [], 2),
  (yX12_work, cX12_work, (none : Option FieldType), 2189, 2188, 101, 199, [], 2),
  (yX12_workOfBlocks, cX12_workOfBlocks, (none : Option FieldType), 2312, 2311, 131, 199, [], 2),
  (yX12_block, cX12_block, (none : Option FieldType), 2316, 2315, 132, 199, [], 1),
  (yX12_actionsOrBody, cX12_actionsOrBody, (none : Option FieldType), 2369, 2368, 145, 199, [], 2),
  (yX12_want, cX12_want, (none : Option FieldType), 2248, 2247, 115, 199, [], 2),
  (yX12_fail, cX12_fail, (none : Option FieldType), 2148, 2147, 94, 199, [], 3),
  (yX12_statements, cX12_statements, (none : Option FieldType), 2381, 2380, 148, 199, [], 1),
  (yX11_fault, cX11_fault, (some FieldType.int), 1255, 1253, 1254, 180, [], 1),
  (yX10_failure, cX10_failure, (some FieldType.int), 1259, 1257, 1258, 182, [], 1),
  (yX12_fault, cX12_fault, (some FieldType.int), 2417, 2415, 2416, 199, [], 1),
  (yX11_place, cX11_place, (some FieldType.int), 1263, 1261, 1262, 180, [], 1),
  (yX10_failedAt, cX10_failedAt, (some FieldType.int), 1267, 1265, 1266, 182, [], 1),
  (yX12_place, cX12_place, (some FieldType.int), 2421, 2419, 2420, 199, [], 1),
  (yX11_input, cX11_input, (some FieldType.int), 1271, 1269, 1270, 180, [], 1),
  (yX8_become, cX8_become, (none : Option FieldType), 1275, 1273, 1274, 181, [], 2),
  (yX12_input, cX12_input, (some FieldType.int), 2425, 2423, 2424, 199, [], 2),
  (yL_run, cL_run, (some FieldType.int), 1329, 1328, 0, 179, [(0, 9, 12, 13)], 4),
  (yX11_run, cX11_run, (some FieldType.int), 1333, 1331, 1332, 180, [], 2),
  (yX12_run, cX12_run, (some FieldType.int), 2429, 2427, 2428, 199, [], 2),
  (yX3_execute, cX3_execute, (some FieldType.int), 1338, 1336, 1337, 195, [], 3),
  (yX3_startAgain, cX3_startAgain, (none : Option FieldType), 1342, 1341, 49, 195, [], 2),
  (yX3_enter, cX3_enter, (some FieldType.boolean), 1347, 1346, 50, 195, [], 3),
  (yX3_put, cX3_put, (none : Option FieldType), 1568, 1567, 51, 195, [], 5),
  (yX3_isCell, cX3_isCell, (some FieldType.boolean), 1571, 1570, 0, 195, [], 2),
  (yJ9_max_7cf53, cJ9_max_7cf53, (some FieldType.int), 1410, 1409, 0, 197, [], 2),
  (yX3_operand, cX3_operand, (some FieldType.int), 1578, 1577, 52, 195, [], 2),
  (yX1_at, cX1_at, (some FieldType.int), 1582, 1580, 1581, 187, [], 2),
  (yX3_perform, cX3_perform, (none : Option FieldType), 1586, 1585, 53, 195, [], 4),
  (yX3_control, cX3_control, (none : Option FieldType), 1722, 1721, 78, 195, [], 3),
  (yX12_open, cX12_open, (some FieldType.boolean), 2433, 2432, 157, 199, [], 6),
  (yX12_isWrong, cX12_isWrong, (some FieldType.boolean), 2437, 2436, 158, 199, [], 3),
  (yX12_step, cX12_step, (none : Option FieldType), 2445, 2444, 160, 199, [], 4),
  (yX12_leave, cX12_leave, (none : Option FieldType), 2476, 2475, 167, 199, [], 3),
  (yX11_where, cX11_where, (some FieldType.int), 1280, 1278, 1279, 180, [], 1),
  (yX3_errorPlace, cX3_errorPlace, (some FieldType.int), 1284, 1282, 1283, 195, [], 1),
  (yX12_where, cX12_where, (some FieldType.int), 2536, 2534, 2535, 199, [], 1),
  (yX11_written, cX11_written, (some FieldType.int), 1288, 1286, 1287, 180, [], 1),
  (yX3_output, cX3_output, (some (FieldType.object "TaggedPascal$Tape")), 1292, 1290, 1291, 195, [], 1),
  (yX12_written, cX12_written, (some FieldType.int), 2540, 2538, 2539, 199, [], 1),
  (yX11_text, cX11_text, (some FieldType.long), 1296, 1294, 1295, 180, [], 7),
  (yX12_text, cX12_text, (some FieldType.long), 2544, 2542, 2543, 199, [], 7),
  (yL_told, cL_told, (some FieldType.int), 1757, 1756, 0, 179, [(0, 9, 12, 13)], 4),
  (yX11_told, cX11_told, (some FieldType.int), 1761, 1759, 1760, 180, [], 2),
  (yX12_told, cX12_told, (some FieldType.int), 2548, 2546, 2547, 199, [], 2),
  (yX3_steps, cX3_steps, (some FieldType.int), 1765, 1763, 1764, 195, [], 1),
  (yX3_mostBlocks, cX3_mostBlocks, (some FieldType.int), 1769, 1767, 1768, 195, [], 1),
  (yX3_mostCells, cX3_mostCells, (some FieldType.int), 1773, 1771, 1772, 195, [], 1),
  (yX3_bytesRead, cX3_bytesRead, (some FieldType.int), 1777, 1775, 1776, 195, [], 1),
  (yJ0_checkIndex_df160, cJ0_checkIndex_df160, (none : Option FieldType), 264, 263, 0, 183, [], 2),
  (yJ3_checkIndex_8e157, cJ3_checkIndex_8e157, (some FieldType.int), 269, 268, 0, 185, [], 3),
  (yJ7_fill_eb02e, cJ7_fill_eb02e, (none : Option FieldType), 1350, 1349, 0, 196, [], 5),
  (yJ7_rangeCheck_23922, cJ7_rangeCheck_23922, (none : Option FieldType), 1353, 1352, 0, 196, [], 3)]
set_option maxRecDepth 100000 in
theorem rk_X11_init : rx_rowsok rp_sig (yX11_init, cX11_init, (none : Option FieldType), 213, 212, 0, 180, [], 1) rw_X11_init = true := by decide +kernel
set_option maxRecDepth 100000 in
theorem rk_X8_init : rx_rowsok rp_sig (yX8_init, cX8_init, (none : Option FieldType), 221, 220, 0, 181, [], 1) rw_X8_init = true := by decide +kernel
set_option maxRecDepth 100000 in
theorem rk_X10_init : rx_rowsok rp_sig (yX10_init, cX10_init, (none : Option FieldType), 235, 234, 0, 182, [], 2) rw_X10_init = true := by decide +kernel
set_option maxRecDepth 100000 in
theorem rk_X10_encodeAll : rx_rowsok rp_sig (yX10_encodeAll, cX10_encodeAll, (none : Option FieldType), 240, 239, 0, 182, [], 5) rw_X10_encodeAll = true := by decide +kernel
set_option maxRecDepth 100000 in
theorem rk_J0_length_8abf5 : rx_rowsok rp_sig (yJ0_length_8abf5, cJ0_length_8abf5, (some FieldType.int), 244, 242, 243, 183, [], 1) rw_J0_length_8abf5 = true := by decide +kernel
set_option maxRecDepth 100000 in
theorem rk_J0_coder_7d493 : rx_rowsok rp_sig (yJ0_coder_7d493, cJ0_coder_7d493, (some FieldType.byte), 248, 246, 247, 183, [], 1) rw_J0_coder_7d493 = true := by decide +kernel
set_option maxRecDepth 100000 in
theorem rk_J0_charAt_5068e : rx_rowsok rp_sig (yJ0_charAt_5068e, cJ0_charAt_5068e, (some FieldType.char), 254, 252, 253, 183, [], 2) rw_J0_charAt_5068e = true := by decide +kernel
set_option maxRecDepth 100000 in
theorem rk_J0_isLatin1_aae02 : rx_rowsok rp_sig (yJ0_isLatin1_aae02, cJ0_isLatin1_aae02, (some FieldType.boolean), 258, 256, 257, 183, [], 1) rw_J0_isLatin1_aae02 = true := by decide +kernel
set_option maxRecDepth 100000 in
theorem rk_J1_charAt_3b067 : rx_rowsok rp_sig (yJ1_charAt_3b067, cJ1_charAt_3b067, (some FieldType.char), 261, 260, 0, 184, [], 2) rw_J1_charAt_3b067 = true := by decide +kernel
set_option maxRecDepth 100000 in
theorem rk_X10_symbol : rx_rowsok rp_sig (yX10_symbol, cX10_symbol, (some FieldType.int), 292, 291, 0, 182, [], 1) rw_X10_symbol = true := by decide +kernel
set_option maxRecDepth 100000 in
theorem rk_X1_init : rx_rowsok rp_sig (yX1_init, cX1_init, (none : Option FieldType), 333, 332, 0, 187, [], 1) rw_X1_init = true := by decide +kernel
set_option maxRecDepth 100000 in
theorem rk_X0_init : rx_rowsok rp_sig (yX0_init, cX0_init, (none : Option FieldType), 364, 363, 0, 188, [], 3) rw_X0_init = true := by decide +kernel
set_option maxRecDepth 100000 in
theorem rk_X5_init : rx_rowsok rp_sig (yX5_init, cX5_init, (none : Option FieldType), 370, 369, 0, 189, [], 3) rw_X5_init = true := by decide +kernel
set_option maxRecDepth 100000 in
theorem rk_X9_init : rx_rowsok rp_sig (yX9_init, cX9_init, (none : Option FieldType), 376, 375, 0, 190, [], 2) rw_X9_init = true := by decide +kernel
set_option maxRecDepth 100000 in
theorem rk_X6_init : rx_rowsok rp_sig (yX6_init, cX6_init, (none : Option FieldType), 408, 407, 0, 191, [], 3) rw_X6_init = true := by decide +kernel
set_option maxRecDepth 100000 in
theorem rk_X4_init : rx_rowsok rp_sig (yX4_init, cX4_init, (none : Option FieldType), 455, 454, 0, 192, [], 3) rw_X4_init = true := by decide +kernel
set_option maxRecDepth 100000 in
theorem rk_X5_ofKind : rx_rowsok rp_sig (yX5_ofKind, cX5_ofKind, (some (FieldType.object "TaggedPascal$Type")), 499, 498, 0, 189, [], 2) rw_X5_ofKind = true := by decide +kernel
set_option maxRecDepth 100000 in
theorem rk_X2_init : rx_rowsok rp_sig (yX2_init, cX2_init, (none : Option FieldType), 533, 532, 0, 193, [], 4) rw_X2_init = true := by decide +kernel
set_option maxRecDepth 100000 in
theorem rk_X7_init : rx_rowsok rp_sig (yX7_init, cX7_init, (none : Option FieldType), 552, 551, 0, 194, [], 5) rw_X7_init = true := by decide +kernel
set_option maxRecDepth 100000 in
theorem rk_X3_init : rx_rowsok rp_sig (yX3_init, cX3_init, (none : Option FieldType), 593, 592, 0, 195, [], 3) rw_X3_init = true := by decide +kernel
set_option maxRecDepth 100000 in
theorem rk_X1_emit : rx_rowsok rp_sig (yX1_emit, cX1_emit, (none : Option FieldType), 658, 656, 657, 187, [], 2) rw_X1_emit = true := by decide +kernel
set_option maxRecDepth 100000 in
theorem rk_X12_packed : rx_rowsok rp_sig (yX12_packed, cX12_packed, (some FieldType.long), 1788, 1787, 0, 199, [], 5) rw_X12_packed = true := by decide +kernel
set_option maxRecDepth 100000 in
theorem rk_X12_emptyProgram : rx_rowsok rp_sig (yX12_emptyProgram, cX12_emptyProgram, (none : Option FieldType), 1793, 1792, 87, 199, [], 1) rw_X12_emptyProgram = true := by decide +kernel
set_option maxRecDepth 100000 in
theorem rk_X12_beginProgram : rx_rowsok rp_sig (yX12_beginProgram, cX12_beginProgram, (none : Option FieldType), 1797, 1796, 88, 199, [], 1) rw_X12_beginProgram = true := by decide +kernel
set_option maxRecDepth 100000 in
theorem rk_X12_write1 : rx_rowsok rp_sig (yX12_write1, cX12_write1, (none : Option FieldType), 1801, 1800, 89, 199, [], 4) rw_X12_write1 = true := by decide +kernel
set_option maxRecDepth 100000 in
theorem rk_X12_emit : rx_rowsok rp_sig (yX12_emit, cX12_emit, (some FieldType.int), 1805, 1804, 90, 199, [], 5) rw_X12_emit = true := by decide +kernel
set_option maxRecDepth 100000 in
theorem rk_X12_keepProgram : rx_rowsok rp_sig (yX12_keepProgram, cX12_keepProgram, (none : Option FieldType), 1809, 1808, 91, 199, [], 2) rw_X12_keepProgram = true := by decide +kernel
set_option maxRecDepth 100000 in
theorem rk_L_feed : rx_rowsok rp_sig (yL_feed, cL_feed, (some FieldType.int), 1301, 1300, 0, 179, [(0, 11, 14, 13)], 6) rw_L_feed = true := by decide +kernel
set_option maxRecDepth 100000 in
theorem rk_X11_feed : rx_rowsok rp_sig (yX11_feed, cX11_feed, (some FieldType.int), 1306, 1304, 1305, 180, [], 5) rw_X11_feed = true := by decide +kernel
set_option maxRecDepth 100000 in
theorem rk_X12_feed : rx_rowsok rp_sig (yX12_feed, cX12_feed, (some FieldType.int), 2127, 2125, 2126, 199, [], 5) rw_X12_feed = true := by decide +kernel
set_option maxRecDepth 100000 in
theorem rk_X12_thrown : rx_rowsok rp_sig (yX12_thrown, cX12_thrown, (some FieldType.int), 2123, 2121, 2122, 199, [], 1) rw_X12_thrown = true := by decide +kernel
set_option maxRecDepth 100000 in
theorem rk_X8_length : rx_rowsok rp_sig (yX8_length, cX8_length, (some FieldType.int), 704, 702, 703, 181, [], 1) rw_X8_length = true := by decide +kernel
set_option maxRecDepth 100000 in
theorem rk_X8_append : rx_rowsok rp_sig (yX8_append, cX8_append, (some FieldType.boolean), 1326, 1324, 1325, 181, [], 2) rw_X8_append = true := by decide +kernel
set_option maxRecDepth 100000 in
theorem rk_X11_wipe : rx_rowsok rp_sig (yX11_wipe, cX11_wipe, (some FieldType.int), 700, 698, 699, 180, [], 2) rw_X11_wipe = true := by decide +kernel
set_option maxRecDepth 100000 in
theorem rk_X8_clear : rx_rowsok rp_sig (yX8_clear, cX8_clear, (none : Option FieldType), 708, 706, 707, 181, [], 1) rw_X8_clear = true := by decide +kernel
set_option maxRecDepth 100000 in
theorem rk_X12_wipe : rx_rowsok rp_sig (yX12_wipe, cX12_wipe, (some FieldType.int), 2132, 2130, 2131, 199, [], 2) rw_X12_wipe = true := by decide +kernel
set_option maxRecDepth 100000 in
theorem rk_X11_compile : rx_rowsok rp_sig (yX11_compile, cX11_compile, (some FieldType.int), 712, 710, 711, 180, [(0, 31, 34, 96)], 2) rw_X11_compile = true := by decide +kernel
set_option maxRecDepth 100000 in
theorem rk_X10_scan : rx_rowsok rp_sig (yX10_scan, cX10_scan, (none : Option FieldType), 717, 715, 716, 182, [], 3) rw_X10_scan = true := by decide +kernel
set_option maxRecDepth 100000 in
theorem rk_X10_skipBlanks : rx_rowsok rp_sig (yX10_skipBlanks, cX10_skipBlanks, (none : Option FieldType), 721, 720, 1, 182, [], 5) rw_X10_skipBlanks = true := by decide +kernel
set_option maxRecDepth 100000 in
theorem rk_X8_at : rx_rowsok rp_sig (yX8_at, cX8_at, (some FieldType.int), 725, 723, 724, 181, [], 3) rw_X8_at = true := by decide +kernel
set_option maxRecDepth 100000 in
theorem rk_X10_scanWord : rx_rowsok rp_sig (yX10_scanWord, cX10_scanWord, (none : Option FieldType), 734, 733, 3, 182, [], 2) rw_X10_scanWord = true := by decide +kernel
set_option maxRecDepth 100000 in
theorem rk_X10_add : rx_rowsok rp_sig (yX10_add, cX10_add, (none : Option FieldType), 738, 737, 4, 182, [], 5) rw_X10_add = true := by decide +kernel
set_option maxRecDepth 100000 in
theorem rk_X10_next : rx_rowsok rp_sig (yX10_next, cX10_next, (none : Option FieldType), 779, 777, 778, 182, [], 1) rw_X10_next = true := by decide +kernel
set_option maxRecDepth 100000 in
theorem rk_X0_begin : rx_rowsok rp_sig (yX0_begin, cX0_begin, (some (FieldType.object "TaggedPascal$Routine")), 853, 851, 852, 188, [], 1) rw_X0_begin = true := by decide +kernel
set_option maxRecDepth 100000 in
theorem rk_X5_forgetAll : rx_rowsok rp_sig (yX5_forgetAll, cX5_forgetAll, (none : Option FieldType), 857, 855, 856, 189, [], 1) rw_X5_forgetAll = true := by decide +kernel
set_option maxRecDepth 100000 in
theorem rk_X7_forgetLabels : rx_rowsok rp_sig (yX7_forgetLabels, cX7_forgetLabels, (none : Option FieldType), 861, 859, 860, 194, [], 1) rw_X7_forgetLabels = true := by decide +kernel
set_option maxRecDepth 100000 in
theorem rk_X1_clear : rx_rowsok rp_sig (yX1_clear, cX1_clear, (none : Option FieldType), 865, 863, 864, 187, [], 1) rw_X1_clear = true := by decide +kernel
set_option maxRecDepth 100000 in
theorem rk_X5_openBlock : rx_rowsok rp_sig (yX5_openBlock, cX5_openBlock, (some FieldType.int), 869, 867, 868, 189, [], 2) rw_X5_openBlock = true := by decide +kernel
set_option maxRecDepth 100000 in
theorem rk_X5_level : rx_rowsok rp_sig (yX5_level, cX5_level, (some FieldType.int), 874, 872, 873, 189, [], 1) rw_X5_level = true := by decide +kernel
set_option maxRecDepth 100000 in
theorem rk_X0_block : rx_rowsok rp_sig (yX0_block, cX0_block, (none : Option FieldType), 879, 877, 878, 188, [], 4) rw_X0_block = true := by decide +kernel
set_option maxRecDepth 100000 in
theorem rk_X1_length : rx_rowsok rp_sig (yX1_length, cX1_length, (some FieldType.int), 883, 881, 882, 187, [], 1) rw_X1_length = true := by decide +kernel
set_option maxRecDepth 100000 in
theorem rk_X1_emitAimless : rx_rowsok rp_sig (yX1_emitAimless, cX1_emitAimless, (some FieldType.int), 887, 885, 886, 187, [], 3) rw_X1_emitAimless = true := by decide +kernel
set_option maxRecDepth 100000 in
theorem rk_X0_constants : rx_rowsok rp_sig (yX0_constants, cX0_constants, (none : Option FieldType), 892, 891, 11, 188, [], 5) rw_X0_constants = true := by decide +kernel
set_option maxRecDepth 100000 in
theorem rk_X10_takeIf : rx_rowsok rp_sig (yX10_takeIf, cX10_takeIf, (some FieldType.boolean), 896, 894, 895, 182, [], 3) rw_X10_takeIf = true := by decide +kernel
set_option maxRecDepth 100000 in
theorem rk_X10_is : rx_rowsok rp_sig (yX10_is, cX10_is, (some FieldType.boolean), 900, 898, 899, 182, [], 2) rw_X10_is = true := by decide +kernel
set_option maxRecDepth 100000 in
theorem rk_X0_types : rx_rowsok rp_sig (yX0_types, cX0_types, (none : Option FieldType), 981, 980, 14, 188, [], 4) rw_X0_types = true := by decide +kernel
set_option maxRecDepth 100000 in
theorem rk_X0_variables : rx_rowsok rp_sig (yX0_variables, cX0_variables, (none : Option FieldType), 1013, 1012, 18, 188, [], 6) rw_X0_variables = true := by decide +kernel
set_option maxRecDepth 100000 in
theorem rk_X0_isRoutine : rx_rowsok rp_sig (yX0_isRoutine, cX0_isRoutine, (some FieldType.boolean), 1032, 1031, 20, 188, [], 1) rw_X0_isRoutine = true := by decide +kernel
set_option maxRecDepth 100000 in
theorem rk_X10_take : rx_rowsok rp_sig (yX10_take, cX10_take, (none : Option FieldType), 932, 930, 931, 182, [], 2) rw_X10_take = true := by decide +kernel
set_option maxRecDepth 100000 in
theorem rk_X10_fail : rx_rowsok rp_sig (yX10_fail, cX10_fail, (none : Option FieldType), 783, 781, 782, 182, [], 2) rw_X10_fail = true := by decide +kernel
set_option maxRecDepth 100000 in
theorem rk_X12_compile : rx_rowsok rp_sig (yX12_compile, cX12_compile, (some FieldType.int), 2136, 2134, 2135, 199, [], 1) rw_X12_compile = true := by decide +kernel
set_option maxRecDepth 100000 in
theorem rk_X12_take : rx_rowsok rp_sig (yX12_take, cX12_take, (none : Option FieldType), 2140, 2139, 92, 199, [], 2) rw_X12_take = true := by decide +kernel
set_option maxRecDepth 100000 in
theorem rk_X12_skipBlanks : rx_rowsok rp_sig (yX12_skipBlanks, cX12_skipBlanks, (none : Option FieldType), 2144, 2143, 93, 199, [], 2) rw_X12_skipBlanks = true := by decide +kernel
set_option maxRecDepth 100000 in
theorem rk_X12_byteAt : rx_rowsok rp_sig (yX12_byteAt, cX12_byteAt, (some FieldType.int), 2152, 2151, 95, 199, [], 2) rw_X12_byteAt = true := by decide +kernel
set_option maxRecDepth 100000 in
theorem rk_X12_later : rx_rowsok rp_sig (yX12_later, cX12_later, (none : Option FieldType), 2185, 2184, 100, 199, [], 2) rw_X12_later = true := by decide +kernel
set_option maxRecDepth 100000 in
theorem rk_X12_work : rx_rowsok rp_sig (yX12_work, cX12_work, (none : Option FieldType), 2189, 2188, 101, 199, [], 2) rw_X12_work = true := by decide +kernel
set_option maxRecDepth 100000 in
theorem rk_X12_workOfBlocks : rx_rowsok rp_sig (yX12_workOfBlocks, cX12_workOfBlocks, (none : Option FieldType), 2312, 2311, 131, 199, [], 2) rw_X12_workOfBlocks = true := by decide +kernel
set_option maxRecDepth 100000 in
theorem rk_X12_block : rx_rowsok rp_sig (yX12_block, cX12_block, (none : Option FieldType), 2316, 2315, 132, 199, [], 1) rw_X12_block = true := by decide +kernel
set_option maxRecDepth 100000 in
theorem rk_X12_actionsOrBody : rx_rowsok rp_sig (yX12_actionsOrBody, cX12_actionsOrBody, (none : Option FieldType), 2369, 2368, 145, 199, [], 2) rw_X12_actionsOrBody = true := by decide +kernel
set_option maxRecDepth 100000 in
theorem rk_X12_want : rx_rowsok rp_sig (yX12_want, cX12_want, (none : Option FieldType), 2248, 2247, 115, 199, [], 2) rw_X12_want = true := by decide +kernel
set_option maxRecDepth 100000 in
theorem rk_X12_fail : rx_rowsok rp_sig (yX12_fail, cX12_fail, (none : Option FieldType), 2148, 2147, 94, 199, [], 3) rw_X12_fail = true := by decide +kernel
set_option maxRecDepth 100000 in
theorem rk_X12_statements : rx_rowsok rp_sig (yX12_statements, cX12_statements, (none : Option FieldType), 2381, 2380, 148, 199, [], 1) rw_X12_statements = true := by decide +kernel
set_option maxRecDepth 100000 in
theorem rk_X11_fault : rx_rowsok rp_sig (yX11_fault, cX11_fault, (some FieldType.int), 1255, 1253, 1254, 180, [], 1) rw_X11_fault = true := by decide +kernel
set_option maxRecDepth 100000 in
theorem rk_X10_failure : rx_rowsok rp_sig (yX10_failure, cX10_failure, (some FieldType.int), 1259, 1257, 1258, 182, [], 1) rw_X10_failure = true := by decide +kernel
set_option maxRecDepth 100000 in
theorem rk_X12_fault : rx_rowsok rp_sig (yX12_fault, cX12_fault, (some FieldType.int), 2417, 2415, 2416, 199, [], 1) rw_X12_fault = true := by decide +kernel
set_option maxRecDepth 100000 in
theorem rk_X11_place : rx_rowsok rp_sig (yX11_place, cX11_place, (some FieldType.int), 1263, 1261, 1262, 180, [], 1) rw_X11_place = true := by decide +kernel
set_option maxRecDepth 100000 in
theorem rk_X10_failedAt : rx_rowsok rp_sig (yX10_failedAt, cX10_failedAt, (some FieldType.int), 1267, 1265, 1266, 182, [], 1) rw_X10_failedAt = true := by decide +kernel
set_option maxRecDepth 100000 in
theorem rk_X12_place : rx_rowsok rp_sig (yX12_place, cX12_place, (some FieldType.int), 2421, 2419, 2420, 199, [], 1) rw_X12_place = true := by decide +kernel
set_option maxRecDepth 100000 in
theorem rk_X11_input : rx_rowsok rp_sig (yX11_input, cX11_input, (some FieldType.int), 1271, 1269, 1270, 180, [], 1) rw_X11_input = true := by decide +kernel
set_option maxRecDepth 100000 in
theorem rk_X8_become : rx_rowsok rp_sig (yX8_become, cX8_become, (none : Option FieldType), 1275, 1273, 1274, 181, [], 2) rw_X8_become = true := by decide +kernel
set_option maxRecDepth 100000 in
theorem rk_X12_input : rx_rowsok rp_sig (yX12_input, cX12_input, (some FieldType.int), 2425, 2423, 2424, 199, [], 2) rw_X12_input = true := by decide +kernel
set_option maxRecDepth 100000 in
theorem rk_L_run : rx_rowsok rp_sig (yL_run, cL_run, (some FieldType.int), 1329, 1328, 0, 179, [(0, 9, 12, 13)], 4) rw_L_run = true := by decide +kernel
set_option maxRecDepth 100000 in
theorem rk_X11_run : rx_rowsok rp_sig (yX11_run, cX11_run, (some FieldType.int), 1333, 1331, 1332, 180, [], 2) rw_X11_run = true := by decide +kernel
set_option maxRecDepth 100000 in
theorem rk_X12_run : rx_rowsok rp_sig (yX12_run, cX12_run, (some FieldType.int), 2429, 2427, 2428, 199, [], 2) rw_X12_run = true := by decide +kernel
set_option maxRecDepth 100000 in
theorem rk_X3_execute : rx_rowsok rp_sig (yX3_execute, cX3_execute, (some FieldType.int), 1338, 1336, 1337, 195, [], 3) rw_X3_execute = true := by decide +kernel
set_option maxRecDepth 100000 in
theorem rk_X3_startAgain : rx_rowsok rp_sig (yX3_startAgain, cX3_startAgain, (none : Option FieldType), 1342, 1341, 49, 195, [], 2) rw_X3_startAgain = true := by decide +kernel
set_option maxRecDepth 100000 in
theorem rk_X3_enter : rx_rowsok rp_sig (yX3_enter, cX3_enter, (some FieldType.boolean), 1347, 1346, 50, 195, [], 3) rw_X3_enter = true := by decide +kernel
set_option maxRecDepth 100000 in
theorem rk_X3_put : rx_rowsok rp_sig (yX3_put, cX3_put, (none : Option FieldType), 1568, 1567, 51, 195, [], 5) rw_X3_put = true := by decide +kernel
set_option maxRecDepth 100000 in
theorem rk_X3_isCell : rx_rowsok rp_sig (yX3_isCell, cX3_isCell, (some FieldType.boolean), 1571, 1570, 0, 195, [], 2) rw_X3_isCell = true := by decide +kernel
set_option maxRecDepth 100000 in
theorem rk_J9_max_7cf53 : rx_rowsok rp_sig (yJ9_max_7cf53, cJ9_max_7cf53, (some FieldType.int), 1410, 1409, 0, 197, [], 2) rw_J9_max_7cf53 = true := by decide +kernel
set_option maxRecDepth 100000 in
theorem rk_X3_operand : rx_rowsok rp_sig (yX3_operand, cX3_operand, (some FieldType.int), 1578, 1577, 52, 195, [], 2) rw_X3_operand = true := by decide +kernel
set_option maxRecDepth 100000 in
theorem rk_X1_at : rx_rowsok rp_sig (yX1_at, cX1_at, (some FieldType.int), 1582, 1580, 1581, 187, [], 2) rw_X1_at = true := by decide +kernel
set_option maxRecDepth 100000 in
theorem rk_X3_perform : rx_rowsok rp_sig (yX3_perform, cX3_perform, (none : Option FieldType), 1586, 1585, 53, 195, [], 4) rw_X3_perform = true := by decide +kernel
set_option maxRecDepth 100000 in
theorem rk_X3_control : rx_rowsok rp_sig (yX3_control, cX3_control, (none : Option FieldType), 1722, 1721, 78, 195, [], 3) rw_X3_control = true := by decide +kernel
set_option maxRecDepth 100000 in
theorem rk_X12_open : rx_rowsok rp_sig (yX12_open, cX12_open, (some FieldType.boolean), 2433, 2432, 157, 199, [], 6) rw_X12_open = true := by decide +kernel
set_option maxRecDepth 100000 in
theorem rk_X12_isWrong : rx_rowsok rp_sig (yX12_isWrong, cX12_isWrong, (some FieldType.boolean), 2437, 2436, 158, 199, [], 3) rw_X12_isWrong = true := by decide +kernel
set_option maxRecDepth 100000 in
theorem rk_X12_step : rx_rowsok rp_sig (yX12_step, cX12_step, (none : Option FieldType), 2445, 2444, 160, 199, [], 4) rw_X12_step = true := by decide +kernel
set_option maxRecDepth 100000 in
theorem rk_X12_leave : rx_rowsok rp_sig (yX12_leave, cX12_leave, (none : Option FieldType), 2476, 2475, 167, 199, [], 3) rw_X12_leave = true := by decide +kernel
set_option maxRecDepth 100000 in
theorem rk_X11_where : rx_rowsok rp_sig (yX11_where, cX11_where, (some FieldType.int), 1280, 1278, 1279, 180, [], 1) rw_X11_where = true := by decide +kernel
set_option maxRecDepth 100000 in
theorem rk_X3_errorPlace : rx_rowsok rp_sig (yX3_errorPlace, cX3_errorPlace, (some FieldType.int), 1284, 1282, 1283, 195, [], 1) rw_X3_errorPlace = true := by decide +kernel
set_option maxRecDepth 100000 in
theorem rk_X12_where : rx_rowsok rp_sig (yX12_where, cX12_where, (some FieldType.int), 2536, 2534, 2535, 199, [], 1) rw_X12_where = true := by decide +kernel
set_option maxRecDepth 100000 in
theorem rk_X11_written : rx_rowsok rp_sig (yX11_written, cX11_written, (some FieldType.int), 1288, 1286, 1287, 180, [], 1) rw_X11_written = true := by decide +kernel
set_option maxRecDepth 100000 in
theorem rk_X3_output : rx_rowsok rp_sig (yX3_output, cX3_output, (some (FieldType.object "TaggedPascal$Tape")), 1292, 1290, 1291, 195, [], 1) rw_X3_output = true := by decide +kernel
set_option maxRecDepth 100000 in
theorem rk_X12_written : rx_rowsok rp_sig (yX12_written, cX12_written, (some FieldType.int), 2540, 2538, 2539, 199, [], 1) rw_X12_written = true := by decide +kernel
set_option maxRecDepth 100000 in
theorem rk_X11_text : rx_rowsok rp_sig (yX11_text, cX11_text, (some FieldType.long), 1296, 1294, 1295, 180, [], 7) rw_X11_text = true := by decide +kernel
set_option maxRecDepth 100000 in
theorem rk_X12_text : rx_rowsok rp_sig (yX12_text, cX12_text, (some FieldType.long), 2544, 2542, 2543, 199, [], 7) rw_X12_text = true := by decide +kernel
set_option maxRecDepth 100000 in
theorem rk_L_told : rx_rowsok rp_sig (yL_told, cL_told, (some FieldType.int), 1757, 1756, 0, 179, [(0, 9, 12, 13)], 4) rw_L_told = true := by decide +kernel
set_option maxRecDepth 100000 in
theorem rk_X11_told : rx_rowsok rp_sig (yX11_told, cX11_told, (some FieldType.int), 1761, 1759, 1760, 180, [], 2) rw_X11_told = true := by decide +kernel
set_option maxRecDepth 100000 in
theorem rk_X12_told : rx_rowsok rp_sig (yX12_told, cX12_told, (some FieldType.int), 2548, 2546, 2547, 199, [], 2) rw_X12_told = true := by decide +kernel
set_option maxRecDepth 100000 in
theorem rk_X3_steps : rx_rowsok rp_sig (yX3_steps, cX3_steps, (some FieldType.int), 1765, 1763, 1764, 195, [], 1) rw_X3_steps = true := by decide +kernel
set_option maxRecDepth 100000 in
theorem rk_X3_mostBlocks : rx_rowsok rp_sig (yX3_mostBlocks, cX3_mostBlocks, (some FieldType.int), 1769, 1767, 1768, 195, [], 1) rw_X3_mostBlocks = true := by decide +kernel
set_option maxRecDepth 100000 in
theorem rk_X3_mostCells : rx_rowsok rp_sig (yX3_mostCells, cX3_mostCells, (some FieldType.int), 1773, 1771, 1772, 195, [], 1) rw_X3_mostCells = true := by decide +kernel
set_option maxRecDepth 100000 in
theorem rk_X3_bytesRead : rx_rowsok rp_sig (yX3_bytesRead, cX3_bytesRead, (some FieldType.int), 1777, 1775, 1776, 195, [], 1) rw_X3_bytesRead = true := by decide +kernel
set_option maxRecDepth 100000 in
theorem rk_J0_checkIndex_df160 : rx_rowsok rp_sig (yJ0_checkIndex_df160, cJ0_checkIndex_df160, (none : Option FieldType), 264, 263, 0, 183, [], 2) rw_J0_checkIndex_df160 = true := by decide +kernel
set_option maxRecDepth 100000 in
theorem rk_J3_checkIndex_8e157 : rx_rowsok rp_sig (yJ3_checkIndex_8e157, cJ3_checkIndex_8e157, (some FieldType.int), 269, 268, 0, 185, [], 3) rw_J3_checkIndex_8e157 = true := by decide +kernel
set_option maxRecDepth 100000 in
theorem rk_J7_fill_eb02e : rx_rowsok rp_sig (yJ7_fill_eb02e, cJ7_fill_eb02e, (none : Option FieldType), 1350, 1349, 0, 196, [], 5) rw_J7_fill_eb02e = true := by decide +kernel
set_option maxRecDepth 100000 in
theorem rk_J7_rangeCheck_23922 : rx_rowsok rp_sig (yJ7_rangeCheck_23922, cJ7_rangeCheck_23922, (none : Option FieldType), 1353, 1352, 0, 196, [], 3) rw_J7_rangeCheck_23922 = true := by decide +kernel
end
section
theorem rx_rows_split {f : RRow → Bool} {rows : List RRow} (n : Nat) (hn : rows.length ≤ 60 * n) (h : ∀ i, i < n → ((rows.drop (60 * i)).take 60).all f = true) : rows.all f = true := by
  rw [List.all_eq_true]
  intro q hq
  obtain ⟨j, hj, rfl⟩ := List.getElem_of_mem hq
  refine List.all_eq_true.mp (h (j / 60) (by omega)) _ ?_
  refine List.mem_of_getElem? (i := j % 60) ?_
  rw [List.getElem?_take, if_pos (Nat.mod_lt _ (by decide)), List.getElem?_drop, show 60 * (j / 60) + j % 60 = j by omega]
  exact List.getElem?_eq_getElem hj
set_option maxRecDepth 100000 in
theorem rk_X12_init_0 : ((rw_X12_init.drop (60 * 0)).take 60).all (fun q => rx_chk (decide (yX12_init.name = "<init>")) yX12_init.cls cX12_init rp_sig q && rx_xok yX12_init.cls cX12_init q) = true := by decide +kernel
set_option maxRecDepth 100000 in
theorem rk_X12_init_1 : ((rw_X12_init.drop (60 * 1)).take 60).all (fun q => rx_chk (decide (yX12_init.name = "<init>")) yX12_init.cls cX12_init rp_sig q && rx_xok yX12_init.cls cX12_init q) = true := by decide +kernel
set_option maxRecDepth 100000 in
theorem rk_X12_init_2 : ((rw_X12_init.drop (60 * 2)).take 60).all (fun q => rx_chk (decide (yX12_init.name = "<init>")) yX12_init.cls cX12_init rp_sig q && rx_xok yX12_init.cls cX12_init q) = true := by decide +kernel
set_option maxRecDepth 100000 in
theorem rk_X12_init_3 : ((rw_X12_init.drop (60 * 3)).take 60).all (fun q => rx_chk (decide (yX12_init.name = "<init>")) yX12_init.cls cX12_init rp_sig q && rx_xok yX12_init.cls cX12_init q) = true := by decide +kernel
set_option maxRecDepth 100000 in
theorem rk_X12_init_4 : ((rw_X12_init.drop (60 * 4)).take 60).all (fun q => rx_chk (decide (yX12_init.name = "<init>")) yX12_init.cls cX12_init rp_sig q && rx_xok yX12_init.cls cX12_init q) = true := by decide +kernel
set_option maxRecDepth 100000 in
theorem rk_X12_init_5 : ((rw_X12_init.drop (60 * 5)).take 60).all (fun q => rx_chk (decide (yX12_init.name = "<init>")) yX12_init.cls cX12_init rp_sig q && rx_xok yX12_init.cls cX12_init q) = true := by decide +kernel
set_option maxRecDepth 100000 in
theorem rk_X12_init_6 : ((rw_X12_init.drop (60 * 6)).take 60).all (fun q => rx_chk (decide (yX12_init.name = "<init>")) yX12_init.cls cX12_init rp_sig q && rx_xok yX12_init.cls cX12_init q) = true := by decide +kernel
set_option maxRecDepth 100000 in
theorem rk_X12_init_7 : ((rw_X12_init.drop (60 * 7)).take 60).all (fun q => rx_chk (decide (yX12_init.name = "<init>")) yX12_init.cls cX12_init rp_sig q && rx_xok yX12_init.cls cX12_init q) = true := by decide +kernel
set_option maxRecDepth 100000 in
theorem rk_X12_init_8 : ((rw_X12_init.drop (60 * 8)).take 60).all (fun q => rx_chk (decide (yX12_init.name = "<init>")) yX12_init.cls cX12_init rp_sig q && rx_xok yX12_init.cls cX12_init q) = true := by decide +kernel
set_option maxRecDepth 100000 in
theorem rk_X12_init_9 : ((rw_X12_init.drop (60 * 9)).take 60).all (fun q => rx_chk (decide (yX12_init.name = "<init>")) yX12_init.cls cX12_init rp_sig q && rx_xok yX12_init.cls cX12_init q) = true := by decide +kernel
set_option maxRecDepth 100000 in
theorem rk_X12_init_10 : ((rw_X12_init.drop (60 * 10)).take 60).all (fun q => rx_chk (decide (yX12_init.name = "<init>")) yX12_init.cls cX12_init rp_sig q && rx_xok yX12_init.cls cX12_init q) = true := by decide +kernel
set_option maxRecDepth 100000 in
theorem rk_X12_init_11 : ((rw_X12_init.drop (60 * 11)).take 60).all (fun q => rx_chk (decide (yX12_init.name = "<init>")) yX12_init.cls cX12_init rp_sig q && rx_xok yX12_init.cls cX12_init q) = true := by decide +kernel
set_option maxRecDepth 100000 in
theorem rk_X12_init_12 : ((rw_X12_init.drop (60 * 12)).take 60).all (fun q => rx_chk (decide (yX12_init.name = "<init>")) yX12_init.cls cX12_init rp_sig q && rx_xok yX12_init.cls cX12_init q) = true := by decide +kernel
set_option maxRecDepth 100000 in
theorem rk_X12_init_13 : ((rw_X12_init.drop (60 * 13)).take 60).all (fun q => rx_chk (decide (yX12_init.name = "<init>")) yX12_init.cls cX12_init rp_sig q && rx_xok yX12_init.cls cX12_init q) = true := by decide +kernel
set_option maxRecDepth 100000 in
theorem rk_X12_init_14 : ((rw_X12_init.drop (60 * 14)).take 60).all (fun q => rx_chk (decide (yX12_init.name = "<init>")) yX12_init.cls cX12_init rp_sig q && rx_xok yX12_init.cls cX12_init q) = true := by decide +kernel
set_option maxRecDepth 100000 in
theorem rk_X12_init_15 : ((rw_X12_init.drop (60 * 15)).take 60).all (fun q => rx_chk (decide (yX12_init.name = "<init>")) yX12_init.cls cX12_init rp_sig q && rx_xok yX12_init.cls cX12_init q) = true := by decide +kernel
set_option maxRecDepth 100000 in
theorem rk_X12_init_16 : ((rw_X12_init.drop (60 * 16)).take 60).all (fun q => rx_chk (decide (yX12_init.name = "<init>")) yX12_init.cls cX12_init rp_sig q && rx_xok yX12_init.cls cX12_init q) = true := by decide +kernel
set_option maxRecDepth 100000 in
theorem rk_X12_init_17 : ((rw_X12_init.drop (60 * 17)).take 60).all (fun q => rx_chk (decide (yX12_init.name = "<init>")) yX12_init.cls cX12_init rp_sig q && rx_xok yX12_init.cls cX12_init q) = true := by decide +kernel
set_option maxRecDepth 100000 in
theorem rk_X12_init_18 : ((rw_X12_init.drop (60 * 18)).take 60).all (fun q => rx_chk (decide (yX12_init.name = "<init>")) yX12_init.cls cX12_init rp_sig q && rx_xok yX12_init.cls cX12_init q) = true := by decide +kernel
set_option maxRecDepth 100000 in
theorem rk_X12_init_19 : ((rw_X12_init.drop (60 * 19)).take 60).all (fun q => rx_chk (decide (yX12_init.name = "<init>")) yX12_init.cls cX12_init rp_sig q && rx_xok yX12_init.cls cX12_init q) = true := by decide +kernel
set_option maxRecDepth 100000 in
theorem rk_X12_init_20 : ((rw_X12_init.drop (60 * 20)).take 60).all (fun q => rx_chk (decide (yX12_init.name = "<init>")) yX12_init.cls cX12_init rp_sig q && rx_xok yX12_init.cls cX12_init q) = true := by decide +kernel
set_option maxRecDepth 100000 in
theorem rk_X12_init : rx_rowsok rp_sig (yX12_init, cX12_init, (none : Option FieldType), 1783, 1782, 0, 199, [], 3) rw_X12_init = true := by
  refine rx_rows_split 21 (by decide +kernel) (fun i hi => ?_)
  match i, hi with
  | 0, _ => exact rk_X12_init_0
  | 1, _ => exact rk_X12_init_1
  | 2, _ => exact rk_X12_init_2
  | 3, _ => exact rk_X12_init_3
  | 4, _ => exact rk_X12_init_4
  | 5, _ => exact rk_X12_init_5
  | 6, _ => exact rk_X12_init_6
  | 7, _ => exact rk_X12_init_7
  | 8, _ => exact rk_X12_init_8
  | 9, _ => exact rk_X12_init_9
  | 10, _ => exact rk_X12_init_10
  | 11, _ => exact rk_X12_init_11
  | 12, _ => exact rk_X12_init_12
  | 13, _ => exact rk_X12_init_13
  | 14, _ => exact rk_X12_init_14
  | 15, _ => exact rk_X12_init_15
  | 16, _ => exact rk_X12_init_16
  | 17, _ => exact rk_X12_init_17
  | 18, _ => exact rk_X12_init_18
  | 19, _ => exact rk_X12_init_19
  | 20, _ => exact rk_X12_init_20
  | i + 21, hi => exact absurd hi (by omega)
end
section
/-! the same runner, its rows taken by the recursors themselves -/
abbrev RStep : Type := ROld → RFacts → (Nat → List Value → RHeap → Option RRes) → RInf → (List RRow → RLoc → List Value → RHeap → Option RRes) → Nat → Nat → List Nat → List RRow → RLoc → List Value → RHeap → Option RRes
noncomputable def rf_tl {α : Type} (l : List α) : List α := List.rec (motive := fun _ => List α) [] (fun _ t _ => t) l
noncomputable def rf_dr {α : Type} (l : List α) (k : Nat) : List α := Nat.rec (motive := fun _ => List α) l (fun _ ih => rf_tl ih) k
noncomputable def rf_nth {α : Type} (l : List α) (k : Nat) : Option α := List.rec (motive := fun _ => Option α) none (fun a _ _ => some a) (rf_dr l k)
theorem rf_dr_nil {α : Type} (k : Nat) : rf_dr ([] : List α) k = [] := by
  induction k with
  | zero => rfl
  | succ k ih => show rf_tl (rf_dr [] k) = []; rw [ih]; rfl
theorem rf_dr_cons {α : Type} (a : α) (l : List α) (k : Nat) : rf_dr (a :: l) (k + 1) = rf_dr l k := by
  induction k with
  | zero => rfl
  | succ k ih => show rf_tl (rf_dr (a :: l) (k + 1)) = rf_tl (rf_dr l k); rw [ih]
noncomputable def rf_set {α : Type} (l : List α) : Nat → α → List α := List.rec (motive := fun _ => Nat → α → List α) (fun _ _ => []) (fun a t ih k x => Nat.rec (motive := fun _ => List α) (x :: t) (fun k _ => a :: ih k x) k) l
noncomputable def rf_look (l : List (Nat × Value)) : Nat → Option Value := List.rec (motive := fun _ => Nat → Option Value) (fun _ => none) (fun q _ ih i => Bool.rec (motive := fun _ => Option Value) (ih i) (some q.2) (Nat.beq q.1 i)) l
noncomputable def rf_at (l : List RRow) : Nat → List RRow := List.rec (motive := fun _ => Nat → List RRow) (fun _ => []) (fun r t ih pc => Bool.rec (motive := fun _ => List RRow) (ih pc) (r :: t) (Nat.beq r.1 pc)) l
theorem rf_nth_eq : @rf_nth = @rx_nth := by
  funext α l
  induction l with
  | nil => funext k; unfold rf_nth; rw [rf_dr_nil]; rfl
  | cons a l ih =>
    funext k
    cases k with
    | zero => rfl
    | succ k =>
      have h := congrFun ih k
      unfold rf_nth at h ⊢
      rw [rf_dr_cons]
      exact h
theorem rf_set_eq : @rf_set = @List.set := by
  funext α l
  induction l with
  | nil => funext k x; rfl
  | cons a l ih =>
    funext k x
    cases k with
    | zero => rfl
    | succ k => exact congrArg (List.cons a) (congrFun (congrFun ih k) x)
theorem rf_look_eq : rf_look = rx_look := by
  funext l
  induction l with
  | nil => funext i; rfl
  | cons q l ih =>
    funext i
    obtain ⟨j, v⟩ := q
    show Bool.rec (motive := fun _ => Option Value) (rf_look l i) (some v) (Nat.beq j i) = rx_look ((j, v) :: l) i
    rw [congrFun ih i]
    simp only [rx_look]
    cases Nat.beq j i <;> rfl
theorem rf_at_eq : rf_at = rx_at := by
  funext l
  induction l with
  | nil => funext i; rfl
  | cons r l ih =>
    funext pc
    show Bool.rec (motive := fun _ => List RRow) (rf_at l pc) (r :: l) (Nat.beq r.1 pc) = rx_at (r :: l) pc
    rw [congrFun ih pc]
    simp only [rx_at]
    cases Nat.beq r.1 pc <;> rfl
noncomputable def rf_fty (ci f : Nat) : Option FieldType := match rf_nth rc_ftl ci with
  | some l => rf_nth l f
  | none => none
theorem rf_fty_eq : @rf_fty = @rc_fty := by
  unfold rf_fty rc_fty
  simp only [rf_nth_eq, rf_set_eq, rf_look_eq, rf_at_eq] <;> rfl
noncomputable def rf_elt (t : Nat) (u : List (Nat × Value)) (j : Nat) : Value := match rf_look u j with
  | some v => v
  | none => rx_dv t
theorem rf_elt_eq : @rf_elt = @rx_elt := by
  unfold rf_elt rx_elt
  simp only [rf_nth_eq, rf_set_eq, rf_look_eq, rf_at_eq, rf_fty_eq] <;> rfl
noncomputable def rf_ald (O : ROld) (q : Nat → Bool) (st : List Value) (h : RHeap) (k : List Value → Option RRes) : Option RRes := match st with
  | .int i :: .ref a :: r => match rx_old a with
    | true => match rx_oldA O.2 (a - 1000000) with
      | some (t, l) => match q t, decide (i < 0) with
        | true, false => match rf_nth l i.toNatClampNeg with
          | some v => k (v :: r)
          | none => none
        | _, _ => none
      | none => none
    | false => match rf_nth h a with
      | some (.inl (t, n, u)) => match q t, decide (i < 0), Nat.blt i.toNatClampNeg n with
        | true, false, true => k (rf_elt t u i.toNatClampNeg :: r)
        | _, _, _ => none
      | _ => none
  | _ => none
theorem rf_ald_eq : @rf_ald = @rx_ald := by
  unfold rf_ald rx_ald
  simp only [rf_nth_eq, rf_set_eq, rf_look_eq, rf_at_eq, rf_fty_eq, rf_elt_eq] <;> rfl
noncomputable def rf_ast (q : Nat → Bool) (f : Nat → Value → Option Value) (st : List Value) (h : RHeap) (k : List Value → RHeap → Option RRes) : Option RRes := match st with
  | v :: .int i :: .ref a :: r => match rf_nth h a with
    | some (.inl (t, n, u)) => match q t && Nat.blt a 1000000, decide (i < 0), Nat.blt i.toNatClampNeg n, f t v with
      | true, false, true, some w => rx_lit i.toNatClampNeg (fun j => k r (rf_set h a (.inl (t, n, (j, w) :: u))))
      | _, _, _, _ => none
    | _ => none
  | _ => none
theorem rf_ast_eq : @rf_ast = @rx_ast := by
  unfold rf_ast rx_ast
  simp only [rf_nth_eq, rf_set_eq, rf_look_eq, rf_at_eq, rf_fty_eq, rf_elt_eq, rf_ald_eq] <;> rfl
noncomputable def rf_len (O : ROld) (st : List Value) (h : RHeap) (k : List Value → Option RRes) : Option RRes := match st with
  | .ref a :: r => match rx_old a with
    | true => match rx_oldA O.2 (a - 1000000) with
      | some (_, l) => k (.int (Int32.ofNat l.length) :: r)
      | none => none
    | false => match rf_nth h a with
      | some (.inl (_, n, _)) => k (.int (Int32.ofNat n) :: r)
      | _ => none
  | _ => none
theorem rf_len_eq : @rf_len = @rx_len := by
  unfold rf_len rx_len
  simp only [rf_nth_eq, rf_set_eq, rf_look_eq, rf_at_eq, rf_fty_eq, rf_elt_eq, rf_ald_eq, rf_ast_eq] <;> rfl
noncomputable def rf_gf (O : ROld) (ci f : Nat) (st : List Value) (h : RHeap) (k : List Value → Option RRes) : Option RRes := match st with
  | .ref a :: r => match rx_old a with
    | true => match rx_oldF O.1 (a - 1000000) ci f with
      | some v => k (v :: r)
      | none => none
    | false => match rf_nth h a with
      | some (.inr (c, fs)) => match Nat.beq c ci, rf_nth fs f with
        | true, some v => k (v :: r)
        | _, _ => none
      | _ => none
  | _ => none
theorem rf_gf_eq : @rf_gf = @rx_gf := by
  unfold rf_gf rx_gf
  simp only [rf_nth_eq, rf_set_eq, rf_look_eq, rf_at_eq, rf_fty_eq, rf_elt_eq, rf_ald_eq, rf_ast_eq, rf_len_eq] <;> rfl
noncomputable def rf_pf (ty : Option FieldType) (ci f : Nat) (st : List Value) (h : RHeap) (k : List Value → RHeap → Option RRes) : Option RRes := match st with
  | v :: .ref a :: r => match rf_nth h a, ty with
    | some (.inr (c, fs)), some ty => match Nat.beq c ci, rx_fit ty v, Nat.blt f fs.length && Nat.blt a 1000000 with
      | true, true, true => k r (rf_set h a (.inr (c, rf_set fs f v)))
      | _, _, _ => none
    | _, _ => none
  | _ => none
theorem rf_pf_eq : @rf_pf = @rx_pf := by
  unfold rf_pf rx_pf
  simp only [rf_nth_eq, rf_set_eq, rf_look_eq, rf_at_eq, rf_fty_eq, rf_elt_eq, rf_ald_eq, rf_ast_eq, rf_len_eq, rf_gf_eq] <;> rfl
noncomputable def rf_ld (q : Value → Bool) (la : RLoc) (i : Nat) (st : List Value) (k : List Value → Option RRes) : Option RRes := match rf_look la i with
  | some v => match q v with
    | true => k (v :: st)
    | false => none
  | none => none
theorem rf_ld_eq : @rf_ld = @rx_ld := by
  unfold rf_ld rx_ld
  simp only [rf_nth_eq, rf_set_eq, rf_look_eq, rf_at_eq, rf_fty_eq, rf_elt_eq, rf_ald_eq, rf_ast_eq, rf_len_eq, rf_gf_eq, rf_pf_eq] <;> rfl
noncomputable def rf_to (rows : List RRow) (t : Nat) (k : List RRow → Option RRes) : Option RRes := match rf_at rows t with
  | r :: z => k (r :: z)
  | [] => none
theorem rf_to_eq : @rf_to = @rx_to := by
  unfold rf_to rx_to
  simp only [rf_nth_eq, rf_set_eq, rf_look_eq, rf_at_eq, rf_fty_eq, rf_elt_eq, rf_ald_eq, rf_ast_eq, rf_len_eq, rf_gf_eq, rf_pf_eq, rf_ld_eq] <;> rfl
noncomputable def rf_go (rows : List RRow) (pc : Nat) (off : Int) (k : List RRow → Option RRes) : Option RRes := match rx_tok pc off with
  | true => rf_to rows (rx_tgt pc off) k
  | false => none
theorem rf_go_eq : @rf_go = @rx_go := by
  unfold rf_go rx_go
  simp only [rf_nth_eq, rf_set_eq, rf_look_eq, rf_at_eq, rf_fty_eq, rf_elt_eq, rf_ald_eq, rf_ast_eq, rf_len_eq, rf_gf_eq, rf_pf_eq, rf_ld_eq, rf_to_eq] <;> rfl
noncomputable def rf_aast (st : List Value) (h : RHeap) (k : List Value → RHeap → Option RRes) : Option RRes := match st with
  | v :: .int i :: .ref a :: r => match rf_nth h a with
    | some (.inl (t, n, u)) => match decide (i < 0), Nat.blt i.toNatClampNeg n, v with
      | false, true, .null => match Nat.ble 4 t && Nat.blt a 1000000 with
        | true => rx_lit i.toNatClampNeg (fun j => k r (rf_set h a (.inl (t, n, (j, v) :: u))))
        | false => none
      | false, true, .ref b => match rf_nth h b, rf_nth rc_arc t with
        | some (.inr (ci, _)), some c => match Nat.beq ci c, Nat.ble 4 t && Nat.blt a 1000000 && Nat.blt b 1000000 with
          | true, true => rx_lit i.toNatClampNeg (fun j => k r (rf_set h a (.inl (t, n, (j, v) :: u))))
          | _, _ => none
        | _, _ => none
      | _, _, _ => none
    | _ => none
  | _ => none
theorem rf_aast_eq : @rf_aast = @rx_aast := by
  unfold rf_aast rx_aast
  simp only [rf_nth_eq, rf_set_eq, rf_look_eq, rf_at_eq, rf_fty_eq, rf_elt_eq, rf_ald_eq, rf_ast_eq, rf_len_eq, rf_gf_eq, rf_pf_eq, rf_ld_eq, rf_to_eq, rf_go_eq] <;> rfl
noncomputable def rf_new (ci : Nat) (st : List Value) (h : RHeap) (k : List Value → RHeap → Option RRes) : Option RRes := match rf_nth rc_dfl ci with
  | some fs => match Nat.blt h.length 1000000 with
    | true => rx_more 1 fs.length (k (.ref h.length :: st) (h ++ [.inr (ci, fs)]))
    | false => none
  | none => none
theorem rf_new_eq : @rf_new = @rx_new := by
  unfold rf_new rx_new
  simp only [rf_nth_eq, rf_set_eq, rf_look_eq, rf_at_eq, rf_fty_eq, rf_elt_eq, rf_ald_eq, rf_ast_eq, rf_len_eq, rf_gf_eq, rf_pf_eq, rf_ld_eq, rf_to_eq, rf_go_eq, rf_aast_eq] <;> rfl
noncomputable def rf_inc (nL : Nat) (la : RLoc) (i : Nat) (n : Int) (k : RLoc → Option RRes) : Option RRes := match rf_look la i with
  | some (.int x) => match Nat.blt i nL with
    | true => k (rx_lst la i (.int (x + Int32.ofInt n)))
    | false => none
  | _ => none
theorem rf_inc_eq : @rf_inc = @rx_inc := by
  unfold rf_inc rx_inc
  simp only [rf_nth_eq, rf_set_eq, rf_look_eq, rf_at_eq, rf_fty_eq, rf_elt_eq, rf_ald_eq, rf_ast_eq, rf_len_eq, rf_gf_eq, rf_pf_eq, rf_ld_eq, rf_to_eq, rf_go_eq, rf_aast_eq, rf_new_eq] <;> rfl
noncomputable def rf_recv (O : ROld) (ci : Nat) (h : RHeap) : Value → Bool
  | .ref a => match rx_old a with
    | true => match rx_oldF O.1 (a - 1000000) ci 0 with
      | some _ => true
      | none => false
    | false => match rf_nth h a with
      | some (.inr (c, _)) => Nat.beq c ci
      | _ => false
  | _ => false
theorem rf_recv_eq : @rf_recv = @rx_recv := by
  unfold rf_recv rx_recv
  simp only [rf_nth_eq, rf_set_eq, rf_look_eq, rf_at_eq, rf_fty_eq, rf_elt_eq, rf_ald_eq, rf_ast_eq, rf_len_eq, rf_gf_eq, rf_pf_eq, rf_ld_eq, rf_to_eq, rf_go_eq, rf_aast_eq, rf_new_eq, rf_inc_eq] <;> rfl
noncomputable def rf_inv (O : ROld) (C : Nat → List Value → RHeap → Option RRes) (st : List Value) (h : RHeap) (mi n ci : Nat) (kind : Nat) (k : List Value → Option RRes → Option RRes) : Option RRes := match rx_take n [] st with
  | some (as, r) => match kind with
    | 0 => match Nat.ble (rx_cats r) 8 with
      | true => k r (C mi as h)
      | false => none
    | _ => match r with
      | b :: r => match Nat.ble (rx_cats r) 8, rf_recv O ci h b with
        | true, true => k r (C mi (b :: as) h)
        | _, _ => none
      | [] => none
  | none => none
theorem rf_inv_eq : @rf_inv = @rx_inv := by
  unfold rf_inv rx_inv
  simp only [rf_nth_eq, rf_set_eq, rf_look_eq, rf_at_eq, rf_fty_eq, rf_elt_eq, rf_ald_eq, rf_ast_eq, rf_len_eq, rf_gf_eq, rf_pf_eq, rf_ld_eq, rf_to_eq, rf_go_eq, rf_aast_eq, rf_new_eq, rf_inc_eq, rf_recv_eq] <;> rfl
noncomputable def rf_tsw (F : RFact) (rows : List RRow) (pc : Nat) (dflt lo hi : Int) (offs : Array Int) (st : List Value) (k : List RRow → List Value → Option RRes) : Option RRes := match st with
  | .int x :: r => match decide (x.toInt < lo), decide (hi < x.toInt) with
    | false, false => match rf_nth offs.toList (x.toInt - lo).toNat with
      | some off => rf_go rows pc off (fun z => k z r)
      | none => none
    | _, _ => rf_go rows pc dflt (fun z => k z r)
  | .float i :: r => match decide (i = 0), rx_fact F i .lt (Int32.ofInt lo), rx_fact F i .gt (Int32.ofInt hi), decide ((Int32.ofInt lo).toInt = lo), decide ((Int32.ofInt hi).toInt = hi) with
    | false, some true, _, true, _ => rf_go rows pc dflt (fun z => k z r)
    | false, _, some true, _, true => rf_go rows pc dflt (fun z => k z r)
    | _, _, _, _, _ => none
  | _ => none
theorem rf_tsw_eq : @rf_tsw = @rx_tsw := by
  unfold rf_tsw rx_tsw
  simp only [rf_nth_eq, rf_set_eq, rf_look_eq, rf_at_eq, rf_fty_eq, rf_elt_eq, rf_ald_eq, rf_ast_eq, rf_len_eq, rf_gf_eq, rf_pf_eq, rf_ld_eq, rf_to_eq, rf_go_eq, rf_aast_eq, rf_new_eq, rf_inc_eq, rf_recv_eq, rf_inv_eq] <;> rfl
noncomputable def rf_cp0 (st : List Value) (h : RHeap) (k : List Value → Option RRes) : Option RRes := match st with
  | .int n :: .int dp :: .ref a :: .int sp :: .ref b :: r => match decide (n = 0), decide (dp = 0), decide (sp = 0), Nat.blt a 1000000 && Nat.blt b 1000000 && Nat.ble (rx_cats r) 8, rf_nth h a, rf_nth h b with
    | true, true, true, true, some (.inl (2, _, _)), some (.inl (2, _, _)) => k r
    | _, _, _, _, _, _ => none
  | _ => none
theorem rf_cp0_eq : @rf_cp0 = @rx_cp0 := by
  unfold rf_cp0 rx_cp0
  simp only [rf_nth_eq, rf_set_eq, rf_look_eq, rf_at_eq, rf_fty_eq, rf_elt_eq, rf_ald_eq, rf_ast_eq, rf_len_eq, rf_gf_eq, rf_pf_eq, rf_ld_eq, rf_to_eq, rf_go_eq, rf_aast_eq, rf_new_eq, rf_inc_eq, rf_recv_eq, rf_inv_eq, rf_tsw_eq] <;> rfl
noncomputable def rf_one (i : Instr) : RStep := Instr.rec (motive := fun _ => RStep)
  (fun O F C I k pc len aux rest la st h => rf_ald O (fun t => Nat.ble 4 t) st h (fun st => rx_nx k rest (pc + len) la st h))
  (fun O F C I k pc len aux rest la st h => rf_aast st h (fun st h => rx_nx k rest (pc + len) la st h))
  (fun O F C I k pc len aux rest la st h => rx_nx k rest (pc + len) la (.null :: st) h)
  (fun n O F C I k pc len aux rest la st h => rf_ld rx_isA la n st (fun st => rx_nx k rest (pc + len) la st h))
  (fun n O F C I k pc len aux rest la st h => rf_ld rx_isA la n st (fun st => rx_nx k rest (pc + len) la st h))
  (fun _ O F C I k pc len aux rest la st h => match aux with
      | [t, _] => rx_newa t st h (fun st h => rx_nx k rest (pc + len) la st h)
      | _ => none)
  (fun O F C I k pc len aux rest la st h => match st, I.2.1 with
      | [v], 6 => match rx_isA v with
        | true => some (.inl (some v), h, 0, 0)
        | false => none
      | _, _ => none)
  (fun O F C I k pc len aux rest la st h => rf_len O st h (fun st => rx_nx k rest (pc + len) la st h))
  (fun n O F C I k pc len aux rest la st h => rx_str rx_isA I.1 la n st (fun la st => rx_nx k rest (pc + len) la st h))
  (fun n O F C I k pc len aux rest la st h => rx_str rx_isA I.1 la n st (fun la st => rx_nx k rest (pc + len) la st h))
  (fun _ _ _ _ _ _ _ _ _ _ _ _ => none)
  (fun O F C I k pc len aux rest la st h => rf_ald O (fun t => Nat.beq t 2 || Nat.beq t 3) st h (fun st => rx_nx k rest (pc + len) la st h))
  (fun O F C I k pc len aux rest la st h => rf_ast (fun t => Nat.beq t 2 || Nat.beq t 3) (fun t v => match rx_isI v with | true => some (rx_iu (vp_nar (match t with | 2 => .byte | _ => .boolean)) v) | false => none) st h (fun st h => rx_nx k rest (pc + len) la st h))
  (fun n O F C I k pc len aux rest la st h => rx_nx k rest (pc + len) la (.int (Int8.ofInt n).toInt32 :: st) h)
  (fun _ _ _ _ _ _ _ _ _ _ _ _ => none)
  (fun _ _ _ _ _ _ _ _ _ _ _ _ => none)
  (fun _ _ _ _ _ _ _ _ _ _ _ _ _ => none)
  (fun _ _ _ _ _ _ _ _ _ _ _ _ => none)
  (fun _ _ _ _ _ _ _ _ _ _ _ _ => none)
  (fun _ _ _ _ _ _ _ _ _ _ _ _ => none)
  (fun _ _ _ _ _ _ _ _ _ _ _ _ => none)
  (fun _ _ _ _ _ _ _ _ _ _ _ _ => none)
  (fun _ _ _ _ _ _ _ _ _ _ _ _ => none)
  (fun _ _ _ _ _ _ _ _ _ _ _ _ _ => none)
  (fun _ _ _ _ _ _ _ _ _ _ _ _ _ => none)
  (fun _ _ _ _ _ _ _ _ _ _ _ _ => none)
  (fun _ _ _ _ _ _ _ _ _ _ _ _ _ => none)
  (fun _ _ _ _ _ _ _ _ _ _ _ _ _ => none)
  (fun _ _ _ _ _ _ _ _ _ _ _ _ => none)
  (fun _ _ _ _ _ _ _ _ _ _ _ _ => none)
  (fun _ _ _ _ _ _ _ _ _ _ _ _ => none)
  (fun _ _ _ _ _ _ _ _ _ _ _ _ => none)
  (fun _ _ _ _ _ _ _ _ _ _ _ _ _ => none)
  (fun _ _ _ _ _ _ _ _ _ _ _ _ _ => none)
  (fun _ _ _ _ _ _ _ _ _ _ _ _ => none)
  (fun O F C I k pc len aux rest la st h => rx_dup st (fun st => rx_nx k rest (pc + len) la st h))
  (fun O F C I k pc len aux rest la st h => rx_dupx1 st (fun st => rx_nx k rest (pc + len) la st h))
  (fun _ _ _ _ _ _ _ _ _ _ _ _ => none)
  (fun _ _ _ _ _ _ _ _ _ _ _ _ => none)
  (fun _ _ _ _ _ _ _ _ _ _ _ _ => none)
  (fun _ _ _ _ _ _ _ _ _ _ _ _ => none)
  (fun _ _ _ _ _ _ _ _ _ _ _ _ => none)
  (fun _ _ _ _ _ _ _ _ _ _ _ _ => none)
  (fun _ _ _ _ _ _ _ _ _ _ _ _ => none)
  (fun _ _ _ _ _ _ _ _ _ _ _ _ => none)
  (fun _ _ _ _ _ _ _ _ _ _ _ _ => none)
  (fun _ _ _ _ _ _ _ _ _ _ _ _ => none)
  (fun _ _ _ _ _ _ _ _ _ _ _ _ _ => none)
  (fun _ _ _ _ _ _ _ _ _ _ _ _ _ => none)
  (fun _ _ _ _ _ _ _ _ _ _ _ _ => none)
  (fun _ _ _ _ _ _ _ _ _ _ _ _ _ => none)
  (fun _ _ _ _ _ _ _ _ _ _ _ _ _ => none)
  (fun _ _ _ _ _ _ _ _ _ _ _ _ => none)
  (fun _ _ _ _ _ _ _ _ _ _ _ _ => none)
  (fun _ _ _ _ _ _ _ _ _ _ _ _ => none)
  (fun _ _ _ _ _ _ _ _ _ _ _ _ => none)
  (fun _ _ _ _ _ _ _ _ _ _ _ _ _ => none)
  (fun _ _ _ _ _ _ _ _ _ _ _ _ _ => none)
  (fun _ _ _ _ _ _ _ _ _ _ _ _ => none)
  (fun _ O F C I k pc len aux rest la st h => match aux with
      | [ci, f, _] => rf_gf O ci f st h (fun st => rx_nx k rest (pc + len) la st h)
      | _ => none)
  (fun _ O F C I k pc len aux rest la st h => match aux with
      | [0, _] => rx_nx k rest (pc + len) la (.int 1 :: st) h
      | [1, _] => rx_nx k rest (pc + len) la (.ref 2000000 :: st) h
      | _ => none)
  (fun off O F C I k pc len aux rest la st h => rf_go I.2.2.1 pc off (fun z => k z la st h))
  (fun _ _ _ _ _ _ _ _ _ _ _ _ _ => none)
  (fun O F C I k pc len aux rest la st h => rx_b1 (rx_iu (fun x => x.toInt8.toInt32)) rx_isI st (fun st => rx_nx k rest (pc + len) la st h))
  (fun O F C I k pc len aux rest la st h => rx_b1 (rx_iu (fun x => (x.toUInt32 % 65536).toInt32)) rx_isI st (fun st => rx_nx k rest (pc + len) la st h))
  (fun _ _ _ _ _ _ _ _ _ _ _ _ => none)
  (fun _ _ _ _ _ _ _ _ _ _ _ _ => none)
  (fun O F C I k pc len aux rest la st h => rx_b1 rx_i2l rx_isI st (fun st => rx_nx k rest (pc + len) la st h))
  (fun _ _ _ _ _ _ _ _ _ _ _ _ => none)
  (fun O F C I k pc len aux rest la st h => rx_b2 (rx_ib (fun x y => x + y)) rx_isI rx_isI st (fun st => rx_nx k rest (pc + len) la st h))
  (fun O F C I k pc len aux rest la st h => rf_ald O (fun t => Nat.beq t 0) st h (fun st => rx_nx k rest (pc + len) la st h))
  (fun O F C I k pc len aux rest la st h => rx_b2 (rx_iand F.2.1) rx_isI rx_isI st (fun st => rx_nx k rest (pc + len) la st h))
  (fun O F C I k pc len aux rest la st h => rf_ast (fun t => Nat.beq t 0) (fun _ v => match rx_isI v with | true => some v | false => none) st h (fun st h => rx_nx k rest (pc + len) la st h))
  (fun n O F C I k pc len aux rest la st h => rx_nx k rest (pc + len) la (.int (Int32.ofInt n) :: st) h)
  (fun _ _ _ _ _ _ _ _ _ _ _ _ => none)
  (fun _ _ _ _ _ _ _ _ _ _ _ _ _ _ => none)
  (fun c off O F C I k pc len aux rest la st h => match st with
      | b :: a :: r => match rx_isI a, rx_isI b, rx_tok pc off with
        | true, true, true => rx_br (rx_cmp F.1 c a b) (fun _ => rf_to I.2.2.1 (rx_tgt pc off) (fun z => k z la r h)) (fun _ => rx_nx k rest (pc + len) la r h)
        | _, _, _ => none
      | _ => none)
  (fun c off O F C I k pc len aux rest la st h => match st with
      | a :: r => match rx_isI a, rx_tok pc off with
        | true, true => rx_br (rx_cmp F.1 c a (.int 0)) (fun _ => rf_to I.2.2.1 (rx_tgt pc off) (fun z => k z la r h)) (fun _ => rx_nx k rest (pc + len) la r h)
        | _, _ => none
      | _ => none)
  (fun _ _ _ _ _ _ _ _ _ _ _ _ _ => none)
  (fun _ _ _ _ _ _ _ _ _ _ _ _ _ => none)
  (fun n z O F C I k pc len aux rest la st h => rf_inc I.1 la n z (fun la => rx_nx k rest (pc + len) la st h))
  (fun n O F C I k pc len aux rest la st h => rf_ld rx_isI la n st (fun st => rx_nx k rest (pc + len) la st h))
  (fun n O F C I k pc len aux rest la st h => rf_ld rx_isI la n st (fun st => rx_nx k rest (pc + len) la st h))
  (fun O F C I k pc len aux rest la st h => rx_b2 (rx_ib (fun x y => x * y)) rx_isI rx_isI st (fun st => rx_nx k rest (pc + len) la st h))
  (fun O F C I k pc len aux rest la st h => rx_b1 (rx_iu (fun x => -x)) rx_isI st (fun st => rx_nx k rest (pc + len) la st h))
  (fun _ _ _ _ _ _ _ _ _ _ _ _ _ => none)
  (fun _ _ _ _ _ _ _ _ _ _ _ _ _ => none)
  (fun _ _ _ _ _ _ _ _ _ _ _ _ _ _ => none)
  (fun _ O F C I k pc len aux rest la st h => match aux with
      | [9999, _] => match st with
        | .ref a :: r => match Nat.ble (rx_cats r) 8, Nat.blt a 2000000 with
          | true, true => rx_nx k rest (pc + len) la r h
          | _, _ => none
        | _ => none
      | [mi, n, ci, _] => rf_inv O C st h mi n ci 1 (fun r o => rx_backN r o (fun st h => rx_nx k rest (pc + len) la st h))
      | _ => none)
  (fun _ O F C I k pc len aux rest la st h => match aux with
      | [8888, _] => rf_cp0 st h (fun st => rx_nx k rest (pc + len) la st h)
      | [mi, n, _] => rf_inv O C st h mi n 0 0 (fun r o => rx_backN r o (fun st h => rx_nx k rest (pc + len) la st h))
      | _ => none)
  (fun _ O F C I k pc len aux rest la st h => match aux with
      | [mi, n, ci, _] => rf_inv O C st h mi n ci 1 (fun r o => rx_back I.2.2.2 pc r o (fun st h => rx_nx k rest (pc + len) la st h) (fun t h => rf_to I.2.2.1 t (fun z => k z la [.ref 2000000] h)))
      | _ => none)
  (fun O F C I k pc len aux rest la st h => rx_b2 (rx_ib (fun x y => x ||| y)) rx_isI rx_isI st (fun st => rx_nx k rest (pc + len) la st h))
  (fun _ _ _ _ _ _ _ _ _ _ _ _ => none)
  (fun O F C I k pc len aux rest la st h => match st, I.2.1 with
      | [.int x], 1 => some (.inl (some (.int x)), h, 0, 0)
      | [.float x], 1 => some (.inl (some (.float x)), h, 0, 0)
      | [.int x], 2 => match decide (narrow .boolean (.int x) = .int x) with
        | true => some (.inl (some (.int x)), h, 0, 0)
        | false => none
      | [.int x], 3 => match decide (narrow .byte (.int x) = .int x) with
        | true => some (.inl (some (.int x)), h, 0, 0)
        | false => none
      | [.int x], 4 => match decide (narrow .char (.int x) = .int x) with
        | true => some (.inl (some (.int x)), h, 0, 0)
        | false => none
      | _, _ => none)
  (fun O F C I k pc len aux rest la st h => rx_b2 (rx_ib (fun x y => x <<< (y &&& 31))) rx_isI rx_isI st (fun st => rx_nx k rest (pc + len) la st h))
  (fun O F C I k pc len aux rest la st h => rx_b2 (rx_ib (fun x y => x >>> (y &&& 31))) rx_isI rx_isI st (fun st => rx_nx k rest (pc + len) la st h))
  (fun n O F C I k pc len aux rest la st h => rx_str rx_isI I.1 la n st (fun la st => rx_nx k rest (pc + len) la st h))
  (fun n O F C I k pc len aux rest la st h => rx_str rx_isI I.1 la n st (fun la st => rx_nx k rest (pc + len) la st h))
  (fun O F C I k pc len aux rest la st h => rx_b2 (rx_ib (fun x y => x - y)) rx_isI rx_isI st (fun st => rx_nx k rest (pc + len) la st h))
  (fun _ _ _ _ _ _ _ _ _ _ _ _ => none)
  (fun _ _ _ _ _ _ _ _ _ _ _ _ => none)
  (fun _ _ _ _ _ _ _ _ _ _ _ _ _ => none)
  (fun _ _ _ _ _ _ _ _ _ _ _ _ _ => none)
  (fun _ _ _ _ _ _ _ _ _ _ _ _ => none)
  (fun _ _ _ _ _ _ _ _ _ _ _ _ => none)
  (fun O F C I k pc len aux rest la st h => rx_b1 rx_l2i rx_isL st (fun st => rx_nx k rest (pc + len) la st h))
  (fun O F C I k pc len aux rest la st h => rx_b2 rx_ladd rx_isL rx_isL st (fun st => rx_nx k rest (pc + len) la st h))
  (fun O F C I k pc len aux rest la st h => rf_ald O (fun t => Nat.beq t 1) st h (fun st => rx_nx k rest (pc + len) la st h))
  (fun O F C I k pc len aux rest la st h => rx_b2 (rx_lb (fun x y => x &&& y)) rx_isL rx_isL st (fun st => rx_nx k rest (pc + len) la st h))
  (fun O F C I k pc len aux rest la st h => rf_ast (fun t => Nat.beq t 1) (fun _ v => match rx_isL v with | true => some v | false => none) st h (fun st h => rx_nx k rest (pc + len) la st h))
  (fun O F C I k pc len aux rest la st h => rx_b2 (rx_lcA F.2.2) rx_isL rx_isL st (fun st => rx_nx k rest (pc + len) la st h))
  (fun n O F C I k pc len aux rest la st h => rx_nx k rest (pc + len) la (.long (Int64.ofNat (n : Nat)) :: st) h)
  (fun _ O F C I k pc len aux rest la st h => match aux with
      | [0, v, _] => rx_nx k rest (pc + len) la (.int (Int32.ofNat v) :: st) h
      | [1, j, _] => rx_nx k rest (pc + len) la (.ref (1000000 + j) :: st) h
      | _ => none)
  (fun _ _ _ _ _ _ _ _ _ _ _ _ _ => none)
  (fun _ O F C I k pc len aux rest la st h => match aux with
      | [v, _] => rx_nx k rest (pc + len) la (.long (Int64.ofNat v) :: st) h
      | _ => none)
  (fun _ _ _ _ _ _ _ _ _ _ _ _ => none)
  (fun n O F C I k pc len aux rest la st h => rf_ld rx_isL la n st (fun st => rx_nx k rest (pc + len) la st h))
  (fun n O F C I k pc len aux rest la st h => rf_ld rx_isL la n st (fun st => rx_nx k rest (pc + len) la st h))
  (fun O F C I k pc len aux rest la st h => rx_b2 (rx_lb (fun x y => x * y)) rx_isL rx_isL st (fun st => rx_nx k rest (pc + len) la st h))
  (fun _ _ _ _ _ _ _ _ _ _ _ _ => none)
  (fun _ _ _ _ _ _ _ _ _ _ _ _ _ _ => none)
  (fun O F C I k pc len aux rest la st h => rx_b2 (rx_lb (fun x y => x ||| y)) rx_isL rx_isL st (fun st => rx_nx k rest (pc + len) la st h))
  (fun _ _ _ _ _ _ _ _ _ _ _ _ => none)
  (fun O F C I k pc len aux rest la st h => match st, I.2.1 with
      | [v], 5 => match rx_isL v with
        | true => some (.inl (some v), h, 0, 0)
        | false => none
      | _, _ => none)
  (fun O F C I k pc len aux rest la st h => rx_b2 (rx_ls (fun x y => x <<< (y.toInt64 &&& 63))) rx_isL rx_isI st (fun st => rx_nx k rest (pc + len) la st h))
  (fun O F C I k pc len aux rest la st h => rx_b2 (rx_ls (fun x y => x >>> (y.toInt64 &&& 63))) rx_isL rx_isI st (fun st => rx_nx k rest (pc + len) la st h))
  (fun n O F C I k pc len aux rest la st h => rx_str2 rx_isL I.1 la n st (fun la st => rx_nx k rest (pc + len) la st h))
  (fun n O F C I k pc len aux rest la st h => rx_str2 rx_isL I.1 la n st (fun la st => rx_nx k rest (pc + len) la st h))
  (fun O F C I k pc len aux rest la st h => rx_b2 (rx_lb (fun x y => x - y)) rx_isL rx_isL st (fun st => rx_nx k rest (pc + len) la st h))
  (fun O F C I k pc len aux rest la st h => rx_b2 (rx_ls (fun x y => (x.toUInt64 >>> (y.toInt64.toUInt64 &&& Int64.toUInt64 63)).toInt64)) rx_isL rx_isI st (fun st => rx_nx k rest (pc + len) la st h))
  (fun _ _ _ _ _ _ _ _ _ _ _ _ => none)
  (fun _ _ _ _ _ _ _ _ _ _ _ _ => none)
  (fun _ _ _ _ _ _ _ _ _ _ _ _ => none)
  (fun _ _ _ _ _ _ _ _ _ _ _ _ _ _ => none)
  (fun _ O F C I k pc len aux rest la st h => match aux with
      | [7777, E, _] => match I.2.2.2, st with
        | [], [] => some (.inr E, h, 1, 6)
        | _, _ => none
      | [ci, _] => rf_new ci st h (fun st h => rx_nx k rest (pc + len) la st h)
      | _ => none)
  (fun _ O F C I k pc len aux rest la st h => match aux with
      | [t] => rx_newa t st h (fun st h => rx_nx k rest (pc + len) la st h)
      | _ => none)
  (fun _ _ _ _ _ _ _ _ _ _ _ _ => none)
  (fun O F C I k pc len aux rest la st h => rx_pop st (fun st => rx_nx k rest (pc + len) la st h))
  (fun _ _ _ _ _ _ _ _ _ _ _ _ => none)
  (fun _ O F C I k pc len aux rest la st h => match aux with
      | [ci, f, _] => rf_pf (rf_fty ci f) ci f st h (fun st h => rx_nx k rest (pc + len) la st h)
      | _ => none)
  (fun _ _ _ _ _ _ _ _ _ _ _ _ _ => none)
  (fun _ _ _ _ _ _ _ _ _ _ _ _ _ => none)
  (fun O F C I k pc len aux rest la st h => match st, I.2.1 with
      | [], 0 => some (.inl none, h, 0, 0)
      | _, _ => none)
  (fun _ _ _ _ _ _ _ _ _ _ _ _ => none)
  (fun _ _ _ _ _ _ _ _ _ _ _ _ => none)
  (fun n O F C I k pc len aux rest la st h => rx_nx k rest (pc + len) la (.int (Int16.ofInt n).toInt32 :: st) h)
  (fun _ _ _ _ _ _ _ _ _ _ _ _ => none)
  (fun d lo hi offs O F C I k pc len aux rest la st h => rf_tsw F.1 I.2.2.1 pc d lo hi offs st (fun z st => k z la st h)) i
theorem rf_one_eq (i : Instr) (O : ROld) (F : RFacts) (C : Nat → List Value → RHeap → Option RRes) (I : RInf) (k : List RRow → RLoc → List Value → RHeap → Option RRes) (pc len : Nat) (aux : List Nat) (rest : List RRow) (la : RLoc) (st : List Value) (h : RHeap) : rf_one i O F C I k pc len aux rest la st h = rx_one O F C I k pc i len aux rest la st h := match i with
  | .aaload =>
    have h9 : ((rf_ald O (fun t => Nat.ble 4 t) st h (fun st => rx_nx k rest (pc + len) la st h)) : Option RRes) = (rx_ald O (fun t => Nat.ble 4 t) st h (fun st => rx_nx k rest (pc + len) la st h)) := by simp only [rf_ald_eq]
    h9
  | .aastore =>
    have h9 : ((rf_aast st h (fun st h => rx_nx k rest (pc + len) la st h)) : Option RRes) = (rx_aast st h (fun st h => rx_nx k rest (pc + len) la st h)) := by simp only [rf_aast_eq]
    h9
  | .aconst_null => rfl
  | .aload n =>
    have h9 : ((rf_ld rx_isA la n st (fun st => rx_nx k rest (pc + len) la st h)) : Option RRes) = (rx_ld rx_isA la n st (fun st => rx_nx k rest (pc + len) la st h)) := by simp only [rf_ld_eq]
    h9
  | .aload_n n =>
    have h9 : ((rf_ld rx_isA la n st (fun st => rx_nx k rest (pc + len) la st h)) : Option RRes) = (rx_ld rx_isA la n st (fun st => rx_nx k rest (pc + len) la st h)) := by simp only [rf_ld_eq]
    h9
  | .anewarray _ => rfl
  | .areturn => rfl
  | .arraylength =>
    have h9 : ((rf_len O st h (fun st => rx_nx k rest (pc + len) la st h)) : Option RRes) = (rx_len O st h (fun st => rx_nx k rest (pc + len) la st h)) := by simp only [rf_len_eq]
    h9
  | .astore n => rfl
  | .astore_n n => rfl
  | .athrow => rfl
  | .baload =>
    have h9 : ((rf_ald O (fun t => Nat.beq t 2 || Nat.beq t 3) st h (fun st => rx_nx k rest (pc + len) la st h)) : Option RRes) = (rx_ald O (fun t => Nat.beq t 2 || Nat.beq t 3) st h (fun st => rx_nx k rest (pc + len) la st h)) := by simp only [rf_ald_eq]
    h9
  | .bastore =>
    have h9 : ((rf_ast (fun t => Nat.beq t 2 || Nat.beq t 3) (fun t v => match rx_isI v with | true => some (rx_iu (vp_nar (match t with | 2 => .byte | _ => .boolean)) v) | false => none) st h (fun st h => rx_nx k rest (pc + len) la st h)) : Option RRes) = (rx_ast (fun t => Nat.beq t 2 || Nat.beq t 3) (fun t v => match rx_isI v with | true => some (rx_iu (vp_nar (match t with | 2 => .byte | _ => .boolean)) v) | false => none) st h (fun st h => rx_nx k rest (pc + len) la st h)) := by simp only [rf_ast_eq]
    h9
  | .bipush n => rfl
  | .caload => rfl
  | .castore => rfl
  | .checkcast _ => rfl
  | .d2f => rfl
  | .d2i => rfl
  | .d2l => rfl
  | .dadd => rfl
  | .daload => rfl
  | .dastore => rfl
  | .dcmp _ => rfl
  | .dconst _ => rfl
  | .ddiv => rfl
  | .dload _ => rfl
  | .dload_n _ => rfl
  | .dmul => rfl
  | .dneg => rfl
  | .drem => rfl
  | .dreturn => rfl
  | .dstore _ => rfl
  | .dstore_n _ => rfl
  | .dsub => rfl
  | .dup => rfl
  | .dup_x1 => rfl
  | .dup_x2 => rfl
  | .dup2 => rfl
  | .dup2_x1 => rfl
  | .dup2_x2 => rfl
  | .f2d => rfl
  | .f2i => rfl
  | .f2l => rfl
  | .fadd => rfl
  | .faload => rfl
  | .fastore => rfl
  | .fcmp _ => rfl
  | .fconst _ => rfl
  | .fdiv => rfl
  | .fload _ => rfl
  | .fload_n _ => rfl
  | .fmul => rfl
  | .fneg => rfl
  | .frem => rfl
  | .freturn => rfl
  | .fstore _ => rfl
  | .fstore_n _ => rfl
  | .fsub => rfl
  | .getfield _ =>
    have h9 : ((match aux with
        | [ci, f, _] => rf_gf O ci f st h (fun st => rx_nx k rest (pc + len) la st h)
        | _ => none) : Option RRes) = (match aux with
        | [ci, f, _] => rx_gf O ci f st h (fun st => rx_nx k rest (pc + len) la st h)
        | _ => none) := by simp only [rf_gf_eq]
    h9
  | .getstatic _ => rfl
  | .goto off =>
    have h9 : ((rf_go I.2.2.1 pc off (fun z => k z la st h)) : Option RRes) = (rx_go I.2.2.1 pc off (fun z => k z la st h)) := by simp only [rf_go_eq]
    h9
  | .goto_w _ => rfl
  | .i2b => rfl
  | .i2c => rfl
  | .i2d => rfl
  | .i2f => rfl
  | .i2l => rfl
  | .i2s => rfl
  | .iadd => rfl
  | .iaload =>
    have h9 : ((rf_ald O (fun t => Nat.beq t 0) st h (fun st => rx_nx k rest (pc + len) la st h)) : Option RRes) = (rx_ald O (fun t => Nat.beq t 0) st h (fun st => rx_nx k rest (pc + len) la st h)) := by simp only [rf_ald_eq]
    h9
  | .iand => rfl
  | .iastore =>
    have h9 : ((rf_ast (fun t => Nat.beq t 0) (fun _ v => match rx_isI v with | true => some v | false => none) st h (fun st h => rx_nx k rest (pc + len) la st h)) : Option RRes) = (rx_ast (fun t => Nat.beq t 0) (fun _ v => match rx_isI v with | true => some v | false => none) st h (fun st h => rx_nx k rest (pc + len) la st h)) := by simp only [rf_ast_eq]
    h9
  | .iconst n => rfl
  | .idiv => rfl
  | .if_acmp _ _ => rfl
  | .if_icmp c off =>
    have h9 : ((match st with
        | b :: a :: r => match rx_isI a, rx_isI b, rx_tok pc off with
          | true, true, true => rx_br (rx_cmp F.1 c a b) (fun _ => rf_to I.2.2.1 (rx_tgt pc off) (fun z => k z la r h)) (fun _ => rx_nx k rest (pc + len) la r h)
          | _, _, _ => none
        | _ => none) : Option RRes) = (match st with
        | b :: a :: r => match rx_isI a, rx_isI b, rx_tok pc off with
          | true, true, true => rx_br (rx_cmp F.1 c a b) (fun _ => rx_to I.2.2.1 (rx_tgt pc off) (fun z => k z la r h)) (fun _ => rx_nx k rest (pc + len) la r h)
          | _, _, _ => none
        | _ => none) := by simp only [rf_to_eq]
    h9
  | .ifCond c off =>
    have h9 : ((match st with
        | a :: r => match rx_isI a, rx_tok pc off with
          | true, true => rx_br (rx_cmp F.1 c a (.int 0)) (fun _ => rf_to I.2.2.1 (rx_tgt pc off) (fun z => k z la r h)) (fun _ => rx_nx k rest (pc + len) la r h)
          | _, _ => none
        | _ => none) : Option RRes) = (match st with
        | a :: r => match rx_isI a, rx_tok pc off with
          | true, true => rx_br (rx_cmp F.1 c a (.int 0)) (fun _ => rx_to I.2.2.1 (rx_tgt pc off) (fun z => k z la r h)) (fun _ => rx_nx k rest (pc + len) la r h)
          | _, _ => none
        | _ => none) := by simp only [rf_to_eq]
    h9
  | .ifnonnull _ => rfl
  | .ifnull _ => rfl
  | .iinc n z =>
    have h9 : ((rf_inc I.1 la n z (fun la => rx_nx k rest (pc + len) la st h)) : Option RRes) = (rx_inc I.1 la n z (fun la => rx_nx k rest (pc + len) la st h)) := by simp only [rf_inc_eq]
    h9
  | .iload n =>
    have h9 : ((rf_ld rx_isI la n st (fun st => rx_nx k rest (pc + len) la st h)) : Option RRes) = (rx_ld rx_isI la n st (fun st => rx_nx k rest (pc + len) la st h)) := by simp only [rf_ld_eq]
    h9
  | .iload_n n =>
    have h9 : ((rf_ld rx_isI la n st (fun st => rx_nx k rest (pc + len) la st h)) : Option RRes) = (rx_ld rx_isI la n st (fun st => rx_nx k rest (pc + len) la st h)) := by simp only [rf_ld_eq]
    h9
  | .imul => rfl
  | .ineg => rfl
  | .instanceof _ => rfl
  | .invokedynamic _ => rfl
  | .invokeinterface _ _ => rfl
  | .invokespecial _ =>
    have h9 : ((match aux with
        | [9999, _] => match st with
          | .ref a :: r => match Nat.ble (rx_cats r) 8, Nat.blt a 2000000 with
            | true, true => rx_nx k rest (pc + len) la r h
            | _, _ => none
          | _ => none
        | [mi, n, ci, _] => rf_inv O C st h mi n ci 1 (fun r o => rx_backN r o (fun st h => rx_nx k rest (pc + len) la st h))
        | _ => none) : Option RRes) = (match aux with
        | [9999, _] => match st with
          | .ref a :: r => match Nat.ble (rx_cats r) 8, Nat.blt a 2000000 with
            | true, true => rx_nx k rest (pc + len) la r h
            | _, _ => none
          | _ => none
        | [mi, n, ci, _] => rx_inv O C st h mi n ci 1 (fun r o => rx_backN r o (fun st h => rx_nx k rest (pc + len) la st h))
        | _ => none) := by simp only [rf_inv_eq]
    h9
  | .invokestatic _ =>
    have h9 : ((match aux with
        | [8888, _] => rf_cp0 st h (fun st => rx_nx k rest (pc + len) la st h)
        | [mi, n, _] => rf_inv O C st h mi n 0 0 (fun r o => rx_backN r o (fun st h => rx_nx k rest (pc + len) la st h))
        | _ => none) : Option RRes) = (match aux with
        | [8888, _] => rx_cp0 st h (fun st => rx_nx k rest (pc + len) la st h)
        | [mi, n, _] => rx_inv O C st h mi n 0 0 (fun r o => rx_backN r o (fun st h => rx_nx k rest (pc + len) la st h))
        | _ => none) := by simp only [rf_inv_eq, rf_cp0_eq]
    h9
  | .invokevirtual _ =>
    have h9 : ((match aux with
        | [mi, n, ci, _] => rf_inv O C st h mi n ci 1 (fun r o => rx_back I.2.2.2 pc r o (fun st h => rx_nx k rest (pc + len) la st h) (fun t h => rf_to I.2.2.1 t (fun z => k z la [.ref 2000000] h)))
        | _ => none) : Option RRes) = (match aux with
        | [mi, n, ci, _] => rx_inv O C st h mi n ci 1 (fun r o => rx_back I.2.2.2 pc r o (fun st h => rx_nx k rest (pc + len) la st h) (fun t h => rx_to I.2.2.1 t (fun z => k z la [.ref 2000000] h)))
        | _ => none) := by simp only [rf_to_eq, rf_inv_eq]
    h9
  | .ior => rfl
  | .irem => rfl
  | .ireturn => rfl
  | .ishl => rfl
  | .ishr => rfl
  | .istore n => rfl
  | .istore_n n => rfl
  | .isub => rfl
  | .iushr => rfl
  | .ixor => rfl
  | .jsr _ => rfl
  | .jsr_w _ => rfl
  | .l2d => rfl
  | .l2f => rfl
  | .l2i => rfl
  | .ladd => rfl
  | .laload =>
    have h9 : ((rf_ald O (fun t => Nat.beq t 1) st h (fun st => rx_nx k rest (pc + len) la st h)) : Option RRes) = (rx_ald O (fun t => Nat.beq t 1) st h (fun st => rx_nx k rest (pc + len) la st h)) := by simp only [rf_ald_eq]
    h9
  | .land => rfl
  | .lastore =>
    have h9 : ((rf_ast (fun t => Nat.beq t 1) (fun _ v => match rx_isL v with | true => some v | false => none) st h (fun st h => rx_nx k rest (pc + len) la st h)) : Option RRes) = (rx_ast (fun t => Nat.beq t 1) (fun _ v => match rx_isL v with | true => some v | false => none) st h (fun st h => rx_nx k rest (pc + len) la st h)) := by simp only [rf_ast_eq]
    h9
  | .lcmp => rfl
  | .lconst n => rfl
  | .ldc _ => rfl
  | .ldc_w _ => rfl
  | .ldc2_w _ => rfl
  | .ldiv => rfl
  | .lload n =>
    have h9 : ((rf_ld rx_isL la n st (fun st => rx_nx k rest (pc + len) la st h)) : Option RRes) = (rx_ld rx_isL la n st (fun st => rx_nx k rest (pc + len) la st h)) := by simp only [rf_ld_eq]
    h9
  | .lload_n n =>
    have h9 : ((rf_ld rx_isL la n st (fun st => rx_nx k rest (pc + len) la st h)) : Option RRes) = (rx_ld rx_isL la n st (fun st => rx_nx k rest (pc + len) la st h)) := by simp only [rf_ld_eq]
    h9
  | .lmul => rfl
  | .lneg => rfl
  | .lookupswitch _ _ => rfl
  | .lor => rfl
  | .lrem => rfl
  | .lreturn => rfl
  | .lshl => rfl
  | .lshr => rfl
  | .lstore n => rfl
  | .lstore_n n => rfl
  | .lsub => rfl
  | .lushr => rfl
  | .lxor => rfl
  | .monitorenter => rfl
  | .monitorexit => rfl
  | .multianewarray _ _ => rfl
  | .new _ =>
    have h9 : ((match aux with
        | [7777, E, _] => match I.2.2.2, st with
          | [], [] => some (.inr E, h, 1, 6)
          | _, _ => none
        | [ci, _] => rf_new ci st h (fun st h => rx_nx k rest (pc + len) la st h)
        | _ => none) : Option RRes) = (match aux with
        | [7777, E, _] => match I.2.2.2, st with
          | [], [] => some (.inr E, h, 1, 6)
          | _, _ => none
        | [ci, _] => rx_new ci st h (fun st h => rx_nx k rest (pc + len) la st h)
        | _ => none) := by simp only [rf_new_eq]
    h9
  | .newarray _ => rfl
  | .nop => rfl
  | .pop => rfl
  | .pop2 => rfl
  | .putfield _ =>
    have h9 : ((match aux with
        | [ci, f, _] => rf_pf (rf_fty ci f) ci f st h (fun st h => rx_nx k rest (pc + len) la st h)
        | _ => none) : Option RRes) = (match aux with
        | [ci, f, _] => rx_pf (rc_fty ci f) ci f st h (fun st h => rx_nx k rest (pc + len) la st h)
        | _ => none) := by simp only [rf_fty_eq, rf_pf_eq]
    h9
  | .putstatic _ => rfl
  | .ret _ => rfl
  | .return_ => rfl
  | .saload => rfl
  | .sastore => rfl
  | .sipush n => rfl
  | .swap => rfl
  | .tableswitch d lo hi offs =>
    have h9 : ((rf_tsw F.1 I.2.2.1 pc d lo hi offs st (fun z st => k z la st h)) : Option RRes) = (rx_tsw F.1 I.2.2.1 pc d lo hi offs st (fun z st => k z la st h)) := by simp only [rf_tsw_eq]
    h9
noncomputable def rf_run (O : ROld) (F : RFacts) (C : Nat → List Value → RHeap → Option RRes) (I : RInf) (n : Nat) : List RRow → RLoc → List Value → RHeap → Option RRes := Nat.rec (motive := fun _ => List RRow → RLoc → List Value → RHeap → Option RRes) (fun _ _ _ _ => none) (fun _ ih rows la st h => List.rec (motive := fun _ => Option RRes) none (fun r rest _ => rf_one r.2.1 O F C I ih r.1 r.2.2.1 r.2.2.2 rest la st h) rows) n
theorem rf_run_eq (O : ROld) (F : RFacts) (C : Nat → List Value → RHeap → Option RRes) (I : RInf) (n : Nat) : rf_run O F C I n = rx_run O F C I n := by
  induction n with
  | zero => funext rows la st h; simp only [rx_run]; rfl
  | succ n ih =>
    funext rows la st h
    cases rows with
    | nil => simp only [rx_run]; rfl
    | cons r rest =>
      obtain ⟨pc, i, len, aux⟩ := r
      show rf_one i O F C I (rf_run O F C I n) pc len aux rest la st h = _
      rw [rf_one_eq, ih]
      simp only [rx_run]
noncomputable def rf_call (O : ROld) (F : RFacts) (P : List RInf) (steps : Nat) (d : Nat) : Nat → List Value → RHeap → Option RRes := Nat.rec (motive := fun _ => Nat → List Value → RHeap → Option RRes) (fun _ _ _ => none) (fun _ ih mi as h => match rf_nth P mi with
    | some I => match Nat.ble (rx_cats as) I.1 with
      | true => rf_run O F ih I steps I.2.2.1 (lv_args 0 as) [] h
      | false => none
    | none => none) d
theorem rf_call_eq (O : ROld) (F : RFacts) (P : List RInf) (steps : Nat) (d : Nat) : rf_call O F P steps d = rx_call O F P steps d := by
  induction d with
  | zero => funext mi as h; simp only [rx_call]; rfl
  | succ d ih =>
    funext mi as h
    simp only [rx_call]
    rw [← ih, ← rf_nth_eq]
    simp only [← rf_run_eq]
    rfl
end
section
/-! what there is before the start: two Strings and their bytes -/
def rl_O1 : List (Nat × Nat × Nat × Value) := [(1, 13, 0, .ref 1000002), (1, 13, 1, .int 0), (3, 13, 0, .ref 1000004), (3, 13, 1, .int 0)]
def rl_b1 : List Value := [.int 99, .int 111, .int 110, .int 115, .int 116, .int 32, .int 116, .int 121, .int 112, .int 101, .int 32, .int 118, .int 97, .int 114, .int 32, .int 112, .int 114, .int 111, .int 99, .int 101, .int 100, .int 117, .int 114, .int 101, .int 32, .int 102, .int 117, .int 110, .int 99, .int 116, .int 105, .int 111, .int 110, .int 32, .int 98, .int 101, .int 103, .int 105, .int 110, .int 32, .int 101, .int 110, .int 100, .int 32, .int 105, .int 102, .int 32, .int 116, .int 104, .int 101, .int 110, .int 32, .int 101, .int 108, .int 115, .int 101, .int 32, .int 119, .int 104, .int 105, .int 108, .int 101, .int 32, .int 100, .int 111, .int 32, .int 114, .int 101, .int 112, .int 101, .int 97, .int 116, .int 32, .int 117, .int 110, .int 116, .int 105, .int 108, .int 32, .int 102, .int 111, .int 114, .int 32, .int 116, .int 111, .int 32, .int 100, .int 111, .int 119, .int 110, .int 116, .int 111, .int 32, .int 99, .int 97, .int 115, .int 101, .int 32, .int 111, .int 102, .int 32, .int 97, .int 114, .int 114, .int 97, .int 121, .int 32, .int 115, .int 101, .int 116, .int 32, .int 100, .int 105, .int 118, .int 32, .int 109, .int 111, .int 100, .int 32, .int 97, .int 110, .int 100, .int 32, .int 111, .int 114, .int 32, .int 110, .int 111, .int 116, .int 32, .int 105, .int 110, .int 32, .int 114, .int 101, .int 97, .int 100, .int 32, .int 119, .int 114, .int 105, .int 116, .int 101, .int 32, .int 119, .int 114, .int 105, .int 116, .int 101, .int 108, .int 110]
def rl_b2 : List Value := [.int 105, .int 110, .int 116, .int 101, .int 103, .int 101, .int 114, .int 32, .int 99, .int 104, .int 97, .int 114, .int 32, .int 98, .int 111, .int 111, .int 108, .int 101, .int 97, .int 110, .int 32, .int 102, .int 97, .int 108, .int 115, .int 101, .int 32, .int 116, .int 114, .int 117, .int 101, .int 32, .int 111, .int 114, .int 100, .int 32, .int 99, .int 104, .int 114, .int 32, .int 115, .int 117, .int 99, .int 99, .int 32, .int 112, .int 114, .int 101, .int 100, .int 32, .int 111, .int 100, .int 100, .int 32, .int 97, .int 98, .int 115, .int 32, .int 115, .int 113, .int 114, .int 32, .int 101, .int 111, .int 102, .int 32, .int 101, .int 111, .int 108, .int 110]
def rl_O : ROld := (rl_O1, [(2, 2, rl_b1), (4, 2, rl_b2)])
def rl_P0 : List RInf := rp_inf.map (fun I => match I.2.2.2 with
  | [] => I
  | _ => (0, 0, [], []))
def rl_x_0 : RHeap := [.inr (11, [.ref 1, .ref 3, .ref 5, .ref 10, .ref 13, .ref 16, .ref 164]),
  .inr (8, [.ref 2, .int 0]),
  .inl (2, 1500, []),
  .inr (8, [.ref 4, .int 0]),
  .inl (2, 1500, []),
  .inr (10, [.ref 6, .ref 7, .ref 8, .ref 9, .ref 1, .int 0, .int 0, .int 0, .int 0, .int (-1)]),
  .inl (1, 30, [(29, .long 60277786445), (29, .long 1629129363), (29, .long 44030523), (29, .long 1190014), (29, .long 32162), (29, .long 869), (29, .long 23), (28, .long 44030523), (28, .long 1190014), (28, .long 32162), (28, .long 869), (28, .long 23), (27, .long 918640), (27, .long 24828), (27, .long 671), (27, .long 18), (26, .long 347), (26, .long 9), (25, .long 19741), (25, .long 533), (25, .long 14), (24, .long 573), (24, .long 15), (23, .long 1891), (23, .long 51), (23, .long 1), (22, .long 18356), (22, .long 496), (22, .long 13), (21, .long 5831), (21, .long 157), (21, .long 4), (20, .long 26216), (20, .long 708), (20, .long 19), (19, .long 2810619), (19, .long 75962), (19, .long 2053), (19, .long 55), (19, .long 1), (18, .long 561), (18, .long 15), (17, .long 154036), (17, .long 4163), (17, .long 112), (17, .long 3), (16, .long 306673183), (16, .long 8288464), (16, .long 224012), (16, .long 6054), (16, .long 163), (16, .long 4), (15, .long 755), (15, .long 20), (14, .long 8787), (14, .long 237), (14, .long 6), (13, .long 40094248), (13, .long 1083628), (13, .long 29287), (13, .long 791), (13, .long 21), (12, .long 1258379381), (12, .long 34010253), (12, .long 919196), (12, .long 24843), (12, .long 671), (12, .long 18), (11, .long 163), (11, .long 4), (10, .long 43523697), (10, .long 1176316), (10, .long 31792), (10, .long 859), (10, .long 23), (9, .long 270401), (9, .long 7308), (9, .long 197), (9, .long 5), (8, .long 1024211), (8, .long 27681), (8, .long 748), (8, .long 20), (7, .long 339), (7, .long 9), (6, .long 7367), (6, .long 199), (6, .long 5), (5, .long 4011517), (5, .long 108419), (5, .long 2930), (5, .long 79), (5, .long 2), (4, .long 624448981218), (4, .long 16876999492), (4, .long 456135121), (4, .long 12327976), (4, .long 333188), (4, .long 9005), (4, .long 243), (4, .long 6), (3, .long 57947148581973), (3, .long 1566139150864), (3, .long 42328085158), (3, .long 1144002301), (3, .long 30918981), (3, .long 835648), (3, .long 22585), (3, .long 610), (3, .long 16), (2, .long 30173), (2, .long 815), (2, .long 22), (1, .long 1047882), (1, .long 28321), (1, .long 765), (1, .long 20), (0, .long 6402167), (0, .long 173031), (0, .long 4676), (0, .long 126), (0, .long 3)]),
  .inl (0, 1501, []),
  .inl (0, 1501, []),
  .inl (1, 1501, []),
  .inr (1, [.ref 11, .ref 12, .int 0, .int (-1), .int 0, .int 0]),
  .inl (0, 2048, []),
  .inl (0, 2048, []),
  .inr (1, [.ref 14, .ref 15, .int 1, .int (-1), .int 4, .int 0]),
  .inl (0, 2048, [(0, .int 0)]),
  .inl (0, 2048, [(0, .int (-1))]),
  .inr (0, [.ref 5, .ref 10, .ref 17, .ref 161, .ref 162]),
  .inr (5, [.ref 18, .ref 19, .ref 20, .ref 21, .ref 24, .ref 25, .int 14, .int 14, .int 0]),
  .inr (9, [.int 0, .int 0, .int 0, .int 0, .null]),
  .inr (9, [.int 1, .int 0, .int 0, .int 0, .null])]
def rl_x_1 : RHeap := [.inr (9, [.int 2, .int 0, .int 0, .int 0, .null]),
  .inr (6, [.int 0, .ref 22, .ref 23, .int 0, .int 4, .int 0, .ref 18, .int 0]),
  .inl (5, 8, []),
  .inl (3, 8, []),
  .inr (4, [.long 0, .int 0, .ref 18, .ref 21, .int 0, .int 0, .int 0]),
  .inl (4, 134, [(133, .ref 160), (132, .ref 159), (131, .ref 158), (130, .ref 157), (129, .ref 156), (128, .ref 155), (127, .ref 154), (126, .ref 153), (125, .ref 152), (124, .ref 151), (123, .ref 150), (122, .ref 149), (121, .ref 148), (120, .ref 147), (119, .ref 146), (118, .ref 145), (117, .ref 144), (116, .ref 143), (115, .ref 142), (114, .ref 141), (113, .ref 140), (112, .ref 139), (111, .ref 138), (110, .ref 137), (109, .ref 136), (108, .ref 135), (107, .ref 134), (106, .ref 133), (105, .ref 132), (104, .ref 131), (103, .ref 130), (102, .ref 129), (101, .ref 128), (100, .ref 127), (99, .ref 126), (98, .ref 125), (97, .ref 124), (96, .ref 123), (95, .ref 122), (94, .ref 121), (93, .ref 120), (92, .ref 119), (91, .ref 118), (90, .ref 117), (89, .ref 116), (88, .ref 115), (87, .ref 114), (86, .ref 113), (85, .ref 112), (84, .ref 111), (83, .ref 110), (82, .ref 109), (81, .ref 108), (80, .ref 107), (79, .ref 106), (78, .ref 105), (77, .ref 104), (76, .ref 103), (75, .ref 102), (74, .ref 101), (73, .ref 100), (72, .ref 99), (71, .ref 98), (70, .ref 97), (69, .ref 96), (68, .ref 95), (67, .ref 94), (66, .ref 93), (65, .ref 92), (64, .ref 91), (63, .ref 90), (62, .ref 89), (61, .ref 88), (60, .ref 87), (59, .ref 86), (58, .ref 85), (57, .ref 84), (56, .ref 83), (55, .ref 82), (54, .ref 81), (53, .ref 80), (52, .ref 79), (51, .ref 78), (50, .ref 77), (49, .ref 76), (48, .ref 75), (47, .ref 74), (46, .ref 73), (45, .ref 72), (44, .ref 71), (43, .ref 70), (42, .ref 69), (41, .ref 68), (40, .ref 67), (39, .ref 66), (38, .ref 65), (37, .ref 64), (36, .ref 63), (35, .ref 62), (34, .ref 61), (33, .ref 60), (32, .ref 59), (31, .ref 58), (30, .ref 57), (29, .ref 56), (28, .ref 55), (27, .ref 54), (26, .ref 53), (25, .ref 52), (24, .ref 51), (23, .ref 50), (22, .ref 49), (21, .ref 48), (20, .ref 47), (19, .ref 46), (18, .ref 45), (17, .ref 44), (16, .ref 43), (15, .ref 42), (14, .ref 41), (13, .ref 40), (12, .ref 39), (11, .ref 38), (10, .ref 37), (9, .ref 36), (8, .ref 35), (7, .ref 34), (6, .ref 33), (5, .ref 32), (4, .ref 31), (3, .ref 30), (2, .ref 29), (1, .ref 28), (0, .ref 27)]),
  .inl (1, 14, [(13, .long 274258), (13, .long 7412), (13, .long 200), (13, .long 5), (12, .long 7406), (12, .long 200), (12, .long 5), (11, .long 26658), (11, .long 720), (11, .long 19), (10, .long 1462), (10, .long 39), (10, .long 1), (9, .long 20687), (9, .long 559), (9, .long 15), (8, .long 835279), (8, .long 22575), (8, .long 610), (8, .long 16), (7, .long 991270), (7, .long 26791), (7, .long 724), (7, .long 19), (6, .long 4421), (6, .long 119), (6, .long 3), (5, .long 21205), (5, .long 573), (5, .long 15), (4, .long 1038484), (4, .long 28067), (4, .long 758), (4, .long 20), (3, .long 11312755), (3, .long 305750), (3, .long 8263), (3, .long 223), (3, .long 6), (2, .long 6200339320), (2, .long 167576738), (2, .long 4529101), (2, .long 122408), (2, .long 3308), (2, .long 89), (2, .long 2), (1, .long 162966), (1, .long 4404), (1, .long 119), (1, .long 3), (0, .long 24100099350), (0, .long 651354036), (0, .long 17604163), (0, .long 475788), (0, .long 12859), (0, .long 347), (0, .long 9)]),
  .inr (4, [.long 24100099350, .int 3, .ref 18, .ref 21, .int (-3), .int 0, .int 0]),
  .inr (4, [.long 162966, .int 3, .ref 19, .ref 21, .int (-2), .int 0, .int 0]),
  .inr (4, [.long 6200339320, .int 3, .ref 20, .ref 21, .int (-1), .int 0, .int 0]),
  .inr (4, [.long 11312755, .int 2, .ref 20, .ref 21, .int 0, .int 0, .int 0]),
  .inr (4, [.long 1038484, .int 2, .ref 20, .ref 21, .int 1, .int 0, .int 0]),
  .inr (4, [.long 21205, .int 7, .ref 20, .ref 21, .int 0, .int 0, .int 0]),
  .inr (4, [.long 4421, .int 7, .ref 20, .ref 21, .int 1, .int 0, .int 0]),
  .inr (4, [.long 991270, .int 7, .ref 20, .ref 21, .int 2, .int 0, .int 0]),
  .inr (4, [.long 835279, .int 7, .ref 20, .ref 21, .int 3, .int 0, .int 0]),
  .inr (4, [.long 20687, .int 7, .ref 20, .ref 21, .int 4, .int 0, .int 0]),
  .inr (4, [.long 1462, .int 7, .ref 20, .ref 21, .int 5, .int 0, .int 0]),
  .inr (4, [.long 26658, .int 7, .ref 20, .ref 21, .int 6, .int 0, .int 0]),
  .inr (4, [.long 7406, .int 7, .ref 20, .ref 21, .int 7, .int 0, .int 0])]
def rl_x_2 : RHeap := [.inr (4, [.long 274258, .int 7, .ref 20, .ref 21, .int 8, .int 0, .int 0]),
  .inr (4, [.long 0, .int 0, .ref 18, .ref 21, .int 0, .int 0, .int 0]),
  .inr (4, [.long 0, .int 0, .ref 18, .ref 21, .int 0, .int 0, .int 0]),
  .inr (4, [.long 0, .int 0, .ref 18, .ref 21, .int 0, .int 0, .int 0]),
  .inr (4, [.long 0, .int 0, .ref 18, .ref 21, .int 0, .int 0, .int 0]),
  .inr (4, [.long 0, .int 0, .ref 18, .ref 21, .int 0, .int 0, .int 0]),
  .inr (4, [.long 0, .int 0, .ref 18, .ref 21, .int 0, .int 0, .int 0]),
  .inr (4, [.long 0, .int 0, .ref 18, .ref 21, .int 0, .int 0, .int 0]),
  .inr (4, [.long 0, .int 0, .ref 18, .ref 21, .int 0, .int 0, .int 0]),
  .inr (4, [.long 0, .int 0, .ref 18, .ref 21, .int 0, .int 0, .int 0]),
  .inr (4, [.long 0, .int 0, .ref 18, .ref 21, .int 0, .int 0, .int 0]),
  .inr (4, [.long 0, .int 0, .ref 18, .ref 21, .int 0, .int 0, .int 0]),
  .inr (4, [.long 0, .int 0, .ref 18, .ref 21, .int 0, .int 0, .int 0]),
  .inr (4, [.long 0, .int 0, .ref 18, .ref 21, .int 0, .int 0, .int 0]),
  .inr (4, [.long 0, .int 0, .ref 18, .ref 21, .int 0, .int 0, .int 0]),
  .inr (4, [.long 0, .int 0, .ref 18, .ref 21, .int 0, .int 0, .int 0]),
  .inr (4, [.long 0, .int 0, .ref 18, .ref 21, .int 0, .int 0, .int 0]),
  .inr (4, [.long 0, .int 0, .ref 18, .ref 21, .int 0, .int 0, .int 0]),
  .inr (4, [.long 0, .int 0, .ref 18, .ref 21, .int 0, .int 0, .int 0]),
  .inr (4, [.long 0, .int 0, .ref 18, .ref 21, .int 0, .int 0, .int 0])]
def rl_x_3 : RHeap := [.inr (4, [.long 0, .int 0, .ref 18, .ref 21, .int 0, .int 0, .int 0]),
  .inr (4, [.long 0, .int 0, .ref 18, .ref 21, .int 0, .int 0, .int 0]),
  .inr (4, [.long 0, .int 0, .ref 18, .ref 21, .int 0, .int 0, .int 0]),
  .inr (4, [.long 0, .int 0, .ref 18, .ref 21, .int 0, .int 0, .int 0]),
  .inr (4, [.long 0, .int 0, .ref 18, .ref 21, .int 0, .int 0, .int 0]),
  .inr (4, [.long 0, .int 0, .ref 18, .ref 21, .int 0, .int 0, .int 0]),
  .inr (4, [.long 0, .int 0, .ref 18, .ref 21, .int 0, .int 0, .int 0]),
  .inr (4, [.long 0, .int 0, .ref 18, .ref 21, .int 0, .int 0, .int 0]),
  .inr (4, [.long 0, .int 0, .ref 18, .ref 21, .int 0, .int 0, .int 0]),
  .inr (4, [.long 0, .int 0, .ref 18, .ref 21, .int 0, .int 0, .int 0]),
  .inr (4, [.long 0, .int 0, .ref 18, .ref 21, .int 0, .int 0, .int 0]),
  .inr (4, [.long 0, .int 0, .ref 18, .ref 21, .int 0, .int 0, .int 0]),
  .inr (4, [.long 0, .int 0, .ref 18, .ref 21, .int 0, .int 0, .int 0]),
  .inr (4, [.long 0, .int 0, .ref 18, .ref 21, .int 0, .int 0, .int 0]),
  .inr (4, [.long 0, .int 0, .ref 18, .ref 21, .int 0, .int 0, .int 0]),
  .inr (4, [.long 0, .int 0, .ref 18, .ref 21, .int 0, .int 0, .int 0]),
  .inr (4, [.long 0, .int 0, .ref 18, .ref 21, .int 0, .int 0, .int 0]),
  .inr (4, [.long 0, .int 0, .ref 18, .ref 21, .int 0, .int 0, .int 0]),
  .inr (4, [.long 0, .int 0, .ref 18, .ref 21, .int 0, .int 0, .int 0]),
  .inr (4, [.long 0, .int 0, .ref 18, .ref 21, .int 0, .int 0, .int 0])]
def rl_x_4 : RHeap := [.inr (4, [.long 0, .int 0, .ref 18, .ref 21, .int 0, .int 0, .int 0]),
  .inr (4, [.long 0, .int 0, .ref 18, .ref 21, .int 0, .int 0, .int 0]),
  .inr (4, [.long 0, .int 0, .ref 18, .ref 21, .int 0, .int 0, .int 0]),
  .inr (4, [.long 0, .int 0, .ref 18, .ref 21, .int 0, .int 0, .int 0]),
  .inr (4, [.long 0, .int 0, .ref 18, .ref 21, .int 0, .int 0, .int 0]),
  .inr (4, [.long 0, .int 0, .ref 18, .ref 21, .int 0, .int 0, .int 0]),
  .inr (4, [.long 0, .int 0, .ref 18, .ref 21, .int 0, .int 0, .int 0]),
  .inr (4, [.long 0, .int 0, .ref 18, .ref 21, .int 0, .int 0, .int 0]),
  .inr (4, [.long 0, .int 0, .ref 18, .ref 21, .int 0, .int 0, .int 0]),
  .inr (4, [.long 0, .int 0, .ref 18, .ref 21, .int 0, .int 0, .int 0]),
  .inr (4, [.long 0, .int 0, .ref 18, .ref 21, .int 0, .int 0, .int 0]),
  .inr (4, [.long 0, .int 0, .ref 18, .ref 21, .int 0, .int 0, .int 0]),
  .inr (4, [.long 0, .int 0, .ref 18, .ref 21, .int 0, .int 0, .int 0]),
  .inr (4, [.long 0, .int 0, .ref 18, .ref 21, .int 0, .int 0, .int 0]),
  .inr (4, [.long 0, .int 0, .ref 18, .ref 21, .int 0, .int 0, .int 0]),
  .inr (4, [.long 0, .int 0, .ref 18, .ref 21, .int 0, .int 0, .int 0]),
  .inr (4, [.long 0, .int 0, .ref 18, .ref 21, .int 0, .int 0, .int 0]),
  .inr (4, [.long 0, .int 0, .ref 18, .ref 21, .int 0, .int 0, .int 0]),
  .inr (4, [.long 0, .int 0, .ref 18, .ref 21, .int 0, .int 0, .int 0]),
  .inr (4, [.long 0, .int 0, .ref 18, .ref 21, .int 0, .int 0, .int 0])]
def rl_x_5 : RHeap := [.inr (4, [.long 0, .int 0, .ref 18, .ref 21, .int 0, .int 0, .int 0]),
  .inr (4, [.long 0, .int 0, .ref 18, .ref 21, .int 0, .int 0, .int 0]),
  .inr (4, [.long 0, .int 0, .ref 18, .ref 21, .int 0, .int 0, .int 0]),
  .inr (4, [.long 0, .int 0, .ref 18, .ref 21, .int 0, .int 0, .int 0]),
  .inr (4, [.long 0, .int 0, .ref 18, .ref 21, .int 0, .int 0, .int 0]),
  .inr (4, [.long 0, .int 0, .ref 18, .ref 21, .int 0, .int 0, .int 0]),
  .inr (4, [.long 0, .int 0, .ref 18, .ref 21, .int 0, .int 0, .int 0]),
  .inr (4, [.long 0, .int 0, .ref 18, .ref 21, .int 0, .int 0, .int 0]),
  .inr (4, [.long 0, .int 0, .ref 18, .ref 21, .int 0, .int 0, .int 0]),
  .inr (4, [.long 0, .int 0, .ref 18, .ref 21, .int 0, .int 0, .int 0]),
  .inr (4, [.long 0, .int 0, .ref 18, .ref 21, .int 0, .int 0, .int 0]),
  .inr (4, [.long 0, .int 0, .ref 18, .ref 21, .int 0, .int 0, .int 0]),
  .inr (4, [.long 0, .int 0, .ref 18, .ref 21, .int 0, .int 0, .int 0]),
  .inr (4, [.long 0, .int 0, .ref 18, .ref 21, .int 0, .int 0, .int 0]),
  .inr (4, [.long 0, .int 0, .ref 18, .ref 21, .int 0, .int 0, .int 0]),
  .inr (4, [.long 0, .int 0, .ref 18, .ref 21, .int 0, .int 0, .int 0]),
  .inr (4, [.long 0, .int 0, .ref 18, .ref 21, .int 0, .int 0, .int 0]),
  .inr (4, [.long 0, .int 0, .ref 18, .ref 21, .int 0, .int 0, .int 0]),
  .inr (4, [.long 0, .int 0, .ref 18, .ref 21, .int 0, .int 0, .int 0]),
  .inr (4, [.long 0, .int 0, .ref 18, .ref 21, .int 0, .int 0, .int 0])]
def rl_x_6 : RHeap := [.inr (4, [.long 0, .int 0, .ref 18, .ref 21, .int 0, .int 0, .int 0]),
  .inr (4, [.long 0, .int 0, .ref 18, .ref 21, .int 0, .int 0, .int 0]),
  .inr (4, [.long 0, .int 0, .ref 18, .ref 21, .int 0, .int 0, .int 0]),
  .inr (4, [.long 0, .int 0, .ref 18, .ref 21, .int 0, .int 0, .int 0]),
  .inr (4, [.long 0, .int 0, .ref 18, .ref 21, .int 0, .int 0, .int 0]),
  .inr (4, [.long 0, .int 0, .ref 18, .ref 21, .int 0, .int 0, .int 0]),
  .inr (4, [.long 0, .int 0, .ref 18, .ref 21, .int 0, .int 0, .int 0]),
  .inr (4, [.long 0, .int 0, .ref 18, .ref 21, .int 0, .int 0, .int 0]),
  .inr (4, [.long 0, .int 0, .ref 18, .ref 21, .int 0, .int 0, .int 0]),
  .inr (4, [.long 0, .int 0, .ref 18, .ref 21, .int 0, .int 0, .int 0]),
  .inr (4, [.long 0, .int 0, .ref 18, .ref 21, .int 0, .int 0, .int 0]),
  .inr (4, [.long 0, .int 0, .ref 18, .ref 21, .int 0, .int 0, .int 0]),
  .inr (4, [.long 0, .int 0, .ref 18, .ref 21, .int 0, .int 0, .int 0]),
  .inr (4, [.long 0, .int 0, .ref 18, .ref 21, .int 0, .int 0, .int 0]),
  .inr (4, [.long 0, .int 0, .ref 18, .ref 21, .int 0, .int 0, .int 0]),
  .inr (4, [.long 0, .int 0, .ref 18, .ref 21, .int 0, .int 0, .int 0]),
  .inr (4, [.long 0, .int 0, .ref 18, .ref 21, .int 0, .int 0, .int 0]),
  .inr (4, [.long 0, .int 0, .ref 18, .ref 21, .int 0, .int 0, .int 0]),
  .inr (4, [.long 0, .int 0, .ref 18, .ref 21, .int 0, .int 0, .int 0]),
  .inr (4, [.long 0, .int 0, .ref 18, .ref 21, .int 0, .int 0, .int 0])]
def rl_x_7 : RHeap := [.inr (4, [.long 0, .int 0, .ref 18, .ref 21, .int 0, .int 0, .int 0]),
  .inr (4, [.long 0, .int 0, .ref 18, .ref 21, .int 0, .int 0, .int 0]),
  .inr (4, [.long 0, .int 0, .ref 18, .ref 21, .int 0, .int 0, .int 0]),
  .inr (4, [.long 0, .int 0, .ref 18, .ref 21, .int 0, .int 0, .int 0]),
  .inr (4, [.long 0, .int 0, .ref 18, .ref 21, .int 0, .int 0, .int 0]),
  .inr (4, [.long 0, .int 0, .ref 18, .ref 21, .int 0, .int 0, .int 0]),
  .inr (4, [.long 0, .int 0, .ref 18, .ref 21, .int 0, .int 0, .int 0]),
  .inr (4, [.long 0, .int 0, .ref 18, .ref 21, .int 0, .int 0, .int 0]),
  .inr (4, [.long 0, .int 0, .ref 18, .ref 21, .int 0, .int 0, .int 0]),
  .inr (4, [.long 0, .int 0, .ref 18, .ref 21, .int 0, .int 0, .int 0]),
  .inr (4, [.long 0, .int 0, .ref 18, .ref 21, .int 0, .int 0, .int 0]),
  .inr (4, [.long 0, .int 0, .ref 18, .ref 21, .int 0, .int 0, .int 0]),
  .inr (4, [.long 0, .int 0, .ref 18, .ref 21, .int 0, .int 0, .int 0]),
  .inr (4, [.long 0, .int 0, .ref 18, .ref 21, .int 0, .int 0, .int 0]),
  .inr (4, [.long 0, .int 0, .ref 18, .ref 21, .int 0, .int 0, .int 0]),
  .inr (4, [.long 0, .int 0, .ref 18, .ref 21, .int 0, .int 0, .int 0]),
  .inr (4, [.long 0, .int 0, .ref 18, .ref 21, .int 0, .int 0, .int 0]),
  .inr (4, [.long 0, .int 0, .ref 18, .ref 21, .int 0, .int 0, .int 0]),
  .inr (4, [.long 0, .int 0, .ref 18, .ref 21, .int 0, .int 0, .int 0]),
  .inr (4, [.long 0, .int 0, .ref 18, .ref 21, .int 0, .int 0, .int 0])]
def rl_x_8 : RHeap := [.inr (4, [.long 0, .int 0, .ref 18, .ref 21, .int 0, .int 0, .int 0]),
  .inr (2, [.ref 5, .ref 17, .ref 10, .int 0]),
  .inr (7, [.ref 5, .ref 17, .ref 10, .ref 161, .ref 163, .int 0]),
  .inl (0, 1500, []),
  .inr (3, [.ref 13, .ref 3, .ref 165, .ref 167, .ref 168, .ref 169, .int 0, .int 0, .int 0, .int 0, .int 0, .int 0, .int 0, .int (-1), .int 0, .int 0, .int 0, .int 0, .int 0]),
  .inr (8, [.ref 166, .int 0]),
  .inl (2, 1500, []),
  .inl (1, 3000, []),
  .inl (2, 3000, []),
  .inl (1, 512, [])]
def rl_x : RHeap := rl_x_0 ++ (rl_x_1 ++ (rl_x_2 ++ (rl_x_3 ++ (rl_x_4 ++ (rl_x_5 ++ (rl_x_6 ++ (rl_x_7 ++ (rl_x_8))))))))
def rl_m_0 : RHeap := [.inr (11, [.ref 1, .ref 3, .ref 5, .ref 10, .ref 13, .ref 16, .ref 164]),
  .inr (8, [.ref 2, .int 0]),
  .inl (2, 1500, []),
  .inr (8, [.ref 4, .int 0]),
  .inl (2, 1500, []),
  .inr (10, [.ref 6, .ref 7, .ref 8, .ref 9, .ref 1, .int 0, .int 0, .int 0, .int 0, .int (-1)]),
  .inl (1, 30, [(29, .long 60277786445), (29, .long 1629129363), (29, .long 44030523), (29, .long 1190014), (29, .long 32162), (29, .long 869), (29, .long 23), (28, .long 44030523), (28, .long 1190014), (28, .long 32162), (28, .long 869), (28, .long 23), (27, .long 918640), (27, .long 24828), (27, .long 671), (27, .long 18), (26, .long 347), (26, .long 9), (25, .long 19741), (25, .long 533), (25, .long 14), (24, .long 573), (24, .long 15), (23, .long 1891), (23, .long 51), (23, .long 1), (22, .long 18356), (22, .long 496), (22, .long 13), (21, .long 5831), (21, .long 157), (21, .long 4), (20, .long 26216), (20, .long 708), (20, .long 19), (19, .long 2810619), (19, .long 75962), (19, .long 2053), (19, .long 55), (19, .long 1), (18, .long 561), (18, .long 15), (17, .long 154036), (17, .long 4163), (17, .long 112), (17, .long 3), (16, .long 306673183), (16, .long 8288464), (16, .long 224012), (16, .long 6054), (16, .long 163), (16, .long 4), (15, .long 755), (15, .long 20), (14, .long 8787), (14, .long 237), (14, .long 6), (13, .long 40094248), (13, .long 1083628), (13, .long 29287), (13, .long 791), (13, .long 21), (12, .long 1258379381), (12, .long 34010253), (12, .long 919196), (12, .long 24843), (12, .long 671), (12, .long 18), (11, .long 163), (11, .long 4), (10, .long 43523697), (10, .long 1176316), (10, .long 31792), (10, .long 859), (10, .long 23), (9, .long 270401), (9, .long 7308), (9, .long 197), (9, .long 5), (8, .long 1024211), (8, .long 27681), (8, .long 748), (8, .long 20), (7, .long 339), (7, .long 9), (6, .long 7367), (6, .long 199), (6, .long 5), (5, .long 4011517), (5, .long 108419), (5, .long 2930), (5, .long 79), (5, .long 2), (4, .long 624448981218), (4, .long 16876999492), (4, .long 456135121), (4, .long 12327976), (4, .long 333188), (4, .long 9005), (4, .long 243), (4, .long 6), (3, .long 57947148581973), (3, .long 1566139150864), (3, .long 42328085158), (3, .long 1144002301), (3, .long 30918981), (3, .long 835648), (3, .long 22585), (3, .long 610), (3, .long 16), (2, .long 30173), (2, .long 815), (2, .long 22), (1, .long 1047882), (1, .long 28321), (1, .long 765), (1, .long 20), (0, .long 6402167), (0, .long 173031), (0, .long 4676), (0, .long 126), (0, .long 3)]),
  .inl (0, 1501, []),
  .inl (0, 1501, []),
  .inl (1, 1501, []),
  .inr (1, [.ref 11, .ref 12, .int 0, .int (-1), .int 0, .int 0]),
  .inl (0, 2048, []),
  .inl (0, 2048, []),
  .inr (1, [.ref 14, .ref 15, .int 1, .int (-1), .int 4, .int 0]),
  .inl (0, 2048, [(0, .int 0)]),
  .inl (0, 2048, [(0, .int (-1))]),
  .inr (0, [.ref 5, .ref 10, .ref 17, .ref 161, .ref 162]),
  .inr (5, [.ref 18, .ref 19, .ref 20, .ref 21, .ref 24, .ref 25, .int 14, .int 14, .int 0]),
  .inr (9, [.int 0, .int 0, .int 0, .int 0, .null]),
  .inr (9, [.int 1, .int 0, .int 0, .int 0, .null])]
def rl_m_1 : RHeap := [.inr (9, [.int 2, .int 0, .int 0, .int 0, .null]),
  .inr (6, [.int 0, .ref 22, .ref 23, .int 0, .int 4, .int 0, .ref 18, .int 0]),
  .inl (5, 8, []),
  .inl (3, 8, []),
  .inr (4, [.long 0, .int 0, .ref 18, .ref 21, .int 0, .int 0, .int 0]),
  .inl (4, 134, [(133, .ref 160), (132, .ref 159), (131, .ref 158), (130, .ref 157), (129, .ref 156), (128, .ref 155), (127, .ref 154), (126, .ref 153), (125, .ref 152), (124, .ref 151), (123, .ref 150), (122, .ref 149), (121, .ref 148), (120, .ref 147), (119, .ref 146), (118, .ref 145), (117, .ref 144), (116, .ref 143), (115, .ref 142), (114, .ref 141), (113, .ref 140), (112, .ref 139), (111, .ref 138), (110, .ref 137), (109, .ref 136), (108, .ref 135), (107, .ref 134), (106, .ref 133), (105, .ref 132), (104, .ref 131), (103, .ref 130), (102, .ref 129), (101, .ref 128), (100, .ref 127), (99, .ref 126), (98, .ref 125), (97, .ref 124), (96, .ref 123), (95, .ref 122), (94, .ref 121), (93, .ref 120), (92, .ref 119), (91, .ref 118), (90, .ref 117), (89, .ref 116), (88, .ref 115), (87, .ref 114), (86, .ref 113), (85, .ref 112), (84, .ref 111), (83, .ref 110), (82, .ref 109), (81, .ref 108), (80, .ref 107), (79, .ref 106), (78, .ref 105), (77, .ref 104), (76, .ref 103), (75, .ref 102), (74, .ref 101), (73, .ref 100), (72, .ref 99), (71, .ref 98), (70, .ref 97), (69, .ref 96), (68, .ref 95), (67, .ref 94), (66, .ref 93), (65, .ref 92), (64, .ref 91), (63, .ref 90), (62, .ref 89), (61, .ref 88), (60, .ref 87), (59, .ref 86), (58, .ref 85), (57, .ref 84), (56, .ref 83), (55, .ref 82), (54, .ref 81), (53, .ref 80), (52, .ref 79), (51, .ref 78), (50, .ref 77), (49, .ref 76), (48, .ref 75), (47, .ref 74), (46, .ref 73), (45, .ref 72), (44, .ref 71), (43, .ref 70), (42, .ref 69), (41, .ref 68), (40, .ref 67), (39, .ref 66), (38, .ref 65), (37, .ref 64), (36, .ref 63), (35, .ref 62), (34, .ref 61), (33, .ref 60), (32, .ref 59), (31, .ref 58), (30, .ref 57), (29, .ref 56), (28, .ref 55), (27, .ref 54), (26, .ref 53), (25, .ref 52), (24, .ref 51), (23, .ref 50), (22, .ref 49), (21, .ref 48), (20, .ref 47), (19, .ref 46), (18, .ref 45), (17, .ref 44), (16, .ref 43), (15, .ref 42), (14, .ref 41), (13, .ref 40), (12, .ref 39), (11, .ref 38), (10, .ref 37), (9, .ref 36), (8, .ref 35), (7, .ref 34), (6, .ref 33), (5, .ref 32), (4, .ref 31), (3, .ref 30), (2, .ref 29), (1, .ref 28), (0, .ref 27)]),
  .inl (1, 14, [(13, .long 274258), (13, .long 7412), (13, .long 200), (13, .long 5), (12, .long 7406), (12, .long 200), (12, .long 5), (11, .long 26658), (11, .long 720), (11, .long 19), (10, .long 1462), (10, .long 39), (10, .long 1), (9, .long 20687), (9, .long 559), (9, .long 15), (8, .long 835279), (8, .long 22575), (8, .long 610), (8, .long 16), (7, .long 991270), (7, .long 26791), (7, .long 724), (7, .long 19), (6, .long 4421), (6, .long 119), (6, .long 3), (5, .long 21205), (5, .long 573), (5, .long 15), (4, .long 1038484), (4, .long 28067), (4, .long 758), (4, .long 20), (3, .long 11312755), (3, .long 305750), (3, .long 8263), (3, .long 223), (3, .long 6), (2, .long 6200339320), (2, .long 167576738), (2, .long 4529101), (2, .long 122408), (2, .long 3308), (2, .long 89), (2, .long 2), (1, .long 162966), (1, .long 4404), (1, .long 119), (1, .long 3), (0, .long 24100099350), (0, .long 651354036), (0, .long 17604163), (0, .long 475788), (0, .long 12859), (0, .long 347), (0, .long 9)]),
  .inr (4, [.long 24100099350, .int 3, .ref 18, .ref 21, .int (-3), .int 0, .int 0]),
  .inr (4, [.long 162966, .int 3, .ref 19, .ref 21, .int (-2), .int 0, .int 0]),
  .inr (4, [.long 6200339320, .int 3, .ref 20, .ref 21, .int (-1), .int 0, .int 0]),
  .inr (4, [.long 11312755, .int 2, .ref 20, .ref 21, .int 0, .int 0, .int 0]),
  .inr (4, [.long 1038484, .int 2, .ref 20, .ref 21, .int 1, .int 0, .int 0]),
  .inr (4, [.long 21205, .int 7, .ref 20, .ref 21, .int 0, .int 0, .int 0]),
  .inr (4, [.long 4421, .int 7, .ref 20, .ref 21, .int 1, .int 0, .int 0]),
  .inr (4, [.long 991270, .int 7, .ref 20, .ref 21, .int 2, .int 0, .int 0]),
  .inr (4, [.long 835279, .int 7, .ref 20, .ref 21, .int 3, .int 0, .int 0]),
  .inr (4, [.long 20687, .int 7, .ref 20, .ref 21, .int 4, .int 0, .int 0]),
  .inr (4, [.long 1462, .int 7, .ref 20, .ref 21, .int 5, .int 0, .int 0]),
  .inr (4, [.long 26658, .int 7, .ref 20, .ref 21, .int 6, .int 0, .int 0]),
  .inr (4, [.long 7406, .int 7, .ref 20, .ref 21, .int 7, .int 0, .int 0])]
def rl_m_2 : RHeap := [.inr (4, [.long 274258, .int 7, .ref 20, .ref 21, .int 8, .int 0, .int 0]),
  .inr (4, [.long 0, .int 0, .ref 18, .ref 21, .int 0, .int 0, .int 0]),
  .inr (4, [.long 0, .int 0, .ref 18, .ref 21, .int 0, .int 0, .int 0]),
  .inr (4, [.long 0, .int 0, .ref 18, .ref 21, .int 0, .int 0, .int 0]),
  .inr (4, [.long 0, .int 0, .ref 18, .ref 21, .int 0, .int 0, .int 0]),
  .inr (4, [.long 0, .int 0, .ref 18, .ref 21, .int 0, .int 0, .int 0]),
  .inr (4, [.long 0, .int 0, .ref 18, .ref 21, .int 0, .int 0, .int 0]),
  .inr (4, [.long 0, .int 0, .ref 18, .ref 21, .int 0, .int 0, .int 0]),
  .inr (4, [.long 0, .int 0, .ref 18, .ref 21, .int 0, .int 0, .int 0]),
  .inr (4, [.long 0, .int 0, .ref 18, .ref 21, .int 0, .int 0, .int 0]),
  .inr (4, [.long 0, .int 0, .ref 18, .ref 21, .int 0, .int 0, .int 0]),
  .inr (4, [.long 0, .int 0, .ref 18, .ref 21, .int 0, .int 0, .int 0]),
  .inr (4, [.long 0, .int 0, .ref 18, .ref 21, .int 0, .int 0, .int 0]),
  .inr (4, [.long 0, .int 0, .ref 18, .ref 21, .int 0, .int 0, .int 0]),
  .inr (4, [.long 0, .int 0, .ref 18, .ref 21, .int 0, .int 0, .int 0]),
  .inr (4, [.long 0, .int 0, .ref 18, .ref 21, .int 0, .int 0, .int 0]),
  .inr (4, [.long 0, .int 0, .ref 18, .ref 21, .int 0, .int 0, .int 0]),
  .inr (4, [.long 0, .int 0, .ref 18, .ref 21, .int 0, .int 0, .int 0]),
  .inr (4, [.long 0, .int 0, .ref 18, .ref 21, .int 0, .int 0, .int 0]),
  .inr (4, [.long 0, .int 0, .ref 18, .ref 21, .int 0, .int 0, .int 0])]
def rl_m_3 : RHeap := [.inr (4, [.long 0, .int 0, .ref 18, .ref 21, .int 0, .int 0, .int 0]),
  .inr (4, [.long 0, .int 0, .ref 18, .ref 21, .int 0, .int 0, .int 0]),
  .inr (4, [.long 0, .int 0, .ref 18, .ref 21, .int 0, .int 0, .int 0]),
  .inr (4, [.long 0, .int 0, .ref 18, .ref 21, .int 0, .int 0, .int 0]),
  .inr (4, [.long 0, .int 0, .ref 18, .ref 21, .int 0, .int 0, .int 0]),
  .inr (4, [.long 0, .int 0, .ref 18, .ref 21, .int 0, .int 0, .int 0]),
  .inr (4, [.long 0, .int 0, .ref 18, .ref 21, .int 0, .int 0, .int 0]),
  .inr (4, [.long 0, .int 0, .ref 18, .ref 21, .int 0, .int 0, .int 0]),
  .inr (4, [.long 0, .int 0, .ref 18, .ref 21, .int 0, .int 0, .int 0]),
  .inr (4, [.long 0, .int 0, .ref 18, .ref 21, .int 0, .int 0, .int 0]),
  .inr (4, [.long 0, .int 0, .ref 18, .ref 21, .int 0, .int 0, .int 0]),
  .inr (4, [.long 0, .int 0, .ref 18, .ref 21, .int 0, .int 0, .int 0]),
  .inr (4, [.long 0, .int 0, .ref 18, .ref 21, .int 0, .int 0, .int 0]),
  .inr (4, [.long 0, .int 0, .ref 18, .ref 21, .int 0, .int 0, .int 0]),
  .inr (4, [.long 0, .int 0, .ref 18, .ref 21, .int 0, .int 0, .int 0]),
  .inr (4, [.long 0, .int 0, .ref 18, .ref 21, .int 0, .int 0, .int 0]),
  .inr (4, [.long 0, .int 0, .ref 18, .ref 21, .int 0, .int 0, .int 0]),
  .inr (4, [.long 0, .int 0, .ref 18, .ref 21, .int 0, .int 0, .int 0]),
  .inr (4, [.long 0, .int 0, .ref 18, .ref 21, .int 0, .int 0, .int 0]),
  .inr (4, [.long 0, .int 0, .ref 18, .ref 21, .int 0, .int 0, .int 0])]
def rl_m_4 : RHeap := [.inr (4, [.long 0, .int 0, .ref 18, .ref 21, .int 0, .int 0, .int 0]),
  .inr (4, [.long 0, .int 0, .ref 18, .ref 21, .int 0, .int 0, .int 0]),
  .inr (4, [.long 0, .int 0, .ref 18, .ref 21, .int 0, .int 0, .int 0]),
  .inr (4, [.long 0, .int 0, .ref 18, .ref 21, .int 0, .int 0, .int 0]),
  .inr (4, [.long 0, .int 0, .ref 18, .ref 21, .int 0, .int 0, .int 0]),
  .inr (4, [.long 0, .int 0, .ref 18, .ref 21, .int 0, .int 0, .int 0]),
  .inr (4, [.long 0, .int 0, .ref 18, .ref 21, .int 0, .int 0, .int 0]),
  .inr (4, [.long 0, .int 0, .ref 18, .ref 21, .int 0, .int 0, .int 0]),
  .inr (4, [.long 0, .int 0, .ref 18, .ref 21, .int 0, .int 0, .int 0]),
  .inr (4, [.long 0, .int 0, .ref 18, .ref 21, .int 0, .int 0, .int 0]),
  .inr (4, [.long 0, .int 0, .ref 18, .ref 21, .int 0, .int 0, .int 0]),
  .inr (4, [.long 0, .int 0, .ref 18, .ref 21, .int 0, .int 0, .int 0]),
  .inr (4, [.long 0, .int 0, .ref 18, .ref 21, .int 0, .int 0, .int 0]),
  .inr (4, [.long 0, .int 0, .ref 18, .ref 21, .int 0, .int 0, .int 0]),
  .inr (4, [.long 0, .int 0, .ref 18, .ref 21, .int 0, .int 0, .int 0]),
  .inr (4, [.long 0, .int 0, .ref 18, .ref 21, .int 0, .int 0, .int 0]),
  .inr (4, [.long 0, .int 0, .ref 18, .ref 21, .int 0, .int 0, .int 0]),
  .inr (4, [.long 0, .int 0, .ref 18, .ref 21, .int 0, .int 0, .int 0]),
  .inr (4, [.long 0, .int 0, .ref 18, .ref 21, .int 0, .int 0, .int 0]),
  .inr (4, [.long 0, .int 0, .ref 18, .ref 21, .int 0, .int 0, .int 0])]
def rl_m_5 : RHeap := [.inr (4, [.long 0, .int 0, .ref 18, .ref 21, .int 0, .int 0, .int 0]),
  .inr (4, [.long 0, .int 0, .ref 18, .ref 21, .int 0, .int 0, .int 0]),
  .inr (4, [.long 0, .int 0, .ref 18, .ref 21, .int 0, .int 0, .int 0]),
  .inr (4, [.long 0, .int 0, .ref 18, .ref 21, .int 0, .int 0, .int 0]),
  .inr (4, [.long 0, .int 0, .ref 18, .ref 21, .int 0, .int 0, .int 0]),
  .inr (4, [.long 0, .int 0, .ref 18, .ref 21, .int 0, .int 0, .int 0]),
  .inr (4, [.long 0, .int 0, .ref 18, .ref 21, .int 0, .int 0, .int 0]),
  .inr (4, [.long 0, .int 0, .ref 18, .ref 21, .int 0, .int 0, .int 0]),
  .inr (4, [.long 0, .int 0, .ref 18, .ref 21, .int 0, .int 0, .int 0]),
  .inr (4, [.long 0, .int 0, .ref 18, .ref 21, .int 0, .int 0, .int 0]),
  .inr (4, [.long 0, .int 0, .ref 18, .ref 21, .int 0, .int 0, .int 0]),
  .inr (4, [.long 0, .int 0, .ref 18, .ref 21, .int 0, .int 0, .int 0]),
  .inr (4, [.long 0, .int 0, .ref 18, .ref 21, .int 0, .int 0, .int 0]),
  .inr (4, [.long 0, .int 0, .ref 18, .ref 21, .int 0, .int 0, .int 0]),
  .inr (4, [.long 0, .int 0, .ref 18, .ref 21, .int 0, .int 0, .int 0]),
  .inr (4, [.long 0, .int 0, .ref 18, .ref 21, .int 0, .int 0, .int 0]),
  .inr (4, [.long 0, .int 0, .ref 18, .ref 21, .int 0, .int 0, .int 0]),
  .inr (4, [.long 0, .int 0, .ref 18, .ref 21, .int 0, .int 0, .int 0]),
  .inr (4, [.long 0, .int 0, .ref 18, .ref 21, .int 0, .int 0, .int 0]),
  .inr (4, [.long 0, .int 0, .ref 18, .ref 21, .int 0, .int 0, .int 0])]
def rl_m_6 : RHeap := [.inr (4, [.long 0, .int 0, .ref 18, .ref 21, .int 0, .int 0, .int 0]),
  .inr (4, [.long 0, .int 0, .ref 18, .ref 21, .int 0, .int 0, .int 0]),
  .inr (4, [.long 0, .int 0, .ref 18, .ref 21, .int 0, .int 0, .int 0]),
  .inr (4, [.long 0, .int 0, .ref 18, .ref 21, .int 0, .int 0, .int 0]),
  .inr (4, [.long 0, .int 0, .ref 18, .ref 21, .int 0, .int 0, .int 0]),
  .inr (4, [.long 0, .int 0, .ref 18, .ref 21, .int 0, .int 0, .int 0]),
  .inr (4, [.long 0, .int 0, .ref 18, .ref 21, .int 0, .int 0, .int 0]),
  .inr (4, [.long 0, .int 0, .ref 18, .ref 21, .int 0, .int 0, .int 0]),
  .inr (4, [.long 0, .int 0, .ref 18, .ref 21, .int 0, .int 0, .int 0]),
  .inr (4, [.long 0, .int 0, .ref 18, .ref 21, .int 0, .int 0, .int 0]),
  .inr (4, [.long 0, .int 0, .ref 18, .ref 21, .int 0, .int 0, .int 0]),
  .inr (4, [.long 0, .int 0, .ref 18, .ref 21, .int 0, .int 0, .int 0]),
  .inr (4, [.long 0, .int 0, .ref 18, .ref 21, .int 0, .int 0, .int 0]),
  .inr (4, [.long 0, .int 0, .ref 18, .ref 21, .int 0, .int 0, .int 0]),
  .inr (4, [.long 0, .int 0, .ref 18, .ref 21, .int 0, .int 0, .int 0]),
  .inr (4, [.long 0, .int 0, .ref 18, .ref 21, .int 0, .int 0, .int 0]),
  .inr (4, [.long 0, .int 0, .ref 18, .ref 21, .int 0, .int 0, .int 0]),
  .inr (4, [.long 0, .int 0, .ref 18, .ref 21, .int 0, .int 0, .int 0]),
  .inr (4, [.long 0, .int 0, .ref 18, .ref 21, .int 0, .int 0, .int 0]),
  .inr (4, [.long 0, .int 0, .ref 18, .ref 21, .int 0, .int 0, .int 0])]
def rl_m_7 : RHeap := [.inr (4, [.long 0, .int 0, .ref 18, .ref 21, .int 0, .int 0, .int 0]),
  .inr (4, [.long 0, .int 0, .ref 18, .ref 21, .int 0, .int 0, .int 0]),
  .inr (4, [.long 0, .int 0, .ref 18, .ref 21, .int 0, .int 0, .int 0]),
  .inr (4, [.long 0, .int 0, .ref 18, .ref 21, .int 0, .int 0, .int 0]),
  .inr (4, [.long 0, .int 0, .ref 18, .ref 21, .int 0, .int 0, .int 0]),
  .inr (4, [.long 0, .int 0, .ref 18, .ref 21, .int 0, .int 0, .int 0]),
  .inr (4, [.long 0, .int 0, .ref 18, .ref 21, .int 0, .int 0, .int 0]),
  .inr (4, [.long 0, .int 0, .ref 18, .ref 21, .int 0, .int 0, .int 0]),
  .inr (4, [.long 0, .int 0, .ref 18, .ref 21, .int 0, .int 0, .int 0]),
  .inr (4, [.long 0, .int 0, .ref 18, .ref 21, .int 0, .int 0, .int 0]),
  .inr (4, [.long 0, .int 0, .ref 18, .ref 21, .int 0, .int 0, .int 0]),
  .inr (4, [.long 0, .int 0, .ref 18, .ref 21, .int 0, .int 0, .int 0]),
  .inr (4, [.long 0, .int 0, .ref 18, .ref 21, .int 0, .int 0, .int 0]),
  .inr (4, [.long 0, .int 0, .ref 18, .ref 21, .int 0, .int 0, .int 0]),
  .inr (4, [.long 0, .int 0, .ref 18, .ref 21, .int 0, .int 0, .int 0]),
  .inr (4, [.long 0, .int 0, .ref 18, .ref 21, .int 0, .int 0, .int 0]),
  .inr (4, [.long 0, .int 0, .ref 18, .ref 21, .int 0, .int 0, .int 0]),
  .inr (4, [.long 0, .int 0, .ref 18, .ref 21, .int 0, .int 0, .int 0]),
  .inr (4, [.long 0, .int 0, .ref 18, .ref 21, .int 0, .int 0, .int 0]),
  .inr (4, [.long 0, .int 0, .ref 18, .ref 21, .int 0, .int 0, .int 0])]
def rl_m_8 : RHeap := [.inr (4, [.long 0, .int 0, .ref 18, .ref 21, .int 0, .int 0, .int 0]),
  .inr (2, [.ref 5, .ref 17, .ref 10, .int 0]),
  .inr (7, [.ref 5, .ref 17, .ref 10, .ref 161, .ref 163, .int 0]),
  .inl (0, 1500, []),
  .inr (3, [.ref 13, .ref 3, .ref 165, .ref 167, .ref 168, .ref 169, .int 0, .int 0, .int 0, .int 0, .int 0, .int 0, .int 0, .int (-1), .int 0, .int 0, .int 0, .int 0, .int 0]),
  .inr (8, [.ref 166, .int 0]),
  .inl (2, 1500, []),
  .inl (1, 3000, []),
  .inl (2, 3000, []),
  .inl (1, 512, []),
  .inr (12, [.ref 171, .ref 172, .ref 173, .int 0, .ref 174, .int 0, .int 0, .int (-1), .int 0, .int 0, .int 0, .long 0, .int 0, .int 0, .int 0, .int 14, .ref 175, .ref 176, .ref 177, .ref 178, .ref 179, .ref 180, .ref 181, .ref 182, .ref 183, .ref 184, .ref 185, .ref 186, .ref 187, .ref 188, .ref 189, .int 0, .int 0, .int 0, .int 0, .int 0, .int 0, .int 0, .int 0, .int 0, .int 0, .int 1, .ref 190, .ref 191, .ref 192, .int 0, .ref 193, .ref 194, .ref 195, .ref 196, .ref 197, .ref 198, .ref 199, .ref 200, .ref 201, .ref 202, .int (-1), .int 1, .ref 203, .ref 204, .ref 205, .ref 206, .int 0, .int 0, .ref 207, .int 0, .ref 208, .int 0, .ref 209, .int 0, .ref 210, .ref 211, .ref 212, .ref 213, .ref 214, .ref 215, .ref 216, .ref 217, .ref 218, .ref 219, .ref 220, .int 0, .int 0, .ref 221, .int 0, .ref 222, .ref 223, .int 0, .int 0, .int 0, .int 0, .ref 224, .ref 225, .ref 226, .ref 227, .ref 228, .ref 229, .int 0, .int 0, .int 0, .int 0, .int 0, .int (-1)]),
  .inl (0, 152, [(151, .int 14), (150, .int 12), (149, .int 5), (148, .int 20), (147, .int 9), (146, .int 18), (145, .int 23), (144, .int 7), (143, .int 5), (142, .int 20), (141, .int 9), (140, .int 18), (139, .int 23), (138, .int 5), (137, .int 4), (136, .int 1), (135, .int 5), (134, .int 18), (133, .int 4), (132, .int 14), (131, .int 9), (130, .int 2), (129, .int 20), (128, .int 15), (127, .int 14), (126, .int 3), (125, .int 18), (124, .int 15), (123, .int 2), (122, .int 4), (121, .int 14), (120, .int 1), (119, .int 3), (118, .int 4), (117, .int 15), (116, .int 13), (115, .int 3), (114, .int 22), (113, .int 9), (112, .int 4), (111, .int 3), (110, .int 20), (109, .int 5), (108, .int 19), (107, .int 3), (106, .int 25), (105, .int 1), (104, .int 18), (103, .int 18), (102, .int 1), (101, .int 5), (100, .int 6), (99, .int 15), (98, .int 2), (97, .int 5), (96, .int 19), (95, .int 1), (94, .int 3), (93, .int 4), (92, .int 15), (91, .int 20), (90, .int 14), (89, .int 23), (88, .int 15), (87, .int 4), (86, .int 6), (85, .int 15), (84, .int 20), (83, .int 2), (82, .int 18), (81, .int 15), (80, .int 6), (79, .int 3), (78, .int 12), (77, .int 9), (76, .int 20), (75, .int 14), (74, .int 21), (73, .int 5), (72, .int 20), (71, .int 1), (70, .int 5), (69, .int 16), (68, .int 5), (67, .int 18), (66, .int 6), (65, .int 15), (64, .int 4), (63, .int 2), (62, .int 5), (61, .int 12), (60, .int 9), (59, .int 8), (58, .int 23), (57, .int 5), (56, .int 5), (55, .int 19), (54, .int 12), (53, .int 5), (52, .int 4), (51, .int 14), (50, .int 5), (49, .int 8), (48, .int 20), (47, .int 4), (46, .int 6), (45, .int 9), (44, .int 2), (43, .int 4), (42, .int 14), (41, .int 5), (40, .int 3), (39, .int 14), (38, .int 9), (37, .int 7), (36, .int 5), (35, .int 2), (34, .int 5), (33, .int 14), (32, .int 15), (31, .int 9), (30, .int 20), (29, .int 3), (28, .int 14), (27, .int 21), (26, .int 6), (25, .int 8), (24, .int 5), (23, .int 18), (22, .int 21), (21, .int 4), (20, .int 5), (19, .int 3), (18, .int 15), (17, .int 18), (16, .int 16), (15, .int 9), (14, .int 18), (13, .int 1), (12, .int 22), (11, .int 3), (10, .int 5), (9, .int 16), (8, .int 25), (7, .int 20), (6, .int 4), (5, .int 20), (4, .int 19), (3, .int 14), (2, .int 15), (1, .int 3), (0, .int 5)]),
  .inl (0, 71, [(70, .int 14), (69, .int 12), (68, .int 15), (67, .int 5), (66, .int 4), (65, .int 6), (64, .int 15), (63, .int 5), (62, .int 3), (61, .int 18), (60, .int 17), (59, .int 19), (58, .int 3), (57, .int 19), (56, .int 2), (55, .int 1), (54, .int 3), (53, .int 4), (52, .int 4), (51, .int 15), (50, .int 3), (49, .int 4), (48, .int 5), (47, .int 18), (46, .int 16), (45, .int 4), (44, .int 3), (43, .int 3), (42, .int 21), (41, .int 19), (40, .int 4), (39, .int 18), (38, .int 8), (37, .int 3), (36, .int 3), (35, .int 4), (34, .int 18), (33, .int 15), (32, .int 3), (31, .int 5), (30, .int 21), (29, .int 18), (28, .int 20), (27, .int 4), (26, .int 5), (25, .int 19), (24, .int 12), (23, .int 1), (22, .int 6), (21, .int 5), (20, .int 14), (19, .int 1), (18, .int 5), (17, .int 12), (16, .int 15), (15, .int 15), (14, .int 2), (13, .int 7), (12, .int 18), (11, .int 1), (10, .int 8), (9, .int 3), (8, .int 4), (7, .int 18), (6, .int 5), (5, .int 7), (4, .int 5), (3, .int 20), (2, .int 14), (1, .int 9), (0, .int 7)]),
  .inl (1, 30, [(29, .long 60277786445), (28, .long 44030523), (27, .long 918640), (26, .long 347), (25, .long 19741), (24, .long 573), (23, .long 1891), (22, .long 18356), (21, .long 5831), (20, .long 26216), (19, .long 2810619), (18, .long 561), (17, .long 154036), (16, .long 306673183), (15, .long 755), (14, .long 8787), (13, .long 40094248), (12, .long 1258379381), (11, .long 163), (10, .long 43523697), (9, .long 270401), (8, .long 1024211), (7, .long 339), (6, .long 7367), (5, .long 4011517), (4, .long 624448981218), (3, .long 57947148581973), (2, .long 30173), (1, .long 1047882), (0, .long 6402167)]),
  .inl (0, 1500, []),
  .inl (1, 140, [(13, .long 274258), (12, .long 7406), (11, .long 26658), (10, .long 1462), (9, .long 20687), (8, .long 835279), (7, .long 991270), (6, .long 4421), (5, .long 21205), (4, .long 1038484), (3, .long 11312755), (2, .long 6200339320), (1, .long 162966), (0, .long 24100099350)]),
  .inl (0, 140, [(13, .int 5), (12, .int 5), (11, .int 5), (10, .int 5), (9, .int 5), (8, .int 5), (7, .int 5), (6, .int 5), (5, .int 5), (4, .int 0), (3, .int 0), (2, .int 1), (1, .int 1), (0, .int 1)]),
  .inl (0, 140, []),
  .inl (3, 140, []),
  .inl (0, 140, [(13, .int 2), (12, .int 2), (11, .int 2), (10, .int 2), (9, .int 2), (8, .int 2), (7, .int 2), (6, .int 2), (5, .int 2), (4, .int 2), (3, .int 2), (2, .int 2), (1, .int 1), (0, .int 0)])]
def rl_m_9 : RHeap := [.inl (3, 140, []),
  .inl (0, 140, [(13, .int 0), (12, .int 0), (11, .int 0), (10, .int 0), (9, .int 0), (8, .int 0), (7, .int 0), (6, .int 0), (5, .int 0), (4, .int 1), (3, .int 0), (2, .int 0), (1, .int 0), (0, .int 0)]),
  .inl (0, 140, []),
  .inl (3, 140, []),
  .inl (0, 140, []),
  .inl (0, 140, []),
  .inl (0, 140, []),
  .inl (0, 140, []),
  .inl (3, 140, []),
  .inl (0, 140, []),
  .inl (0, 8, [(1, .int 14)]),
  .inl (0, 8, [(1, .int 4)]),
  .inl (0, 8, [(1, .int 0)]),
  .inl (0, 240, [(0, .int 0)]),
  .inl (0, 240, [(0, .int 1)]),
  .inl (0, 240, [(0, .int 4)]),
  .inl (0, 240, []),
  .inl (3, 240, []),
  .inl (0, 1920, []),
  .inl (3, 1920, [])]
def rl_m_10 : RHeap := [.inl (3, 1920, []),
  .inl (0, 1920, []),
  .inl (0, 1920, []),
  .inl (0, 6000, [(0, .int 19)]),
  .inl (0, 6000, [(0, .int 0)]),
  .inl (0, 6000, [(0, .int 0)]),
  .inl (0, 6000, [(0, .int 0)]),
  .inl (0, 4000, []),
  .inl (0, 8000, []),
  .inl (0, 2000, []),
  .inl (0, 6000, [(0, .int 19)]),
  .inl (0, 6000, [(0, .int 0)]),
  .inl (0, 6000, [(0, .int 0)]),
  .inl (0, 6000, [(0, .int 0)]),
  .inl (0, 240, [(0, .int 0)]),
  .inl (0, 240, [(0, .int 1)]),
  .inl (0, 240, [(0, .int 4)]),
  .inl (0, 240, [(0, .int 0)]),
  .inl (3, 240, [(0, .int 0)]),
  .inl (0, 1500, [(1499, .int 0), (1498, .int 0), (1497, .int 0), (1496, .int 0), (1495, .int 0), (1494, .int 0), (1493, .int 0), (1492, .int 0), (1491, .int 0), (1490, .int 0), (1489, .int 0), (1488, .int 0), (1487, .int 0), (1486, .int 0), (1485, .int 0), (1484, .int 0), (1483, .int 0), (1482, .int 0), (1481, .int 0), (1480, .int 0), (1479, .int 0), (1478, .int 0), (1477, .int 0), (1476, .int 0), (1475, .int 0), (1474, .int 0), (1473, .int 0), (1472, .int 0), (1471, .int 0), (1470, .int 0), (1469, .int 0), (1468, .int 0), (1467, .int 0), (1466, .int 0), (1465, .int 0), (1464, .int 0), (1463, .int 0), (1462, .int 0), (1461, .int 0), (1460, .int 0), (1459, .int 0), (1458, .int 0), (1457, .int 0), (1456, .int 0), (1455, .int 0), (1454, .int 0), (1453, .int 0), (1452, .int 0), (1451, .int 0), (1450, .int 0), (1449, .int 0), (1448, .int 0), (1447, .int 0), (1446, .int 0), (1445, .int 0), (1444, .int 0), (1443, .int 0), (1442, .int 0), (1441, .int 0), (1440, .int 0), (1439, .int 0), (1438, .int 0), (1437, .int 0), (1436, .int 0), (1435, .int 0), (1434, .int 0), (1433, .int 0), (1432, .int 0), (1431, .int 0), (1430, .int 0), (1429, .int 0), (1428, .int 0), (1427, .int 0), (1426, .int 0), (1425, .int 0), (1424, .int 0), (1423, .int 0), (1422, .int 0), (1421, .int 0), (1420, .int 0), (1419, .int 0), (1418, .int 0), (1417, .int 0), (1416, .int 0), (1415, .int 0), (1414, .int 0), (1413, .int 0), (1412, .int 0), (1411, .int 0), (1410, .int 0), (1409, .int 0), (1408, .int 0), (1407, .int 0), (1406, .int 0), (1405, .int 0), (1404, .int 0), (1403, .int 0), (1402, .int 0), (1401, .int 0), (1400, .int 0), (1399, .int 0), (1398, .int 0), (1397, .int 0), (1396, .int 0), (1395, .int 0), (1394, .int 0), (1393, .int 0), (1392, .int 0), (1391, .int 0), (1390, .int 0), (1389, .int 0), (1388, .int 0), (1387, .int 0), (1386, .int 0), (1385, .int 0), (1384, .int 0), (1383, .int 0), (1382, .int 0), (1381, .int 0), (1380, .int 0), (1379, .int 0), (1378, .int 0), (1377, .int 0), (1376, .int 0), (1375, .int 0), (1374, .int 0), (1373, .int 0), (1372, .int 0), (1371, .int 0), (1370, .int 0), (1369, .int 0), (1368, .int 0), (1367, .int 0), (1366, .int 0), (1365, .int 0), (1364, .int 0), (1363, .int 0), (1362, .int 0), (1361, .int 0), (1360, .int 0), (1359, .int 0), (1358, .int 0), (1357, .int 0), (1356, .int 0), (1355, .int 0), (1354, .int 0), (1353, .int 0), (1352, .int 0), (1351, .int 0), (1350, .int 0), (1349, .int 0), (1348, .int 0), (1347, .int 0), (1346, .int 0), (1345, .int 0), (1344, .int 0), (1343, .int 0), (1342, .int 0), (1341, .int 0), (1340, .int 0), (1339, .int 0), (1338, .int 0), (1337, .int 0), (1336, .int 0), (1335, .int 0), (1334, .int 0), (1333, .int 0), (1332, .int 0), (1331, .int 0), (1330, .int 0), (1329, .int 0), (1328, .int 0), (1327, .int 0), (1326, .int 0), (1325, .int 0), (1324, .int 0), (1323, .int 0), (1322, .int 0), (1321, .int 0), (1320, .int 0), (1319, .int 0), (1318, .int 0), (1317, .int 0), (1316, .int 0), (1315, .int 0), (1314, .int 0), (1313, .int 0), (1312, .int 0), (1311, .int 0), (1310, .int 0), (1309, .int 0), (1308, .int 0), (1307, .int 0), (1306, .int 0), (1305, .int 0), (1304, .int 0), (1303, .int 0), (1302, .int 0), (1301, .int 0), (1300, .int 0), (1299, .int 0), (1298, .int 0), (1297, .int 0), (1296, .int 0), (1295, .int 0), (1294, .int 0), (1293, .int 0), (1292, .int 0), (1291, .int 0), (1290, .int 0), (1289, .int 0), (1288, .int 0), (1287, .int 0), (1286, .int 0), (1285, .int 0), (1284, .int 0), (1283, .int 0), (1282, .int 0), (1281, .int 0), (1280, .int 0), (1279, .int 0), (1278, .int 0), (1277, .int 0), (1276, .int 0), (1275, .int 0), (1274, .int 0), (1273, .int 0), (1272, .int 0), (1271, .int 0), (1270, .int 0), (1269, .int 0), (1268, .int 0), (1267, .int 0), (1266, .int 0), (1265, .int 0), (1264, .int 0), (1263, .int 0), (1262, .int 0), (1261, .int 0), (1260, .int 0), (1259, .int 0), (1258, .int 0), (1257, .int 0), (1256, .int 0), (1255, .int 0), (1254, .int 0), (1253, .int 0), (1252, .int 0), (1251, .int 0), (1250, .int 0), (1249, .int 0), (1248, .int 0), (1247, .int 0), (1246, .int 0), (1245, .int 0), (1244, .int 0), (1243, .int 0), (1242, .int 0), (1241, .int 0), (1240, .int 0), (1239, .int 0), (1238, .int 0), (1237, .int 0), (1236, .int 0), (1235, .int 0), (1234, .int 0), (1233, .int 0), (1232, .int 0), (1231, .int 0), (1230, .int 0), (1229, .int 0), (1228, .int 0), (1227, .int 0), (1226, .int 0), (1225, .int 0), (1224, .int 0), (1223, .int 0), (1222, .int 0), (1221, .int 0), (1220, .int 0), (1219, .int 0), (1218, .int 0), (1217, .int 0), (1216, .int 0), (1215, .int 0), (1214, .int 0), (1213, .int 0), (1212, .int 0), (1211, .int 0), (1210, .int 0), (1209, .int 0), (1208, .int 0), (1207, .int 0), (1206, .int 0), (1205, .int 0), (1204, .int 0), (1203, .int 0), (1202, .int 0), (1201, .int 0), (1200, .int 0), (1199, .int 0), (1198, .int 0), (1197, .int 0), (1196, .int 0), (1195, .int 0), (1194, .int 0), (1193, .int 0), (1192, .int 0), (1191, .int 0), (1190, .int 0), (1189, .int 0), (1188, .int 0), (1187, .int 0), (1186, .int 0), (1185, .int 0), (1184, .int 0), (1183, .int 0), (1182, .int 0), (1181, .int 0), (1180, .int 0), (1179, .int 0), (1178, .int 0), (1177, .int 0), (1176, .int 0), (1175, .int 0), (1174, .int 0), (1173, .int 0), (1172, .int 0), (1171, .int 0), (1170, .int 0), (1169, .int 0), (1168, .int 0), (1167, .int 0), (1166, .int 0), (1165, .int 0), (1164, .int 0), (1163, .int 0), (1162, .int 0), (1161, .int 0), (1160, .int 0), (1159, .int 0), (1158, .int 0), (1157, .int 0), (1156, .int 0), (1155, .int 0), (1154, .int 0), (1153, .int 0), (1152, .int 0), (1151, .int 0), (1150, .int 0), (1149, .int 0), (1148, .int 0), (1147, .int 0), (1146, .int 0), (1145, .int 0), (1144, .int 0), (1143, .int 0), (1142, .int 0), (1141, .int 0), (1140, .int 0), (1139, .int 0), (1138, .int 0), (1137, .int 0), (1136, .int 0), (1135, .int 0), (1134, .int 0), (1133, .int 0), (1132, .int 0), (1131, .int 0), (1130, .int 0), (1129, .int 0), (1128, .int 0), (1127, .int 0), (1126, .int 0), (1125, .int 0), (1124, .int 0), (1123, .int 0), (1122, .int 0), (1121, .int 0), (1120, .int 0), (1119, .int 0), (1118, .int 0), (1117, .int 0), (1116, .int 0), (1115, .int 0), (1114, .int 0), (1113, .int 0), (1112, .int 0), (1111, .int 0), (1110, .int 0), (1109, .int 0), (1108, .int 0), (1107, .int 0), (1106, .int 0), (1105, .int 0), (1104, .int 0), (1103, .int 0), (1102, .int 0), (1101, .int 0), (1100, .int 0), (1099, .int 0), (1098, .int 0), (1097, .int 0), (1096, .int 0), (1095, .int 0), (1094, .int 0), (1093, .int 0), (1092, .int 0), (1091, .int 0), (1090, .int 0), (1089, .int 0), (1088, .int 0), (1087, .int 0), (1086, .int 0), (1085, .int 0), (1084, .int 0), (1083, .int 0), (1082, .int 0), (1081, .int 0), (1080, .int 0), (1079, .int 0), (1078, .int 0), (1077, .int 0), (1076, .int 0), (1075, .int 0), (1074, .int 0), (1073, .int 0), (1072, .int 0), (1071, .int 0), (1070, .int 0), (1069, .int 0), (1068, .int 0), (1067, .int 0), (1066, .int 0), (1065, .int 0), (1064, .int 0), (1063, .int 0), (1062, .int 0), (1061, .int 0), (1060, .int 0), (1059, .int 0), (1058, .int 0), (1057, .int 0), (1056, .int 0), (1055, .int 0), (1054, .int 0), (1053, .int 0), (1052, .int 0), (1051, .int 0), (1050, .int 0), (1049, .int 0), (1048, .int 0), (1047, .int 0), (1046, .int 0), (1045, .int 0), (1044, .int 0), (1043, .int 0), (1042, .int 0), (1041, .int 0), (1040, .int 0), (1039, .int 0), (1038, .int 0), (1037, .int 0), (1036, .int 0), (1035, .int 0), (1034, .int 0), (1033, .int 0), (1032, .int 0), (1031, .int 0), (1030, .int 0), (1029, .int 0), (1028, .int 0), (1027, .int 0), (1026, .int 0), (1025, .int 0), (1024, .int 0), (1023, .int 0), (1022, .int 0), (1021, .int 0), (1020, .int 0), (1019, .int 0), (1018, .int 0), (1017, .int 0), (1016, .int 0), (1015, .int 0), (1014, .int 0), (1013, .int 0), (1012, .int 0), (1011, .int 0), (1010, .int 0), (1009, .int 0), (1008, .int 0), (1007, .int 0), (1006, .int 0), (1005, .int 0), (1004, .int 0), (1003, .int 0), (1002, .int 0), (1001, .int 0), (1000, .int 0), (999, .int 0), (998, .int 0), (997, .int 0), (996, .int 0), (995, .int 0), (994, .int 0), (993, .int 0), (992, .int 0), (991, .int 0), (990, .int 0), (989, .int 0), (988, .int 0), (987, .int 0), (986, .int 0), (985, .int 0), (984, .int 0), (983, .int 0), (982, .int 0), (981, .int 0), (980, .int 0), (979, .int 0), (978, .int 0), (977, .int 0), (976, .int 0), (975, .int 0), (974, .int 0), (973, .int 0), (972, .int 0), (971, .int 0), (970, .int 0), (969, .int 0), (968, .int 0), (967, .int 0), (966, .int 0), (965, .int 0), (964, .int 0), (963, .int 0), (962, .int 0), (961, .int 0), (960, .int 0), (959, .int 0), (958, .int 0), (957, .int 0), (956, .int 0), (955, .int 0), (954, .int 0), (953, .int 0), (952, .int 0), (951, .int 0), (950, .int 0), (949, .int 0), (948, .int 0), (947, .int 0), (946, .int 0), (945, .int 0), (944, .int 0), (943, .int 0), (942, .int 0), (941, .int 0), (940, .int 0), (939, .int 0), (938, .int 0), (937, .int 0), (936, .int 0), (935, .int 0), (934, .int 0), (933, .int 0), (932, .int 0), (931, .int 0), (930, .int 0), (929, .int 0), (928, .int 0), (927, .int 0), (926, .int 0), (925, .int 0), (924, .int 0), (923, .int 0), (922, .int 0), (921, .int 0), (920, .int 0), (919, .int 0), (918, .int 0), (917, .int 0), (916, .int 0), (915, .int 0), (914, .int 0), (913, .int 0), (912, .int 0), (911, .int 0), (910, .int 0), (909, .int 0), (908, .int 0), (907, .int 0), (906, .int 0), (905, .int 0), (904, .int 0), (903, .int 0), (902, .int 0), (901, .int 0), (900, .int 0), (899, .int 0), (898, .int 0), (897, .int 0), (896, .int 0), (895, .int 0), (894, .int 0), (893, .int 0), (892, .int 0), (891, .int 0), (890, .int 0), (889, .int 0), (888, .int 0), (887, .int 0), (886, .int 0), (885, .int 0), (884, .int 0), (883, .int 0), (882, .int 0), (881, .int 0), (880, .int 0), (879, .int 0), (878, .int 0), (877, .int 0), (876, .int 0), (875, .int 0), (874, .int 0), (873, .int 0), (872, .int 0), (871, .int 0), (870, .int 0), (869, .int 0), (868, .int 0), (867, .int 0), (866, .int 0), (865, .int 0), (864, .int 0), (863, .int 0), (862, .int 0), (861, .int 0), (860, .int 0), (859, .int 0), (858, .int 0), (857, .int 0), (856, .int 0), (855, .int 0), (854, .int 0), (853, .int 0), (852, .int 0), (851, .int 0), (850, .int 0), (849, .int 0), (848, .int 0), (847, .int 0), (846, .int 0), (845, .int 0), (844, .int 0), (843, .int 0), (842, .int 0), (841, .int 0), (840, .int 0), (839, .int 0), (838, .int 0), (837, .int 0), (836, .int 0), (835, .int 0), (834, .int 0), (833, .int 0), (832, .int 0), (831, .int 0), (830, .int 0), (829, .int 0), (828, .int 0), (827, .int 0), (826, .int 0), (825, .int 0), (824, .int 0), (823, .int 0), (822, .int 0), (821, .int 0), (820, .int 0), (819, .int 0), (818, .int 0), (817, .int 0), (816, .int 0), (815, .int 0), (814, .int 0), (813, .int 0), (812, .int 0), (811, .int 0), (810, .int 0), (809, .int 0), (808, .int 0), (807, .int 0), (806, .int 0), (805, .int 0), (804, .int 0), (803, .int 0), (802, .int 0), (801, .int 0), (800, .int 0), (799, .int 0), (798, .int 0), (797, .int 0), (796, .int 0), (795, .int 0), (794, .int 0), (793, .int 0), (792, .int 0), (791, .int 0), (790, .int 0), (789, .int 0), (788, .int 0), (787, .int 0), (786, .int 0), (785, .int 0), (784, .int 0), (783, .int 0), (782, .int 0), (781, .int 0), (780, .int 0), (779, .int 0), (778, .int 0), (777, .int 0), (776, .int 0), (775, .int 0), (774, .int 0), (773, .int 0), (772, .int 0), (771, .int 0), (770, .int 0), (769, .int 0), (768, .int 0), (767, .int 0), (766, .int 0), (765, .int 0), (764, .int 0), (763, .int 0), (762, .int 0), (761, .int 0), (760, .int 0), (759, .int 0), (758, .int 0), (757, .int 0), (756, .int 0), (755, .int 0), (754, .int 0), (753, .int 0), (752, .int 0), (751, .int 0), (750, .int 0), (749, .int 0), (748, .int 0), (747, .int 0), (746, .int 0), (745, .int 0), (744, .int 0), (743, .int 0), (742, .int 0), (741, .int 0), (740, .int 0), (739, .int 0), (738, .int 0), (737, .int 0), (736, .int 0), (735, .int 0), (734, .int 0), (733, .int 0), (732, .int 0), (731, .int 0), (730, .int 0), (729, .int 0), (728, .int 0), (727, .int 0), (726, .int 0), (725, .int 0), (724, .int 0), (723, .int 0), (722, .int 0), (721, .int 0), (720, .int 0), (719, .int 0), (718, .int 0), (717, .int 0), (716, .int 0), (715, .int 0), (714, .int 0), (713, .int 0), (712, .int 0), (711, .int 0), (710, .int 0), (709, .int 0), (708, .int 0), (707, .int 0), (706, .int 0), (705, .int 0), (704, .int 0), (703, .int 0), (702, .int 0), (701, .int 0), (700, .int 0), (699, .int 0), (698, .int 0), (697, .int 0), (696, .int 0), (695, .int 0), (694, .int 0), (693, .int 0), (692, .int 0), (691, .int 0), (690, .int 0), (689, .int 0), (688, .int 0), (687, .int 0), (686, .int 0), (685, .int 0), (684, .int 0), (683, .int 0), (682, .int 0), (681, .int 0), (680, .int 0), (679, .int 0), (678, .int 0), (677, .int 0), (676, .int 0), (675, .int 0), (674, .int 0), (673, .int 0), (672, .int 0), (671, .int 0), (670, .int 0), (669, .int 0), (668, .int 0), (667, .int 0), (666, .int 0), (665, .int 0), (664, .int 0), (663, .int 0), (662, .int 0), (661, .int 0), (660, .int 0), (659, .int 0), (658, .int 0), (657, .int 0), (656, .int 0), (655, .int 0), (654, .int 0), (653, .int 0), (652, .int 0), (651, .int 0), (650, .int 0), (649, .int 0), (648, .int 0), (647, .int 0), (646, .int 0), (645, .int 0), (644, .int 0), (643, .int 0), (642, .int 0), (641, .int 0), (640, .int 0), (639, .int 0), (638, .int 0), (637, .int 0), (636, .int 0), (635, .int 0), (634, .int 0), (633, .int 0), (632, .int 0), (631, .int 0), (630, .int 0), (629, .int 0), (628, .int 0), (627, .int 0), (626, .int 0), (625, .int 0), (624, .int 0), (623, .int 0), (622, .int 0), (621, .int 0), (620, .int 0), (619, .int 0), (618, .int 0), (617, .int 0), (616, .int 0), (615, .int 0), (614, .int 0), (613, .int 0), (612, .int 0), (611, .int 0), (610, .int 0), (609, .int 0), (608, .int 0), (607, .int 0), (606, .int 0), (605, .int 0), (604, .int 0), (603, .int 0), (602, .int 0), (601, .int 0), (600, .int 0), (599, .int 0), (598, .int 0), (597, .int 0), (596, .int 0), (595, .int 0), (594, .int 0), (593, .int 0), (592, .int 0), (591, .int 0), (590, .int 0), (589, .int 0), (588, .int 0), (587, .int 0), (586, .int 0), (585, .int 0), (584, .int 0), (583, .int 0), (582, .int 0), (581, .int 0), (580, .int 0), (579, .int 0), (578, .int 0), (577, .int 0), (576, .int 0), (575, .int 0), (574, .int 0), (573, .int 0), (572, .int 0), (571, .int 0), (570, .int 0), (569, .int 0), (568, .int 0), (567, .int 0), (566, .int 0), (565, .int 0), (564, .int 0), (563, .int 0), (562, .int 0), (561, .int 0), (560, .int 0), (559, .int 0), (558, .int 0), (557, .int 0), (556, .int 0), (555, .int 0), (554, .int 0), (553, .int 0), (552, .int 0), (551, .int 0), (550, .int 0), (549, .int 0), (548, .int 0), (547, .int 0), (546, .int 0), (545, .int 0), (544, .int 0), (543, .int 0), (542, .int 0), (541, .int 0), (540, .int 0), (539, .int 0), (538, .int 0), (537, .int 0), (536, .int 0), (535, .int 0), (534, .int 0), (533, .int 0), (532, .int 0), (531, .int 0), (530, .int 0), (529, .int 0), (528, .int 0), (527, .int 0), (526, .int 0), (525, .int 0), (524, .int 0), (523, .int 0), (522, .int 0), (521, .int 0), (520, .int 0), (519, .int 0), (518, .int 0), (517, .int 0), (516, .int 0), (515, .int 0), (514, .int 0), (513, .int 0), (512, .int 0), (511, .int 0), (510, .int 0), (509, .int 0), (508, .int 0), (507, .int 0), (506, .int 0), (505, .int 0), (504, .int 0), (503, .int 0), (502, .int 0), (501, .int 0), (500, .int 0), (499, .int 0), (498, .int 0), (497, .int 0), (496, .int 0), (495, .int 0), (494, .int 0), (493, .int 0), (492, .int 0), (491, .int 0), (490, .int 0), (489, .int 0), (488, .int 0), (487, .int 0), (486, .int 0), (485, .int 0), (484, .int 0), (483, .int 0), (482, .int 0), (481, .int 0), (480, .int 0), (479, .int 0), (478, .int 0), (477, .int 0), (476, .int 0), (475, .int 0), (474, .int 0), (473, .int 0), (472, .int 0), (471, .int 0), (470, .int 0), (469, .int 0), (468, .int 0), (467, .int 0), (466, .int 0), (465, .int 0), (464, .int 0), (463, .int 0), (462, .int 0), (461, .int 0), (460, .int 0), (459, .int 0), (458, .int 0), (457, .int 0), (456, .int 0), (455, .int 0), (454, .int 0), (453, .int 0), (452, .int 0), (451, .int 0), (450, .int 0), (449, .int 0), (448, .int 0), (447, .int 0), (446, .int 0), (445, .int 0), (444, .int 0), (443, .int 0), (442, .int 0), (441, .int 0), (440, .int 0), (439, .int 0), (438, .int 0), (437, .int 0), (436, .int 0), (435, .int 0), (434, .int 0), (433, .int 0), (432, .int 0), (431, .int 0), (430, .int 0), (429, .int 0), (428, .int 0), (427, .int 0), (426, .int 0), (425, .int 0), (424, .int 0), (423, .int 0), (422, .int 0), (421, .int 0), (420, .int 0), (419, .int 0), (418, .int 0), (417, .int 0), (416, .int 0), (415, .int 0), (414, .int 0), (413, .int 0), (412, .int 0), (411, .int 0), (410, .int 0), (409, .int 0), (408, .int 0), (407, .int 0), (406, .int 0), (405, .int 0), (404, .int 0), (403, .int 0), (402, .int 0), (401, .int 0), (400, .int 0), (399, .int 0), (398, .int 0), (397, .int 0), (396, .int 0), (395, .int 0), (394, .int 0), (393, .int 0), (392, .int 0), (391, .int 0), (390, .int 0), (389, .int 0), (388, .int 0), (387, .int 0), (386, .int 0), (385, .int 0), (384, .int 0), (383, .int 0), (382, .int 0), (381, .int 0), (380, .int 0), (379, .int 0), (378, .int 0), (377, .int 0), (376, .int 0), (375, .int 0), (374, .int 0), (373, .int 0), (372, .int 0), (371, .int 0), (370, .int 0), (369, .int 0), (368, .int 0), (367, .int 0), (366, .int 0), (365, .int 0), (364, .int 0), (363, .int 0), (362, .int 0), (361, .int 0), (360, .int 0), (359, .int 0), (358, .int 0), (357, .int 0), (356, .int 0), (355, .int 0), (354, .int 0), (353, .int 0), (352, .int 0), (351, .int 0), (350, .int 0), (349, .int 0), (348, .int 0), (347, .int 0), (346, .int 0), (345, .int 0), (344, .int 0), (343, .int 0), (342, .int 0), (341, .int 0), (340, .int 0), (339, .int 0), (338, .int 0), (337, .int 0), (336, .int 0), (335, .int 0), (334, .int 0), (333, .int 0), (332, .int 0), (331, .int 0), (330, .int 0), (329, .int 0), (328, .int 0), (327, .int 0), (326, .int 0), (325, .int 0), (324, .int 0), (323, .int 0), (322, .int 0), (321, .int 0), (320, .int 0), (319, .int 0), (318, .int 0), (317, .int 0), (316, .int 0), (315, .int 0), (314, .int 0), (313, .int 0), (312, .int 0), (311, .int 0), (310, .int 0), (309, .int 0), (308, .int 0), (307, .int 0), (306, .int 0), (305, .int 0), (304, .int 0), (303, .int 0), (302, .int 0), (301, .int 0), (300, .int 0), (299, .int 0), (298, .int 0), (297, .int 0), (296, .int 0), (295, .int 0), (294, .int 0), (293, .int 0), (292, .int 0), (291, .int 0), (290, .int 0), (289, .int 0), (288, .int 0), (287, .int 0), (286, .int 0), (285, .int 0), (284, .int 0), (283, .int 0), (282, .int 0), (281, .int 0), (280, .int 0), (279, .int 0), (278, .int 0), (277, .int 0), (276, .int 0), (275, .int 0), (274, .int 0), (273, .int 0), (272, .int 0), (271, .int 0), (270, .int 0), (269, .int 0), (268, .int 0), (267, .int 0), (266, .int 0), (265, .int 0), (264, .int 0), (263, .int 0), (262, .int 0), (261, .int 0), (260, .int 0), (259, .int 0), (258, .int 0), (257, .int 0), (256, .int 0), (255, .int 0), (254, .int 0), (253, .int 0), (252, .int 0), (251, .int 0), (250, .int 0), (249, .int 0), (248, .int 0), (247, .int 0), (246, .int 0), (245, .int 0), (244, .int 0), (243, .int 0), (242, .int 0), (241, .int 0), (240, .int 0), (239, .int 0), (238, .int 0), (237, .int 0), (236, .int 0), (235, .int 0), (234, .int 0), (233, .int 0), (232, .int 0), (231, .int 0), (230, .int 0), (229, .int 0), (228, .int 0), (227, .int 0), (226, .int 0), (225, .int 0), (224, .int 0), (223, .int 0), (222, .int 0), (221, .int 0), (220, .int 0), (219, .int 0), (218, .int 0), (217, .int 0), (216, .int 0), (215, .int 0), (214, .int 0), (213, .int 0), (212, .int 0), (211, .int 0), (210, .int 0), (209, .int 0), (208, .int 0), (207, .int 0), (206, .int 0), (205, .int 0), (204, .int 0), (203, .int 0), (202, .int 0), (201, .int 0), (200, .int 0), (199, .int 0), (198, .int 0), (197, .int 0), (196, .int 0), (195, .int 0), (194, .int 0), (193, .int 0), (192, .int 0), (191, .int 0), (190, .int 0), (189, .int 0), (188, .int 0), (187, .int 0), (186, .int 0), (185, .int 0), (184, .int 0), (183, .int 0), (182, .int 0), (181, .int 0), (180, .int 0), (179, .int 0), (178, .int 0), (177, .int 0), (176, .int 0), (175, .int 0), (174, .int 0), (173, .int 0), (172, .int 0), (171, .int 0), (170, .int 0), (169, .int 0), (168, .int 0), (167, .int 0), (166, .int 0), (165, .int 0), (164, .int 0), (163, .int 0), (162, .int 0), (161, .int 0), (160, .int 0), (159, .int 0), (158, .int 0), (157, .int 0), (156, .int 0), (155, .int 0), (154, .int 0), (153, .int 0), (152, .int 0), (151, .int 0), (150, .int 0), (149, .int 0), (148, .int 0), (147, .int 0), (146, .int 0), (145, .int 0), (144, .int 0), (143, .int 0), (142, .int 0), (141, .int 0), (140, .int 0), (139, .int 0), (138, .int 0), (137, .int 0), (136, .int 0), (135, .int 0), (134, .int 0), (133, .int 0), (132, .int 0), (131, .int 0), (130, .int 0), (129, .int 0), (128, .int 0), (127, .int 0), (126, .int 0), (125, .int 0), (124, .int 0), (123, .int 0), (122, .int 0), (121, .int 0), (120, .int 0), (119, .int 0), (118, .int 0), (117, .int 0), (116, .int 0), (115, .int 0), (114, .int 0), (113, .int 0), (112, .int 0), (111, .int 0), (110, .int 0), (109, .int 0), (108, .int 0), (107, .int 0), (106, .int 0), (105, .int 0), (104, .int 0), (103, .int 0), (102, .int 0), (101, .int 0), (100, .int 0), (99, .int 0), (98, .int 0), (97, .int 0), (96, .int 0), (95, .int 0), (94, .int 0), (93, .int 0), (92, .int 0), (91, .int 0), (90, .int 0), (89, .int 0), (88, .int 0), (87, .int 0), (86, .int 0), (85, .int 0), (84, .int 0), (83, .int 0), (82, .int 0), (81, .int 0), (80, .int 0), (79, .int 0), (78, .int 0), (77, .int 0), (76, .int 0), (75, .int 0), (74, .int 0), (73, .int 0), (72, .int 0), (71, .int 0), (70, .int 0), (69, .int 0), (68, .int 0), (67, .int 0), (66, .int 0), (65, .int 0), (64, .int 0), (63, .int 0), (62, .int 0), (61, .int 0), (60, .int 0), (59, .int 0), (58, .int 0), (57, .int 0), (56, .int 0), (55, .int 0), (54, .int 0), (53, .int 0), (52, .int 0), (51, .int 0), (50, .int 0), (49, .int 0), (48, .int 0), (47, .int 0), (46, .int 0), (45, .int 0), (44, .int 0), (43, .int 0), (42, .int 0), (41, .int 0), (40, .int 0), (39, .int 0), (38, .int 0), (37, .int 0), (36, .int 0), (35, .int 0), (34, .int 0), (33, .int 0), (32, .int 0), (31, .int 0), (30, .int 0), (29, .int 0), (28, .int 0), (27, .int 0), (26, .int 0), (25, .int 0), (24, .int 0), (23, .int 0), (22, .int 0), (21, .int 0), (20, .int 0), (19, .int 0), (18, .int 0), (17, .int 0), (16, .int 0), (15, .int 0), (14, .int 0), (13, .int 0), (12, .int 0), (11, .int 0), (10, .int 0), (9, .int 0), (8, .int 0), (7, .int 0), (6, .int 0), (5, .int 0), (4, .int 0), (3, .int 0), (2, .int 0), (1, .int 0), (0, .int 0)])]
def rl_m_11 : RHeap := [.inl (0, 1500, []),
  .inl (0, 1500, []),
  .inl (1, 3000, []),
  .inl (3, 3000, []),
  .inl (0, 200, []),
  .inl (0, 200, []),
  .inl (0, 200, []),
  .inl (0, 200, []),
  .inl (0, 200, []),
  .inl (1, 70000, [])]
def rl_m : RHeap := rl_m_0 ++ (rl_m_1 ++ (rl_m_2 ++ (rl_m_3 ++ (rl_m_4 ++ (rl_m_5 ++ (rl_m_6 ++ (rl_m_7 ++ (rl_m_8 ++ (rl_m_9 ++ (rl_m_10 ++ (rl_m_11)))))))))))
def rl_x0 : RHeap := [.inr (11, [.null, .null, .null, .null, .null, .null, .null])]
def rl_m0 : RHeap := rl_x ++ [.inr (12, [.null, .null, .null, .int 0, .null, .int 0, .int 0, .int 0, .int 0, .int 0, .int 0, .long 0, .int 0, .int 0, .int 0, .int 0, .null, .null, .null, .null, .null, .null, .null, .null, .null, .null, .null, .null, .null, .null, .null, .int 0, .int 0, .int 0, .int 0, .int 0, .int 0, .int 0, .int 0, .int 0, .int 0, .int 0, .null, .null, .null, .int 0, .null, .null, .null, .null, .null, .null, .null, .null, .null, .null, .int 0, .int 0, .null, .null, .null, .null, .int 0, .int 0, .null, .int 0, .null, .int 0, .null, .int 0, .null, .null, .null, .null, .null, .null, .null, .null, .null, .null, .null, .int 0, .int 0, .null, .int 0, .null, .null, .int 0, .int 0, .int 0, .int 0, .null, .null, .null, .null, .null, .null, .int 0, .int 0, .int 0, .int 0, .int 0, .int 0])]
def rx_eqr (o : Option RRes) (h : RHeap) (mc ms : Nat) : Bool := match o with
  | some (.inl none, h2, a, b) => decide (h2 = h) && Nat.beq a mc && Nat.beq b ms
  | _ => false
theorem rx_eqr_of {o : Option RRes} {h : RHeap} {mc ms : Nat} (hh : rx_eqr o h mc ms = true) : o = some (.inl none, h, mc, ms) := by
  unfold rx_eqr at hh
  split at hh
  · rw [Bool.and_eq_true, Bool.and_eq_true] at hh
    have e1 := of_decide_eq_true hh.1.1
    have e2 := Nat.eq_of_beq_eq_true hh.1.2
    have e3 := Nat.eq_of_beq_eq_true hh.2
    subst e1 e2 e3
    rfl
  · cases hh
set_option maxRecDepth 1000000 in
theorem rt_x : rx_eqr (rf_call rl_O ([], [], []) rl_P0 100000 12 1 [.ref 0] rl_x0) rl_x 169 26440 = true := by decide +kernel
end
section
set_option maxRecDepth 1000000 in
theorem rt_m : rx_eqr (rf_call rl_O ([], [], []) rl_P0 100000 12 22 [.ref 170] rl_m0) rl_m 59 159377 = true := by decide +kernel
end
section
def rl_B1 : List Int32 := [99, 111, 110, 115, 116, 32, 116, 121, 112, 101, 32, 118, 97, 114, 32, 112, 114, 111, 99, 101, 100, 117, 114, 101, 32, 102, 117, 110, 99, 116, 105, 111, 110, 32, 98, 101, 103, 105, 110, 32, 101, 110, 100, 32, 105, 102, 32, 116, 104, 101, 110, 32, 101, 108, 115, 101, 32, 119, 104, 105, 108, 101, 32, 100, 111, 32, 114, 101, 112, 101, 97, 116, 32, 117, 110, 116, 105, 108, 32, 102, 111, 114, 32, 116, 111, 32, 100, 111, 119, 110, 116, 111, 32, 99, 97, 115, 101, 32, 111, 102, 32, 97, 114, 114, 97, 121, 32, 115, 101, 116, 32, 100, 105, 118, 32, 109, 111, 100, 32, 97, 110, 100, 32, 111, 114, 32, 110, 111, 116, 32, 105, 110, 32, 114, 101, 97, 100, 32, 119, 114, 105, 116, 101, 32, 119, 114, 105, 116, 101, 108, 110]
def rl_B2 : List Int32 := [105, 110, 116, 101, 103, 101, 114, 32, 99, 104, 97, 114, 32, 98, 111, 111, 108, 101, 97, 110, 32, 102, 97, 108, 115, 101, 32, 116, 114, 117, 101, 32, 111, 114, 100, 32, 99, 104, 114, 32, 115, 117, 99, 99, 32, 112, 114, 101, 100, 32, 111, 100, 100, 32, 97, 98, 115, 32, 115, 113, 114, 32, 101, 111, 102, 32, 101, 111, 108, 110]
theorem rl_b1_eq : rl_b1 = rl_B1.map Value.int := by decide +kernel
theorem rl_b2_eq : rl_b2 = rl_B2.map Value.int := by decide +kernel
def rl_tm (i : Nat) : Term := match i with
  | 0 => .string RX10 33
  | _ => .string RX5 55
def rl_flat : List Jvm.Cond := flatC (Jvm.Cond.and given_1 narrow_1)
theorem rl_s1 : (List.range 2).all (fun i => decide (Jvm.Cond.exactly (rl_tm i) "java/lang/String" ∈ rl_flat) && decide (Jvm.Cond.eq (.field (rl_tm i) "java/lang/String" "coder" "B") (.int 0) ∈ rl_flat) && decide (Jvm.Cond.arrayOf (.field (rl_tm i) "java/lang/String" "value" "[B") .byte ∈ rl_flat) && decide (Jvm.Cond.eq (.length (.field (rl_tm i) "java/lang/String" "value" "[B")) (.int (Int32.ofNat ([151, 70].getD i 0))) ∈ rl_flat)) = true := by decide +kernel
theorem rl_s2 : (rl_flat.drop 253).take 151 = (List.range 151).map (fun j => Jvm.Cond.eq (.elem (.field (rl_tm 0) "java/lang/String" "value" "[B") (.int (Int32.ofNat j))) (.int (rl_B1.getD j 0))) := by decide +kernel
theorem rl_s3 : (rl_flat.drop 408).take 70 = (List.range 70).map (fun j => Jvm.Cond.eq (.elem (.field (rl_tm 1) "java/lang/String" "value" "[B") (.int (Int32.ofNat j))) (.int (rl_B2.getD j 0))) := by decide +kernel
theorem rl_s4 : (decide (Jvm.Cond.not (Jvm.Cond.eq (rl_tm 0) (rl_tm 1)) ∈ rl_flat) || decide (Jvm.Cond.not (Jvm.Cond.eq (rl_tm 1) (rl_tm 0)) ∈ rl_flat)) = true := by decide +kernel
theorem rl_s5 : decide (Jvm.Cond.exactly (.string RX11 66) "java/lang/String" ∈ rl_flat) && decide (Jvm.Cond.exactly (.string RX11 113) "java/lang/String" ∈ rl_flat) && decide (Jvm.Cond.exactly (.string RX11 144) "java/lang/String" ∈ rl_flat) && decide (Jvm.Cond.exactly (.string RX10 150) "java/lang/String" ∈ rl_flat) && decide (Jvm.Cond.eq (.static "java/lang/String" "COMPACT_STRINGS" "Z") (.int 1) ∈ rl_flat) && decide (Jvm.Cond.isRef (.static "jdk/internal/util/Preconditions" "SIOOBE_FORMATTER" "Ljava/util/function/BiFunction;") ∈ rl_flat) && decide (Jvm.Cond.isRef (.static Bundle.tN "UNASSIGNED_STACK" Bundle.steD) ∈ rl_flat) && decide (Jvm.Cond.isRef (.static Bundle.tN "SUPPRESSED_SENTINEL" Bundle.listD) ∈ rl_flat) = true := by decide +kernel
theorem rl_arr {s : State} {args : Array Value} (hts : ∀ w ∈ lw_tbl, w.before args s = true) : ∃ cA : Nat → ClassId, ∀ (k : Nat) (q : ClassId × FieldType), (rx_tys cA)[k]? = some q → ArrOfT s q.1 q.2 ∧ va_RA s q.1 q.2 := by
  have hp : ∀ ty : FieldType, (Jvm.Cond.arrayClass ty).before args s = true → (∀ n, ty ≠ .object n) → ∃ c, ArrOfT s c ty ∧ va_RA s c ty := by
    intro ty h hn
    obtain ⟨c, k, comp, g1, g2, g3⟩ := Cond.arrayClass_spec (show (Cond.arrayClass ty).holds args s none s [] = true from h)
    refine ⟨c, fun N z => ⟨(fun k h => by cases h), k, g2, comp, g3⟩, ?_⟩
    cases ty with
    | object n => exact absurd rfl (hn n)
    | _ => exact g1
  have hq : ∀ n : String, (Jvm.Cond.arrayOver (.object n)).before args s = true → ∃ c, ArrOfT s c (.object n) ∧ va_RA s c (.object n) := by
    intro n h
    obtain ⟨comp, c, k, g1, g2, g3, g4, g5⟩ := Cond.arrayOver_spec (show (Cond.arrayOver (.object n)).holds args s none s [] = true from h)
    exact ⟨c, fun N z => ⟨(fun k h => by cases h), k, g3, comp, g4⟩, k, comp, g3, g4, g1, g5⟩
  obtain ⟨c0, h0⟩ := hp .int (hts _ (List.mem_of_getElem? (i := 328) (by decide +kernel))) (fun n z => by cases z)
  obtain ⟨c1, h1⟩ := hp .long (hts _ (List.mem_of_getElem? (i := 327) (by decide +kernel))) (fun n z => by cases z)
  obtain ⟨c2, h2⟩ := hp .byte (hts _ (List.mem_of_getElem? (i := 230) (by decide +kernel))) (fun n z => by cases z)
  obtain ⟨c3, h3⟩ := hp .boolean (hts _ (List.mem_of_getElem? (i := 450) (by decide +kernel))) (fun n z => by cases z)
  obtain ⟨c4, h4⟩ := hq RX4 (hts _ (List.mem_of_getElem? (i := 493) (by decide +kernel)))
  obtain ⟨c5, h5⟩ := hq RX9 (hts _ (List.mem_of_getElem? (i := 411) (by decide +kernel)))
  refine ⟨fun t => match t with | 0 => c0 | 1 => c1 | 2 => c2 | 3 => c3 | 4 => c4 | _ => c5, fun k q hk => ?_⟩
  match k, hk with
  | 0, hk => cases hk; exact h0
  | 1, hk => cases hk; exact h1
  | 2, hk => cases hk; exact h2
  | 3, hk => cases hk; exact h3
  | 4, hk => cases hk; exact h4
  | 5, hk => cases hk; exact h5
  | k + 6, hk => cases hk
theorem rl_vkR {own tx : String} {k a : Nat} {A : Array Value} {U : State} (h1 : (Jvm.Cond.stringRef own k tx).before A U = true) (h2 : (Term.string own k).eval A U none [] U = some (.ref a)) : vk_R own k tx a U := vk_R.of h1 h2
theorem rl_env {s : State} {b L : Nat} {xs : Nat → Int32} {rho : UInt32 → Int32} (hts : ∀ w ∈ lw_tbl, w.before #[Value.ref b] s = true) (hgv : (Jvm.Cond.and given_1 narrow_1).before #[Value.ref b] s = true) (hX : va_X b L xs s s.heap) (hbl : b < s.heap.size) :
    ∃ (D : va_G) (cA : Nat → ClassId) (old : Nat → Nat), old 0 = b ∧ ∀ sc : List Value, sc.length = L → (∀ (i : Nat) (v : Value), sc[i]? = some v → ∀ old ads, rx_R old rho ads v (.int (xs i))) → rx_E (rl_O1, (0, 0, sc) :: rl_O.2) D cA (fun q => s.heap.size ≤ q) old rho s := by
  have hs : ∀ w ∈ rl_flat, w.before #[Value.ref b] s = true := flat_of_before _ hgv
  have htg : ∀ w ∈ rc_good, w.before #[Value.ref b] s = true := fun w hw => hts w (List.mem_filter.mp hw).1
  have hA : ∀ a : Nat, a < s.heap.size → ¬ s.heap.size ≤ a := fun a h1 h2 => Nat.not_lt.mpr h2 h1
  have h0 : ∀ ci : Nat, ∃ q : ClassId × (Nat → Nat), ∀ r : vw_C, rc_cls[ci]? = some r → u_Kn s r.1 r.2.1 r.2.2 q.1 q.2 := by
    intro ci
    cases hc : rc_cls[ci]? with
    | none => exact ⟨(0, fun _ => 0), fun r hr => by cases hr⟩
    | some r =>
      obtain ⟨C, T, N⟩ := r
      obtain ⟨cC, iS, hk⟩ := u_known (n := N) htg (rc_ws_in hc) (rx_kw1 htg ci _ hc).1
      exact ⟨(cC, iS), fun r hr => by cases hr; exact hk⟩
  obtain ⟨dd, hdd⟩ := Classical.axiomOfChoice h0
  obtain ⟨cA, hcA⟩ := rl_arr hts
  have hK : va_K (fun c => (dd c).1, fun c => (dd c).2) rc_cls (rx_tys cA) s := ⟨fun c q hq => hdd c q hq, hcA⟩
  have hs1 : ∀ i, i < 2 → _ := fun i hi => List.all_eq_true.mp rl_s1 i (List.mem_range.mpr hi)
  simp only [Bool.and_eq_true, decide_eq_true_eq] at hs1
  have e5 := rl_s5
  simp only [Bool.and_eq_true, decide_eq_true_eq] at e5
  obtain ⟨⟨⟨⟨⟨⟨⟨z1, z2⟩, z3⟩, z4⟩, z5⟩, z6⟩, z7⟩, z8⟩ := e5
  obtain ⟨adK, adV, hS, hev⟩ := vk_Sof (args := #[Value.ref b]) (s := s) (N := 2) (tm := rl_tm) (len := [151, 70]) (byt := [rl_B1, rl_B2]) (A := fun q => s.heap.size ≤ q)
    (fun i hi => by rcases (show i = 0 ∨ i = 1 by omega) with rfl | rfl <;> decide)
    (fun i hi => hs _ (hs1 i hi).1.1.1) (fun i hi => hs _ (hs1 i hi).1.1.2) (fun i hi => hs _ (hs1 i hi).1.2) (fun i hi => hs _ (hs1 i hi).2)
    (fun i hi j hj => by
      rcases (show i = 0 ∨ i = 1 by omega) with rfl | rfl
      · exact hs _ (List.mem_of_mem_drop (i := 253) (List.mem_of_mem_take (i := 151) (by rw [rl_s2]; exact List.mem_map.mpr ⟨j, List.mem_range.mpr hj, rfl⟩)))
      · exact hs _ (List.mem_of_mem_drop (i := 408) (List.mem_of_mem_take (i := 70) (by rw [rl_s3]; exact List.mem_map.mpr ⟨j, List.mem_range.mpr hj, rfl⟩))))
    (fun i j hi hj hij => by
      have h4 := rl_s4
      simp only [Bool.or_eq_true, decide_eq_true_eq] at h4
      rcases (show (i = 0 ∧ j = 1) ∨ (i = 1 ∧ j = 0) by omega) with ⟨rfl, rfl⟩ | ⟨rfl, rfl⟩
      · exact h4.elim (fun z => Or.inl (hs _ z)) (fun z => Or.inr (hs _ z))
      · exact h4.elim (fun z => Or.inr (hs _ z)) (fun z => Or.inl (hs _ z)))
    hA
  obtain ⟨e0, -, -, -, q0, -⟩ := Cond.exactly_spec (args := #[Value.ref b]) (first := s) (o := none) (s := s) (idx := []) (hs _ z1)
  obtain ⟨e1, -, -, -, q1, -⟩ := Cond.exactly_spec (args := #[Value.ref b]) (first := s) (o := none) (s := s) (idx := []) (hs _ z2)
  obtain ⟨e2, -, -, -, q2, -⟩ := Cond.exactly_spec (args := #[Value.ref b]) (first := s) (o := none) (s := s) (idx := []) (hs _ z3)
  obtain ⟨e3, -, -, -, q3, -⟩ := Cond.exactly_spec (args := #[Value.ref b]) (first := s) (o := none) (s := s) (idx := []) (hs _ z4)
  have hv0 := hev 0 (by decide)
  have hv1 := hev 1 (by decide)
  obtain ⟨o1, o2, o3, o4⟩ := hS.1 0 (by decide)
  obtain ⟨p1, p2, p3, p4⟩ := hS.1 1 (by decide)
  refine ⟨_, cA, fun j => match j with | 0 => b | 1 => adK 0 | 2 => adV 0 | 3 => adK 1 | 4 => adV 1 | 10 => e0 | 11 => e1 | 12 => e2 | 13 => e3 | _ => 0, rfl, fun sc hlen hsc => ⟨hK, fun q hq => hq, ?_, ?_, ?_, ?_, ?_, ?_, ?_, ?_, ?_, ?_, ?_, ?_, ?_, ?_, ?_, ?_, ?_, ?_, ?_, ?_, ?_, ?_⟩⟩
  · intro q hq
    simp only [rl_O1, List.mem_cons, List.not_mem_nil, or_false] at hq
    rcases hq with rfl | rfl | rfl | rfl
    · exact ⟨RJ0, TJ0, 4, .ref (adV 0), rfl, o3, o1, fun ads => Or.inr (Or.inl ⟨by decide, by decide, rfl⟩)⟩
    · exact ⟨RJ0, TJ0, 4, .int 0, rfl, o2, o1, fun ads => rfl⟩
    · exact ⟨RJ0, TJ0, 4, .ref (adV 1), rfl, p3, p1, fun ads => Or.inr (Or.inl ⟨by decide, by decide, rfl⟩)⟩
    · exact ⟨RJ0, TJ0, 4, .int 0, rfl, p2, p1, fun ads => rfl⟩
  · intro q hq
    simp only [rl_O, List.mem_cons, List.not_mem_nil, or_false] at hq
    rcases hq with rfl | rfl | rfl
    · refine ⟨.int, fun j => .int (xs j), rfl, ?_, fun i v hv ads => hsc i v hv _ ads⟩
      obtain ⟨scr, g1, g2, g3, g4, g5⟩ := hX
      show va_T .int b sc.length _ _ s s.heap
      rw [hlen]
      exact ⟨scr, g1, g2, g3, Nat.le_of_eq g4.symm, by rw [g4], g5, hA b hbl⟩
    · refine ⟨.byte, _, rfl, o4, fun i v hv ads => ?_⟩
      have hv : rl_b1[i]? = some v := hv
      rw [rl_b1_eq, List.getElem?_map] at hv
      obtain ⟨w, hw, rfl⟩ := Option.map_eq_some_iff.mp hv
      show Value.int (rl_B1.getD i 0) = .int w
      rw [List.getD_eq_getElem?_getD, hw]
      rfl
    · refine ⟨.byte, _, rfl, p4, fun i v hv ads => ?_⟩
      have hv : rl_b2[i]? = some v := hv
      rw [rl_b2_eq, List.getElem?_map] at hv
      obtain ⟨w, hw, rfl⟩ := Option.map_eq_some_iff.mp hv
      show Value.int (rl_B2.getD i 0) = .int w
      rw [List.getD_eq_getElem?_getD, hw]
      rfl
  · exact va_Zof (hts _ (List.mem_of_getElem? (i := 250) (by decide +kernel))) (hts _ (List.mem_of_getElem? (i := 183) (by decide +kernel))) (va_eqt (hs _ z5)) hA
  · exact va_Zqof (hts _ (List.mem_of_getElem? (i := 266) (by decide +kernel))) (hts _ (List.mem_of_getElem? (i := 185) (by decide +kernel))) (hs _ z6) hA
  · exact va_AO.of (hts _ (List.mem_of_getElem? (i := 493) (by decide +kernel)))
  · exact va_AO.of (hts _ (List.mem_of_getElem? (i := 411) (by decide +kernel)))
  · exact va_Nw.of rfl (hts _ (List.mem_of_getElem? (i := 219) (by decide +kernel)))
  · exact va_Nw.of rfl (hts _ (List.mem_of_getElem? (i := 331) (by decide +kernel)))
  · exact va_Nw.of rfl (hts _ (List.mem_of_getElem? (i := 596) (by decide +kernel)))
  · exact rl_vkR (hts _ (List.mem_of_getElem? (i := 237) (by decide +kernel))) hv0
  · exact rl_vkR (hts _ (List.mem_of_getElem? (i := 494) (by decide +kernel))) hv1
  · exact va_Nw.of rfl (hts _ (List.mem_of_getElem? (i := 1309) (by decide +kernel)))
  · exact va_Nw.of rfl (hts _ (List.mem_of_getElem? (i := 786) (by decide +kernel)))
  · exact vx_Zqof (hts _ (List.mem_of_getElem? (i := 811) (by decide +kernel))) (hts _ (List.mem_of_getElem? (i := 200) (by decide +kernel))) (hs _ z7) hA
  · exact vx_Zqof (hts _ (List.mem_of_getElem? (i := 813) (by decide +kernel))) (hts _ (List.mem_of_getElem? (i := 200) (by decide +kernel))) (hs _ z8) hA
  · exact rl_vkR (hts _ (List.mem_of_getElem? (i := 1316) (by decide +kernel))) q0
  · exact rl_vkR (hts _ (List.mem_of_getElem? (i := 1334) (by decide +kernel))) q1
  · exact rl_vkR (hts _ (List.mem_of_getElem? (i := 1778) (by decide +kernel))) q2
  · exact rl_vkR (hts _ (List.mem_of_getElem? (i := 824) (by decide +kernel))) q3
  · exact va_Nw.of rfl (hts _ (List.mem_of_getElem? (i := 788) (by decide +kernel)))
  · exact va_Nw.of rfl (hts _ (List.mem_of_getElem? (i := 790) (by decide +kernel)))
  · exact va_Nw.of rfl (hts _ (List.mem_of_getElem? (i := 792) (by decide +kernel)))
end
section
/-! every method of the table, checked -/
/-- bytes compared one behind another -/
def rx_bys : List UInt8 → List UInt8 → Bool
  | [], [] => true
  | a :: l, b :: k => Nat.beq a.toNat b.toNat && rx_bys l k
  | _, _ => false
theorem rx_bys_of : ∀ {l k : List UInt8}, rx_bys l k = true → l = k
  | [], [], _ => rfl
  | [], _ :: _, h => by cases h
  | _ :: _, [], h => by cases h
  | a :: l, b :: k, h => by
    unfold rx_bys at h
    rw [Bool.and_eq_true] at h
    have h1 := UInt8.toNat_inj.mp (Nat.eq_of_beq_eq_true h.1)
    rw [h1, rx_bys_of h.2]
def rx_ceq (x : Option Jvm.Cond) (n : MethodName) (b : ByteArray) (ml : Nat) (r : Option FieldType) : Bool := match x with
  | some (.code n2 b2 m2 r2) => decide (n2 = n) && rx_bys b2.data.toList b.data.toList && Nat.beq m2 ml && decide (r2 = r)
  | _ => false
theorem rx_ceq_of {w : Nat} {n : MethodName} {b : ByteArray} {ml : Nat} {r : Option FieldType} (h : rx_ceq (rx_nth lw_tbl w) n b ml r = true) (hg : goodWord (.code n b ml r) = true) : rx_wd w (.code n b ml r) = true := by
  unfold rx_ceq at h
  unfold rx_wd
  split at h
  · rename_i n2 b2 m2 r2 e
    rw [Bool.and_eq_true, Bool.and_eq_true, Bool.and_eq_true] at h
    obtain ⟨⟨⟨h1, h2⟩, h3⟩, h4⟩ := h
    have h1 := of_decide_eq_true h1
    have h2 := rx_bys_of h2
    have h3 := Nat.eq_of_beq_eq_true h3
    have h4 := of_decide_eq_true h4
    have h2 : b2 = b := by
      cases b2; cases b
      congr
      exact Array.toList_inj.mp h2
    subst h1 h2 h3 h4
    rw [e]
    show (decide _ && _) = true
    rw [hg, Bool.and_true]
    exact decide_eq_true rfl
  · cases h
theorem rx_aok_sp {ini : Bool} {own : String} {sigs : List RSig} {x mi n a w : Nat} {sg : RSig} (h : rx_nth sigs mi = some sg) (h1 : rx_wd w (.methodLink own x sg.1) = true) (h2 : sg.1.name = "<init>") (h3 : sg.2.2.1 = none) (h4 : rx_sigok sg n = true) (h5 : sg.2.2.2.2.2.2.2.1 = []) (h6 : rx_sgok sg = true) (h7 : rx_wd sg.2.2.2.2.1 (.instanceMethod sg.1) = true) : rx_aok ini own sigs (.invokespecial x) [mi, n, a, w] = true := by
  unfold rx_aok
  simp only [h, h1, h2, h3, h4, h5, h6, h7, decide_true, Bool.true_or, Bool.true_and, Bool.and_self, List.isEmpty_nil]
abbrev rp_s22 : RSig := (yX12_init, cX12_init, (none : Option FieldType), 1783, 1782, 0, 199, [], 3)
set_option maxRecDepth 100000 in
theorem rk_w1783 : rx_ceq (rx_nth lw_tbl 1783) yX12_init cX12_init 3 none = true := by decide +kernel
set_option maxRecDepth 100000 in
theorem rk_s22a : rx_wd 199 (.initialized yX12_init.cls) = true := by decide +kernel
theorem rk_s22 : rx_sgok rp_s22 = true := by
  have h : rx_wd 1783 (.code yX12_init cX12_init 3 none) = true := rx_ceq_of rk_w1783 rfl
  show (rx_wd 1783 (.code yX12_init cX12_init 3 none) && rx_wd 199 (.initialized yX12_init.cls) && Nat.ble 3 40) = true
  rw [h, rk_s22a]
  rfl
set_option maxRecDepth 100000 in
theorem rk_s22b : (rx_wd 1781 (.methodLink yL_law.cls 25 yX12_init) && rx_sigok rp_s22 0 && rx_wd 1782 (.instanceMethod yX12_init) && decide (decode cL_law 12 = .ok (.invokespecial 25, 3)) && rx_xok yL_law.cls cL_law (12, .invokespecial 25, 3, [22, 0, 12, 1781])) = true := by decide +kernel
theorem rk_L_6 : (fun q => rx_chk (decide (yL_law.name = "<init>")) yL_law.cls cL_law rp_sig q && rx_xok yL_law.cls cL_law q) (12, .invokespecial 25, 3, [22, 0, 12, 1781]) = true := by
  have h := rk_s22b
  simp only [Bool.and_eq_true] at h
  obtain ⟨⟨⟨⟨h1, h2⟩, h3⟩, h4⟩, h5⟩ := h
  show (rx_chk (decide (yL_law.name = "<init>")) yL_law.cls cL_law rp_sig (12, .invokespecial 25, 3, [22, 0, 12, 1781]) && rx_xok yL_law.cls cL_law (12, .invokespecial 25, 3, [22, 0, 12, 1781])) = true
  rw [h5, Bool.and_true]
  unfold rx_chk
  rw [h4, rx_aok_sp (sg := rp_s22) rfl h1 rfl rfl h2 rfl rk_s22 h3]
  rfl
set_option maxRecDepth 100000 in
theorem rk_L_a : (rw_L_law.take 6).all (fun q => rx_chk (decide (yL_law.name = "<init>")) yL_law.cls cL_law rp_sig q && rx_xok yL_law.cls cL_law q) = true := by decide +kernel
set_option maxRecDepth 100000 in
theorem rk_L_b : ((rw_L_law.drop 7).take 100).all (fun q => rx_chk (decide (yL_law.name = "<init>")) yL_law.cls cL_law rp_sig q && rx_xok yL_law.cls cL_law q) = true := by decide +kernel
set_option maxRecDepth 100000 in
theorem rk_L_c : (rw_L_law.drop 107).all (fun q => rx_chk (decide (yL_law.name = "<init>")) yL_law.cls cL_law rp_sig q && rx_xok yL_law.cls cL_law q) = true := by decide +kernel
theorem rk_L_law : rx_rowsok rp_sig (yL_law, cL_law, some .boolean, 0, 0, 0, 0, [], 7) rw_L_law = true := by
  show rw_L_law.all (fun q => rx_chk (decide (yL_law.name = "<init>")) yL_law.cls cL_law rp_sig q && rx_xok yL_law.cls cL_law q) = true
  have e : rw_L_law = rw_L_law.take 6 ++ ((12, .invokespecial 25, 3, [22, 0, 12, 1781]) :: ((rw_L_law.drop 7).take 100 ++ rw_L_law.drop 107)) := rfl
  rw [e, List.all_append, List.all_cons, List.all_append, rk_L_a, rk_L_b, rk_L_c]
  show (true && (_ && _)) = true
  rw [Bool.true_and, Bool.and_self, Bool.and_true]
  exact rk_L_6
set_option maxRecDepth 100000 in
theorem rp_mok : (rp_inf.zip rp_sig).all (fun q => rx_mok0 q.2 q.1) = true := by decide +kernel
set_option maxRecDepth 100000 in
theorem rp_rok : ∀ q ∈ rp_inf.zip rp_sig, rx_rowsok rp_sig q.2 q.1.2.2.1 = true := List.forall_mem_cons.mpr ⟨rk_L_law, List.forall_mem_cons.mpr ⟨rk_X11_init, List.forall_mem_cons.mpr ⟨rk_X8_init, List.forall_mem_cons.mpr ⟨rk_X10_init, List.forall_mem_cons.mpr ⟨rk_X10_encodeAll, List.forall_mem_cons.mpr ⟨rk_J0_length_8abf5, List.forall_mem_cons.mpr ⟨rk_J0_coder_7d493, List.forall_mem_cons.mpr ⟨rk_J0_charAt_5068e, List.forall_mem_cons.mpr ⟨rk_J0_isLatin1_aae02, List.forall_mem_cons.mpr ⟨rk_J1_charAt_3b067, List.forall_mem_cons.mpr ⟨rk_X10_symbol, List.forall_mem_cons.mpr ⟨rk_X1_init, List.forall_mem_cons.mpr ⟨rk_X0_init, List.forall_mem_cons.mpr ⟨rk_X5_init, List.forall_mem_cons.mpr ⟨rk_X9_init, List.forall_mem_cons.mpr ⟨rk_X6_init, List.forall_mem_cons.mpr ⟨rk_X4_init, List.forall_mem_cons.mpr ⟨rk_X5_ofKind, List.forall_mem_cons.mpr ⟨rk_X2_init, List.forall_mem_cons.mpr ⟨rk_X7_init, List.forall_mem_cons.mpr ⟨rk_X3_init, List.forall_mem_cons.mpr ⟨rk_X1_emit, List.forall_mem_cons.mpr ⟨rk_X12_init, List.forall_mem_cons.mpr ⟨rk_X12_packed, List.forall_mem_cons.mpr ⟨rk_X12_emptyProgram, List.forall_mem_cons.mpr ⟨rk_X12_beginProgram, List.forall_mem_cons.mpr ⟨rk_X12_write1, List.forall_mem_cons.mpr ⟨rk_X12_emit, List.forall_mem_cons.mpr ⟨rk_X12_keepProgram, List.forall_mem_cons.mpr ⟨rk_L_feed, List.forall_mem_cons.mpr ⟨rk_X11_feed, List.forall_mem_cons.mpr ⟨rk_X12_feed, List.forall_mem_cons.mpr ⟨rk_X12_thrown, List.forall_mem_cons.mpr ⟨rk_X8_length, List.forall_mem_cons.mpr ⟨rk_X8_append, List.forall_mem_cons.mpr ⟨rk_X11_wipe, List.forall_mem_cons.mpr ⟨rk_X8_clear, List.forall_mem_cons.mpr ⟨rk_X12_wipe, List.forall_mem_cons.mpr ⟨rk_X11_compile, List.forall_mem_cons.mpr ⟨rk_X10_scan, List.forall_mem_cons.mpr ⟨rk_X10_skipBlanks, List.forall_mem_cons.mpr ⟨rk_X8_at, List.forall_mem_cons.mpr ⟨rk_X10_scanWord, List.forall_mem_cons.mpr ⟨rk_X10_add, List.forall_mem_cons.mpr ⟨rk_X10_next, List.forall_mem_cons.mpr ⟨rk_X0_begin, List.forall_mem_cons.mpr ⟨rk_X5_forgetAll, List.forall_mem_cons.mpr ⟨rk_X7_forgetLabels, List.forall_mem_cons.mpr ⟨rk_X1_clear, List.forall_mem_cons.mpr ⟨rk_X5_openBlock, List.forall_mem_cons.mpr ⟨rk_X5_level, List.forall_mem_cons.mpr ⟨rk_X0_block, List.forall_mem_cons.mpr ⟨rk_X1_length, List.forall_mem_cons.mpr ⟨rk_X1_emitAimless, List.forall_mem_cons.mpr ⟨rk_X0_constants, List.forall_mem_cons.mpr ⟨rk_X10_takeIf, List.forall_mem_cons.mpr ⟨rk_X10_is, List.forall_mem_cons.mpr ⟨rk_X0_types, List.forall_mem_cons.mpr ⟨rk_X0_variables, List.forall_mem_cons.mpr ⟨rk_X0_isRoutine, List.forall_mem_cons.mpr ⟨rk_X10_take, List.forall_mem_cons.mpr ⟨rk_X10_fail, List.forall_mem_cons.mpr ⟨rk_X12_compile, List.forall_mem_cons.mpr ⟨rk_X12_take, List.forall_mem_cons.mpr ⟨rk_X12_skipBlanks, List.forall_mem_cons.mpr ⟨rk_X12_byteAt, List.forall_mem_cons.mpr ⟨rk_X12_later, List.forall_mem_cons.mpr ⟨rk_X12_work, List.forall_mem_cons.mpr ⟨rk_X12_workOfBlocks, List.forall_mem_cons.mpr ⟨rk_X12_block, List.forall_mem_cons.mpr ⟨rk_X12_actionsOrBody, List.forall_mem_cons.mpr ⟨rk_X12_want, List.forall_mem_cons.mpr ⟨rk_X12_fail, List.forall_mem_cons.mpr ⟨rk_X12_statements, List.forall_mem_cons.mpr ⟨rk_X11_fault, List.forall_mem_cons.mpr ⟨rk_X10_failure, List.forall_mem_cons.mpr ⟨rk_X12_fault, List.forall_mem_cons.mpr ⟨rk_X11_place, List.forall_mem_cons.mpr ⟨rk_X10_failedAt, List.forall_mem_cons.mpr ⟨rk_X12_place, List.forall_mem_cons.mpr ⟨rk_X11_input, List.forall_mem_cons.mpr ⟨rk_X8_become, List.forall_mem_cons.mpr ⟨rk_X12_input, List.forall_mem_cons.mpr ⟨rk_L_run, List.forall_mem_cons.mpr ⟨rk_X11_run, List.forall_mem_cons.mpr ⟨rk_X12_run, List.forall_mem_cons.mpr ⟨rk_X3_execute, List.forall_mem_cons.mpr ⟨rk_X3_startAgain, List.forall_mem_cons.mpr ⟨rk_X3_enter, List.forall_mem_cons.mpr ⟨rk_X3_put, List.forall_mem_cons.mpr ⟨rk_X3_isCell, List.forall_mem_cons.mpr ⟨rk_J9_max_7cf53, List.forall_mem_cons.mpr ⟨rk_X3_operand, List.forall_mem_cons.mpr ⟨rk_X1_at, List.forall_mem_cons.mpr ⟨rk_X3_perform, List.forall_mem_cons.mpr ⟨rk_X3_control, List.forall_mem_cons.mpr ⟨rk_X12_open, List.forall_mem_cons.mpr ⟨rk_X12_isWrong, List.forall_mem_cons.mpr ⟨rk_X12_step, List.forall_mem_cons.mpr ⟨rk_X12_leave, List.forall_mem_cons.mpr ⟨rk_X11_where, List.forall_mem_cons.mpr ⟨rk_X3_errorPlace, List.forall_mem_cons.mpr ⟨rk_X12_where, List.forall_mem_cons.mpr ⟨rk_X11_written, List.forall_mem_cons.mpr ⟨rk_X3_output, List.forall_mem_cons.mpr ⟨rk_X12_written, List.forall_mem_cons.mpr ⟨rk_X11_text, List.forall_mem_cons.mpr ⟨rk_X12_text, List.forall_mem_cons.mpr ⟨rk_L_told, List.forall_mem_cons.mpr ⟨rk_X11_told, List.forall_mem_cons.mpr ⟨rk_X12_told, List.forall_mem_cons.mpr ⟨rk_X3_steps, List.forall_mem_cons.mpr ⟨rk_X3_mostBlocks, List.forall_mem_cons.mpr ⟨rk_X3_mostCells, List.forall_mem_cons.mpr ⟨rk_X3_bytesRead, List.forall_mem_cons.mpr ⟨rk_J0_checkIndex_df160, List.forall_mem_cons.mpr ⟨rk_J3_checkIndex_8e157, List.forall_mem_cons.mpr ⟨rk_J7_fill_eb02e, List.forall_mem_cons.mpr ⟨rk_J7_rangeCheck_23922, fun _ h => absurd h List.not_mem_nil⟩⟩⟩⟩⟩⟩⟩⟩⟩⟩⟩⟩⟩⟩⟩⟩⟩⟩⟩⟩⟩⟩⟩⟩⟩⟩⟩⟩⟩⟩⟩⟩⟩⟩⟩⟩⟩⟩⟩⟩⟩⟩⟩⟩⟩⟩⟩⟩⟩⟩⟩⟩⟩⟩⟩⟩⟩⟩⟩⟩⟩⟩⟩⟩⟩⟩⟩⟩⟩⟩⟩⟩⟩⟩⟩⟩⟩⟩⟩⟩⟩⟩⟩⟩⟩⟩⟩⟩⟩⟩⟩⟩⟩⟩⟩⟩⟩⟩⟩⟩⟩⟩⟩⟩⟩⟩⟩⟩⟩⟩⟩⟩⟩⟩⟩⟩⟩⟩⟩
theorem rp_all {mi : Nat} {I : RInf} {sg : RSig} (h1 : rp_inf[mi]? = some I) (h2 : rp_sig[mi]? = some sg) : rx_mok0 sg I = true ∧ rx_rowsok rp_sig sg I.2.2.1 = true := by
  have hm : (I, sg) ∈ rp_inf.zip rp_sig := by
    refine List.mem_of_getElem? (i := mi) ?_
    rw [List.getElem?_zip_eq_some]
    exact ⟨h1, h2⟩
  exact ⟨List.all_eq_true.mp rp_mok _ hm, rp_rok _ hm⟩
theorem rl_P0_ok {mi : Nat} {I : RInf} {sg : RSig} (h1 : rl_P0[mi]? = some I) (h2 : rp_sig[mi]? = some sg) (h3 : I.2.2.1 ≠ []) : sg.2.2.2.2.2.2.2.1 = [] ∧ rx_mok0 sg I = true ∧ rx_rowsok rp_sig sg I.2.2.1 = true := by
  unfold rl_P0 at h1
  rw [List.getElem?_map] at h1
  obtain ⟨I0, e1, e2⟩ := Option.map_eq_some_iff.mp h1
  obtain ⟨a, b, rows, hh⟩ := I0
  cases hh with
  | cons x y => subst e2; exact absurd rfl h3
  | nil =>
    have e2 : (a, b, rows, ([] : List (Nat × Nat × Nat × Nat))) = I := e2
    subst e2
    obtain ⟨g1, g2⟩ := rp_all e1 h2
    obtain ⟨-, -, -, -, m6⟩ := rx_mok0_of g1
    refine ⟨?_, g1, g2⟩
    revert m6
    cases sg.2.2.2.2.2.2.2.1 with
    | nil => intro _; rfl
    | cons x y => intro m6; cases y <;> cases m6
/-- methods with a table of exceptions, and those without -/
noncomputable def rx_call2 (O : ROld) (F : RFacts) (d mi : Nat) (as : List Value) (h : RHeap) : Option RRes := match rf_nth rp_inf mi with
  | some I => match I.2.2.2 with
    | [] => rf_call O F rl_P0 100000 (d + 1) mi as h
    | _ => match Nat.ble (rx_cats as) I.1 with
      | true => match rf_run O F (rf_call O F rl_P0 100000 d) I 100000 I.2.2.1 (lv_args 0 as) [] h with
        | some (.inl v, h2, mc, ms) => some (.inl v, h2, mc, ms)
        | _ => none
      | false => none
  | none => none
noncomputable def rx_memo (O : ROld) (F : RFacts) (mi : Nat) (as : List Value) (h : RHeap) : Option RRes := match mi with
  | 1 => match decide (as = [.ref 0]), decide (h = rl_x0) with
    | true, true => some (.inl none, rl_x, 169, 26440)
    | _, _ => none
  | 22 => match decide (as = [.ref 170]), decide (h = rl_m0) with
    | true, true => some (.inl none, rl_m, 59, 159377)
    | _, _ => none
  | mi => rx_call2 O F 11 mi as h
section Memo
variable {l : Launch} {O : ROld} {F : RFacts} {D : va_G} {cA : Nat → ClassId} {A : Nat → Prop} {old : Nat → Nat} {rho : UInt32 → Int32}
theorem rx_call2_ok (hl : l.stackTraces = false) (hF : rx_FT2 rho F) (hO1 : ∀ q ∈ O.1, q.1 < 1000000) (hO2 : ∀ q ∈ O.2, q.1 < 1000000 ∧ (q.2.1 = 0 ∨ q.2.1 = 2)) {d mi : Nat} {as : List Value} {h : RHeap} {r : RRes} (hr : rx_call2 O F d mi as h = some r) {sg : RSig} (hsg : rp_sig[mi]? = some sg) : rx_CS l O D cA A old rho sg (d + 1) as h r := by
  unfold rx_call2 at hr
  rw [rf_nth_eq, rx_nth_eq] at hr
  cases hI : rp_inf[mi]? with
  | none => rw [hI] at hr; cases hr
  | some I =>
    rw [hI] at hr
    simp only at hr
    obtain ⟨g1, g2⟩ := rp_all hI hsg
    obtain ⟨a, b, rows, hh⟩ := I
    cases hh with
    | nil =>
      simp only at hr
      rw [rf_call_eq] at hr
      exact (rx_call_ok hl hF hO1 hO2 (fun mi I sg h1 h2 h3 => rl_P0_ok h1 h2 h3) (d + 1) mi as h r hr sg hsg).1
    | cons x y =>
      simp only at hr
      cases hc : Nat.ble (rx_cats as) a with
      | false => rw [hc] at hr; cases hr
      | true =>
        rw [hc] at hr
        simp only at hr
        split at hr
        · rename_i v h2 mc ms hrun
          cases hr
          rw [rf_run_eq, rf_call_eq] at hrun
          obtain ⟨m1, m2, m3, m4, m6⟩ := rx_mok0_of g1
          have hpn : (sg.2.2.2.2.2.2.2.1.isEmpty || Jvm.plainName sg.1.cls) = true := by
            have g3 := g1
            unfold rx_mok0 at g3
            simp only [Bool.and_eq_true] at g3
            exact g3.1.1.1.2
          obtain ⟨xr, hraw⟩ : ∃ xr, sg.2.2.2.2.2.2.2.1 = [xr] := by
            revert m6
            cases sg.2.2.2.2.2.2.2.1 with
            | nil => intro m6; cases y <;> cases m6
            | cons z w =>
              intro m6
              cases w with
              | nil => exact ⟨z, rfl⟩
              | cons w1 w2 => cases y <;> cases m6
          rw [hraw] at hpn
          exact rx_tab_ok hF hO1 hO2 g1 g2 (fun mi as h r hr sg hsg => rx_call_ok hl hF hO1 hO2 (fun mi I sg h1 h2 h3 => rl_P0_ok h1 h2 h3) d mi as h r hr sg hsg) hpn hraw (Nat.le_of_ble_eq_true hc) hrun
        · cases hr
theorem rx_E.weak {s : State} {sc : Nat × Nat × List Value} (h : rx_E (rl_O1, sc :: rl_O.2) D cA A old rho s) : rx_E rl_O D cA A old rho s := by
  obtain ⟨h1, h2, h3, h4, h5⟩ := h
  exact ⟨h1, h2, h3, fun q hq => h4 q (List.mem_cons_of_mem _ hq), h5⟩
theorem rx_Pc.weak {sc : Nat × Nat × List Value} {as : List Value} {h : RHeap} {ad : List Nat} {v : Array Value} {U : State} (hp : rx_Pc (rl_O1, sc :: rl_O.2) D cA A old rho as h ad v U) : rx_Pc rl_O D cA A old rho as h ad v U := by
  obtain ⟨cs, ws, q1, q2, q3, q4, q5, q6, q7⟩ := hp
  exact ⟨cs, ws, q1, q2, q3, q4, q5, q6, q7.weak⟩
theorem rl_O1_lt : ∀ q ∈ rl_O1, q.1 < 1000000 := fun q hq => by
  simp only [rl_O1, List.mem_cons, List.not_mem_nil, or_false] at hq
  rcases hq with rfl | rfl | rfl | rfl <;> decide
theorem rl_O2_lt : ∀ q ∈ rl_O.2, q.1 < 1000000 ∧ (q.2.1 = 0 ∨ q.2.1 = 2) := fun q hq => by
  simp only [rl_O, List.mem_cons, List.not_mem_nil, or_false] at hq
  rcases hq with rfl | rfl <;> exact ⟨by decide, Or.inr rfl⟩
theorem rx_memo1 (hl : l.stackTraces = false) {sc : Nat × Nat × List Value} {mi mc ms : Nat} {as : List Value} {h h2 : RHeap} (hr : rx_eqr (rf_call rl_O ([], [], []) rl_P0 100000 12 mi as h) h2 mc ms = true) {sg : RSig} (hsg : rp_sig[mi]? = some sg) : rx_CS l (rl_O1, sc :: rl_O.2) D cA A old rho sg 12 as h (.inl none, h2, mc, ms) := by
  rw [rf_call_eq] at hr
  have h9 := (rx_call_ok (l := l) (D := D) (cA := cA) (A := A) (old := old) (rho := rho) hl ⟨fun q hq => absurd hq List.not_mem_nil, fun q hq => absurd hq List.not_mem_nil, fun q hq => absurd hq List.not_mem_nil⟩ rl_O1_lt rl_O2_lt (fun mi I sg h1 h2 h3 => rl_P0_ok h1 h2 h3) 12 mi as h _ (rx_eqr_of hr) sg hsg).1
  intro ad p e ha hc hk s m args below hf happ hP hK
  exact h9 ad p e ha hc hk s m args below hf happ hP.weak hK
theorem rx_memo_ok (hl : l.stackTraces = false) (hF : rx_FT2 rho F) {sc : Nat × Nat × List Value} (hsc : sc.1 < 1000000 ∧ (sc.2.1 = 0 ∨ sc.2.1 = 2)) (mi : Nat) (as : List Value) (h : RHeap) (r : RRes) (hr : rx_memo (rl_O1, sc :: rl_O.2) F mi as h = some r) (sg : RSig) (hsg : rp_sig[mi]? = some sg) : rx_CS l (rl_O1, sc :: rl_O.2) D cA A old rho sg 12 as h r := by
  unfold rx_memo at hr
  split at hr
  · split at hr
    · rename_i e1 e2
      have e1 := of_decide_eq_true e1
      have e2 := of_decide_eq_true e2
      cases hr
      subst e1 e2
      exact rx_memo1 hl rt_x hsg
    · cases hr
  · split at hr
    · rename_i e1 e2
      have e1 := of_decide_eq_true e1
      have e2 := of_decide_eq_true e2
      cases hr
      subst e1 e2
      exact rx_memo1 hl rt_m hsg
    · cases hr
  · exact rx_call2_ok hl hF rl_O1_lt (fun q hq => by
      rcases List.mem_cons.mp hq with rfl | hq
      · exact hsc
      · exact rl_O2_lt q hq) hr hsg
end Memo
end
section
/-! THE CLAIM OUT OF ONE WALK OF THE LAW'S BODY. Your part is whole_start (and what it stands on); all else here is the same for every law, but numbers. -/
def R_law : String := "TaggedPascalLaw"
def lw_P (b : Addr) (xs : List Int32) (args : Array Value) (s : State) : Prop := args = #[.ref b] ∧ s.IntsAt b xs ∧ xs.length ≤ 4 ∧ (Jvm.Cond.and given_1 narrow_1).before args s = true
def lw_Q (_ : Array Value) (s : State) (o : Outcome) (t : State) : Prop := o = .returned (some (.int 1)) ∧ Framed s o t [] 600002 7302232
def lw_Z (below : List Frame) (a : Array Value) (s : State) : State → Prop := fun t => ∃ o, t.status = .running ∧ Ended t below o ∧ lw_Q a s o t
/-- the law's own end, with 1 on the stack, nothing written that was there before, its room as the claim has it -/
theorem lw_ret {p : Program} {l : Launch} {e : Env} {s : State} {m : MethodId} {below : List Frame} {meth : Method} {c : Code} {b : Nat} (hx : p.tables.exec = Jvm.exec) (hb : c.code = code) (hr : meth.sig.returnType = ret) (hlocks : meth.locks = false) {pc : Nat} {H : Heap} {ls : Array Slot} (hdg : decode code pc = .ok (.ireturn, 1)) : W p l e room_1 s m #[Value.ref b] below meth c H [] 600002 7302232 (lw_Z below #[Value.ref b] s) (F0 m pc ls [.int 1]) := by
  intro T hT X
  obtain ⟨fs, hret, hrun, hended, hW, hframe⟩ := X.leave (v := some (.int 1)) (hlocks := hlocks) (fun h => by rw [hr] at h; cases h)
  have hmeth' : T.vm.method? m = some meth := X.method'
  refine ⟨T.setFrames fs, ?_, .returned (some (.int 1)), hrun, hended, rfl, ⟨_, rfl⟩, hW, hframe⟩
  jvm_step X.here [X.here.top, hx, hb, hdg, hmeth', hr, ret, narrow_b1]
  (try refine ⟨rfl, ?_⟩); (try refine ⟨rfl, ?_⟩)
  first | (intro acts; rw [hret _ acts rfl rfl rfl]) | rw [hret _ _ rfl rfl rfl]
  exact Steps.refl _
/-- what holds at the law's entry: the machine, the code, the tables' words (any of lw_tbl by 'hts w (by decide +kernel)'), the script of L ints xs at the cell b, what the Statement gives of the start (any of its parts by flat_of_before) -/
def lw_At (p : Program) (s : State) (m : MethodId) (meth : Method) (c : Code) (b L : Nat) (xs : Nat → Int32) : Prop :=
  p.tables.exec = Jvm.exec ∧ c.code = code ∧ meth.sig.returnType = ret ∧ c.maxLocals = 7 ∧ s.vm.findClass R_law = some m.cls ∧ (∀ w ∈ lw_tbl, w.before #[Value.ref b] s = true) ∧ va_X b L xs s s.heap ∧ b < s.heap.size ∧ meth.locks = false ∧ (Jvm.Cond.and given_1 narrow_1).before #[Value.ref b] s = true
def rx_good (o : Option RRes) : Bool := match o with
  | some (.inl (some (.int x)), _, mc, ms) => decide (x = 1) && Nat.ble mc 600002 && Nat.ble ms 7302232
  | _ => false
theorem rx_good_of {o : Option RRes} (h : rx_good o = true) : ∃ (h2 : RHeap) (mc ms : Nat), o = some (.inl (some (.int 1)), h2, mc, ms) ∧ mc ≤ 600002 ∧ ms ≤ 7302232 := by
  unfold rx_good at h
  split at h
  · rename_i x h2 mc ms
    rw [Bool.and_eq_true, Bool.and_eq_true] at h
    have e1 := of_decide_eq_true h.1.1
    subst e1
    exact ⟨h2, mc, ms, rfl, Nat.le_of_ble_eq_true h.1.2, Nat.le_of_ble_eq_true h.2⟩
  · cases h
noncomputable def rx_law (sc : List Value) (F : RFacts) : Option RRes := rf_run (rl_O1, (0, 0, sc) :: rl_O.2) F (rx_memo (rl_O1, (0, 0, sc) :: rl_O.2) F) (7, 2, rw_L_law, []) 100000 rw_L_law (lv_args 0 [.ref 1000000]) [] []
/-- the law, from its entry, where the runner comes to its end with 1 -/
theorem rx_start {p : Program} {e : Env} {s : State} {m : MethodId} {below : List Frame} {meth : Method} {c : Code} {l : Launch} (hl : l.stackTraces = false) (hnm : meth.name = "law") {b L : Nat} {xs : Nat → Int32} (C0 : lw_At p s m meth c b L xs) {sc : List Value} {F : RFacts} {rho : UInt32 → Int32} (hgood : rx_good (rx_law sc F) = true) (hF : rx_FT2 rho F) (hlen : sc.length = L) (hsc : ∀ (i : Nat) (v : Value), sc[i]? = some v → ∀ old ads, rx_R old rho ads v (.int (xs i))) :
    W p l e room_1 s m #[Value.ref b] below meth c s.heap [] 0 0 (lw_Z below #[Value.ref b] s) (entryFrame m ([Value.ref b] : List Value).toArray 7) := by
  obtain ⟨hx, hb, hr, hml, hown, hts, hX, hbl, hlocks, hgv⟩ := C0
  obtain ⟨D, cA, old, ho, hE0⟩ := rl_env (rho := rho) hts hgv hX hbl
  have hE := hE0 sc hlen hsc
  obtain ⟨h2, mc, ms, hrun, hmc, hms⟩ := rx_good_of hgood
  unfold rx_law at hrun
  rw [rf_run_eq] at hrun
  have htg : ∀ w ∈ rc_good, w.before ([Value.ref b] : List Value).toArray s = true := fun w hw => hts w (List.mem_filter.mp hw).1
  have g := rp_all (mi := 0) (I := (7, 2, rw_L_law, [])) (sg := (yL_law, cL_law, some .boolean, 0, 0, 0, 0, [], 7)) rfl rfl
  refine rx_body (l := l) (O := (rl_O1, (0, 0, sc) :: rl_O.2)) (F := F) (D := D) (cA := cA) (A := fun q => s.heap.size ≤ q) (old := old) (rho := rho) (sigs := rp_sig) (steps := 100000) (d := 12) (C9 := rx_memo (rl_O1, (0, 0, sc) :: rl_O.2) F) (sg := (yL_law, cL_law, some .boolean, 0, 0, 0, 0, [], 7)) (I := (7, 2, rw_L_law, [])) (as := [.ref 1000000]) (cs := [.ref b]) (h := []) (ws := []) (o0 := .inl (some (.int 1))) (hf0 := h2) (MC := mc) (MS := ms) (R := room_1) (Q := lw_Z below #[Value.ref b] s) hF rl_O1_lt (fun q hq => by
      rcases List.mem_cons.mp hq with rfl | hq
      · exact ⟨(show (0 : Nat) < 1000000 by decide), Or.inl rfl⟩
      · exact rl_O2_lt q hq) g.1 g.2 (rx_memo_ok hl hF ⟨(show (0 : Nat) < 1000000 by decide), Or.inl rfl⟩) hx hb hml hown hnm htg hE hmc hms (by decide) (by decide) (by decide) ⟨Or.inr (Or.inl ⟨by decide, by decide, by rw [Nat.sub_self, ho]⟩), trivial⟩ trivial (fun k q hk => by simp at hk) ⟨fun i j p q hp => by simp at hp, fun k q hk => by simp at hk⟩ hrun ?_ ?_ ?_ ?_ ?_ ?_ ?_
  · intro pc x mi n ci w E la st as r a h h2 mc2 ms2 z1 z2 z3 z4 z5 z6 z7 z8
    cases z8
  · intro pc x mi n ci w E t la st as r a h h2 mc ms mc2 ms2 z1 z2 z3 z4 z5 z6 z7
    cases z7
  · intro pc x E w la st z1 z2 z3 z4 z4b z5
    cases z5
  · intro pc la z1 z2
    cases z2
  · intro pc la v z1 z2 z3
    cases z2
    intro H locs ls cst cells slots hR h1 h2
    obtain ⟨ws, lc, r1, r2, r3, r4, r5, r6, r7, r8⟩ := hR
    obtain ⟨cv, cst2, rfl, hr1, q7⟩ := rx_RL.uncons r7
    cases cst2 with
    | cons a b => exact q7.elim
    | nil =>
      cases hr1
      exact va_forget (fun q hq => r4.2.2 q hq) (W.widen (k := 600002) (n := 7302232) (by omega) (by omega) (lw_ret hx hb hr hlocks z1))
  · intro pc la v z1 z2 z3
    cases z3
  · intro pc la v z1 z2 z3
    cases z3
end
section
def rx_LF (r : Int32) : List (UInt64 × Int64 × Int32) := [0, 1, 2, 3, 4, 5, 6, 7].map (fun k => (UInt64.ofNat (2 + 4294967296 * k), 0, r))
set_option maxRecDepth 1000000 in
theorem rt_L0 : rx_good (rx_law [] ([], [], [])) = true := by decide +kernel
set_option maxRecDepth 1000000 in
theorem rt_L1 : rx_good (rx_law [.float 1] ([], [], [])) = true := by decide +kernel
set_option maxRecDepth 1000000 in
theorem rt_L2 : rx_good (rx_law [.float 1, .float 2] ([], [], [])) = true := by decide +kernel
set_option maxRecDepth 1000000 in
theorem rt_L3 : rx_good (rx_law [.float 1, .float 2, .float 3] ([], [], [])) = true := by decide +kernel
set_option maxRecDepth 1000000 in
theorem rt_c1 : rx_good (rx_law [.float 1, .float 2, .float 3, .float 4] ([], [(1, 15, 1)], [])) = true := by decide +kernel
set_option maxRecDepth 1000000 in
theorem rt_c2 : rx_good (rx_law [.float 1, .float 2, .float 3, .float 4] ([], [(1, 15, 2)], [])) = true := by decide +kernel
set_option maxRecDepth 1000000 in
theorem rt_c3 : rx_good (rx_law [.float 1, .float 2, .float 3, .float 4] ([], [(1, 15, 3)], [])) = true := by decide +kernel
set_option maxRecDepth 1000000 in
theorem rt_c4 : rx_good (rx_law [.float 1, .float 2, .float 3, .float 4] ([], [(1, 15, 4)], [])) = true := by decide +kernel
set_option maxRecDepth 1000000 in
theorem rt_c5 : rx_good (rx_law [.float 1, .float 2, .float 3, .float 4] ([], [(1, 15, 5)], [])) = true := by decide +kernel
set_option maxRecDepth 1000000 in
theorem rt_c7 : rx_good (rx_law [.float 1, .float 2, .float 3, .float 4] ([], [(1, 15, 7)], [])) = true := by decide +kernel
set_option maxRecDepth 1000000 in
theorem rt_c8 : rx_good (rx_law [.float 1, .float 2, .float 3, .float 4] ([], [(1, 15, 8)], [])) = true := by decide +kernel
set_option maxRecDepth 1000000 in
theorem rt_c11 : rx_good (rx_law [.float 1, .float 2, .float 3, .float 4] ([], [(1, 15, 11)], [])) = true := by decide +kernel
set_option maxRecDepth 1000000 in
theorem rt_c12 : rx_good (rx_law [.float 1, .float 2, .float 3, .float 4] ([], [(1, 15, 12)], [])) = true := by decide +kernel
set_option maxRecDepth 1000000 in
theorem rt_c13 : rx_good (rx_law [.float 1, .float 2, .float 3, .float 4] ([], [(1, 15, 13)], [])) = true := by decide +kernel
set_option maxRecDepth 1000000 in
theorem rt_c14 : rx_good (rx_law [.float 1, .float 2, .float 3, .float 4] ([], [(1, 15, 14)], [])) = true := by decide +kernel
set_option maxRecDepth 1000000 in
theorem rt_c15 : rx_good (rx_law [.float 1, .float 2, .float 3, .float 4] ([], [(1, 15, 15)], [])) = true := by decide +kernel
set_option maxRecDepth 1000000 in
theorem rt_f1 : rx_good (rx_law [.float 1, .int 1, .float 3, .float 4] ([], [(1, 15, 0)], [])) = true := by decide +kernel
set_option maxRecDepth 1000000 in
theorem rt_f2 : rx_good (rx_law [.float 1, .int 2, .float 3, .float 4] ([], [(1, 15, 0)], [])) = true := by decide +kernel
set_option maxRecDepth 1000000 in
theorem rt_f3 : rx_good (rx_law [.float 1, .int 3, .float 3, .float 4] ([], [(1, 15, 0)], [])) = true := by decide +kernel
set_option maxRecDepth 1000000 in
theorem rt_f4 : rx_good (rx_law [.float 1, .int 4, .float 3, .float 4] ([], [(1, 15, 0)], [])) = true := by decide +kernel
set_option maxRecDepth 1000000 in
theorem rt_f5 : rx_good (rx_law [.float 1, .int 5, .float 3, .float 4] ([], [(1, 15, 0)], [])) = true := by decide +kernel
set_option maxRecDepth 1000000 in
theorem rt_f6 : rx_good (rx_law [.float 1, .int 6, .float 3, .float 4] ([], [(1, 15, 0)], [])) = true := by decide +kernel
set_option maxRecDepth 1000000 in
theorem rt_f7 : rx_good (rx_law [.float 1, .int 7, .float 3, .float 4] ([], [(1, 15, 0)], [])) = true := by decide +kernel
set_option maxRecDepth 1000000 in
theorem rt_f8 : rx_good (rx_law [.float 1, .int 8, .float 3, .float 4] ([], [(1, 15, 0)], [])) = true := by decide +kernel
set_option maxRecDepth 1000000 in
theorem rt_flo : rx_good (rx_law [.float 1, .float 2, .float 3, .float 4] ([(2, .gt, 0, false), (2, .le, 0, true), (2, .lt, 1, true), (2, .ge, 1, false), (2, .gt, 1, false), (2, .le, 1, true), (2, .eq, 1, false), (2, .ne, 1, true), (2, .lt, 8, true), (2, .ge, 8, false), (2, .gt, 8, false), (2, .le, 8, true), (2, .eq, 8, false), (2, .ne, 8, true)], [(1, 15, 0)], [])) = true := by decide +kernel
set_option maxRecDepth 1000000 in
theorem rt_fhi : rx_good (rx_law [.float 1, .float 2, .float 3, .float 4] ([(2, .lt, 0, false), (2, .ge, 0, true), (2, .gt, 0, true), (2, .le, 0, false), (2, .eq, 0, false), (2, .ne, 0, true), (2, .lt, 1, false), (2, .ge, 1, true), (2, .gt, 1, true), (2, .le, 1, false), (2, .eq, 1, false), (2, .ne, 1, true), (2, .lt, 8, false), (2, .ge, 8, true), (2, .gt, 8, true), (2, .le, 8, false), (2, .eq, 8, false), (2, .ne, 8, true)], [(1, 15, 0)], [])) = true := by decide +kernel
set_option maxRecDepth 1000000 in
theorem rt_rlo : rx_good (rx_law [.float 1, .float 2, .float 3, .float 4] ([(2, .lt, 0, true), (2, .ge, 0, false), (2, .gt, 0, false), (2, .le, 0, true), (2, .eq, 0, false), (2, .ne, 0, true), (2, .lt, 20000, true), (2, .ge, 20000, false), (2, .gt, 20000, false), (2, .le, 20000, true), (2, .eq, 20000, false), (2, .ne, 20000, true)], [(1, 15, 6)], [])) = true := by decide +kernel
set_option maxRecDepth 1000000 in
theorem rt_rmi : rx_good (rx_law [.float 1, .float 2, .float 3, .float 4] ([(2, .lt, 0, false), (2, .ge, 0, true), (2, .gt, 20000, false), (2, .le, 20000, true)], [(1, 15, 6)], [])) = true := by decide +kernel
set_option maxRecDepth 1000000 in
theorem rt_rhi : rx_good (rx_law [.float 1, .float 2, .float 3, .float 4] ([(2, .lt, 0, false), (2, .ge, 0, true), (2, .gt, 0, true), (2, .le, 0, false), (2, .eq, 0, false), (2, .ne, 0, true), (2, .lt, 20000, false), (2, .ge, 20000, true), (2, .gt, 20000, true), (2, .le, 20000, false), (2, .eq, 20000, false), (2, .ne, 20000, true)], [(1, 15, 6)], [])) = true := by decide +kernel
set_option maxRecDepth 1000000 in
theorem rt_t0 : rx_good (rx_law [.float 1, .int 0, .float 3, .float 4] ([], [(1, 15, 10)], [])) = true := by decide +kernel
set_option maxRecDepth 1000000 in
theorem rt_t1 : rx_good (rx_law [.float 1, .int 1, .float 3, .float 4] ([], [(1, 15, 10)], [])) = true := by decide +kernel
set_option maxRecDepth 1000000 in
theorem rt_t2 : rx_good (rx_law [.float 1, .int 2, .float 3, .float 4] ([], [(1, 15, 10)], [])) = true := by decide +kernel
set_option maxRecDepth 1000000 in
theorem rt_t3 : rx_good (rx_law [.float 1, .int 3, .float 3, .float 4] ([], [(1, 15, 10)], [])) = true := by decide +kernel
set_option maxRecDepth 1000000 in
theorem rt_tlo : rx_good (rx_law [.float 1, .float 2, .float 3, .float 4] ([(2, .lt, 0, true), (2, .ge, 0, false), (2, .gt, 0, false), (2, .le, 0, true), (2, .eq, 0, false), (2, .ne, 0, true), (2, .lt, 3, true), (2, .ge, 3, false), (2, .gt, 3, false), (2, .le, 3, true), (2, .eq, 3, false), (2, .ne, 3, true)], [(1, 15, 10)], [])) = true := by decide +kernel
set_option maxRecDepth 1000000 in
theorem rt_x7 : rx_good (rx_law [.float 1, .int (-7), .float 3, .float 4] ([], [(1, 15, 9)], [])) = true := by decide +kernel
set_option maxRecDepth 1000000 in
theorem rt_x6 : rx_good (rx_law [.float 1, .int (-6), .float 3, .float 4] ([], [(1, 15, 9)], [])) = true := by decide +kernel
set_option maxRecDepth 1000000 in
theorem rt_x5 : rx_good (rx_law [.float 1, .int (-5), .float 3, .float 4] ([], [(1, 15, 9)], [])) = true := by decide +kernel
set_option maxRecDepth 1000000 in
theorem rt_x4 : rx_good (rx_law [.float 1, .int (-4), .float 3, .float 4] ([], [(1, 15, 9)], [])) = true := by decide +kernel
set_option maxRecDepth 1000000 in
theorem rt_x3 : rx_good (rx_law [.float 1, .int (-3), .float 3, .float 4] ([], [(1, 15, 9)], [])) = true := by decide +kernel
set_option maxRecDepth 1000000 in
theorem rt_x2 : rx_good (rx_law [.float 1, .int (-2), .float 3, .float 4] ([], [(1, 15, 9)], [])) = true := by decide +kernel
set_option maxRecDepth 1000000 in
theorem rt_x1 : rx_good (rx_law [.float 1, .int (-1), .float 3, .float 4] ([], [(1, 15, 9)], [])) = true := by decide +kernel
set_option maxRecDepth 1000000 in
theorem rt_x0 : rx_good (rx_law [.float 1, .int 0, .float 3, .float 4] ([], [(1, 15, 9)], [])) = true := by decide +kernel
set_option maxRecDepth 1000000 in
theorem rt_xlo : rx_good (rx_law [.float 1, .float 2, .float 3, .float 4] ([], [(1, 15, 9)], rx_LF (-1))) = true := by decide +kernel
set_option maxRecDepth 1000000 in
theorem rt_xhi : rx_good (rx_law [.float 1, .float 2, .float 3, .float 4] ([], [(1, 15, 9)], rx_LF 1)) = true := by decide +kernel
set_option maxRecDepth 1000000 in
theorem rt_thi : rx_good (rx_law [.float 1, .float 2, .float 3, .float 4] ([(2, .lt, 0, false), (2, .ge, 0, true), (2, .gt, 0, true), (2, .le, 0, false), (2, .eq, 0, false), (2, .ne, 0, true), (2, .lt, 3, false), (2, .ge, 3, true), (2, .gt, 3, true), (2, .le, 3, false), (2, .eq, 3, false), (2, .ne, 3, true)], [(1, 15, 10)], [])) = true := by decide +kernel
end
section
theorem rx_and15 (x : Int32) : ∃ n, n < 16 ∧ x &&& 15 = Int32.ofNat n := by
  refine ⟨x.toBitVec.toNat % 16, Nat.mod_lt _ (by decide), ?_⟩
  apply Int32.toBitVec_inj.mp
  apply BitVec.eq_of_toNat_eq
  rw [Int32.toBitVec_and, BitVec.toNat_and, show (15 : Int32).toBitVec.toNat = 2 ^ 4 - 1 by decide, Nat.and_two_pow_sub_one_eq_mod]
  show _ = (Int32.ofNat _).toBitVec.toNat
  rw [Int32.toBitVec_ofNat', BitVec.toNat_ofNat]
  have : x.toBitVec.toNat % 16 < 16 := Nat.mod_lt _ (by decide)
  omega
theorem rx_sc4 {xs : Nat → Int32} : ∀ (i : Nat) (v : Value), ([.float 1, .float 2, .float 3, .float 4] : List Value)[i]? = some v → ∀ (old : Nat → Nat) (ads : List Nat), rx_R old (fun i => xs (i.toNat - 1)) ads v (.int (xs i)) := by
  intro i v hv old ads
  match i, hv with
  | 0, hv => cases hv; exact ⟨_, rfl, fun _ => rfl⟩
  | 1, hv => cases hv; exact ⟨_, rfl, fun _ => rfl⟩
  | 2, hv => cases hv; exact ⟨_, rfl, fun _ => rfl⟩
  | 3, hv => cases hv; exact ⟨_, rfl, fun _ => rfl⟩
  | i + 4, hv => simp at hv
theorem rx_sc4n {xs : Nat → Int32} {n : Int32} (hn : xs 1 = n) : ∀ (i : Nat) (v : Value), ([.float 1, .int n, .float 3, .float 4] : List Value)[i]? = some v → ∀ (old : Nat → Nat) (ads : List Nat), rx_R old (fun i => xs (i.toNat - 1)) ads v (.int (xs i)) := by
  intro i v hv old ads
  match i, hv with
  | 0, hv => cases hv; exact ⟨_, rfl, fun _ => rfl⟩
  | 1, hv => cases hv; exact congrArg Value.int hn
  | 2, hv => cases hv; exact ⟨_, rfl, fun _ => rfl⟩
  | 3, hv => cases hv; exact ⟨_, rfl, fun _ => rfl⟩
  | i + 4, hv => simp at hv
theorem rx_ft0 {xs : Nat → Int32} {c : Int32} (hc : xs 0 &&& 15 = c) : rx_FT2 (fun i => xs (i.toNat - 1)) ([], [(1, 15, c)], []) := by
  refine ⟨fun q hq => absurd hq List.not_mem_nil, fun q hq => ?_, fun q hq => absurd hq List.not_mem_nil⟩
  rw [List.mem_singleton.mp hq]
  exact hc
theorem rx_ftF {xs : Nat → Int32} {c : Int32} {F : RFact} (hc : xs 0 &&& 15 = c) (hF : F.all (fun q => decide (q.1 = 2) && decide (rx_cb q.2.1 (xs 1) q.2.2.1 = q.2.2.2)) = true) : rx_FT2 (fun i => xs (i.toNat - 1)) (F, [(1, 15, c)], []) := by
  refine ⟨fun q hq => ?_, (rx_ft0 hc).2⟩
  have h := List.all_eq_true.mp hF q hq
  rw [Bool.and_eq_true] at h
  have h1 := of_decide_eq_true h.1
  have h2 := of_decide_eq_true h.2
  rw [h1]
  exact h2
theorem rx_ftL {xs : Nat → Int32} {c r : Int32} (hc : xs 0 &&& 15 = c) (hr : ∀ k, k < 8 → lg_cmp ((xs 1).toInt64 + Int64.ofNat k) 0 = r) : rx_FT2 (fun i => xs (i.toNat - 1)) ([], [(1, 15, c)], rx_LF r) := by
  refine ⟨fun q hq => absurd hq List.not_mem_nil, (rx_ft0 hc).2.1, fun q hq => ?_⟩
  obtain ⟨k, hk, rfl⟩ := List.mem_map.mp hq
  have hk8 : k < 8 := by
    simp only [List.mem_cons, List.not_mem_nil, or_false] at hk
    omega
  have hn : (UInt64.ofNat (2 + 4294967296 * k)).toNat = 2 + 4294967296 * k := by
    rw [UInt64.toNat_ofNat', Nat.mod_eq_of_lt]
    omega
  have h5 : (UInt64.ofNat (2 + 4294967296 * k)).toUInt32 = 2 := by
    apply UInt32.toNat_inj.mp
    rw [UInt64.toNat_toUInt32, hn]
    show (2 + 4294967296 * k) % 4294967296 = 2
    omega
  show lg_cmp (rx_dl _ (UInt64.ofNat (2 + 4294967296 * k))) 0 = r
  unfold rx_dl
  rw [h5, hn, show (2 + 4294967296 * k) / 4294967296 = k by omega]
  exact hr k hk8
theorem rx_lsum {x : Int32} {k : Nat} (hk : k < 8) : (x.toInt64 + Int64.ofNat k).toInt = x.toInt + k := by
  have h1 := Int32.le_toInt x
  have h2 : x.toInt < 2147483648 := Int32.toInt_lt x
  rw [Int64.toInt_add, Int32.toInt_toInt64, Int64.toInt_ofNat_of_lt (by omega)]
  apply Int.bmod_eq_of_le <;> omega
theorem rx_lpos {x : Int32} {k : Nat} (hk : k < 8) (hx : 1 ≤ x.toInt) : lg_cmp (x.toInt64 + Int64.ofNat k) 0 = 1 := by
  have h := rx_lsum (x := x) hk
  unfold lg_cmp
  rw [if_pos]
  show (0 : Int64) < _
  rw [Int64.lt_iff_toInt_lt, h]
  show (0 : Int) < _
  omega
theorem rx_lneg {x : Int32} {k : Nat} (hk : k < 8) (hx : x.toInt ≤ -8) : lg_cmp (x.toInt64 + Int64.ofNat k) 0 = -1 := by
  have h := rx_lsum (x := x) hk
  unfold lg_cmp
  rw [if_neg, if_neg]
  · intro z
    rw [z] at h
    have h : (0 : Int) = _ := h
    omega
  · intro z
    have z : (0 : Int64) < _ := z
    rw [Int64.lt_iff_toInt_lt, h] at z
    have z : (0 : Int) < _ := z
    omega
theorem rx_i32 {x : Int32} {a b : Int} (k : Int32) (ha : a ≤ x.toInt) (hb : x.toInt ≤ b) : (k.toInt < a → rx_cb .lt x k = false ∧ rx_cb .ge x k = true ∧ rx_cb .gt x k = true ∧ rx_cb .le x k = false ∧ rx_cb .eq x k = false ∧ rx_cb .ne x k = true) ∧ (b < k.toInt → rx_cb .lt x k = true ∧ rx_cb .ge x k = false ∧ rx_cb .gt x k = false ∧ rx_cb .le x k = true ∧ rx_cb .eq x k = false ∧ rx_cb .ne x k = true) ∧ (k.toInt = a → rx_cb .lt x k = false ∧ rx_cb .ge x k = true) ∧ (k.toInt = b → rx_cb .gt x k = false ∧ rx_cb .le x k = true) := by
  simp only [rx_cb, decide_eq_true_eq, decide_eq_false_iff_not, Bool.not_eq_true', Int32.lt_iff_toInt_lt, Int32.le_iff_toInt_le, ← Int32.toInt_inj]
  refine ⟨fun h => ?_, fun h => ?_, fun h => ?_, fun h => ?_⟩
  all_goals (repeat' constructor)
  all_goals omega
/-- the law on any script of at most 4 ints -/
theorem whole_start {p : Program} {e : Env} {s : State} {m : MethodId} {below : List Frame} {meth : Method} {c : Code} (l : Launch) (hl : l.stackTraces = false) (hnm : meth.name = "law") {b L : Nat} {xs : Nat → Int32} (hL : L ≤ 4) (C0 : lw_At p s m meth c b L xs) : W p l e room_1 s m #[Value.ref b] below meth c s.heap [] 0 0 (lw_Z below #[Value.ref b] s) (entryFrame m ([Value.ref b] : List Value).toArray 7) := by
  have hF0 : rx_FT2 (fun i => xs (i.toNat - 1)) ([], [], []) := ⟨fun q hq => absurd hq List.not_mem_nil, fun q hq => absurd hq List.not_mem_nil, fun q hq => absurd hq List.not_mem_nil⟩
  rcases (show L = 0 ∨ L = 1 ∨ L = 2 ∨ L = 3 ∨ L = 4 by omega) with rfl | rfl | rfl | rfl | rfl
  · exact rx_start hl hnm C0 rt_L0 hF0 rfl (fun i v hv => by simp at hv)
  · exact rx_start hl hnm C0 rt_L1 hF0 rfl (fun i v hv old ads => rx_sc4 i v (by
      match i, hv with
      | 0, hv => exact hv
      | i + 1, hv => simp at hv) old ads)
  · exact rx_start hl hnm C0 rt_L2 hF0 rfl (fun i v hv old ads => rx_sc4 i v (by
      match i, hv with
      | 0, hv => exact hv
      | 1, hv => exact hv
      | i + 2, hv => simp at hv) old ads)
  · exact rx_start hl hnm C0 rt_L3 hF0 rfl (fun i v hv old ads => rx_sc4 i v (by
      match i, hv with
      | 0, hv => exact hv
      | 1, hv => exact hv
      | 2, hv => exact hv
      | i + 3, hv => simp at hv) old ads)
  · obtain ⟨n, hn, hc⟩ := rx_and15 (xs 0)
    rcases (show n = 0 ∨ n = 1 ∨ n = 2 ∨ n = 3 ∨ n = 4 ∨ n = 5 ∨ n = 6 ∨ n = 7 ∨ n = 8 ∨ n = 9 ∨ n = 10 ∨ n = 11 ∨ n = 12 ∨ n = 13 ∨ n = 14 ∨ n = 15 by omega) with rfl | rfl | rfl | rfl | rfl | rfl | rfl | rfl | rfl | rfl | rfl | rfl | rfl | rfl | rfl | rfl
    · have hr1 := Int32.le_toInt (xs 1)
      have hr2 : (xs 1).toInt < 2147483648 := Int32.toInt_lt (xs 1)
      rcases (show (xs 1).toInt < 1 ∨ (xs 1).toInt = 1 ∨ (xs 1).toInt = 2 ∨ (xs 1).toInt = 3 ∨ (xs 1).toInt = 4 ∨ (xs 1).toInt = 5 ∨ (xs 1).toInt = 6 ∨ (xs 1).toInt = 7 ∨ (xs 1).toInt = 8 ∨  (8 : Int) < (xs 1).toInt by omega) with h | h | h | h | h | h | h | h | h |  h
      · exact rx_start hl hnm C0 rt_flo (rx_ftF hc (by
          have h9 := fun k => rx_i32 (x := xs 1) (a := -2147483648) (b := 0) k (by omega) (by omega)
          have g0 := h9 0
          have g1 := h9 1
          have g8 := h9 8
          have z0 := g0.2.2.2 (by decide)
          have z1 := g1.2.1 (by decide)
          have z8 := g8.2.1 (by decide)
          simp [z0, z1, z8])) rfl rx_sc4
      · exact rx_start hl hnm C0 rt_f1 (rx_ft0 hc) rfl (rx_sc4n (Int32.toInt_inj.mp h))
      · exact rx_start hl hnm C0 rt_f2 (rx_ft0 hc) rfl (rx_sc4n (Int32.toInt_inj.mp h))
      · exact rx_start hl hnm C0 rt_f3 (rx_ft0 hc) rfl (rx_sc4n (Int32.toInt_inj.mp h))
      · exact rx_start hl hnm C0 rt_f4 (rx_ft0 hc) rfl (rx_sc4n (Int32.toInt_inj.mp h))
      · exact rx_start hl hnm C0 rt_f5 (rx_ft0 hc) rfl (rx_sc4n (Int32.toInt_inj.mp h))
      · exact rx_start hl hnm C0 rt_f6 (rx_ft0 hc) rfl (rx_sc4n (Int32.toInt_inj.mp h))
      · exact rx_start hl hnm C0 rt_f7 (rx_ft0 hc) rfl (rx_sc4n (Int32.toInt_inj.mp h))
      · exact rx_start hl hnm C0 rt_f8 (rx_ft0 hc) rfl (rx_sc4n (Int32.toInt_inj.mp h))
      · exact rx_start hl hnm C0 rt_fhi (rx_ftF hc (by
          have h9 := fun k => rx_i32 (x := xs 1) (a := 9) (b := 2147483647) k (by omega) (by omega)
          have g0 := h9 0
          have g1 := h9 1
          have g8 := h9 8
          have z0 := g0.1 (by decide)
          have z1 := g1.1 (by decide)
          have z8 := g8.1 (by decide)
          simp [z0, z1, z8])) rfl rx_sc4
    · exact rx_start hl hnm C0 rt_c1 (rx_ft0 hc) rfl rx_sc4
    · exact rx_start hl hnm C0 rt_c2 (rx_ft0 hc) rfl rx_sc4
    · exact rx_start hl hnm C0 rt_c3 (rx_ft0 hc) rfl rx_sc4
    · exact rx_start hl hnm C0 rt_c4 (rx_ft0 hc) rfl rx_sc4
    · exact rx_start hl hnm C0 rt_c5 (rx_ft0 hc) rfl rx_sc4
    · have hr1 := Int32.le_toInt (xs 1)
      have hr2 : (xs 1).toInt < 2147483648 := Int32.toInt_lt (xs 1)
      rcases (show (xs 1).toInt < 0 ∨ (0 ≤ (xs 1).toInt ∧ (xs 1).toInt ≤ 20000) ∨ 20000 < (xs 1).toInt by omega) with h | h | h
      · exact rx_start hl hnm C0 rt_rlo (rx_ftF hc (by
          have h9 := fun k => rx_i32 (x := xs 1) (a := -2147483648) (b := -1) k (by omega) (by omega)
          have g0 := h9 0
          have g20000 := h9 20000
          have z0 := g0.2.1 (by decide)
          have z20000 := g20000.2.1 (by decide)
          simp [z0, z20000])) rfl rx_sc4
      · exact rx_start hl hnm C0 rt_rmi (rx_ftF hc (by
          have h9 := fun k => rx_i32 (x := xs 1) (a := 0) (b := 20000) k (by omega) (by omega)
          have g0 := h9 0
          have g20000 := h9 20000
          have z0 := g0.2.2.1 (by decide)
          have z20000 := g20000.2.2.2 (by decide)
          simp [z0, z20000])) rfl rx_sc4
      · exact rx_start hl hnm C0 rt_rhi (rx_ftF hc (by
          have h9 := fun k => rx_i32 (x := xs 1) (a := 20001) (b := 2147483647) k (by omega) (by omega)
          have g0 := h9 0
          have g20000 := h9 20000
          have z0 := g0.1 (by decide)
          have z20000 := g20000.1 (by decide)
          simp [z0, z20000])) rfl rx_sc4
    · exact rx_start hl hnm C0 rt_c7 (rx_ft0 hc) rfl rx_sc4
    · exact rx_start hl hnm C0 rt_c8 (rx_ft0 hc) rfl rx_sc4
    · rcases (show (xs 1).toInt ≤ -8 ∨ (xs 1).toInt = -7 ∨ (xs 1).toInt = -6 ∨ (xs 1).toInt = -5 ∨ (xs 1).toInt = -4 ∨ (xs 1).toInt = -3 ∨ (xs 1).toInt = -2 ∨ (xs 1).toInt = -1 ∨ (xs 1).toInt = 0 ∨ 1 ≤ (xs 1).toInt by omega) with h | h | h | h | h | h | h | h | h | h
      · exact rx_start hl hnm C0 rt_xlo (rx_ftL hc (fun k hk => rx_lneg hk h)) rfl rx_sc4
      · exact rx_start hl hnm C0 rt_x7 (rx_ft0 hc) rfl (rx_sc4n (Int32.toInt_inj.mp h))
      · exact rx_start hl hnm C0 rt_x6 (rx_ft0 hc) rfl (rx_sc4n (Int32.toInt_inj.mp h))
      · exact rx_start hl hnm C0 rt_x5 (rx_ft0 hc) rfl (rx_sc4n (Int32.toInt_inj.mp h))
      · exact rx_start hl hnm C0 rt_x4 (rx_ft0 hc) rfl (rx_sc4n (Int32.toInt_inj.mp h))
      · exact rx_start hl hnm C0 rt_x3 (rx_ft0 hc) rfl (rx_sc4n (Int32.toInt_inj.mp h))
      · exact rx_start hl hnm C0 rt_x2 (rx_ft0 hc) rfl (rx_sc4n (Int32.toInt_inj.mp h))
      · exact rx_start hl hnm C0 rt_x1 (rx_ft0 hc) rfl (rx_sc4n (Int32.toInt_inj.mp h))
      · exact rx_start hl hnm C0 rt_x0 (rx_ft0 hc) rfl (rx_sc4n (Int32.toInt_inj.mp h))
      · exact rx_start hl hnm C0 rt_xhi (rx_ftL hc (fun k hk => rx_lpos hk h)) rfl rx_sc4
    · have hr1 := Int32.le_toInt (xs 1)
      have hr2 : (xs 1).toInt < 2147483648 := Int32.toInt_lt (xs 1)
      rcases (show (xs 1).toInt < 0 ∨ (xs 1).toInt = 0 ∨ (xs 1).toInt = 1 ∨ (xs 1).toInt = 2 ∨ (xs 1).toInt = 3 ∨  (3 : Int) < (xs 1).toInt by omega) with h | h | h | h | h |  h
      · exact rx_start hl hnm C0 rt_tlo (rx_ftF hc (by
          have h9 := fun k => rx_i32 (x := xs 1) (a := -2147483648) (b := -1) k (by omega) (by omega)
          have g0 := h9 0
          have g3 := h9 3
          have z0 := g0.2.1 (by decide)
          have z3 := g3.2.1 (by decide)
          simp [z0, z3])) rfl rx_sc4
      · exact rx_start hl hnm C0 rt_t0 (rx_ft0 hc) rfl (rx_sc4n (Int32.toInt_inj.mp h))
      · exact rx_start hl hnm C0 rt_t1 (rx_ft0 hc) rfl (rx_sc4n (Int32.toInt_inj.mp h))
      · exact rx_start hl hnm C0 rt_t2 (rx_ft0 hc) rfl (rx_sc4n (Int32.toInt_inj.mp h))
      · exact rx_start hl hnm C0 rt_t3 (rx_ft0 hc) rfl (rx_sc4n (Int32.toInt_inj.mp h))
      · exact rx_start hl hnm C0 rt_thi (rx_ftF hc (by
          have h9 := fun k => rx_i32 (x := xs 1) (a := 4) (b := 2147483647) k (by omega) (by omega)
          have g0 := h9 0
          have g3 := h9 3
          have z0 := g0.1 (by decide)
          have z3 := g3.1 (by decide)
          simp [z0, z3])) rfl rx_sc4
    · exact rx_start hl hnm C0 rt_c11 (rx_ft0 hc) rfl rx_sc4
    · exact rx_start hl hnm C0 rt_c12 (rx_ft0 hc) rfl rx_sc4
    · exact rx_start hl hnm C0 rt_c13 (rx_ft0 hc) rfl rx_sc4
    · exact rx_start hl hnm C0 rt_c14 (rx_ft0 hc) rfl rx_sc4
    · exact rx_start hl hnm C0 rt_c15 (rx_ft0 hc) rfl rx_sc4
set_option maxHeartbeats 4000000 in
theorem lw_walk (l : Launch) (hl : l.stackTraces = false) (b : Addr) (xs : List Int32) : MetFree l x (headSpec (Jvm.Cond.code x code maxLocals ret :: tables_1) room_1) (lw_P b xs) (fun _ _ _ _ _ => True) lw_Q := by
  refine MetFree.of_bodyS (code := code) (maxLocals := maxLocals) (ret := ret) (by decide) ?_ ?_
  · intro args s m h hn
    obtain ⟨meth, c, h1, h2, h3, h4, h5, h6, -, -⟩ := Cond.code_spec hn (atoms_spec (ws := Jvm.Cond.code x code maxLocals ret :: tables_1) h _ List.mem_cons_self)
    exact ⟨meth, c, h1, h2, h3, h4, h5, h6⟩
  · intro p e s m args below meth c s₁ B hml0 hP _
    obtain ⟨rfl, hx, hbd, hgv⟩ := hP
    obtain ⟨scr, harrAt, hlist, hof, hsmall⟩ := hx
    obtain ⟨hcb, hkn, -, -⟩ := State.arrayAt?_spec harrAt
    have hown : s.vm.findClass R_law = some m.cls := findClass_of_methodNamed B.named
    have hts0 : ∀ c ∈ (Jvm.Cond.code x code maxLocals ret :: tables_1), c.before #[Value.ref b] s = true := atoms_spec (ws := Jvm.Cond.code x code maxLocals ret :: tables_1) B.pre
    have hts : ∀ w ∈ lw_tbl, w.before #[Value.ref b] s = true := k2_hts_sels lw_privs (fun w hw => hts0 w (List.mem_cons_of_mem _ hw)) lw_privs_ok
    have hml : c.maxLocals = 7 := B.maxLocals_eq (hts0 _ List.mem_cons_self)
    have X₀ : Stand p l e room_1 s m #[Value.ref b] below meth c s₁ [] 0 0 := Stand.of_body B
    have hh0 : s₁.heap = s.heap := by rw [B.state]; rfl
    have hsz : scr.slots.size = xs.length := by rw [← Array.length_toList, hlist, List.length_map]
    have hval : ∀ j : Nat, j < xs.length → scr.slots[j]? = some (.int (xs.getD j 0)) := fun j hj => by
      rw [← Array.getElem?_toList, hlist]
      simp [hj]
    have hbl : b < s.heap.size := (Array.getElem?_eq_some_iff.mp hcb).1
    have hX : va_X b xs.length (fun j => xs.getD j 0) s s.heap := ⟨scr, hcb, hof, hkn, hsz, hval⟩
    have K : W p l e room_1 s m #[Value.ref b] below meth c s₁.heap [] 0 0 (lw_Z below #[Value.ref b] s) (entryFrame m ([Value.ref b] : List Value).toArray 7) := by
      rw [hh0]
      exact whole_start l hl (name_of_methodNamed B.named B.method).1 hbd ⟨B.exec, B.bytes, B.returns, hml, hown, hts, hX, hbl, B.notSynchronized, hgv⟩
    obtain ⟨t, a1, o, b1, b2, b3⟩ := K s₁ rfl X₀
    exact ⟨t, o, a1, b1, b2, b3⟩
theorem lw_pre_spec {args : Array Value} {s : State} (h : (Jvm.Cond.and given_1 narrow_1).before args s = true) (hr : rest_1_c.before args s = true) : ∃ (b : Addr) (xs : List Int32), lw_P b xs args s := by
  have hs := flat_of_before _ h
  have hq := flat_of_before _ hr
  have hc : (Cond.count 1).before args s = true := hs _ (by decide +kernel)
  have harr : (Cond.arrayOf (.arg 0) .int).before args s = true := hs _ (by decide +kernel)
  have hle : (Cond.le (.length (.arg 0)) (.int 4)).before args s = true := hs _ (by decide +kernel)
  have hlen : (Cond.isInt (.length (.arg 0))).before args s = true := hq _ (by decide +kernel)
  have hall : (Cond.all (.arg 0) (.isInt (.elem (.arg 0) (.index 0)))).before args s = true := hq _ (by decide +kernel)
  obtain ⟨b, xs, hb, hx⟩ := State.ints_of_pre rfl harr hlen hall
  have hsm : xs.length < 2 ^ 31 := hx.choose_spec.2.2.2
  have hev : (Term.length (.arg 0)).eval args s none [] s = some (.int xs.length.toInt32) := hx.length_eval hb
  have hv := Cond.le_ints hev (show (Term.int 4).eval args s none [] s = some (.int 4) from rfl)
  have hd : xs.length.toInt32 ≤ 4 := by
    simpa [Cond.before, Cond.holds, hv] using hle
  have hN : xs.length ≤ 4 := (Int32.ofNat_le_ofNat hsm (by decide)).mp (show Int32.ofNat xs.length ≤ Int32.ofNat 4 from hd)
  exact ⟨b, xs, Cond.one_arg hc (show args[0]? = some (.ref b) from hb), hx, hN, h⟩
theorem lw_comes (l : Launch) (hl : l.stackTraces = false) : Comes l x (Jvm.Cond.code x code maxLocals ret :: tables_1) room_1 (fun tb e args s => Calls_1 tb e args s ∧ rest_1 tb e args s ∧ Pre_1 tb e args s)
    (fun _ _ args s o t => lw_Q args s o t) := by
  intro p e ha hc hk s m args below hf hfit hheap happ hpre
  obtain ⟨b, xs, hP⟩ := lw_pre_spec hpre.2.2 hpre.2.1
  obtain ⟨k, o, h1, h2, h3, hQ⟩ := lw_walk l hl b xs p e ha hc hk s m args below hf ((Spec.applies_iff_loose hf).mp happ).1 hP trivial
  exact ⟨k, o, h1, h2, h3, hQ⟩
theorem lw_frame {s t : State} {o : Outcome} {args : Array Value} (h : Framed s o t [] 600002 7302232) :
    Framed s o t (fieldLocs frame_1_writes args s ++ arrayLocs frame_1_arrays args s ++ staticLocs frame_1_statics s) 600002 7302232 := h
theorem lw_limb (L : Cond) (hL : ∀ (args : Array Value) (s t : State), L.after args s (.returned (some (.int 1))) t = true) :
    ArmFor flags0 classFile x code maxLocals ret World_1 tables_1 room_1 Calls_1 rest_1 Pre_1
      (fun tb e a s o t => postC L tb e a s o t ∧ Framed s o t (fieldLocs frame_1_writes a s ++ arrayLocs frame_1_arrays a s ++ staticLocs frame_1_statics s) 600002 7302232) := by
  intro l hfl _ _ p e ha hc hk s m args below hf hfit hheap happ hpre
  obtain ⟨k, o, h1, h2, h3, rfl, hF⟩ := lw_comes l (by unfold Launch.stackTraces; rw [hfl]; decide +kernel) p e ha hc hk s m args below hf hfit hheap happ hpre
  exact ⟨k, _, h1, h2, h3, hL args s _, lw_frame hF⟩
theorem i_vc : Claimed_1_1 ∧ Claimed_1_2 := ⟨lw_limb limb_1_1 (fun args s t => by simp [limb_1_1, Cond.after, Cond.holds, Cond.value]), lw_limb limb_1_2 (fun args s t => Cond.after_iff.mpr (by
  first | (rw [show limb_1_2 = Cond.eq .result (.int 1) from rfl, Cond.eq_ints (x := 1) (y := 1) rfl rfl]; simp; done) | (simp [limb_1_2, Cond.value, Term.eval]; done)))⟩
end
section
theorem zz_last : True := trivial
end
