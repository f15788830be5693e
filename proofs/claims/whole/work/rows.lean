section
-- ===== PART A: goes FIRST, ahead of the names: the tables' words, and 'selects' of the private methods out of them =====
/-- a private method of a class that the tables say can be made, by its rows of tables_1 -/
def lw_okq (q : MethodName × Nat) : Prop := (q.1.cls ≠ "java/lang/invoke/MethodHandle" ∧ q.1.cls ≠ "java/lang/invoke/VarHandle") ∧ Cond.instantiable q.1.cls q.2 ∈ tables_1 ∧ Cond.privateMethod q.1 ∈ tables_1 ∧ Cond.instanceMethod q.1 ∈ tables_1
theorem lw_p0 : lw_okq (⟨"FieldBeeps", "changeWet", "(I)I"⟩, 9) := ⟨⟨by decide +kernel, by decide +kernel⟩, List.mem_of_getElem? (i := 16) (by decide +kernel), List.mem_of_getElem? (i := 224) (by decide +kernel), List.mem_of_getElem? (i := 225) (by decide +kernel)⟩
theorem lw_p1 : lw_okq (⟨"FieldBeeps", "changePlate", "(I)I"⟩, 9) := ⟨⟨by decide +kernel, by decide +kernel⟩, List.mem_of_getElem? (i := 16) (by decide +kernel), List.mem_of_getElem? (i := 228) (by decide +kernel), List.mem_of_getElem? (i := 229) (by decide +kernel)⟩
theorem lw_p2 : lw_okq (⟨"FieldBeeps", "changeFind", "([IIIZ)I"⟩, 9) := ⟨⟨by decide +kernel, by decide +kernel⟩, List.mem_of_getElem? (i := 16) (by decide +kernel), List.mem_of_getElem? (i := 232) (by decide +kernel), List.mem_of_getElem? (i := 233) (by decide +kernel)⟩
theorem lw_p3 : lw_okq (⟨"FieldBeeps$Texts", "run", "(II)I"⟩, 6) := ⟨⟨by decide +kernel, by decide +kernel⟩, List.mem_of_getElem? (i := 86) (by decide +kernel), List.mem_of_getElem? (i := 281) (by decide +kernel), List.mem_of_getElem? (i := 282) (by decide +kernel)⟩
theorem lw_p4 : lw_okq (⟨"FieldBeeps$Reader", "advance", "()V"⟩, 7) := ⟨⟨by decide +kernel, by decide +kernel⟩, List.mem_of_getElem? (i := 119) (by decide +kernel), List.mem_of_getElem? (i := 318) (by decide +kernel), List.mem_of_getElem? (i := 319) (by decide +kernel)⟩
theorem lw_p5 : lw_okq (⟨"FieldBeeps$Reader", "takeWord", "()I"⟩, 7) := ⟨⟨by decide +kernel, by decide +kernel⟩, List.mem_of_getElem? (i := 119) (by decide +kernel), List.mem_of_getElem? (i := 325) (by decide +kernel), List.mem_of_getElem? (i := 326) (by decide +kernel)⟩
theorem lw_p6 : lw_okq (⟨"FieldBeeps$Reader", "spells", "(Ljava/lang/String;)Z"⟩, 7) := ⟨⟨by decide +kernel, by decide +kernel⟩, List.mem_of_getElem? (i := 119) (by decide +kernel), List.mem_of_getElem? (i := 330) (by decide +kernel), List.mem_of_getElem? (i := 331) (by decide +kernel)⟩
theorem lw_p7 : lw_okq (⟨"FieldBeeps$Reader", "takeNumber", "()I"⟩, 7) := ⟨⟨by decide +kernel, by decide +kernel⟩, List.mem_of_getElem? (i := 119) (by decide +kernel), List.mem_of_getElem? (i := 396) (by decide +kernel), List.mem_of_getElem? (i := 397) (by decide +kernel)⟩
theorem lw_p8 : lw_okq (⟨"FieldBeeps$Reader", "expect", "(I)V"⟩, 7) := ⟨⟨by decide +kernel, by decide +kernel⟩, List.mem_of_getElem? (i := 119) (by decide +kernel), List.mem_of_getElem? (i := 403) (by decide +kernel), List.mem_of_getElem? (i := 404) (by decide +kernel)⟩
theorem lw_p9 : lw_okq (⟨"FieldBeeps$Reader", "refuse", "()V"⟩, 7) := ⟨⟨by decide +kernel, by decide +kernel⟩, List.mem_of_getElem? (i := 119) (by decide +kernel), List.mem_of_getElem? (i := 407) (by decide +kernel), List.mem_of_getElem? (i := 408) (by decide +kernel)⟩
theorem lw_p10 : lw_okq (⟨"FieldBeeps$Reader", "readRank", "(II)V"⟩, 7) := ⟨⟨by decide +kernel, by decide +kernel⟩, List.mem_of_getElem? (i := 119) (by decide +kernel), List.mem_of_getElem? (i := 411) (by decide +kernel), List.mem_of_getElem? (i := 412) (by decide +kernel)⟩
theorem lw_p11 : lw_okq (⟨"FieldBeeps$Reader", "readOne", "(I)V"⟩, 7) := ⟨⟨by decide +kernel, by decide +kernel⟩, List.mem_of_getElem? (i := 119) (by decide +kernel), List.mem_of_getElem? (i := 415) (by decide +kernel), List.mem_of_getElem? (i := 416) (by decide +kernel)⟩
theorem lw_p12 : lw_okq (⟨"FieldBeeps$Reader", "mayOpen", "(I)Z"⟩, 7) := ⟨⟨by decide +kernel, by decide +kernel⟩, List.mem_of_getElem? (i := 119) (by decide +kernel), List.mem_of_getElem? (i := 423) (by decide +kernel), List.mem_of_getElem? (i := 424) (by decide +kernel)⟩
theorem lw_p13 : lw_okq (⟨"FieldBeeps$Walker", "digIn", "(LFieldBeeps$Field;I)I"⟩, 2) := ⟨⟨by decide +kernel, by decide +kernel⟩, List.mem_of_getElem? (i := 148) (by decide +kernel), List.mem_of_getElem? (i := 463) (by decide +kernel), List.mem_of_getElem? (i := 464) (by decide +kernel)⟩
theorem lw_p14 : lw_okq (⟨"FieldBeeps", "foundIn", "(LFieldBeeps$Field;I)I"⟩, 9) := ⟨⟨by decide +kernel, by decide +kernel⟩, List.mem_of_getElem? (i := 16) (by decide +kernel), List.mem_of_getElem? (i := 485) (by decide +kernel), List.mem_of_getElem? (i := 486) (by decide +kernel)⟩
theorem lw_p15 : lw_okq (⟨"FieldBeeps", "neverHeard", "()I"⟩, 9) := ⟨⟨by decide +kernel, by decide +kernel⟩, List.mem_of_getElem? (i := 16) (by decide +kernel), List.mem_of_getElem? (i := 595) (by decide +kernel), List.mem_of_getElem? (i := 596) (by decide +kernel)⟩
def lw_privs_1 : List (MethodName × Nat) := [(⟨"FieldBeeps", "changeWet", "(I)I"⟩, 9), (⟨"FieldBeeps", "changePlate", "(I)I"⟩, 9), (⟨"FieldBeeps", "changeFind", "([IIIZ)I"⟩, 9), (⟨"FieldBeeps$Texts", "run", "(II)I"⟩, 6), (⟨"FieldBeeps$Reader", "advance", "()V"⟩, 7), (⟨"FieldBeeps$Reader", "takeWord", "()I"⟩, 7), (⟨"FieldBeeps$Reader", "spells", "(Ljava/lang/String;)Z"⟩, 7), (⟨"FieldBeeps$Reader", "takeNumber", "()I"⟩, 7), (⟨"FieldBeeps$Reader", "expect", "(I)V"⟩, 7), (⟨"FieldBeeps$Reader", "refuse", "()V"⟩, 7), (⟨"FieldBeeps$Reader", "readRank", "(II)V"⟩, 7), (⟨"FieldBeeps$Reader", "readOne", "(I)V"⟩, 7), (⟨"FieldBeeps$Reader", "mayOpen", "(I)Z"⟩, 7), (⟨"FieldBeeps$Walker", "digIn", "(LFieldBeeps$Field;I)I"⟩, 2), (⟨"FieldBeeps", "foundIn", "(LFieldBeeps$Field;I)I"⟩, 9), (⟨"FieldBeeps", "neverHeard", "()I"⟩, 9)]
theorem lw_r1 : ∀ q ∈ lw_privs_1, lw_okq q := List.forall_mem_cons.mpr ⟨lw_p0, List.forall_mem_cons.mpr ⟨lw_p1, List.forall_mem_cons.mpr ⟨lw_p2, List.forall_mem_cons.mpr ⟨lw_p3, List.forall_mem_cons.mpr ⟨lw_p4, List.forall_mem_cons.mpr ⟨lw_p5, List.forall_mem_cons.mpr ⟨lw_p6, List.forall_mem_cons.mpr ⟨lw_p7, List.forall_mem_cons.mpr ⟨lw_p8, List.forall_mem_cons.mpr ⟨lw_p9, List.forall_mem_cons.mpr ⟨lw_p10, List.forall_mem_cons.mpr ⟨lw_p11, List.forall_mem_cons.mpr ⟨lw_p12, List.forall_mem_cons.mpr ⟨lw_p13, List.forall_mem_cons.mpr ⟨lw_p14, List.forall_mem_cons.mpr ⟨lw_p15, fun _ h => absurd h List.not_mem_nil⟩⟩⟩⟩⟩⟩⟩⟩⟩⟩⟩⟩⟩⟩⟩⟩
theorem lw_p16 : lw_okq (⟨"FieldBeeps", "foundIfDrawn", "(I)I"⟩, 9) := ⟨⟨by decide +kernel, by decide +kernel⟩, List.mem_of_getElem? (i := 16) (by decide +kernel), List.mem_of_getElem? (i := 607) (by decide +kernel), List.mem_of_getElem? (i := 608) (by decide +kernel)⟩
theorem lw_p17 : lw_okq (⟨"FieldBeepsModel", "spell", "(IIIIIIIII)V"⟩, 52) := ⟨⟨by decide +kernel, by decide +kernel⟩, List.mem_of_getElem? (i := 684) (by decide +kernel), List.mem_of_getElem? (i := 690) (by decide +kernel), List.mem_of_getElem? (i := 691) (by decide +kernel)⟩
theorem lw_p18 : lw_okq (⟨"FieldBeepsModel", "isFind", "(I)Z"⟩, 52) := ⟨⟨by decide +kernel, by decide +kernel⟩, List.mem_of_getElem? (i := 684) (by decide +kernel), List.mem_of_getElem? (i := 869) (by decide +kernel), List.mem_of_getElem? (i := 870) (by decide +kernel)⟩
theorem lw_p19 : lw_okq (⟨"FieldBeepsModel", "lies", "(I)Z"⟩, 52) := ⟨⟨by decide +kernel, by decide +kernel⟩, List.mem_of_getElem? (i := 684) (by decide +kernel), List.mem_of_getElem? (i := 875) (by decide +kernel), List.mem_of_getElem? (i := 876) (by decide +kernel)⟩
theorem lw_p20 : lw_okq (⟨"FieldBeepsModel", "tone", "(I)I"⟩, 52) := ⟨⟨by decide +kernel, by decide +kernel⟩, List.mem_of_getElem? (i := 684) (by decide +kernel), List.mem_of_getElem? (i := 883) (by decide +kernel), List.mem_of_getElem? (i := 884) (by decide +kernel)⟩
theorem lw_p21 : lw_okq (⟨"FieldBeepsModel", "loud", "(I)I"⟩, 52) := ⟨⟨by decide +kernel, by decide +kernel⟩, List.mem_of_getElem? (i := 684) (by decide +kernel), List.mem_of_getElem? (i := 887) (by decide +kernel), List.mem_of_getElem? (i := 888) (by decide +kernel)⟩
theorem lw_p22 : lw_okq (⟨"FieldBeepsModel", "heard", "(I)I"⟩, 52) := ⟨⟨by decide +kernel, by decide +kernel⟩, List.mem_of_getElem? (i := 684) (by decide +kernel), List.mem_of_getElem? (i := 891) (by decide +kernel), List.mem_of_getElem? (i := 892) (by decide +kernel)⟩
theorem lw_p23 : lw_okq (⟨"FieldBeepsModel", "worth", "(II)I"⟩, 52) := ⟨⟨by decide +kernel, by decide +kernel⟩, List.mem_of_getElem? (i := 684) (by decide +kernel), List.mem_of_getElem? (i := 898) (by decide +kernel), List.mem_of_getElem? (i := 899) (by decide +kernel)⟩
theorem lw_p24 : lw_okq (⟨"FieldBeepsModel", "says", "(III)I"⟩, 52) := ⟨⟨by decide +kernel, by decide +kernel⟩, List.mem_of_getElem? (i := 684) (by decide +kernel), List.mem_of_getElem? (i := 902) (by decide +kernel), List.mem_of_getElem? (i := 903) (by decide +kernel)⟩
theorem lw_p25 : lw_okq (⟨"FieldBeepsModel", "read", "(II)I"⟩, 52) := ⟨⟨by decide +kernel, by decide +kernel⟩, List.mem_of_getElem? (i := 684) (by decide +kernel), List.mem_of_getElem? (i := 906) (by decide +kernel), List.mem_of_getElem? (i := 907) (by decide +kernel)⟩
theorem lw_p26 : lw_okq (⟨"FieldBeepsModel", "next", "()V"⟩, 52) := ⟨⟨by decide +kernel, by decide +kernel⟩, List.mem_of_getElem? (i := 684) (by decide +kernel), List.mem_of_getElem? (i := 910) (by decide +kernel), List.mem_of_getElem? (i := 911) (by decide +kernel)⟩
theorem lw_p27 : lw_okq (⟨"FieldBeepsModel", "byteAt", "(I)I"⟩, 52) := ⟨⟨by decide +kernel, by decide +kernel⟩, List.mem_of_getElem? (i := 684) (by decide +kernel), List.mem_of_getElem? (i := 914) (by decide +kernel), List.mem_of_getElem? (i := 915) (by decide +kernel)⟩
theorem lw_p28 : lw_okq (⟨"FieldBeepsModel", "isWord", "(IIIIIIII)Z"⟩, 52) := ⟨⟨by decide +kernel, by decide +kernel⟩, List.mem_of_getElem? (i := 684) (by decide +kernel), List.mem_of_getElem? (i := 923) (by decide +kernel), List.mem_of_getElem? (i := 924) (by decide +kernel)⟩
theorem lw_p29 : lw_okq (⟨"FieldBeepsModel", "isLetter", "(II)Z"⟩, 52) := ⟨⟨by decide +kernel, by decide +kernel⟩, List.mem_of_getElem? (i := 684) (by decide +kernel), List.mem_of_getElem? (i := 927) (by decide +kernel), List.mem_of_getElem? (i := 928) (by decide +kernel)⟩
theorem lw_p30 : lw_okq (⟨"FieldBeepsModel", "part", "(Z)I"⟩, 52) := ⟨⟨by decide +kernel, by decide +kernel⟩, List.mem_of_getElem? (i := 684) (by decide +kernel), List.mem_of_getElem? (i := 931) (by decide +kernel), List.mem_of_getElem? (i := 932) (by decide +kernel)⟩
theorem lw_p31 : lw_okq (⟨"FieldBeepsModel", "fail", "()V"⟩, 52) := ⟨⟨by decide +kernel, by decide +kernel⟩, List.mem_of_getElem? (i := 684) (by decide +kernel), List.mem_of_getElem? (i := 935) (by decide +kernel), List.mem_of_getElem? (i := 936) (by decide +kernel)⟩
def lw_privs_2 : List (MethodName × Nat) := [(⟨"FieldBeeps", "foundIfDrawn", "(I)I"⟩, 9), (⟨"FieldBeepsModel", "spell", "(IIIIIIIII)V"⟩, 52), (⟨"FieldBeepsModel", "isFind", "(I)Z"⟩, 52), (⟨"FieldBeepsModel", "lies", "(I)Z"⟩, 52), (⟨"FieldBeepsModel", "tone", "(I)I"⟩, 52), (⟨"FieldBeepsModel", "loud", "(I)I"⟩, 52), (⟨"FieldBeepsModel", "heard", "(I)I"⟩, 52), (⟨"FieldBeepsModel", "worth", "(II)I"⟩, 52), (⟨"FieldBeepsModel", "says", "(III)I"⟩, 52), (⟨"FieldBeepsModel", "read", "(II)I"⟩, 52), (⟨"FieldBeepsModel", "next", "()V"⟩, 52), (⟨"FieldBeepsModel", "byteAt", "(I)I"⟩, 52), (⟨"FieldBeepsModel", "isWord", "(IIIIIIII)Z"⟩, 52), (⟨"FieldBeepsModel", "isLetter", "(II)Z"⟩, 52), (⟨"FieldBeepsModel", "part", "(Z)I"⟩, 52), (⟨"FieldBeepsModel", "fail", "()V"⟩, 52)]
theorem lw_r2 : ∀ q ∈ lw_privs_2, lw_okq q := List.forall_mem_cons.mpr ⟨lw_p16, List.forall_mem_cons.mpr ⟨lw_p17, List.forall_mem_cons.mpr ⟨lw_p18, List.forall_mem_cons.mpr ⟨lw_p19, List.forall_mem_cons.mpr ⟨lw_p20, List.forall_mem_cons.mpr ⟨lw_p21, List.forall_mem_cons.mpr ⟨lw_p22, List.forall_mem_cons.mpr ⟨lw_p23, List.forall_mem_cons.mpr ⟨lw_p24, List.forall_mem_cons.mpr ⟨lw_p25, List.forall_mem_cons.mpr ⟨lw_p26, List.forall_mem_cons.mpr ⟨lw_p27, List.forall_mem_cons.mpr ⟨lw_p28, List.forall_mem_cons.mpr ⟨lw_p29, List.forall_mem_cons.mpr ⟨lw_p30, List.forall_mem_cons.mpr ⟨lw_p31, fun _ h => absurd h List.not_mem_nil⟩⟩⟩⟩⟩⟩⟩⟩⟩⟩⟩⟩⟩⟩⟩⟩
theorem lw_p32 : lw_okq (⟨"FieldBeepsModel", "either", "()I"⟩, 52) := ⟨⟨by decide +kernel, by decide +kernel⟩, List.mem_of_getElem? (i := 684) (by decide +kernel), List.mem_of_getElem? (i := 939) (by decide +kernel), List.mem_of_getElem? (i := 940) (by decide +kernel)⟩
theorem lw_p33 : lw_okq (⟨"FieldBeepsModel", "both", "()I"⟩, 52) := ⟨⟨by decide +kernel, by decide +kernel⟩, List.mem_of_getElem? (i := 684) (by decide +kernel), List.mem_of_getElem? (i := 943) (by decide +kernel), List.mem_of_getElem? (i := 944) (by decide +kernel)⟩
theorem lw_p34 : lw_okq (⟨"FieldBeepsModel", "not", "()I"⟩, 52) := ⟨⟨by decide +kernel, by decide +kernel⟩, List.mem_of_getElem? (i := 684) (by decide +kernel), List.mem_of_getElem? (i := 947) (by decide +kernel), List.mem_of_getElem? (i := 948) (by decide +kernel)⟩
theorem lw_p35 : lw_okq (⟨"FieldBeepsModel", "opens", "()Z"⟩, 52) := ⟨⟨by decide +kernel, by decide +kernel⟩, List.mem_of_getElem? (i := 684) (by decide +kernel), List.mem_of_getElem? (i := 951) (by decide +kernel), List.mem_of_getElem? (i := 952) (by decide +kernel)⟩
theorem lw_p36 : lw_okq (⟨"FieldBeepsModel", "added", "()I"⟩, 52) := ⟨⟨by decide +kernel, by decide +kernel⟩, List.mem_of_getElem? (i := 684) (by decide +kernel), List.mem_of_getElem? (i := 955) (by decide +kernel), List.mem_of_getElem? (i := 956) (by decide +kernel)⟩
theorem lw_p37 : lw_okq (⟨"FieldBeepsModel", "term", "()I"⟩, 52) := ⟨⟨by decide +kernel, by decide +kernel⟩, List.mem_of_getElem? (i := 684) (by decide +kernel), List.mem_of_getElem? (i := 959) (by decide +kernel), List.mem_of_getElem? (i := 960) (by decide +kernel)⟩
theorem lw_p38 : lw_okq (⟨"FieldBeepsModel", "atom", "()I"⟩, 52) := ⟨⟨by decide +kernel, by decide +kernel⟩, List.mem_of_getElem? (i := 684) (by decide +kernel), List.mem_of_getElem? (i := 963) (by decide +kernel), List.mem_of_getElem? (i := 964) (by decide +kernel)⟩
theorem lw_p39 : lw_okq (⟨"FieldBeepsModel", "isSign", "(I)Z"⟩, 52) := ⟨⟨by decide +kernel, by decide +kernel⟩, List.mem_of_getElem? (i := 684) (by decide +kernel), List.mem_of_getElem? (i := 967) (by decide +kernel), List.mem_of_getElem? (i := 968) (by decide +kernel)⟩
theorem lw_p40 : lw_okq (⟨"FieldBeepsModel", "name", "()I"⟩, 52) := ⟨⟨by decide +kernel, by decide +kernel⟩, List.mem_of_getElem? (i := 684) (by decide +kernel), List.mem_of_getElem? (i := 971) (by decide +kernel), List.mem_of_getElem? (i := 972) (by decide +kernel)⟩
theorem lw_p41 : lw_okq (⟨"FieldBeepsModel", "beepOf", "(I)I"⟩, 52) := ⟨⟨by decide +kernel, by decide +kernel⟩, List.mem_of_getElem? (i := 684) (by decide +kernel), List.mem_of_getElem? (i := 997) (by decide +kernel), List.mem_of_getElem? (i := 998) (by decide +kernel)⟩
theorem lw_p42 : lw_okq (⟨"FieldBeepsModel", "isHeard", "(I)Z"⟩, 52) := ⟨⟨by decide +kernel, by decide +kernel⟩, List.mem_of_getElem? (i := 684) (by decide +kernel), List.mem_of_getElem? (i := 1001) (by decide +kernel), List.mem_of_getElem? (i := 1002) (by decide +kernel)⟩
theorem lw_p43 : lw_okq (⟨"FieldBeepsModel", "walks", "(I)V"⟩, 52) := ⟨⟨by decide +kernel, by decide +kernel⟩, List.mem_of_getElem? (i := 684) (by decide +kernel), List.mem_of_getElem? (i := 1009) (by decide +kernel), List.mem_of_getElem? (i := 1010) (by decide +kernel)⟩
theorem lw_p44 : lw_okq (⟨"FieldBeepsModel", "digs", "(I)V"⟩, 52) := ⟨⟨by decide +kernel, by decide +kernel⟩, List.mem_of_getElem? (i := 684) (by decide +kernel), List.mem_of_getElem? (i := 1013) (by decide +kernel), List.mem_of_getElem? (i := 1014) (by decide +kernel)⟩
theorem lw_p45 : lw_okq (⟨"FieldBeepsModel", "ploughs", "()V"⟩, 52) := ⟨⟨by decide +kernel, by decide +kernel⟩, List.mem_of_getElem? (i := 684) (by decide +kernel), List.mem_of_getElem? (i := 1021) (by decide +kernel), List.mem_of_getElem? (i := 1022) (by decide +kernel)⟩
theorem lw_p46 : lw_okq (⟨"FieldBeepsModel", "laysAside", "()V"⟩, 52) := ⟨⟨by decide +kernel, by decide +kernel⟩, List.mem_of_getElem? (i := 684) (by decide +kernel), List.mem_of_getElem? (i := 1030) (by decide +kernel), List.mem_of_getElem? (i := 1031) (by decide +kernel)⟩
theorem lw_p47 : lw_okq (⟨"FieldBeepsModel", "walksAll", "(I)V"⟩, 52) := ⟨⟨by decide +kernel, by decide +kernel⟩, List.mem_of_getElem? (i := 684) (by decide +kernel), List.mem_of_getElem? (i := 1034) (by decide +kernel), List.mem_of_getElem? (i := 1035) (by decide +kernel)⟩
def lw_privs_3 : List (MethodName × Nat) := [(⟨"FieldBeepsModel", "either", "()I"⟩, 52), (⟨"FieldBeepsModel", "both", "()I"⟩, 52), (⟨"FieldBeepsModel", "not", "()I"⟩, 52), (⟨"FieldBeepsModel", "opens", "()Z"⟩, 52), (⟨"FieldBeepsModel", "added", "()I"⟩, 52), (⟨"FieldBeepsModel", "term", "()I"⟩, 52), (⟨"FieldBeepsModel", "atom", "()I"⟩, 52), (⟨"FieldBeepsModel", "isSign", "(I)Z"⟩, 52), (⟨"FieldBeepsModel", "name", "()I"⟩, 52), (⟨"FieldBeepsModel", "beepOf", "(I)I"⟩, 52), (⟨"FieldBeepsModel", "isHeard", "(I)Z"⟩, 52), (⟨"FieldBeepsModel", "walks", "(I)V"⟩, 52), (⟨"FieldBeepsModel", "digs", "(I)V"⟩, 52), (⟨"FieldBeepsModel", "ploughs", "()V"⟩, 52), (⟨"FieldBeepsModel", "laysAside", "()V"⟩, 52), (⟨"FieldBeepsModel", "walksAll", "(I)V"⟩, 52)]
theorem lw_r3 : ∀ q ∈ lw_privs_3, lw_okq q := List.forall_mem_cons.mpr ⟨lw_p32, List.forall_mem_cons.mpr ⟨lw_p33, List.forall_mem_cons.mpr ⟨lw_p34, List.forall_mem_cons.mpr ⟨lw_p35, List.forall_mem_cons.mpr ⟨lw_p36, List.forall_mem_cons.mpr ⟨lw_p37, List.forall_mem_cons.mpr ⟨lw_p38, List.forall_mem_cons.mpr ⟨lw_p39, List.forall_mem_cons.mpr ⟨lw_p40, List.forall_mem_cons.mpr ⟨lw_p41, List.forall_mem_cons.mpr ⟨lw_p42, List.forall_mem_cons.mpr ⟨lw_p43, List.forall_mem_cons.mpr ⟨lw_p44, List.forall_mem_cons.mpr ⟨lw_p45, List.forall_mem_cons.mpr ⟨lw_p46, List.forall_mem_cons.mpr ⟨lw_p47, fun _ h => absurd h List.not_mem_nil⟩⟩⟩⟩⟩⟩⟩⟩⟩⟩⟩⟩⟩⟩⟩⟩
theorem lw_p48 : lw_okq (⟨"FieldBeepsModel", "laysBack", "()V"⟩, 52) := ⟨⟨by decide +kernel, by decide +kernel⟩, List.mem_of_getElem? (i := 684) (by decide +kernel), List.mem_of_getElem? (i := 1038) (by decide +kernel), List.mem_of_getElem? (i := 1039) (by decide +kernel)⟩
theorem lw_p49 : lw_okq (⟨"FieldBeepsModel", "dotsOf", "(I)I"⟩, 52) := ⟨⟨by decide +kernel, by decide +kernel⟩, List.mem_of_getElem? (i := 684) (by decide +kernel), List.mem_of_getElem? (i := 1081) (by decide +kernel), List.mem_of_getElem? (i := 1082) (by decide +kernel)⟩
def lw_privs_4 : List (MethodName × Nat) := [(⟨"FieldBeepsModel", "laysBack", "()V"⟩, 52), (⟨"FieldBeepsModel", "dotsOf", "(I)I"⟩, 52)]
theorem lw_r4 : ∀ q ∈ lw_privs_4, lw_okq q := List.forall_mem_cons.mpr ⟨lw_p48, List.forall_mem_cons.mpr ⟨lw_p49, fun _ h => absurd h List.not_mem_nil⟩⟩
def lw_privs : List (MethodName × Nat) := lw_privs_1 ++ (lw_privs_2 ++ (lw_privs_3 ++ (lw_privs_4)))
def lw_tbl : List Cond := k2_sels lw_privs ++ tables_1
theorem lw_privs_ok : ∀ q ∈ lw_privs, lw_okq q := by
  show ∀ q ∈ lw_privs_1 ++ (lw_privs_2 ++ (lw_privs_3 ++ (lw_privs_4))), lw_okq q
  exact List.forall_mem_append.mpr ⟨lw_r1, List.forall_mem_append.mpr ⟨lw_r2, List.forall_mem_append.mpr ⟨lw_r3, lw_r4⟩⟩⟩
end
section
theorem goodIn_r {big : List Cond} (ws : List Cond) (ps : List Nat) (hp : ws = ps.filterMap (fun i => big[i]?)) (h : ws.all goodWord = true) : GoodIn big ws := by
  intro w hw
  have h1 := List.all_eq_true.mp h w hw
  rw [hp] at hw
  obtain ⟨i, -, hi⟩ := List.mem_filterMap.mp hw
  have hm : w ∈ big := by first | exact List.mem_of_getElem? hi | exact List.getElem?_mem hi
  exact ⟨hm, good_of_word h1⟩
theorem goodIn_app {big a b : List Cond} (ha : GoodIn big a) (hb : GoodIn big b) : GoodIn big (a ++ b) := fun w h => (List.mem_append.mp h).elim (ha w) (hb w)
theorem goodIn_ca {big a b : List Cond} {c : Cond} (ha : GoodIn big (c :: a)) (hb : GoodIn big b) : GoodIn big (c :: (a ++ b)) := fun w h => (List.mem_cons.mp h).elim (fun e => ha w (List.mem_cons.mpr (Or.inl e))) (fun h => (List.mem_append.mp h).elim (fun h => ha w (List.mem_cons.mpr (Or.inr h))) (hb w))
theorem goodIn_sub {big ws : List Cond} (hm : ∀ w ∈ ws, w ∈ big) (h : ws.all goodWord = true) : GoodIn big ws := fun w hw => ⟨hm w hw, good_of_word (List.all_eq_true.mp h w hw)⟩
def RX0 : String := "FieldBeeps$Field"
def TX0 : u_T := fun k => match k with
  | 0 => ("FieldBeeps$Field", "kind", "[I", true)
  | 1 => ("FieldBeeps$Field", "cell", "[I", true)
  | 2 => ("FieldBeeps$Field", "depth", "[I", true)
  | 3 => ("FieldBeeps$Field", "size", "[I", true)
  | 4 => ("FieldBeeps$Field", "count", "I", false)
  | 5 => ("FieldBeeps$Field", "taken", "I", false)
  | 6 => ("FieldBeeps$Field", "wet", "I", false)
  | 7 => ("FieldBeeps$Field", "plate", "I", false)
  | 8 => ("FieldBeeps$Field", "year", "I", false)
  | 9 => ("FieldBeeps$Field", "walked", "I", false)
  | _ => ("FieldBeeps$Field", "rule", "I", false)
def tyX0 : Nat → FieldType := fun k => match k with
  | 0 => .array .int
  | 1 => .array .int
  | 2 => .array .int
  | 3 => .array .int
  | 4 => .int
  | 5 => .int
  | 6 => .int
  | 7 => .int
  | 8 => .int
  | 9 => .int
  | _ => .int
theorem nmX0 : ∀ a, a < 11 → ∀ b, b < 11 → a ≠ b → (TX0 a).2.1 ≠ (TX0 b).2.1 := by decide +kernel
theorem tyX0_ok : ∀ k, k < 11 → parseFieldDescriptor (TX0 k).2.2.1 = some (tyX0 k) := by decide +kernel
abbrev cX0_init : ByteArray := prog_2_method_1_code
def yX0_init : MethodName := ⟨RX0, "<init>", "()V"⟩
abbrev cX0_has : ByteArray := prog_2_method_2_code
def yX0_has : MethodName := ⟨RX0, "has", "(I)Z"⟩
abbrev cX0_lies : ByteArray := prog_2_method_3_code
def yX0_lies : MethodName := ⟨RX0, "lies", "(I)Z"⟩
abbrev cX0_lying : ByteArray := prog_2_method_4_code
def yX0_lying : MethodName := ⟨RX0, "lying", "()I"⟩
abbrev cX0_lay : ByteArray := prog_2_method_5_code
def yX0_lay : MethodName := ⟨RX0, "lay", "(IIII)I"⟩
abbrev cX0_layAs : ByteArray := prog_2_method_6_code
def yX0_layAs : MethodName := ⟨RX0, "layAs", "(LFieldBeeps$Field;)V"⟩
abbrev cX0_become : ByteArray := prog_2_method_7_code
def yX0_become : MethodName := ⟨RX0, "become", "(LFieldBeeps$Field;)V"⟩
abbrev cX0_loud : ByteArray := prog_2_method_8_code
def yX0_loud : MethodName := ⟨RX0, "loud", "(I)I"⟩
abbrev cX0_heard : ByteArray := prog_2_method_9_code
def yX0_heard : MethodName := ⟨RX0, "heard", "(I)I"⟩
abbrev cX0_turnOver : ByteArray := prog_2_method_10_code
def yX0_turnOver : MethodName := ⟨RX0, "turnOver", "()V"⟩
abbrev cX0_scatter : ByteArray := prog_2_method_11_code
def yX0_scatter : MethodName := ⟨RX0, "scatter", "(I)V"⟩
abbrev cX0_dotsIn : ByteArray := prog_2_method_12_code
def yX0_dotsIn : MethodName := ⟨RX0, "dotsIn", "(I)I"⟩
abbrev cX0_stripsWithFinds : ByteArray := prog_2_method_13_code
def yX0_stripsWithFinds : MethodName := ⟨RX0, "stripsWithFinds", "()I"⟩
abbrev cX0_farFrom : ByteArray := prog_2_method_14_code
def yX0_farFrom : MethodName := ⟨RX0, "farFrom", "(I)I"⟩
def RX1 : String := "FieldBeeps$Reader"
def TX1 : u_T := fun k => match k with
  | 0 => ("FieldBeeps$Reader", "size", "I", false)
  | 1 => ("FieldBeeps$Reader", "texts", "LFieldBeeps$Texts;", true)
  | 2 => ("FieldBeeps$Reader", "tape", "[I", true)
  | 3 => ("FieldBeeps$Reader", "behind", "I", false)
  | 4 => ("FieldBeeps$Reader", "place", "I", false)
  | 5 => ("FieldBeeps$Reader", "token", "I", false)
  | _ => ("FieldBeeps$Reader", "fault", "I", false)
def tyX1 : Nat → FieldType := fun k => match k with
  | 0 => .int
  | 1 => .object "FieldBeeps$Texts"
  | 2 => .array .int
  | 3 => .int
  | 4 => .int
  | 5 => .int
  | _ => .int
theorem nmX1 : ∀ a, a < 7 → ∀ b, b < 7 → a ≠ b → (TX1 a).2.1 ≠ (TX1 b).2.1 := by decide +kernel
theorem tyX1_ok : ∀ k, k < 7 → parseFieldDescriptor (TX1 k).2.2.1 = some (tyX1 k) := by decide +kernel
abbrev cX1_init : ByteArray := prog_3_method_1_code
def yX1_init : MethodName := ⟨RX1, "<init>", "(LFieldBeeps$Texts;)V"⟩
abbrev cX1_append : ByteArray := prog_3_method_2_code
def yX1_append : MethodName := ⟨RX1, "append", "(I)I"⟩
abbrev cX1_readTape : ByteArray := prog_3_method_3_code
def yX1_readTape : MethodName := ⟨RX1, "readTape", "()I"⟩
abbrev cX1_readRank : ByteArray := prog_3_method_4_code
def yX1_readRank : MethodName := ⟨RX1, "readRank", "(II)V"⟩
abbrev cX1_isJoint : ByteArray := prog_3_method_5_code
def yX1_isJoint : MethodName := ⟨RX1, "isJoint", "(II)Z"⟩
abbrev cX1_readOne : ByteArray := prog_3_method_6_code
def yX1_readOne : MethodName := ⟨RX1, "readOne", "(I)V"⟩
abbrev cX1_mayOpen : ByteArray := prog_3_method_7_code
def yX1_mayOpen : MethodName := ⟨RX1, "mayOpen", "(I)Z"⟩
abbrev cX1_expect : ByteArray := prog_3_method_8_code
def yX1_expect : MethodName := ⟨RX1, "expect", "(I)V"⟩
abbrev cX1_refuse : ByteArray := prog_3_method_9_code
def yX1_refuse : MethodName := ⟨RX1, "refuse", "()V"⟩
abbrev cX1_advance : ByteArray := prog_3_method_10_code
def yX1_advance : MethodName := ⟨RX1, "advance", "()V"⟩
abbrev cX1_isLetter : ByteArray := prog_3_method_11_code
def yX1_isLetter : MethodName := ⟨RX1, "isLetter", "(I)Z"⟩
abbrev cX1_isDigit : ByteArray := prog_3_method_12_code
def yX1_isDigit : MethodName := ⟨RX1, "isDigit", "(I)Z"⟩
abbrev cX1_signOf : ByteArray := prog_3_method_13_code
def yX1_signOf : MethodName := ⟨RX1, "signOf", "(I)I"⟩
abbrev cX1_takeNumber : ByteArray := prog_3_method_14_code
def yX1_takeNumber : MethodName := ⟨RX1, "takeNumber", "()I"⟩
abbrev cX1_takeWord : ByteArray := prog_3_method_15_code
def yX1_takeWord : MethodName := ⟨RX1, "takeWord", "()I"⟩
abbrev cX1_spells : ByteArray := prog_3_method_16_code
def yX1_spells : MethodName := ⟨RX1, "spells", "(Ljava/lang/String;)Z"⟩
def RX2 : String := "FieldBeeps$Sheets"
def TX2 : u_T := fun k => match k with
  | 0 => ("FieldBeeps$Sheets", "sort", "[I", true)
  | 1 => ("FieldBeeps$Sheets", "size", "[I", true)
  | _ => ("FieldBeeps$Sheets", "item", "[I", true)
def tyX2 : Nat → FieldType := fun k => match k with
  | 0 => .array .int
  | 1 => .array .int
  | _ => .array .int
theorem nmX2 : ∀ a, a < 3 → ∀ b, b < 3 → a ≠ b → (TX2 a).2.1 ≠ (TX2 b).2.1 := by decide +kernel
theorem tyX2_ok : ∀ k, k < 3 → parseFieldDescriptor (TX2 k).2.2.1 = some (tyX2 k) := by decide +kernel
abbrev cX2_init : ByteArray := prog_4_method_1_code
def yX2_init : MethodName := ⟨RX2, "<init>", "()V"⟩
abbrev cX2_sortOf : ByteArray := prog_4_method_2_code
def yX2_sortOf : MethodName := ⟨RX2, "sortOf", "(I)I"⟩
abbrev cX2_sizeOf : ByteArray := prog_4_method_3_code
def yX2_sizeOf : MethodName := ⟨RX2, "sizeOf", "(I)I"⟩
abbrev cX2_remove : ByteArray := prog_4_method_4_code
def yX2_remove : MethodName := ⟨RX2, "remove", "(I)V"⟩
abbrev cX2_make : ByteArray := prog_4_method_5_code
def yX2_make : MethodName := ⟨RX2, "make", "(III)V"⟩
abbrev cX2_itemOf : ByteArray := prog_4_method_6_code
def yX2_itemOf : MethodName := ⟨RX2, "itemOf", "(II)I"⟩
abbrev cX2_put : ByteArray := prog_4_method_7_code
def yX2_put : MethodName := ⟨RX2, "put", "(III)V"⟩
abbrev cX2_hasRange : ByteArray := prog_4_method_8_code
def yX2_hasRange : MethodName := ⟨RX2, "hasRange", "(III)Z"⟩
abbrev cX2_move : ByteArray := prog_4_method_9_code
def yX2_move : MethodName := ⟨RX2, "move", "(IIIII)V"⟩
def RX3 : String := "FieldBeeps$Texts"
def TX3 : u_T := fun k => match k with
  | 0 => ("FieldBeeps$Texts", "count", "I", false)
  | 1 => ("FieldBeeps$Texts", "code", "[I", true)
  | 2 => ("FieldBeeps$Texts", "ends", "[I", true)
  | 3 => ("FieldBeeps$Texts", "names", "[I", true)
  | 4 => ("FieldBeeps$Texts", "stack", "[I", true)
  | _ => ("FieldBeeps$Texts", "next", "I", false)
def tyX3 : Nat → FieldType := fun k => match k with
  | 0 => .int
  | 1 => .array .int
  | 2 => .array .int
  | 3 => .array .int
  | 4 => .array .int
  | _ => .int
theorem nmX3 : ∀ a, a < 6 → ∀ b, b < 6 → a ≠ b → (TX3 a).2.1 ≠ (TX3 b).2.1 := by decide +kernel
theorem tyX3_ok : ∀ k, k < 6 → parseFieldDescriptor (TX3 k).2.2.1 = some (tyX3 k) := by decide +kernel
abbrev cX3_init : ByteArray := prog_5_method_1_code
def yX3_init : MethodName := ⟨RX3, "<init>", "()V"⟩
abbrev cX3_has : ByteArray := prog_5_method_2_code
def yX3_has : MethodName := ⟨RX3, "has", "(I)Z"⟩
abbrev cX3_isFull : ByteArray := prog_5_method_3_code
def yX3_isFull : MethodName := ⟨RX3, "isFull", "()Z"⟩
abbrev cX3_begin : ByteArray := prog_5_method_4_code
def yX3_begin : MethodName := ⟨RX3, "begin", "()V"⟩
abbrev cX3_write : ByteArray := prog_5_method_5_code
def yX3_write : MethodName := ⟨RX3, "write", "(I)V"⟩
abbrev cX3_endPart : ByteArray := prog_5_method_6_code
def yX3_endPart : MethodName := ⟨RX3, "endPart", "(I)V"⟩
abbrev cX3_keep : ByteArray := prog_5_method_7_code
def yX3_keep : MethodName := ⟨RX3, "keep", "()I"⟩
abbrev cX3_reckon : ByteArray := prog_5_method_8_code
def yX3_reckon : MethodName := ⟨RX3, "reckon", "(ILFieldBeeps$Field;II)I"⟩
abbrev cX3_run : ByteArray := prog_5_method_9_code
def yX3_run : MethodName := ⟨RX3, "run", "(II)I"⟩
abbrev cX3_turned : ByteArray := prog_5_method_10_code
def yX3_turned : MethodName := ⟨RX3, "turned", "(II)I"⟩
abbrev cX3_joined : ByteArray := prog_5_method_11_code
def yX3_joined : MethodName := ⟨RX3, "joined", "(III)I"⟩
def RX4 : String := "FieldBeeps$Walker"
def TX4 : u_T := fun k => match k with
  | 0 => ("FieldBeeps$Walker", "texts", "LFieldBeeps$Texts;", true)
  | _ => ("FieldBeeps$Walker", "worth", "I", false)
def tyX4 : Nat → FieldType := fun k => match k with
  | 0 => .object "FieldBeeps$Texts"
  | _ => .int
theorem nmX4 : ∀ a, a < 2 → ∀ b, b < 2 → a ≠ b → (TX4 a).2.1 ≠ (TX4 b).2.1 := by decide +kernel
theorem tyX4_ok : ∀ k, k < 2 → parseFieldDescriptor (TX4 k).2.2.1 = some (tyX4 k) := by decide +kernel
abbrev cX4_init : ByteArray := prog_6_method_1_code
def yX4_init : MethodName := ⟨RX4, "<init>", "(LFieldBeeps$Texts;)V"⟩
abbrev cX4_walkStrips : ByteArray := prog_6_method_2_code
def yX4_walkStrips : MethodName := ⟨RX4, "walkStrips", "(LFieldBeeps$Field;I)I"⟩
abbrev cX4_digIn : ByteArray := prog_6_method_3_code
def yX4_digIn : MethodName := ⟨RX4, "digIn", "(LFieldBeeps$Field;I)I"⟩
abbrev cX4_beepIn : ByteArray := prog_6_method_4_code
def yX4_beepIn : MethodName := ⟨RX4, "beepIn", "(LFieldBeeps$Field;I)I"⟩
abbrev cX4_dugIfHeard : ByteArray := prog_6_method_5_code
def yX4_dugIfHeard : MethodName := ⟨RX4, "dugIfHeard", "(LFieldBeeps$Field;)I"⟩
def RX5 : String := "FieldBeeps"
def TX5 : u_T := fun k => match k with
  | 0 => ("FieldBeeps", "field", "LFieldBeeps$Field;", true)
  | 1 => ("FieldBeeps", "kept", "LFieldBeeps$Field;", true)
  | 2 => ("FieldBeeps", "later", "LFieldBeeps$Field;", true)
  | 3 => ("FieldBeeps", "trial", "LFieldBeeps$Field;", true)
  | 4 => ("FieldBeeps", "texts", "LFieldBeeps$Texts;", true)
  | 5 => ("FieldBeeps", "reader", "LFieldBeeps$Reader;", true)
  | 6 => ("FieldBeeps", "walker", "LFieldBeeps$Walker;", true)
  | 7 => ("FieldBeeps", "sheets", "LFieldBeeps$Sheets;", true)
  | _ => ("FieldBeeps", "hasImage", "Z", false)
def tyX5 : Nat → FieldType := fun k => match k with
  | 0 => .object "FieldBeeps$Field"
  | 1 => .object "FieldBeeps$Field"
  | 2 => .object "FieldBeeps$Field"
  | 3 => .object "FieldBeeps$Field"
  | 4 => .object "FieldBeeps$Texts"
  | 5 => .object "FieldBeeps$Reader"
  | 6 => .object "FieldBeeps$Walker"
  | 7 => .object "FieldBeeps$Sheets"
  | _ => .boolean
theorem nmX5 : ∀ a, a < 9 → ∀ b, b < 9 → a ≠ b → (TX5 a).2.1 ≠ (TX5 b).2.1 := by decide +kernel
theorem tyX5_ok : ∀ k, k < 9 → parseFieldDescriptor (TX5 k).2.2.1 = some (tyX5 k) := by decide +kernel
abbrev cX5_init : ByteArray := prog_1_method_1_code
def yX5_init : MethodName := ⟨RX5, "<init>", "()V"⟩
abbrev cX5_find : ByteArray := prog_1_method_2_code
def yX5_find : MethodName := ⟨RX5, "find", "(III)I"⟩
abbrev cX5_set : ByteArray := prog_1_method_3_code
def yX5_set : MethodName := ⟨RX5, "set", "(III)I"⟩
abbrev cX5_changeWet : ByteArray := prog_1_method_4_code
def yX5_changeWet : MethodName := ⟨RX5, "changeWet", "(I)I"⟩
abbrev cX5_changePlate : ByteArray := prog_1_method_5_code
def yX5_changePlate : MethodName := ⟨RX5, "changePlate", "(I)I"⟩
abbrev cX5_changeFind : ByteArray := prog_1_method_6_code
def yX5_changeFind : MethodName := ⟨RX5, "changeFind", "([IIIZ)I"⟩
abbrev cX5_told : ByteArray := prog_1_method_7_code
def yX5_told : MethodName := ⟨RX5, "told", "(II)I"⟩
abbrev cX5_feed : ByteArray := prog_1_method_8_code
def yX5_feed : MethodName := ⟨RX5, "feed", "(I)I"⟩
abbrev cX5_text : ByteArray := prog_1_method_9_code
def yX5_text : MethodName := ⟨RX5, "text", "()I"⟩
abbrev cX5_force : ByteArray := prog_1_method_10_code
def yX5_force : MethodName := ⟨RX5, "force", "(I)I"⟩
abbrev cX5_beep : ByteArray := prog_1_method_11_code
def yX5_beep : MethodName := ⟨RX5, "beep", "(I)I"⟩
abbrev cX5_walk : ByteArray := prog_1_method_12_code
def yX5_walk : MethodName := ⟨RX5, "walk", "(I)I"⟩
abbrev cX5_plough : ByteArray := prog_1_method_13_code
def yX5_plough : MethodName := ⟨RX5, "plough", "()I"⟩
abbrev cX5_found : ByteArray := prog_1_method_14_code
def yX5_found : MethodName := ⟨RX5, "found", "(II)I"⟩
abbrev cX5_foundIn : ByteArray := prog_1_method_15_code
def yX5_foundIn : MethodName := ⟨RX5, "foundIn", "(LFieldBeeps$Field;I)I"⟩
abbrev cX5_years : ByteArray := prog_1_method_16_code
def yX5_years : MethodName := ⟨RX5, "years", "(I)I"⟩
abbrev cX5_soonest : ByteArray := prog_1_method_17_code
def yX5_soonest : MethodName := ⟨RX5, "soonest", "(I)I"⟩
abbrev cX5_strips : ByteArray := prog_1_method_18_code
def yX5_strips : MethodName := ⟨RX5, "strips", "(II)I"⟩
abbrev cX5_better : ByteArray := prog_1_method_19_code
def yX5_better : MethodName := ⟨RX5, "better", "()I"⟩
abbrev cX5_order : ByteArray := prog_1_method_20_code
def yX5_order : MethodName := ⟨RX5, "order", "(II)I"⟩
abbrev cX5_pot : ByteArray := prog_1_method_21_code
def yX5_pot : MethodName := ⟨RX5, "pot", "()I"⟩
abbrev cX5_came : ByteArray := prog_1_method_22_code
def yX5_came : MethodName := ⟨RX5, "came", "(II)I"⟩
abbrev cX5_dots : ByteArray := prog_1_method_23_code
def yX5_dots : MethodName := ⟨RX5, "dots", "(I)I"⟩
abbrev cX5_thick : ByteArray := prog_1_method_24_code
def yX5_thick : MethodName := ⟨RX5, "thick", "()I"⟩
abbrev cX5_judge : ByteArray := prog_1_method_25_code
def yX5_judge : MethodName := ⟨RX5, "judge", "(II)I"⟩
abbrev cX5_unseen : ByteArray := prog_1_method_26_code
def yX5_unseen : MethodName := ⟨RX5, "unseen", "()I"⟩
abbrev cX5_left : ByteArray := prog_1_method_27_code
def yX5_left : MethodName := ⟨RX5, "left", "(I)I"⟩
abbrev cX5_neverHeard : ByteArray := prog_1_method_28_code
def yX5_neverHeard : MethodName := ⟨RX5, "neverHeard", "()I"⟩
abbrev cX5_drawn : ByteArray := prog_1_method_29_code
def yX5_drawn : MethodName := ⟨RX5, "drawn", "(I)I"⟩
abbrev cX5_foundIfDrawn : ByteArray := prog_1_method_30_code
def yX5_foundIfDrawn : MethodName := ⟨RX5, "foundIfDrawn", "(I)I"⟩
abbrev cX5_odds : ByteArray := prog_1_method_31_code
def yX5_odds : MethodName := ⟨RX5, "odds", "(IIII)J"⟩
abbrev cX5_lowered : ByteArray := prog_1_method_32_code
def yX5_lowered : MethodName := ⟨RX5, "lowered", "(II)I"⟩
abbrev cX5_image : ByteArray := prog_1_method_33_code
def yX5_image : MethodName := ⟨RX5, "image", "()I"⟩
abbrev cX5_back : ByteArray := prog_1_method_34_code
def yX5_back : MethodName := ⟨RX5, "back", "()I"⟩
abbrev cX5_count : ByteArray := prog_1_method_35_code
def yX5_count : MethodName := ⟨RX5, "count", "(I)I"⟩
abbrev cX5_sheet : ByteArray := prog_1_method_36_code
def yX5_sheet : MethodName := ⟨RX5, "sheet", "(III)I"⟩
abbrev cX5_cell : ByteArray := prog_1_method_37_code
def yX5_cell : MethodName := ⟨RX5, "cell", "(III)I"⟩
abbrev cX5_copy : ByteArray := prog_1_method_38_code
def yX5_copy : MethodName := ⟨RX5, "copy", "(IIIII)I"⟩
abbrev cX5_finds : ByteArray := prog_1_method_39_code
def yX5_finds : MethodName := ⟨RX5, "finds", "(IIII)I"⟩
abbrev cX5_taken : ByteArray := prog_1_method_40_code
def yX5_taken : MethodName := ⟨RX5, "taken", "(II)I"⟩
abbrev cX5_isWithin : ByteArray := prog_1_method_41_code
def yX5_isWithin : MethodName := ⟨RX5, "isWithin", "(III)Z"⟩
abbrev cX5_isCell : ByteArray := prog_1_method_42_code
def yX5_isCell : MethodName := ⟨RX5, "isCell", "(I)Z"⟩
abbrev cX5_isSheet : ByteArray := prog_1_method_43_code
def yX5_isSheet : MethodName := ⟨RX5, "isSheet", "(I)Z"⟩
abbrev cX5_held : ByteArray := prog_1_method_44_code
def yX5_held : MethodName := ⟨RX5, "held", "(II)I"⟩
abbrev cX5_toneOf : ByteArray := prog_1_method_45_code
def yX5_toneOf : MethodName := ⟨RX5, "toneOf", "(II)I"⟩
abbrev cX5_loudOf : ByteArray := prog_1_method_46_code
def yX5_loudOf : MethodName := ⟨RX5, "loudOf", "(IIIII)I"⟩
abbrev cX5_dragsOf : ByteArray := prog_1_method_47_code
def yX5_dragsOf : MethodName := ⟨RX5, "dragsOf", "(III)I"⟩
abbrev cX5_isUnder : ByteArray := prog_1_method_48_code
def yX5_isUnder : MethodName := ⟨RX5, "isUnder", "(II)Z"⟩
def RX6 : String := "FieldBeepsModel"
def TX6 : u_T := fun k => match k with
  | 0 => ("FieldBeepsModel", "thrown", "I", false)
  | 1 => ("FieldBeepsModel", "texts", "[I", true)
  | 2 => ("FieldBeepsModel", "textSize", "[I", true)
  | 3 => ("FieldBeepsModel", "textCount", "I", false)
  | 4 => ("FieldBeepsModel", "rule", "I", false)
  | 5 => ("FieldBeepsModel", "tape", "[I", true)
  | 6 => ("FieldBeepsModel", "taped", "I", false)
  | 7 => ("FieldBeepsModel", "kinds", "[I", true)
  | 8 => ("FieldBeepsModel", "cells", "[I", true)
  | 9 => ("FieldBeepsModel", "depths", "[I", true)
  | 10 => ("FieldBeepsModel", "sizes", "[I", true)
  | 11 => ("FieldBeepsModel", "many", "I", false)
  | 12 => ("FieldBeepsModel", "gone", "I", false)
  | 13 => ("FieldBeepsModel", "wet", "I", false)
  | 14 => ("FieldBeepsModel", "plate", "I", false)
  | 15 => ("FieldBeepsModel", "year", "I", false)
  | 16 => ("FieldBeepsModel", "walked", "I", false)
  | 17 => ("FieldBeepsModel", "ofTone", "I", false)
  | 18 => ("FieldBeepsModel", "ofLoud", "I", false)
  | 19 => ("FieldBeepsModel", "ofWet", "I", false)
  | 20 => ("FieldBeepsModel", "ofPlate", "I", false)
  | 21 => ("FieldBeepsModel", "ofY", "I", false)
  | 22 => ("FieldBeepsModel", "ofX", "I", false)
  | 23 => ("FieldBeepsModel", "from", "I", false)
  | 24 => ("FieldBeepsModel", "size", "I", false)
  | 25 => ("FieldBeepsModel", "here", "I", false)
  | 26 => ("FieldBeepsModel", "token", "I", false)
  | 27 => ("FieldBeepsModel", "tokenAt", "I", false)
  | 28 => ("FieldBeepsModel", "tokenWorth", "J", false)
  | 29 => ("FieldBeepsModel", "open", "I", false)
  | 30 => ("FieldBeepsModel", "bad", "Z", false)
  | 31 => ("FieldBeepsModel", "fault", "I", false)
  | 32 => ("FieldBeepsModel", "got", "I", false)
  | 33 => ("FieldBeepsModel", "gotWorth", "I", false)
  | 34 => ("FieldBeepsModel", "cellsWas", "[I", true)
  | 35 => ("FieldBeepsModel", "depthsWas", "[I", true)
  | 36 => ("FieldBeepsModel", "goneWas", "I", false)
  | 37 => ("FieldBeepsModel", "plateWas", "I", false)
  | 38 => ("FieldBeepsModel", "yearWas", "I", false)
  | 39 => ("FieldBeepsModel", "cellsKept", "[I", true)
  | 40 => ("FieldBeepsModel", "depthsKept", "[I", true)
  | 41 => ("FieldBeepsModel", "manyKept", "I", false)
  | 42 => ("FieldBeepsModel", "goneKept", "I", false)
  | 43 => ("FieldBeepsModel", "wetKept", "I", false)
  | 44 => ("FieldBeepsModel", "plateKept", "I", false)
  | 45 => ("FieldBeepsModel", "yearKept", "I", false)
  | 46 => ("FieldBeepsModel", "walkedKept", "I", false)
  | 47 => ("FieldBeepsModel", "ruleKept", "I", false)
  | 48 => ("FieldBeepsModel", "isThere", "[Z", true)
  | 49 => ("FieldBeepsModel", "sorts", "[I", true)
  | 50 => ("FieldBeepsModel", "sheetSize", "[I", true)
  | _ => ("FieldBeepsModel", "items", "[I", true)
def tyX6 : Nat → FieldType := fun k => match k with
  | 0 => .int
  | 1 => .array .int
  | 2 => .array .int
  | 3 => .int
  | 4 => .int
  | 5 => .array .int
  | 6 => .int
  | 7 => .array .int
  | 8 => .array .int
  | 9 => .array .int
  | 10 => .array .int
  | 11 => .int
  | 12 => .int
  | 13 => .int
  | 14 => .int
  | 15 => .int
  | 16 => .int
  | 17 => .int
  | 18 => .int
  | 19 => .int
  | 20 => .int
  | 21 => .int
  | 22 => .int
  | 23 => .int
  | 24 => .int
  | 25 => .int
  | 26 => .int
  | 27 => .int
  | 28 => .long
  | 29 => .int
  | 30 => .boolean
  | 31 => .int
  | 32 => .int
  | 33 => .int
  | 34 => .array .int
  | 35 => .array .int
  | 36 => .int
  | 37 => .int
  | 38 => .int
  | 39 => .array .int
  | 40 => .array .int
  | 41 => .int
  | 42 => .int
  | 43 => .int
  | 44 => .int
  | 45 => .int
  | 46 => .int
  | 47 => .int
  | 48 => .array .boolean
  | 49 => .array .int
  | 50 => .array .int
  | _ => .array .int
theorem nmX6 : ∀ a, a < 52 → ∀ b, b < 52 → a ≠ b → (TX6 a).2.1 ≠ (TX6 b).2.1 := by decide +kernel
theorem tyX6_ok : ∀ k, k < 52 → parseFieldDescriptor (TX6 k).2.2.1 = some (tyX6 k) := by decide +kernel
abbrev cX6_in : ByteArray := prog_8_method_2_code
def yX6_in : MethodName := ⟨RX6, "in", "(JJJ)Z"⟩
abbrev cX6_within : ByteArray := prog_8_method_3_code
def yX6_within : MethodName := ⟨RX6, "within", "(III)I"⟩
abbrev cX6_bitsOf : ByteArray := prog_8_method_4_code
def yX6_bitsOf : MethodName := ⟨RX6, "bitsOf", "(I)I"⟩
abbrev cX6_init : ByteArray := prog_8_method_5_code
def yX6_init : MethodName := ⟨RX6, "<init>", "()V"⟩
abbrev cX6_spell : ByteArray := prog_8_method_6_code
def yX6_spell : MethodName := ⟨RX6, "spell", "(IIIIIIIII)V"⟩
abbrev cX6_isFind : ByteArray := prog_8_method_7_code
def yX6_isFind : MethodName := ⟨RX6, "isFind", "(I)Z"⟩
abbrev cX6_lies : ByteArray := prog_8_method_8_code
def yX6_lies : MethodName := ⟨RX6, "lies", "(I)Z"⟩
abbrev cX6_isCell : ByteArray := prog_8_method_9_code
def yX6_isCell : MethodName := ⟨RX6, "isCell", "(I)Z"⟩
abbrev cX6_find : ByteArray := prog_8_method_10_code
def yX6_find : MethodName := ⟨RX6, "find", "(III)I"⟩
abbrev cX6_set : ByteArray := prog_8_method_11_code
def yX6_set : MethodName := ⟨RX6, "set", "(III)I"⟩
abbrev cX6_tone : ByteArray := prog_8_method_12_code
def yX6_tone : MethodName := ⟨RX6, "tone", "(I)I"⟩
abbrev cX6_loud : ByteArray := prog_8_method_13_code
def yX6_loud : MethodName := ⟨RX6, "loud", "(I)I"⟩
abbrev cX6_dragsAt : ByteArray := prog_8_method_14_code
def yX6_dragsAt : MethodName := ⟨RX6, "dragsAt", "(III)I"⟩
abbrev cX6_heard : ByteArray := prog_8_method_15_code
def yX6_heard : MethodName := ⟨RX6, "heard", "(I)I"⟩
abbrev cX6_told : ByteArray := prog_8_method_16_code
def yX6_told : MethodName := ⟨RX6, "told", "(II)I"⟩
abbrev cX6_feed : ByteArray := prog_8_method_17_code
def yX6_feed : MethodName := ⟨RX6, "feed", "(I)I"⟩
abbrev cX6_byteAt : ByteArray := prog_8_method_18_code
def yX6_byteAt : MethodName := ⟨RX6, "byteAt", "(I)I"⟩
abbrev cX6_next : ByteArray := prog_8_method_19_code
def yX6_next : MethodName := ⟨RX6, "next", "()V"⟩
abbrev cX6_fail : ByteArray := prog_8_method_20_code
def yX6_fail : MethodName := ⟨RX6, "fail", "()V"⟩
abbrev cX6_isLetter : ByteArray := prog_8_method_21_code
def yX6_isLetter : MethodName := ⟨RX6, "isLetter", "(II)Z"⟩
abbrev cX6_isWord : ByteArray := prog_8_method_22_code
def yX6_isWord : MethodName := ⟨RX6, "isWord", "(IIIIIIII)Z"⟩
abbrev cX6_isSign : ByteArray := prog_8_method_23_code
def yX6_isSign : MethodName := ⟨RX6, "isSign", "(I)Z"⟩
abbrev cX6_opens : ByteArray := prog_8_method_24_code
def yX6_opens : MethodName := ⟨RX6, "opens", "()Z"⟩
abbrev cX6_name : ByteArray := prog_8_method_25_code
def yX6_name : MethodName := ⟨RX6, "name", "()I"⟩
abbrev cX6_atom : ByteArray := prog_8_method_26_code
def yX6_atom : MethodName := ⟨RX6, "atom", "()I"⟩
abbrev cX6_term : ByteArray := prog_8_method_27_code
def yX6_term : MethodName := ⟨RX6, "term", "()I"⟩
abbrev cX6_added : ByteArray := prog_8_method_28_code
def yX6_added : MethodName := ⟨RX6, "added", "()I"⟩
abbrev cX6_not : ByteArray := prog_8_method_29_code
def yX6_not : MethodName := ⟨RX6, "not", "()I"⟩
abbrev cX6_both : ByteArray := prog_8_method_30_code
def yX6_both : MethodName := ⟨RX6, "both", "()I"⟩
abbrev cX6_either : ByteArray := prog_8_method_31_code
def yX6_either : MethodName := ⟨RX6, "either", "()I"⟩
abbrev cX6_part : ByteArray := prog_8_method_32_code
def yX6_part : MethodName := ⟨RX6, "part", "(Z)I"⟩
abbrev cX6_read : ByteArray := prog_8_method_33_code
def yX6_read : MethodName := ⟨RX6, "read", "(II)I"⟩
abbrev cX6_text : ByteArray := prog_8_method_34_code
def yX6_text : MethodName := ⟨RX6, "text", "()I"⟩
abbrev cX6_force : ByteArray := prog_8_method_35_code
def yX6_force : MethodName := ⟨RX6, "force", "(I)I"⟩
abbrev cX6_says : ByteArray := prog_8_method_36_code
def yX6_says : MethodName := ⟨RX6, "says", "(III)I"⟩
abbrev cX6_worth : ByteArray := prog_8_method_37_code
def yX6_worth : MethodName := ⟨RX6, "worth", "(II)I"⟩
abbrev cX6_isHeard : ByteArray := prog_8_method_38_code
def yX6_isHeard : MethodName := ⟨RX6, "isHeard", "(I)Z"⟩
abbrev cX6_beepOf : ByteArray := prog_8_method_39_code
def yX6_beepOf : MethodName := ⟨RX6, "beepOf", "(I)I"⟩
abbrev cX6_beep : ByteArray := prog_8_method_40_code
def yX6_beep : MethodName := ⟨RX6, "beep", "(I)I"⟩
abbrev cX6_digs : ByteArray := prog_8_method_41_code
def yX6_digs : MethodName := ⟨RX6, "digs", "(I)V"⟩
abbrev cX6_walks : ByteArray := prog_8_method_42_code
def yX6_walks : MethodName := ⟨RX6, "walks", "(I)V"⟩
abbrev cX6_walksAll : ByteArray := prog_8_method_43_code
def yX6_walksAll : MethodName := ⟨RX6, "walksAll", "(I)V"⟩
abbrev cX6_walk : ByteArray := prog_8_method_44_code
def yX6_walk : MethodName := ⟨RX6, "walk", "(I)I"⟩
abbrev cX6_ploughs : ByteArray := prog_8_method_45_code
def yX6_ploughs : MethodName := ⟨RX6, "ploughs", "()V"⟩
abbrev cX6_plough : ByteArray := prog_8_method_46_code
def yX6_plough : MethodName := ⟨RX6, "plough", "()I"⟩
abbrev cX6_laysAside : ByteArray := prog_8_method_47_code
def yX6_laysAside : MethodName := ⟨RX6, "laysAside", "()V"⟩
abbrev cX6_laysBack : ByteArray := prog_8_method_48_code
def yX6_laysBack : MethodName := ⟨RX6, "laysBack", "()V"⟩
abbrev cX6_found : ByteArray := prog_8_method_49_code
def yX6_found : MethodName := ⟨RX6, "found", "(II)I"⟩
abbrev cX6_years : ByteArray := prog_8_method_50_code
def yX6_years : MethodName := ⟨RX6, "years", "(I)I"⟩
abbrev cX6_soonest : ByteArray := prog_8_method_51_code
def yX6_soonest : MethodName := ⟨RX6, "soonest", "(I)I"⟩
abbrev cX6_strips : ByteArray := prog_8_method_52_code
def yX6_strips : MethodName := ⟨RX6, "strips", "(II)I"⟩
abbrev cX6_better : ByteArray := prog_8_method_53_code
def yX6_better : MethodName := ⟨RX6, "better", "()I"⟩
abbrev cX6_order : ByteArray := prog_8_method_54_code
def yX6_order : MethodName := ⟨RX6, "order", "(II)I"⟩
abbrev cX6_off : ByteArray := prog_8_method_55_code
def yX6_off : MethodName := ⟨RX6, "off", "(II)I"⟩
abbrev cX6_pot : ByteArray := prog_8_method_56_code
def yX6_pot : MethodName := ⟨RX6, "pot", "()I"⟩
abbrev cX6_came : ByteArray := prog_8_method_57_code
def yX6_came : MethodName := ⟨RX6, "came", "(II)I"⟩
abbrev cX6_dotsOf : ByteArray := prog_8_method_58_code
def yX6_dotsOf : MethodName := ⟨RX6, "dotsOf", "(I)I"⟩
abbrev cX6_dots : ByteArray := prog_8_method_59_code
def yX6_dots : MethodName := ⟨RX6, "dots", "(I)I"⟩
abbrev cX6_thick : ByteArray := prog_8_method_60_code
def yX6_thick : MethodName := ⟨RX6, "thick", "()I"⟩
abbrev cX6_judge : ByteArray := prog_8_method_61_code
def yX6_judge : MethodName := ⟨RX6, "judge", "(II)I"⟩
abbrev cX6_unseen : ByteArray := prog_8_method_62_code
def yX6_unseen : MethodName := ⟨RX6, "unseen", "()I"⟩
abbrev cX6_left : ByteArray := prog_8_method_63_code
def yX6_left : MethodName := ⟨RX6, "left", "(I)I"⟩
abbrev cX6_drawn : ByteArray := prog_8_method_64_code
def yX6_drawn : MethodName := ⟨RX6, "drawn", "(I)I"⟩
abbrev cX6_odds : ByteArray := prog_8_method_65_code
def yX6_odds : MethodName := ⟨RX6, "odds", "(IIII)J"⟩
abbrev cX6_image : ByteArray := prog_8_method_66_code
def yX6_image : MethodName := ⟨RX6, "image", "()I"⟩
abbrev cX6_back : ByteArray := prog_8_method_67_code
def yX6_back : MethodName := ⟨RX6, "back", "()I"⟩
abbrev cX6_count : ByteArray := prog_8_method_68_code
def yX6_count : MethodName := ⟨RX6, "count", "(I)I"⟩
abbrev cX6_isSheet : ByteArray := prog_8_method_69_code
def yX6_isSheet : MethodName := ⟨RX6, "isSheet", "(I)Z"⟩
abbrev cX6_sheet : ByteArray := prog_8_method_70_code
def yX6_sheet : MethodName := ⟨RX6, "sheet", "(III)I"⟩
abbrev cX6_cell : ByteArray := prog_8_method_71_code
def yX6_cell : MethodName := ⟨RX6, "cell", "(III)I"⟩
abbrev cX6_copy : ByteArray := prog_8_method_72_code
def yX6_copy : MethodName := ⟨RX6, "copy", "(IIIII)I"⟩
abbrev cX6_finds : ByteArray := prog_8_method_73_code
def yX6_finds : MethodName := ⟨RX6, "finds", "(IIII)I"⟩
abbrev cX6_over : ByteArray := prog_8_method_74_code
def yX6_over : MethodName := ⟨RX6, "over", "(I)I"⟩
abbrev cX6_taken : ByteArray := prog_8_method_75_code
def yX6_taken : MethodName := ⟨RX6, "taken", "(II)I"⟩
def RJ6 : String := "java/lang/Integer"
def TJ6 : u_T := fun k => match k with
  | _ => ("", "", "", false)
def tyJ6 : Nat → FieldType := fun k => match k with
  | _ => .int
theorem nmJ6 : ∀ a, a < 0 → ∀ b, b < 0 → a ≠ b → (TJ6 a).2.1 ≠ (TJ6 b).2.1 := by decide +kernel
theorem tyJ6_ok : ∀ k, k < 0 → parseFieldDescriptor (TJ6 k).2.2.1 = some (tyJ6 k) := by decide +kernel
abbrev cJ6_bitCount_0f7a4 : ByteArray := prog_9_method_49_code
def yJ6_bitCount_0f7a4 : MethodName := ⟨RJ6, "bitCount", "(I)I"⟩
def RJ9 : String := "java/lang/Math"
def TJ9 : u_T := fun k => match k with
  | _ => ("", "", "", false)
def tyJ9 : Nat → FieldType := fun k => match k with
  | _ => .int
theorem nmJ9 : ∀ a, a < 0 → ∀ b, b < 0 → a ≠ b → (TJ9 a).2.1 ≠ (TJ9 b).2.1 := by decide +kernel
theorem tyJ9_ok : ∀ k, k < 0 → parseFieldDescriptor (TJ9 k).2.2.1 = some (tyJ9 k) := by decide +kernel
abbrev cJ9_abs_0f7a4 : ByteArray := prog_10_method_59_code
def yJ9_abs_0f7a4 : MethodName := ⟨RJ9, "abs", "(I)I"⟩
abbrev cJ9_max_7cf53 : ByteArray := prog_10_method_65_code
def yJ9_max_7cf53 : MethodName := ⟨RJ9, "max", "(II)I"⟩
abbrev cJ9_min_7cf53 : ByteArray := prog_10_method_69_code
def yJ9_min_7cf53 : MethodName := ⟨RJ9, "min", "(II)I"⟩
def RJ0 : String := "java/lang/String"
def TJ0 : u_T := fun k => match k with
  | _ => ("", "", "", false)
def tyJ0 : Nat → FieldType := fun k => match k with
  | _ => .int
theorem nmJ0 : ∀ a, a < 0 → ∀ b, b < 0 → a ≠ b → (TJ0 a).2.1 ≠ (TJ0 b).2.1 := by decide +kernel
theorem tyJ0_ok : ∀ k, k < 0 → parseFieldDescriptor (TJ0 k).2.2.1 = some (tyJ0 k) := by decide +kernel
abbrev cJ0_length_8abf5 : ByteArray := prog_11_method_54_code
def yJ0_length_8abf5 : MethodName := ⟨RJ0, "length", "()I"⟩
abbrev cJ0_charAt_5068e : ByteArray := prog_11_method_56_code
def yJ0_charAt_5068e : MethodName := ⟨RJ0, "charAt", "(I)C"⟩
abbrev cJ0_coder_7d493 : ByteArray := prog_11_method_152_code
def yJ0_coder_7d493 : MethodName := ⟨RJ0, "coder", "()B"⟩
abbrev cJ0_isLatin1_aae02 : ByteArray := prog_11_method_154_code
def yJ0_isLatin1_aae02 : MethodName := ⟨RJ0, "isLatin1", "()Z"⟩
abbrev cJ0_checkIndex_df160 : ByteArray := prog_11_method_155_code
def yJ0_checkIndex_df160 : MethodName := ⟨RJ0, "checkIndex", "(II)V"⟩
def RJ1 : String := "java/lang/StringLatin1"
def TJ1 : u_T := fun k => match k with
  | _ => ("", "", "", false)
def tyJ1 : Nat → FieldType := fun k => match k with
  | _ => .int
theorem nmJ1 : ∀ a, a < 0 → ∀ b, b < 0 → a ≠ b → (TJ1 a).2.1 ≠ (TJ1 b).2.1 := by decide +kernel
theorem tyJ1_ok : ∀ k, k < 0 → parseFieldDescriptor (TJ1 k).2.2.1 = some (tyJ1 k) := by decide +kernel
abbrev cJ1_charAt_3b067 : ByteArray := prog_12_method_2_code
def yJ1_charAt_3b067 : MethodName := ⟨RJ1, "charAt", "([BI)C"⟩
def RJ2 : String := "java/lang/StringUTF16"
def TJ2 : u_T := fun k => match k with
  | _ => ("", "", "", false)
def tyJ2 : Nat → FieldType := fun k => match k with
  | _ => .int
theorem nmJ2 : ∀ a, a < 0 → ∀ b, b < 0 → a ≠ b → (TJ2 a).2.1 ≠ (TJ2 b).2.1 := by decide +kernel
theorem tyJ2_ok : ∀ k, k < 0 → parseFieldDescriptor (TJ2 k).2.2.1 = some (tyJ2 k) := by decide +kernel
abbrev cJ2_getChar_3b067 : ByteArray := prog_13_method_5_code
def yJ2_getChar_3b067 : MethodName := ⟨RJ2, "getChar", "([BI)C"⟩
abbrev cJ2_length_9d52b : ByteArray := prog_13_method_6_code
def yJ2_length_9d52b : MethodName := ⟨RJ2, "length", "([B)I"⟩
abbrev cJ2_charAt_3b067 : ByteArray := prog_13_method_83_code
def yJ2_charAt_3b067 : MethodName := ⟨RJ2, "charAt", "([BI)C"⟩
abbrev cJ2_checkIndex_2214a : ByteArray := prog_13_method_91_code
def yJ2_checkIndex_2214a : MethodName := ⟨RJ2, "checkIndex", "(I[B)V"⟩
def RJ10 : String := "java/lang/System"
def TJ10 : u_T := fun k => match k with
  | _ => ("", "", "", false)
def tyJ10 : Nat → FieldType := fun k => match k with
  | _ => .int
theorem nmJ10 : ∀ a, a < 0 → ∀ b, b < 0 → a ≠ b → (TJ10 a).2.1 ≠ (TJ10 b).2.1 := by decide +kernel
theorem tyJ10_ok : ∀ k, k < 0 → parseFieldDescriptor (TJ10 k).2.2.1 = some (tyJ10 k) := by decide +kernel
def RJ3 : String := "jdk/internal/util/Preconditions"
def TJ3 : u_T := fun k => match k with
  | _ => ("", "", "", false)
def tyJ3 : Nat → FieldType := fun k => match k with
  | _ => .int
theorem nmJ3 : ∀ a, a < 0 → ∀ b, b < 0 → a ≠ b → (TJ3 a).2.1 ≠ (TJ3 b).2.1 := by decide +kernel
theorem tyJ3_ok : ∀ k, k < 0 → parseFieldDescriptor (TJ3 k).2.2.1 = some (tyJ3 k) := by decide +kernel
abbrev cJ3_checkIndex_8e157 : ByteArray := prog_15_method_11_code
def yJ3_checkIndex_8e157 : MethodName := ⟨RJ3, "checkIndex", "(IILjava/util/function/BiFunction;)I"⟩
def RL : String := "FieldBeepsLaw"
abbrev cL_law : ByteArray := code
def yL_law : MethodName := ⟨RL, "law", "([I)Z"⟩
end
section
theorem dX0_init_0 : decode cX0_init 0 = .ok (.aload_n 0, 1) := by decide +kernel
theorem dX0_init_1 : decode cX0_init 1 = .ok (.invokespecial 3, 3) := by decide +kernel
theorem dX0_init_4 : decode cX0_init 4 = .ok (.aload_n 0, 1) := by decide +kernel
theorem dX0_init_5 : decode cX0_init 5 = .ok (.bipush 12, 2) := by decide +kernel
theorem dX0_init_7 : decode cX0_init 7 = .ok (.newarray .int, 2) := by decide +kernel
theorem dX0_init_9 : decode cX0_init 9 = .ok (.putfield 9, 3) := by decide +kernel
theorem dX0_init_12 : decode cX0_init 12 = .ok (.aload_n 0, 1) := by decide +kernel
theorem dX0_init_13 : decode cX0_init 13 = .ok (.bipush 12, 2) := by decide +kernel
theorem dX0_init_15 : decode cX0_init 15 = .ok (.newarray .int, 2) := by decide +kernel
theorem dX0_init_17 : decode cX0_init 17 = .ok (.putfield 15, 3) := by decide +kernel
theorem dX0_init_20 : decode cX0_init 20 = .ok (.aload_n 0, 1) := by decide +kernel
theorem dX0_init_21 : decode cX0_init 21 = .ok (.bipush 12, 2) := by decide +kernel
theorem dX0_init_23 : decode cX0_init 23 = .ok (.newarray .int, 2) := by decide +kernel
theorem dX0_init_25 : decode cX0_init 25 = .ok (.putfield 18, 3) := by decide +kernel
theorem dX0_init_28 : decode cX0_init 28 = .ok (.aload_n 0, 1) := by decide +kernel
theorem dX0_init_29 : decode cX0_init 29 = .ok (.bipush 12, 2) := by decide +kernel
theorem dX0_init_31 : decode cX0_init 31 = .ok (.newarray .int, 2) := by decide +kernel
theorem dX0_init_33 : decode cX0_init 33 = .ok (.putfield 21, 3) := by decide +kernel
theorem dX0_init_36 : decode cX0_init 36 = .ok (.aload_n 0, 1) := by decide +kernel
theorem dX0_init_37 : decode cX0_init 37 = .ok (.iconst 0, 1) := by decide +kernel
theorem dX0_init_38 : decode cX0_init 38 = .ok (.putfield 24, 3) := by decide +kernel
theorem dX0_init_41 : decode cX0_init 41 = .ok (.aload_n 0, 1) := by decide +kernel
theorem dX0_init_42 : decode cX0_init 42 = .ok (.iconst 0, 1) := by decide +kernel
theorem dX0_init_43 : decode cX0_init 43 = .ok (.putfield 28, 3) := by decide +kernel
theorem dX0_init_46 : decode cX0_init 46 = .ok (.aload_n 0, 1) := by decide +kernel
theorem dX0_init_47 : decode cX0_init 47 = .ok (.iconst 0, 1) := by decide +kernel
theorem dX0_init_48 : decode cX0_init 48 = .ok (.putfield 31, 3) := by decide +kernel
theorem dX0_init_51 : decode cX0_init 51 = .ok (.aload_n 0, 1) := by decide +kernel
theorem dX0_init_52 : decode cX0_init 52 = .ok (.iconst 3, 1) := by decide +kernel
theorem dX0_init_53 : decode cX0_init 53 = .ok (.putfield 34, 3) := by decide +kernel
theorem dX0_init_56 : decode cX0_init 56 = .ok (.aload_n 0, 1) := by decide +kernel
theorem dX0_init_57 : decode cX0_init 57 = .ok (.iconst 0, 1) := by decide +kernel
theorem dX0_init_58 : decode cX0_init 58 = .ok (.putfield 37, 3) := by decide +kernel
theorem dX0_init_61 : decode cX0_init 61 = .ok (.aload_n 0, 1) := by decide +kernel
theorem dX0_init_62 : decode cX0_init 62 = .ok (.iconst 0, 1) := by decide +kernel
theorem dX0_init_63 : decode cX0_init 63 = .ok (.putfield 40, 3) := by decide +kernel
theorem dX0_init_66 : decode cX0_init 66 = .ok (.aload_n 0, 1) := by decide +kernel
theorem dX0_init_67 : decode cX0_init 67 = .ok (.iconst 0, 1) := by decide +kernel
theorem dX0_init_68 : decode cX0_init 68 = .ok (.putfield 43, 3) := by decide +kernel
theorem dX0_init_71 : decode cX0_init 71 = .ok (.return_, 1) := by decide +kernel
theorem dX0_has_0 : decode cX0_has 0 = .ok (.iload_n 1, 1) := by decide +kernel
theorem dX0_has_1 : decode cX0_has 1 = .ok (.ifCond .lt 15, 3) := by decide +kernel
theorem dX0_has_4 : decode cX0_has 4 = .ok (.iload_n 1, 1) := by decide +kernel
theorem dX0_has_5 : decode cX0_has 5 = .ok (.aload_n 0, 1) := by decide +kernel
theorem dX0_has_6 : decode cX0_has 6 = .ok (.getfield 24, 3) := by decide +kernel
theorem dX0_has_9 : decode cX0_has 9 = .ok (.if_icmp .ge 7, 3) := by decide +kernel
theorem dX0_has_12 : decode cX0_has 12 = .ok (.iconst 1, 1) := by decide +kernel
theorem dX0_has_13 : decode cX0_has 13 = .ok (.goto 4, 3) := by decide +kernel
theorem dX0_has_16 : decode cX0_has 16 = .ok (.iconst 0, 1) := by decide +kernel
theorem dX0_has_17 : decode cX0_has 17 = .ok (.ireturn, 1) := by decide +kernel
theorem dX0_lies_0 : decode cX0_lies 0 = .ok (.aload_n 0, 1) := by decide +kernel
theorem dX0_lies_1 : decode cX0_lies 1 = .ok (.iload_n 1, 1) := by decide +kernel
theorem dX0_lies_2 : decode cX0_lies 2 = .ok (.invokevirtual 46, 3) := by decide +kernel
theorem dX0_lies_5 : decode cX0_lies 5 = .ok (.ifCond .eq 18, 3) := by decide +kernel
theorem dX0_lies_8 : decode cX0_lies 8 = .ok (.aload_n 0, 1) := by decide +kernel
theorem dX0_lies_9 : decode cX0_lies 9 = .ok (.getfield 28, 3) := by decide +kernel
theorem dX0_lies_12 : decode cX0_lies 12 = .ok (.iload_n 1, 1) := by decide +kernel
theorem dX0_lies_13 : decode cX0_lies 13 = .ok (.ishr, 1) := by decide +kernel
theorem dX0_lies_14 : decode cX0_lies 14 = .ok (.iconst 1, 1) := by decide +kernel
theorem dX0_lies_15 : decode cX0_lies 15 = .ok (.iand, 1) := by decide +kernel
theorem dX0_lies_16 : decode cX0_lies 16 = .ok (.ifCond .ne 7, 3) := by decide +kernel
theorem dX0_lies_19 : decode cX0_lies 19 = .ok (.iconst 1, 1) := by decide +kernel
theorem dX0_lies_20 : decode cX0_lies 20 = .ok (.goto 4, 3) := by decide +kernel
theorem dX0_lies_23 : decode cX0_lies 23 = .ok (.iconst 0, 1) := by decide +kernel
theorem dX0_lies_24 : decode cX0_lies 24 = .ok (.ireturn, 1) := by decide +kernel
theorem dX0_lying_0 : decode cX0_lying 0 = .ok (.aload_n 0, 1) := by decide +kernel
theorem dX0_lying_1 : decode cX0_lying 1 = .ok (.getfield 24, 3) := by decide +kernel
theorem dX0_lying_4 : decode cX0_lying 4 = .ok (.aload_n 0, 1) := by decide +kernel
theorem dX0_lying_5 : decode cX0_lying 5 = .ok (.getfield 28, 3) := by decide +kernel
theorem dX0_lying_8 : decode cX0_lying 8 = .ok (.invokestatic 50, 3) := by decide +kernel
theorem dX0_lying_11 : decode cX0_lying 11 = .ok (.isub, 1) := by decide +kernel
theorem dX0_lying_12 : decode cX0_lying 12 = .ok (.ireturn, 1) := by decide +kernel
theorem dX0_lay_0 : decode cX0_lay 0 = .ok (.aload_n 0, 1) := by decide +kernel
theorem dX0_lay_1 : decode cX0_lay 1 = .ok (.getfield 24, 3) := by decide +kernel
theorem dX0_lay_4 : decode cX0_lay 4 = .ok (.bipush 12, 2) := by decide +kernel
theorem dX0_lay_6 : decode cX0_lay 6 = .ok (.if_icmp .lt 6, 3) := by decide +kernel
theorem dX0_lay_9 : decode cX0_lay 9 = .ok (.bipush (-4), 2) := by decide +kernel
theorem dX0_lay_11 : decode cX0_lay 11 = .ok (.ireturn, 1) := by decide +kernel
theorem dX0_lay_12 : decode cX0_lay 12 = .ok (.aload_n 0, 1) := by decide +kernel
theorem dX0_lay_13 : decode cX0_lay 13 = .ok (.getfield 9, 3) := by decide +kernel
theorem dX0_lay_16 : decode cX0_lay 16 = .ok (.aload_n 0, 1) := by decide +kernel
theorem dX0_lay_17 : decode cX0_lay 17 = .ok (.getfield 24, 3) := by decide +kernel
theorem dX0_lay_20 : decode cX0_lay 20 = .ok (.iload_n 1, 1) := by decide +kernel
theorem dX0_lay_21 : decode cX0_lay 21 = .ok (.iastore, 1) := by decide +kernel
theorem dX0_lay_22 : decode cX0_lay 22 = .ok (.aload_n 0, 1) := by decide +kernel
theorem dX0_lay_23 : decode cX0_lay 23 = .ok (.getfield 15, 3) := by decide +kernel
theorem dX0_lay_26 : decode cX0_lay 26 = .ok (.aload_n 0, 1) := by decide +kernel
theorem dX0_lay_27 : decode cX0_lay 27 = .ok (.getfield 24, 3) := by decide +kernel
theorem dX0_lay_30 : decode cX0_lay 30 = .ok (.iload_n 2, 1) := by decide +kernel
theorem dX0_lay_31 : decode cX0_lay 31 = .ok (.iastore, 1) := by decide +kernel
theorem dX0_lay_32 : decode cX0_lay 32 = .ok (.aload_n 0, 1) := by decide +kernel
theorem dX0_lay_33 : decode cX0_lay 33 = .ok (.getfield 18, 3) := by decide +kernel
theorem dX0_lay_36 : decode cX0_lay 36 = .ok (.aload_n 0, 1) := by decide +kernel
theorem dX0_lay_37 : decode cX0_lay 37 = .ok (.getfield 24, 3) := by decide +kernel
theorem dX0_lay_40 : decode cX0_lay 40 = .ok (.iload_n 3, 1) := by decide +kernel
theorem dX0_lay_41 : decode cX0_lay 41 = .ok (.iastore, 1) := by decide +kernel
theorem dX0_lay_42 : decode cX0_lay 42 = .ok (.aload_n 0, 1) := by decide +kernel
theorem dX0_lay_43 : decode cX0_lay 43 = .ok (.getfield 21, 3) := by decide +kernel
theorem dX0_lay_46 : decode cX0_lay 46 = .ok (.aload_n 0, 1) := by decide +kernel
theorem dX0_lay_47 : decode cX0_lay 47 = .ok (.getfield 24, 3) := by decide +kernel
theorem dX0_lay_50 : decode cX0_lay 50 = .ok (.iload 4, 2) := by decide +kernel
theorem dX0_lay_52 : decode cX0_lay 52 = .ok (.iastore, 1) := by decide +kernel
theorem dX0_lay_53 : decode cX0_lay 53 = .ok (.aload_n 0, 1) := by decide +kernel
theorem dX0_lay_54 : decode cX0_lay 54 = .ok (.dup, 1) := by decide +kernel
theorem dX0_lay_55 : decode cX0_lay 55 = .ok (.getfield 24, 3) := by decide +kernel
theorem dX0_lay_58 : decode cX0_lay 58 = .ok (.iconst 1, 1) := by decide +kernel
theorem dX0_lay_59 : decode cX0_lay 59 = .ok (.iadd, 1) := by decide +kernel
theorem dX0_lay_60 : decode cX0_lay 60 = .ok (.putfield 24, 3) := by decide +kernel
theorem dX0_lay_63 : decode cX0_lay 63 = .ok (.aload_n 0, 1) := by decide +kernel
theorem dX0_lay_64 : decode cX0_lay 64 = .ok (.getfield 24, 3) := by decide +kernel
theorem dX0_lay_67 : decode cX0_lay 67 = .ok (.iconst 1, 1) := by decide +kernel
theorem dX0_lay_68 : decode cX0_lay 68 = .ok (.isub, 1) := by decide +kernel
theorem dX0_lay_69 : decode cX0_lay 69 = .ok (.ireturn, 1) := by decide +kernel
theorem dX0_layAs_0 : decode cX0_layAs 0 = .ok (.aload_n 1, 1) := by decide +kernel
theorem dX0_layAs_1 : decode cX0_layAs 1 = .ok (.getfield 15, 3) := by decide +kernel
theorem dX0_layAs_4 : decode cX0_layAs 4 = .ok (.iconst 0, 1) := by decide +kernel
theorem dX0_layAs_5 : decode cX0_layAs 5 = .ok (.aload_n 0, 1) := by decide +kernel
theorem dX0_layAs_6 : decode cX0_layAs 6 = .ok (.getfield 15, 3) := by decide +kernel
theorem dX0_layAs_9 : decode cX0_layAs 9 = .ok (.iconst 0, 1) := by decide +kernel
theorem dX0_layAs_10 : decode cX0_layAs 10 = .ok (.bipush 12, 2) := by decide +kernel
theorem dX0_layAs_12 : decode cX0_layAs 12 = .ok (.invokestatic 56, 3) := by decide +kernel
theorem dX0_layAs_15 : decode cX0_layAs 15 = .ok (.aload_n 1, 1) := by decide +kernel
theorem dX0_layAs_16 : decode cX0_layAs 16 = .ok (.getfield 18, 3) := by decide +kernel
theorem dX0_layAs_19 : decode cX0_layAs 19 = .ok (.iconst 0, 1) := by decide +kernel
theorem dX0_layAs_20 : decode cX0_layAs 20 = .ok (.aload_n 0, 1) := by decide +kernel
theorem dX0_layAs_21 : decode cX0_layAs 21 = .ok (.getfield 18, 3) := by decide +kernel
theorem dX0_layAs_24 : decode cX0_layAs 24 = .ok (.iconst 0, 1) := by decide +kernel
theorem dX0_layAs_25 : decode cX0_layAs 25 = .ok (.bipush 12, 2) := by decide +kernel
theorem dX0_layAs_27 : decode cX0_layAs 27 = .ok (.invokestatic 56, 3) := by decide +kernel
theorem dX0_layAs_30 : decode cX0_layAs 30 = .ok (.aload_n 0, 1) := by decide +kernel
theorem dX0_layAs_31 : decode cX0_layAs 31 = .ok (.aload_n 1, 1) := by decide +kernel
theorem dX0_layAs_32 : decode cX0_layAs 32 = .ok (.getfield 24, 3) := by decide +kernel
theorem dX0_layAs_35 : decode cX0_layAs 35 = .ok (.putfield 24, 3) := by decide +kernel
theorem dX0_layAs_38 : decode cX0_layAs 38 = .ok (.aload_n 0, 1) := by decide +kernel
theorem dX0_layAs_39 : decode cX0_layAs 39 = .ok (.aload_n 1, 1) := by decide +kernel
theorem dX0_layAs_40 : decode cX0_layAs 40 = .ok (.getfield 28, 3) := by decide +kernel
theorem dX0_layAs_43 : decode cX0_layAs 43 = .ok (.putfield 28, 3) := by decide +kernel
theorem dX0_layAs_46 : decode cX0_layAs 46 = .ok (.aload_n 0, 1) := by decide +kernel
theorem dX0_layAs_47 : decode cX0_layAs 47 = .ok (.aload_n 1, 1) := by decide +kernel
theorem dX0_layAs_48 : decode cX0_layAs 48 = .ok (.getfield 31, 3) := by decide +kernel
theorem dX0_layAs_51 : decode cX0_layAs 51 = .ok (.putfield 31, 3) := by decide +kernel
theorem dX0_layAs_54 : decode cX0_layAs 54 = .ok (.aload_n 0, 1) := by decide +kernel
theorem dX0_layAs_55 : decode cX0_layAs 55 = .ok (.aload_n 1, 1) := by decide +kernel
theorem dX0_layAs_56 : decode cX0_layAs 56 = .ok (.getfield 34, 3) := by decide +kernel
theorem dX0_layAs_59 : decode cX0_layAs 59 = .ok (.putfield 34, 3) := by decide +kernel
theorem dX0_layAs_62 : decode cX0_layAs 62 = .ok (.aload_n 0, 1) := by decide +kernel
theorem dX0_layAs_63 : decode cX0_layAs 63 = .ok (.aload_n 1, 1) := by decide +kernel
theorem dX0_layAs_64 : decode cX0_layAs 64 = .ok (.getfield 37, 3) := by decide +kernel
theorem dX0_layAs_67 : decode cX0_layAs 67 = .ok (.putfield 37, 3) := by decide +kernel
theorem dX0_layAs_70 : decode cX0_layAs 70 = .ok (.aload_n 0, 1) := by decide +kernel
theorem dX0_layAs_71 : decode cX0_layAs 71 = .ok (.aload_n 1, 1) := by decide +kernel
theorem dX0_layAs_72 : decode cX0_layAs 72 = .ok (.getfield 40, 3) := by decide +kernel
theorem dX0_layAs_75 : decode cX0_layAs 75 = .ok (.putfield 40, 3) := by decide +kernel
theorem dX0_layAs_78 : decode cX0_layAs 78 = .ok (.aload_n 0, 1) := by decide +kernel
theorem dX0_layAs_79 : decode cX0_layAs 79 = .ok (.aload_n 1, 1) := by decide +kernel
theorem dX0_layAs_80 : decode cX0_layAs 80 = .ok (.getfield 43, 3) := by decide +kernel
theorem dX0_layAs_83 : decode cX0_layAs 83 = .ok (.putfield 43, 3) := by decide +kernel
theorem dX0_layAs_86 : decode cX0_layAs 86 = .ok (.return_, 1) := by decide +kernel
theorem dX0_become_0 : decode cX0_become 0 = .ok (.aload_n 0, 1) := by decide +kernel
theorem dX0_become_1 : decode cX0_become 1 = .ok (.aload_n 1, 1) := by decide +kernel
theorem dX0_become_2 : decode cX0_become 2 = .ok (.invokevirtual 62, 3) := by decide +kernel
theorem dX0_become_5 : decode cX0_become 5 = .ok (.aload_n 1, 1) := by decide +kernel
theorem dX0_become_6 : decode cX0_become 6 = .ok (.getfield 9, 3) := by decide +kernel
theorem dX0_become_9 : decode cX0_become 9 = .ok (.iconst 0, 1) := by decide +kernel
theorem dX0_become_10 : decode cX0_become 10 = .ok (.aload_n 0, 1) := by decide +kernel
theorem dX0_become_11 : decode cX0_become 11 = .ok (.getfield 9, 3) := by decide +kernel
theorem dX0_become_14 : decode cX0_become 14 = .ok (.iconst 0, 1) := by decide +kernel
theorem dX0_become_15 : decode cX0_become 15 = .ok (.bipush 12, 2) := by decide +kernel
theorem dX0_become_17 : decode cX0_become 17 = .ok (.invokestatic 56, 3) := by decide +kernel
theorem dX0_become_20 : decode cX0_become 20 = .ok (.aload_n 1, 1) := by decide +kernel
theorem dX0_become_21 : decode cX0_become 21 = .ok (.getfield 21, 3) := by decide +kernel
theorem dX0_become_24 : decode cX0_become 24 = .ok (.iconst 0, 1) := by decide +kernel
theorem dX0_become_25 : decode cX0_become 25 = .ok (.aload_n 0, 1) := by decide +kernel
theorem dX0_become_26 : decode cX0_become 26 = .ok (.getfield 21, 3) := by decide +kernel
theorem dX0_become_29 : decode cX0_become 29 = .ok (.iconst 0, 1) := by decide +kernel
theorem dX0_become_30 : decode cX0_become 30 = .ok (.bipush 12, 2) := by decide +kernel
theorem dX0_become_32 : decode cX0_become 32 = .ok (.invokestatic 56, 3) := by decide +kernel
theorem dX0_become_35 : decode cX0_become 35 = .ok (.return_, 1) := by decide +kernel
theorem dX0_loud_0 : decode cX0_loud 0 = .ok (.aload_n 0, 1) := by decide +kernel
theorem dX0_loud_1 : decode cX0_loud 1 = .ok (.iload_n 1, 1) := by decide +kernel
theorem dX0_loud_2 : decode cX0_loud 2 = .ok (.invokevirtual 46, 3) := by decide +kernel
theorem dX0_loud_5 : decode cX0_loud 5 = .ok (.ifCond .ne 5, 3) := by decide +kernel
theorem dX0_loud_8 : decode cX0_loud 8 = .ok (.iconst 0, 1) := by decide +kernel
theorem dX0_loud_9 : decode cX0_loud 9 = .ok (.ireturn, 1) := by decide +kernel
theorem dX0_loud_10 : decode cX0_loud 10 = .ok (.iconst 0, 1) := by decide +kernel
theorem dX0_loud_11 : decode cX0_loud 11 = .ok (.aload_n 0, 1) := by decide +kernel
theorem dX0_loud_12 : decode cX0_loud 12 = .ok (.getfield 9, 3) := by decide +kernel
theorem dX0_loud_15 : decode cX0_loud 15 = .ok (.iload_n 1, 1) := by decide +kernel
theorem dX0_loud_16 : decode cX0_loud 16 = .ok (.iaload, 1) := by decide +kernel
theorem dX0_loud_17 : decode cX0_loud 17 = .ok (.aload_n 0, 1) := by decide +kernel
theorem dX0_loud_18 : decode cX0_loud 18 = .ok (.getfield 21, 3) := by decide +kernel
theorem dX0_loud_21 : decode cX0_loud 21 = .ok (.iload_n 1, 1) := by decide +kernel
theorem dX0_loud_22 : decode cX0_loud 22 = .ok (.iaload, 1) := by decide +kernel
theorem dX0_loud_23 : decode cX0_loud 23 = .ok (.aload_n 0, 1) := by decide +kernel
theorem dX0_loud_24 : decode cX0_loud 24 = .ok (.getfield 18, 3) := by decide +kernel
theorem dX0_loud_27 : decode cX0_loud 27 = .ok (.iload_n 1, 1) := by decide +kernel
theorem dX0_loud_28 : decode cX0_loud 28 = .ok (.iaload, 1) := by decide +kernel
theorem dX0_loud_29 : decode cX0_loud 29 = .ok (.aload_n 0, 1) := by decide +kernel
theorem dX0_loud_30 : decode cX0_loud 30 = .ok (.getfield 34, 3) := by decide +kernel
theorem dX0_loud_33 : decode cX0_loud 33 = .ok (.aload_n 0, 1) := by decide +kernel
theorem dX0_loud_34 : decode cX0_loud 34 = .ok (.getfield 31, 3) := by decide +kernel
theorem dX0_loud_37 : decode cX0_loud 37 = .ok (.invokestatic 66, 3) := by decide +kernel
theorem dX0_loud_40 : decode cX0_loud 40 = .ok (.invokestatic 70, 3) := by decide +kernel
theorem dX0_loud_43 : decode cX0_loud 43 = .ok (.ireturn, 1) := by decide +kernel
theorem dX0_heard_0 : decode cX0_heard 0 = .ok (.aload_n 0, 1) := by decide +kernel
theorem dX0_heard_1 : decode cX0_heard 1 = .ok (.iload_n 1, 1) := by decide +kernel
theorem dX0_heard_2 : decode cX0_heard 2 = .ok (.invokevirtual 76, 3) := by decide +kernel
theorem dX0_heard_5 : decode cX0_heard 5 = .ok (.ifCond .ne 5, 3) := by decide +kernel
theorem dX0_heard_8 : decode cX0_heard 8 = .ok (.iconst 0, 1) := by decide +kernel
theorem dX0_heard_9 : decode cX0_heard 9 = .ok (.ireturn, 1) := by decide +kernel
theorem dX0_heard_10 : decode cX0_heard 10 = .ok (.aload_n 0, 1) := by decide +kernel
theorem dX0_heard_11 : decode cX0_heard 11 = .ok (.getfield 9, 3) := by decide +kernel
theorem dX0_heard_14 : decode cX0_heard 14 = .ok (.iload_n 1, 1) := by decide +kernel
theorem dX0_heard_15 : decode cX0_heard 15 = .ok (.iaload, 1) := by decide +kernel
theorem dX0_heard_16 : decode cX0_heard 16 = .ok (.aload_n 0, 1) := by decide +kernel
theorem dX0_heard_17 : decode cX0_heard 17 = .ok (.getfield 21, 3) := by decide +kernel
theorem dX0_heard_20 : decode cX0_heard 20 = .ok (.iload_n 1, 1) := by decide +kernel
theorem dX0_heard_21 : decode cX0_heard 21 = .ok (.iaload, 1) := by decide +kernel
theorem dX0_heard_22 : decode cX0_heard 22 = .ok (.aload_n 0, 1) := by decide +kernel
theorem dX0_heard_23 : decode cX0_heard 23 = .ok (.getfield 18, 3) := by decide +kernel
theorem dX0_heard_26 : decode cX0_heard 26 = .ok (.iload_n 1, 1) := by decide +kernel
theorem dX0_heard_27 : decode cX0_heard 27 = .ok (.iaload, 1) := by decide +kernel
theorem dX0_heard_28 : decode cX0_heard 28 = .ok (.aload_n 0, 1) := by decide +kernel
theorem dX0_heard_29 : decode cX0_heard 29 = .ok (.getfield 34, 3) := by decide +kernel
theorem dX0_heard_32 : decode cX0_heard 32 = .ok (.aload_n 0, 1) := by decide +kernel
theorem dX0_heard_33 : decode cX0_heard 33 = .ok (.getfield 31, 3) := by decide +kernel
theorem dX0_heard_36 : decode cX0_heard 36 = .ok (.invokestatic 66, 3) := by decide +kernel
theorem dX0_heard_39 : decode cX0_heard 39 = .ok (.istore_n 2, 1) := by decide +kernel
theorem dX0_heard_40 : decode cX0_heard 40 = .ok (.iconst 0, 1) := by decide +kernel
theorem dX0_heard_41 : decode cX0_heard 41 = .ok (.istore_n 3, 1) := by decide +kernel
theorem dX0_heard_42 : decode cX0_heard 42 = .ok (.iload_n 3, 1) := by decide +kernel
theorem dX0_heard_43 : decode cX0_heard 43 = .ok (.aload_n 0, 1) := by decide +kernel
theorem dX0_heard_44 : decode cX0_heard 44 = .ok (.getfield 24, 3) := by decide +kernel
theorem dX0_heard_47 : decode cX0_heard 47 = .ok (.if_icmp .ge 50, 3) := by decide +kernel
theorem dX0_heard_50 : decode cX0_heard 50 = .ok (.iload_n 3, 1) := by decide +kernel
theorem dX0_heard_51 : decode cX0_heard 51 = .ok (.iload_n 1, 1) := by decide +kernel
theorem dX0_heard_52 : decode cX0_heard 52 = .ok (.if_icmp .eq 39, 3) := by decide +kernel
theorem dX0_heard_55 : decode cX0_heard 55 = .ok (.aload_n 0, 1) := by decide +kernel
theorem dX0_heard_56 : decode cX0_heard 56 = .ok (.getfield 9, 3) := by decide +kernel
theorem dX0_heard_59 : decode cX0_heard 59 = .ok (.iload_n 3, 1) := by decide +kernel
theorem dX0_heard_60 : decode cX0_heard 60 = .ok (.iaload, 1) := by decide +kernel
theorem dX0_heard_61 : decode cX0_heard 61 = .ok (.iconst 2, 1) := by decide +kernel
theorem dX0_heard_62 : decode cX0_heard 62 = .ok (.if_icmp .ne 29, 3) := by decide +kernel
theorem dX0_heard_65 : decode cX0_heard 65 = .ok (.aload_n 0, 1) := by decide +kernel
theorem dX0_heard_66 : decode cX0_heard 66 = .ok (.getfield 15, 3) := by decide +kernel
theorem dX0_heard_69 : decode cX0_heard 69 = .ok (.iload_n 3, 1) := by decide +kernel
theorem dX0_heard_70 : decode cX0_heard 70 = .ok (.iaload, 1) := by decide +kernel
theorem dX0_heard_71 : decode cX0_heard 71 = .ok (.aload_n 0, 1) := by decide +kernel
theorem dX0_heard_72 : decode cX0_heard 72 = .ok (.getfield 15, 3) := by decide +kernel
theorem dX0_heard_75 : decode cX0_heard 75 = .ok (.iload_n 1, 1) := by decide +kernel
theorem dX0_heard_76 : decode cX0_heard 76 = .ok (.iaload, 1) := by decide +kernel
theorem dX0_heard_77 : decode cX0_heard 77 = .ok (.if_icmp .ne 14, 3) := by decide +kernel
theorem dX0_heard_80 : decode cX0_heard 80 = .ok (.aload_n 0, 1) := by decide +kernel
theorem dX0_heard_81 : decode cX0_heard 81 = .ok (.iload_n 3, 1) := by decide +kernel
theorem dX0_heard_82 : decode cX0_heard 82 = .ok (.invokevirtual 76, 3) := by decide +kernel
theorem dX0_heard_85 : decode cX0_heard 85 = .ok (.ifCond .eq 6, 3) := by decide +kernel
theorem dX0_heard_88 : decode cX0_heard 88 = .ok (.iinc 2 (-10), 3) := by decide +kernel
theorem dX0_heard_91 : decode cX0_heard 91 = .ok (.iinc 3 1, 3) := by decide +kernel
theorem dX0_heard_94 : decode cX0_heard 94 = .ok (.goto (-52), 3) := by decide +kernel
theorem dX0_heard_97 : decode cX0_heard 97 = .ok (.iconst 0, 1) := by decide +kernel
theorem dX0_heard_98 : decode cX0_heard 98 = .ok (.iload_n 2, 1) := by decide +kernel
theorem dX0_heard_99 : decode cX0_heard 99 = .ok (.invokestatic 70, 3) := by decide +kernel
theorem dX0_heard_102 : decode cX0_heard 102 = .ok (.ireturn, 1) := by decide +kernel
theorem dX0_turnOver_0 : decode cX0_turnOver 0 = .ok (.iconst 0, 1) := by decide +kernel
theorem dX0_turnOver_1 : decode cX0_turnOver 1 = .ok (.istore_n 1, 1) := by decide +kernel
theorem dX0_turnOver_2 : decode cX0_turnOver 2 = .ok (.iload_n 1, 1) := by decide +kernel
theorem dX0_turnOver_3 : decode cX0_turnOver 3 = .ok (.aload_n 0, 1) := by decide +kernel
theorem dX0_turnOver_4 : decode cX0_turnOver 4 = .ok (.getfield 24, 3) := by decide +kernel
theorem dX0_turnOver_7 : decode cX0_turnOver 7 = .ok (.if_icmp .ge 127, 3) := by decide +kernel
theorem dX0_turnOver_10 : decode cX0_turnOver 10 = .ok (.aload_n 0, 1) := by decide +kernel
theorem dX0_turnOver_11 : decode cX0_turnOver 11 = .ok (.iload_n 1, 1) := by decide +kernel
theorem dX0_turnOver_12 : decode cX0_turnOver 12 = .ok (.invokevirtual 76, 3) := by decide +kernel
theorem dX0_turnOver_15 : decode cX0_turnOver 15 = .ok (.ifCond .ne 6, 3) := by decide +kernel
theorem dX0_turnOver_18 : decode cX0_turnOver 18 = .ok (.goto 110, 3) := by decide +kernel
theorem dX0_turnOver_21 : decode cX0_turnOver 21 = .ok (.aload_n 0, 1) := by decide +kernel
theorem dX0_turnOver_22 : decode cX0_turnOver 22 = .ok (.getfield 15, 3) := by decide +kernel
theorem dX0_turnOver_25 : decode cX0_turnOver 25 = .ok (.iload_n 1, 1) := by decide +kernel
theorem dX0_turnOver_26 : decode cX0_turnOver 26 = .ok (.iaload, 1) := by decide +kernel
theorem dX0_turnOver_27 : decode cX0_turnOver 27 = .ok (.bipush 8, 2) := by decide +kernel
theorem dX0_turnOver_29 : decode cX0_turnOver 29 = .ok (.irem, 1) := by decide +kernel
theorem dX0_turnOver_30 : decode cX0_turnOver 30 = .ok (.istore_n 2, 1) := by decide +kernel
theorem dX0_turnOver_31 : decode cX0_turnOver 31 = .ok (.aload_n 0, 1) := by decide +kernel
theorem dX0_turnOver_32 : decode cX0_turnOver 32 = .ok (.getfield 9, 3) := by decide +kernel
theorem dX0_turnOver_35 : decode cX0_turnOver 35 = .ok (.iload_n 1, 1) := by decide +kernel
theorem dX0_turnOver_36 : decode cX0_turnOver 36 = .ok (.iaload, 1) := by decide +kernel
theorem dX0_turnOver_37 : decode cX0_turnOver 37 = .ok (.aload_n 0, 1) := by decide +kernel
theorem dX0_turnOver_38 : decode cX0_turnOver 38 = .ok (.getfield 21, 3) := by decide +kernel
theorem dX0_turnOver_41 : decode cX0_turnOver 41 = .ok (.iload_n 1, 1) := by decide +kernel
theorem dX0_turnOver_42 : decode cX0_turnOver 42 = .ok (.iaload, 1) := by decide +kernel
theorem dX0_turnOver_43 : decode cX0_turnOver 43 = .ok (.aload_n 0, 1) := by decide +kernel
theorem dX0_turnOver_44 : decode cX0_turnOver 44 = .ok (.getfield 18, 3) := by decide +kernel
theorem dX0_turnOver_47 : decode cX0_turnOver 47 = .ok (.iload_n 1, 1) := by decide +kernel
theorem dX0_turnOver_48 : decode cX0_turnOver 48 = .ok (.iaload, 1) := by decide +kernel
theorem dX0_turnOver_49 : decode cX0_turnOver 49 = .ok (.invokestatic 79, 3) := by decide +kernel
theorem dX0_turnOver_52 : decode cX0_turnOver 52 = .ok (.istore_n 3, 1) := by decide +kernel
theorem dX0_turnOver_53 : decode cX0_turnOver 53 = .ok (.aload_n 0, 1) := by decide +kernel
theorem dX0_turnOver_54 : decode cX0_turnOver 54 = .ok (.getfield 37, 3) := by decide +kernel
theorem dX0_turnOver_57 : decode cX0_turnOver 57 = .ok (.iconst 2, 1) := by decide +kernel
theorem dX0_turnOver_58 : decode cX0_turnOver 58 = .ok (.irem, 1) := by decide +kernel
theorem dX0_turnOver_59 : decode cX0_turnOver 59 = .ok (.ifCond .ne 9, 3) := by decide +kernel
theorem dX0_turnOver_62 : decode cX0_turnOver 62 = .ok (.iload_n 2, 1) := by decide +kernel
theorem dX0_turnOver_63 : decode cX0_turnOver 63 = .ok (.iload_n 3, 1) := by decide +kernel
theorem dX0_turnOver_64 : decode cX0_turnOver 64 = .ok (.iadd, 1) := by decide +kernel
theorem dX0_turnOver_65 : decode cX0_turnOver 65 = .ok (.goto 6, 3) := by decide +kernel
theorem dX0_turnOver_68 : decode cX0_turnOver 68 = .ok (.iload_n 2, 1) := by decide +kernel
theorem dX0_turnOver_69 : decode cX0_turnOver 69 = .ok (.iload_n 3, 1) := by decide +kernel
theorem dX0_turnOver_70 : decode cX0_turnOver 70 = .ok (.isub, 1) := by decide +kernel
theorem dX0_turnOver_71 : decode cX0_turnOver 71 = .ok (.istore 4, 2) := by decide +kernel
theorem dX0_turnOver_73 : decode cX0_turnOver 73 = .ok (.aload_n 0, 1) := by decide +kernel
theorem dX0_turnOver_74 : decode cX0_turnOver 74 = .ok (.getfield 15, 3) := by decide +kernel
theorem dX0_turnOver_77 : decode cX0_turnOver 77 = .ok (.iload_n 1, 1) := by decide +kernel
theorem dX0_turnOver_78 : decode cX0_turnOver 78 = .ok (.dup2, 1) := by decide +kernel
theorem dX0_turnOver_79 : decode cX0_turnOver 79 = .ok (.iaload, 1) := by decide +kernel
theorem dX0_turnOver_80 : decode cX0_turnOver 80 = .ok (.iload 4, 2) := by decide +kernel
theorem dX0_turnOver_82 : decode cX0_turnOver 82 = .ok (.bipush 7, 2) := by decide +kernel
theorem dX0_turnOver_84 : decode cX0_turnOver 84 = .ok (.invokestatic 83, 3) := by decide +kernel
theorem dX0_turnOver_87 : decode cX0_turnOver 87 = .ok (.iload_n 2, 1) := by decide +kernel
theorem dX0_turnOver_88 : decode cX0_turnOver 88 = .ok (.isub, 1) := by decide +kernel
theorem dX0_turnOver_89 : decode cX0_turnOver 89 = .ok (.iadd, 1) := by decide +kernel
theorem dX0_turnOver_90 : decode cX0_turnOver 90 = .ok (.iastore, 1) := by decide +kernel
theorem dX0_turnOver_91 : decode cX0_turnOver 91 = .ok (.aload_n 0, 1) := by decide +kernel
theorem dX0_turnOver_92 : decode cX0_turnOver 92 = .ok (.getfield 18, 3) := by decide +kernel
theorem dX0_turnOver_95 : decode cX0_turnOver 95 = .ok (.iload_n 1, 1) := by decide +kernel
theorem dX0_turnOver_96 : decode cX0_turnOver 96 = .ok (.aload_n 0, 1) := by decide +kernel
theorem dX0_turnOver_97 : decode cX0_turnOver 97 = .ok (.getfield 18, 3) := by decide +kernel
theorem dX0_turnOver_100 : decode cX0_turnOver 100 = .ok (.iload_n 1, 1) := by decide +kernel
theorem dX0_turnOver_101 : decode cX0_turnOver 101 = .ok (.iaload, 1) := by decide +kernel
theorem dX0_turnOver_102 : decode cX0_turnOver 102 = .ok (.bipush 12, 2) := by decide +kernel
theorem dX0_turnOver_104 : decode cX0_turnOver 104 = .ok (.if_icmp .gt 15, 3) := by decide +kernel
theorem dX0_turnOver_107 : decode cX0_turnOver 107 = .ok (.bipush 12, 2) := by decide +kernel
theorem dX0_turnOver_109 : decode cX0_turnOver 109 = .ok (.aload_n 0, 1) := by decide +kernel
theorem dX0_turnOver_110 : decode cX0_turnOver 110 = .ok (.getfield 18, 3) := by decide +kernel
theorem dX0_turnOver_113 : decode cX0_turnOver 113 = .ok (.iload_n 1, 1) := by decide +kernel
theorem dX0_turnOver_114 : decode cX0_turnOver 114 = .ok (.iaload, 1) := by decide +kernel
theorem dX0_turnOver_115 : decode cX0_turnOver 115 = .ok (.isub, 1) := by decide +kernel
theorem dX0_turnOver_116 : decode cX0_turnOver 116 = .ok (.goto 11, 3) := by decide +kernel
theorem dX0_turnOver_119 : decode cX0_turnOver 119 = .ok (.aload_n 0, 1) := by decide +kernel
theorem dX0_turnOver_120 : decode cX0_turnOver 120 = .ok (.getfield 18, 3) := by decide +kernel
theorem dX0_turnOver_123 : decode cX0_turnOver 123 = .ok (.iload_n 1, 1) := by decide +kernel
theorem dX0_turnOver_124 : decode cX0_turnOver 124 = .ok (.iaload, 1) := by decide +kernel
theorem dX0_turnOver_125 : decode cX0_turnOver 125 = .ok (.iconst 1, 1) := by decide +kernel
theorem dX0_turnOver_126 : decode cX0_turnOver 126 = .ok (.isub, 1) := by decide +kernel
theorem dX0_turnOver_127 : decode cX0_turnOver 127 = .ok (.iastore, 1) := by decide +kernel
theorem dX0_turnOver_128 : decode cX0_turnOver 128 = .ok (.iinc 1 1, 3) := by decide +kernel
theorem dX0_turnOver_131 : decode cX0_turnOver 131 = .ok (.goto (-129), 3) := by decide +kernel
theorem dX0_turnOver_134 : decode cX0_turnOver 134 = .ok (.aload_n 0, 1) := by decide +kernel
theorem dX0_turnOver_135 : decode cX0_turnOver 135 = .ok (.bipush 99, 2) := by decide +kernel
theorem dX0_turnOver_137 : decode cX0_turnOver 137 = .ok (.aload_n 0, 1) := by decide +kernel
theorem dX0_turnOver_138 : decode cX0_turnOver 138 = .ok (.getfield 37, 3) := by decide +kernel
theorem dX0_turnOver_141 : decode cX0_turnOver 141 = .ok (.iconst 1, 1) := by decide +kernel
theorem dX0_turnOver_142 : decode cX0_turnOver 142 = .ok (.iadd, 1) := by decide +kernel
theorem dX0_turnOver_143 : decode cX0_turnOver 143 = .ok (.invokestatic 86, 3) := by decide +kernel
theorem dX0_turnOver_146 : decode cX0_turnOver 146 = .ok (.putfield 37, 3) := by decide +kernel
theorem dX0_turnOver_149 : decode cX0_turnOver 149 = .ok (.return_, 1) := by decide +kernel
theorem dX0_scatter_0 : decode cX0_scatter 0 = .ok (.iload_n 1, 1) := by decide +kernel
theorem dX0_scatter_1 : decode cX0_scatter 1 = .ok (.istore_n 2, 1) := by decide +kernel
theorem dX0_scatter_2 : decode cX0_scatter 2 = .ok (.iconst 0, 1) := by decide +kernel
theorem dX0_scatter_3 : decode cX0_scatter 3 = .ok (.istore_n 3, 1) := by decide +kernel
theorem dX0_scatter_4 : decode cX0_scatter 4 = .ok (.iload_n 3, 1) := by decide +kernel
theorem dX0_scatter_5 : decode cX0_scatter 5 = .ok (.aload_n 0, 1) := by decide +kernel
theorem dX0_scatter_6 : decode cX0_scatter 6 = .ok (.getfield 24, 3) := by decide +kernel
theorem dX0_scatter_9 : decode cX0_scatter 9 = .ok (.if_icmp .ge 52, 3) := by decide +kernel
theorem dX0_scatter_12 : decode cX0_scatter 12 = .ok (.aload_n 0, 1) := by decide +kernel
theorem dX0_scatter_13 : decode cX0_scatter 13 = .ok (.iload_n 3, 1) := by decide +kernel
theorem dX0_scatter_14 : decode cX0_scatter 14 = .ok (.invokevirtual 76, 3) := by decide +kernel
theorem dX0_scatter_17 : decode cX0_scatter 17 = .ok (.ifCond .eq 38, 3) := by decide +kernel
theorem dX0_scatter_20 : decode cX0_scatter 20 = .ok (.iload_n 2, 1) := by decide +kernel
theorem dX0_scatter_21 : decode cX0_scatter 21 = .ok (.ldc 89, 2) := by decide +kernel
theorem dX0_scatter_23 : decode cX0_scatter 23 = .ok (.imul, 1) := by decide +kernel
theorem dX0_scatter_24 : decode cX0_scatter 24 = .ok (.sipush 12345, 3) := by decide +kernel
theorem dX0_scatter_27 : decode cX0_scatter 27 = .ok (.iadd, 1) := by decide +kernel
theorem dX0_scatter_28 : decode cX0_scatter 28 = .ok (.istore_n 2, 1) := by decide +kernel
theorem dX0_scatter_29 : decode cX0_scatter 29 = .ok (.aload_n 0, 1) := by decide +kernel
theorem dX0_scatter_30 : decode cX0_scatter 30 = .ok (.getfield 15, 3) := by decide +kernel
theorem dX0_scatter_33 : decode cX0_scatter 33 = .ok (.iload_n 3, 1) := by decide +kernel
theorem dX0_scatter_34 : decode cX0_scatter 34 = .ok (.iload_n 2, 1) := by decide +kernel
theorem dX0_scatter_35 : decode cX0_scatter 35 = .ok (.bipush 9, 2) := by decide +kernel
theorem dX0_scatter_37 : decode cX0_scatter 37 = .ok (.iushr, 1) := by decide +kernel
theorem dX0_scatter_38 : decode cX0_scatter 38 = .ok (.bipush 48, 2) := by decide +kernel
theorem dX0_scatter_40 : decode cX0_scatter 40 = .ok (.irem, 1) := by decide +kernel
theorem dX0_scatter_41 : decode cX0_scatter 41 = .ok (.iastore, 1) := by decide +kernel
theorem dX0_scatter_42 : decode cX0_scatter 42 = .ok (.aload_n 0, 1) := by decide +kernel
theorem dX0_scatter_43 : decode cX0_scatter 43 = .ok (.getfield 18, 3) := by decide +kernel
theorem dX0_scatter_46 : decode cX0_scatter 46 = .ok (.iload_n 3, 1) := by decide +kernel
theorem dX0_scatter_47 : decode cX0_scatter 47 = .ok (.iload_n 2, 1) := by decide +kernel
theorem dX0_scatter_48 : decode cX0_scatter 48 = .ok (.bipush 16, 2) := by decide +kernel
theorem dX0_scatter_50 : decode cX0_scatter 50 = .ok (.iushr, 1) := by decide +kernel
theorem dX0_scatter_51 : decode cX0_scatter 51 = .ok (.bipush 21, 2) := by decide +kernel
theorem dX0_scatter_53 : decode cX0_scatter 53 = .ok (.irem, 1) := by decide +kernel
theorem dX0_scatter_54 : decode cX0_scatter 54 = .ok (.iastore, 1) := by decide +kernel
theorem dX0_scatter_55 : decode cX0_scatter 55 = .ok (.iinc 3 1, 3) := by decide +kernel
theorem dX0_scatter_58 : decode cX0_scatter 58 = .ok (.goto (-54), 3) := by decide +kernel
theorem dX0_scatter_61 : decode cX0_scatter 61 = .ok (.return_, 1) := by decide +kernel
theorem dX0_dotsIn_0 : decode cX0_dotsIn 0 = .ok (.iconst 0, 1) := by decide +kernel
theorem dX0_dotsIn_1 : decode cX0_dotsIn 1 = .ok (.istore_n 2, 1) := by decide +kernel
theorem dX0_dotsIn_2 : decode cX0_dotsIn 2 = .ok (.iconst 0, 1) := by decide +kernel
theorem dX0_dotsIn_3 : decode cX0_dotsIn 3 = .ok (.istore_n 3, 1) := by decide +kernel
theorem dX0_dotsIn_4 : decode cX0_dotsIn 4 = .ok (.iload_n 3, 1) := by decide +kernel
theorem dX0_dotsIn_5 : decode cX0_dotsIn 5 = .ok (.aload_n 0, 1) := by decide +kernel
theorem dX0_dotsIn_6 : decode cX0_dotsIn 6 = .ok (.getfield 24, 3) := by decide +kernel
theorem dX0_dotsIn_9 : decode cX0_dotsIn 9 = .ok (.if_icmp .ge 30, 3) := by decide +kernel
theorem dX0_dotsIn_12 : decode cX0_dotsIn 12 = .ok (.aload_n 0, 1) := by decide +kernel
theorem dX0_dotsIn_13 : decode cX0_dotsIn 13 = .ok (.getfield 15, 3) := by decide +kernel
theorem dX0_dotsIn_16 : decode cX0_dotsIn 16 = .ok (.iload_n 3, 1) := by decide +kernel
theorem dX0_dotsIn_17 : decode cX0_dotsIn 17 = .ok (.iaload, 1) := by decide +kernel
theorem dX0_dotsIn_18 : decode cX0_dotsIn 18 = .ok (.iload_n 1, 1) := by decide +kernel
theorem dX0_dotsIn_19 : decode cX0_dotsIn 19 = .ok (.if_icmp .ne 14, 3) := by decide +kernel
theorem dX0_dotsIn_22 : decode cX0_dotsIn 22 = .ok (.aload_n 0, 1) := by decide +kernel
theorem dX0_dotsIn_23 : decode cX0_dotsIn 23 = .ok (.iload_n 3, 1) := by decide +kernel
theorem dX0_dotsIn_24 : decode cX0_dotsIn 24 = .ok (.invokevirtual 76, 3) := by decide +kernel
theorem dX0_dotsIn_27 : decode cX0_dotsIn 27 = .ok (.ifCond .ne 6, 3) := by decide +kernel
theorem dX0_dotsIn_30 : decode cX0_dotsIn 30 = .ok (.iinc 2 1, 3) := by decide +kernel
theorem dX0_dotsIn_33 : decode cX0_dotsIn 33 = .ok (.iinc 3 1, 3) := by decide +kernel
theorem dX0_dotsIn_36 : decode cX0_dotsIn 36 = .ok (.goto (-32), 3) := by decide +kernel
theorem dX0_dotsIn_39 : decode cX0_dotsIn 39 = .ok (.iload_n 2, 1) := by decide +kernel
theorem dX0_dotsIn_40 : decode cX0_dotsIn 40 = .ok (.ireturn, 1) := by decide +kernel
theorem dX0_stripsWithFinds_0 : decode cX0_stripsWithFinds 0 = .ok (.iconst 0, 1) := by decide +kernel
theorem dX0_stripsWithFinds_1 : decode cX0_stripsWithFinds 1 = .ok (.istore_n 1, 1) := by decide +kernel
theorem dX0_stripsWithFinds_2 : decode cX0_stripsWithFinds 2 = .ok (.iconst 0, 1) := by decide +kernel
theorem dX0_stripsWithFinds_3 : decode cX0_stripsWithFinds 3 = .ok (.istore_n 2, 1) := by decide +kernel
theorem dX0_stripsWithFinds_4 : decode cX0_stripsWithFinds 4 = .ok (.iload_n 2, 1) := by decide +kernel
theorem dX0_stripsWithFinds_5 : decode cX0_stripsWithFinds 5 = .ok (.aload_n 0, 1) := by decide +kernel
theorem dX0_stripsWithFinds_6 : decode cX0_stripsWithFinds 6 = .ok (.getfield 24, 3) := by decide +kernel
theorem dX0_stripsWithFinds_9 : decode cX0_stripsWithFinds 9 = .ok (.if_icmp .ge 31, 3) := by decide +kernel
theorem dX0_stripsWithFinds_12 : decode cX0_stripsWithFinds 12 = .ok (.aload_n 0, 1) := by decide +kernel
theorem dX0_stripsWithFinds_13 : decode cX0_stripsWithFinds 13 = .ok (.iload_n 2, 1) := by decide +kernel
theorem dX0_stripsWithFinds_14 : decode cX0_stripsWithFinds 14 = .ok (.invokevirtual 76, 3) := by decide +kernel
theorem dX0_stripsWithFinds_17 : decode cX0_stripsWithFinds 17 = .ok (.ifCond .eq 17, 3) := by decide +kernel
theorem dX0_stripsWithFinds_20 : decode cX0_stripsWithFinds 20 = .ok (.iload_n 1, 1) := by decide +kernel
theorem dX0_stripsWithFinds_21 : decode cX0_stripsWithFinds 21 = .ok (.iconst 1, 1) := by decide +kernel
theorem dX0_stripsWithFinds_22 : decode cX0_stripsWithFinds 22 = .ok (.aload_n 0, 1) := by decide +kernel
theorem dX0_stripsWithFinds_23 : decode cX0_stripsWithFinds 23 = .ok (.getfield 15, 3) := by decide +kernel
theorem dX0_stripsWithFinds_26 : decode cX0_stripsWithFinds 26 = .ok (.iload_n 2, 1) := by decide +kernel
theorem dX0_stripsWithFinds_27 : decode cX0_stripsWithFinds 27 = .ok (.iaload, 1) := by decide +kernel
theorem dX0_stripsWithFinds_28 : decode cX0_stripsWithFinds 28 = .ok (.bipush 8, 2) := by decide +kernel
theorem dX0_stripsWithFinds_30 : decode cX0_stripsWithFinds 30 = .ok (.idiv, 1) := by decide +kernel
theorem dX0_stripsWithFinds_31 : decode cX0_stripsWithFinds 31 = .ok (.ishl, 1) := by decide +kernel
theorem dX0_stripsWithFinds_32 : decode cX0_stripsWithFinds 32 = .ok (.ior, 1) := by decide +kernel
theorem dX0_stripsWithFinds_33 : decode cX0_stripsWithFinds 33 = .ok (.istore_n 1, 1) := by decide +kernel
theorem dX0_stripsWithFinds_34 : decode cX0_stripsWithFinds 34 = .ok (.iinc 2 1, 3) := by decide +kernel
theorem dX0_stripsWithFinds_37 : decode cX0_stripsWithFinds 37 = .ok (.goto (-33), 3) := by decide +kernel
theorem dX0_stripsWithFinds_40 : decode cX0_stripsWithFinds 40 = .ok (.iload_n 1, 1) := by decide +kernel
theorem dX0_stripsWithFinds_41 : decode cX0_stripsWithFinds 41 = .ok (.ireturn, 1) := by decide +kernel
theorem dX0_farFrom_0 : decode cX0_farFrom 0 = .ok (.iconst 0, 1) := by decide +kernel
theorem dX0_farFrom_1 : decode cX0_farFrom 1 = .ok (.istore_n 2, 1) := by decide +kernel
theorem dX0_farFrom_2 : decode cX0_farFrom 2 = .ok (.iconst 0, 1) := by decide +kernel
theorem dX0_farFrom_3 : decode cX0_farFrom 3 = .ok (.istore_n 3, 1) := by decide +kernel
theorem dX0_farFrom_4 : decode cX0_farFrom 4 = .ok (.iload_n 3, 1) := by decide +kernel
theorem dX0_farFrom_5 : decode cX0_farFrom 5 = .ok (.aload_n 0, 1) := by decide +kernel
theorem dX0_farFrom_6 : decode cX0_farFrom 6 = .ok (.getfield 24, 3) := by decide +kernel
theorem dX0_farFrom_9 : decode cX0_farFrom 9 = .ok (.if_icmp .ge 59, 3) := by decide +kernel
theorem dX0_farFrom_12 : decode cX0_farFrom 12 = .ok (.aload_n 0, 1) := by decide +kernel
theorem dX0_farFrom_13 : decode cX0_farFrom 13 = .ok (.iload_n 3, 1) := by decide +kernel
theorem dX0_farFrom_14 : decode cX0_farFrom 14 = .ok (.invokevirtual 76, 3) := by decide +kernel
theorem dX0_farFrom_17 : decode cX0_farFrom 17 = .ok (.ifCond .ne 45, 3) := by decide +kernel
theorem dX0_farFrom_20 : decode cX0_farFrom 20 = .ok (.iload_n 2, 1) := by decide +kernel
theorem dX0_farFrom_21 : decode cX0_farFrom 21 = .ok (.iconst 3, 1) := by decide +kernel
theorem dX0_farFrom_22 : decode cX0_farFrom 22 = .ok (.aload_n 0, 1) := by decide +kernel
theorem dX0_farFrom_23 : decode cX0_farFrom 23 = .ok (.getfield 15, 3) := by decide +kernel
theorem dX0_farFrom_26 : decode cX0_farFrom 26 = .ok (.iload_n 3, 1) := by decide +kernel
theorem dX0_farFrom_27 : decode cX0_farFrom 27 = .ok (.iaload, 1) := by decide +kernel
theorem dX0_farFrom_28 : decode cX0_farFrom 28 = .ok (.bipush 8, 2) := by decide +kernel
theorem dX0_farFrom_30 : decode cX0_farFrom 30 = .ok (.idiv, 1) := by decide +kernel
theorem dX0_farFrom_31 : decode cX0_farFrom 31 = .ok (.iload_n 1, 1) := by decide +kernel
theorem dX0_farFrom_32 : decode cX0_farFrom 32 = .ok (.bipush 8, 2) := by decide +kernel
theorem dX0_farFrom_34 : decode cX0_farFrom 34 = .ok (.idiv, 1) := by decide +kernel
theorem dX0_farFrom_35 : decode cX0_farFrom 35 = .ok (.isub, 1) := by decide +kernel
theorem dX0_farFrom_36 : decode cX0_farFrom 36 = .ok (.invokestatic 90, 3) := by decide +kernel
theorem dX0_farFrom_39 : decode cX0_farFrom 39 = .ok (.imul, 1) := by decide +kernel
theorem dX0_farFrom_40 : decode cX0_farFrom 40 = .ok (.iadd, 1) := by decide +kernel
theorem dX0_farFrom_41 : decode cX0_farFrom 41 = .ok (.istore_n 2, 1) := by decide +kernel
theorem dX0_farFrom_42 : decode cX0_farFrom 42 = .ok (.iload_n 2, 1) := by decide +kernel
theorem dX0_farFrom_43 : decode cX0_farFrom 43 = .ok (.aload_n 0, 1) := by decide +kernel
theorem dX0_farFrom_44 : decode cX0_farFrom 44 = .ok (.getfield 15, 3) := by decide +kernel
theorem dX0_farFrom_47 : decode cX0_farFrom 47 = .ok (.iload_n 3, 1) := by decide +kernel
theorem dX0_farFrom_48 : decode cX0_farFrom 48 = .ok (.iaload, 1) := by decide +kernel
theorem dX0_farFrom_49 : decode cX0_farFrom 49 = .ok (.bipush 8, 2) := by decide +kernel
theorem dX0_farFrom_51 : decode cX0_farFrom 51 = .ok (.irem, 1) := by decide +kernel
theorem dX0_farFrom_52 : decode cX0_farFrom 52 = .ok (.iload_n 1, 1) := by decide +kernel
theorem dX0_farFrom_53 : decode cX0_farFrom 53 = .ok (.bipush 8, 2) := by decide +kernel
theorem dX0_farFrom_55 : decode cX0_farFrom 55 = .ok (.irem, 1) := by decide +kernel
theorem dX0_farFrom_56 : decode cX0_farFrom 56 = .ok (.isub, 1) := by decide +kernel
theorem dX0_farFrom_57 : decode cX0_farFrom 57 = .ok (.invokestatic 90, 3) := by decide +kernel
theorem dX0_farFrom_60 : decode cX0_farFrom 60 = .ok (.iadd, 1) := by decide +kernel
theorem dX0_farFrom_61 : decode cX0_farFrom 61 = .ok (.istore_n 2, 1) := by decide +kernel
theorem dX0_farFrom_62 : decode cX0_farFrom 62 = .ok (.iinc 3 1, 3) := by decide +kernel
theorem dX0_farFrom_65 : decode cX0_farFrom 65 = .ok (.goto (-61), 3) := by decide +kernel
theorem dX0_farFrom_68 : decode cX0_farFrom 68 = .ok (.iload_n 2, 1) := by decide +kernel
theorem dX0_farFrom_69 : decode cX0_farFrom 69 = .ok (.ireturn, 1) := by decide +kernel
theorem dX1_init_0 : decode cX1_init 0 = .ok (.aload_n 0, 1) := by decide +kernel
theorem dX1_init_1 : decode cX1_init 1 = .ok (.invokespecial 3, 3) := by decide +kernel
theorem dX1_init_4 : decode cX1_init 4 = .ok (.aload_n 0, 1) := by decide +kernel
theorem dX1_init_5 : decode cX1_init 5 = .ok (.iconst 0, 1) := by decide +kernel
theorem dX1_init_6 : decode cX1_init 6 = .ok (.putfield 9, 3) := by decide +kernel
theorem dX1_init_9 : decode cX1_init 9 = .ok (.aload_n 0, 1) := by decide +kernel
theorem dX1_init_10 : decode cX1_init 10 = .ok (.sipush 160, 3) := by decide +kernel
theorem dX1_init_13 : decode cX1_init 13 = .ok (.newarray .int, 2) := by decide +kernel
theorem dX1_init_15 : decode cX1_init 15 = .ok (.putfield 15, 3) := by decide +kernel
theorem dX1_init_18 : decode cX1_init 18 = .ok (.aload_n 0, 1) := by decide +kernel
theorem dX1_init_19 : decode cX1_init 19 = .ok (.iconst 0, 1) := by decide +kernel
theorem dX1_init_20 : decode cX1_init 20 = .ok (.putfield 19, 3) := by decide +kernel
theorem dX1_init_23 : decode cX1_init 23 = .ok (.aload_n 0, 1) := by decide +kernel
theorem dX1_init_24 : decode cX1_init 24 = .ok (.iconst 0, 1) := by decide +kernel
theorem dX1_init_25 : decode cX1_init 25 = .ok (.putfield 22, 3) := by decide +kernel
theorem dX1_init_28 : decode cX1_init 28 = .ok (.aload_n 0, 1) := by decide +kernel
theorem dX1_init_29 : decode cX1_init 29 = .ok (.bipush (-19), 2) := by decide +kernel
theorem dX1_init_31 : decode cX1_init 31 = .ok (.putfield 25, 3) := by decide +kernel
theorem dX1_init_34 : decode cX1_init 34 = .ok (.aload_n 0, 1) := by decide +kernel
theorem dX1_init_35 : decode cX1_init 35 = .ok (.iconst (-1), 1) := by decide +kernel
theorem dX1_init_36 : decode cX1_init 36 = .ok (.putfield 28, 3) := by decide +kernel
theorem dX1_init_39 : decode cX1_init 39 = .ok (.aload_n 0, 1) := by decide +kernel
theorem dX1_init_40 : decode cX1_init 40 = .ok (.aload_n 1, 1) := by decide +kernel
theorem dX1_init_41 : decode cX1_init 41 = .ok (.putfield 31, 3) := by decide +kernel
theorem dX1_init_44 : decode cX1_init 44 = .ok (.return_, 1) := by decide +kernel
theorem dX1_append_0 : decode cX1_append 0 = .ok (.aload_n 0, 1) := by decide +kernel
theorem dX1_append_1 : decode cX1_append 1 = .ok (.getfield 9, 3) := by decide +kernel
theorem dX1_append_4 : decode cX1_append 4 = .ok (.aload_n 0, 1) := by decide +kernel
theorem dX1_append_5 : decode cX1_append 5 = .ok (.getfield 15, 3) := by decide +kernel
theorem dX1_append_8 : decode cX1_append 8 = .ok (.arraylength, 1) := by decide +kernel
theorem dX1_append_9 : decode cX1_append 9 = .ok (.if_icmp .lt 6, 3) := by decide +kernel
theorem dX1_append_12 : decode cX1_append 12 = .ok (.bipush (-4), 2) := by decide +kernel
theorem dX1_append_14 : decode cX1_append 14 = .ok (.ireturn, 1) := by decide +kernel
theorem dX1_append_15 : decode cX1_append 15 = .ok (.aload_n 0, 1) := by decide +kernel
theorem dX1_append_16 : decode cX1_append 16 = .ok (.getfield 15, 3) := by decide +kernel
theorem dX1_append_19 : decode cX1_append 19 = .ok (.aload_n 0, 1) := by decide +kernel
theorem dX1_append_20 : decode cX1_append 20 = .ok (.getfield 9, 3) := by decide +kernel
theorem dX1_append_23 : decode cX1_append 23 = .ok (.iload_n 1, 1) := by decide +kernel
theorem dX1_append_24 : decode cX1_append 24 = .ok (.iastore, 1) := by decide +kernel
theorem dX1_append_25 : decode cX1_append 25 = .ok (.aload_n 0, 1) := by decide +kernel
theorem dX1_append_26 : decode cX1_append 26 = .ok (.dup, 1) := by decide +kernel
theorem dX1_append_27 : decode cX1_append 27 = .ok (.getfield 9, 3) := by decide +kernel
theorem dX1_append_30 : decode cX1_append 30 = .ok (.iconst 1, 1) := by decide +kernel
theorem dX1_append_31 : decode cX1_append 31 = .ok (.iadd, 1) := by decide +kernel
theorem dX1_append_32 : decode cX1_append 32 = .ok (.putfield 9, 3) := by decide +kernel
theorem dX1_append_35 : decode cX1_append 35 = .ok (.aload_n 0, 1) := by decide +kernel
theorem dX1_append_36 : decode cX1_append 36 = .ok (.getfield 9, 3) := by decide +kernel
theorem dX1_append_39 : decode cX1_append 39 = .ok (.ireturn, 1) := by decide +kernel
theorem dX1_readTape_0 : decode cX1_readTape 0 = .ok (.aload_n 0, 1) := by decide +kernel
theorem dX1_readTape_1 : decode cX1_readTape 1 = .ok (.iconst 0, 1) := by decide +kernel
theorem dX1_readTape_2 : decode cX1_readTape 2 = .ok (.putfield 19, 3) := by decide +kernel
theorem dX1_readTape_5 : decode cX1_readTape 5 = .ok (.aload_n 0, 1) := by decide +kernel
theorem dX1_readTape_6 : decode cX1_readTape 6 = .ok (.iconst (-1), 1) := by decide +kernel
theorem dX1_readTape_7 : decode cX1_readTape 7 = .ok (.putfield 28, 3) := by decide +kernel
theorem dX1_readTape_10 : decode cX1_readTape 10 = .ok (.aload_n 0, 1) := by decide +kernel
theorem dX1_readTape_11 : decode cX1_readTape 11 = .ok (.getfield 31, 3) := by decide +kernel
theorem dX1_readTape_14 : decode cX1_readTape 14 = .ok (.invokevirtual 35, 3) := by decide +kernel
theorem dX1_readTape_17 : decode cX1_readTape 17 = .ok (.aload_n 0, 1) := by decide +kernel
theorem dX1_readTape_18 : decode cX1_readTape 18 = .ok (.invokevirtual 40, 3) := by decide +kernel
theorem dX1_readTape_21 : decode cX1_readTape 21 = .ok (.iconst 0, 1) := by decide +kernel
theorem dX1_readTape_22 : decode cX1_readTape 22 = .ok (.istore_n 1, 1) := by decide +kernel
theorem dX1_readTape_23 : decode cX1_readTape 23 = .ok (.iload_n 1, 1) := by decide +kernel
theorem dX1_readTape_24 : decode cX1_readTape 24 = .ok (.iconst 3, 1) := by decide +kernel
theorem dX1_readTape_25 : decode cX1_readTape 25 = .ok (.if_icmp .ge 37, 3) := by decide +kernel
theorem dX1_readTape_28 : decode cX1_readTape 28 = .ok (.aload_n 0, 1) := by decide +kernel
theorem dX1_readTape_29 : decode cX1_readTape 29 = .ok (.bipush (-21), 2) := by decide +kernel
theorem dX1_readTape_31 : decode cX1_readTape 31 = .ok (.iload_n 1, 1) := by decide +kernel
theorem dX1_readTape_32 : decode cX1_readTape 32 = .ok (.isub, 1) := by decide +kernel
theorem dX1_readTape_33 : decode cX1_readTape 33 = .ok (.invokevirtual 43, 3) := by decide +kernel
theorem dX1_readTape_36 : decode cX1_readTape 36 = .ok (.aload_n 0, 1) := by decide +kernel
theorem dX1_readTape_37 : decode cX1_readTape 37 = .ok (.iconst 0, 1) := by decide +kernel
theorem dX1_readTape_38 : decode cX1_readTape 38 = .ok (.iconst 0, 1) := by decide +kernel
theorem dX1_readTape_39 : decode cX1_readTape 39 = .ok (.invokevirtual 47, 3) := by decide +kernel
theorem dX1_readTape_42 : decode cX1_readTape 42 = .ok (.aload_n 0, 1) := by decide +kernel
theorem dX1_readTape_43 : decode cX1_readTape 43 = .ok (.getfield 31, 3) := by decide +kernel
theorem dX1_readTape_46 : decode cX1_readTape 46 = .ok (.iload_n 1, 1) := by decide +kernel
theorem dX1_readTape_47 : decode cX1_readTape 47 = .ok (.invokevirtual 51, 3) := by decide +kernel
theorem dX1_readTape_50 : decode cX1_readTape 50 = .ok (.aload_n 0, 1) := by decide +kernel
theorem dX1_readTape_51 : decode cX1_readTape 51 = .ok (.bipush (-18), 2) := by decide +kernel
theorem dX1_readTape_53 : decode cX1_readTape 53 = .ok (.invokevirtual 43, 3) := by decide +kernel
theorem dX1_readTape_56 : decode cX1_readTape 56 = .ok (.iinc 1 1, 3) := by decide +kernel
theorem dX1_readTape_59 : decode cX1_readTape 59 = .ok (.goto (-36), 3) := by decide +kernel
theorem dX1_readTape_62 : decode cX1_readTape 62 = .ok (.aload_n 0, 1) := by decide +kernel
theorem dX1_readTape_63 : decode cX1_readTape 63 = .ok (.getfield 25, 3) := by decide +kernel
theorem dX1_readTape_66 : decode cX1_readTape 66 = .ok (.bipush (-19), 2) := by decide +kernel
theorem dX1_readTape_68 : decode cX1_readTape 68 = .ok (.if_icmp .eq 7, 3) := by decide +kernel
theorem dX1_readTape_71 : decode cX1_readTape 71 = .ok (.aload_n 0, 1) := by decide +kernel
theorem dX1_readTape_72 : decode cX1_readTape 72 = .ok (.invokevirtual 54, 3) := by decide +kernel
theorem dX1_readTape_75 : decode cX1_readTape 75 = .ok (.aload_n 0, 1) := by decide +kernel
theorem dX1_readTape_76 : decode cX1_readTape 76 = .ok (.iconst 0, 1) := by decide +kernel
theorem dX1_readTape_77 : decode cX1_readTape 77 = .ok (.putfield 9, 3) := by decide +kernel
theorem dX1_readTape_80 : decode cX1_readTape 80 = .ok (.aload_n 0, 1) := by decide +kernel
theorem dX1_readTape_81 : decode cX1_readTape 81 = .ok (.getfield 28, 3) := by decide +kernel
theorem dX1_readTape_84 : decode cX1_readTape 84 = .ok (.ireturn, 1) := by decide +kernel
theorem dX1_readRank_0 : decode cX1_readRank 0 = .ok (.iload_n 1, 1) := by decide +kernel
theorem dX1_readRank_1 : decode cX1_readRank 1 = .ok (.iconst 5, 1) := by decide +kernel
theorem dX1_readRank_2 : decode cX1_readRank 2 = .ok (.if_icmp .lt 9, 3) := by decide +kernel
theorem dX1_readRank_5 : decode cX1_readRank 5 = .ok (.aload_n 0, 1) := by decide +kernel
theorem dX1_readRank_6 : decode cX1_readRank 6 = .ok (.iload_n 2, 1) := by decide +kernel
theorem dX1_readRank_7 : decode cX1_readRank 7 = .ok (.invokevirtual 57, 3) := by decide +kernel
theorem dX1_readRank_10 : decode cX1_readRank 10 = .ok (.return_, 1) := by decide +kernel
theorem dX1_readRank_11 : decode cX1_readRank 11 = .ok (.iload_n 1, 1) := by decide +kernel
theorem dX1_readRank_12 : decode cX1_readRank 12 = .ok (.iconst 2, 1) := by decide +kernel
theorem dX1_readRank_13 : decode cX1_readRank 13 = .ok (.if_icmp .ne 38, 3) := by decide +kernel
theorem dX1_readRank_16 : decode cX1_readRank 16 = .ok (.aload_n 0, 1) := by decide +kernel
theorem dX1_readRank_17 : decode cX1_readRank 17 = .ok (.getfield 25, 3) := by decide +kernel
theorem dX1_readRank_20 : decode cX1_readRank 20 = .ok (.bipush (-9), 2) := by decide +kernel
theorem dX1_readRank_22 : decode cX1_readRank 22 = .ok (.if_icmp .ne 29, 3) := by decide +kernel
theorem dX1_readRank_25 : decode cX1_readRank 25 = .ok (.aload_n 0, 1) := by decide +kernel
theorem dX1_readRank_26 : decode cX1_readRank 26 = .ok (.iload_n 2, 1) := by decide +kernel
theorem dX1_readRank_27 : decode cX1_readRank 27 = .ok (.invokevirtual 60, 3) := by decide +kernel
theorem dX1_readRank_30 : decode cX1_readRank 30 = .ok (.ifCond .eq 20, 3) := by decide +kernel
theorem dX1_readRank_33 : decode cX1_readRank 33 = .ok (.aload_n 0, 1) := by decide +kernel
theorem dX1_readRank_34 : decode cX1_readRank 34 = .ok (.iconst 2, 1) := by decide +kernel
theorem dX1_readRank_35 : decode cX1_readRank 35 = .ok (.iload_n 2, 1) := by decide +kernel
theorem dX1_readRank_36 : decode cX1_readRank 36 = .ok (.iconst 1, 1) := by decide +kernel
theorem dX1_readRank_37 : decode cX1_readRank 37 = .ok (.iadd, 1) := by decide +kernel
theorem dX1_readRank_38 : decode cX1_readRank 38 = .ok (.invokevirtual 47, 3) := by decide +kernel
theorem dX1_readRank_41 : decode cX1_readRank 41 = .ok (.aload_n 0, 1) := by decide +kernel
theorem dX1_readRank_42 : decode cX1_readRank 42 = .ok (.getfield 31, 3) := by decide +kernel
theorem dX1_readRank_45 : decode cX1_readRank 45 = .ok (.bipush (-9), 2) := by decide +kernel
theorem dX1_readRank_47 : decode cX1_readRank 47 = .ok (.invokevirtual 64, 3) := by decide +kernel
theorem dX1_readRank_50 : decode cX1_readRank 50 = .ok (.return_, 1) := by decide +kernel
theorem dX1_readRank_51 : decode cX1_readRank 51 = .ok (.aload_n 0, 1) := by decide +kernel
theorem dX1_readRank_52 : decode cX1_readRank 52 = .ok (.iload_n 1, 1) := by decide +kernel
theorem dX1_readRank_53 : decode cX1_readRank 53 = .ok (.iconst 1, 1) := by decide +kernel
theorem dX1_readRank_54 : decode cX1_readRank 54 = .ok (.iadd, 1) := by decide +kernel
theorem dX1_readRank_55 : decode cX1_readRank 55 = .ok (.iload_n 2, 1) := by decide +kernel
theorem dX1_readRank_56 : decode cX1_readRank 56 = .ok (.invokevirtual 47, 3) := by decide +kernel
theorem dX1_readRank_59 : decode cX1_readRank 59 = .ok (.iload_n 1, 1) := by decide +kernel
theorem dX1_readRank_60 : decode cX1_readRank 60 = .ok (.iconst 2, 1) := by decide +kernel
theorem dX1_readRank_61 : decode cX1_readRank 61 = .ok (.if_icmp .ne 7, 3) := by decide +kernel
theorem dX1_readRank_64 : decode cX1_readRank 64 = .ok (.iconst 1, 1) := by decide +kernel
theorem dX1_readRank_65 : decode cX1_readRank 65 = .ok (.goto 6, 3) := by decide +kernel
theorem dX1_readRank_68 : decode cX1_readRank 68 = .ok (.sipush 160, 3) := by decide +kernel
theorem dX1_readRank_71 : decode cX1_readRank 71 = .ok (.istore_n 3, 1) := by decide +kernel
theorem dX1_readRank_72 : decode cX1_readRank 72 = .ok (.iconst 0, 1) := by decide +kernel
theorem dX1_readRank_73 : decode cX1_readRank 73 = .ok (.istore 4, 2) := by decide +kernel
theorem dX1_readRank_75 : decode cX1_readRank 75 = .ok (.iload 4, 2) := by decide +kernel
theorem dX1_readRank_77 : decode cX1_readRank 77 = .ok (.iload_n 3, 1) := by decide +kernel
theorem dX1_readRank_78 : decode cX1_readRank 78 = .ok (.if_icmp .ge 47, 3) := by decide +kernel
theorem dX1_readRank_81 : decode cX1_readRank 81 = .ok (.iload_n 1, 1) := by decide +kernel
theorem dX1_readRank_82 : decode cX1_readRank 82 = .ok (.aload_n 0, 1) := by decide +kernel
theorem dX1_readRank_83 : decode cX1_readRank 83 = .ok (.getfield 25, 3) := by decide +kernel
theorem dX1_readRank_86 : decode cX1_readRank 86 = .ok (.invokestatic 67, 3) := by decide +kernel
theorem dX1_readRank_89 : decode cX1_readRank 89 = .ok (.ifCond .eq 36, 3) := by decide +kernel
theorem dX1_readRank_92 : decode cX1_readRank 92 = .ok (.aload_n 0, 1) := by decide +kernel
theorem dX1_readRank_93 : decode cX1_readRank 93 = .ok (.getfield 25, 3) := by decide +kernel
theorem dX1_readRank_96 : decode cX1_readRank 96 = .ok (.istore 5, 2) := by decide +kernel
theorem dX1_readRank_98 : decode cX1_readRank 98 = .ok (.aload_n 0, 1) := by decide +kernel
theorem dX1_readRank_99 : decode cX1_readRank 99 = .ok (.invokevirtual 40, 3) := by decide +kernel
theorem dX1_readRank_102 : decode cX1_readRank 102 = .ok (.aload_n 0, 1) := by decide +kernel
theorem dX1_readRank_103 : decode cX1_readRank 103 = .ok (.iload_n 1, 1) := by decide +kernel
theorem dX1_readRank_104 : decode cX1_readRank 104 = .ok (.iconst 1, 1) := by decide +kernel
theorem dX1_readRank_105 : decode cX1_readRank 105 = .ok (.iadd, 1) := by decide +kernel
theorem dX1_readRank_106 : decode cX1_readRank 106 = .ok (.iload_n 2, 1) := by decide +kernel
theorem dX1_readRank_107 : decode cX1_readRank 107 = .ok (.invokevirtual 47, 3) := by decide +kernel
theorem dX1_readRank_110 : decode cX1_readRank 110 = .ok (.aload_n 0, 1) := by decide +kernel
theorem dX1_readRank_111 : decode cX1_readRank 111 = .ok (.getfield 31, 3) := by decide +kernel
theorem dX1_readRank_114 : decode cX1_readRank 114 = .ok (.iload 5, 2) := by decide +kernel
theorem dX1_readRank_116 : decode cX1_readRank 116 = .ok (.invokevirtual 64, 3) := by decide +kernel
theorem dX1_readRank_119 : decode cX1_readRank 119 = .ok (.iinc 4 1, 3) := by decide +kernel
theorem dX1_readRank_122 : decode cX1_readRank 122 = .ok (.goto (-47), 3) := by decide +kernel
theorem dX1_readRank_125 : decode cX1_readRank 125 = .ok (.return_, 1) := by decide +kernel
theorem dX1_isJoint_0 : decode cX1_isJoint 0 = .ok (.iload_n 0, 1) := by decide +kernel
theorem dX1_isJoint_1 : decode cX1_isJoint 1 = .ok (.tableswitch 91 0 3 #[31, 43, 55, 73], 31) := by decide +kernel
theorem dX1_isJoint_32 : decode cX1_isJoint 32 = .ok (.iload_n 1, 1) := by decide +kernel
theorem dX1_isJoint_33 : decode cX1_isJoint 33 = .ok (.bipush (-7), 2) := by decide +kernel
theorem dX1_isJoint_35 : decode cX1_isJoint 35 = .ok (.if_icmp .ne 7, 3) := by decide +kernel
theorem dX1_isJoint_38 : decode cX1_isJoint 38 = .ok (.iconst 1, 1) := by decide +kernel
theorem dX1_isJoint_39 : decode cX1_isJoint 39 = .ok (.goto 4, 3) := by decide +kernel
theorem dX1_isJoint_42 : decode cX1_isJoint 42 = .ok (.iconst 0, 1) := by decide +kernel
theorem dX1_isJoint_43 : decode cX1_isJoint 43 = .ok (.ireturn, 1) := by decide +kernel
theorem dX1_isJoint_44 : decode cX1_isJoint 44 = .ok (.iload_n 1, 1) := by decide +kernel
theorem dX1_isJoint_45 : decode cX1_isJoint 45 = .ok (.bipush (-8), 2) := by decide +kernel
theorem dX1_isJoint_47 : decode cX1_isJoint 47 = .ok (.if_icmp .ne 7, 3) := by decide +kernel
theorem dX1_isJoint_50 : decode cX1_isJoint 50 = .ok (.iconst 1, 1) := by decide +kernel
theorem dX1_isJoint_51 : decode cX1_isJoint 51 = .ok (.goto 4, 3) := by decide +kernel
theorem dX1_isJoint_54 : decode cX1_isJoint 54 = .ok (.iconst 0, 1) := by decide +kernel
theorem dX1_isJoint_55 : decode cX1_isJoint 55 = .ok (.ireturn, 1) := by decide +kernel
theorem dX1_isJoint_56 : decode cX1_isJoint 56 = .ok (.iload_n 1, 1) := by decide +kernel
theorem dX1_isJoint_57 : decode cX1_isJoint 57 = .ok (.bipush (-10), 2) := by decide +kernel
theorem dX1_isJoint_59 : decode cX1_isJoint 59 = .ok (.if_icmp .eq 9, 3) := by decide +kernel
theorem dX1_isJoint_62 : decode cX1_isJoint 62 = .ok (.iload_n 1, 1) := by decide +kernel
theorem dX1_isJoint_63 : decode cX1_isJoint 63 = .ok (.bipush (-11), 2) := by decide +kernel
theorem dX1_isJoint_65 : decode cX1_isJoint 65 = .ok (.if_icmp .ne 7, 3) := by decide +kernel
theorem dX1_isJoint_68 : decode cX1_isJoint 68 = .ok (.iconst 1, 1) := by decide +kernel
theorem dX1_isJoint_69 : decode cX1_isJoint 69 = .ok (.goto 4, 3) := by decide +kernel
theorem dX1_isJoint_72 : decode cX1_isJoint 72 = .ok (.iconst 0, 1) := by decide +kernel
theorem dX1_isJoint_73 : decode cX1_isJoint 73 = .ok (.ireturn, 1) := by decide +kernel
theorem dX1_isJoint_74 : decode cX1_isJoint 74 = .ok (.iload_n 1, 1) := by decide +kernel
theorem dX1_isJoint_75 : decode cX1_isJoint 75 = .ok (.bipush (-12), 2) := by decide +kernel
theorem dX1_isJoint_77 : decode cX1_isJoint 77 = .ok (.if_icmp .eq 9, 3) := by decide +kernel
theorem dX1_isJoint_80 : decode cX1_isJoint 80 = .ok (.iload_n 1, 1) := by decide +kernel
theorem dX1_isJoint_81 : decode cX1_isJoint 81 = .ok (.bipush (-13), 2) := by decide +kernel
theorem dX1_isJoint_83 : decode cX1_isJoint 83 = .ok (.if_icmp .ne 7, 3) := by decide +kernel
theorem dX1_isJoint_86 : decode cX1_isJoint 86 = .ok (.iconst 1, 1) := by decide +kernel
theorem dX1_isJoint_87 : decode cX1_isJoint 87 = .ok (.goto 4, 3) := by decide +kernel
theorem dX1_isJoint_90 : decode cX1_isJoint 90 = .ok (.iconst 0, 1) := by decide +kernel
theorem dX1_isJoint_91 : decode cX1_isJoint 91 = .ok (.ireturn, 1) := by decide +kernel
theorem dX1_isJoint_92 : decode cX1_isJoint 92 = .ok (.iload_n 0, 1) := by decide +kernel
theorem dX1_isJoint_93 : decode cX1_isJoint 93 = .ok (.iconst 4, 1) := by decide +kernel
theorem dX1_isJoint_94 : decode cX1_isJoint 94 = .ok (.if_icmp .ne 13, 3) := by decide +kernel
theorem dX1_isJoint_97 : decode cX1_isJoint 97 = .ok (.iload_n 1, 1) := by decide +kernel
theorem dX1_isJoint_98 : decode cX1_isJoint 98 = .ok (.bipush (-14), 2) := by decide +kernel
theorem dX1_isJoint_100 : decode cX1_isJoint 100 = .ok (.if_icmp .ne 7, 3) := by decide +kernel
theorem dX1_isJoint_103 : decode cX1_isJoint 103 = .ok (.iconst 1, 1) := by decide +kernel
theorem dX1_isJoint_104 : decode cX1_isJoint 104 = .ok (.goto 4, 3) := by decide +kernel
theorem dX1_isJoint_107 : decode cX1_isJoint 107 = .ok (.iconst 0, 1) := by decide +kernel
theorem dX1_isJoint_108 : decode cX1_isJoint 108 = .ok (.ireturn, 1) := by decide +kernel
theorem dX1_readOne_0 : decode cX1_readOne 0 = .ok (.aload_n 0, 1) := by decide +kernel
theorem dX1_readOne_1 : decode cX1_readOne 1 = .ok (.getfield 25, 3) := by decide +kernel
theorem dX1_readOne_4 : decode cX1_readOne 4 = .ok (.bipush (-6), 2) := by decide +kernel
theorem dX1_readOne_6 : decode cX1_readOne 6 = .ok (.if_icmp .lt 21, 3) := by decide +kernel
theorem dX1_readOne_9 : decode cX1_readOne 9 = .ok (.aload_n 0, 1) := by decide +kernel
theorem dX1_readOne_10 : decode cX1_readOne 10 = .ok (.getfield 31, 3) := by decide +kernel
theorem dX1_readOne_13 : decode cX1_readOne 13 = .ok (.aload_n 0, 1) := by decide +kernel
theorem dX1_readOne_14 : decode cX1_readOne 14 = .ok (.getfield 25, 3) := by decide +kernel
theorem dX1_readOne_17 : decode cX1_readOne 17 = .ok (.invokevirtual 64, 3) := by decide +kernel
theorem dX1_readOne_20 : decode cX1_readOne 20 = .ok (.aload_n 0, 1) := by decide +kernel
theorem dX1_readOne_21 : decode cX1_readOne 21 = .ok (.invokevirtual 40, 3) := by decide +kernel
theorem dX1_readOne_24 : decode cX1_readOne 24 = .ok (.goto 77, 3) := by decide +kernel
theorem dX1_readOne_27 : decode cX1_readOne 27 = .ok (.aload_n 0, 1) := by decide +kernel
theorem dX1_readOne_28 : decode cX1_readOne 28 = .ok (.getfield 25, 3) := by decide +kernel
theorem dX1_readOne_31 : decode cX1_readOne 31 = .ok (.bipush (-13), 2) := by decide +kernel
theorem dX1_readOne_33 : decode cX1_readOne 33 = .ok (.if_icmp .ne 30, 3) := by decide +kernel
theorem dX1_readOne_36 : decode cX1_readOne 36 = .ok (.aload_n 0, 1) := by decide +kernel
theorem dX1_readOne_37 : decode cX1_readOne 37 = .ok (.iload_n 1, 1) := by decide +kernel
theorem dX1_readOne_38 : decode cX1_readOne 38 = .ok (.invokevirtual 60, 3) := by decide +kernel
theorem dX1_readOne_41 : decode cX1_readOne 41 = .ok (.ifCond .eq 60, 3) := by decide +kernel
theorem dX1_readOne_44 : decode cX1_readOne 44 = .ok (.aload_n 0, 1) := by decide +kernel
theorem dX1_readOne_45 : decode cX1_readOne 45 = .ok (.iload_n 1, 1) := by decide +kernel
theorem dX1_readOne_46 : decode cX1_readOne 46 = .ok (.iconst 1, 1) := by decide +kernel
theorem dX1_readOne_47 : decode cX1_readOne 47 = .ok (.iadd, 1) := by decide +kernel
theorem dX1_readOne_48 : decode cX1_readOne 48 = .ok (.invokevirtual 57, 3) := by decide +kernel
theorem dX1_readOne_51 : decode cX1_readOne 51 = .ok (.aload_n 0, 1) := by decide +kernel
theorem dX1_readOne_52 : decode cX1_readOne 52 = .ok (.getfield 31, 3) := by decide +kernel
theorem dX1_readOne_55 : decode cX1_readOne 55 = .ok (.bipush (-15), 2) := by decide +kernel
theorem dX1_readOne_57 : decode cX1_readOne 57 = .ok (.invokevirtual 64, 3) := by decide +kernel
theorem dX1_readOne_60 : decode cX1_readOne 60 = .ok (.goto 41, 3) := by decide +kernel
theorem dX1_readOne_63 : decode cX1_readOne 63 = .ok (.aload_n 0, 1) := by decide +kernel
theorem dX1_readOne_64 : decode cX1_readOne 64 = .ok (.getfield 25, 3) := by decide +kernel
theorem dX1_readOne_67 : decode cX1_readOne 67 = .ok (.bipush (-16), 2) := by decide +kernel
theorem dX1_readOne_69 : decode cX1_readOne 69 = .ok (.if_icmp .ne 28, 3) := by decide +kernel
theorem dX1_readOne_72 : decode cX1_readOne 72 = .ok (.aload_n 0, 1) := by decide +kernel
theorem dX1_readOne_73 : decode cX1_readOne 73 = .ok (.iload_n 1, 1) := by decide +kernel
theorem dX1_readOne_74 : decode cX1_readOne 74 = .ok (.invokevirtual 60, 3) := by decide +kernel
theorem dX1_readOne_77 : decode cX1_readOne 77 = .ok (.ifCond .eq 24, 3) := by decide +kernel
theorem dX1_readOne_80 : decode cX1_readOne 80 = .ok (.aload_n 0, 1) := by decide +kernel
theorem dX1_readOne_81 : decode cX1_readOne 81 = .ok (.iconst 0, 1) := by decide +kernel
theorem dX1_readOne_82 : decode cX1_readOne 82 = .ok (.iload_n 1, 1) := by decide +kernel
theorem dX1_readOne_83 : decode cX1_readOne 83 = .ok (.iconst 1, 1) := by decide +kernel
theorem dX1_readOne_84 : decode cX1_readOne 84 = .ok (.iadd, 1) := by decide +kernel
theorem dX1_readOne_85 : decode cX1_readOne 85 = .ok (.invokevirtual 47, 3) := by decide +kernel
theorem dX1_readOne_88 : decode cX1_readOne 88 = .ok (.aload_n 0, 1) := by decide +kernel
theorem dX1_readOne_89 : decode cX1_readOne 89 = .ok (.bipush (-17), 2) := by decide +kernel
theorem dX1_readOne_91 : decode cX1_readOne 91 = .ok (.invokevirtual 43, 3) := by decide +kernel
theorem dX1_readOne_94 : decode cX1_readOne 94 = .ok (.goto 7, 3) := by decide +kernel
theorem dX1_readOne_97 : decode cX1_readOne 97 = .ok (.aload_n 0, 1) := by decide +kernel
theorem dX1_readOne_98 : decode cX1_readOne 98 = .ok (.invokevirtual 54, 3) := by decide +kernel
theorem dX1_readOne_101 : decode cX1_readOne 101 = .ok (.return_, 1) := by decide +kernel
theorem dX1_mayOpen_0 : decode cX1_mayOpen 0 = .ok (.iload_n 1, 1) := by decide +kernel
theorem dX1_mayOpen_1 : decode cX1_mayOpen 1 = .ok (.iconst 5, 1) := by decide +kernel
theorem dX1_mayOpen_2 : decode cX1_mayOpen 2 = .ok (.if_icmp .lt 9, 3) := by decide +kernel
theorem dX1_mayOpen_5 : decode cX1_mayOpen 5 = .ok (.aload_n 0, 1) := by decide +kernel
theorem dX1_mayOpen_6 : decode cX1_mayOpen 6 = .ok (.invokevirtual 54, 3) := by decide +kernel
theorem dX1_mayOpen_9 : decode cX1_mayOpen 9 = .ok (.iconst 0, 1) := by decide +kernel
theorem dX1_mayOpen_10 : decode cX1_mayOpen 10 = .ok (.ireturn, 1) := by decide +kernel
theorem dX1_mayOpen_11 : decode cX1_mayOpen 11 = .ok (.aload_n 0, 1) := by decide +kernel
theorem dX1_mayOpen_12 : decode cX1_mayOpen 12 = .ok (.invokevirtual 40, 3) := by decide +kernel
theorem dX1_mayOpen_15 : decode cX1_mayOpen 15 = .ok (.iconst 1, 1) := by decide +kernel
theorem dX1_mayOpen_16 : decode cX1_mayOpen 16 = .ok (.ireturn, 1) := by decide +kernel
theorem dX1_expect_0 : decode cX1_expect 0 = .ok (.aload_n 0, 1) := by decide +kernel
theorem dX1_expect_1 : decode cX1_expect 1 = .ok (.getfield 25, 3) := by decide +kernel
theorem dX1_expect_4 : decode cX1_expect 4 = .ok (.iload_n 1, 1) := by decide +kernel
theorem dX1_expect_5 : decode cX1_expect 5 = .ok (.if_icmp .ne 10, 3) := by decide +kernel
theorem dX1_expect_8 : decode cX1_expect 8 = .ok (.aload_n 0, 1) := by decide +kernel
theorem dX1_expect_9 : decode cX1_expect 9 = .ok (.invokevirtual 40, 3) := by decide +kernel
theorem dX1_expect_12 : decode cX1_expect 12 = .ok (.goto 7, 3) := by decide +kernel
theorem dX1_expect_15 : decode cX1_expect 15 = .ok (.aload_n 0, 1) := by decide +kernel
theorem dX1_expect_16 : decode cX1_expect 16 = .ok (.invokevirtual 54, 3) := by decide +kernel
theorem dX1_expect_19 : decode cX1_expect 19 = .ok (.return_, 1) := by decide +kernel
theorem dX1_refuse_0 : decode cX1_refuse 0 = .ok (.aload_n 0, 1) := by decide +kernel
theorem dX1_refuse_1 : decode cX1_refuse 1 = .ok (.getfield 28, 3) := by decide +kernel
theorem dX1_refuse_4 : decode cX1_refuse 4 = .ok (.iconst (-1), 1) := by decide +kernel
theorem dX1_refuse_5 : decode cX1_refuse 5 = .ok (.if_icmp .ne 11, 3) := by decide +kernel
theorem dX1_refuse_8 : decode cX1_refuse 8 = .ok (.aload_n 0, 1) := by decide +kernel
theorem dX1_refuse_9 : decode cX1_refuse 9 = .ok (.aload_n 0, 1) := by decide +kernel
theorem dX1_refuse_10 : decode cX1_refuse 10 = .ok (.getfield 22, 3) := by decide +kernel
theorem dX1_refuse_13 : decode cX1_refuse 13 = .ok (.putfield 28, 3) := by decide +kernel
theorem dX1_refuse_16 : decode cX1_refuse 16 = .ok (.aload_n 0, 1) := by decide +kernel
theorem dX1_refuse_17 : decode cX1_refuse 17 = .ok (.bipush (-20), 2) := by decide +kernel
theorem dX1_refuse_19 : decode cX1_refuse 19 = .ok (.putfield 25, 3) := by decide +kernel
theorem dX1_refuse_22 : decode cX1_refuse 22 = .ok (.return_, 1) := by decide +kernel
theorem dX1_advance_0 : decode cX1_advance 0 = .ok (.aload_n 0, 1) := by decide +kernel
theorem dX1_advance_1 : decode cX1_advance 1 = .ok (.getfield 19, 3) := by decide +kernel
theorem dX1_advance_4 : decode cX1_advance 4 = .ok (.aload_n 0, 1) := by decide +kernel
theorem dX1_advance_5 : decode cX1_advance 5 = .ok (.getfield 9, 3) := by decide +kernel
theorem dX1_advance_8 : decode cX1_advance 8 = .ok (.if_icmp .ge 44, 3) := by decide +kernel
theorem dX1_advance_11 : decode cX1_advance 11 = .ok (.aload_n 0, 1) := by decide +kernel
theorem dX1_advance_12 : decode cX1_advance 12 = .ok (.getfield 15, 3) := by decide +kernel
theorem dX1_advance_15 : decode cX1_advance 15 = .ok (.aload_n 0, 1) := by decide +kernel
theorem dX1_advance_16 : decode cX1_advance 16 = .ok (.getfield 19, 3) := by decide +kernel
theorem dX1_advance_19 : decode cX1_advance 19 = .ok (.iaload, 1) := by decide +kernel
theorem dX1_advance_20 : decode cX1_advance 20 = .ok (.bipush 32, 2) := by decide +kernel
theorem dX1_advance_22 : decode cX1_advance 22 = .ok (.if_icmp .eq 17, 3) := by decide +kernel
theorem dX1_advance_25 : decode cX1_advance 25 = .ok (.aload_n 0, 1) := by decide +kernel
theorem dX1_advance_26 : decode cX1_advance 26 = .ok (.getfield 15, 3) := by decide +kernel
theorem dX1_advance_29 : decode cX1_advance 29 = .ok (.aload_n 0, 1) := by decide +kernel
theorem dX1_advance_30 : decode cX1_advance 30 = .ok (.getfield 19, 3) := by decide +kernel
theorem dX1_advance_33 : decode cX1_advance 33 = .ok (.iaload, 1) := by decide +kernel
theorem dX1_advance_34 : decode cX1_advance 34 = .ok (.bipush 10, 2) := by decide +kernel
theorem dX1_advance_36 : decode cX1_advance 36 = .ok (.if_icmp .ne 16, 3) := by decide +kernel
theorem dX1_advance_39 : decode cX1_advance 39 = .ok (.aload_n 0, 1) := by decide +kernel
theorem dX1_advance_40 : decode cX1_advance 40 = .ok (.dup, 1) := by decide +kernel
theorem dX1_advance_41 : decode cX1_advance 41 = .ok (.getfield 19, 3) := by decide +kernel
theorem dX1_advance_44 : decode cX1_advance 44 = .ok (.iconst 1, 1) := by decide +kernel
theorem dX1_advance_45 : decode cX1_advance 45 = .ok (.iadd, 1) := by decide +kernel
theorem dX1_advance_46 : decode cX1_advance 46 = .ok (.putfield 19, 3) := by decide +kernel
theorem dX1_advance_49 : decode cX1_advance 49 = .ok (.goto (-49), 3) := by decide +kernel
theorem dX1_advance_52 : decode cX1_advance 52 = .ok (.aload_n 0, 1) := by decide +kernel
theorem dX1_advance_53 : decode cX1_advance 53 = .ok (.aload_n 0, 1) := by decide +kernel
theorem dX1_advance_54 : decode cX1_advance 54 = .ok (.getfield 19, 3) := by decide +kernel
theorem dX1_advance_57 : decode cX1_advance 57 = .ok (.putfield 22, 3) := by decide +kernel
theorem dX1_advance_60 : decode cX1_advance 60 = .ok (.aload_n 0, 1) := by decide +kernel
theorem dX1_advance_61 : decode cX1_advance 61 = .ok (.getfield 19, 3) := by decide +kernel
theorem dX1_advance_64 : decode cX1_advance 64 = .ok (.aload_n 0, 1) := by decide +kernel
theorem dX1_advance_65 : decode cX1_advance 65 = .ok (.getfield 9, 3) := by decide +kernel
theorem dX1_advance_68 : decode cX1_advance 68 = .ok (.if_icmp .lt 12, 3) := by decide +kernel
theorem dX1_advance_71 : decode cX1_advance 71 = .ok (.aload_n 0, 1) := by decide +kernel
theorem dX1_advance_72 : decode cX1_advance 72 = .ok (.bipush (-19), 2) := by decide +kernel
theorem dX1_advance_74 : decode cX1_advance 74 = .ok (.putfield 25, 3) := by decide +kernel
theorem dX1_advance_77 : decode cX1_advance 77 = .ok (.goto 81, 3) := by decide +kernel
theorem dX1_advance_80 : decode cX1_advance 80 = .ok (.aload_n 0, 1) := by decide +kernel
theorem dX1_advance_81 : decode cX1_advance 81 = .ok (.getfield 15, 3) := by decide +kernel
theorem dX1_advance_84 : decode cX1_advance 84 = .ok (.aload_n 0, 1) := by decide +kernel
theorem dX1_advance_85 : decode cX1_advance 85 = .ok (.getfield 19, 3) := by decide +kernel
theorem dX1_advance_88 : decode cX1_advance 88 = .ok (.iaload, 1) := by decide +kernel
theorem dX1_advance_89 : decode cX1_advance 89 = .ok (.invokestatic 71, 3) := by decide +kernel
theorem dX1_advance_92 : decode cX1_advance 92 = .ok (.ifCond .eq 14, 3) := by decide +kernel
theorem dX1_advance_95 : decode cX1_advance 95 = .ok (.aload_n 0, 1) := by decide +kernel
theorem dX1_advance_96 : decode cX1_advance 96 = .ok (.aload_n 0, 1) := by decide +kernel
theorem dX1_advance_97 : decode cX1_advance 97 = .ok (.invokevirtual 74, 3) := by decide +kernel
theorem dX1_advance_100 : decode cX1_advance 100 = .ok (.putfield 25, 3) := by decide +kernel
theorem dX1_advance_103 : decode cX1_advance 103 = .ok (.goto 55, 3) := by decide +kernel
theorem dX1_advance_106 : decode cX1_advance 106 = .ok (.aload_n 0, 1) := by decide +kernel
theorem dX1_advance_107 : decode cX1_advance 107 = .ok (.getfield 15, 3) := by decide +kernel
theorem dX1_advance_110 : decode cX1_advance 110 = .ok (.aload_n 0, 1) := by decide +kernel
theorem dX1_advance_111 : decode cX1_advance 111 = .ok (.getfield 19, 3) := by decide +kernel
theorem dX1_advance_114 : decode cX1_advance 114 = .ok (.iaload, 1) := by decide +kernel
theorem dX1_advance_115 : decode cX1_advance 115 = .ok (.invokestatic 78, 3) := by decide +kernel
theorem dX1_advance_118 : decode cX1_advance 118 = .ok (.ifCond .eq 14, 3) := by decide +kernel
theorem dX1_advance_121 : decode cX1_advance 121 = .ok (.aload_n 0, 1) := by decide +kernel
theorem dX1_advance_122 : decode cX1_advance 122 = .ok (.aload_n 0, 1) := by decide +kernel
theorem dX1_advance_123 : decode cX1_advance 123 = .ok (.invokevirtual 81, 3) := by decide +kernel
theorem dX1_advance_126 : decode cX1_advance 126 = .ok (.putfield 25, 3) := by decide +kernel
theorem dX1_advance_129 : decode cX1_advance 129 = .ok (.goto 29, 3) := by decide +kernel
theorem dX1_advance_132 : decode cX1_advance 132 = .ok (.aload_n 0, 1) := by decide +kernel
theorem dX1_advance_133 : decode cX1_advance 133 = .ok (.aload_n 0, 1) := by decide +kernel
theorem dX1_advance_134 : decode cX1_advance 134 = .ok (.getfield 15, 3) := by decide +kernel
theorem dX1_advance_137 : decode cX1_advance 137 = .ok (.aload_n 0, 1) := by decide +kernel
theorem dX1_advance_138 : decode cX1_advance 138 = .ok (.getfield 19, 3) := by decide +kernel
theorem dX1_advance_141 : decode cX1_advance 141 = .ok (.iaload, 1) := by decide +kernel
theorem dX1_advance_142 : decode cX1_advance 142 = .ok (.invokestatic 84, 3) := by decide +kernel
theorem dX1_advance_145 : decode cX1_advance 145 = .ok (.putfield 25, 3) := by decide +kernel
theorem dX1_advance_148 : decode cX1_advance 148 = .ok (.aload_n 0, 1) := by decide +kernel
theorem dX1_advance_149 : decode cX1_advance 149 = .ok (.dup, 1) := by decide +kernel
theorem dX1_advance_150 : decode cX1_advance 150 = .ok (.getfield 19, 3) := by decide +kernel
theorem dX1_advance_153 : decode cX1_advance 153 = .ok (.iconst 1, 1) := by decide +kernel
theorem dX1_advance_154 : decode cX1_advance 154 = .ok (.iadd, 1) := by decide +kernel
theorem dX1_advance_155 : decode cX1_advance 155 = .ok (.putfield 19, 3) := by decide +kernel
theorem dX1_advance_158 : decode cX1_advance 158 = .ok (.return_, 1) := by decide +kernel
theorem dX1_isLetter_0 : decode cX1_isLetter 0 = .ok (.iload_n 0, 1) := by decide +kernel
theorem dX1_isLetter_1 : decode cX1_isLetter 1 = .ok (.bipush 97, 2) := by decide +kernel
theorem dX1_isLetter_3 : decode cX1_isLetter 3 = .ok (.if_icmp .lt 13, 3) := by decide +kernel
theorem dX1_isLetter_6 : decode cX1_isLetter 6 = .ok (.iload_n 0, 1) := by decide +kernel
theorem dX1_isLetter_7 : decode cX1_isLetter 7 = .ok (.bipush 122, 2) := by decide +kernel
theorem dX1_isLetter_9 : decode cX1_isLetter 9 = .ok (.if_icmp .gt 7, 3) := by decide +kernel
theorem dX1_isLetter_12 : decode cX1_isLetter 12 = .ok (.iconst 1, 1) := by decide +kernel
theorem dX1_isLetter_13 : decode cX1_isLetter 13 = .ok (.goto 4, 3) := by decide +kernel
theorem dX1_isLetter_16 : decode cX1_isLetter 16 = .ok (.iconst 0, 1) := by decide +kernel
theorem dX1_isLetter_17 : decode cX1_isLetter 17 = .ok (.ireturn, 1) := by decide +kernel
theorem dX1_isDigit_0 : decode cX1_isDigit 0 = .ok (.iload_n 0, 1) := by decide +kernel
theorem dX1_isDigit_1 : decode cX1_isDigit 1 = .ok (.bipush 48, 2) := by decide +kernel
theorem dX1_isDigit_3 : decode cX1_isDigit 3 = .ok (.if_icmp .lt 13, 3) := by decide +kernel
theorem dX1_isDigit_6 : decode cX1_isDigit 6 = .ok (.iload_n 0, 1) := by decide +kernel
theorem dX1_isDigit_7 : decode cX1_isDigit 7 = .ok (.bipush 57, 2) := by decide +kernel
theorem dX1_isDigit_9 : decode cX1_isDigit 9 = .ok (.if_icmp .gt 7, 3) := by decide +kernel
theorem dX1_isDigit_12 : decode cX1_isDigit 12 = .ok (.iconst 1, 1) := by decide +kernel
theorem dX1_isDigit_13 : decode cX1_isDigit 13 = .ok (.goto 4, 3) := by decide +kernel
theorem dX1_isDigit_16 : decode cX1_isDigit 16 = .ok (.iconst 0, 1) := by decide +kernel
theorem dX1_isDigit_17 : decode cX1_isDigit 17 = .ok (.ireturn, 1) := by decide +kernel
theorem dX1_signOf_0 : decode cX1_signOf 0 = .ok (.iload_n 0, 1) := by decide +kernel
theorem dX1_signOf_1 : decode cX1_signOf 1 = .ok (.tableswitch 127 40 61 #[103, 106, 118, 112, 127, 115, 127, 127, 127, 127, 127, 127, 127, 127, 127, 127, 127, 127, 127, 109, 121, 124], 103) := by decide +kernel
theorem dX1_signOf_104 : decode cX1_signOf 104 = .ok (.bipush (-16), 2) := by decide +kernel
theorem dX1_signOf_106 : decode cX1_signOf 106 = .ok (.ireturn, 1) := by decide +kernel
theorem dX1_signOf_107 : decode cX1_signOf 107 = .ok (.bipush (-17), 2) := by decide +kernel
theorem dX1_signOf_109 : decode cX1_signOf 109 = .ok (.ireturn, 1) := by decide +kernel
theorem dX1_signOf_110 : decode cX1_signOf 110 = .ok (.bipush (-18), 2) := by decide +kernel
theorem dX1_signOf_112 : decode cX1_signOf 112 = .ok (.ireturn, 1) := by decide +kernel
theorem dX1_signOf_113 : decode cX1_signOf 113 = .ok (.bipush (-12), 2) := by decide +kernel
theorem dX1_signOf_115 : decode cX1_signOf 115 = .ok (.ireturn, 1) := by decide +kernel
theorem dX1_signOf_116 : decode cX1_signOf 116 = .ok (.bipush (-13), 2) := by decide +kernel
theorem dX1_signOf_118 : decode cX1_signOf 118 = .ok (.ireturn, 1) := by decide +kernel
theorem dX1_signOf_119 : decode cX1_signOf 119 = .ok (.bipush (-14), 2) := by decide +kernel
theorem dX1_signOf_121 : decode cX1_signOf 121 = .ok (.ireturn, 1) := by decide +kernel
theorem dX1_signOf_122 : decode cX1_signOf 122 = .ok (.bipush (-10), 2) := by decide +kernel
theorem dX1_signOf_124 : decode cX1_signOf 124 = .ok (.ireturn, 1) := by decide +kernel
theorem dX1_signOf_125 : decode cX1_signOf 125 = .ok (.bipush (-11), 2) := by decide +kernel
theorem dX1_signOf_127 : decode cX1_signOf 127 = .ok (.ireturn, 1) := by decide +kernel
theorem dX1_signOf_128 : decode cX1_signOf 128 = .ok (.bipush (-20), 2) := by decide +kernel
end
section
theorem dX1_signOf_130 : decode cX1_signOf 130 = .ok (.ireturn, 1) := by decide +kernel
theorem dX1_takeNumber_0 : decode cX1_takeNumber 0 = .ok (.iconst 0, 1) := by decide +kernel
theorem dX1_takeNumber_1 : decode cX1_takeNumber 1 = .ok (.istore_n 1, 1) := by decide +kernel
theorem dX1_takeNumber_2 : decode cX1_takeNumber 2 = .ok (.aload_n 0, 1) := by decide +kernel
theorem dX1_takeNumber_3 : decode cX1_takeNumber 3 = .ok (.getfield 19, 3) := by decide +kernel
theorem dX1_takeNumber_6 : decode cX1_takeNumber 6 = .ok (.aload_n 0, 1) := by decide +kernel
theorem dX1_takeNumber_7 : decode cX1_takeNumber 7 = .ok (.getfield 9, 3) := by decide +kernel
theorem dX1_takeNumber_10 : decode cX1_takeNumber 10 = .ok (.if_icmp .ge 49, 3) := by decide +kernel
theorem dX1_takeNumber_13 : decode cX1_takeNumber 13 = .ok (.aload_n 0, 1) := by decide +kernel
theorem dX1_takeNumber_14 : decode cX1_takeNumber 14 = .ok (.getfield 15, 3) := by decide +kernel
theorem dX1_takeNumber_17 : decode cX1_takeNumber 17 = .ok (.aload_n 0, 1) := by decide +kernel
theorem dX1_takeNumber_18 : decode cX1_takeNumber 18 = .ok (.getfield 19, 3) := by decide +kernel
theorem dX1_takeNumber_21 : decode cX1_takeNumber 21 = .ok (.iaload, 1) := by decide +kernel
theorem dX1_takeNumber_22 : decode cX1_takeNumber 22 = .ok (.invokestatic 78, 3) := by decide +kernel
theorem dX1_takeNumber_25 : decode cX1_takeNumber 25 = .ok (.ifCond .eq 34, 3) := by decide +kernel
theorem dX1_takeNumber_28 : decode cX1_takeNumber 28 = .ok (.iload_n 1, 1) := by decide +kernel
theorem dX1_takeNumber_29 : decode cX1_takeNumber 29 = .ok (.bipush 10, 2) := by decide +kernel
theorem dX1_takeNumber_31 : decode cX1_takeNumber 31 = .ok (.imul, 1) := by decide +kernel
theorem dX1_takeNumber_32 : decode cX1_takeNumber 32 = .ok (.aload_n 0, 1) := by decide +kernel
theorem dX1_takeNumber_33 : decode cX1_takeNumber 33 = .ok (.getfield 15, 3) := by decide +kernel
theorem dX1_takeNumber_36 : decode cX1_takeNumber 36 = .ok (.aload_n 0, 1) := by decide +kernel
theorem dX1_takeNumber_37 : decode cX1_takeNumber 37 = .ok (.getfield 19, 3) := by decide +kernel
theorem dX1_takeNumber_40 : decode cX1_takeNumber 40 = .ok (.iaload, 1) := by decide +kernel
theorem dX1_takeNumber_41 : decode cX1_takeNumber 41 = .ok (.iadd, 1) := by decide +kernel
theorem dX1_takeNumber_42 : decode cX1_takeNumber 42 = .ok (.bipush 48, 2) := by decide +kernel
theorem dX1_takeNumber_44 : decode cX1_takeNumber 44 = .ok (.isub, 1) := by decide +kernel
theorem dX1_takeNumber_45 : decode cX1_takeNumber 45 = .ok (.istore_n 1, 1) := by decide +kernel
theorem dX1_takeNumber_46 : decode cX1_takeNumber 46 = .ok (.aload_n 0, 1) := by decide +kernel
theorem dX1_takeNumber_47 : decode cX1_takeNumber 47 = .ok (.dup, 1) := by decide +kernel
theorem dX1_takeNumber_48 : decode cX1_takeNumber 48 = .ok (.getfield 19, 3) := by decide +kernel
theorem dX1_takeNumber_51 : decode cX1_takeNumber 51 = .ok (.iconst 1, 1) := by decide +kernel
theorem dX1_takeNumber_52 : decode cX1_takeNumber 52 = .ok (.iadd, 1) := by decide +kernel
theorem dX1_takeNumber_53 : decode cX1_takeNumber 53 = .ok (.putfield 19, 3) := by decide +kernel
theorem dX1_takeNumber_56 : decode cX1_takeNumber 56 = .ok (.goto (-54), 3) := by decide +kernel
theorem dX1_takeNumber_59 : decode cX1_takeNumber 59 = .ok (.aload_n 0, 1) := by decide +kernel
theorem dX1_takeNumber_60 : decode cX1_takeNumber 60 = .ok (.getfield 19, 3) := by decide +kernel
theorem dX1_takeNumber_63 : decode cX1_takeNumber 63 = .ok (.aload_n 0, 1) := by decide +kernel
theorem dX1_takeNumber_64 : decode cX1_takeNumber 64 = .ok (.getfield 22, 3) := by decide +kernel
theorem dX1_takeNumber_67 : decode cX1_takeNumber 67 = .ok (.isub, 1) := by decide +kernel
theorem dX1_takeNumber_68 : decode cX1_takeNumber 68 = .ok (.iconst 4, 1) := by decide +kernel
theorem dX1_takeNumber_69 : decode cX1_takeNumber 69 = .ok (.if_icmp .le 8, 3) := by decide +kernel
theorem dX1_takeNumber_72 : decode cX1_takeNumber 72 = .ok (.bipush (-20), 2) := by decide +kernel
theorem dX1_takeNumber_74 : decode cX1_takeNumber 74 = .ok (.goto 4, 3) := by decide +kernel
theorem dX1_takeNumber_77 : decode cX1_takeNumber 77 = .ok (.iload_n 1, 1) := by decide +kernel
theorem dX1_takeNumber_78 : decode cX1_takeNumber 78 = .ok (.ireturn, 1) := by decide +kernel
theorem dX1_takeWord_0 : decode cX1_takeWord 0 = .ok (.aload_n 0, 1) := by decide +kernel
theorem dX1_takeWord_1 : decode cX1_takeWord 1 = .ok (.getfield 19, 3) := by decide +kernel
theorem dX1_takeWord_4 : decode cX1_takeWord 4 = .ok (.aload_n 0, 1) := by decide +kernel
theorem dX1_takeWord_5 : decode cX1_takeWord 5 = .ok (.getfield 9, 3) := by decide +kernel
theorem dX1_takeWord_8 : decode cX1_takeWord 8 = .ok (.if_icmp .ge 31, 3) := by decide +kernel
theorem dX1_takeWord_11 : decode cX1_takeWord 11 = .ok (.aload_n 0, 1) := by decide +kernel
theorem dX1_takeWord_12 : decode cX1_takeWord 12 = .ok (.getfield 15, 3) := by decide +kernel
theorem dX1_takeWord_15 : decode cX1_takeWord 15 = .ok (.aload_n 0, 1) := by decide +kernel
theorem dX1_takeWord_16 : decode cX1_takeWord 16 = .ok (.getfield 19, 3) := by decide +kernel
theorem dX1_takeWord_19 : decode cX1_takeWord 19 = .ok (.iaload, 1) := by decide +kernel
theorem dX1_takeWord_20 : decode cX1_takeWord 20 = .ok (.invokestatic 71, 3) := by decide +kernel
theorem dX1_takeWord_23 : decode cX1_takeWord 23 = .ok (.ifCond .eq 16, 3) := by decide +kernel
theorem dX1_takeWord_26 : decode cX1_takeWord 26 = .ok (.aload_n 0, 1) := by decide +kernel
theorem dX1_takeWord_27 : decode cX1_takeWord 27 = .ok (.dup, 1) := by decide +kernel
theorem dX1_takeWord_28 : decode cX1_takeWord 28 = .ok (.getfield 19, 3) := by decide +kernel
theorem dX1_takeWord_31 : decode cX1_takeWord 31 = .ok (.iconst 1, 1) := by decide +kernel
theorem dX1_takeWord_32 : decode cX1_takeWord 32 = .ok (.iadd, 1) := by decide +kernel
theorem dX1_takeWord_33 : decode cX1_takeWord 33 = .ok (.putfield 19, 3) := by decide +kernel
theorem dX1_takeWord_36 : decode cX1_takeWord 36 = .ok (.goto (-36), 3) := by decide +kernel
theorem dX1_takeWord_39 : decode cX1_takeWord 39 = .ok (.aload_n 0, 1) := by decide +kernel
theorem dX1_takeWord_40 : decode cX1_takeWord 40 = .ok (.ldc 88, 2) := by decide +kernel
theorem dX1_takeWord_42 : decode cX1_takeWord 42 = .ok (.invokevirtual 90, 3) := by decide +kernel
theorem dX1_takeWord_45 : decode cX1_takeWord 45 = .ok (.ifCond .eq 5, 3) := by decide +kernel
theorem dX1_takeWord_48 : decode cX1_takeWord 48 = .ok (.iconst (-1), 1) := by decide +kernel
theorem dX1_takeWord_49 : decode cX1_takeWord 49 = .ok (.ireturn, 1) := by decide +kernel
theorem dX1_takeWord_50 : decode cX1_takeWord 50 = .ok (.aload_n 0, 1) := by decide +kernel
theorem dX1_takeWord_51 : decode cX1_takeWord 51 = .ok (.ldc 94, 2) := by decide +kernel
theorem dX1_takeWord_53 : decode cX1_takeWord 53 = .ok (.invokevirtual 90, 3) := by decide +kernel
theorem dX1_takeWord_56 : decode cX1_takeWord 56 = .ok (.ifCond .eq 6, 3) := by decide +kernel
theorem dX1_takeWord_59 : decode cX1_takeWord 59 = .ok (.bipush (-2), 2) := by decide +kernel
theorem dX1_takeWord_61 : decode cX1_takeWord 61 = .ok (.ireturn, 1) := by decide +kernel
theorem dX1_takeWord_62 : decode cX1_takeWord 62 = .ok (.aload_n 0, 1) := by decide +kernel
theorem dX1_takeWord_63 : decode cX1_takeWord 63 = .ok (.ldc 96, 2) := by decide +kernel
theorem dX1_takeWord_65 : decode cX1_takeWord 65 = .ok (.invokevirtual 90, 3) := by decide +kernel
theorem dX1_takeWord_68 : decode cX1_takeWord 68 = .ok (.ifCond .eq 6, 3) := by decide +kernel
theorem dX1_takeWord_71 : decode cX1_takeWord 71 = .ok (.bipush (-3), 2) := by decide +kernel
theorem dX1_takeWord_73 : decode cX1_takeWord 73 = .ok (.ireturn, 1) := by decide +kernel
theorem dX1_takeWord_74 : decode cX1_takeWord 74 = .ok (.aload_n 0, 1) := by decide +kernel
theorem dX1_takeWord_75 : decode cX1_takeWord 75 = .ok (.ldc 98, 2) := by decide +kernel
theorem dX1_takeWord_77 : decode cX1_takeWord 77 = .ok (.invokevirtual 90, 3) := by decide +kernel
theorem dX1_takeWord_80 : decode cX1_takeWord 80 = .ok (.ifCond .eq 6, 3) := by decide +kernel
theorem dX1_takeWord_83 : decode cX1_takeWord 83 = .ok (.bipush (-4), 2) := by decide +kernel
theorem dX1_takeWord_85 : decode cX1_takeWord 85 = .ok (.ireturn, 1) := by decide +kernel
theorem dX1_takeWord_86 : decode cX1_takeWord 86 = .ok (.aload_n 0, 1) := by decide +kernel
theorem dX1_takeWord_87 : decode cX1_takeWord 87 = .ok (.ldc 100, 2) := by decide +kernel
theorem dX1_takeWord_89 : decode cX1_takeWord 89 = .ok (.invokevirtual 90, 3) := by decide +kernel
theorem dX1_takeWord_92 : decode cX1_takeWord 92 = .ok (.ifCond .eq 6, 3) := by decide +kernel
theorem dX1_takeWord_95 : decode cX1_takeWord 95 = .ok (.bipush (-5), 2) := by decide +kernel
theorem dX1_takeWord_97 : decode cX1_takeWord 97 = .ok (.ireturn, 1) := by decide +kernel
theorem dX1_takeWord_98 : decode cX1_takeWord 98 = .ok (.aload_n 0, 1) := by decide +kernel
theorem dX1_takeWord_99 : decode cX1_takeWord 99 = .ok (.ldc 102, 2) := by decide +kernel
theorem dX1_takeWord_101 : decode cX1_takeWord 101 = .ok (.invokevirtual 90, 3) := by decide +kernel
theorem dX1_takeWord_104 : decode cX1_takeWord 104 = .ok (.ifCond .eq 6, 3) := by decide +kernel
theorem dX1_takeWord_107 : decode cX1_takeWord 107 = .ok (.bipush (-6), 2) := by decide +kernel
theorem dX1_takeWord_109 : decode cX1_takeWord 109 = .ok (.ireturn, 1) := by decide +kernel
theorem dX1_takeWord_110 : decode cX1_takeWord 110 = .ok (.aload_n 0, 1) := by decide +kernel
theorem dX1_takeWord_111 : decode cX1_takeWord 111 = .ok (.ldc 104, 2) := by decide +kernel
theorem dX1_takeWord_113 : decode cX1_takeWord 113 = .ok (.invokevirtual 90, 3) := by decide +kernel
theorem dX1_takeWord_116 : decode cX1_takeWord 116 = .ok (.ifCond .eq 6, 3) := by decide +kernel
theorem dX1_takeWord_119 : decode cX1_takeWord 119 = .ok (.bipush (-7), 2) := by decide +kernel
theorem dX1_takeWord_121 : decode cX1_takeWord 121 = .ok (.ireturn, 1) := by decide +kernel
theorem dX1_takeWord_122 : decode cX1_takeWord 122 = .ok (.aload_n 0, 1) := by decide +kernel
theorem dX1_takeWord_123 : decode cX1_takeWord 123 = .ok (.ldc 106, 2) := by decide +kernel
theorem dX1_takeWord_125 : decode cX1_takeWord 125 = .ok (.invokevirtual 90, 3) := by decide +kernel
theorem dX1_takeWord_128 : decode cX1_takeWord 128 = .ok (.ifCond .eq 6, 3) := by decide +kernel
theorem dX1_takeWord_131 : decode cX1_takeWord 131 = .ok (.bipush (-8), 2) := by decide +kernel
theorem dX1_takeWord_133 : decode cX1_takeWord 133 = .ok (.ireturn, 1) := by decide +kernel
theorem dX1_takeWord_134 : decode cX1_takeWord 134 = .ok (.aload_n 0, 1) := by decide +kernel
theorem dX1_takeWord_135 : decode cX1_takeWord 135 = .ok (.ldc 108, 2) := by decide +kernel
theorem dX1_takeWord_137 : decode cX1_takeWord 137 = .ok (.invokevirtual 90, 3) := by decide +kernel
theorem dX1_takeWord_140 : decode cX1_takeWord 140 = .ok (.ifCond .eq 6, 3) := by decide +kernel
theorem dX1_takeWord_143 : decode cX1_takeWord 143 = .ok (.bipush (-9), 2) := by decide +kernel
theorem dX1_takeWord_145 : decode cX1_takeWord 145 = .ok (.ireturn, 1) := by decide +kernel
theorem dX1_takeWord_146 : decode cX1_takeWord 146 = .ok (.aload_n 0, 1) := by decide +kernel
theorem dX1_takeWord_147 : decode cX1_takeWord 147 = .ok (.ldc 110, 2) := by decide +kernel
theorem dX1_takeWord_149 : decode cX1_takeWord 149 = .ok (.invokevirtual 90, 3) := by decide +kernel
theorem dX1_takeWord_152 : decode cX1_takeWord 152 = .ok (.ifCond .eq 6, 3) := by decide +kernel
theorem dX1_takeWord_155 : decode cX1_takeWord 155 = .ok (.bipush (-21), 2) := by decide +kernel
theorem dX1_takeWord_157 : decode cX1_takeWord 157 = .ok (.ireturn, 1) := by decide +kernel
theorem dX1_takeWord_158 : decode cX1_takeWord 158 = .ok (.aload_n 0, 1) := by decide +kernel
theorem dX1_takeWord_159 : decode cX1_takeWord 159 = .ok (.ldc 112, 2) := by decide +kernel
theorem dX1_takeWord_161 : decode cX1_takeWord 161 = .ok (.invokevirtual 90, 3) := by decide +kernel
theorem dX1_takeWord_164 : decode cX1_takeWord 164 = .ok (.ifCond .eq 6, 3) := by decide +kernel
theorem dX1_takeWord_167 : decode cX1_takeWord 167 = .ok (.bipush (-22), 2) := by decide +kernel
theorem dX1_takeWord_169 : decode cX1_takeWord 169 = .ok (.ireturn, 1) := by decide +kernel
theorem dX1_takeWord_170 : decode cX1_takeWord 170 = .ok (.aload_n 0, 1) := by decide +kernel
theorem dX1_takeWord_171 : decode cX1_takeWord 171 = .ok (.ldc 114, 2) := by decide +kernel
theorem dX1_takeWord_173 : decode cX1_takeWord 173 = .ok (.invokevirtual 90, 3) := by decide +kernel
theorem dX1_takeWord_176 : decode cX1_takeWord 176 = .ok (.ifCond .eq 6, 3) := by decide +kernel
theorem dX1_takeWord_179 : decode cX1_takeWord 179 = .ok (.bipush (-23), 2) := by decide +kernel
theorem dX1_takeWord_181 : decode cX1_takeWord 181 = .ok (.ireturn, 1) := by decide +kernel
theorem dX1_takeWord_182 : decode cX1_takeWord 182 = .ok (.bipush (-20), 2) := by decide +kernel
theorem dX1_takeWord_184 : decode cX1_takeWord 184 = .ok (.ireturn, 1) := by decide +kernel
theorem dX1_spells_0 : decode cX1_spells 0 = .ok (.aload_n 0, 1) := by decide +kernel
theorem dX1_spells_1 : decode cX1_spells 1 = .ok (.getfield 19, 3) := by decide +kernel
theorem dX1_spells_4 : decode cX1_spells 4 = .ok (.aload_n 0, 1) := by decide +kernel
theorem dX1_spells_5 : decode cX1_spells 5 = .ok (.getfield 22, 3) := by decide +kernel
theorem dX1_spells_8 : decode cX1_spells 8 = .ok (.isub, 1) := by decide +kernel
theorem dX1_spells_9 : decode cX1_spells 9 = .ok (.aload_n 1, 1) := by decide +kernel
theorem dX1_spells_10 : decode cX1_spells 10 = .ok (.invokevirtual 116, 3) := by decide +kernel
theorem dX1_spells_13 : decode cX1_spells 13 = .ok (.if_icmp .eq 5, 3) := by decide +kernel
theorem dX1_spells_16 : decode cX1_spells 16 = .ok (.iconst 0, 1) := by decide +kernel
theorem dX1_spells_17 : decode cX1_spells 17 = .ok (.ireturn, 1) := by decide +kernel
theorem dX1_spells_18 : decode cX1_spells 18 = .ok (.iconst 0, 1) := by decide +kernel
theorem dX1_spells_19 : decode cX1_spells 19 = .ok (.istore_n 2, 1) := by decide +kernel
theorem dX1_spells_20 : decode cX1_spells 20 = .ok (.iload_n 2, 1) := by decide +kernel
theorem dX1_spells_21 : decode cX1_spells 21 = .ok (.aload_n 1, 1) := by decide +kernel
theorem dX1_spells_22 : decode cX1_spells 22 = .ok (.invokevirtual 116, 3) := by decide +kernel
theorem dX1_spells_25 : decode cX1_spells 25 = .ok (.if_icmp .ge 30, 3) := by decide +kernel
theorem dX1_spells_28 : decode cX1_spells 28 = .ok (.aload_n 0, 1) := by decide +kernel
theorem dX1_spells_29 : decode cX1_spells 29 = .ok (.getfield 15, 3) := by decide +kernel
theorem dX1_spells_32 : decode cX1_spells 32 = .ok (.aload_n 0, 1) := by decide +kernel
theorem dX1_spells_33 : decode cX1_spells 33 = .ok (.getfield 22, 3) := by decide +kernel
theorem dX1_spells_36 : decode cX1_spells 36 = .ok (.iload_n 2, 1) := by decide +kernel
theorem dX1_spells_37 : decode cX1_spells 37 = .ok (.iadd, 1) := by decide +kernel
theorem dX1_spells_38 : decode cX1_spells 38 = .ok (.iaload, 1) := by decide +kernel
theorem dX1_spells_39 : decode cX1_spells 39 = .ok (.aload_n 1, 1) := by decide +kernel
theorem dX1_spells_40 : decode cX1_spells 40 = .ok (.iload_n 2, 1) := by decide +kernel
theorem dX1_spells_41 : decode cX1_spells 41 = .ok (.invokevirtual 121, 3) := by decide +kernel
theorem dX1_spells_44 : decode cX1_spells 44 = .ok (.if_icmp .eq 5, 3) := by decide +kernel
theorem dX1_spells_47 : decode cX1_spells 47 = .ok (.iconst 0, 1) := by decide +kernel
theorem dX1_spells_48 : decode cX1_spells 48 = .ok (.ireturn, 1) := by decide +kernel
theorem dX1_spells_49 : decode cX1_spells 49 = .ok (.iinc 2 1, 3) := by decide +kernel
theorem dX1_spells_52 : decode cX1_spells 52 = .ok (.goto (-32), 3) := by decide +kernel
theorem dX1_spells_55 : decode cX1_spells 55 = .ok (.iconst 1, 1) := by decide +kernel
theorem dX1_spells_56 : decode cX1_spells 56 = .ok (.ireturn, 1) := by decide +kernel
theorem dX2_init_0 : decode cX2_init 0 = .ok (.aload_n 0, 1) := by decide +kernel
theorem dX2_init_1 : decode cX2_init 1 = .ok (.invokespecial 3, 3) := by decide +kernel
theorem dX2_init_4 : decode cX2_init 4 = .ok (.aload_n 0, 1) := by decide +kernel
theorem dX2_init_5 : decode cX2_init 5 = .ok (.iconst 4, 1) := by decide +kernel
theorem dX2_init_6 : decode cX2_init 6 = .ok (.newarray .int, 2) := by decide +kernel
theorem dX2_init_8 : decode cX2_init 8 = .ok (.dup, 1) := by decide +kernel
theorem dX2_init_9 : decode cX2_init 9 = .ok (.iconst 0, 1) := by decide +kernel
theorem dX2_init_10 : decode cX2_init 10 = .ok (.iconst (-1), 1) := by decide +kernel
theorem dX2_init_11 : decode cX2_init 11 = .ok (.iastore, 1) := by decide +kernel
theorem dX2_init_12 : decode cX2_init 12 = .ok (.dup, 1) := by decide +kernel
theorem dX2_init_13 : decode cX2_init 13 = .ok (.iconst 1, 1) := by decide +kernel
theorem dX2_init_14 : decode cX2_init 14 = .ok (.iconst (-1), 1) := by decide +kernel
theorem dX2_init_15 : decode cX2_init 15 = .ok (.iastore, 1) := by decide +kernel
theorem dX2_init_16 : decode cX2_init 16 = .ok (.dup, 1) := by decide +kernel
theorem dX2_init_17 : decode cX2_init 17 = .ok (.iconst 2, 1) := by decide +kernel
theorem dX2_init_18 : decode cX2_init 18 = .ok (.iconst (-1), 1) := by decide +kernel
theorem dX2_init_19 : decode cX2_init 19 = .ok (.iastore, 1) := by decide +kernel
theorem dX2_init_20 : decode cX2_init 20 = .ok (.dup, 1) := by decide +kernel
theorem dX2_init_21 : decode cX2_init 21 = .ok (.iconst 3, 1) := by decide +kernel
theorem dX2_init_22 : decode cX2_init 22 = .ok (.iconst (-1), 1) := by decide +kernel
theorem dX2_init_23 : decode cX2_init 23 = .ok (.iastore, 1) := by decide +kernel
theorem dX2_init_24 : decode cX2_init 24 = .ok (.putfield 9, 3) := by decide +kernel
theorem dX2_init_27 : decode cX2_init 27 = .ok (.aload_n 0, 1) := by decide +kernel
theorem dX2_init_28 : decode cX2_init 28 = .ok (.iconst 4, 1) := by decide +kernel
theorem dX2_init_29 : decode cX2_init 29 = .ok (.newarray .int, 2) := by decide +kernel
theorem dX2_init_31 : decode cX2_init 31 = .ok (.putfield 15, 3) := by decide +kernel
theorem dX2_init_34 : decode cX2_init 34 = .ok (.aload_n 0, 1) := by decide +kernel
theorem dX2_init_35 : decode cX2_init 35 = .ok (.sipush 160, 3) := by decide +kernel
theorem dX2_init_38 : decode cX2_init 38 = .ok (.newarray .int, 2) := by decide +kernel
theorem dX2_init_40 : decode cX2_init 40 = .ok (.putfield 18, 3) := by decide +kernel
theorem dX2_init_43 : decode cX2_init 43 = .ok (.return_, 1) := by decide +kernel
theorem dX2_sortOf_0 : decode cX2_sortOf 0 = .ok (.iload_n 1, 1) := by decide +kernel
theorem dX2_sortOf_1 : decode cX2_sortOf 1 = .ok (.invokestatic 21, 3) := by decide +kernel
theorem dX2_sortOf_4 : decode cX2_sortOf 4 = .ok (.ifCond .eq 12, 3) := by decide +kernel
theorem dX2_sortOf_7 : decode cX2_sortOf 7 = .ok (.aload_n 0, 1) := by decide +kernel
theorem dX2_sortOf_8 : decode cX2_sortOf 8 = .ok (.getfield 9, 3) := by decide +kernel
theorem dX2_sortOf_11 : decode cX2_sortOf 11 = .ok (.iload_n 1, 1) := by decide +kernel
theorem dX2_sortOf_12 : decode cX2_sortOf 12 = .ok (.iaload, 1) := by decide +kernel
theorem dX2_sortOf_13 : decode cX2_sortOf 13 = .ok (.goto 4, 3) := by decide +kernel
theorem dX2_sortOf_16 : decode cX2_sortOf 16 = .ok (.iconst (-1), 1) := by decide +kernel
theorem dX2_sortOf_17 : decode cX2_sortOf 17 = .ok (.ireturn, 1) := by decide +kernel
theorem dX2_sizeOf_0 : decode cX2_sizeOf 0 = .ok (.iload_n 1, 1) := by decide +kernel
theorem dX2_sizeOf_1 : decode cX2_sizeOf 1 = .ok (.invokestatic 21, 3) := by decide +kernel
theorem dX2_sizeOf_4 : decode cX2_sizeOf 4 = .ok (.ifCond .eq 12, 3) := by decide +kernel
theorem dX2_sizeOf_7 : decode cX2_sizeOf 7 = .ok (.aload_n 0, 1) := by decide +kernel
theorem dX2_sizeOf_8 : decode cX2_sizeOf 8 = .ok (.getfield 15, 3) := by decide +kernel
theorem dX2_sizeOf_11 : decode cX2_sizeOf 11 = .ok (.iload_n 1, 1) := by decide +kernel
theorem dX2_sizeOf_12 : decode cX2_sizeOf 12 = .ok (.iaload, 1) := by decide +kernel
theorem dX2_sizeOf_13 : decode cX2_sizeOf 13 = .ok (.goto 4, 3) := by decide +kernel
theorem dX2_sizeOf_16 : decode cX2_sizeOf 16 = .ok (.iconst 0, 1) := by decide +kernel
theorem dX2_sizeOf_17 : decode cX2_sizeOf 17 = .ok (.ireturn, 1) := by decide +kernel
theorem dX2_remove_0 : decode cX2_remove 0 = .ok (.aload_n 0, 1) := by decide +kernel
theorem dX2_remove_1 : decode cX2_remove 1 = .ok (.iload_n 1, 1) := by decide +kernel
theorem dX2_remove_2 : decode cX2_remove 2 = .ok (.iconst (-1), 1) := by decide +kernel
theorem dX2_remove_3 : decode cX2_remove 3 = .ok (.iconst 0, 1) := by decide +kernel
theorem dX2_remove_4 : decode cX2_remove 4 = .ok (.invokevirtual 25, 3) := by decide +kernel
theorem dX2_remove_7 : decode cX2_remove 7 = .ok (.return_, 1) := by decide +kernel
theorem dX2_make_0 : decode cX2_make 0 = .ok (.iload_n 1, 1) := by decide +kernel
theorem dX2_make_1 : decode cX2_make 1 = .ok (.invokestatic 21, 3) := by decide +kernel
theorem dX2_make_4 : decode cX2_make 4 = .ok (.ifCond .ne 4, 3) := by decide +kernel
theorem dX2_make_7 : decode cX2_make 7 = .ok (.return_, 1) := by decide +kernel
theorem dX2_make_8 : decode cX2_make 8 = .ok (.aload_n 0, 1) := by decide +kernel
theorem dX2_make_9 : decode cX2_make 9 = .ok (.getfield 9, 3) := by decide +kernel
theorem dX2_make_12 : decode cX2_make 12 = .ok (.iload_n 1, 1) := by decide +kernel
theorem dX2_make_13 : decode cX2_make 13 = .ok (.iload_n 2, 1) := by decide +kernel
theorem dX2_make_14 : decode cX2_make 14 = .ok (.iastore, 1) := by decide +kernel
theorem dX2_make_15 : decode cX2_make 15 = .ok (.aload_n 0, 1) := by decide +kernel
theorem dX2_make_16 : decode cX2_make 16 = .ok (.getfield 15, 3) := by decide +kernel
theorem dX2_make_19 : decode cX2_make 19 = .ok (.iload_n 1, 1) := by decide +kernel
theorem dX2_make_20 : decode cX2_make 20 = .ok (.iload_n 3, 1) := by decide +kernel
theorem dX2_make_21 : decode cX2_make 21 = .ok (.bipush 40, 2) := by decide +kernel
theorem dX2_make_23 : decode cX2_make 23 = .ok (.invokestatic 29, 3) := by decide +kernel
theorem dX2_make_26 : decode cX2_make 26 = .ok (.iastore, 1) := by decide +kernel
theorem dX2_make_27 : decode cX2_make 27 = .ok (.iconst 0, 1) := by decide +kernel
theorem dX2_make_28 : decode cX2_make 28 = .ok (.istore 4, 2) := by decide +kernel
theorem dX2_make_30 : decode cX2_make 30 = .ok (.iload 4, 2) := by decide +kernel
theorem dX2_make_32 : decode cX2_make 32 = .ok (.bipush 40, 2) := by decide +kernel
theorem dX2_make_34 : decode cX2_make 34 = .ok (.if_icmp .ge 22, 3) := by decide +kernel
theorem dX2_make_37 : decode cX2_make 37 = .ok (.aload_n 0, 1) := by decide +kernel
theorem dX2_make_38 : decode cX2_make 38 = .ok (.getfield 18, 3) := by decide +kernel
theorem dX2_make_41 : decode cX2_make 41 = .ok (.iload_n 1, 1) := by decide +kernel
theorem dX2_make_42 : decode cX2_make 42 = .ok (.bipush 40, 2) := by decide +kernel
theorem dX2_make_44 : decode cX2_make 44 = .ok (.imul, 1) := by decide +kernel
theorem dX2_make_45 : decode cX2_make 45 = .ok (.iload 4, 2) := by decide +kernel
theorem dX2_make_47 : decode cX2_make 47 = .ok (.iadd, 1) := by decide +kernel
theorem dX2_make_48 : decode cX2_make 48 = .ok (.iconst 0, 1) := by decide +kernel
theorem dX2_make_49 : decode cX2_make 49 = .ok (.iastore, 1) := by decide +kernel
theorem dX2_make_50 : decode cX2_make 50 = .ok (.iinc 4 1, 3) := by decide +kernel
theorem dX2_make_53 : decode cX2_make 53 = .ok (.goto (-23), 3) := by decide +kernel
theorem dX2_make_56 : decode cX2_make 56 = .ok (.return_, 1) := by decide +kernel
theorem dX2_itemOf_0 : decode cX2_itemOf 0 = .ok (.aload_n 0, 1) := by decide +kernel
theorem dX2_itemOf_1 : decode cX2_itemOf 1 = .ok (.iload_n 1, 1) := by decide +kernel
theorem dX2_itemOf_2 : decode cX2_itemOf 2 = .ok (.iload_n 2, 1) := by decide +kernel
theorem dX2_itemOf_3 : decode cX2_itemOf 3 = .ok (.iconst 1, 1) := by decide +kernel
theorem dX2_itemOf_4 : decode cX2_itemOf 4 = .ok (.invokevirtual 33, 3) := by decide +kernel
theorem dX2_itemOf_7 : decode cX2_itemOf 7 = .ok (.ifCond .eq 17, 3) := by decide +kernel
theorem dX2_itemOf_10 : decode cX2_itemOf 10 = .ok (.aload_n 0, 1) := by decide +kernel
theorem dX2_itemOf_11 : decode cX2_itemOf 11 = .ok (.getfield 18, 3) := by decide +kernel
theorem dX2_itemOf_14 : decode cX2_itemOf 14 = .ok (.iload_n 1, 1) := by decide +kernel
theorem dX2_itemOf_15 : decode cX2_itemOf 15 = .ok (.bipush 40, 2) := by decide +kernel
theorem dX2_itemOf_17 : decode cX2_itemOf 17 = .ok (.imul, 1) := by decide +kernel
theorem dX2_itemOf_18 : decode cX2_itemOf 18 = .ok (.iload_n 2, 1) := by decide +kernel
theorem dX2_itemOf_19 : decode cX2_itemOf 19 = .ok (.iadd, 1) := by decide +kernel
theorem dX2_itemOf_20 : decode cX2_itemOf 20 = .ok (.iaload, 1) := by decide +kernel
theorem dX2_itemOf_21 : decode cX2_itemOf 21 = .ok (.goto 4, 3) := by decide +kernel
theorem dX2_itemOf_24 : decode cX2_itemOf 24 = .ok (.iconst 0, 1) := by decide +kernel
theorem dX2_itemOf_25 : decode cX2_itemOf 25 = .ok (.ireturn, 1) := by decide +kernel
theorem dX2_put_0 : decode cX2_put 0 = .ok (.aload_n 0, 1) := by decide +kernel
theorem dX2_put_1 : decode cX2_put 1 = .ok (.iload_n 1, 1) := by decide +kernel
theorem dX2_put_2 : decode cX2_put 2 = .ok (.iload_n 2, 1) := by decide +kernel
theorem dX2_put_3 : decode cX2_put 3 = .ok (.iconst 1, 1) := by decide +kernel
theorem dX2_put_4 : decode cX2_put 4 = .ok (.invokevirtual 33, 3) := by decide +kernel
theorem dX2_put_7 : decode cX2_put 7 = .ok (.ifCond .ne 4, 3) := by decide +kernel
theorem dX2_put_10 : decode cX2_put 10 = .ok (.return_, 1) := by decide +kernel
theorem dX2_put_11 : decode cX2_put 11 = .ok (.aload_n 0, 1) := by decide +kernel
theorem dX2_put_12 : decode cX2_put 12 = .ok (.getfield 9, 3) := by decide +kernel
theorem dX2_put_15 : decode cX2_put 15 = .ok (.iload_n 1, 1) := by decide +kernel
theorem dX2_put_16 : decode cX2_put 16 = .ok (.iaload, 1) := by decide +kernel
theorem dX2_put_17 : decode cX2_put 17 = .ok (.ifCond .ne 8, 3) := by decide +kernel
theorem dX2_put_20 : decode cX2_put 20 = .ok (.iload_n 3, 1) := by decide +kernel
theorem dX2_put_21 : decode cX2_put 21 = .ok (.i2b, 1) := by decide +kernel
theorem dX2_put_22 : decode cX2_put 22 = .ok (.goto 19, 3) := by decide +kernel
theorem dX2_put_25 : decode cX2_put 25 = .ok (.aload_n 0, 1) := by decide +kernel
theorem dX2_put_26 : decode cX2_put 26 = .ok (.getfield 9, 3) := by decide +kernel
theorem dX2_put_29 : decode cX2_put 29 = .ok (.iload_n 1, 1) := by decide +kernel
theorem dX2_put_30 : decode cX2_put 30 = .ok (.iaload, 1) := by decide +kernel
theorem dX2_put_31 : decode cX2_put 31 = .ok (.iconst 1, 1) := by decide +kernel
theorem dX2_put_32 : decode cX2_put 32 = .ok (.if_icmp .ne 8, 3) := by decide +kernel
theorem dX2_put_35 : decode cX2_put 35 = .ok (.iload_n 3, 1) := by decide +kernel
theorem dX2_put_36 : decode cX2_put 36 = .ok (.i2s, 1) := by decide +kernel
theorem dX2_put_37 : decode cX2_put 37 = .ok (.goto 4, 3) := by decide +kernel
theorem dX2_put_40 : decode cX2_put 40 = .ok (.iload_n 3, 1) := by decide +kernel
theorem dX2_put_41 : decode cX2_put 41 = .ok (.istore 4, 2) := by decide +kernel
theorem dX2_put_43 : decode cX2_put 43 = .ok (.aload_n 0, 1) := by decide +kernel
theorem dX2_put_44 : decode cX2_put 44 = .ok (.getfield 18, 3) := by decide +kernel
theorem dX2_put_47 : decode cX2_put 47 = .ok (.iload_n 1, 1) := by decide +kernel
theorem dX2_put_48 : decode cX2_put 48 = .ok (.bipush 40, 2) := by decide +kernel
theorem dX2_put_50 : decode cX2_put 50 = .ok (.imul, 1) := by decide +kernel
theorem dX2_put_51 : decode cX2_put 51 = .ok (.iload_n 2, 1) := by decide +kernel
theorem dX2_put_52 : decode cX2_put 52 = .ok (.iadd, 1) := by decide +kernel
theorem dX2_put_53 : decode cX2_put 53 = .ok (.iload 4, 2) := by decide +kernel
theorem dX2_put_55 : decode cX2_put 55 = .ok (.iastore, 1) := by decide +kernel
theorem dX2_put_56 : decode cX2_put 56 = .ok (.return_, 1) := by decide +kernel
theorem dX2_hasRange_0 : decode cX2_hasRange 0 = .ok (.iload_n 2, 1) := by decide +kernel
theorem dX2_hasRange_1 : decode cX2_hasRange 1 = .ok (.ifCond .lt 31, 3) := by decide +kernel
theorem dX2_hasRange_4 : decode cX2_hasRange 4 = .ok (.iload_n 3, 1) := by decide +kernel
theorem dX2_hasRange_5 : decode cX2_hasRange 5 = .ok (.ifCond .lt 27, 3) := by decide +kernel
theorem dX2_hasRange_8 : decode cX2_hasRange 8 = .ok (.iload_n 2, 1) := by decide +kernel
theorem dX2_hasRange_9 : decode cX2_hasRange 9 = .ok (.aload_n 0, 1) := by decide +kernel
theorem dX2_hasRange_10 : decode cX2_hasRange 10 = .ok (.iload_n 1, 1) := by decide +kernel
theorem dX2_hasRange_11 : decode cX2_hasRange 11 = .ok (.invokevirtual 37, 3) := by decide +kernel
theorem dX2_hasRange_14 : decode cX2_hasRange 14 = .ok (.if_icmp .gt 18, 3) := by decide +kernel
theorem dX2_hasRange_17 : decode cX2_hasRange 17 = .ok (.iload_n 3, 1) := by decide +kernel
theorem dX2_hasRange_18 : decode cX2_hasRange 18 = .ok (.aload_n 0, 1) := by decide +kernel
theorem dX2_hasRange_19 : decode cX2_hasRange 19 = .ok (.iload_n 1, 1) := by decide +kernel
theorem dX2_hasRange_20 : decode cX2_hasRange 20 = .ok (.invokevirtual 37, 3) := by decide +kernel
theorem dX2_hasRange_23 : decode cX2_hasRange 23 = .ok (.iload_n 2, 1) := by decide +kernel
theorem dX2_hasRange_24 : decode cX2_hasRange 24 = .ok (.isub, 1) := by decide +kernel
theorem dX2_hasRange_25 : decode cX2_hasRange 25 = .ok (.if_icmp .gt 7, 3) := by decide +kernel
theorem dX2_hasRange_28 : decode cX2_hasRange 28 = .ok (.iconst 1, 1) := by decide +kernel
theorem dX2_hasRange_29 : decode cX2_hasRange 29 = .ok (.goto 4, 3) := by decide +kernel
theorem dX2_hasRange_32 : decode cX2_hasRange 32 = .ok (.iconst 0, 1) := by decide +kernel
theorem dX2_hasRange_33 : decode cX2_hasRange 33 = .ok (.ireturn, 1) := by decide +kernel
theorem dX2_move_0 : decode cX2_move 0 = .ok (.aload_n 0, 1) := by decide +kernel
theorem dX2_move_1 : decode cX2_move 1 = .ok (.iload_n 1, 1) := by decide +kernel
theorem dX2_move_2 : decode cX2_move 2 = .ok (.iload_n 2, 1) := by decide +kernel
theorem dX2_move_3 : decode cX2_move 3 = .ok (.iload 5, 2) := by decide +kernel
theorem dX2_move_5 : decode cX2_move 5 = .ok (.invokevirtual 33, 3) := by decide +kernel
theorem dX2_move_8 : decode cX2_move 8 = .ok (.ifCond .eq 55, 3) := by decide +kernel
theorem dX2_move_11 : decode cX2_move 11 = .ok (.aload_n 0, 1) := by decide +kernel
theorem dX2_move_12 : decode cX2_move 12 = .ok (.iload_n 3, 1) := by decide +kernel
theorem dX2_move_13 : decode cX2_move 13 = .ok (.iload 4, 2) := by decide +kernel
theorem dX2_move_15 : decode cX2_move 15 = .ok (.iload 5, 2) := by decide +kernel
theorem dX2_move_17 : decode cX2_move 17 = .ok (.invokevirtual 33, 3) := by decide +kernel
theorem dX2_move_20 : decode cX2_move 20 = .ok (.ifCond .eq 43, 3) := by decide +kernel
theorem dX2_move_23 : decode cX2_move 23 = .ok (.iload_n 1, 1) := by decide +kernel
theorem dX2_move_24 : decode cX2_move 24 = .ok (.invokestatic 21, 3) := by decide +kernel
theorem dX2_move_27 : decode cX2_move 27 = .ok (.ifCond .eq 36, 3) := by decide +kernel
theorem dX2_move_30 : decode cX2_move 30 = .ok (.iload_n 3, 1) := by decide +kernel
theorem dX2_move_31 : decode cX2_move 31 = .ok (.invokestatic 21, 3) := by decide +kernel
theorem dX2_move_34 : decode cX2_move 34 = .ok (.ifCond .eq 29, 3) := by decide +kernel
theorem dX2_move_37 : decode cX2_move 37 = .ok (.aload_n 0, 1) := by decide +kernel
theorem dX2_move_38 : decode cX2_move 38 = .ok (.getfield 18, 3) := by decide +kernel
theorem dX2_move_41 : decode cX2_move 41 = .ok (.iload_n 1, 1) := by decide +kernel
theorem dX2_move_42 : decode cX2_move 42 = .ok (.bipush 40, 2) := by decide +kernel
theorem dX2_move_44 : decode cX2_move 44 = .ok (.imul, 1) := by decide +kernel
theorem dX2_move_45 : decode cX2_move 45 = .ok (.iload_n 2, 1) := by decide +kernel
theorem dX2_move_46 : decode cX2_move 46 = .ok (.iadd, 1) := by decide +kernel
theorem dX2_move_47 : decode cX2_move 47 = .ok (.aload_n 0, 1) := by decide +kernel
theorem dX2_move_48 : decode cX2_move 48 = .ok (.getfield 18, 3) := by decide +kernel
theorem dX2_move_51 : decode cX2_move 51 = .ok (.iload_n 3, 1) := by decide +kernel
theorem dX2_move_52 : decode cX2_move 52 = .ok (.bipush 40, 2) := by decide +kernel
theorem dX2_move_54 : decode cX2_move 54 = .ok (.imul, 1) := by decide +kernel
theorem dX2_move_55 : decode cX2_move 55 = .ok (.iload 4, 2) := by decide +kernel
theorem dX2_move_57 : decode cX2_move 57 = .ok (.iadd, 1) := by decide +kernel
theorem dX2_move_58 : decode cX2_move 58 = .ok (.iload 5, 2) := by decide +kernel
theorem dX2_move_60 : decode cX2_move 60 = .ok (.invokestatic 41, 3) := by decide +kernel
theorem dX2_move_63 : decode cX2_move 63 = .ok (.return_, 1) := by decide +kernel
theorem dX3_init_0 : decode cX3_init 0 = .ok (.aload_n 0, 1) := by decide +kernel
theorem dX3_init_1 : decode cX3_init 1 = .ok (.invokespecial 3, 3) := by decide +kernel
theorem dX3_init_4 : decode cX3_init 4 = .ok (.aload_n 0, 1) := by decide +kernel
theorem dX3_init_5 : decode cX3_init 5 = .ok (.iconst 1, 1) := by decide +kernel
theorem dX3_init_6 : decode cX3_init 6 = .ok (.putfield 9, 3) := by decide +kernel
theorem dX3_init_9 : decode cX3_init 9 = .ok (.aload_n 0, 1) := by decide +kernel
theorem dX3_init_10 : decode cX3_init 10 = .ok (.sipush 960, 3) := by decide +kernel
theorem dX3_init_13 : decode cX3_init 13 = .ok (.newarray .int, 2) := by decide +kernel
theorem dX3_init_15 : decode cX3_init 15 = .ok (.putfield 15, 3) := by decide +kernel
theorem dX3_init_18 : decode cX3_init 18 = .ok (.aload_n 0, 1) := by decide +kernel
theorem dX3_init_19 : decode cX3_init 19 = .ok (.bipush 18, 2) := by decide +kernel
theorem dX3_init_21 : decode cX3_init 21 = .ok (.newarray .int, 2) := by decide +kernel
theorem dX3_init_23 : decode cX3_init 23 = .ok (.putfield 19, 3) := by decide +kernel
theorem dX3_init_26 : decode cX3_init 26 = .ok (.aload_n 0, 1) := by decide +kernel
theorem dX3_init_27 : decode cX3_init 27 = .ok (.bipush 6, 2) := by decide +kernel
theorem dX3_init_29 : decode cX3_init 29 = .ok (.newarray .int, 2) := by decide +kernel
theorem dX3_init_31 : decode cX3_init 31 = .ok (.putfield 22, 3) := by decide +kernel
theorem dX3_init_34 : decode cX3_init 34 = .ok (.aload_n 0, 1) := by decide +kernel
theorem dX3_init_35 : decode cX3_init 35 = .ok (.sipush 160, 3) := by decide +kernel
theorem dX3_init_38 : decode cX3_init 38 = .ok (.newarray .int, 2) := by decide +kernel
theorem dX3_init_40 : decode cX3_init 40 = .ok (.putfield 25, 3) := by decide +kernel
theorem dX3_init_43 : decode cX3_init 43 = .ok (.aload_n 0, 1) := by decide +kernel
theorem dX3_init_44 : decode cX3_init 44 = .ok (.iconst 0, 1) := by decide +kernel
theorem dX3_init_45 : decode cX3_init 45 = .ok (.putfield 28, 3) := by decide +kernel
theorem dX3_init_48 : decode cX3_init 48 = .ok (.getstatic 31, 3) := by decide +kernel
theorem dX3_init_51 : decode cX3_init 51 = .ok (.iconst 0, 1) := by decide +kernel
theorem dX3_init_52 : decode cX3_init 52 = .ok (.aload_n 0, 1) := by decide +kernel
theorem dX3_init_53 : decode cX3_init 53 = .ok (.getfield 15, 3) := by decide +kernel
theorem dX3_init_56 : decode cX3_init 56 = .ok (.iconst 0, 1) := by decide +kernel
theorem dX3_init_57 : decode cX3_init 57 = .ok (.getstatic 31, 3) := by decide +kernel
theorem dX3_init_60 : decode cX3_init 60 = .ok (.arraylength, 1) := by decide +kernel
theorem dX3_init_61 : decode cX3_init 61 = .ok (.invokestatic 34, 3) := by decide +kernel
theorem dX3_init_64 : decode cX3_init 64 = .ok (.getstatic 40, 3) := by decide +kernel
theorem dX3_init_67 : decode cX3_init 67 = .ok (.iconst 0, 1) := by decide +kernel
theorem dX3_init_68 : decode cX3_init 68 = .ok (.aload_n 0, 1) := by decide +kernel
theorem dX3_init_69 : decode cX3_init 69 = .ok (.getfield 19, 3) := by decide +kernel
theorem dX3_init_72 : decode cX3_init 72 = .ok (.iconst 0, 1) := by decide +kernel
theorem dX3_init_73 : decode cX3_init 73 = .ok (.iconst 3, 1) := by decide +kernel
theorem dX3_init_74 : decode cX3_init 74 = .ok (.invokestatic 34, 3) := by decide +kernel
theorem dX3_init_77 : decode cX3_init 77 = .ok (.return_, 1) := by decide +kernel
theorem dX3_has_0 : decode cX3_has 0 = .ok (.iload_n 1, 1) := by decide +kernel
theorem dX3_has_1 : decode cX3_has 1 = .ok (.ifCond .lt 15, 3) := by decide +kernel
theorem dX3_has_4 : decode cX3_has 4 = .ok (.iload_n 1, 1) := by decide +kernel
theorem dX3_has_5 : decode cX3_has 5 = .ok (.aload_n 0, 1) := by decide +kernel
theorem dX3_has_6 : decode cX3_has 6 = .ok (.getfield 9, 3) := by decide +kernel
theorem dX3_has_9 : decode cX3_has 9 = .ok (.if_icmp .ge 7, 3) := by decide +kernel
theorem dX3_has_12 : decode cX3_has 12 = .ok (.iconst 1, 1) := by decide +kernel
theorem dX3_has_13 : decode cX3_has 13 = .ok (.goto 4, 3) := by decide +kernel
theorem dX3_has_16 : decode cX3_has 16 = .ok (.iconst 0, 1) := by decide +kernel
theorem dX3_has_17 : decode cX3_has 17 = .ok (.ireturn, 1) := by decide +kernel
theorem dX3_isFull_0 : decode cX3_isFull 0 = .ok (.aload_n 0, 1) := by decide +kernel
theorem dX3_isFull_1 : decode cX3_isFull 1 = .ok (.getfield 9, 3) := by decide +kernel
theorem dX3_isFull_4 : decode cX3_isFull 4 = .ok (.bipush 6, 2) := by decide +kernel
theorem dX3_isFull_6 : decode cX3_isFull 6 = .ok (.if_icmp .lt 7, 3) := by decide +kernel
theorem dX3_isFull_9 : decode cX3_isFull 9 = .ok (.iconst 1, 1) := by decide +kernel
theorem dX3_isFull_10 : decode cX3_isFull 10 = .ok (.goto 4, 3) := by decide +kernel
theorem dX3_isFull_13 : decode cX3_isFull 13 = .ok (.iconst 0, 1) := by decide +kernel
theorem dX3_isFull_14 : decode cX3_isFull 14 = .ok (.ireturn, 1) := by decide +kernel
theorem dX3_begin_0 : decode cX3_begin 0 = .ok (.aload_n 0, 1) := by decide +kernel
theorem dX3_begin_1 : decode cX3_begin 1 = .ok (.aload_n 0, 1) := by decide +kernel
theorem dX3_begin_2 : decode cX3_begin 2 = .ok (.getfield 9, 3) := by decide +kernel
theorem dX3_begin_5 : decode cX3_begin 5 = .ok (.sipush 160, 3) := by decide +kernel
theorem dX3_begin_8 : decode cX3_begin 8 = .ok (.imul, 1) := by decide +kernel
theorem dX3_begin_9 : decode cX3_begin 9 = .ok (.putfield 28, 3) := by decide +kernel
theorem dX3_begin_12 : decode cX3_begin 12 = .ok (.return_, 1) := by decide +kernel
theorem dX3_write_0 : decode cX3_write 0 = .ok (.aload_n 0, 1) := by decide +kernel
theorem dX3_write_1 : decode cX3_write 1 = .ok (.getfield 28, 3) := by decide +kernel
theorem dX3_write_4 : decode cX3_write 4 = .ok (.ifCond .lt 35, 3) := by decide +kernel
theorem dX3_write_7 : decode cX3_write 7 = .ok (.aload_n 0, 1) := by decide +kernel
theorem dX3_write_8 : decode cX3_write 8 = .ok (.getfield 28, 3) := by decide +kernel
theorem dX3_write_11 : decode cX3_write 11 = .ok (.aload_n 0, 1) := by decide +kernel
theorem dX3_write_12 : decode cX3_write 12 = .ok (.getfield 15, 3) := by decide +kernel
theorem dX3_write_15 : decode cX3_write 15 = .ok (.arraylength, 1) := by decide +kernel
theorem dX3_write_16 : decode cX3_write 16 = .ok (.if_icmp .ge 23, 3) := by decide +kernel
theorem dX3_write_19 : decode cX3_write 19 = .ok (.aload_n 0, 1) := by decide +kernel
theorem dX3_write_20 : decode cX3_write 20 = .ok (.getfield 15, 3) := by decide +kernel
theorem dX3_write_23 : decode cX3_write 23 = .ok (.aload_n 0, 1) := by decide +kernel
theorem dX3_write_24 : decode cX3_write 24 = .ok (.getfield 28, 3) := by decide +kernel
theorem dX3_write_27 : decode cX3_write 27 = .ok (.iload_n 1, 1) := by decide +kernel
theorem dX3_write_28 : decode cX3_write 28 = .ok (.iastore, 1) := by decide +kernel
theorem dX3_write_29 : decode cX3_write 29 = .ok (.aload_n 0, 1) := by decide +kernel
theorem dX3_write_30 : decode cX3_write 30 = .ok (.dup, 1) := by decide +kernel
theorem dX3_write_31 : decode cX3_write 31 = .ok (.getfield 28, 3) := by decide +kernel
theorem dX3_write_34 : decode cX3_write 34 = .ok (.iconst 1, 1) := by decide +kernel
theorem dX3_write_35 : decode cX3_write 35 = .ok (.iadd, 1) := by decide +kernel
theorem dX3_write_36 : decode cX3_write 36 = .ok (.putfield 28, 3) := by decide +kernel
theorem dX3_write_39 : decode cX3_write 39 = .ok (.return_, 1) := by decide +kernel
theorem dX3_endPart_0 : decode cX3_endPart 0 = .ok (.aload_n 0, 1) := by decide +kernel
theorem dX3_endPart_1 : decode cX3_endPart 1 = .ok (.getfield 9, 3) := by decide +kernel
theorem dX3_endPart_4 : decode cX3_endPart 4 = .ok (.iconst 3, 1) := by decide +kernel
theorem dX3_endPart_5 : decode cX3_endPart 5 = .ok (.imul, 1) := by decide +kernel
theorem dX3_endPart_6 : decode cX3_endPart 6 = .ok (.iload_n 1, 1) := by decide +kernel
theorem dX3_endPart_7 : decode cX3_endPart 7 = .ok (.iadd, 1) := by decide +kernel
theorem dX3_endPart_8 : decode cX3_endPart 8 = .ok (.istore_n 2, 1) := by decide +kernel
theorem dX3_endPart_9 : decode cX3_endPart 9 = .ok (.iload_n 2, 1) := by decide +kernel
theorem dX3_endPart_10 : decode cX3_endPart 10 = .ok (.ifCond .lt 22, 3) := by decide +kernel
theorem dX3_endPart_13 : decode cX3_endPart 13 = .ok (.iload_n 2, 1) := by decide +kernel
theorem dX3_endPart_14 : decode cX3_endPart 14 = .ok (.aload_n 0, 1) := by decide +kernel
theorem dX3_endPart_15 : decode cX3_endPart 15 = .ok (.getfield 19, 3) := by decide +kernel
theorem dX3_endPart_18 : decode cX3_endPart 18 = .ok (.arraylength, 1) := by decide +kernel
theorem dX3_endPart_19 : decode cX3_endPart 19 = .ok (.if_icmp .ge 13, 3) := by decide +kernel
theorem dX3_endPart_22 : decode cX3_endPart 22 = .ok (.aload_n 0, 1) := by decide +kernel
theorem dX3_endPart_23 : decode cX3_endPart 23 = .ok (.getfield 19, 3) := by decide +kernel
theorem dX3_endPart_26 : decode cX3_endPart 26 = .ok (.iload_n 2, 1) := by decide +kernel
theorem dX3_endPart_27 : decode cX3_endPart 27 = .ok (.aload_n 0, 1) := by decide +kernel
theorem dX3_endPart_28 : decode cX3_endPart 28 = .ok (.getfield 28, 3) := by decide +kernel
theorem dX3_endPart_31 : decode cX3_endPart 31 = .ok (.iastore, 1) := by decide +kernel
theorem dX3_endPart_32 : decode cX3_endPart 32 = .ok (.return_, 1) := by decide +kernel
theorem dX3_keep_0 : decode cX3_keep 0 = .ok (.aload_n 0, 1) := by decide +kernel
theorem dX3_keep_1 : decode cX3_keep 1 = .ok (.dup, 1) := by decide +kernel
theorem dX3_keep_2 : decode cX3_keep 2 = .ok (.getfield 9, 3) := by decide +kernel
theorem dX3_keep_5 : decode cX3_keep 5 = .ok (.iconst 1, 1) := by decide +kernel
theorem dX3_keep_6 : decode cX3_keep 6 = .ok (.iadd, 1) := by decide +kernel
theorem dX3_keep_7 : decode cX3_keep 7 = .ok (.putfield 9, 3) := by decide +kernel
theorem dX3_keep_10 : decode cX3_keep 10 = .ok (.aload_n 0, 1) := by decide +kernel
theorem dX3_keep_11 : decode cX3_keep 11 = .ok (.getfield 9, 3) := by decide +kernel
theorem dX3_keep_14 : decode cX3_keep 14 = .ok (.iconst 1, 1) := by decide +kernel
theorem dX3_keep_15 : decode cX3_keep 15 = .ok (.isub, 1) := by decide +kernel
theorem dX3_keep_16 : decode cX3_keep 16 = .ok (.ireturn, 1) := by decide +kernel
theorem dX3_reckon_0 : decode cX3_reckon 0 = .ok (.aload_n 2, 1) := by decide +kernel
theorem dX3_reckon_1 : decode cX3_reckon 1 = .ok (.getfield 43, 3) := by decide +kernel
theorem dX3_reckon_4 : decode cX3_reckon 4 = .ok (.iconst 3, 1) := by decide +kernel
theorem dX3_reckon_5 : decode cX3_reckon 5 = .ok (.imul, 1) := by decide +kernel
theorem dX3_reckon_6 : decode cX3_reckon 6 = .ok (.iload_n 1, 1) := by decide +kernel
theorem dX3_reckon_7 : decode cX3_reckon 7 = .ok (.iadd, 1) := by decide +kernel
theorem dX3_reckon_8 : decode cX3_reckon 8 = .ok (.istore 5, 2) := by decide +kernel
theorem dX3_reckon_10 : decode cX3_reckon 10 = .ok (.aload_n 0, 1) := by decide +kernel
theorem dX3_reckon_11 : decode cX3_reckon 11 = .ok (.aload_n 2, 1) := by decide +kernel
theorem dX3_reckon_12 : decode cX3_reckon 12 = .ok (.getfield 43, 3) := by decide +kernel
theorem dX3_reckon_15 : decode cX3_reckon 15 = .ok (.invokevirtual 48, 3) := by decide +kernel
theorem dX3_reckon_18 : decode cX3_reckon 18 = .ok (.ifCond .eq 30, 3) := by decide +kernel
theorem dX3_reckon_21 : decode cX3_reckon 21 = .ok (.aload_n 2, 1) := by decide +kernel
theorem dX3_reckon_22 : decode cX3_reckon 22 = .ok (.iload_n 3, 1) := by decide +kernel
theorem dX3_reckon_23 : decode cX3_reckon 23 = .ok (.invokevirtual 52, 3) := by decide +kernel
theorem dX3_reckon_26 : decode cX3_reckon 26 = .ok (.ifCond .eq 22, 3) := by decide +kernel
theorem dX3_reckon_29 : decode cX3_reckon 29 = .ok (.iload_n 1, 1) := by decide +kernel
theorem dX3_reckon_30 : decode cX3_reckon 30 = .ok (.iconst 0, 1) := by decide +kernel
theorem dX3_reckon_31 : decode cX3_reckon 31 = .ok (.iconst 2, 1) := by decide +kernel
theorem dX3_reckon_32 : decode cX3_reckon 32 = .ok (.invokestatic 53, 3) := by decide +kernel
theorem dX3_reckon_35 : decode cX3_reckon 35 = .ok (.ifCond .eq 13, 3) := by decide +kernel
theorem dX3_reckon_38 : decode cX3_reckon 38 = .ok (.iload 5, 2) := by decide +kernel
theorem dX3_reckon_40 : decode cX3_reckon 40 = .ok (.aload_n 0, 1) := by decide +kernel
theorem dX3_reckon_41 : decode cX3_reckon 41 = .ok (.getfield 19, 3) := by decide +kernel
theorem dX3_reckon_44 : decode cX3_reckon 44 = .ok (.arraylength, 1) := by decide +kernel
theorem dX3_reckon_45 : decode cX3_reckon 45 = .ok (.if_icmp .lt 5, 3) := by decide +kernel
theorem dX3_reckon_48 : decode cX3_reckon 48 = .ok (.iconst 0, 1) := by decide +kernel
theorem dX3_reckon_49 : decode cX3_reckon 49 = .ok (.ireturn, 1) := by decide +kernel
theorem dX3_reckon_50 : decode cX3_reckon 50 = .ok (.aload_n 0, 1) := by decide +kernel
theorem dX3_reckon_51 : decode cX3_reckon 51 = .ok (.getfield 22, 3) := by decide +kernel
theorem dX3_reckon_54 : decode cX3_reckon 54 = .ok (.iconst 0, 1) := by decide +kernel
theorem dX3_reckon_55 : decode cX3_reckon 55 = .ok (.aload_n 2, 1) := by decide +kernel
theorem dX3_reckon_56 : decode cX3_reckon 56 = .ok (.getfield 57, 3) := by decide +kernel
theorem dX3_reckon_59 : decode cX3_reckon 59 = .ok (.iload_n 3, 1) := by decide +kernel
theorem dX3_reckon_60 : decode cX3_reckon 60 = .ok (.iaload, 1) := by decide +kernel
theorem dX3_reckon_61 : decode cX3_reckon 61 = .ok (.aload_n 2, 1) := by decide +kernel
theorem dX3_reckon_62 : decode cX3_reckon 62 = .ok (.getfield 60, 3) := by decide +kernel
theorem dX3_reckon_65 : decode cX3_reckon 65 = .ok (.iload_n 3, 1) := by decide +kernel
theorem dX3_reckon_66 : decode cX3_reckon 66 = .ok (.iaload, 1) := by decide +kernel
theorem dX3_reckon_67 : decode cX3_reckon 67 = .ok (.invokestatic 63, 3) := by decide +kernel
theorem dX3_reckon_70 : decode cX3_reckon 70 = .ok (.iastore, 1) := by decide +kernel
theorem dX3_reckon_71 : decode cX3_reckon 71 = .ok (.aload_n 0, 1) := by decide +kernel
theorem dX3_reckon_72 : decode cX3_reckon 72 = .ok (.getfield 22, 3) := by decide +kernel
theorem dX3_reckon_75 : decode cX3_reckon 75 = .ok (.iconst 1, 1) := by decide +kernel
theorem dX3_reckon_76 : decode cX3_reckon 76 = .ok (.iload 4, 2) := by decide +kernel
theorem dX3_reckon_78 : decode cX3_reckon 78 = .ok (.iastore, 1) := by decide +kernel
theorem dX3_reckon_79 : decode cX3_reckon 79 = .ok (.aload_n 0, 1) := by decide +kernel
theorem dX3_reckon_80 : decode cX3_reckon 80 = .ok (.getfield 22, 3) := by decide +kernel
theorem dX3_reckon_83 : decode cX3_reckon 83 = .ok (.iconst 2, 1) := by decide +kernel
theorem dX3_reckon_84 : decode cX3_reckon 84 = .ok (.aload_n 2, 1) := by decide +kernel
theorem dX3_reckon_85 : decode cX3_reckon 85 = .ok (.getfield 67, 3) := by decide +kernel
theorem dX3_reckon_88 : decode cX3_reckon 88 = .ok (.iastore, 1) := by decide +kernel
theorem dX3_reckon_89 : decode cX3_reckon 89 = .ok (.aload_n 0, 1) := by decide +kernel
theorem dX3_reckon_90 : decode cX3_reckon 90 = .ok (.getfield 22, 3) := by decide +kernel
theorem dX3_reckon_93 : decode cX3_reckon 93 = .ok (.iconst 3, 1) := by decide +kernel
theorem dX3_reckon_94 : decode cX3_reckon 94 = .ok (.aload_n 2, 1) := by decide +kernel
theorem dX3_reckon_95 : decode cX3_reckon 95 = .ok (.getfield 70, 3) := by decide +kernel
theorem dX3_reckon_98 : decode cX3_reckon 98 = .ok (.iastore, 1) := by decide +kernel
theorem dX3_reckon_99 : decode cX3_reckon 99 = .ok (.aload_n 0, 1) := by decide +kernel
theorem dX3_reckon_100 : decode cX3_reckon 100 = .ok (.getfield 22, 3) := by decide +kernel
theorem dX3_reckon_103 : decode cX3_reckon 103 = .ok (.iconst 4, 1) := by decide +kernel
theorem dX3_reckon_104 : decode cX3_reckon 104 = .ok (.aload_n 2, 1) := by decide +kernel
theorem dX3_reckon_105 : decode cX3_reckon 105 = .ok (.getfield 73, 3) := by decide +kernel
theorem dX3_reckon_108 : decode cX3_reckon 108 = .ok (.iload_n 3, 1) := by decide +kernel
theorem dX3_reckon_109 : decode cX3_reckon 109 = .ok (.iaload, 1) := by decide +kernel
theorem dX3_reckon_110 : decode cX3_reckon 110 = .ok (.bipush 8, 2) := by decide +kernel
theorem dX3_reckon_112 : decode cX3_reckon 112 = .ok (.idiv, 1) := by decide +kernel
theorem dX3_reckon_113 : decode cX3_reckon 113 = .ok (.iastore, 1) := by decide +kernel
theorem dX3_reckon_114 : decode cX3_reckon 114 = .ok (.aload_n 0, 1) := by decide +kernel
theorem dX3_reckon_115 : decode cX3_reckon 115 = .ok (.getfield 22, 3) := by decide +kernel
theorem dX3_reckon_118 : decode cX3_reckon 118 = .ok (.iconst 5, 1) := by decide +kernel
theorem dX3_reckon_119 : decode cX3_reckon 119 = .ok (.aload_n 2, 1) := by decide +kernel
theorem dX3_reckon_120 : decode cX3_reckon 120 = .ok (.getfield 73, 3) := by decide +kernel
theorem dX3_reckon_123 : decode cX3_reckon 123 = .ok (.iload_n 3, 1) := by decide +kernel
theorem dX3_reckon_124 : decode cX3_reckon 124 = .ok (.iaload, 1) := by decide +kernel
theorem dX3_reckon_125 : decode cX3_reckon 125 = .ok (.bipush 8, 2) := by decide +kernel
theorem dX3_reckon_127 : decode cX3_reckon 127 = .ok (.irem, 1) := by decide +kernel
theorem dX3_reckon_128 : decode cX3_reckon 128 = .ok (.iastore, 1) := by decide +kernel
theorem dX3_reckon_129 : decode cX3_reckon 129 = .ok (.iload_n 1, 1) := by decide +kernel
theorem dX3_reckon_130 : decode cX3_reckon 130 = .ok (.ifCond .ne 14, 3) := by decide +kernel
theorem dX3_reckon_133 : decode cX3_reckon 133 = .ok (.aload_n 2, 1) := by decide +kernel
theorem dX3_reckon_134 : decode cX3_reckon 134 = .ok (.getfield 43, 3) := by decide +kernel
theorem dX3_reckon_137 : decode cX3_reckon 137 = .ok (.sipush 160, 3) := by decide +kernel
theorem dX3_reckon_140 : decode cX3_reckon 140 = .ok (.imul, 1) := by decide +kernel
theorem dX3_reckon_141 : decode cX3_reckon 141 = .ok (.goto 12, 3) := by decide +kernel
theorem dX3_reckon_144 : decode cX3_reckon 144 = .ok (.aload_n 0, 1) := by decide +kernel
theorem dX3_reckon_145 : decode cX3_reckon 145 = .ok (.getfield 19, 3) := by decide +kernel
theorem dX3_reckon_148 : decode cX3_reckon 148 = .ok (.iload 5, 2) := by decide +kernel
theorem dX3_reckon_150 : decode cX3_reckon 150 = .ok (.iconst 1, 1) := by decide +kernel
theorem dX3_reckon_151 : decode cX3_reckon 151 = .ok (.isub, 1) := by decide +kernel
theorem dX3_reckon_152 : decode cX3_reckon 152 = .ok (.iaload, 1) := by decide +kernel
theorem dX3_reckon_153 : decode cX3_reckon 153 = .ok (.istore 6, 2) := by decide +kernel
theorem dX3_reckon_155 : decode cX3_reckon 155 = .ok (.aload_n 0, 1) := by decide +kernel
theorem dX3_reckon_156 : decode cX3_reckon 156 = .ok (.iload 6, 2) := by decide +kernel
theorem dX3_reckon_158 : decode cX3_reckon 158 = .ok (.aload_n 0, 1) := by decide +kernel
theorem dX3_reckon_159 : decode cX3_reckon 159 = .ok (.getfield 19, 3) := by decide +kernel
theorem dX3_reckon_162 : decode cX3_reckon 162 = .ok (.iload 5, 2) := by decide +kernel
theorem dX3_reckon_164 : decode cX3_reckon 164 = .ok (.iaload, 1) := by decide +kernel
theorem dX3_reckon_165 : decode cX3_reckon 165 = .ok (.invokevirtual 76, 3) := by decide +kernel
theorem dX3_reckon_168 : decode cX3_reckon 168 = .ok (.istore 7, 2) := by decide +kernel
theorem dX3_reckon_170 : decode cX3_reckon 170 = .ok (.iload_n 1, 1) := by decide +kernel
theorem dX3_reckon_171 : decode cX3_reckon 171 = .ok (.ifCond .ne 8, 3) := by decide +kernel
theorem dX3_reckon_174 : decode cX3_reckon 174 = .ok (.iload 7, 2) := by decide +kernel
theorem dX3_reckon_176 : decode cX3_reckon 176 = .ok (.goto 10, 3) := by decide +kernel
theorem dX3_reckon_179 : decode cX3_reckon 179 = .ok (.iload 7, 2) := by decide +kernel
theorem dX3_reckon_181 : decode cX3_reckon 181 = .ok (.bipush 99, 2) := by decide +kernel
theorem dX3_reckon_183 : decode cX3_reckon 183 = .ok (.invokestatic 79, 3) := by decide +kernel
theorem dX3_reckon_186 : decode cX3_reckon 186 = .ok (.ireturn, 1) := by decide +kernel
theorem dX3_run_0 : decode cX3_run 0 = .ok (.iconst 0, 1) := by decide +kernel
theorem dX3_run_1 : decode cX3_run 1 = .ok (.istore_n 3, 1) := by decide +kernel
theorem dX3_run_2 : decode cX3_run 2 = .ok (.iload_n 1, 1) := by decide +kernel
theorem dX3_run_3 : decode cX3_run 3 = .ok (.istore 4, 2) := by decide +kernel
theorem dX3_run_5 : decode cX3_run 5 = .ok (.iload 4, 2) := by decide +kernel
theorem dX3_run_7 : decode cX3_run 7 = .ok (.iload_n 2, 1) := by decide +kernel
theorem dX3_run_8 : decode cX3_run 8 = .ok (.if_icmp .ge 153, 3) := by decide +kernel
theorem dX3_run_11 : decode cX3_run 11 = .ok (.iload 4, 2) := by decide +kernel
theorem dX3_run_13 : decode cX3_run 13 = .ok (.aload_n 0, 1) := by decide +kernel
theorem dX3_run_14 : decode cX3_run 14 = .ok (.getfield 15, 3) := by decide +kernel
theorem dX3_run_17 : decode cX3_run 17 = .ok (.arraylength, 1) := by decide +kernel
theorem dX3_run_18 : decode cX3_run 18 = .ok (.if_icmp .ge 143, 3) := by decide +kernel
theorem dX3_run_21 : decode cX3_run 21 = .ok (.aload_n 0, 1) := by decide +kernel
theorem dX3_run_22 : decode cX3_run 22 = .ok (.getfield 15, 3) := by decide +kernel
theorem dX3_run_25 : decode cX3_run 25 = .ok (.iload 4, 2) := by decide +kernel
theorem dX3_run_27 : decode cX3_run 27 = .ok (.iaload, 1) := by decide +kernel
theorem dX3_run_28 : decode cX3_run 28 = .ok (.istore 5, 2) := by decide +kernel
theorem dX3_run_30 : decode cX3_run 30 = .ok (.iload 5, 2) := by decide +kernel
theorem dX3_run_32 : decode cX3_run 32 = .ok (.bipush (-6), 2) := by decide +kernel
theorem dX3_run_34 : decode cX3_run 34 = .ok (.if_icmp .lt 43, 3) := by decide +kernel
theorem dX3_run_37 : decode cX3_run 37 = .ok (.iload_n 3, 1) := by decide +kernel
theorem dX3_run_38 : decode cX3_run 38 = .ok (.aload_n 0, 1) := by decide +kernel
theorem dX3_run_39 : decode cX3_run 39 = .ok (.getfield 25, 3) := by decide +kernel
theorem dX3_run_42 : decode cX3_run 42 = .ok (.arraylength, 1) := by decide +kernel
theorem dX3_run_43 : decode cX3_run 43 = .ok (.if_icmp .ge 112, 3) := by decide +kernel
theorem dX3_run_46 : decode cX3_run 46 = .ok (.aload_n 0, 1) := by decide +kernel
theorem dX3_run_47 : decode cX3_run 47 = .ok (.getfield 25, 3) := by decide +kernel
theorem dX3_run_50 : decode cX3_run 50 = .ok (.iload_n 3, 1) := by decide +kernel
theorem dX3_run_51 : decode cX3_run 51 = .ok (.iload 5, 2) := by decide +kernel
theorem dX3_run_53 : decode cX3_run 53 = .ok (.ifCond .lt 8, 3) := by decide +kernel
theorem dX3_run_56 : decode cX3_run 56 = .ok (.iload 5, 2) := by decide +kernel
theorem dX3_run_58 : decode cX3_run 58 = .ok (.goto 12, 3) := by decide +kernel
theorem dX3_run_61 : decode cX3_run 61 = .ok (.aload_n 0, 1) := by decide +kernel
theorem dX3_run_62 : decode cX3_run 62 = .ok (.getfield 22, 3) := by decide +kernel
theorem dX3_run_65 : decode cX3_run 65 = .ok (.iconst (-1), 1) := by decide +kernel
theorem dX3_run_66 : decode cX3_run 66 = .ok (.iload 5, 2) := by decide +kernel
theorem dX3_run_68 : decode cX3_run 68 = .ok (.isub, 1) := by decide +kernel
theorem dX3_run_69 : decode cX3_run 69 = .ok (.iaload, 1) := by decide +kernel
theorem dX3_run_70 : decode cX3_run 70 = .ok (.iastore, 1) := by decide +kernel
theorem dX3_run_71 : decode cX3_run 71 = .ok (.iinc 3 1, 3) := by decide +kernel
theorem dX3_run_74 : decode cX3_run 74 = .ok (.goto 81, 3) := by decide +kernel
theorem dX3_run_77 : decode cX3_run 77 = .ok (.iload 5, 2) := by decide +kernel
theorem dX3_run_79 : decode cX3_run 79 = .ok (.bipush (-9), 2) := by decide +kernel
theorem dX3_run_81 : decode cX3_run 81 = .ok (.if_icmp .eq 10, 3) := by decide +kernel
theorem dX3_run_84 : decode cX3_run 84 = .ok (.iload 5, 2) := by decide +kernel
theorem dX3_run_86 : decode cX3_run 86 = .ok (.bipush (-15), 2) := by decide +kernel
theorem dX3_run_88 : decode cX3_run 88 = .ok (.if_icmp .ne 32, 3) := by decide +kernel
theorem dX3_run_91 : decode cX3_run 91 = .ok (.iload_n 3, 1) := by decide +kernel
theorem dX3_run_92 : decode cX3_run 92 = .ok (.iconst 1, 1) := by decide +kernel
theorem dX3_run_93 : decode cX3_run 93 = .ok (.if_icmp .lt 62, 3) := by decide +kernel
theorem dX3_run_96 : decode cX3_run 96 = .ok (.aload_n 0, 1) := by decide +kernel
theorem dX3_run_97 : decode cX3_run 97 = .ok (.getfield 25, 3) := by decide +kernel
theorem dX3_run_100 : decode cX3_run 100 = .ok (.iload_n 3, 1) := by decide +kernel
theorem dX3_run_101 : decode cX3_run 101 = .ok (.iconst 1, 1) := by decide +kernel
theorem dX3_run_102 : decode cX3_run 102 = .ok (.isub, 1) := by decide +kernel
theorem dX3_run_103 : decode cX3_run 103 = .ok (.iload 5, 2) := by decide +kernel
theorem dX3_run_105 : decode cX3_run 105 = .ok (.aload_n 0, 1) := by decide +kernel
theorem dX3_run_106 : decode cX3_run 106 = .ok (.getfield 25, 3) := by decide +kernel
theorem dX3_run_109 : decode cX3_run 109 = .ok (.iload_n 3, 1) := by decide +kernel
theorem dX3_run_110 : decode cX3_run 110 = .ok (.iconst 1, 1) := by decide +kernel
theorem dX3_run_111 : decode cX3_run 111 = .ok (.isub, 1) := by decide +kernel
theorem dX3_run_112 : decode cX3_run 112 = .ok (.iaload, 1) := by decide +kernel
theorem dX3_run_113 : decode cX3_run 113 = .ok (.invokestatic 82, 3) := by decide +kernel
theorem dX3_run_116 : decode cX3_run 116 = .ok (.iastore, 1) := by decide +kernel
theorem dX3_run_117 : decode cX3_run 117 = .ok (.goto 38, 3) := by decide +kernel
theorem dX3_run_120 : decode cX3_run 120 = .ok (.iload_n 3, 1) := by decide +kernel
theorem dX3_run_121 : decode cX3_run 121 = .ok (.iconst 2, 1) := by decide +kernel
theorem dX3_run_122 : decode cX3_run 122 = .ok (.if_icmp .lt 33, 3) := by decide +kernel
theorem dX3_run_125 : decode cX3_run 125 = .ok (.iinc 3 (-1), 3) := by decide +kernel
theorem dX3_run_128 : decode cX3_run 128 = .ok (.aload_n 0, 1) := by decide +kernel
theorem dX3_run_129 : decode cX3_run 129 = .ok (.getfield 25, 3) := by decide +kernel
theorem dX3_run_132 : decode cX3_run 132 = .ok (.iload_n 3, 1) := by decide +kernel
theorem dX3_run_133 : decode cX3_run 133 = .ok (.iconst 1, 1) := by decide +kernel
theorem dX3_run_134 : decode cX3_run 134 = .ok (.isub, 1) := by decide +kernel
theorem dX3_run_135 : decode cX3_run 135 = .ok (.iload 5, 2) := by decide +kernel
theorem dX3_run_137 : decode cX3_run 137 = .ok (.aload_n 0, 1) := by decide +kernel
theorem dX3_run_138 : decode cX3_run 138 = .ok (.getfield 25, 3) := by decide +kernel
theorem dX3_run_141 : decode cX3_run 141 = .ok (.iload_n 3, 1) := by decide +kernel
theorem dX3_run_142 : decode cX3_run 142 = .ok (.iconst 1, 1) := by decide +kernel
theorem dX3_run_143 : decode cX3_run 143 = .ok (.isub, 1) := by decide +kernel
theorem dX3_run_144 : decode cX3_run 144 = .ok (.iaload, 1) := by decide +kernel
theorem dX3_run_145 : decode cX3_run 145 = .ok (.aload_n 0, 1) := by decide +kernel
theorem dX3_run_146 : decode cX3_run 146 = .ok (.getfield 25, 3) := by decide +kernel
theorem dX3_run_149 : decode cX3_run 149 = .ok (.iload_n 3, 1) := by decide +kernel
theorem dX3_run_150 : decode cX3_run 150 = .ok (.iaload, 1) := by decide +kernel
theorem dX3_run_151 : decode cX3_run 151 = .ok (.invokestatic 85, 3) := by decide +kernel
theorem dX3_run_154 : decode cX3_run 154 = .ok (.iastore, 1) := by decide +kernel
theorem dX3_run_155 : decode cX3_run 155 = .ok (.iinc 4 1, 3) := by decide +kernel
theorem dX3_run_158 : decode cX3_run 158 = .ok (.goto (-153), 3) := by decide +kernel
theorem dX3_run_161 : decode cX3_run 161 = .ok (.aload_n 0, 1) := by decide +kernel
theorem dX3_run_162 : decode cX3_run 162 = .ok (.getfield 25, 3) := by decide +kernel
theorem dX3_run_165 : decode cX3_run 165 = .ok (.iconst 0, 1) := by decide +kernel
theorem dX3_run_166 : decode cX3_run 166 = .ok (.iaload, 1) := by decide +kernel
theorem dX3_run_167 : decode cX3_run 167 = .ok (.ireturn, 1) := by decide +kernel
theorem dX3_turned_0 : decode cX3_turned 0 = .ok (.iload_n 0, 1) := by decide +kernel
theorem dX3_turned_1 : decode cX3_turned 1 = .ok (.bipush (-15), 2) := by decide +kernel
theorem dX3_turned_3 : decode cX3_turned 3 = .ok (.if_icmp .ne 6, 3) := by decide +kernel
theorem dX3_turned_6 : decode cX3_turned 6 = .ok (.iload_n 1, 1) := by decide +kernel
theorem dX3_turned_7 : decode cX3_turned 7 = .ok (.ineg, 1) := by decide +kernel
theorem dX3_turned_8 : decode cX3_turned 8 = .ok (.ireturn, 1) := by decide +kernel
theorem dX3_turned_9 : decode cX3_turned 9 = .ok (.iload_n 1, 1) := by decide +kernel
theorem dX3_turned_10 : decode cX3_turned 10 = .ok (.ifCond .ne 7, 3) := by decide +kernel
theorem dX3_turned_13 : decode cX3_turned 13 = .ok (.iconst 1, 1) := by decide +kernel
theorem dX3_turned_14 : decode cX3_turned 14 = .ok (.goto 4, 3) := by decide +kernel
theorem dX3_turned_17 : decode cX3_turned 17 = .ok (.iconst 0, 1) := by decide +kernel
theorem dX3_turned_18 : decode cX3_turned 18 = .ok (.ireturn, 1) := by decide +kernel
theorem dX3_joined_0 : decode cX3_joined 0 = .ok (.iload_n 0, 1) := by decide +kernel
theorem dX3_joined_1 : decode cX3_joined 1 = .ok (.tableswitch 101 (-13) (-7) #[97, 93, 82, 71, 101, 57, 43], 43) := by decide +kernel
theorem dX3_joined_44 : decode cX3_joined 44 = .ok (.iload_n 1, 1) := by decide +kernel
theorem dX3_joined_45 : decode cX3_joined 45 = .ok (.ifCond .ne 7, 3) := by decide +kernel
theorem dX3_joined_48 : decode cX3_joined 48 = .ok (.iload_n 2, 1) := by decide +kernel
theorem dX3_joined_49 : decode cX3_joined 49 = .ok (.ifCond .eq 7, 3) := by decide +kernel
theorem dX3_joined_52 : decode cX3_joined 52 = .ok (.iconst 1, 1) := by decide +kernel
theorem dX3_joined_53 : decode cX3_joined 53 = .ok (.goto 4, 3) := by decide +kernel
theorem dX3_joined_56 : decode cX3_joined 56 = .ok (.iconst 0, 1) := by decide +kernel
theorem dX3_joined_57 : decode cX3_joined 57 = .ok (.ireturn, 1) := by decide +kernel
theorem dX3_joined_58 : decode cX3_joined 58 = .ok (.iload_n 1, 1) := by decide +kernel
theorem dX3_joined_59 : decode cX3_joined 59 = .ok (.ifCond .eq 11, 3) := by decide +kernel
theorem dX3_joined_62 : decode cX3_joined 62 = .ok (.iload_n 2, 1) := by decide +kernel
theorem dX3_joined_63 : decode cX3_joined 63 = .ok (.ifCond .eq 7, 3) := by decide +kernel
theorem dX3_joined_66 : decode cX3_joined 66 = .ok (.iconst 1, 1) := by decide +kernel
theorem dX3_joined_67 : decode cX3_joined 67 = .ok (.goto 4, 3) := by decide +kernel
theorem dX3_joined_70 : decode cX3_joined 70 = .ok (.iconst 0, 1) := by decide +kernel
theorem dX3_joined_71 : decode cX3_joined 71 = .ok (.ireturn, 1) := by decide +kernel
theorem dX3_joined_72 : decode cX3_joined 72 = .ok (.iload_n 1, 1) := by decide +kernel
theorem dX3_joined_73 : decode cX3_joined 73 = .ok (.iload_n 2, 1) := by decide +kernel
theorem dX3_joined_74 : decode cX3_joined 74 = .ok (.if_icmp .ge 7, 3) := by decide +kernel
theorem dX3_joined_77 : decode cX3_joined 77 = .ok (.iconst 1, 1) := by decide +kernel
theorem dX3_joined_78 : decode cX3_joined 78 = .ok (.goto 4, 3) := by decide +kernel
theorem dX3_joined_81 : decode cX3_joined 81 = .ok (.iconst 0, 1) := by decide +kernel
theorem dX3_joined_82 : decode cX3_joined 82 = .ok (.ireturn, 1) := by decide +kernel
theorem dX3_joined_83 : decode cX3_joined 83 = .ok (.iload_n 1, 1) := by decide +kernel
theorem dX3_joined_84 : decode cX3_joined 84 = .ok (.iload_n 2, 1) := by decide +kernel
theorem dX3_joined_85 : decode cX3_joined 85 = .ok (.if_icmp .ne 7, 3) := by decide +kernel
theorem dX3_joined_88 : decode cX3_joined 88 = .ok (.iconst 1, 1) := by decide +kernel
theorem dX3_joined_89 : decode cX3_joined 89 = .ok (.goto 4, 3) := by decide +kernel
theorem dX3_joined_92 : decode cX3_joined 92 = .ok (.iconst 0, 1) := by decide +kernel
theorem dX3_joined_93 : decode cX3_joined 93 = .ok (.ireturn, 1) := by decide +kernel
theorem dX3_joined_94 : decode cX3_joined 94 = .ok (.iload_n 1, 1) := by decide +kernel
theorem dX3_joined_95 : decode cX3_joined 95 = .ok (.iload_n 2, 1) := by decide +kernel
theorem dX3_joined_96 : decode cX3_joined 96 = .ok (.iadd, 1) := by decide +kernel
theorem dX3_joined_97 : decode cX3_joined 97 = .ok (.ireturn, 1) := by decide +kernel
theorem dX3_joined_98 : decode cX3_joined 98 = .ok (.iload_n 1, 1) := by decide +kernel
theorem dX3_joined_99 : decode cX3_joined 99 = .ok (.iload_n 2, 1) := by decide +kernel
theorem dX3_joined_100 : decode cX3_joined 100 = .ok (.isub, 1) := by decide +kernel
theorem dX3_joined_101 : decode cX3_joined 101 = .ok (.ireturn, 1) := by decide +kernel
theorem dX3_joined_102 : decode cX3_joined 102 = .ok (.iload_n 1, 1) := by decide +kernel
theorem dX3_joined_103 : decode cX3_joined 103 = .ok (.iload_n 2, 1) := by decide +kernel
theorem dX3_joined_104 : decode cX3_joined 104 = .ok (.imul, 1) := by decide +kernel
theorem dX3_joined_105 : decode cX3_joined 105 = .ok (.ireturn, 1) := by decide +kernel
theorem dX4_init_0 : decode cX4_init 0 = .ok (.aload_n 0, 1) := by decide +kernel
theorem dX4_init_1 : decode cX4_init 1 = .ok (.invokespecial 3, 3) := by decide +kernel
theorem dX4_init_4 : decode cX4_init 4 = .ok (.aload_n 0, 1) := by decide +kernel
theorem dX4_init_5 : decode cX4_init 5 = .ok (.iconst 0, 1) := by decide +kernel
theorem dX4_init_6 : decode cX4_init 6 = .ok (.putfield 9, 3) := by decide +kernel
theorem dX4_init_9 : decode cX4_init 9 = .ok (.aload_n 0, 1) := by decide +kernel
theorem dX4_init_10 : decode cX4_init 10 = .ok (.aload_n 1, 1) := by decide +kernel
theorem dX4_init_11 : decode cX4_init 11 = .ok (.putfield 15, 3) := by decide +kernel
theorem dX4_init_14 : decode cX4_init 14 = .ok (.return_, 1) := by decide +kernel
theorem dX4_walkStrips_0 : decode cX4_walkStrips 0 = .ok (.iconst 0, 1) := by decide +kernel
theorem dX4_walkStrips_1 : decode cX4_walkStrips 1 = .ok (.istore_n 3, 1) := by decide +kernel
theorem dX4_walkStrips_2 : decode cX4_walkStrips 2 = .ok (.aload_n 0, 1) := by decide +kernel
theorem dX4_walkStrips_3 : decode cX4_walkStrips 3 = .ok (.iconst 0, 1) := by decide +kernel
theorem dX4_walkStrips_4 : decode cX4_walkStrips 4 = .ok (.putfield 9, 3) := by decide +kernel
theorem dX4_walkStrips_7 : decode cX4_walkStrips 7 = .ok (.iconst 0, 1) := by decide +kernel
theorem dX4_walkStrips_8 : decode cX4_walkStrips 8 = .ok (.istore 4, 2) := by decide +kernel
theorem dX4_walkStrips_10 : decode cX4_walkStrips 10 = .ok (.iload 4, 2) := by decide +kernel
theorem dX4_walkStrips_12 : decode cX4_walkStrips 12 = .ok (.bipush 6, 2) := by decide +kernel
theorem dX4_walkStrips_14 : decode cX4_walkStrips 14 = .ok (.if_icmp .ge 72, 3) := by decide +kernel
theorem dX4_walkStrips_17 : decode cX4_walkStrips 17 = .ok (.iload_n 2, 1) := by decide +kernel
theorem dX4_walkStrips_18 : decode cX4_walkStrips 18 = .ok (.iload 4, 2) := by decide +kernel
theorem dX4_walkStrips_20 : decode cX4_walkStrips 20 = .ok (.ishr, 1) := by decide +kernel
theorem dX4_walkStrips_21 : decode cX4_walkStrips 21 = .ok (.iconst 1, 1) := by decide +kernel
theorem dX4_walkStrips_22 : decode cX4_walkStrips 22 = .ok (.iand, 1) := by decide +kernel
theorem dX4_walkStrips_23 : decode cX4_walkStrips 23 = .ok (.ifCond .ne 6, 3) := by decide +kernel
theorem dX4_walkStrips_26 : decode cX4_walkStrips 26 = .ok (.goto 54, 3) := by decide +kernel
theorem dX4_walkStrips_29 : decode cX4_walkStrips 29 = .ok (.iconst 0, 1) := by decide +kernel
theorem dX4_walkStrips_30 : decode cX4_walkStrips 30 = .ok (.istore 5, 2) := by decide +kernel
theorem dX4_walkStrips_32 : decode cX4_walkStrips 32 = .ok (.iload 5, 2) := by decide +kernel
theorem dX4_walkStrips_34 : decode cX4_walkStrips 34 = .ok (.bipush 8, 2) := by decide +kernel
theorem dX4_walkStrips_36 : decode cX4_walkStrips 36 = .ok (.if_icmp .ge 44, 3) := by decide +kernel
theorem dX4_walkStrips_39 : decode cX4_walkStrips 39 = .ok (.iload 4, 2) := by decide +kernel
theorem dX4_walkStrips_41 : decode cX4_walkStrips 41 = .ok (.iconst 2, 1) := by decide +kernel
theorem dX4_walkStrips_42 : decode cX4_walkStrips 42 = .ok (.irem, 1) := by decide +kernel
theorem dX4_walkStrips_43 : decode cX4_walkStrips 43 = .ok (.ifCond .ne 8, 3) := by decide +kernel
theorem dX4_walkStrips_46 : decode cX4_walkStrips 46 = .ok (.iload 5, 2) := by decide +kernel
theorem dX4_walkStrips_48 : decode cX4_walkStrips 48 = .ok (.goto 8, 3) := by decide +kernel
theorem dX4_walkStrips_51 : decode cX4_walkStrips 51 = .ok (.bipush 7, 2) := by decide +kernel
theorem dX4_walkStrips_53 : decode cX4_walkStrips 53 = .ok (.iload 5, 2) := by decide +kernel
theorem dX4_walkStrips_55 : decode cX4_walkStrips 55 = .ok (.isub, 1) := by decide +kernel
theorem dX4_walkStrips_56 : decode cX4_walkStrips 56 = .ok (.istore 6, 2) := by decide +kernel
theorem dX4_walkStrips_58 : decode cX4_walkStrips 58 = .ok (.iload_n 3, 1) := by decide +kernel
theorem dX4_walkStrips_59 : decode cX4_walkStrips 59 = .ok (.aload_n 0, 1) := by decide +kernel
theorem dX4_walkStrips_60 : decode cX4_walkStrips 60 = .ok (.aload_n 1, 1) := by decide +kernel
theorem dX4_walkStrips_61 : decode cX4_walkStrips 61 = .ok (.iload 4, 2) := by decide +kernel
theorem dX4_walkStrips_63 : decode cX4_walkStrips 63 = .ok (.bipush 8, 2) := by decide +kernel
theorem dX4_walkStrips_65 : decode cX4_walkStrips 65 = .ok (.imul, 1) := by decide +kernel
theorem dX4_walkStrips_66 : decode cX4_walkStrips 66 = .ok (.iload 6, 2) := by decide +kernel
theorem dX4_walkStrips_68 : decode cX4_walkStrips 68 = .ok (.iadd, 1) := by decide +kernel
theorem dX4_walkStrips_69 : decode cX4_walkStrips 69 = .ok (.invokevirtual 19, 3) := by decide +kernel
theorem dX4_walkStrips_72 : decode cX4_walkStrips 72 = .ok (.iadd, 1) := by decide +kernel
theorem dX4_walkStrips_73 : decode cX4_walkStrips 73 = .ok (.istore_n 3, 1) := by decide +kernel
theorem dX4_walkStrips_74 : decode cX4_walkStrips 74 = .ok (.iinc 5 1, 3) := by decide +kernel
theorem dX4_walkStrips_77 : decode cX4_walkStrips 77 = .ok (.goto (-45), 3) := by decide +kernel
theorem dX4_walkStrips_80 : decode cX4_walkStrips 80 = .ok (.iinc 4 1, 3) := by decide +kernel
theorem dX4_walkStrips_83 : decode cX4_walkStrips 83 = .ok (.goto (-73), 3) := by decide +kernel
theorem dX4_walkStrips_86 : decode cX4_walkStrips 86 = .ok (.iload_n 3, 1) := by decide +kernel
theorem dX4_walkStrips_87 : decode cX4_walkStrips 87 = .ok (.ireturn, 1) := by decide +kernel
theorem dX4_digIn_0 : decode cX4_digIn 0 = .ok (.iconst 0, 1) := by decide +kernel
theorem dX4_digIn_1 : decode cX4_digIn 1 = .ok (.istore_n 3, 1) := by decide +kernel
theorem dX4_digIn_2 : decode cX4_digIn 2 = .ok (.iload_n 3, 1) := by decide +kernel
theorem dX4_digIn_3 : decode cX4_digIn 3 = .ok (.bipush 12, 2) := by decide +kernel
theorem dX4_digIn_5 : decode cX4_digIn 5 = .ok (.if_icmp .ge 101, 3) := by decide +kernel
theorem dX4_digIn_8 : decode cX4_digIn 8 = .ok (.aload_n 0, 1) := by decide +kernel
theorem dX4_digIn_9 : decode cX4_digIn 9 = .ok (.aload_n 1, 1) := by decide +kernel
theorem dX4_digIn_10 : decode cX4_digIn 10 = .ok (.iload_n 2, 1) := by decide +kernel
theorem dX4_digIn_11 : decode cX4_digIn 11 = .ok (.invokevirtual 23, 3) := by decide +kernel
theorem dX4_digIn_14 : decode cX4_digIn 14 = .ok (.istore 4, 2) := by decide +kernel
theorem dX4_digIn_16 : decode cX4_digIn 16 = .ok (.aload_n 1, 1) := by decide +kernel
theorem dX4_digIn_17 : decode cX4_digIn 17 = .ok (.iload 4, 2) := by decide +kernel
theorem dX4_digIn_19 : decode cX4_digIn 19 = .ok (.invokevirtual 26, 3) := by decide +kernel
theorem dX4_digIn_22 : decode cX4_digIn 22 = .ok (.ifCond .eq 15, 3) := by decide +kernel
theorem dX4_digIn_25 : decode cX4_digIn 25 = .ok (.aload_n 1, 1) := by decide +kernel
theorem dX4_digIn_26 : decode cX4_digIn 26 = .ok (.getfield 32, 3) := by decide +kernel
theorem dX4_digIn_29 : decode cX4_digIn 29 = .ok (.iload 4, 2) := by decide +kernel
theorem dX4_digIn_31 : decode cX4_digIn 31 = .ok (.iaload, 1) := by decide +kernel
theorem dX4_digIn_32 : decode cX4_digIn 32 = .ok (.bipush 10, 2) := by decide +kernel
theorem dX4_digIn_34 : decode cX4_digIn 34 = .ok (.if_icmp .le 5, 3) := by decide +kernel
theorem dX4_digIn_37 : decode cX4_digIn 37 = .ok (.iload_n 3, 1) := by decide +kernel
theorem dX4_digIn_38 : decode cX4_digIn 38 = .ok (.ireturn, 1) := by decide +kernel
theorem dX4_digIn_39 : decode cX4_digIn 39 = .ok (.aload_n 1, 1) := by decide +kernel
theorem dX4_digIn_40 : decode cX4_digIn 40 = .ok (.iload 4, 2) := by decide +kernel
theorem dX4_digIn_42 : decode cX4_digIn 42 = .ok (.invokevirtual 36, 3) := by decide +kernel
theorem dX4_digIn_45 : decode cX4_digIn 45 = .ok (.istore 5, 2) := by decide +kernel
theorem dX4_digIn_47 : decode cX4_digIn 47 = .ok (.aload_n 0, 1) := by decide +kernel
theorem dX4_digIn_48 : decode cX4_digIn 48 = .ok (.getfield 15, 3) := by decide +kernel
theorem dX4_digIn_51 : decode cX4_digIn 51 = .ok (.iconst 0, 1) := by decide +kernel
theorem dX4_digIn_52 : decode cX4_digIn 52 = .ok (.aload_n 1, 1) := by decide +kernel
theorem dX4_digIn_53 : decode cX4_digIn 53 = .ok (.iload 4, 2) := by decide +kernel
theorem dX4_digIn_55 : decode cX4_digIn 55 = .ok (.iload 5, 2) := by decide +kernel
theorem dX4_digIn_57 : decode cX4_digIn 57 = .ok (.invokevirtual 40, 3) := by decide +kernel
theorem dX4_digIn_60 : decode cX4_digIn 60 = .ok (.ifCond .ne 5, 3) := by decide +kernel
theorem dX4_digIn_63 : decode cX4_digIn 63 = .ok (.iload_n 3, 1) := by decide +kernel
theorem dX4_digIn_64 : decode cX4_digIn 64 = .ok (.ireturn, 1) := by decide +kernel
theorem dX4_digIn_65 : decode cX4_digIn 65 = .ok (.aload_n 0, 1) := by decide +kernel
theorem dX4_digIn_66 : decode cX4_digIn 66 = .ok (.dup, 1) := by decide +kernel
theorem dX4_digIn_67 : decode cX4_digIn 67 = .ok (.getfield 9, 3) := by decide +kernel
theorem dX4_digIn_70 : decode cX4_digIn 70 = .ok (.aload_n 0, 1) := by decide +kernel
theorem dX4_digIn_71 : decode cX4_digIn 71 = .ok (.getfield 15, 3) := by decide +kernel
theorem dX4_digIn_74 : decode cX4_digIn 74 = .ok (.iconst 2, 1) := by decide +kernel
theorem dX4_digIn_75 : decode cX4_digIn 75 = .ok (.aload_n 1, 1) := by decide +kernel
theorem dX4_digIn_76 : decode cX4_digIn 76 = .ok (.iload 4, 2) := by decide +kernel
theorem dX4_digIn_78 : decode cX4_digIn 78 = .ok (.iload 5, 2) := by decide +kernel
theorem dX4_digIn_80 : decode cX4_digIn 80 = .ok (.invokevirtual 40, 3) := by decide +kernel
theorem dX4_digIn_83 : decode cX4_digIn 83 = .ok (.iadd, 1) := by decide +kernel
theorem dX4_digIn_84 : decode cX4_digIn 84 = .ok (.putfield 9, 3) := by decide +kernel
theorem dX4_digIn_87 : decode cX4_digIn 87 = .ok (.aload_n 1, 1) := by decide +kernel
theorem dX4_digIn_88 : decode cX4_digIn 88 = .ok (.dup, 1) := by decide +kernel
theorem dX4_digIn_89 : decode cX4_digIn 89 = .ok (.getfield 46, 3) := by decide +kernel
theorem dX4_digIn_92 : decode cX4_digIn 92 = .ok (.iconst 1, 1) := by decide +kernel
theorem dX4_digIn_93 : decode cX4_digIn 93 = .ok (.iload 4, 2) := by decide +kernel
theorem dX4_digIn_95 : decode cX4_digIn 95 = .ok (.ishl, 1) := by decide +kernel
theorem dX4_digIn_96 : decode cX4_digIn 96 = .ok (.ior, 1) := by decide +kernel
theorem dX4_digIn_97 : decode cX4_digIn 97 = .ok (.putfield 46, 3) := by decide +kernel
theorem dX4_digIn_100 : decode cX4_digIn 100 = .ok (.iinc 3 1, 3) := by decide +kernel
theorem dX4_digIn_103 : decode cX4_digIn 103 = .ok (.goto (-101), 3) := by decide +kernel
theorem dX4_digIn_106 : decode cX4_digIn 106 = .ok (.bipush 12, 2) := by decide +kernel
theorem dX4_digIn_108 : decode cX4_digIn 108 = .ok (.ireturn, 1) := by decide +kernel
theorem dX4_beepIn_0 : decode cX4_beepIn 0 = .ok (.iconst (-1), 1) := by decide +kernel
theorem dX4_beepIn_1 : decode cX4_beepIn 1 = .ok (.istore_n 3, 1) := by decide +kernel
theorem dX4_beepIn_2 : decode cX4_beepIn 2 = .ok (.iconst (-1), 1) := by decide +kernel
theorem dX4_beepIn_3 : decode cX4_beepIn 3 = .ok (.istore 4, 2) := by decide +kernel
theorem dX4_beepIn_5 : decode cX4_beepIn 5 = .ok (.iconst 0, 1) := by decide +kernel
theorem dX4_beepIn_6 : decode cX4_beepIn 6 = .ok (.istore 5, 2) := by decide +kernel
theorem dX4_beepIn_8 : decode cX4_beepIn 8 = .ok (.iload 5, 2) := by decide +kernel
theorem dX4_beepIn_10 : decode cX4_beepIn 10 = .ok (.aload_n 1, 1) := by decide +kernel
theorem dX4_beepIn_11 : decode cX4_beepIn 11 = .ok (.getfield 49, 3) := by decide +kernel
theorem dX4_beepIn_14 : decode cX4_beepIn 14 = .ok (.if_icmp .ge 72, 3) := by decide +kernel
theorem dX4_beepIn_17 : decode cX4_beepIn 17 = .ok (.aload_n 1, 1) := by decide +kernel
theorem dX4_beepIn_18 : decode cX4_beepIn 18 = .ok (.getfield 52, 3) := by decide +kernel
theorem dX4_beepIn_21 : decode cX4_beepIn 21 = .ok (.iload 5, 2) := by decide +kernel
theorem dX4_beepIn_23 : decode cX4_beepIn 23 = .ok (.iaload, 1) := by decide +kernel
theorem dX4_beepIn_24 : decode cX4_beepIn 24 = .ok (.iload_n 2, 1) := by decide +kernel
theorem dX4_beepIn_25 : decode cX4_beepIn 25 = .ok (.if_icmp .ne 55, 3) := by decide +kernel
theorem dX4_beepIn_28 : decode cX4_beepIn 28 = .ok (.aload_n 1, 1) := by decide +kernel
theorem dX4_beepIn_29 : decode cX4_beepIn 29 = .ok (.iload 5, 2) := by decide +kernel
theorem dX4_beepIn_31 : decode cX4_beepIn 31 = .ok (.invokevirtual 26, 3) := by decide +kernel
theorem dX4_beepIn_34 : decode cX4_beepIn 34 = .ok (.ifCond .ne 6, 3) := by decide +kernel
theorem dX4_beepIn_37 : decode cX4_beepIn 37 = .ok (.goto 43, 3) := by decide +kernel
theorem dX4_beepIn_40 : decode cX4_beepIn 40 = .ok (.aload_n 1, 1) := by decide +kernel
theorem dX4_beepIn_41 : decode cX4_beepIn 41 = .ok (.iload 5, 2) := by decide +kernel
theorem dX4_beepIn_43 : decode cX4_beepIn 43 = .ok (.invokevirtual 36, 3) := by decide +kernel
theorem dX4_beepIn_46 : decode cX4_beepIn 46 = .ok (.istore 6, 2) := by decide +kernel
theorem dX4_beepIn_48 : decode cX4_beepIn 48 = .ok (.iload 6, 2) := by decide +kernel
theorem dX4_beepIn_50 : decode cX4_beepIn 50 = .ok (.iload 4, 2) := by decide +kernel
theorem dX4_beepIn_52 : decode cX4_beepIn 52 = .ok (.if_icmp .le 28, 3) := by decide +kernel
theorem dX4_beepIn_55 : decode cX4_beepIn 55 = .ok (.iload 6, 2) := by decide +kernel
theorem dX4_beepIn_57 : decode cX4_beepIn 57 = .ok (.aload_n 0, 1) := by decide +kernel
theorem dX4_beepIn_58 : decode cX4_beepIn 58 = .ok (.getfield 15, 3) := by decide +kernel
theorem dX4_beepIn_61 : decode cX4_beepIn 61 = .ok (.iconst 1, 1) := by decide +kernel
theorem dX4_beepIn_62 : decode cX4_beepIn 62 = .ok (.aload_n 1, 1) := by decide +kernel
theorem dX4_beepIn_63 : decode cX4_beepIn 63 = .ok (.iload 5, 2) := by decide +kernel
theorem dX4_beepIn_65 : decode cX4_beepIn 65 = .ok (.iload 6, 2) := by decide +kernel
theorem dX4_beepIn_67 : decode cX4_beepIn 67 = .ok (.invokevirtual 40, 3) := by decide +kernel
end
section
theorem dX4_beepIn_70 : decode cX4_beepIn 70 = .ok (.if_icmp .lt 10, 3) := by decide +kernel
theorem dX4_beepIn_73 : decode cX4_beepIn 73 = .ok (.iload 6, 2) := by decide +kernel
theorem dX4_beepIn_75 : decode cX4_beepIn 75 = .ok (.istore 4, 2) := by decide +kernel
theorem dX4_beepIn_77 : decode cX4_beepIn 77 = .ok (.iload 5, 2) := by decide +kernel
theorem dX4_beepIn_79 : decode cX4_beepIn 79 = .ok (.istore_n 3, 1) := by decide +kernel
theorem dX4_beepIn_80 : decode cX4_beepIn 80 = .ok (.iinc 5 1, 3) := by decide +kernel
theorem dX4_beepIn_83 : decode cX4_beepIn 83 = .ok (.goto (-75), 3) := by decide +kernel
theorem dX4_beepIn_86 : decode cX4_beepIn 86 = .ok (.iload_n 3, 1) := by decide +kernel
theorem dX4_beepIn_87 : decode cX4_beepIn 87 = .ok (.ireturn, 1) := by decide +kernel
theorem dX4_dugIfHeard_0 : decode cX4_dugIfHeard 0 = .ok (.iconst 0, 1) := by decide +kernel
theorem dX4_dugIfHeard_1 : decode cX4_dugIfHeard 1 = .ok (.istore_n 2, 1) := by decide +kernel
theorem dX4_dugIfHeard_2 : decode cX4_dugIfHeard 2 = .ok (.iconst 0, 1) := by decide +kernel
theorem dX4_dugIfHeard_3 : decode cX4_dugIfHeard 3 = .ok (.istore_n 3, 1) := by decide +kernel
theorem dX4_dugIfHeard_4 : decode cX4_dugIfHeard 4 = .ok (.iload_n 3, 1) := by decide +kernel
theorem dX4_dugIfHeard_5 : decode cX4_dugIfHeard 5 = .ok (.aload_n 1, 1) := by decide +kernel
theorem dX4_dugIfHeard_6 : decode cX4_dugIfHeard 6 = .ok (.getfield 49, 3) := by decide +kernel
theorem dX4_dugIfHeard_9 : decode cX4_dugIfHeard 9 = .ok (.if_icmp .ge 65, 3) := by decide +kernel
theorem dX4_dugIfHeard_12 : decode cX4_dugIfHeard 12 = .ok (.aload_n 1, 1) := by decide +kernel
theorem dX4_dugIfHeard_13 : decode cX4_dugIfHeard 13 = .ok (.iload_n 3, 1) := by decide +kernel
theorem dX4_dugIfHeard_14 : decode cX4_dugIfHeard 14 = .ok (.invokevirtual 26, 3) := by decide +kernel
theorem dX4_dugIfHeard_17 : decode cX4_dugIfHeard 17 = .ok (.ifCond .ne 6, 3) := by decide +kernel
theorem dX4_dugIfHeard_20 : decode cX4_dugIfHeard 20 = .ok (.goto 48, 3) := by decide +kernel
theorem dX4_dugIfHeard_23 : decode cX4_dugIfHeard 23 = .ok (.aload_n 1, 1) := by decide +kernel
theorem dX4_dugIfHeard_24 : decode cX4_dugIfHeard 24 = .ok (.iload_n 3, 1) := by decide +kernel
theorem dX4_dugIfHeard_25 : decode cX4_dugIfHeard 25 = .ok (.invokevirtual 36, 3) := by decide +kernel
theorem dX4_dugIfHeard_28 : decode cX4_dugIfHeard 28 = .ok (.istore 4, 2) := by decide +kernel
theorem dX4_dugIfHeard_30 : decode cX4_dugIfHeard 30 = .ok (.iload 4, 2) := by decide +kernel
theorem dX4_dugIfHeard_32 : decode cX4_dugIfHeard 32 = .ok (.aload_n 0, 1) := by decide +kernel
theorem dX4_dugIfHeard_33 : decode cX4_dugIfHeard 33 = .ok (.getfield 15, 3) := by decide +kernel
theorem dX4_dugIfHeard_36 : decode cX4_dugIfHeard 36 = .ok (.iconst 1, 1) := by decide +kernel
theorem dX4_dugIfHeard_37 : decode cX4_dugIfHeard 37 = .ok (.aload_n 1, 1) := by decide +kernel
theorem dX4_dugIfHeard_38 : decode cX4_dugIfHeard 38 = .ok (.iload_n 3, 1) := by decide +kernel
theorem dX4_dugIfHeard_39 : decode cX4_dugIfHeard 39 = .ok (.iload 4, 2) := by decide +kernel
theorem dX4_dugIfHeard_41 : decode cX4_dugIfHeard 41 = .ok (.invokevirtual 40, 3) := by decide +kernel
theorem dX4_dugIfHeard_44 : decode cX4_dugIfHeard 44 = .ok (.if_icmp .lt 24, 3) := by decide +kernel
theorem dX4_dugIfHeard_47 : decode cX4_dugIfHeard 47 = .ok (.aload_n 0, 1) := by decide +kernel
theorem dX4_dugIfHeard_48 : decode cX4_dugIfHeard 48 = .ok (.getfield 15, 3) := by decide +kernel
theorem dX4_dugIfHeard_51 : decode cX4_dugIfHeard 51 = .ok (.iconst 0, 1) := by decide +kernel
theorem dX4_dugIfHeard_52 : decode cX4_dugIfHeard 52 = .ok (.aload_n 1, 1) := by decide +kernel
theorem dX4_dugIfHeard_53 : decode cX4_dugIfHeard 53 = .ok (.iload_n 3, 1) := by decide +kernel
theorem dX4_dugIfHeard_54 : decode cX4_dugIfHeard 54 = .ok (.iload 4, 2) := by decide +kernel
theorem dX4_dugIfHeard_56 : decode cX4_dugIfHeard 56 = .ok (.invokevirtual 40, 3) := by decide +kernel
theorem dX4_dugIfHeard_59 : decode cX4_dugIfHeard 59 = .ok (.ifCond .eq 9, 3) := by decide +kernel
theorem dX4_dugIfHeard_62 : decode cX4_dugIfHeard 62 = .ok (.iload_n 2, 1) := by decide +kernel
theorem dX4_dugIfHeard_63 : decode cX4_dugIfHeard 63 = .ok (.iconst 1, 1) := by decide +kernel
theorem dX4_dugIfHeard_64 : decode cX4_dugIfHeard 64 = .ok (.iload_n 3, 1) := by decide +kernel
theorem dX4_dugIfHeard_65 : decode cX4_dugIfHeard 65 = .ok (.ishl, 1) := by decide +kernel
theorem dX4_dugIfHeard_66 : decode cX4_dugIfHeard 66 = .ok (.ior, 1) := by decide +kernel
theorem dX4_dugIfHeard_67 : decode cX4_dugIfHeard 67 = .ok (.istore_n 2, 1) := by decide +kernel
theorem dX4_dugIfHeard_68 : decode cX4_dugIfHeard 68 = .ok (.iinc 3 1, 3) := by decide +kernel
theorem dX4_dugIfHeard_71 : decode cX4_dugIfHeard 71 = .ok (.goto (-67), 3) := by decide +kernel
theorem dX4_dugIfHeard_74 : decode cX4_dugIfHeard 74 = .ok (.iload_n 2, 1) := by decide +kernel
theorem dX4_dugIfHeard_75 : decode cX4_dugIfHeard 75 = .ok (.ireturn, 1) := by decide +kernel
theorem dX5_init_0 : decode cX5_init 0 = .ok (.aload_n 0, 1) := by decide +kernel
theorem dX5_init_1 : decode cX5_init 1 = .ok (.invokespecial 3, 3) := by decide +kernel
theorem dX5_init_4 : decode cX5_init 4 = .ok (.aload_n 0, 1) := by decide +kernel
theorem dX5_init_5 : decode cX5_init 5 = .ok (.new 9, 3) := by decide +kernel
theorem dX5_init_8 : decode cX5_init 8 = .ok (.dup, 1) := by decide +kernel
theorem dX5_init_9 : decode cX5_init 9 = .ok (.invokespecial 11, 3) := by decide +kernel
theorem dX5_init_12 : decode cX5_init 12 = .ok (.putfield 12, 3) := by decide +kernel
theorem dX5_init_15 : decode cX5_init 15 = .ok (.aload_n 0, 1) := by decide +kernel
theorem dX5_init_16 : decode cX5_init 16 = .ok (.new 9, 3) := by decide +kernel
theorem dX5_init_19 : decode cX5_init 19 = .ok (.dup, 1) := by decide +kernel
theorem dX5_init_20 : decode cX5_init 20 = .ok (.invokespecial 11, 3) := by decide +kernel
theorem dX5_init_23 : decode cX5_init 23 = .ok (.putfield 16, 3) := by decide +kernel
theorem dX5_init_26 : decode cX5_init 26 = .ok (.aload_n 0, 1) := by decide +kernel
theorem dX5_init_27 : decode cX5_init 27 = .ok (.new 9, 3) := by decide +kernel
theorem dX5_init_30 : decode cX5_init 30 = .ok (.dup, 1) := by decide +kernel
theorem dX5_init_31 : decode cX5_init 31 = .ok (.invokespecial 11, 3) := by decide +kernel
theorem dX5_init_34 : decode cX5_init 34 = .ok (.putfield 19, 3) := by decide +kernel
theorem dX5_init_37 : decode cX5_init 37 = .ok (.aload_n 0, 1) := by decide +kernel
theorem dX5_init_38 : decode cX5_init 38 = .ok (.new 9, 3) := by decide +kernel
theorem dX5_init_41 : decode cX5_init 41 = .ok (.dup, 1) := by decide +kernel
theorem dX5_init_42 : decode cX5_init 42 = .ok (.invokespecial 11, 3) := by decide +kernel
theorem dX5_init_45 : decode cX5_init 45 = .ok (.putfield 22, 3) := by decide +kernel
theorem dX5_init_48 : decode cX5_init 48 = .ok (.aload_n 0, 1) := by decide +kernel
theorem dX5_init_49 : decode cX5_init 49 = .ok (.new 25, 3) := by decide +kernel
theorem dX5_init_52 : decode cX5_init 52 = .ok (.dup, 1) := by decide +kernel
theorem dX5_init_53 : decode cX5_init 53 = .ok (.invokespecial 27, 3) := by decide +kernel
theorem dX5_init_56 : decode cX5_init 56 = .ok (.putfield 28, 3) := by decide +kernel
theorem dX5_init_59 : decode cX5_init 59 = .ok (.aload_n 0, 1) := by decide +kernel
theorem dX5_init_60 : decode cX5_init 60 = .ok (.new 32, 3) := by decide +kernel
theorem dX5_init_63 : decode cX5_init 63 = .ok (.dup, 1) := by decide +kernel
theorem dX5_init_64 : decode cX5_init 64 = .ok (.aload_n 0, 1) := by decide +kernel
theorem dX5_init_65 : decode cX5_init 65 = .ok (.getfield 28, 3) := by decide +kernel
theorem dX5_init_68 : decode cX5_init 68 = .ok (.invokespecial 34, 3) := by decide +kernel
theorem dX5_init_71 : decode cX5_init 71 = .ok (.putfield 37, 3) := by decide +kernel
theorem dX5_init_74 : decode cX5_init 74 = .ok (.aload_n 0, 1) := by decide +kernel
theorem dX5_init_75 : decode cX5_init 75 = .ok (.new 41, 3) := by decide +kernel
theorem dX5_init_78 : decode cX5_init 78 = .ok (.dup, 1) := by decide +kernel
theorem dX5_init_79 : decode cX5_init 79 = .ok (.aload_n 0, 1) := by decide +kernel
theorem dX5_init_80 : decode cX5_init 80 = .ok (.getfield 28, 3) := by decide +kernel
theorem dX5_init_83 : decode cX5_init 83 = .ok (.invokespecial 43, 3) := by decide +kernel
theorem dX5_init_86 : decode cX5_init 86 = .ok (.putfield 44, 3) := by decide +kernel
theorem dX5_init_89 : decode cX5_init 89 = .ok (.aload_n 0, 1) := by decide +kernel
theorem dX5_init_90 : decode cX5_init 90 = .ok (.new 48, 3) := by decide +kernel
theorem dX5_init_93 : decode cX5_init 93 = .ok (.dup, 1) := by decide +kernel
theorem dX5_init_94 : decode cX5_init 94 = .ok (.invokespecial 50, 3) := by decide +kernel
theorem dX5_init_97 : decode cX5_init 97 = .ok (.putfield 51, 3) := by decide +kernel
theorem dX5_init_100 : decode cX5_init 100 = .ok (.aload_n 0, 1) := by decide +kernel
theorem dX5_init_101 : decode cX5_init 101 = .ok (.iconst 0, 1) := by decide +kernel
theorem dX5_init_102 : decode cX5_init 102 = .ok (.putfield 55, 3) := by decide +kernel
theorem dX5_init_105 : decode cX5_init 105 = .ok (.return_, 1) := by decide +kernel
theorem dX5_find_0 : decode cX5_find 0 = .ok (.iload_n 1, 1) := by decide +kernel
theorem dX5_find_1 : decode cX5_find 1 = .ok (.iconst 0, 1) := by decide +kernel
theorem dX5_find_2 : decode cX5_find 2 = .ok (.iconst 5, 1) := by decide +kernel
theorem dX5_find_3 : decode cX5_find 3 = .ok (.invokestatic 59, 3) := by decide +kernel
theorem dX5_find_6 : decode cX5_find 6 = .ok (.ifCond .eq 14, 3) := by decide +kernel
theorem dX5_find_9 : decode cX5_find 9 = .ok (.iload_n 2, 1) := by decide +kernel
theorem dX5_find_10 : decode cX5_find 10 = .ok (.invokestatic 63, 3) := by decide +kernel
theorem dX5_find_13 : decode cX5_find 13 = .ok (.ifCond .eq 7, 3) := by decide +kernel
theorem dX5_find_16 : decode cX5_find 16 = .ok (.iload_n 3, 1) := by decide +kernel
theorem dX5_find_17 : decode cX5_find 17 = .ok (.ifCond .ge 6, 3) := by decide +kernel
theorem dX5_find_20 : decode cX5_find 20 = .ok (.bipush (-2), 2) := by decide +kernel
theorem dX5_find_22 : decode cX5_find 22 = .ok (.ireturn, 1) := by decide +kernel
theorem dX5_find_23 : decode cX5_find 23 = .ok (.iload_n 3, 1) := by decide +kernel
theorem dX5_find_24 : decode cX5_find 24 = .ok (.bipush 10, 2) := by decide +kernel
theorem dX5_find_26 : decode cX5_find 26 = .ok (.idiv, 1) := by decide +kernel
theorem dX5_find_27 : decode cX5_find 27 = .ok (.istore 4, 2) := by decide +kernel
theorem dX5_find_29 : decode cX5_find 29 = .ok (.iload_n 3, 1) := by decide +kernel
theorem dX5_find_30 : decode cX5_find 30 = .ok (.bipush 10, 2) := by decide +kernel
theorem dX5_find_32 : decode cX5_find 32 = .ok (.irem, 1) := by decide +kernel
theorem dX5_find_33 : decode cX5_find 33 = .ok (.istore 5, 2) := by decide +kernel
theorem dX5_find_35 : decode cX5_find 35 = .ok (.iload 4, 2) := by decide +kernel
theorem dX5_find_37 : decode cX5_find 37 = .ok (.bipush 20, 2) := by decide +kernel
theorem dX5_find_39 : decode cX5_find 39 = .ok (.if_icmp .gt 8, 3) := by decide +kernel
theorem dX5_find_42 : decode cX5_find 42 = .ok (.iload 5, 2) := by decide +kernel
theorem dX5_find_44 : decode cX5_find 44 = .ok (.ifCond .ne 6, 3) := by decide +kernel
theorem dX5_find_47 : decode cX5_find 47 = .ok (.bipush (-2), 2) := by decide +kernel
theorem dX5_find_49 : decode cX5_find 49 = .ok (.ireturn, 1) := by decide +kernel
theorem dX5_find_50 : decode cX5_find 50 = .ok (.aload_n 0, 1) := by decide +kernel
theorem dX5_find_51 : decode cX5_find 51 = .ok (.getfield 12, 3) := by decide +kernel
theorem dX5_find_54 : decode cX5_find 54 = .ok (.iload_n 1, 1) := by decide +kernel
theorem dX5_find_55 : decode cX5_find 55 = .ok (.iload_n 2, 1) := by decide +kernel
theorem dX5_find_56 : decode cX5_find 56 = .ok (.iload 4, 2) := by decide +kernel
theorem dX5_find_58 : decode cX5_find 58 = .ok (.iload 5, 2) := by decide +kernel
theorem dX5_find_60 : decode cX5_find 60 = .ok (.invokevirtual 67, 3) := by decide +kernel
theorem dX5_find_63 : decode cX5_find 63 = .ok (.ireturn, 1) := by decide +kernel
theorem dX5_set_0 : decode cX5_set 0 = .ok (.iload_n 1, 1) := by decide +kernel
theorem dX5_set_1 : decode cX5_set 1 = .ok (.tableswitch 107 0 4 #[35, 41, 47, 65, 86], 35) := by decide +kernel
theorem dX5_set_36 : decode cX5_set 36 = .ok (.aload_n 0, 1) := by decide +kernel
theorem dX5_set_37 : decode cX5_set 37 = .ok (.iload_n 3, 1) := by decide +kernel
theorem dX5_set_38 : decode cX5_set 38 = .ok (.invokevirtual 71, 3) := by decide +kernel
theorem dX5_set_41 : decode cX5_set 41 = .ok (.ireturn, 1) := by decide +kernel
theorem dX5_set_42 : decode cX5_set 42 = .ok (.aload_n 0, 1) := by decide +kernel
theorem dX5_set_43 : decode cX5_set 43 = .ok (.iload_n 3, 1) := by decide +kernel
theorem dX5_set_44 : decode cX5_set 44 = .ok (.invokevirtual 75, 3) := by decide +kernel
theorem dX5_set_47 : decode cX5_set 47 = .ok (.ireturn, 1) := by decide +kernel
theorem dX5_set_48 : decode cX5_set 48 = .ok (.aload_n 0, 1) := by decide +kernel
theorem dX5_set_49 : decode cX5_set 49 = .ok (.aload_n 0, 1) := by decide +kernel
theorem dX5_set_50 : decode cX5_set 50 = .ok (.getfield 12, 3) := by decide +kernel
theorem dX5_set_53 : decode cX5_set 53 = .ok (.getfield 78, 3) := by decide +kernel
theorem dX5_set_56 : decode cX5_set 56 = .ok (.iload_n 2, 1) := by decide +kernel
theorem dX5_set_57 : decode cX5_set 57 = .ok (.iload_n 3, 1) := by decide +kernel
theorem dX5_set_58 : decode cX5_set 58 = .ok (.iload_n 3, 1) := by decide +kernel
theorem dX5_set_59 : decode cX5_set 59 = .ok (.invokestatic 63, 3) := by decide +kernel
theorem dX5_set_62 : decode cX5_set 62 = .ok (.invokevirtual 82, 3) := by decide +kernel
theorem dX5_set_65 : decode cX5_set 65 = .ok (.ireturn, 1) := by decide +kernel
theorem dX5_set_66 : decode cX5_set 66 = .ok (.aload_n 0, 1) := by decide +kernel
theorem dX5_set_67 : decode cX5_set 67 = .ok (.aload_n 0, 1) := by decide +kernel
theorem dX5_set_68 : decode cX5_set 68 = .ok (.getfield 12, 3) := by decide +kernel
theorem dX5_set_71 : decode cX5_set 71 = .ok (.getfield 86, 3) := by decide +kernel
theorem dX5_set_74 : decode cX5_set 74 = .ok (.iload_n 2, 1) := by decide +kernel
theorem dX5_set_75 : decode cX5_set 75 = .ok (.iload_n 3, 1) := by decide +kernel
theorem dX5_set_76 : decode cX5_set 76 = .ok (.iload_n 3, 1) := by decide +kernel
theorem dX5_set_77 : decode cX5_set 77 = .ok (.iconst 0, 1) := by decide +kernel
theorem dX5_set_78 : decode cX5_set 78 = .ok (.bipush 20, 2) := by decide +kernel
theorem dX5_set_80 : decode cX5_set 80 = .ok (.invokestatic 59, 3) := by decide +kernel
theorem dX5_set_83 : decode cX5_set 83 = .ok (.invokevirtual 82, 3) := by decide +kernel
theorem dX5_set_86 : decode cX5_set 86 = .ok (.ireturn, 1) := by decide +kernel
theorem dX5_set_87 : decode cX5_set 87 = .ok (.aload_n 0, 1) := by decide +kernel
theorem dX5_set_88 : decode cX5_set 88 = .ok (.aload_n 0, 1) := by decide +kernel
theorem dX5_set_89 : decode cX5_set 89 = .ok (.getfield 12, 3) := by decide +kernel
theorem dX5_set_92 : decode cX5_set 92 = .ok (.getfield 89, 3) := by decide +kernel
theorem dX5_set_95 : decode cX5_set 95 = .ok (.iload_n 2, 1) := by decide +kernel
theorem dX5_set_96 : decode cX5_set 96 = .ok (.iload_n 3, 1) := by decide +kernel
theorem dX5_set_97 : decode cX5_set 97 = .ok (.iload_n 3, 1) := by decide +kernel
theorem dX5_set_98 : decode cX5_set 98 = .ok (.iconst 1, 1) := by decide +kernel
theorem dX5_set_99 : decode cX5_set 99 = .ok (.bipush 9, 2) := by decide +kernel
theorem dX5_set_101 : decode cX5_set 101 = .ok (.invokestatic 59, 3) := by decide +kernel
theorem dX5_set_104 : decode cX5_set 104 = .ok (.invokevirtual 82, 3) := by decide +kernel
theorem dX5_set_107 : decode cX5_set 107 = .ok (.ireturn, 1) := by decide +kernel
theorem dX5_set_108 : decode cX5_set 108 = .ok (.bipush (-2), 2) := by decide +kernel
theorem dX5_set_110 : decode cX5_set 110 = .ok (.ireturn, 1) := by decide +kernel
theorem dX5_changeWet_0 : decode cX5_changeWet 0 = .ok (.iload_n 1, 1) := by decide +kernel
theorem dX5_changeWet_1 : decode cX5_changeWet 1 = .ok (.iconst 0, 1) := by decide +kernel
theorem dX5_changeWet_2 : decode cX5_changeWet 2 = .ok (.bipush 9, 2) := by decide +kernel
theorem dX5_changeWet_4 : decode cX5_changeWet 4 = .ok (.invokestatic 59, 3) := by decide +kernel
theorem dX5_changeWet_7 : decode cX5_changeWet 7 = .ok (.ifCond .ne 6, 3) := by decide +kernel
theorem dX5_changeWet_10 : decode cX5_changeWet 10 = .ok (.bipush (-2), 2) := by decide +kernel
theorem dX5_changeWet_12 : decode cX5_changeWet 12 = .ok (.ireturn, 1) := by decide +kernel
theorem dX5_changeWet_13 : decode cX5_changeWet 13 = .ok (.aload_n 0, 1) := by decide +kernel
theorem dX5_changeWet_14 : decode cX5_changeWet 14 = .ok (.getfield 12, 3) := by decide +kernel
theorem dX5_changeWet_17 : decode cX5_changeWet 17 = .ok (.getfield 92, 3) := by decide +kernel
theorem dX5_changeWet_20 : decode cX5_changeWet 20 = .ok (.istore_n 2, 1) := by decide +kernel
theorem dX5_changeWet_21 : decode cX5_changeWet 21 = .ok (.aload_n 0, 1) := by decide +kernel
theorem dX5_changeWet_22 : decode cX5_changeWet 22 = .ok (.getfield 12, 3) := by decide +kernel
theorem dX5_changeWet_25 : decode cX5_changeWet 25 = .ok (.iload_n 1, 1) := by decide +kernel
theorem dX5_changeWet_26 : decode cX5_changeWet 26 = .ok (.putfield 92, 3) := by decide +kernel
theorem dX5_changeWet_29 : decode cX5_changeWet 29 = .ok (.iload_n 2, 1) := by decide +kernel
theorem dX5_changeWet_30 : decode cX5_changeWet 30 = .ok (.ireturn, 1) := by decide +kernel
theorem dX5_changePlate_0 : decode cX5_changePlate 0 = .ok (.iload_n 1, 1) := by decide +kernel
theorem dX5_changePlate_1 : decode cX5_changePlate 1 = .ok (.iconst 1, 1) := by decide +kernel
theorem dX5_changePlate_2 : decode cX5_changePlate 2 = .ok (.bipush 9, 2) := by decide +kernel
theorem dX5_changePlate_4 : decode cX5_changePlate 4 = .ok (.invokestatic 59, 3) := by decide +kernel
theorem dX5_changePlate_7 : decode cX5_changePlate 7 = .ok (.ifCond .ne 6, 3) := by decide +kernel
theorem dX5_changePlate_10 : decode cX5_changePlate 10 = .ok (.bipush (-2), 2) := by decide +kernel
theorem dX5_changePlate_12 : decode cX5_changePlate 12 = .ok (.ireturn, 1) := by decide +kernel
theorem dX5_changePlate_13 : decode cX5_changePlate 13 = .ok (.aload_n 0, 1) := by decide +kernel
theorem dX5_changePlate_14 : decode cX5_changePlate 14 = .ok (.getfield 12, 3) := by decide +kernel
theorem dX5_changePlate_17 : decode cX5_changePlate 17 = .ok (.getfield 96, 3) := by decide +kernel
theorem dX5_changePlate_20 : decode cX5_changePlate 20 = .ok (.istore_n 2, 1) := by decide +kernel
theorem dX5_changePlate_21 : decode cX5_changePlate 21 = .ok (.aload_n 0, 1) := by decide +kernel
theorem dX5_changePlate_22 : decode cX5_changePlate 22 = .ok (.getfield 12, 3) := by decide +kernel
theorem dX5_changePlate_25 : decode cX5_changePlate 25 = .ok (.iload_n 1, 1) := by decide +kernel
theorem dX5_changePlate_26 : decode cX5_changePlate 26 = .ok (.putfield 96, 3) := by decide +kernel
theorem dX5_changePlate_29 : decode cX5_changePlate 29 = .ok (.iload_n 2, 1) := by decide +kernel
theorem dX5_changePlate_30 : decode cX5_changePlate 30 = .ok (.ireturn, 1) := by decide +kernel
theorem dX5_changeFind_0 : decode cX5_changeFind 0 = .ok (.iload 4, 2) := by decide +kernel
theorem dX5_changeFind_2 : decode cX5_changeFind 2 = .ok (.ifCond .eq 20, 3) := by decide +kernel
theorem dX5_changeFind_5 : decode cX5_changeFind 5 = .ok (.aload_n 0, 1) := by decide +kernel
theorem dX5_changeFind_6 : decode cX5_changeFind 6 = .ok (.getfield 12, 3) := by decide +kernel
theorem dX5_changeFind_9 : decode cX5_changeFind 9 = .ok (.iload_n 2, 1) := by decide +kernel
theorem dX5_changeFind_10 : decode cX5_changeFind 10 = .ok (.invokevirtual 99, 3) := by decide +kernel
theorem dX5_changeFind_13 : decode cX5_changeFind 13 = .ok (.ifCond .eq 9, 3) := by decide +kernel
theorem dX5_changeFind_16 : decode cX5_changeFind 16 = .ok (.iload_n 2, 1) := by decide +kernel
theorem dX5_changeFind_17 : decode cX5_changeFind 17 = .ok (.aload_n 1, 1) := by decide +kernel
theorem dX5_changeFind_18 : decode cX5_changeFind 18 = .ok (.arraylength, 1) := by decide +kernel
theorem dX5_changeFind_19 : decode cX5_changeFind 19 = .ok (.if_icmp .lt 6, 3) := by decide +kernel
theorem dX5_changeFind_22 : decode cX5_changeFind 22 = .ok (.bipush (-2), 2) := by decide +kernel
theorem dX5_changeFind_24 : decode cX5_changeFind 24 = .ok (.ireturn, 1) := by decide +kernel
theorem dX5_changeFind_25 : decode cX5_changeFind 25 = .ok (.aload_n 0, 1) := by decide +kernel
theorem dX5_changeFind_26 : decode cX5_changeFind 26 = .ok (.getfield 12, 3) := by decide +kernel
theorem dX5_changeFind_29 : decode cX5_changeFind 29 = .ok (.iload_n 2, 1) := by decide +kernel
theorem dX5_changeFind_30 : decode cX5_changeFind 30 = .ok (.invokevirtual 102, 3) := by decide +kernel
theorem dX5_changeFind_33 : decode cX5_changeFind 33 = .ok (.ifCond .ne 6, 3) := by decide +kernel
theorem dX5_changeFind_36 : decode cX5_changeFind 36 = .ok (.bipush (-3), 2) := by decide +kernel
theorem dX5_changeFind_38 : decode cX5_changeFind 38 = .ok (.ireturn, 1) := by decide +kernel
theorem dX5_changeFind_39 : decode cX5_changeFind 39 = .ok (.aload_n 1, 1) := by decide +kernel
theorem dX5_changeFind_40 : decode cX5_changeFind 40 = .ok (.iload_n 2, 1) := by decide +kernel
theorem dX5_changeFind_41 : decode cX5_changeFind 41 = .ok (.iaload, 1) := by decide +kernel
theorem dX5_changeFind_42 : decode cX5_changeFind 42 = .ok (.istore 5, 2) := by decide +kernel
theorem dX5_changeFind_44 : decode cX5_changeFind 44 = .ok (.aload_n 1, 1) := by decide +kernel
theorem dX5_changeFind_45 : decode cX5_changeFind 45 = .ok (.iload_n 2, 1) := by decide +kernel
theorem dX5_changeFind_46 : decode cX5_changeFind 46 = .ok (.iload_n 3, 1) := by decide +kernel
theorem dX5_changeFind_47 : decode cX5_changeFind 47 = .ok (.iastore, 1) := by decide +kernel
theorem dX5_changeFind_48 : decode cX5_changeFind 48 = .ok (.iload 5, 2) := by decide +kernel
theorem dX5_changeFind_50 : decode cX5_changeFind 50 = .ok (.ireturn, 1) := by decide +kernel
theorem dX5_told_0 : decode cX5_told 0 = .ok (.aload_n 0, 1) := by decide +kernel
theorem dX5_told_1 : decode cX5_told 1 = .ok (.getfield 12, 3) := by decide +kernel
theorem dX5_told_4 : decode cX5_told 4 = .ok (.iload_n 1, 1) := by decide +kernel
theorem dX5_told_5 : decode cX5_told 5 = .ok (.invokevirtual 99, 3) := by decide +kernel
theorem dX5_told_8 : decode cX5_told 8 = .ok (.ifCond .ne 6, 3) := by decide +kernel
theorem dX5_told_11 : decode cX5_told 11 = .ok (.bipush (-2), 2) := by decide +kernel
theorem dX5_told_13 : decode cX5_told 13 = .ok (.ireturn, 1) := by decide +kernel
theorem dX5_told_14 : decode cX5_told 14 = .ok (.iload_n 2, 1) := by decide +kernel
theorem dX5_told_15 : decode cX5_told 15 = .ok (.tableswitch 203 0 9 #[53, 63, 73, 83, 93, 110, 132, 141, 150, 181], 53) := by decide +kernel
theorem dX5_told_68 : decode cX5_told 68 = .ok (.aload_n 0, 1) := by decide +kernel
theorem dX5_told_69 : decode cX5_told 69 = .ok (.getfield 12, 3) := by decide +kernel
theorem dX5_told_72 : decode cX5_told 72 = .ok (.getfield 105, 3) := by decide +kernel
theorem dX5_told_75 : decode cX5_told 75 = .ok (.iload_n 1, 1) := by decide +kernel
theorem dX5_told_76 : decode cX5_told 76 = .ok (.iaload, 1) := by decide +kernel
theorem dX5_told_77 : decode cX5_told 77 = .ok (.ireturn, 1) := by decide +kernel
theorem dX5_told_78 : decode cX5_told 78 = .ok (.aload_n 0, 1) := by decide +kernel
theorem dX5_told_79 : decode cX5_told 79 = .ok (.getfield 12, 3) := by decide +kernel
theorem dX5_told_82 : decode cX5_told 82 = .ok (.getfield 78, 3) := by decide +kernel
theorem dX5_told_85 : decode cX5_told 85 = .ok (.iload_n 1, 1) := by decide +kernel
theorem dX5_told_86 : decode cX5_told 86 = .ok (.iaload, 1) := by decide +kernel
theorem dX5_told_87 : decode cX5_told 87 = .ok (.ireturn, 1) := by decide +kernel
theorem dX5_told_88 : decode cX5_told 88 = .ok (.aload_n 0, 1) := by decide +kernel
theorem dX5_told_89 : decode cX5_told 89 = .ok (.getfield 12, 3) := by decide +kernel
theorem dX5_told_92 : decode cX5_told 92 = .ok (.getfield 86, 3) := by decide +kernel
theorem dX5_told_95 : decode cX5_told 95 = .ok (.iload_n 1, 1) := by decide +kernel
theorem dX5_told_96 : decode cX5_told 96 = .ok (.iaload, 1) := by decide +kernel
theorem dX5_told_97 : decode cX5_told 97 = .ok (.ireturn, 1) := by decide +kernel
theorem dX5_told_98 : decode cX5_told 98 = .ok (.aload_n 0, 1) := by decide +kernel
theorem dX5_told_99 : decode cX5_told 99 = .ok (.getfield 12, 3) := by decide +kernel
theorem dX5_told_102 : decode cX5_told 102 = .ok (.getfield 89, 3) := by decide +kernel
theorem dX5_told_105 : decode cX5_told 105 = .ok (.iload_n 1, 1) := by decide +kernel
theorem dX5_told_106 : decode cX5_told 106 = .ok (.iaload, 1) := by decide +kernel
theorem dX5_told_107 : decode cX5_told 107 = .ok (.ireturn, 1) := by decide +kernel
theorem dX5_told_108 : decode cX5_told 108 = .ok (.aload_n 0, 1) := by decide +kernel
theorem dX5_told_109 : decode cX5_told 109 = .ok (.getfield 12, 3) := by decide +kernel
theorem dX5_told_112 : decode cX5_told 112 = .ok (.iload_n 1, 1) := by decide +kernel
theorem dX5_told_113 : decode cX5_told 113 = .ok (.invokevirtual 102, 3) := by decide +kernel
theorem dX5_told_116 : decode cX5_told 116 = .ok (.ifCond .eq 7, 3) := by decide +kernel
theorem dX5_told_119 : decode cX5_told 119 = .ok (.iconst 0, 1) := by decide +kernel
theorem dX5_told_120 : decode cX5_told 120 = .ok (.goto 4, 3) := by decide +kernel
theorem dX5_told_123 : decode cX5_told 123 = .ok (.iconst 1, 1) := by decide +kernel
theorem dX5_told_124 : decode cX5_told 124 = .ok (.ireturn, 1) := by decide +kernel
theorem dX5_told_125 : decode cX5_told 125 = .ok (.aload_n 0, 1) := by decide +kernel
theorem dX5_told_126 : decode cX5_told 126 = .ok (.getfield 12, 3) := by decide +kernel
theorem dX5_told_129 : decode cX5_told 129 = .ok (.getfield 105, 3) := by decide +kernel
theorem dX5_told_132 : decode cX5_told 132 = .ok (.iload_n 1, 1) := by decide +kernel
theorem dX5_told_133 : decode cX5_told 133 = .ok (.iaload, 1) := by decide +kernel
theorem dX5_told_134 : decode cX5_told 134 = .ok (.aload_n 0, 1) := by decide +kernel
theorem dX5_told_135 : decode cX5_told 135 = .ok (.getfield 12, 3) := by decide +kernel
theorem dX5_told_138 : decode cX5_told 138 = .ok (.getfield 89, 3) := by decide +kernel
theorem dX5_told_141 : decode cX5_told 141 = .ok (.iload_n 1, 1) := by decide +kernel
theorem dX5_told_142 : decode cX5_told 142 = .ok (.iaload, 1) := by decide +kernel
theorem dX5_told_143 : decode cX5_told 143 = .ok (.invokestatic 108, 3) := by decide +kernel
theorem dX5_told_146 : decode cX5_told 146 = .ok (.ireturn, 1) := by decide +kernel
theorem dX5_told_147 : decode cX5_told 147 = .ok (.aload_n 0, 1) := by decide +kernel
theorem dX5_told_148 : decode cX5_told 148 = .ok (.getfield 12, 3) := by decide +kernel
theorem dX5_told_151 : decode cX5_told 151 = .ok (.iload_n 1, 1) := by decide +kernel
theorem dX5_told_152 : decode cX5_told 152 = .ok (.invokevirtual 112, 3) := by decide +kernel
theorem dX5_told_155 : decode cX5_told 155 = .ok (.ireturn, 1) := by decide +kernel
theorem dX5_told_156 : decode cX5_told 156 = .ok (.aload_n 0, 1) := by decide +kernel
theorem dX5_told_157 : decode cX5_told 157 = .ok (.getfield 12, 3) := by decide +kernel
theorem dX5_told_160 : decode cX5_told 160 = .ok (.iload_n 1, 1) := by decide +kernel
theorem dX5_told_161 : decode cX5_told 161 = .ok (.invokevirtual 115, 3) := by decide +kernel
theorem dX5_told_164 : decode cX5_told 164 = .ok (.ireturn, 1) := by decide +kernel
theorem dX5_told_165 : decode cX5_told 165 = .ok (.aload_n 0, 1) := by decide +kernel
theorem dX5_told_166 : decode cX5_told 166 = .ok (.getfield 12, 3) := by decide +kernel
theorem dX5_told_169 : decode cX5_told 169 = .ok (.getfield 105, 3) := by decide +kernel
theorem dX5_told_172 : decode cX5_told 172 = .ok (.iload_n 1, 1) := by decide +kernel
theorem dX5_told_173 : decode cX5_told 173 = .ok (.iaload, 1) := by decide +kernel
theorem dX5_told_174 : decode cX5_told 174 = .ok (.aload_n 0, 1) := by decide +kernel
theorem dX5_told_175 : decode cX5_told 175 = .ok (.getfield 12, 3) := by decide +kernel
theorem dX5_told_178 : decode cX5_told 178 = .ok (.getfield 89, 3) := by decide +kernel
theorem dX5_told_181 : decode cX5_told 181 = .ok (.iload_n 1, 1) := by decide +kernel
theorem dX5_told_182 : decode cX5_told 182 = .ok (.iaload, 1) := by decide +kernel
theorem dX5_told_183 : decode cX5_told 183 = .ok (.aload_n 0, 1) := by decide +kernel
theorem dX5_told_184 : decode cX5_told 184 = .ok (.getfield 12, 3) := by decide +kernel
theorem dX5_told_187 : decode cX5_told 187 = .ok (.getfield 86, 3) := by decide +kernel
theorem dX5_told_190 : decode cX5_told 190 = .ok (.iload_n 1, 1) := by decide +kernel
theorem dX5_told_191 : decode cX5_told 191 = .ok (.iaload, 1) := by decide +kernel
theorem dX5_told_192 : decode cX5_told 192 = .ok (.invokestatic 118, 3) := by decide +kernel
theorem dX5_told_195 : decode cX5_told 195 = .ok (.ireturn, 1) := by decide +kernel
theorem dX5_told_196 : decode cX5_told 196 = .ok (.aload_n 0, 1) := by decide +kernel
theorem dX5_told_197 : decode cX5_told 197 = .ok (.getfield 28, 3) := by decide +kernel
theorem dX5_told_200 : decode cX5_told 200 = .ok (.iconst 2, 1) := by decide +kernel
theorem dX5_told_201 : decode cX5_told 201 = .ok (.aload_n 0, 1) := by decide +kernel
theorem dX5_told_202 : decode cX5_told 202 = .ok (.getfield 12, 3) := by decide +kernel
theorem dX5_told_205 : decode cX5_told 205 = .ok (.iload_n 1, 1) := by decide +kernel
theorem dX5_told_206 : decode cX5_told 206 = .ok (.aload_n 0, 1) := by decide +kernel
theorem dX5_told_207 : decode cX5_told 207 = .ok (.getfield 12, 3) := by decide +kernel
theorem dX5_told_210 : decode cX5_told 210 = .ok (.iload_n 1, 1) := by decide +kernel
theorem dX5_told_211 : decode cX5_told 211 = .ok (.invokevirtual 112, 3) := by decide +kernel
theorem dX5_told_214 : decode cX5_told 214 = .ok (.invokevirtual 122, 3) := by decide +kernel
theorem dX5_told_217 : decode cX5_told 217 = .ok (.ireturn, 1) := by decide +kernel
theorem dX5_told_218 : decode cX5_told 218 = .ok (.bipush (-2), 2) := by decide +kernel
theorem dX5_told_220 : decode cX5_told 220 = .ok (.ireturn, 1) := by decide +kernel
theorem dX5_feed_0 : decode cX5_feed 0 = .ok (.iload_n 1, 1) := by decide +kernel
theorem dX5_feed_1 : decode cX5_feed 1 = .ok (.iconst 0, 1) := by decide +kernel
theorem dX5_feed_2 : decode cX5_feed 2 = .ok (.sipush 255, 3) := by decide +kernel
theorem dX5_feed_5 : decode cX5_feed 5 = .ok (.invokestatic 59, 3) := by decide +kernel
theorem dX5_feed_8 : decode cX5_feed 8 = .ok (.ifCond .ne 6, 3) := by decide +kernel
theorem dX5_feed_11 : decode cX5_feed 11 = .ok (.bipush (-2), 2) := by decide +kernel
theorem dX5_feed_13 : decode cX5_feed 13 = .ok (.ireturn, 1) := by decide +kernel
theorem dX5_feed_14 : decode cX5_feed 14 = .ok (.aload_n 0, 1) := by decide +kernel
theorem dX5_feed_15 : decode cX5_feed 15 = .ok (.getfield 37, 3) := by decide +kernel
theorem dX5_feed_18 : decode cX5_feed 18 = .ok (.iload_n 1, 1) := by decide +kernel
theorem dX5_feed_19 : decode cX5_feed 19 = .ok (.invokevirtual 126, 3) := by decide +kernel
theorem dX5_feed_22 : decode cX5_feed 22 = .ok (.ireturn, 1) := by decide +kernel
theorem dX5_text_0 : decode cX5_text 0 = .ok (.aload_n 0, 1) := by decide +kernel
theorem dX5_text_1 : decode cX5_text 1 = .ok (.getfield 28, 3) := by decide +kernel
theorem dX5_text_4 : decode cX5_text 4 = .ok (.invokevirtual 129, 3) := by decide +kernel
theorem dX5_text_7 : decode cX5_text 7 = .ok (.ifCond .eq 6, 3) := by decide +kernel
theorem dX5_text_10 : decode cX5_text 10 = .ok (.bipush (-4), 2) := by decide +kernel
theorem dX5_text_12 : decode cX5_text 12 = .ok (.ireturn, 1) := by decide +kernel
theorem dX5_text_13 : decode cX5_text 13 = .ok (.aload_n 0, 1) := by decide +kernel
theorem dX5_text_14 : decode cX5_text 14 = .ok (.getfield 37, 3) := by decide +kernel
theorem dX5_text_17 : decode cX5_text 17 = .ok (.invokevirtual 133, 3) := by decide +kernel
theorem dX5_text_20 : decode cX5_text 20 = .ok (.istore_n 1, 1) := by decide +kernel
theorem dX5_text_21 : decode cX5_text 21 = .ok (.iload_n 1, 1) := by decide +kernel
theorem dX5_text_22 : decode cX5_text 22 = .ok (.iconst (-1), 1) := by decide +kernel
theorem dX5_text_23 : decode cX5_text 23 = .ok (.if_icmp .eq 8, 3) := by decide +kernel
theorem dX5_text_26 : decode cX5_text 26 = .ok (.bipush (-100), 2) := by decide +kernel
theorem dX5_text_28 : decode cX5_text 28 = .ok (.iload_n 1, 1) := by decide +kernel
theorem dX5_text_29 : decode cX5_text 29 = .ok (.isub, 1) := by decide +kernel
theorem dX5_text_30 : decode cX5_text 30 = .ok (.ireturn, 1) := by decide +kernel
theorem dX5_text_31 : decode cX5_text 31 = .ok (.aload_n 0, 1) := by decide +kernel
theorem dX5_text_32 : decode cX5_text 32 = .ok (.getfield 28, 3) := by decide +kernel
theorem dX5_text_35 : decode cX5_text 35 = .ok (.invokevirtual 137, 3) := by decide +kernel
theorem dX5_text_38 : decode cX5_text 38 = .ok (.ireturn, 1) := by decide +kernel
theorem dX5_force_0 : decode cX5_force 0 = .ok (.aload_n 0, 1) := by decide +kernel
theorem dX5_force_1 : decode cX5_force 1 = .ok (.getfield 28, 3) := by decide +kernel
theorem dX5_force_4 : decode cX5_force 4 = .ok (.iload_n 1, 1) := by decide +kernel
theorem dX5_force_5 : decode cX5_force 5 = .ok (.invokevirtual 140, 3) := by decide +kernel
theorem dX5_force_8 : decode cX5_force 8 = .ok (.ifCond .ne 6, 3) := by decide +kernel
theorem dX5_force_11 : decode cX5_force 11 = .ok (.bipush (-2), 2) := by decide +kernel
theorem dX5_force_13 : decode cX5_force 13 = .ok (.ireturn, 1) := by decide +kernel
theorem dX5_force_14 : decode cX5_force 14 = .ok (.aload_n 0, 1) := by decide +kernel
theorem dX5_force_15 : decode cX5_force 15 = .ok (.getfield 12, 3) := by decide +kernel
theorem dX5_force_18 : decode cX5_force 18 = .ok (.getfield 141, 3) := by decide +kernel
theorem dX5_force_21 : decode cX5_force 21 = .ok (.istore_n 2, 1) := by decide +kernel
theorem dX5_force_22 : decode cX5_force 22 = .ok (.aload_n 0, 1) := by decide +kernel
theorem dX5_force_23 : decode cX5_force 23 = .ok (.getfield 12, 3) := by decide +kernel
theorem dX5_force_26 : decode cX5_force 26 = .ok (.iload_n 1, 1) := by decide +kernel
theorem dX5_force_27 : decode cX5_force 27 = .ok (.putfield 141, 3) := by decide +kernel
theorem dX5_force_30 : decode cX5_force 30 = .ok (.iload_n 2, 1) := by decide +kernel
theorem dX5_force_31 : decode cX5_force 31 = .ok (.ireturn, 1) := by decide +kernel
theorem dX5_beep_0 : decode cX5_beep 0 = .ok (.iload_n 1, 1) := by decide +kernel
theorem dX5_beep_1 : decode cX5_beep 1 = .ok (.invokestatic 63, 3) := by decide +kernel
theorem dX5_beep_4 : decode cX5_beep 4 = .ok (.ifCond .ne 6, 3) := by decide +kernel
theorem dX5_beep_7 : decode cX5_beep 7 = .ok (.bipush (-2), 2) := by decide +kernel
theorem dX5_beep_9 : decode cX5_beep 9 = .ok (.ireturn, 1) := by decide +kernel
theorem dX5_beep_10 : decode cX5_beep 10 = .ok (.aload_n 0, 1) := by decide +kernel
theorem dX5_beep_11 : decode cX5_beep 11 = .ok (.getfield 44, 3) := by decide +kernel
theorem dX5_beep_14 : decode cX5_beep 14 = .ok (.aload_n 0, 1) := by decide +kernel
theorem dX5_beep_15 : decode cX5_beep 15 = .ok (.getfield 12, 3) := by decide +kernel
theorem dX5_beep_18 : decode cX5_beep 18 = .ok (.iload_n 1, 1) := by decide +kernel
theorem dX5_beep_19 : decode cX5_beep 19 = .ok (.invokevirtual 144, 3) := by decide +kernel
theorem dX5_beep_22 : decode cX5_beep 22 = .ok (.ireturn, 1) := by decide +kernel
theorem dX5_walk_0 : decode cX5_walk 0 = .ok (.iload_n 1, 1) := by decide +kernel
theorem dX5_walk_1 : decode cX5_walk 1 = .ok (.iconst 0, 1) := by decide +kernel
theorem dX5_walk_2 : decode cX5_walk 2 = .ok (.iconst 5, 1) := by decide +kernel
theorem dX5_walk_3 : decode cX5_walk 3 = .ok (.invokestatic 59, 3) := by decide +kernel
theorem dX5_walk_6 : decode cX5_walk 6 = .ok (.ifCond .ne 6, 3) := by decide +kernel
theorem dX5_walk_9 : decode cX5_walk 9 = .ok (.bipush (-2), 2) := by decide +kernel
theorem dX5_walk_11 : decode cX5_walk 11 = .ok (.ireturn, 1) := by decide +kernel
theorem dX5_walk_12 : decode cX5_walk 12 = .ok (.aload_n 0, 1) := by decide +kernel
theorem dX5_walk_13 : decode cX5_walk 13 = .ok (.getfield 12, 3) := by decide +kernel
theorem dX5_walk_16 : decode cX5_walk 16 = .ok (.dup, 1) := by decide +kernel
theorem dX5_walk_17 : decode cX5_walk 17 = .ok (.getfield 148, 3) := by decide +kernel
theorem dX5_walk_20 : decode cX5_walk 20 = .ok (.iconst 1, 1) := by decide +kernel
theorem dX5_walk_21 : decode cX5_walk 21 = .ok (.iload_n 1, 1) := by decide +kernel
theorem dX5_walk_22 : decode cX5_walk 22 = .ok (.ishl, 1) := by decide +kernel
theorem dX5_walk_23 : decode cX5_walk 23 = .ok (.ior, 1) := by decide +kernel
theorem dX5_walk_24 : decode cX5_walk 24 = .ok (.putfield 148, 3) := by decide +kernel
theorem dX5_walk_27 : decode cX5_walk 27 = .ok (.aload_n 0, 1) := by decide +kernel
theorem dX5_walk_28 : decode cX5_walk 28 = .ok (.getfield 44, 3) := by decide +kernel
theorem dX5_walk_31 : decode cX5_walk 31 = .ok (.aload_n 0, 1) := by decide +kernel
theorem dX5_walk_32 : decode cX5_walk 32 = .ok (.getfield 12, 3) := by decide +kernel
theorem dX5_walk_35 : decode cX5_walk 35 = .ok (.iconst 1, 1) := by decide +kernel
theorem dX5_walk_36 : decode cX5_walk 36 = .ok (.iload_n 1, 1) := by decide +kernel
theorem dX5_walk_37 : decode cX5_walk 37 = .ok (.ishl, 1) := by decide +kernel
theorem dX5_walk_38 : decode cX5_walk 38 = .ok (.invokevirtual 151, 3) := by decide +kernel
theorem dX5_walk_41 : decode cX5_walk 41 = .ok (.ireturn, 1) := by decide +kernel
theorem dX5_plough_0 : decode cX5_plough 0 = .ok (.aload_n 0, 1) := by decide +kernel
theorem dX5_plough_1 : decode cX5_plough 1 = .ok (.getfield 12, 3) := by decide +kernel
theorem dX5_plough_4 : decode cX5_plough 4 = .ok (.invokevirtual 154, 3) := by decide +kernel
theorem dX5_plough_7 : decode cX5_plough 7 = .ok (.aload_n 0, 1) := by decide +kernel
theorem dX5_plough_8 : decode cX5_plough 8 = .ok (.getfield 12, 3) := by decide +kernel
theorem dX5_plough_11 : decode cX5_plough 11 = .ok (.getfield 157, 3) := by decide +kernel
theorem dX5_plough_14 : decode cX5_plough 14 = .ok (.ireturn, 1) := by decide +kernel
theorem dX5_found_0 : decode cX5_found 0 = .ok (.iload_n 1, 1) := by decide +kernel
theorem dX5_found_1 : decode cX5_found 1 = .ok (.iconst 0, 1) := by decide +kernel
theorem dX5_found_2 : decode cX5_found 2 = .ok (.bipush 63, 2) := by decide +kernel
theorem dX5_found_4 : decode cX5_found 4 = .ok (.invokestatic 59, 3) := by decide +kernel
theorem dX5_found_7 : decode cX5_found 7 = .ok (.ifCond .eq 12, 3) := by decide +kernel
theorem dX5_found_10 : decode cX5_found 10 = .ok (.iload_n 2, 1) := by decide +kernel
theorem dX5_found_11 : decode cX5_found 11 = .ok (.iconst 0, 1) := by decide +kernel
theorem dX5_found_12 : decode cX5_found 12 = .ok (.iconst 1, 1) := by decide +kernel
theorem dX5_found_13 : decode cX5_found 13 = .ok (.invokestatic 59, 3) := by decide +kernel
theorem dX5_found_16 : decode cX5_found 16 = .ok (.ifCond .ne 6, 3) := by decide +kernel
theorem dX5_found_19 : decode cX5_found 19 = .ok (.bipush (-2), 2) := by decide +kernel
theorem dX5_found_21 : decode cX5_found 21 = .ok (.ireturn, 1) := by decide +kernel
theorem dX5_found_22 : decode cX5_found 22 = .ok (.aload_n 0, 1) := by decide +kernel
theorem dX5_found_23 : decode cX5_found 23 = .ok (.aload_n 0, 1) := by decide +kernel
theorem dX5_found_24 : decode cX5_found 24 = .ok (.getfield 12, 3) := by decide +kernel
theorem dX5_found_27 : decode cX5_found 27 = .ok (.iload_n 1, 1) := by decide +kernel
theorem dX5_found_28 : decode cX5_found 28 = .ok (.invokevirtual 160, 3) := by decide +kernel
theorem dX5_found_31 : decode cX5_found 31 = .ok (.istore_n 3, 1) := by decide +kernel
theorem dX5_found_32 : decode cX5_found 32 = .ok (.iload_n 2, 1) := by decide +kernel
theorem dX5_found_33 : decode cX5_found 33 = .ok (.ifCond .ne 7, 3) := by decide +kernel
theorem dX5_found_36 : decode cX5_found 36 = .ok (.iload_n 3, 1) := by decide +kernel
theorem dX5_found_37 : decode cX5_found 37 = .ok (.goto 10, 3) := by decide +kernel
theorem dX5_found_40 : decode cX5_found 40 = .ok (.aload_n 0, 1) := by decide +kernel
theorem dX5_found_41 : decode cX5_found 41 = .ok (.getfield 44, 3) := by decide +kernel
theorem dX5_found_44 : decode cX5_found 44 = .ok (.getfield 163, 3) := by decide +kernel
theorem dX5_found_47 : decode cX5_found 47 = .ok (.ireturn, 1) := by decide +kernel
theorem dX5_foundIn_0 : decode cX5_foundIn 0 = .ok (.aload_n 0, 1) := by decide +kernel
theorem dX5_foundIn_1 : decode cX5_foundIn 1 = .ok (.getfield 22, 3) := by decide +kernel
theorem dX5_foundIn_4 : decode cX5_foundIn 4 = .ok (.aload_n 1, 1) := by decide +kernel
theorem dX5_foundIn_5 : decode cX5_foundIn 5 = .ok (.invokevirtual 166, 3) := by decide +kernel
theorem dX5_foundIn_8 : decode cX5_foundIn 8 = .ok (.aload_n 0, 1) := by decide +kernel
theorem dX5_foundIn_9 : decode cX5_foundIn 9 = .ok (.getfield 44, 3) := by decide +kernel
theorem dX5_foundIn_12 : decode cX5_foundIn 12 = .ok (.aload_n 0, 1) := by decide +kernel
theorem dX5_foundIn_13 : decode cX5_foundIn 13 = .ok (.getfield 22, 3) := by decide +kernel
theorem dX5_foundIn_16 : decode cX5_foundIn 16 = .ok (.iload_n 2, 1) := by decide +kernel
theorem dX5_foundIn_17 : decode cX5_foundIn 17 = .ok (.invokevirtual 151, 3) := by decide +kernel
theorem dX5_foundIn_20 : decode cX5_foundIn 20 = .ok (.ireturn, 1) := by decide +kernel
theorem dX5_years_0 : decode cX5_years 0 = .ok (.iload_n 1, 1) := by decide +kernel
theorem dX5_years_1 : decode cX5_years 1 = .ok (.iconst 0, 1) := by decide +kernel
theorem dX5_years_2 : decode cX5_years 2 = .ok (.bipush 20, 2) := by decide +kernel
theorem dX5_years_4 : decode cX5_years 4 = .ok (.invokestatic 59, 3) := by decide +kernel
theorem dX5_years_7 : decode cX5_years 7 = .ok (.ifCond .ne 6, 3) := by decide +kernel
theorem dX5_years_10 : decode cX5_years 10 = .ok (.bipush (-2), 2) := by decide +kernel
theorem dX5_years_12 : decode cX5_years 12 = .ok (.ireturn, 1) := by decide +kernel
theorem dX5_years_13 : decode cX5_years 13 = .ok (.aload_n 0, 1) := by decide +kernel
theorem dX5_years_14 : decode cX5_years 14 = .ok (.getfield 22, 3) := by decide +kernel
theorem dX5_years_17 : decode cX5_years 17 = .ok (.aload_n 0, 1) := by decide +kernel
theorem dX5_years_18 : decode cX5_years 18 = .ok (.getfield 12, 3) := by decide +kernel
theorem dX5_years_21 : decode cX5_years 21 = .ok (.invokevirtual 166, 3) := by decide +kernel
theorem dX5_years_24 : decode cX5_years 24 = .ok (.iconst 0, 1) := by decide +kernel
theorem dX5_years_25 : decode cX5_years 25 = .ok (.istore_n 2, 1) := by decide +kernel
theorem dX5_years_26 : decode cX5_years 26 = .ok (.iconst 0, 1) := by decide +kernel
theorem dX5_years_27 : decode cX5_years 27 = .ok (.istore_n 3, 1) := by decide +kernel
theorem dX5_years_28 : decode cX5_years 28 = .ok (.iload_n 3, 1) := by decide +kernel
theorem dX5_years_29 : decode cX5_years 29 = .ok (.iload_n 1, 1) := by decide +kernel
theorem dX5_years_30 : decode cX5_years 30 = .ok (.if_icmp .ge 32, 3) := by decide +kernel
theorem dX5_years_33 : decode cX5_years 33 = .ok (.iload_n 2, 1) := by decide +kernel
theorem dX5_years_34 : decode cX5_years 34 = .ok (.aload_n 0, 1) := by decide +kernel
theorem dX5_years_35 : decode cX5_years 35 = .ok (.getfield 44, 3) := by decide +kernel
theorem dX5_years_38 : decode cX5_years 38 = .ok (.aload_n 0, 1) := by decide +kernel
theorem dX5_years_39 : decode cX5_years 39 = .ok (.getfield 22, 3) := by decide +kernel
theorem dX5_years_42 : decode cX5_years 42 = .ok (.bipush 63, 2) := by decide +kernel
theorem dX5_years_44 : decode cX5_years 44 = .ok (.invokevirtual 151, 3) := by decide +kernel
theorem dX5_years_47 : decode cX5_years 47 = .ok (.iadd, 1) := by decide +kernel
theorem dX5_years_48 : decode cX5_years 48 = .ok (.istore_n 2, 1) := by decide +kernel
theorem dX5_years_49 : decode cX5_years 49 = .ok (.aload_n 0, 1) := by decide +kernel
theorem dX5_years_50 : decode cX5_years 50 = .ok (.getfield 22, 3) := by decide +kernel
theorem dX5_years_53 : decode cX5_years 53 = .ok (.invokevirtual 154, 3) := by decide +kernel
theorem dX5_years_56 : decode cX5_years 56 = .ok (.iinc 3 1, 3) := by decide +kernel
theorem dX5_years_59 : decode cX5_years 59 = .ok (.goto (-31), 3) := by decide +kernel
theorem dX5_years_62 : decode cX5_years 62 = .ok (.iload_n 2, 1) := by decide +kernel
theorem dX5_years_63 : decode cX5_years 63 = .ok (.ireturn, 1) := by decide +kernel
theorem dX5_soonest_0 : decode cX5_soonest 0 = .ok (.iload_n 1, 1) := by decide +kernel
theorem dX5_soonest_1 : decode cX5_soonest 1 = .ok (.iconst 0, 1) := by decide +kernel
theorem dX5_soonest_2 : decode cX5_soonest 2 = .ok (.iconst 1, 1) := by decide +kernel
theorem dX5_soonest_3 : decode cX5_soonest 3 = .ok (.invokestatic 59, 3) := by decide +kernel
theorem dX5_soonest_6 : decode cX5_soonest 6 = .ok (.ifCond .ne 6, 3) := by decide +kernel
theorem dX5_soonest_9 : decode cX5_soonest 9 = .ok (.bipush (-2), 2) := by decide +kernel
theorem dX5_soonest_11 : decode cX5_soonest 11 = .ok (.ireturn, 1) := by decide +kernel
theorem dX5_soonest_12 : decode cX5_soonest 12 = .ok (.iconst 0, 1) := by decide +kernel
theorem dX5_soonest_13 : decode cX5_soonest 13 = .ok (.istore_n 2, 1) := by decide +kernel
theorem dX5_soonest_14 : decode cX5_soonest 14 = .ok (.iconst (-1), 1) := by decide +kernel
theorem dX5_soonest_15 : decode cX5_soonest 15 = .ok (.istore_n 3, 1) := by decide +kernel
theorem dX5_soonest_16 : decode cX5_soonest 16 = .ok (.aload_n 0, 1) := by decide +kernel
theorem dX5_soonest_17 : decode cX5_soonest 17 = .ok (.getfield 19, 3) := by decide +kernel
theorem dX5_soonest_20 : decode cX5_soonest 20 = .ok (.aload_n 0, 1) := by decide +kernel
theorem dX5_soonest_21 : decode cX5_soonest 21 = .ok (.getfield 12, 3) := by decide +kernel
theorem dX5_soonest_24 : decode cX5_soonest 24 = .ok (.invokevirtual 166, 3) := by decide +kernel
theorem dX5_soonest_27 : decode cX5_soonest 27 = .ok (.iconst 0, 1) := by decide +kernel
theorem dX5_soonest_28 : decode cX5_soonest 28 = .ok (.istore 4, 2) := by decide +kernel
theorem dX5_soonest_30 : decode cX5_soonest 30 = .ok (.iload 4, 2) := by decide +kernel
theorem dX5_soonest_32 : decode cX5_soonest 32 = .ok (.bipush 20, 2) := by decide +kernel
theorem dX5_soonest_34 : decode cX5_soonest 34 = .ok (.if_icmp .gt 40, 3) := by decide +kernel
theorem dX5_soonest_37 : decode cX5_soonest 37 = .ok (.aload_n 0, 1) := by decide +kernel
theorem dX5_soonest_38 : decode cX5_soonest 38 = .ok (.aload_n 0, 1) := by decide +kernel
theorem dX5_soonest_39 : decode cX5_soonest 39 = .ok (.getfield 19, 3) := by decide +kernel
theorem dX5_soonest_42 : decode cX5_soonest 42 = .ok (.bipush 63, 2) := by decide +kernel
theorem dX5_soonest_44 : decode cX5_soonest 44 = .ok (.invokevirtual 160, 3) := by decide +kernel
theorem dX5_soonest_47 : decode cX5_soonest 47 = .ok (.istore 5, 2) := by decide +kernel
theorem dX5_soonest_49 : decode cX5_soonest 49 = .ok (.iload 5, 2) := by decide +kernel
theorem dX5_soonest_51 : decode cX5_soonest 51 = .ok (.iload_n 3, 1) := by decide +kernel
theorem dX5_soonest_52 : decode cX5_soonest 52 = .ok (.if_icmp .le 9, 3) := by decide +kernel
theorem dX5_soonest_55 : decode cX5_soonest 55 = .ok (.iload 5, 2) := by decide +kernel
theorem dX5_soonest_57 : decode cX5_soonest 57 = .ok (.istore_n 3, 1) := by decide +kernel
theorem dX5_soonest_58 : decode cX5_soonest 58 = .ok (.iload 4, 2) := by decide +kernel
theorem dX5_soonest_60 : decode cX5_soonest 60 = .ok (.istore_n 2, 1) := by decide +kernel
theorem dX5_soonest_61 : decode cX5_soonest 61 = .ok (.aload_n 0, 1) := by decide +kernel
theorem dX5_soonest_62 : decode cX5_soonest 62 = .ok (.getfield 19, 3) := by decide +kernel
theorem dX5_soonest_65 : decode cX5_soonest 65 = .ok (.invokevirtual 154, 3) := by decide +kernel
theorem dX5_soonest_68 : decode cX5_soonest 68 = .ok (.iinc 4 1, 3) := by decide +kernel
theorem dX5_soonest_71 : decode cX5_soonest 71 = .ok (.goto (-41), 3) := by decide +kernel
theorem dX5_soonest_74 : decode cX5_soonest 74 = .ok (.iload_n 1, 1) := by decide +kernel
theorem dX5_soonest_75 : decode cX5_soonest 75 = .ok (.ifCond .ne 7, 3) := by decide +kernel
theorem dX5_soonest_78 : decode cX5_soonest 78 = .ok (.iload_n 2, 1) := by decide +kernel
theorem dX5_soonest_79 : decode cX5_soonest 79 = .ok (.goto 4, 3) := by decide +kernel
theorem dX5_soonest_82 : decode cX5_soonest 82 = .ok (.iload_n 3, 1) := by decide +kernel
theorem dX5_soonest_83 : decode cX5_soonest 83 = .ok (.ireturn, 1) := by decide +kernel
theorem dX5_strips_0 : decode cX5_strips 0 = .ok (.iload_n 1, 1) := by decide +kernel
theorem dX5_strips_1 : decode cX5_strips 1 = .ok (.iconst 0, 1) := by decide +kernel
theorem dX5_strips_2 : decode cX5_strips 2 = .ok (.bipush 6, 2) := by decide +kernel
theorem dX5_strips_4 : decode cX5_strips 4 = .ok (.invokestatic 59, 3) := by decide +kernel
theorem dX5_strips_7 : decode cX5_strips 7 = .ok (.ifCond .eq 12, 3) := by decide +kernel
theorem dX5_strips_10 : decode cX5_strips 10 = .ok (.iload_n 2, 1) := by decide +kernel
theorem dX5_strips_11 : decode cX5_strips 11 = .ok (.iconst 0, 1) := by decide +kernel
theorem dX5_strips_12 : decode cX5_strips 12 = .ok (.iconst 1, 1) := by decide +kernel
theorem dX5_strips_13 : decode cX5_strips 13 = .ok (.invokestatic 59, 3) := by decide +kernel
theorem dX5_strips_16 : decode cX5_strips 16 = .ok (.ifCond .ne 6, 3) := by decide +kernel
theorem dX5_strips_19 : decode cX5_strips 19 = .ok (.bipush (-2), 2) := by decide +kernel
theorem dX5_strips_21 : decode cX5_strips 21 = .ok (.ireturn, 1) := by decide +kernel
theorem dX5_strips_22 : decode cX5_strips 22 = .ok (.iconst 0, 1) := by decide +kernel
theorem dX5_strips_23 : decode cX5_strips 23 = .ok (.istore_n 3, 1) := by decide +kernel
theorem dX5_strips_24 : decode cX5_strips 24 = .ok (.iconst (-1), 1) := by decide +kernel
theorem dX5_strips_25 : decode cX5_strips 25 = .ok (.istore 4, 2) := by decide +kernel
theorem dX5_strips_27 : decode cX5_strips 27 = .ok (.iconst 0, 1) := by decide +kernel
theorem dX5_strips_28 : decode cX5_strips 28 = .ok (.istore 5, 2) := by decide +kernel
theorem dX5_strips_30 : decode cX5_strips 30 = .ok (.iload 5, 2) := by decide +kernel
theorem dX5_strips_32 : decode cX5_strips 32 = .ok (.bipush 63, 2) := by decide +kernel
theorem dX5_strips_34 : decode cX5_strips 34 = .ok (.if_icmp .gt 56, 3) := by decide +kernel
theorem dX5_strips_37 : decode cX5_strips 37 = .ok (.iload 5, 2) := by decide +kernel
theorem dX5_strips_39 : decode cX5_strips 39 = .ok (.invokestatic 170, 3) := by decide +kernel
theorem dX5_strips_42 : decode cX5_strips 42 = .ok (.iload_n 1, 1) := by decide +kernel
theorem dX5_strips_43 : decode cX5_strips 43 = .ok (.if_icmp .eq 6, 3) := by decide +kernel
theorem dX5_strips_46 : decode cX5_strips 46 = .ok (.goto 38, 3) := by decide +kernel
theorem dX5_strips_49 : decode cX5_strips 49 = .ok (.aload_n 0, 1) := by decide +kernel
theorem dX5_strips_50 : decode cX5_strips 50 = .ok (.aload_n 0, 1) := by decide +kernel
theorem dX5_strips_51 : decode cX5_strips 51 = .ok (.getfield 12, 3) := by decide +kernel
theorem dX5_strips_54 : decode cX5_strips 54 = .ok (.iload 5, 2) := by decide +kernel
theorem dX5_strips_56 : decode cX5_strips 56 = .ok (.invokevirtual 160, 3) := by decide +kernel
theorem dX5_strips_59 : decode cX5_strips 59 = .ok (.pop, 1) := by decide +kernel
theorem dX5_strips_60 : decode cX5_strips 60 = .ok (.aload_n 0, 1) := by decide +kernel
theorem dX5_strips_61 : decode cX5_strips 61 = .ok (.getfield 44, 3) := by decide +kernel
theorem dX5_strips_64 : decode cX5_strips 64 = .ok (.getfield 163, 3) := by decide +kernel
theorem dX5_strips_67 : decode cX5_strips 67 = .ok (.iload 4, 2) := by decide +kernel
theorem dX5_strips_69 : decode cX5_strips 69 = .ok (.if_icmp .le 15, 3) := by decide +kernel
theorem dX5_strips_72 : decode cX5_strips 72 = .ok (.aload_n 0, 1) := by decide +kernel
theorem dX5_strips_73 : decode cX5_strips 73 = .ok (.getfield 44, 3) := by decide +kernel
theorem dX5_strips_76 : decode cX5_strips 76 = .ok (.getfield 163, 3) := by decide +kernel
theorem dX5_strips_79 : decode cX5_strips 79 = .ok (.istore 4, 2) := by decide +kernel
theorem dX5_strips_81 : decode cX5_strips 81 = .ok (.iload 5, 2) := by decide +kernel
theorem dX5_strips_83 : decode cX5_strips 83 = .ok (.istore_n 3, 1) := by decide +kernel
theorem dX5_strips_84 : decode cX5_strips 84 = .ok (.iinc 5 1, 3) := by decide +kernel
theorem dX5_strips_87 : decode cX5_strips 87 = .ok (.goto (-57), 3) := by decide +kernel
theorem dX5_strips_90 : decode cX5_strips 90 = .ok (.iload_n 2, 1) := by decide +kernel
theorem dX5_strips_91 : decode cX5_strips 91 = .ok (.ifCond .ne 7, 3) := by decide +kernel
theorem dX5_strips_94 : decode cX5_strips 94 = .ok (.iload_n 3, 1) := by decide +kernel
theorem dX5_strips_95 : decode cX5_strips 95 = .ok (.goto 5, 3) := by decide +kernel
theorem dX5_strips_98 : decode cX5_strips 98 = .ok (.iload 4, 2) := by decide +kernel
theorem dX5_strips_100 : decode cX5_strips 100 = .ok (.ireturn, 1) := by decide +kernel
theorem dX5_better_0 : decode cX5_better 0 = .ok (.aload_n 0, 1) := by decide +kernel
theorem dX5_better_1 : decode cX5_better 1 = .ok (.aload_n 0, 1) := by decide +kernel
theorem dX5_better_2 : decode cX5_better 2 = .ok (.getfield 12, 3) := by decide +kernel
theorem dX5_better_5 : decode cX5_better 5 = .ok (.bipush 63, 2) := by decide +kernel
theorem dX5_better_7 : decode cX5_better 7 = .ok (.invokevirtual 160, 3) := by decide +kernel
theorem dX5_better_10 : decode cX5_better 10 = .ok (.istore_n 1, 1) := by decide +kernel
theorem dX5_better_11 : decode cX5_better 11 = .ok (.aload_n 0, 1) := by decide +kernel
theorem dX5_better_12 : decode cX5_better 12 = .ok (.getfield 19, 3) := by decide +kernel
theorem dX5_better_15 : decode cX5_better 15 = .ok (.aload_n 0, 1) := by decide +kernel
theorem dX5_better_16 : decode cX5_better 16 = .ok (.getfield 12, 3) := by decide +kernel
theorem dX5_better_19 : decode cX5_better 19 = .ok (.invokevirtual 166, 3) := by decide +kernel
theorem dX5_better_22 : decode cX5_better 22 = .ok (.aload_n 0, 1) := by decide +kernel
theorem dX5_better_23 : decode cX5_better 23 = .ok (.getfield 19, 3) := by decide +kernel
theorem dX5_better_26 : decode cX5_better 26 = .ok (.bipush 9, 2) := by decide +kernel
theorem dX5_better_28 : decode cX5_better 28 = .ok (.aload_n 0, 1) := by decide +kernel
theorem dX5_better_29 : decode cX5_better 29 = .ok (.getfield 12, 3) := by decide +kernel
theorem dX5_better_32 : decode cX5_better 32 = .ok (.getfield 96, 3) := by decide +kernel
theorem dX5_better_35 : decode cX5_better 35 = .ok (.iconst 1, 1) := by decide +kernel
theorem dX5_better_36 : decode cX5_better 36 = .ok (.iadd, 1) := by decide +kernel
theorem dX5_better_37 : decode cX5_better 37 = .ok (.invokestatic 175, 3) := by decide +kernel
theorem dX5_better_40 : decode cX5_better 40 = .ok (.putfield 96, 3) := by decide +kernel
theorem dX5_better_43 : decode cX5_better 43 = .ok (.aload_n 0, 1) := by decide +kernel
theorem dX5_better_44 : decode cX5_better 44 = .ok (.aload_n 0, 1) := by decide +kernel
theorem dX5_better_45 : decode cX5_better 45 = .ok (.getfield 19, 3) := by decide +kernel
theorem dX5_better_48 : decode cX5_better 48 = .ok (.bipush 63, 2) := by decide +kernel
theorem dX5_better_50 : decode cX5_better 50 = .ok (.invokevirtual 160, 3) := by decide +kernel
theorem dX5_better_53 : decode cX5_better 53 = .ok (.iload_n 1, 1) := by decide +kernel
theorem dX5_better_54 : decode cX5_better 54 = .ok (.isub, 1) := by decide +kernel
theorem dX5_better_55 : decode cX5_better 55 = .ok (.ireturn, 1) := by decide +kernel
theorem dX5_order_0 : decode cX5_order 0 = .ok (.iload_n 1, 1) := by decide +kernel
theorem dX5_order_1 : decode cX5_order 1 = .ok (.iconst 1, 1) := by decide +kernel
theorem dX5_order_2 : decode cX5_order 2 = .ok (.bipush 9, 2) := by decide +kernel
theorem dX5_order_4 : decode cX5_order 4 = .ok (.invokestatic 59, 3) := by decide +kernel
theorem dX5_order_7 : decode cX5_order 7 = .ok (.ifCond .eq 13, 3) := by decide +kernel
theorem dX5_order_10 : decode cX5_order 10 = .ok (.iload_n 2, 1) := by decide +kernel
theorem dX5_order_11 : decode cX5_order 11 = .ok (.iconst 1, 1) := by decide +kernel
theorem dX5_order_12 : decode cX5_order 12 = .ok (.bipush 9, 2) := by decide +kernel
theorem dX5_order_14 : decode cX5_order 14 = .ok (.invokestatic 59, 3) := by decide +kernel
theorem dX5_order_17 : decode cX5_order 17 = .ok (.ifCond .ne 6, 3) := by decide +kernel
theorem dX5_order_20 : decode cX5_order 20 = .ok (.bipush (-2), 2) := by decide +kernel
theorem dX5_order_22 : decode cX5_order 22 = .ok (.ireturn, 1) := by decide +kernel
theorem dX5_order_23 : decode cX5_order 23 = .ok (.aload_n 0, 1) := by decide +kernel
theorem dX5_order_24 : decode cX5_order 24 = .ok (.getfield 22, 3) := by decide +kernel
theorem dX5_order_27 : decode cX5_order 27 = .ok (.aload_n 0, 1) := by decide +kernel
theorem dX5_order_28 : decode cX5_order 28 = .ok (.getfield 12, 3) := by decide +kernel
theorem dX5_order_31 : decode cX5_order 31 = .ok (.invokevirtual 166, 3) := by decide +kernel
theorem dX5_order_34 : decode cX5_order 34 = .ok (.aload_n 0, 1) := by decide +kernel
theorem dX5_order_35 : decode cX5_order 35 = .ok (.getfield 22, 3) := by decide +kernel
theorem dX5_order_38 : decode cX5_order 38 = .ok (.iload_n 1, 1) := by decide +kernel
theorem dX5_order_39 : decode cX5_order 39 = .ok (.putfield 96, 3) := by decide +kernel
theorem dX5_order_42 : decode cX5_order 42 = .ok (.aload_n 0, 1) := by decide +kernel
theorem dX5_order_43 : decode cX5_order 43 = .ok (.getfield 44, 3) := by decide +kernel
theorem dX5_order_46 : decode cX5_order 46 = .ok (.aload_n 0, 1) := by decide +kernel
theorem dX5_order_47 : decode cX5_order 47 = .ok (.getfield 22, 3) := by decide +kernel
theorem dX5_order_50 : decode cX5_order 50 = .ok (.bipush 63, 2) := by decide +kernel
theorem dX5_order_52 : decode cX5_order 52 = .ok (.invokevirtual 151, 3) := by decide +kernel
theorem dX5_order_55 : decode cX5_order 55 = .ok (.pop, 1) := by decide +kernel
theorem dX5_order_56 : decode cX5_order 56 = .ok (.aload_n 0, 1) := by decide +kernel
theorem dX5_order_57 : decode cX5_order 57 = .ok (.getfield 22, 3) := by decide +kernel
theorem dX5_order_60 : decode cX5_order 60 = .ok (.iload_n 2, 1) := by decide +kernel
theorem dX5_order_61 : decode cX5_order 61 = .ok (.putfield 96, 3) := by decide +kernel
theorem dX5_order_64 : decode cX5_order 64 = .ok (.aload_n 0, 1) := by decide +kernel
theorem dX5_order_65 : decode cX5_order 65 = .ok (.getfield 44, 3) := by decide +kernel
theorem dX5_order_68 : decode cX5_order 68 = .ok (.aload_n 0, 1) := by decide +kernel
theorem dX5_order_69 : decode cX5_order 69 = .ok (.getfield 22, 3) := by decide +kernel
theorem dX5_order_72 : decode cX5_order 72 = .ok (.bipush 63, 2) := by decide +kernel
theorem dX5_order_74 : decode cX5_order 74 = .ok (.invokevirtual 151, 3) := by decide +kernel
theorem dX5_order_77 : decode cX5_order 77 = .ok (.ireturn, 1) := by decide +kernel
theorem dX5_pot_0 : decode cX5_pot 0 = .ok (.aload_n 0, 1) := by decide +kernel
theorem dX5_pot_1 : decode cX5_pot 1 = .ok (.getfield 12, 3) := by decide +kernel
theorem dX5_pot_4 : decode cX5_pot 4 = .ok (.getfield 180, 3) := by decide +kernel
theorem dX5_pot_7 : decode cX5_pot 7 = .ok (.ifCond .ne 5, 3) := by decide +kernel
theorem dX5_pot_10 : decode cX5_pot 10 = .ok (.iconst (-1), 1) := by decide +kernel
theorem dX5_pot_11 : decode cX5_pot 11 = .ok (.ireturn, 1) := by decide +kernel
theorem dX5_pot_12 : decode cX5_pot 12 = .ok (.iconst 0, 1) := by decide +kernel
theorem dX5_pot_13 : decode cX5_pot 13 = .ok (.istore_n 1, 1) := by decide +kernel
theorem dX5_pot_14 : decode cX5_pot 14 = .ok (.aload_n 0, 1) := by decide +kernel
theorem dX5_pot_15 : decode cX5_pot 15 = .ok (.getfield 12, 3) := by decide +kernel
theorem dX5_pot_18 : decode cX5_pot 18 = .ok (.iconst 0, 1) := by decide +kernel
theorem dX5_pot_19 : decode cX5_pot 19 = .ok (.invokevirtual 183, 3) := by decide +kernel
theorem dX5_pot_22 : decode cX5_pot 22 = .ok (.istore_n 2, 1) := by decide +kernel
theorem dX5_pot_23 : decode cX5_pot 23 = .ok (.iconst 1, 1) := by decide +kernel
theorem dX5_pot_24 : decode cX5_pot 24 = .ok (.istore_n 3, 1) := by decide +kernel
theorem dX5_pot_25 : decode cX5_pot 25 = .ok (.iload_n 3, 1) := by decide +kernel
theorem dX5_pot_26 : decode cX5_pot 26 = .ok (.bipush 48, 2) := by decide +kernel
theorem dX5_pot_28 : decode cX5_pot 28 = .ok (.if_icmp .ge 30, 3) := by decide +kernel
theorem dX5_pot_31 : decode cX5_pot 31 = .ok (.aload_n 0, 1) := by decide +kernel
theorem dX5_pot_32 : decode cX5_pot 32 = .ok (.getfield 12, 3) := by decide +kernel
theorem dX5_pot_35 : decode cX5_pot 35 = .ok (.iload_n 3, 1) := by decide +kernel
theorem dX5_pot_36 : decode cX5_pot 36 = .ok (.invokevirtual 183, 3) := by decide +kernel
theorem dX5_pot_39 : decode cX5_pot 39 = .ok (.istore 4, 2) := by decide +kernel
theorem dX5_pot_41 : decode cX5_pot 41 = .ok (.iload 4, 2) := by decide +kernel
theorem dX5_pot_43 : decode cX5_pot 43 = .ok (.iload_n 2, 1) := by decide +kernel
theorem dX5_pot_44 : decode cX5_pot 44 = .ok (.if_icmp .ge 8, 3) := by decide +kernel
theorem dX5_pot_47 : decode cX5_pot 47 = .ok (.iload 4, 2) := by decide +kernel
theorem dX5_pot_49 : decode cX5_pot 49 = .ok (.istore_n 2, 1) := by decide +kernel
theorem dX5_pot_50 : decode cX5_pot 50 = .ok (.iload_n 3, 1) := by decide +kernel
theorem dX5_pot_51 : decode cX5_pot 51 = .ok (.istore_n 1, 1) := by decide +kernel
theorem dX5_pot_52 : decode cX5_pot 52 = .ok (.iinc 3 1, 3) := by decide +kernel
theorem dX5_pot_55 : decode cX5_pot 55 = .ok (.goto (-30), 3) := by decide +kernel
theorem dX5_pot_58 : decode cX5_pot 58 = .ok (.iload_n 1, 1) := by decide +kernel
theorem dX5_pot_59 : decode cX5_pot 59 = .ok (.ireturn, 1) := by decide +kernel
theorem dX5_came_0 : decode cX5_came 0 = .ok (.aload_n 0, 1) := by decide +kernel
theorem dX5_came_1 : decode cX5_came 1 = .ok (.getfield 12, 3) := by decide +kernel
theorem dX5_came_4 : decode cX5_came 4 = .ok (.iload_n 1, 1) := by decide +kernel
theorem dX5_came_5 : decode cX5_came 5 = .ok (.invokevirtual 99, 3) := by decide +kernel
theorem dX5_came_8 : decode cX5_came 8 = .ok (.ifCond .eq 13, 3) := by decide +kernel
theorem dX5_came_11 : decode cX5_came 11 = .ok (.iload_n 2, 1) := by decide +kernel
theorem dX5_came_12 : decode cX5_came 12 = .ok (.iconst 0, 1) := by decide +kernel
theorem dX5_came_13 : decode cX5_came 13 = .ok (.bipush 20, 2) := by decide +kernel
theorem dX5_came_15 : decode cX5_came 15 = .ok (.invokestatic 59, 3) := by decide +kernel
theorem dX5_came_18 : decode cX5_came 18 = .ok (.ifCond .ne 6, 3) := by decide +kernel
theorem dX5_came_21 : decode cX5_came 21 = .ok (.bipush (-2), 2) := by decide +kernel
theorem dX5_came_23 : decode cX5_came 23 = .ok (.ireturn, 1) := by decide +kernel
theorem dX5_came_24 : decode cX5_came 24 = .ok (.aload_n 0, 1) := by decide +kernel
theorem dX5_came_25 : decode cX5_came 25 = .ok (.getfield 12, 3) := by decide +kernel
theorem dX5_came_28 : decode cX5_came 28 = .ok (.getfield 78, 3) := by decide +kernel
theorem dX5_came_31 : decode cX5_came 31 = .ok (.iload_n 1, 1) := by decide +kernel
theorem dX5_came_32 : decode cX5_came 32 = .ok (.iaload, 1) := by decide +kernel
theorem dX5_came_33 : decode cX5_came 33 = .ok (.istore_n 3, 1) := by decide +kernel
theorem dX5_came_34 : decode cX5_came 34 = .ok (.aload_n 0, 1) := by decide +kernel
theorem dX5_came_35 : decode cX5_came 35 = .ok (.getfield 12, 3) := by decide +kernel
theorem dX5_came_38 : decode cX5_came 38 = .ok (.getfield 86, 3) := by decide +kernel
theorem dX5_came_41 : decode cX5_came 41 = .ok (.iload_n 1, 1) := by decide +kernel
theorem dX5_came_42 : decode cX5_came 42 = .ok (.iaload, 1) := by decide +kernel
theorem dX5_came_43 : decode cX5_came 43 = .ok (.istore 4, 2) := by decide +kernel
theorem dX5_came_45 : decode cX5_came 45 = .ok (.iload_n 3, 1) := by decide +kernel
theorem dX5_came_46 : decode cX5_came 46 = .ok (.bipush 8, 2) := by decide +kernel
theorem dX5_came_48 : decode cX5_came 48 = .ok (.irem, 1) := by decide +kernel
theorem dX5_came_49 : decode cX5_came 49 = .ok (.istore 5, 2) := by decide +kernel
theorem dX5_came_51 : decode cX5_came 51 = .ok (.iconst 1, 1) := by decide +kernel
theorem dX5_came_52 : decode cX5_came 52 = .ok (.istore 6, 2) := by decide +kernel
theorem dX5_came_54 : decode cX5_came 54 = .ok (.iload 6, 2) := by decide +kernel
theorem dX5_came_56 : decode cX5_came 56 = .ok (.iload_n 2, 1) := by decide +kernel
theorem dX5_came_57 : decode cX5_came 57 = .ok (.if_icmp .gt 88, 3) := by decide +kernel
theorem dX5_came_60 : decode cX5_came 60 = .ok (.iload 4, 2) := by decide +kernel
theorem dX5_came_62 : decode cX5_came 62 = .ok (.bipush 12, 2) := by decide +kernel
theorem dX5_came_64 : decode cX5_came 64 = .ok (.if_icmp .gt 11, 3) := by decide +kernel
theorem dX5_came_67 : decode cX5_came 67 = .ok (.bipush 12, 2) := by decide +kernel
theorem dX5_came_69 : decode cX5_came 69 = .ok (.iload 4, 2) := by decide +kernel
theorem dX5_came_71 : decode cX5_came 71 = .ok (.isub, 1) := by decide +kernel
theorem dX5_came_72 : decode cX5_came 72 = .ok (.goto 12, 3) := by decide +kernel
theorem dX5_came_75 : decode cX5_came 75 = .ok (.bipush 20, 2) := by decide +kernel
theorem dX5_came_77 : decode cX5_came 77 = .ok (.iload 4, 2) := by decide +kernel
theorem dX5_came_79 : decode cX5_came 79 = .ok (.iconst 1, 1) := by decide +kernel
theorem dX5_came_80 : decode cX5_came 80 = .ok (.iadd, 1) := by decide +kernel
theorem dX5_came_81 : decode cX5_came 81 = .ok (.invokestatic 175, 3) := by decide +kernel
theorem dX5_came_84 : decode cX5_came 84 = .ok (.istore 4, 2) := by decide +kernel
theorem dX5_came_86 : decode cX5_came 86 = .ok (.aload_n 0, 1) := by decide +kernel
theorem dX5_came_87 : decode cX5_came 87 = .ok (.getfield 12, 3) := by decide +kernel
theorem dX5_came_90 : decode cX5_came 90 = .ok (.getfield 105, 3) := by decide +kernel
theorem dX5_came_93 : decode cX5_came 93 = .ok (.iload_n 1, 1) := by decide +kernel
theorem dX5_came_94 : decode cX5_came 94 = .ok (.iaload, 1) := by decide +kernel
theorem dX5_came_95 : decode cX5_came 95 = .ok (.aload_n 0, 1) := by decide +kernel
theorem dX5_came_96 : decode cX5_came 96 = .ok (.getfield 12, 3) := by decide +kernel
theorem dX5_came_99 : decode cX5_came 99 = .ok (.getfield 89, 3) := by decide +kernel
theorem dX5_came_102 : decode cX5_came 102 = .ok (.iload_n 1, 1) := by decide +kernel
theorem dX5_came_103 : decode cX5_came 103 = .ok (.iaload, 1) := by decide +kernel
theorem dX5_came_104 : decode cX5_came 104 = .ok (.iload 4, 2) := by decide +kernel
theorem dX5_came_106 : decode cX5_came 106 = .ok (.invokestatic 118, 3) := by decide +kernel
theorem dX5_came_109 : decode cX5_came 109 = .ok (.istore 7, 2) := by decide +kernel
theorem dX5_came_111 : decode cX5_came 111 = .ok (.iload 5, 2) := by decide +kernel
theorem dX5_came_113 : decode cX5_came 113 = .ok (.aload_n 0, 1) := by decide +kernel
theorem dX5_came_114 : decode cX5_came 114 = .ok (.getfield 12, 3) := by decide +kernel
theorem dX5_came_117 : decode cX5_came 117 = .ok (.getfield 157, 3) := by decide +kernel
theorem dX5_came_120 : decode cX5_came 120 = .ok (.iload 6, 2) := by decide +kernel
theorem dX5_came_122 : decode cX5_came 122 = .ok (.isub, 1) := by decide +kernel
theorem dX5_came_123 : decode cX5_came 123 = .ok (.iconst 2, 1) := by decide +kernel
theorem dX5_came_124 : decode cX5_came 124 = .ok (.irem, 1) := by decide +kernel
theorem dX5_came_125 : decode cX5_came 125 = .ok (.ifCond .ne 9, 3) := by decide +kernel
theorem dX5_came_128 : decode cX5_came 128 = .ok (.iload 7, 2) := by decide +kernel
theorem dX5_came_130 : decode cX5_came 130 = .ok (.ineg, 1) := by decide +kernel
theorem dX5_came_131 : decode cX5_came 131 = .ok (.goto 5, 3) := by decide +kernel
theorem dX5_came_134 : decode cX5_came 134 = .ok (.iload 7, 2) := by decide +kernel
theorem dX5_came_136 : decode cX5_came 136 = .ok (.iadd, 1) := by decide +kernel
theorem dX5_came_137 : decode cX5_came 137 = .ok (.istore 5, 2) := by decide +kernel
theorem dX5_came_139 : decode cX5_came 139 = .ok (.iinc 6 1, 3) := by decide +kernel
theorem dX5_came_142 : decode cX5_came 142 = .ok (.goto (-88), 3) := by decide +kernel
theorem dX5_came_145 : decode cX5_came 145 = .ok (.iload_n 3, 1) := by decide +kernel
theorem dX5_came_146 : decode cX5_came 146 = .ok (.iload_n 3, 1) := by decide +kernel
theorem dX5_came_147 : decode cX5_came 147 = .ok (.bipush 8, 2) := by decide +kernel
theorem dX5_came_149 : decode cX5_came 149 = .ok (.irem, 1) := by decide +kernel
theorem dX5_came_150 : decode cX5_came 150 = .ok (.isub, 1) := by decide +kernel
theorem dX5_came_151 : decode cX5_came 151 = .ok (.iload 5, 2) := by decide +kernel
theorem dX5_came_153 : decode cX5_came 153 = .ok (.bipush 7, 2) := by decide +kernel
theorem dX5_came_155 : decode cX5_came 155 = .ok (.invokestatic 186, 3) := by decide +kernel
theorem dX5_came_158 : decode cX5_came 158 = .ok (.iadd, 1) := by decide +kernel
theorem dX5_came_159 : decode cX5_came 159 = .ok (.ireturn, 1) := by decide +kernel
theorem dX5_dots_0 : decode cX5_dots 0 = .ok (.iload_n 1, 1) := by decide +kernel
theorem dX5_dots_1 : decode cX5_dots 1 = .ok (.invokestatic 63, 3) := by decide +kernel
theorem dX5_dots_4 : decode cX5_dots 4 = .ok (.ifCond .ne 6, 3) := by decide +kernel
theorem dX5_dots_7 : decode cX5_dots 7 = .ok (.bipush (-2), 2) := by decide +kernel
theorem dX5_dots_9 : decode cX5_dots 9 = .ok (.ireturn, 1) := by decide +kernel
theorem dX5_dots_10 : decode cX5_dots 10 = .ok (.aload_n 0, 1) := by decide +kernel
theorem dX5_dots_11 : decode cX5_dots 11 = .ok (.getfield 12, 3) := by decide +kernel
theorem dX5_dots_14 : decode cX5_dots 14 = .ok (.iload_n 1, 1) := by decide +kernel
theorem dX5_dots_15 : decode cX5_dots 15 = .ok (.invokevirtual 189, 3) := by decide +kernel
theorem dX5_dots_18 : decode cX5_dots 18 = .ok (.ireturn, 1) := by decide +kernel
theorem dX5_thick_0 : decode cX5_thick 0 = .ok (.iconst (-1), 1) := by decide +kernel
theorem dX5_thick_1 : decode cX5_thick 1 = .ok (.istore_n 1, 1) := by decide +kernel
theorem dX5_thick_2 : decode cX5_thick 2 = .ok (.iconst 0, 1) := by decide +kernel
theorem dX5_thick_3 : decode cX5_thick 3 = .ok (.istore_n 2, 1) := by decide +kernel
theorem dX5_thick_4 : decode cX5_thick 4 = .ok (.iconst 0, 1) := by decide +kernel
theorem dX5_thick_5 : decode cX5_thick 5 = .ok (.istore_n 3, 1) := by decide +kernel
theorem dX5_thick_6 : decode cX5_thick 6 = .ok (.iload_n 3, 1) := by decide +kernel
theorem dX5_thick_7 : decode cX5_thick 7 = .ok (.bipush 48, 2) := by decide +kernel
theorem dX5_thick_9 : decode cX5_thick 9 = .ok (.if_icmp .ge 30, 3) := by decide +kernel
theorem dX5_thick_12 : decode cX5_thick 12 = .ok (.aload_n 0, 1) := by decide +kernel
theorem dX5_thick_13 : decode cX5_thick 13 = .ok (.getfield 12, 3) := by decide +kernel
theorem dX5_thick_16 : decode cX5_thick 16 = .ok (.iload_n 3, 1) := by decide +kernel
theorem dX5_thick_17 : decode cX5_thick 17 = .ok (.invokevirtual 189, 3) := by decide +kernel
theorem dX5_thick_20 : decode cX5_thick 20 = .ok (.istore 4, 2) := by decide +kernel
theorem dX5_thick_22 : decode cX5_thick 22 = .ok (.iload 4, 2) := by decide +kernel
theorem dX5_thick_24 : decode cX5_thick 24 = .ok (.iload_n 2, 1) := by decide +kernel
theorem dX5_thick_25 : decode cX5_thick 25 = .ok (.if_icmp .le 8, 3) := by decide +kernel
theorem dX5_thick_28 : decode cX5_thick 28 = .ok (.iload 4, 2) := by decide +kernel
theorem dX5_thick_30 : decode cX5_thick 30 = .ok (.istore_n 2, 1) := by decide +kernel
theorem dX5_thick_31 : decode cX5_thick 31 = .ok (.iload_n 3, 1) := by decide +kernel
theorem dX5_thick_32 : decode cX5_thick 32 = .ok (.istore_n 1, 1) := by decide +kernel
theorem dX5_thick_33 : decode cX5_thick 33 = .ok (.iinc 3 1, 3) := by decide +kernel
theorem dX5_thick_36 : decode cX5_thick 36 = .ok (.goto (-30), 3) := by decide +kernel
theorem dX5_thick_39 : decode cX5_thick 39 = .ok (.iload_n 1, 1) := by decide +kernel
theorem dX5_thick_40 : decode cX5_thick 40 = .ok (.ireturn, 1) := by decide +kernel
theorem dX5_judge_0 : decode cX5_judge 0 = .ok (.iload_n 1, 1) := by decide +kernel
theorem dX5_judge_1 : decode cX5_judge 1 = .ok (.invokestatic 192, 3) := by decide +kernel
theorem dX5_judge_4 : decode cX5_judge 4 = .ok (.ifCond .eq 12, 3) := by decide +kernel
theorem dX5_judge_7 : decode cX5_judge 7 = .ok (.iload_n 2, 1) := by decide +kernel
theorem dX5_judge_8 : decode cX5_judge 8 = .ok (.iconst 0, 1) := by decide +kernel
theorem dX5_judge_9 : decode cX5_judge 9 = .ok (.iconst 1, 1) := by decide +kernel
theorem dX5_judge_10 : decode cX5_judge 10 = .ok (.invokestatic 59, 3) := by decide +kernel
theorem dX5_judge_13 : decode cX5_judge 13 = .ok (.ifCond .ne 6, 3) := by decide +kernel
theorem dX5_judge_16 : decode cX5_judge 16 = .ok (.bipush (-2), 2) := by decide +kernel
theorem dX5_judge_18 : decode cX5_judge 18 = .ok (.ireturn, 1) := by decide +kernel
theorem dX5_judge_19 : decode cX5_judge 19 = .ok (.aload_n 0, 1) := by decide +kernel
theorem dX5_judge_20 : decode cX5_judge 20 = .ok (.getfield 51, 3) := by decide +kernel
theorem dX5_judge_23 : decode cX5_judge 23 = .ok (.iload_n 1, 1) := by decide +kernel
theorem dX5_judge_24 : decode cX5_judge 24 = .ok (.invokevirtual 195, 3) := by decide +kernel
theorem dX5_judge_27 : decode cX5_judge 27 = .ok (.iconst (-1), 1) := by decide +kernel
theorem dX5_judge_28 : decode cX5_judge 28 = .ok (.if_icmp .ne 6, 3) := by decide +kernel
theorem dX5_judge_31 : decode cX5_judge 31 = .ok (.bipush (-11), 2) := by decide +kernel
theorem dX5_judge_33 : decode cX5_judge 33 = .ok (.ireturn, 1) := by decide +kernel
theorem dX5_judge_34 : decode cX5_judge 34 = .ok (.iconst (-1), 1) := by decide +kernel
theorem dX5_judge_35 : decode cX5_judge 35 = .ok (.istore_n 3, 1) := by decide +kernel
theorem dX5_judge_36 : decode cX5_judge 36 = .ok (.iconst 0, 1) := by decide +kernel
theorem dX5_judge_37 : decode cX5_judge 37 = .ok (.istore 4, 2) := by decide +kernel
theorem dX5_judge_39 : decode cX5_judge 39 = .ok (.iconst 0, 1) := by decide +kernel
theorem dX5_judge_40 : decode cX5_judge 40 = .ok (.istore 5, 2) := by decide +kernel
theorem dX5_judge_42 : decode cX5_judge 42 = .ok (.iload 5, 2) := by decide +kernel
theorem dX5_judge_44 : decode cX5_judge 44 = .ok (.aload_n 0, 1) := by decide +kernel
theorem dX5_judge_45 : decode cX5_judge 45 = .ok (.getfield 51, 3) := by decide +kernel
theorem dX5_judge_48 : decode cX5_judge 48 = .ok (.iload_n 1, 1) := by decide +kernel
theorem dX5_judge_49 : decode cX5_judge 49 = .ok (.invokevirtual 198, 3) := by decide +kernel
theorem dX5_judge_52 : decode cX5_judge 52 = .ok (.if_icmp .ge 45, 3) := by decide +kernel
theorem dX5_judge_55 : decode cX5_judge 55 = .ok (.aload_n 0, 1) := by decide +kernel
theorem dX5_judge_56 : decode cX5_judge 56 = .ok (.getfield 51, 3) := by decide +kernel
theorem dX5_judge_59 : decode cX5_judge 59 = .ok (.iload_n 1, 1) := by decide +kernel
theorem dX5_judge_60 : decode cX5_judge 60 = .ok (.iload 5, 2) := by decide +kernel
theorem dX5_judge_62 : decode cX5_judge 62 = .ok (.invokevirtual 201, 3) := by decide +kernel
theorem dX5_judge_65 : decode cX5_judge 65 = .ok (.aload_n 0, 1) := by decide +kernel
theorem dX5_judge_66 : decode cX5_judge 66 = .ok (.getfield 12, 3) := by decide +kernel
theorem dX5_judge_69 : decode cX5_judge 69 = .ok (.iload 5, 2) := by decide +kernel
theorem dX5_judge_71 : decode cX5_judge 71 = .ok (.invokevirtual 189, 3) := by decide +kernel
theorem dX5_judge_74 : decode cX5_judge 74 = .ok (.if_icmp .ne 6, 3) := by decide +kernel
theorem dX5_judge_77 : decode cX5_judge 77 = .ok (.goto 14, 3) := by decide +kernel
theorem dX5_judge_80 : decode cX5_judge 80 = .ok (.iinc 4 1, 3) := by decide +kernel
theorem dX5_judge_83 : decode cX5_judge 83 = .ok (.iload_n 3, 1) := by decide +kernel
theorem dX5_judge_84 : decode cX5_judge 84 = .ok (.iconst (-1), 1) := by decide +kernel
theorem dX5_judge_85 : decode cX5_judge 85 = .ok (.if_icmp .ne 6, 3) := by decide +kernel
theorem dX5_judge_88 : decode cX5_judge 88 = .ok (.iload 5, 2) := by decide +kernel
theorem dX5_judge_90 : decode cX5_judge 90 = .ok (.istore_n 3, 1) := by decide +kernel
theorem dX5_judge_91 : decode cX5_judge 91 = .ok (.iinc 5 1, 3) := by decide +kernel
theorem dX5_judge_94 : decode cX5_judge 94 = .ok (.goto (-52), 3) := by decide +kernel
theorem dX5_judge_97 : decode cX5_judge 97 = .ok (.iload_n 2, 1) := by decide +kernel
theorem dX5_judge_98 : decode cX5_judge 98 = .ok (.ifCond .ne 7, 3) := by decide +kernel
theorem dX5_judge_101 : decode cX5_judge 101 = .ok (.iload_n 3, 1) := by decide +kernel
theorem dX5_judge_102 : decode cX5_judge 102 = .ok (.goto 5, 3) := by decide +kernel
theorem dX5_judge_105 : decode cX5_judge 105 = .ok (.iload 4, 2) := by decide +kernel
theorem dX5_judge_107 : decode cX5_judge 107 = .ok (.ireturn, 1) := by decide +kernel
theorem dX5_unseen_0 : decode cX5_unseen 0 = .ok (.aload_n 0, 1) := by decide +kernel
theorem dX5_unseen_1 : decode cX5_unseen 1 = .ok (.getfield 12, 3) := by decide +kernel
theorem dX5_unseen_4 : decode cX5_unseen 4 = .ok (.invokevirtual 204, 3) := by decide +kernel
theorem dX5_unseen_7 : decode cX5_unseen 7 = .ok (.aload_n 0, 1) := by decide +kernel
theorem dX5_unseen_8 : decode cX5_unseen 8 = .ok (.getfield 12, 3) := by decide +kernel
theorem dX5_unseen_11 : decode cX5_unseen 11 = .ok (.getfield 148, 3) := by decide +kernel
theorem dX5_unseen_14 : decode cX5_unseen 14 = .ok (.iconst (-1), 1) := by decide +kernel
theorem dX5_unseen_15 : decode cX5_unseen 15 = .ok (.ixor, 1) := by decide +kernel
theorem dX5_unseen_16 : decode cX5_unseen 16 = .ok (.iand, 1) := by decide +kernel
theorem dX5_unseen_17 : decode cX5_unseen 17 = .ok (.ireturn, 1) := by decide +kernel
theorem dX5_left_0 : decode cX5_left 0 = .ok (.iload_n 1, 1) := by decide +kernel
theorem dX5_left_1 : decode cX5_left 1 = .ok (.iconst 0, 1) := by decide +kernel
theorem dX5_left_2 : decode cX5_left 2 = .ok (.iconst 1, 1) := by decide +kernel
theorem dX5_left_3 : decode cX5_left 3 = .ok (.invokestatic 59, 3) := by decide +kernel
theorem dX5_left_6 : decode cX5_left 6 = .ok (.ifCond .ne 6, 3) := by decide +kernel
theorem dX5_left_9 : decode cX5_left 9 = .ok (.bipush (-2), 2) := by decide +kernel
theorem dX5_left_11 : decode cX5_left 11 = .ok (.ireturn, 1) := by decide +kernel
end
section
theorem dX5_left_12 : decode cX5_left 12 = .ok (.iload_n 1, 1) := by decide +kernel
theorem dX5_left_13 : decode cX5_left 13 = .ok (.ifCond .ne 13, 3) := by decide +kernel
theorem dX5_left_16 : decode cX5_left 16 = .ok (.aload_n 0, 1) := by decide +kernel
theorem dX5_left_17 : decode cX5_left 17 = .ok (.getfield 12, 3) := by decide +kernel
theorem dX5_left_20 : decode cX5_left 20 = .ok (.invokevirtual 207, 3) := by decide +kernel
theorem dX5_left_23 : decode cX5_left 23 = .ok (.goto 7, 3) := by decide +kernel
theorem dX5_left_26 : decode cX5_left 26 = .ok (.aload_n 0, 1) := by decide +kernel
theorem dX5_left_27 : decode cX5_left 27 = .ok (.invokevirtual 210, 3) := by decide +kernel
theorem dX5_left_30 : decode cX5_left 30 = .ok (.ireturn, 1) := by decide +kernel
theorem dX5_neverHeard_0 : decode cX5_neverHeard 0 = .ok (.aload_n 0, 1) := by decide +kernel
theorem dX5_neverHeard_1 : decode cX5_neverHeard 1 = .ok (.getfield 22, 3) := by decide +kernel
theorem dX5_neverHeard_4 : decode cX5_neverHeard 4 = .ok (.aload_n 0, 1) := by decide +kernel
theorem dX5_neverHeard_5 : decode cX5_neverHeard 5 = .ok (.getfield 12, 3) := by decide +kernel
theorem dX5_neverHeard_8 : decode cX5_neverHeard 8 = .ok (.invokevirtual 166, 3) := by decide +kernel
theorem dX5_neverHeard_11 : decode cX5_neverHeard 11 = .ok (.iconst 0, 1) := by decide +kernel
theorem dX5_neverHeard_12 : decode cX5_neverHeard 12 = .ok (.istore_n 1, 1) := by decide +kernel
theorem dX5_neverHeard_13 : decode cX5_neverHeard 13 = .ok (.iconst 1, 1) := by decide +kernel
theorem dX5_neverHeard_14 : decode cX5_neverHeard 14 = .ok (.istore_n 2, 1) := by decide +kernel
theorem dX5_neverHeard_15 : decode cX5_neverHeard 15 = .ok (.iload_n 2, 1) := by decide +kernel
theorem dX5_neverHeard_16 : decode cX5_neverHeard 16 = .ok (.bipush 9, 2) := by decide +kernel
theorem dX5_neverHeard_18 : decode cX5_neverHeard 18 = .ok (.if_icmp .gt 31, 3) := by decide +kernel
theorem dX5_neverHeard_21 : decode cX5_neverHeard 21 = .ok (.aload_n 0, 1) := by decide +kernel
theorem dX5_neverHeard_22 : decode cX5_neverHeard 22 = .ok (.getfield 22, 3) := by decide +kernel
theorem dX5_neverHeard_25 : decode cX5_neverHeard 25 = .ok (.iload_n 2, 1) := by decide +kernel
theorem dX5_neverHeard_26 : decode cX5_neverHeard 26 = .ok (.putfield 96, 3) := by decide +kernel
theorem dX5_neverHeard_29 : decode cX5_neverHeard 29 = .ok (.iload_n 1, 1) := by decide +kernel
theorem dX5_neverHeard_30 : decode cX5_neverHeard 30 = .ok (.aload_n 0, 1) := by decide +kernel
theorem dX5_neverHeard_31 : decode cX5_neverHeard 31 = .ok (.getfield 44, 3) := by decide +kernel
theorem dX5_neverHeard_34 : decode cX5_neverHeard 34 = .ok (.aload_n 0, 1) := by decide +kernel
theorem dX5_neverHeard_35 : decode cX5_neverHeard 35 = .ok (.getfield 22, 3) := by decide +kernel
theorem dX5_neverHeard_38 : decode cX5_neverHeard 38 = .ok (.invokevirtual 213, 3) := by decide +kernel
theorem dX5_neverHeard_41 : decode cX5_neverHeard 41 = .ok (.ior, 1) := by decide +kernel
theorem dX5_neverHeard_42 : decode cX5_neverHeard 42 = .ok (.istore_n 1, 1) := by decide +kernel
theorem dX5_neverHeard_43 : decode cX5_neverHeard 43 = .ok (.iinc 2 1, 3) := by decide +kernel
theorem dX5_neverHeard_46 : decode cX5_neverHeard 46 = .ok (.goto (-31), 3) := by decide +kernel
theorem dX5_neverHeard_49 : decode cX5_neverHeard 49 = .ok (.aload_n 0, 1) := by decide +kernel
theorem dX5_neverHeard_50 : decode cX5_neverHeard 50 = .ok (.getfield 12, 3) := by decide +kernel
theorem dX5_neverHeard_53 : decode cX5_neverHeard 53 = .ok (.invokevirtual 207, 3) := by decide +kernel
theorem dX5_neverHeard_56 : decode cX5_neverHeard 56 = .ok (.iload_n 1, 1) := by decide +kernel
theorem dX5_neverHeard_57 : decode cX5_neverHeard 57 = .ok (.invokestatic 170, 3) := by decide +kernel
theorem dX5_neverHeard_60 : decode cX5_neverHeard 60 = .ok (.isub, 1) := by decide +kernel
theorem dX5_neverHeard_61 : decode cX5_neverHeard 61 = .ok (.ireturn, 1) := by decide +kernel
theorem dX5_drawn_0 : decode cX5_drawn 0 = .ok (.aload_n 0, 1) := by decide +kernel
theorem dX5_drawn_1 : decode cX5_drawn 1 = .ok (.iload_n 1, 1) := by decide +kernel
theorem dX5_drawn_2 : decode cX5_drawn 2 = .ok (.invokevirtual 217, 3) := by decide +kernel
theorem dX5_drawn_5 : decode cX5_drawn 5 = .ok (.ireturn, 1) := by decide +kernel
theorem dX5_foundIfDrawn_0 : decode cX5_foundIfDrawn 0 = .ok (.aload_n 0, 1) := by decide +kernel
theorem dX5_foundIfDrawn_1 : decode cX5_foundIfDrawn 1 = .ok (.getfield 22, 3) := by decide +kernel
theorem dX5_foundIfDrawn_4 : decode cX5_foundIfDrawn 4 = .ok (.aload_n 0, 1) := by decide +kernel
theorem dX5_foundIfDrawn_5 : decode cX5_foundIfDrawn 5 = .ok (.getfield 12, 3) := by decide +kernel
theorem dX5_foundIfDrawn_8 : decode cX5_foundIfDrawn 8 = .ok (.invokevirtual 166, 3) := by decide +kernel
theorem dX5_foundIfDrawn_11 : decode cX5_foundIfDrawn 11 = .ok (.aload_n 0, 1) := by decide +kernel
theorem dX5_foundIfDrawn_12 : decode cX5_foundIfDrawn 12 = .ok (.getfield 22, 3) := by decide +kernel
theorem dX5_foundIfDrawn_15 : decode cX5_foundIfDrawn 15 = .ok (.iload_n 1, 1) := by decide +kernel
theorem dX5_foundIfDrawn_16 : decode cX5_foundIfDrawn 16 = .ok (.invokevirtual 220, 3) := by decide +kernel
theorem dX5_foundIfDrawn_19 : decode cX5_foundIfDrawn 19 = .ok (.aload_n 0, 1) := by decide +kernel
theorem dX5_foundIfDrawn_20 : decode cX5_foundIfDrawn 20 = .ok (.getfield 44, 3) := by decide +kernel
theorem dX5_foundIfDrawn_23 : decode cX5_foundIfDrawn 23 = .ok (.aload_n 0, 1) := by decide +kernel
theorem dX5_foundIfDrawn_24 : decode cX5_foundIfDrawn 24 = .ok (.getfield 22, 3) := by decide +kernel
theorem dX5_foundIfDrawn_27 : decode cX5_foundIfDrawn 27 = .ok (.bipush 63, 2) := by decide +kernel
theorem dX5_foundIfDrawn_29 : decode cX5_foundIfDrawn 29 = .ok (.invokevirtual 151, 3) := by decide +kernel
theorem dX5_foundIfDrawn_32 : decode cX5_foundIfDrawn 32 = .ok (.ireturn, 1) := by decide +kernel
theorem dX5_odds_0 : decode cX5_odds 0 = .ok (.iload_n 2, 1) := by decide +kernel
theorem dX5_odds_1 : decode cX5_odds 1 = .ok (.iconst 1, 1) := by decide +kernel
theorem dX5_odds_2 : decode cX5_odds 2 = .ok (.bipush 20, 2) := by decide +kernel
theorem dX5_odds_4 : decode cX5_odds 4 = .ok (.invokestatic 59, 3) := by decide +kernel
theorem dX5_odds_7 : decode cX5_odds 7 = .ok (.ifCond .eq 23, 3) := by decide +kernel
theorem dX5_odds_10 : decode cX5_odds 10 = .ok (.iload_n 3, 1) := by decide +kernel
theorem dX5_odds_11 : decode cX5_odds 11 = .ok (.iconst 0, 1) := by decide +kernel
theorem dX5_odds_12 : decode cX5_odds 12 = .ok (.bipush 12, 2) := by decide +kernel
theorem dX5_odds_14 : decode cX5_odds 14 = .ok (.invokestatic 59, 3) := by decide +kernel
theorem dX5_odds_17 : decode cX5_odds 17 = .ok (.ifCond .eq 13, 3) := by decide +kernel
theorem dX5_odds_20 : decode cX5_odds 20 = .ok (.iload 4, 2) := by decide +kernel
theorem dX5_odds_22 : decode cX5_odds 22 = .ok (.iconst 0, 1) := by decide +kernel
theorem dX5_odds_23 : decode cX5_odds 23 = .ok (.iconst 1, 1) := by decide +kernel
theorem dX5_odds_24 : decode cX5_odds 24 = .ok (.invokestatic 59, 3) := by decide +kernel
theorem dX5_odds_27 : decode cX5_odds 27 = .ok (.ifCond .ne 7, 3) := by decide +kernel
theorem dX5_odds_30 : decode cX5_odds 30 = .ok (.ldc2_w 224, 3) := by decide +kernel
theorem dX5_odds_33 : decode cX5_odds 33 = .ok (.lreturn, 1) := by decide +kernel
theorem dX5_odds_34 : decode cX5_odds 34 = .ok (.iconst 0, 1) := by decide +kernel
theorem dX5_odds_35 : decode cX5_odds 35 = .ok (.istore 5, 2) := by decide +kernel
theorem dX5_odds_37 : decode cX5_odds 37 = .ok (.iconst 0, 1) := by decide +kernel
theorem dX5_odds_38 : decode cX5_odds 38 = .ok (.istore 6, 2) := by decide +kernel
theorem dX5_odds_40 : decode cX5_odds 40 = .ok (.iload 6, 2) := by decide +kernel
theorem dX5_odds_42 : decode cX5_odds 42 = .ok (.iload_n 2, 1) := by decide +kernel
theorem dX5_odds_43 : decode cX5_odds 43 = .ok (.if_icmp .ge 24, 3) := by decide +kernel
theorem dX5_odds_46 : decode cX5_odds 46 = .ok (.aload_n 0, 1) := by decide +kernel
theorem dX5_odds_47 : decode cX5_odds 47 = .ok (.iload_n 1, 1) := by decide +kernel
theorem dX5_odds_48 : decode cX5_odds 48 = .ok (.iload 6, 2) := by decide +kernel
theorem dX5_odds_50 : decode cX5_odds 50 = .ok (.iadd, 1) := by decide +kernel
theorem dX5_odds_51 : decode cX5_odds 51 = .ok (.invokevirtual 217, 3) := by decide +kernel
theorem dX5_odds_54 : decode cX5_odds 54 = .ok (.iload_n 3, 1) := by decide +kernel
theorem dX5_odds_55 : decode cX5_odds 55 = .ok (.if_icmp .lt 6, 3) := by decide +kernel
theorem dX5_odds_58 : decode cX5_odds 58 = .ok (.iinc 5 1, 3) := by decide +kernel
theorem dX5_odds_61 : decode cX5_odds 61 = .ok (.iinc 6 1, 3) := by decide +kernel
theorem dX5_odds_64 : decode cX5_odds 64 = .ok (.goto (-24), 3) := by decide +kernel
theorem dX5_odds_67 : decode cX5_odds 67 = .ok (.iload 4, 2) := by decide +kernel
theorem dX5_odds_69 : decode cX5_odds 69 = .ok (.ifCond .ne 13, 3) := by decide +kernel
theorem dX5_odds_72 : decode cX5_odds 72 = .ok (.iload 5, 2) := by decide +kernel
theorem dX5_odds_74 : decode cX5_odds 74 = .ok (.iload_n 2, 1) := by decide +kernel
theorem dX5_odds_75 : decode cX5_odds 75 = .ok (.invokestatic 226, 3) := by decide +kernel
theorem dX5_odds_78 : decode cX5_odds 78 = .ok (.i2l, 1) := by decide +kernel
theorem dX5_odds_79 : decode cX5_odds 79 = .ok (.goto 10, 3) := by decide +kernel
theorem dX5_odds_82 : decode cX5_odds 82 = .ok (.iload_n 2, 1) := by decide +kernel
theorem dX5_odds_83 : decode cX5_odds 83 = .ok (.iload 5, 2) := by decide +kernel
theorem dX5_odds_85 : decode cX5_odds 85 = .ok (.invokestatic 226, 3) := by decide +kernel
theorem dX5_odds_88 : decode cX5_odds 88 = .ok (.i2l, 1) := by decide +kernel
theorem dX5_odds_89 : decode cX5_odds 89 = .ok (.lreturn, 1) := by decide +kernel
theorem dX5_lowered_0 : decode cX5_lowered 0 = .ok (.iload_n 0, 1) := by decide +kernel
theorem dX5_lowered_1 : decode cX5_lowered 1 = .ok (.iload_n 1, 1) := by decide +kernel
theorem dX5_lowered_2 : decode cX5_lowered 2 = .ok (.invokestatic 229, 3) := by decide +kernel
theorem dX5_lowered_5 : decode cX5_lowered 5 = .ok (.istore_n 2, 1) := by decide +kernel
theorem dX5_lowered_6 : decode cX5_lowered 6 = .ok (.iload_n 2, 1) := by decide +kernel
theorem dX5_lowered_7 : decode cX5_lowered 7 = .ok (.iconst 1, 1) := by decide +kernel
theorem dX5_lowered_8 : decode cX5_lowered 8 = .ok (.if_icmp .le 25, 3) := by decide +kernel
theorem dX5_lowered_11 : decode cX5_lowered 11 = .ok (.iload_n 0, 1) := by decide +kernel
theorem dX5_lowered_12 : decode cX5_lowered 12 = .ok (.iload_n 2, 1) := by decide +kernel
theorem dX5_lowered_13 : decode cX5_lowered 13 = .ok (.irem, 1) := by decide +kernel
theorem dX5_lowered_14 : decode cX5_lowered 14 = .ok (.ifCond .ne 13, 3) := by decide +kernel
theorem dX5_lowered_17 : decode cX5_lowered 17 = .ok (.iload_n 1, 1) := by decide +kernel
theorem dX5_lowered_18 : decode cX5_lowered 18 = .ok (.iload_n 2, 1) := by decide +kernel
theorem dX5_lowered_19 : decode cX5_lowered 19 = .ok (.irem, 1) := by decide +kernel
theorem dX5_lowered_20 : decode cX5_lowered 20 = .ok (.ifCond .ne 7, 3) := by decide +kernel
theorem dX5_lowered_23 : decode cX5_lowered 23 = .ok (.iload_n 0, 1) := by decide +kernel
theorem dX5_lowered_24 : decode cX5_lowered 24 = .ok (.iload_n 2, 1) := by decide +kernel
theorem dX5_lowered_25 : decode cX5_lowered 25 = .ok (.idiv, 1) := by decide +kernel
theorem dX5_lowered_26 : decode cX5_lowered 26 = .ok (.ireturn, 1) := by decide +kernel
theorem dX5_lowered_27 : decode cX5_lowered 27 = .ok (.iinc 2 (-1), 3) := by decide +kernel
theorem dX5_lowered_30 : decode cX5_lowered 30 = .ok (.goto (-24), 3) := by decide +kernel
theorem dX5_lowered_33 : decode cX5_lowered 33 = .ok (.iload_n 0, 1) := by decide +kernel
theorem dX5_lowered_34 : decode cX5_lowered 34 = .ok (.ireturn, 1) := by decide +kernel
theorem dX5_image_0 : decode cX5_image 0 = .ok (.aload_n 0, 1) := by decide +kernel
theorem dX5_image_1 : decode cX5_image 1 = .ok (.getfield 16, 3) := by decide +kernel
theorem dX5_image_4 : decode cX5_image 4 = .ok (.aload_n 0, 1) := by decide +kernel
theorem dX5_image_5 : decode cX5_image 5 = .ok (.getfield 12, 3) := by decide +kernel
theorem dX5_image_8 : decode cX5_image 8 = .ok (.invokevirtual 232, 3) := by decide +kernel
theorem dX5_image_11 : decode cX5_image 11 = .ok (.aload_n 0, 1) := by decide +kernel
theorem dX5_image_12 : decode cX5_image 12 = .ok (.iconst 1, 1) := by decide +kernel
theorem dX5_image_13 : decode cX5_image 13 = .ok (.putfield 55, 3) := by decide +kernel
theorem dX5_image_16 : decode cX5_image 16 = .ok (.aload_n 0, 1) := by decide +kernel
theorem dX5_image_17 : decode cX5_image 17 = .ok (.getfield 12, 3) := by decide +kernel
theorem dX5_image_20 : decode cX5_image 20 = .ok (.invokevirtual 207, 3) := by decide +kernel
theorem dX5_image_23 : decode cX5_image 23 = .ok (.ireturn, 1) := by decide +kernel
theorem dX5_back_0 : decode cX5_back 0 = .ok (.aload_n 0, 1) := by decide +kernel
theorem dX5_back_1 : decode cX5_back 1 = .ok (.getfield 55, 3) := by decide +kernel
theorem dX5_back_4 : decode cX5_back 4 = .ok (.ifCond .ne 6, 3) := by decide +kernel
theorem dX5_back_7 : decode cX5_back 7 = .ok (.bipush (-3), 2) := by decide +kernel
theorem dX5_back_9 : decode cX5_back 9 = .ok (.ireturn, 1) := by decide +kernel
theorem dX5_back_10 : decode cX5_back 10 = .ok (.aload_n 0, 1) := by decide +kernel
theorem dX5_back_11 : decode cX5_back 11 = .ok (.getfield 12, 3) := by decide +kernel
theorem dX5_back_14 : decode cX5_back 14 = .ok (.aload_n 0, 1) := by decide +kernel
theorem dX5_back_15 : decode cX5_back 15 = .ok (.getfield 16, 3) := by decide +kernel
theorem dX5_back_18 : decode cX5_back 18 = .ok (.invokevirtual 232, 3) := by decide +kernel
theorem dX5_back_21 : decode cX5_back 21 = .ok (.aload_n 0, 1) := by decide +kernel
theorem dX5_back_22 : decode cX5_back 22 = .ok (.getfield 12, 3) := by decide +kernel
theorem dX5_back_25 : decode cX5_back 25 = .ok (.invokevirtual 207, 3) := by decide +kernel
theorem dX5_back_28 : decode cX5_back 28 = .ok (.ireturn, 1) := by decide +kernel
theorem dX5_count_0 : decode cX5_count 0 = .ok (.iload_n 1, 1) := by decide +kernel
theorem dX5_count_1 : decode cX5_count 1 = .ok (.tableswitch 131 0 8 #[51, 59, 75, 83, 91, 99, 107, 115, 123], 51) := by decide +kernel
theorem dX5_count_52 : decode cX5_count 52 = .ok (.aload_n 0, 1) := by decide +kernel
theorem dX5_count_53 : decode cX5_count 53 = .ok (.getfield 12, 3) := by decide +kernel
theorem dX5_count_56 : decode cX5_count 56 = .ok (.getfield 235, 3) := by decide +kernel
theorem dX5_count_59 : decode cX5_count 59 = .ok (.ireturn, 1) := by decide +kernel
theorem dX5_count_60 : decode cX5_count 60 = .ok (.aload_n 0, 1) := by decide +kernel
theorem dX5_count_61 : decode cX5_count 61 = .ok (.getfield 12, 3) := by decide +kernel
theorem dX5_count_64 : decode cX5_count 64 = .ok (.getfield 235, 3) := by decide +kernel
theorem dX5_count_67 : decode cX5_count 67 = .ok (.aload_n 0, 1) := by decide +kernel
theorem dX5_count_68 : decode cX5_count 68 = .ok (.getfield 12, 3) := by decide +kernel
theorem dX5_count_71 : decode cX5_count 71 = .ok (.invokevirtual 207, 3) := by decide +kernel
theorem dX5_count_74 : decode cX5_count 74 = .ok (.isub, 1) := by decide +kernel
theorem dX5_count_75 : decode cX5_count 75 = .ok (.ireturn, 1) := by decide +kernel
theorem dX5_count_76 : decode cX5_count 76 = .ok (.aload_n 0, 1) := by decide +kernel
theorem dX5_count_77 : decode cX5_count 77 = .ok (.getfield 12, 3) := by decide +kernel
theorem dX5_count_80 : decode cX5_count 80 = .ok (.getfield 92, 3) := by decide +kernel
theorem dX5_count_83 : decode cX5_count 83 = .ok (.ireturn, 1) := by decide +kernel
theorem dX5_count_84 : decode cX5_count 84 = .ok (.aload_n 0, 1) := by decide +kernel
theorem dX5_count_85 : decode cX5_count 85 = .ok (.getfield 12, 3) := by decide +kernel
theorem dX5_count_88 : decode cX5_count 88 = .ok (.getfield 96, 3) := by decide +kernel
theorem dX5_count_91 : decode cX5_count 91 = .ok (.ireturn, 1) := by decide +kernel
theorem dX5_count_92 : decode cX5_count 92 = .ok (.aload_n 0, 1) := by decide +kernel
theorem dX5_count_93 : decode cX5_count 93 = .ok (.getfield 12, 3) := by decide +kernel
theorem dX5_count_96 : decode cX5_count 96 = .ok (.getfield 157, 3) := by decide +kernel
theorem dX5_count_99 : decode cX5_count 99 = .ok (.ireturn, 1) := by decide +kernel
theorem dX5_count_100 : decode cX5_count 100 = .ok (.aload_n 0, 1) := by decide +kernel
theorem dX5_count_101 : decode cX5_count 101 = .ok (.getfield 12, 3) := by decide +kernel
theorem dX5_count_104 : decode cX5_count 104 = .ok (.getfield 148, 3) := by decide +kernel
theorem dX5_count_107 : decode cX5_count 107 = .ok (.ireturn, 1) := by decide +kernel
theorem dX5_count_108 : decode cX5_count 108 = .ok (.aload_n 0, 1) := by decide +kernel
theorem dX5_count_109 : decode cX5_count 109 = .ok (.getfield 28, 3) := by decide +kernel
theorem dX5_count_112 : decode cX5_count 112 = .ok (.getfield 238, 3) := by decide +kernel
theorem dX5_count_115 : decode cX5_count 115 = .ok (.ireturn, 1) := by decide +kernel
theorem dX5_count_116 : decode cX5_count 116 = .ok (.aload_n 0, 1) := by decide +kernel
theorem dX5_count_117 : decode cX5_count 117 = .ok (.getfield 37, 3) := by decide +kernel
theorem dX5_count_120 : decode cX5_count 120 = .ok (.getfield 239, 3) := by decide +kernel
theorem dX5_count_123 : decode cX5_count 123 = .ok (.ireturn, 1) := by decide +kernel
theorem dX5_count_124 : decode cX5_count 124 = .ok (.aload_n 0, 1) := by decide +kernel
theorem dX5_count_125 : decode cX5_count 125 = .ok (.getfield 12, 3) := by decide +kernel
theorem dX5_count_128 : decode cX5_count 128 = .ok (.getfield 141, 3) := by decide +kernel
theorem dX5_count_131 : decode cX5_count 131 = .ok (.ireturn, 1) := by decide +kernel
theorem dX5_count_132 : decode cX5_count 132 = .ok (.bipush (-2), 2) := by decide +kernel
theorem dX5_count_134 : decode cX5_count 134 = .ok (.ireturn, 1) := by decide +kernel
theorem dX5_sheet_0 : decode cX5_sheet 0 = .ok (.iload_n 1, 1) := by decide +kernel
theorem dX5_sheet_1 : decode cX5_sheet 1 = .ok (.invokestatic 192, 3) := by decide +kernel
theorem dX5_sheet_4 : decode cX5_sheet 4 = .ok (.ifCond .eq 12, 3) := by decide +kernel
theorem dX5_sheet_7 : decode cX5_sheet 7 = .ok (.iload_n 2, 1) := by decide +kernel
theorem dX5_sheet_8 : decode cX5_sheet 8 = .ok (.iconst (-1), 1) := by decide +kernel
theorem dX5_sheet_9 : decode cX5_sheet 9 = .ok (.iconst 2, 1) := by decide +kernel
theorem dX5_sheet_10 : decode cX5_sheet 10 = .ok (.invokestatic 59, 3) := by decide +kernel
theorem dX5_sheet_13 : decode cX5_sheet 13 = .ok (.ifCond .ne 6, 3) := by decide +kernel
theorem dX5_sheet_16 : decode cX5_sheet 16 = .ok (.bipush (-2), 2) := by decide +kernel
theorem dX5_sheet_18 : decode cX5_sheet 18 = .ok (.ireturn, 1) := by decide +kernel
theorem dX5_sheet_19 : decode cX5_sheet 19 = .ok (.iload_n 2, 1) := by decide +kernel
theorem dX5_sheet_20 : decode cX5_sheet 20 = .ok (.iconst (-1), 1) := by decide +kernel
theorem dX5_sheet_21 : decode cX5_sheet 21 = .ok (.if_icmp .ne 13, 3) := by decide +kernel
theorem dX5_sheet_24 : decode cX5_sheet 24 = .ok (.aload_n 0, 1) := by decide +kernel
theorem dX5_sheet_25 : decode cX5_sheet 25 = .ok (.getfield 51, 3) := by decide +kernel
theorem dX5_sheet_28 : decode cX5_sheet 28 = .ok (.iload_n 1, 1) := by decide +kernel
theorem dX5_sheet_29 : decode cX5_sheet 29 = .ok (.invokevirtual 241, 3) := by decide +kernel
theorem dX5_sheet_32 : decode cX5_sheet 32 = .ok (.iconst 1, 1) := by decide +kernel
theorem dX5_sheet_33 : decode cX5_sheet 33 = .ok (.ireturn, 1) := by decide +kernel
theorem dX5_sheet_34 : decode cX5_sheet 34 = .ok (.iload_n 3, 1) := by decide +kernel
theorem dX5_sheet_35 : decode cX5_sheet 35 = .ok (.bipush 40, 2) := by decide +kernel
theorem dX5_sheet_37 : decode cX5_sheet 37 = .ok (.if_icmp .le 6, 3) := by decide +kernel
theorem dX5_sheet_40 : decode cX5_sheet 40 = .ok (.bipush (-2), 2) := by decide +kernel
theorem dX5_sheet_42 : decode cX5_sheet 42 = .ok (.ireturn, 1) := by decide +kernel
theorem dX5_sheet_43 : decode cX5_sheet 43 = .ok (.iload_n 3, 1) := by decide +kernel
theorem dX5_sheet_44 : decode cX5_sheet 44 = .ok (.ifCond .ge 6, 3) := by decide +kernel
theorem dX5_sheet_47 : decode cX5_sheet 47 = .ok (.bipush (-14), 2) := by decide +kernel
theorem dX5_sheet_49 : decode cX5_sheet 49 = .ok (.ireturn, 1) := by decide +kernel
theorem dX5_sheet_50 : decode cX5_sheet 50 = .ok (.aload_n 0, 1) := by decide +kernel
theorem dX5_sheet_51 : decode cX5_sheet 51 = .ok (.getfield 51, 3) := by decide +kernel
theorem dX5_sheet_54 : decode cX5_sheet 54 = .ok (.iload_n 1, 1) := by decide +kernel
theorem dX5_sheet_55 : decode cX5_sheet 55 = .ok (.iload_n 2, 1) := by decide +kernel
theorem dX5_sheet_56 : decode cX5_sheet 56 = .ok (.iload_n 3, 1) := by decide +kernel
theorem dX5_sheet_57 : decode cX5_sheet 57 = .ok (.invokevirtual 244, 3) := by decide +kernel
theorem dX5_sheet_60 : decode cX5_sheet 60 = .ok (.iconst 1, 1) := by decide +kernel
theorem dX5_sheet_61 : decode cX5_sheet 61 = .ok (.ireturn, 1) := by decide +kernel
theorem dX5_cell_0 : decode cX5_cell 0 = .ok (.iload_n 1, 1) := by decide +kernel
theorem dX5_cell_1 : decode cX5_cell 1 = .ok (.invokestatic 192, 3) := by decide +kernel
theorem dX5_cell_4 : decode cX5_cell 4 = .ok (.ifCond .ne 6, 3) := by decide +kernel
theorem dX5_cell_7 : decode cX5_cell 7 = .ok (.bipush (-2), 2) := by decide +kernel
theorem dX5_cell_9 : decode cX5_cell 9 = .ok (.ireturn, 1) := by decide +kernel
theorem dX5_cell_10 : decode cX5_cell 10 = .ok (.aload_n 0, 1) := by decide +kernel
theorem dX5_cell_11 : decode cX5_cell 11 = .ok (.getfield 51, 3) := by decide +kernel
theorem dX5_cell_14 : decode cX5_cell 14 = .ok (.iload_n 1, 1) := by decide +kernel
theorem dX5_cell_15 : decode cX5_cell 15 = .ok (.invokevirtual 195, 3) := by decide +kernel
theorem dX5_cell_18 : decode cX5_cell 18 = .ok (.iconst (-1), 1) := by decide +kernel
theorem dX5_cell_19 : decode cX5_cell 19 = .ok (.if_icmp .ne 6, 3) := by decide +kernel
theorem dX5_cell_22 : decode cX5_cell 22 = .ok (.bipush (-11), 2) := by decide +kernel
theorem dX5_cell_24 : decode cX5_cell 24 = .ok (.ireturn, 1) := by decide +kernel
theorem dX5_cell_25 : decode cX5_cell 25 = .ok (.iload_n 2, 1) := by decide +kernel
theorem dX5_cell_26 : decode cX5_cell 26 = .ok (.ifCond .lt 15, 3) := by decide +kernel
theorem dX5_cell_29 : decode cX5_cell 29 = .ok (.iload_n 2, 1) := by decide +kernel
theorem dX5_cell_30 : decode cX5_cell 30 = .ok (.aload_n 0, 1) := by decide +kernel
theorem dX5_cell_31 : decode cX5_cell 31 = .ok (.getfield 51, 3) := by decide +kernel
theorem dX5_cell_34 : decode cX5_cell 34 = .ok (.iload_n 1, 1) := by decide +kernel
theorem dX5_cell_35 : decode cX5_cell 35 = .ok (.invokevirtual 198, 3) := by decide +kernel
theorem dX5_cell_38 : decode cX5_cell 38 = .ok (.if_icmp .lt 6, 3) := by decide +kernel
theorem dX5_cell_41 : decode cX5_cell 41 = .ok (.bipush (-12), 2) := by decide +kernel
theorem dX5_cell_43 : decode cX5_cell 43 = .ok (.ireturn, 1) := by decide +kernel
theorem dX5_cell_44 : decode cX5_cell 44 = .ok (.aload_n 0, 1) := by decide +kernel
theorem dX5_cell_45 : decode cX5_cell 45 = .ok (.getfield 51, 3) := by decide +kernel
theorem dX5_cell_48 : decode cX5_cell 48 = .ok (.iload_n 1, 1) := by decide +kernel
theorem dX5_cell_49 : decode cX5_cell 49 = .ok (.iload_n 2, 1) := by decide +kernel
theorem dX5_cell_50 : decode cX5_cell 50 = .ok (.iload_n 3, 1) := by decide +kernel
theorem dX5_cell_51 : decode cX5_cell 51 = .ok (.invokevirtual 248, 3) := by decide +kernel
theorem dX5_cell_54 : decode cX5_cell 54 = .ok (.iconst 1, 1) := by decide +kernel
theorem dX5_cell_55 : decode cX5_cell 55 = .ok (.ireturn, 1) := by decide +kernel
theorem dX5_copy_0 : decode cX5_copy 0 = .ok (.iload_n 1, 1) := by decide +kernel
theorem dX5_copy_1 : decode cX5_copy 1 = .ok (.invokestatic 192, 3) := by decide +kernel
theorem dX5_copy_4 : decode cX5_copy 4 = .ok (.ifCond .eq 10, 3) := by decide +kernel
theorem dX5_copy_7 : decode cX5_copy 7 = .ok (.iload_n 3, 1) := by decide +kernel
theorem dX5_copy_8 : decode cX5_copy 8 = .ok (.invokestatic 192, 3) := by decide +kernel
theorem dX5_copy_11 : decode cX5_copy 11 = .ok (.ifCond .ne 6, 3) := by decide +kernel
theorem dX5_copy_14 : decode cX5_copy 14 = .ok (.bipush (-2), 2) := by decide +kernel
theorem dX5_copy_16 : decode cX5_copy 16 = .ok (.ireturn, 1) := by decide +kernel
theorem dX5_copy_17 : decode cX5_copy 17 = .ok (.aload_n 0, 1) := by decide +kernel
theorem dX5_copy_18 : decode cX5_copy 18 = .ok (.getfield 51, 3) := by decide +kernel
theorem dX5_copy_21 : decode cX5_copy 21 = .ok (.iload_n 1, 1) := by decide +kernel
theorem dX5_copy_22 : decode cX5_copy 22 = .ok (.invokevirtual 195, 3) := by decide +kernel
theorem dX5_copy_25 : decode cX5_copy 25 = .ok (.iconst (-1), 1) := by decide +kernel
theorem dX5_copy_26 : decode cX5_copy 26 = .ok (.if_icmp .eq 15, 3) := by decide +kernel
theorem dX5_copy_29 : decode cX5_copy 29 = .ok (.aload_n 0, 1) := by decide +kernel
theorem dX5_copy_30 : decode cX5_copy 30 = .ok (.getfield 51, 3) := by decide +kernel
theorem dX5_copy_33 : decode cX5_copy 33 = .ok (.iload_n 3, 1) := by decide +kernel
theorem dX5_copy_34 : decode cX5_copy 34 = .ok (.invokevirtual 195, 3) := by decide +kernel
theorem dX5_copy_37 : decode cX5_copy 37 = .ok (.iconst (-1), 1) := by decide +kernel
theorem dX5_copy_38 : decode cX5_copy 38 = .ok (.if_icmp .ne 6, 3) := by decide +kernel
theorem dX5_copy_41 : decode cX5_copy 41 = .ok (.bipush (-11), 2) := by decide +kernel
theorem dX5_copy_43 : decode cX5_copy 43 = .ok (.ireturn, 1) := by decide +kernel
theorem dX5_copy_44 : decode cX5_copy 44 = .ok (.aload_n 0, 1) := by decide +kernel
theorem dX5_copy_45 : decode cX5_copy 45 = .ok (.getfield 51, 3) := by decide +kernel
theorem dX5_copy_48 : decode cX5_copy 48 = .ok (.iload_n 1, 1) := by decide +kernel
theorem dX5_copy_49 : decode cX5_copy 49 = .ok (.invokevirtual 195, 3) := by decide +kernel
theorem dX5_copy_52 : decode cX5_copy 52 = .ok (.aload_n 0, 1) := by decide +kernel
theorem dX5_copy_53 : decode cX5_copy 53 = .ok (.getfield 51, 3) := by decide +kernel
theorem dX5_copy_56 : decode cX5_copy 56 = .ok (.iload_n 3, 1) := by decide +kernel
theorem dX5_copy_57 : decode cX5_copy 57 = .ok (.invokevirtual 195, 3) := by decide +kernel
theorem dX5_copy_60 : decode cX5_copy 60 = .ok (.if_icmp .eq 6, 3) := by decide +kernel
theorem dX5_copy_63 : decode cX5_copy 63 = .ok (.bipush (-13), 2) := by decide +kernel
theorem dX5_copy_65 : decode cX5_copy 65 = .ok (.ireturn, 1) := by decide +kernel
theorem dX5_copy_66 : decode cX5_copy 66 = .ok (.aload_n 0, 1) := by decide +kernel
theorem dX5_copy_67 : decode cX5_copy 67 = .ok (.getfield 51, 3) := by decide +kernel
theorem dX5_copy_70 : decode cX5_copy 70 = .ok (.iload_n 1, 1) := by decide +kernel
theorem dX5_copy_71 : decode cX5_copy 71 = .ok (.iload_n 2, 1) := by decide +kernel
theorem dX5_copy_72 : decode cX5_copy 72 = .ok (.iload 5, 2) := by decide +kernel
theorem dX5_copy_74 : decode cX5_copy 74 = .ok (.invokevirtual 251, 3) := by decide +kernel
theorem dX5_copy_77 : decode cX5_copy 77 = .ok (.ifCond .eq 18, 3) := by decide +kernel
theorem dX5_copy_80 : decode cX5_copy 80 = .ok (.aload_n 0, 1) := by decide +kernel
theorem dX5_copy_81 : decode cX5_copy 81 = .ok (.getfield 51, 3) := by decide +kernel
theorem dX5_copy_84 : decode cX5_copy 84 = .ok (.iload_n 3, 1) := by decide +kernel
theorem dX5_copy_85 : decode cX5_copy 85 = .ok (.iload 4, 2) := by decide +kernel
theorem dX5_copy_87 : decode cX5_copy 87 = .ok (.iload 5, 2) := by decide +kernel
theorem dX5_copy_89 : decode cX5_copy 89 = .ok (.invokevirtual 251, 3) := by decide +kernel
theorem dX5_copy_92 : decode cX5_copy 92 = .ok (.ifCond .ne 6, 3) := by decide +kernel
theorem dX5_copy_95 : decode cX5_copy 95 = .ok (.bipush (-12), 2) := by decide +kernel
theorem dX5_copy_97 : decode cX5_copy 97 = .ok (.ireturn, 1) := by decide +kernel
theorem dX5_copy_98 : decode cX5_copy 98 = .ok (.aload_n 0, 1) := by decide +kernel
theorem dX5_copy_99 : decode cX5_copy 99 = .ok (.getfield 51, 3) := by decide +kernel
theorem dX5_copy_102 : decode cX5_copy 102 = .ok (.iload_n 1, 1) := by decide +kernel
theorem dX5_copy_103 : decode cX5_copy 103 = .ok (.iload_n 2, 1) := by decide +kernel
theorem dX5_copy_104 : decode cX5_copy 104 = .ok (.iload_n 3, 1) := by decide +kernel
theorem dX5_copy_105 : decode cX5_copy 105 = .ok (.iload 4, 2) := by decide +kernel
theorem dX5_copy_107 : decode cX5_copy 107 = .ok (.iload 5, 2) := by decide +kernel
theorem dX5_copy_109 : decode cX5_copy 109 = .ok (.invokevirtual 254, 3) := by decide +kernel
theorem dX5_copy_112 : decode cX5_copy 112 = .ok (.iload 5, 2) := by decide +kernel
theorem dX5_copy_114 : decode cX5_copy 114 = .ok (.ireturn, 1) := by decide +kernel
theorem dX5_finds_0 : decode cX5_finds 0 = .ok (.iload_n 1, 1) := by decide +kernel
theorem dX5_finds_1 : decode cX5_finds 1 = .ok (.invokestatic 192, 3) := by decide +kernel
theorem dX5_finds_4 : decode cX5_finds 4 = .ok (.ifCond .eq 23, 3) := by decide +kernel
theorem dX5_finds_7 : decode cX5_finds 7 = .ok (.iload_n 2, 1) := by decide +kernel
theorem dX5_finds_8 : decode cX5_finds 8 = .ok (.iconst 0, 1) := by decide +kernel
theorem dX5_finds_9 : decode cX5_finds 9 = .ok (.iconst 2, 1) := by decide +kernel
theorem dX5_finds_10 : decode cX5_finds 10 = .ok (.invokestatic 59, 3) := by decide +kernel
theorem dX5_finds_13 : decode cX5_finds 13 = .ok (.ifCond .eq 14, 3) := by decide +kernel
theorem dX5_finds_16 : decode cX5_finds 16 = .ok (.iload 4, 2) := by decide +kernel
theorem dX5_finds_18 : decode cX5_finds 18 = .ok (.iconst 0, 1) := by decide +kernel
theorem dX5_finds_19 : decode cX5_finds 19 = .ok (.bipush 12, 2) := by decide +kernel
theorem dX5_finds_21 : decode cX5_finds 21 = .ok (.invokestatic 59, 3) := by decide +kernel
theorem dX5_finds_24 : decode cX5_finds 24 = .ok (.ifCond .ne 6, 3) := by decide +kernel
theorem dX5_finds_27 : decode cX5_finds 27 = .ok (.bipush (-2), 2) := by decide +kernel
theorem dX5_finds_29 : decode cX5_finds 29 = .ok (.ireturn, 1) := by decide +kernel
theorem dX5_finds_30 : decode cX5_finds 30 = .ok (.aload_n 0, 1) := by decide +kernel
theorem dX5_finds_31 : decode cX5_finds 31 = .ok (.getfield 51, 3) := by decide +kernel
theorem dX5_finds_34 : decode cX5_finds 34 = .ok (.iload_n 1, 1) := by decide +kernel
theorem dX5_finds_35 : decode cX5_finds 35 = .ok (.invokevirtual 195, 3) := by decide +kernel
theorem dX5_finds_38 : decode cX5_finds 38 = .ok (.istore 5, 2) := by decide +kernel
theorem dX5_finds_40 : decode cX5_finds 40 = .ok (.iload 5, 2) := by decide +kernel
theorem dX5_finds_42 : decode cX5_finds 42 = .ok (.iconst (-1), 1) := by decide +kernel
theorem dX5_finds_43 : decode cX5_finds 43 = .ok (.if_icmp .ne 6, 3) := by decide +kernel
theorem dX5_finds_46 : decode cX5_finds 46 = .ok (.bipush (-11), 2) := by decide +kernel
theorem dX5_finds_48 : decode cX5_finds 48 = .ok (.ireturn, 1) := by decide +kernel
theorem dX5_finds_49 : decode cX5_finds 49 = .ok (.iload 5, 2) := by decide +kernel
theorem dX5_finds_51 : decode cX5_finds 51 = .ok (.iload_n 2, 1) := by decide +kernel
theorem dX5_finds_52 : decode cX5_finds 52 = .ok (.if_icmp .eq 6, 3) := by decide +kernel
theorem dX5_finds_55 : decode cX5_finds 55 = .ok (.bipush (-13), 2) := by decide +kernel
theorem dX5_finds_57 : decode cX5_finds 57 = .ok (.ireturn, 1) := by decide +kernel
theorem dX5_finds_58 : decode cX5_finds 58 = .ok (.iconst 0, 1) := by decide +kernel
theorem dX5_finds_59 : decode cX5_finds 59 = .ok (.istore 6, 2) := by decide +kernel
theorem dX5_finds_61 : decode cX5_finds 61 = .ok (.iconst 0, 1) := by decide +kernel
theorem dX5_finds_62 : decode cX5_finds 62 = .ok (.istore 7, 2) := by decide +kernel
theorem dX5_finds_64 : decode cX5_finds 64 = .ok (.iload 7, 2) := by decide +kernel
theorem dX5_finds_66 : decode cX5_finds 66 = .ok (.iload 4, 2) := by decide +kernel
theorem dX5_finds_68 : decode cX5_finds 68 = .ok (.if_icmp .ge 82, 3) := by decide +kernel
theorem dX5_finds_71 : decode cX5_finds 71 = .ok (.iload_n 3, 1) := by decide +kernel
theorem dX5_finds_72 : decode cX5_finds 72 = .ok (.iconst 3, 1) := by decide +kernel
theorem dX5_finds_73 : decode cX5_finds 73 = .ok (.iload 7, 2) := by decide +kernel
theorem dX5_finds_75 : decode cX5_finds 75 = .ok (.imul, 1) := by decide +kernel
theorem dX5_finds_76 : decode cX5_finds 76 = .ok (.iadd, 1) := by decide +kernel
theorem dX5_finds_77 : decode cX5_finds 77 = .ok (.istore 8, 2) := by decide +kernel
theorem dX5_finds_79 : decode cX5_finds 79 = .ok (.aload_n 0, 1) := by decide +kernel
theorem dX5_finds_80 : decode cX5_finds 80 = .ok (.getfield 51, 3) := by decide +kernel
theorem dX5_finds_83 : decode cX5_finds 83 = .ok (.iload_n 1, 1) := by decide +kernel
theorem dX5_finds_84 : decode cX5_finds 84 = .ok (.iload 8, 2) := by decide +kernel
theorem dX5_finds_86 : decode cX5_finds 86 = .ok (.iconst 3, 1) := by decide +kernel
theorem dX5_finds_87 : decode cX5_finds 87 = .ok (.invokevirtual 251, 3) := by decide +kernel
theorem dX5_finds_90 : decode cX5_finds 90 = .ok (.ifCond .ne 6, 3) := by decide +kernel
theorem dX5_finds_93 : decode cX5_finds 93 = .ok (.bipush (-12), 2) := by decide +kernel
theorem dX5_finds_95 : decode cX5_finds 95 = .ok (.ireturn, 1) := by decide +kernel
theorem dX5_finds_96 : decode cX5_finds 96 = .ok (.aload_n 0, 1) := by decide +kernel
theorem dX5_finds_97 : decode cX5_finds 97 = .ok (.aload_n 0, 1) := by decide +kernel
theorem dX5_finds_98 : decode cX5_finds 98 = .ok (.getfield 51, 3) := by decide +kernel
theorem dX5_finds_101 : decode cX5_finds 101 = .ok (.iload_n 1, 1) := by decide +kernel
theorem dX5_finds_102 : decode cX5_finds 102 = .ok (.iload 8, 2) := by decide +kernel
theorem dX5_finds_104 : decode cX5_finds 104 = .ok (.invokevirtual 201, 3) := by decide +kernel
theorem dX5_finds_107 : decode cX5_finds 107 = .ok (.aload_n 0, 1) := by decide +kernel
theorem dX5_finds_108 : decode cX5_finds 108 = .ok (.getfield 51, 3) := by decide +kernel
theorem dX5_finds_111 : decode cX5_finds 111 = .ok (.iload_n 1, 1) := by decide +kernel
theorem dX5_finds_112 : decode cX5_finds 112 = .ok (.iload 8, 2) := by decide +kernel
theorem dX5_finds_114 : decode cX5_finds 114 = .ok (.iconst 1, 1) := by decide +kernel
theorem dX5_finds_115 : decode cX5_finds 115 = .ok (.iadd, 1) := by decide +kernel
theorem dX5_finds_116 : decode cX5_finds 116 = .ok (.invokevirtual 201, 3) := by decide +kernel
theorem dX5_finds_119 : decode cX5_finds 119 = .ok (.aload_n 0, 1) := by decide +kernel
theorem dX5_finds_120 : decode cX5_finds 120 = .ok (.getfield 51, 3) := by decide +kernel
theorem dX5_finds_123 : decode cX5_finds 123 = .ok (.iload_n 1, 1) := by decide +kernel
theorem dX5_finds_124 : decode cX5_finds 124 = .ok (.iload 8, 2) := by decide +kernel
theorem dX5_finds_126 : decode cX5_finds 126 = .ok (.iconst 2, 1) := by decide +kernel
theorem dX5_finds_127 : decode cX5_finds 127 = .ok (.iadd, 1) := by decide +kernel
theorem dX5_finds_128 : decode cX5_finds 128 = .ok (.invokevirtual 201, 3) := by decide +kernel
theorem dX5_finds_131 : decode cX5_finds 131 = .ok (.invokevirtual 258, 3) := by decide +kernel
theorem dX5_finds_134 : decode cX5_finds 134 = .ok (.istore 9, 2) := by decide +kernel
theorem dX5_finds_136 : decode cX5_finds 136 = .ok (.iload 9, 2) := by decide +kernel
theorem dX5_finds_138 : decode cX5_finds 138 = .ok (.ifCond .lt 6, 3) := by decide +kernel
theorem dX5_finds_141 : decode cX5_finds 141 = .ok (.iinc 6 1, 3) := by decide +kernel
theorem dX5_finds_144 : decode cX5_finds 144 = .ok (.iinc 7 1, 3) := by decide +kernel
theorem dX5_finds_147 : decode cX5_finds 147 = .ok (.goto (-83), 3) := by decide +kernel
theorem dX5_finds_150 : decode cX5_finds 150 = .ok (.iload 6, 2) := by decide +kernel
theorem dX5_finds_152 : decode cX5_finds 152 = .ok (.ireturn, 1) := by decide +kernel
theorem dX5_taken_0 : decode cX5_taken 0 = .ok (.iload_n 2, 1) := by decide +kernel
theorem dX5_taken_1 : decode cX5_taken 1 = .ok (.iconst 0, 1) := by decide +kernel
theorem dX5_taken_2 : decode cX5_taken 2 = .ok (.iconst 5, 1) := by decide +kernel
theorem dX5_taken_3 : decode cX5_taken 3 = .ok (.invokestatic 59, 3) := by decide +kernel
theorem dX5_taken_6 : decode cX5_taken 6 = .ok (.ifCond .ne 6, 3) := by decide +kernel
theorem dX5_taken_9 : decode cX5_taken 9 = .ok (.bipush (-2), 2) := by decide +kernel
theorem dX5_taken_11 : decode cX5_taken 11 = .ok (.ireturn, 1) := by decide +kernel
theorem dX5_taken_12 : decode cX5_taken 12 = .ok (.aload_n 0, 1) := by decide +kernel
theorem dX5_taken_13 : decode cX5_taken 13 = .ok (.getfield 12, 3) := by decide +kernel
theorem dX5_taken_16 : decode cX5_taken 16 = .ok (.iload_n 1, 1) := by decide +kernel
theorem dX5_taken_17 : decode cX5_taken 17 = .ok (.invokevirtual 99, 3) := by decide +kernel
theorem dX5_taken_20 : decode cX5_taken 20 = .ok (.ifCond .ne 6, 3) := by decide +kernel
theorem dX5_taken_23 : decode cX5_taken 23 = .ok (.bipush (-11), 2) := by decide +kernel
theorem dX5_taken_25 : decode cX5_taken 25 = .ok (.ireturn, 1) := by decide +kernel
theorem dX5_taken_26 : decode cX5_taken 26 = .ok (.aload_n 0, 1) := by decide +kernel
theorem dX5_taken_27 : decode cX5_taken 27 = .ok (.getfield 12, 3) := by decide +kernel
theorem dX5_taken_30 : decode cX5_taken 30 = .ok (.getfield 105, 3) := by decide +kernel
theorem dX5_taken_33 : decode cX5_taken 33 = .ok (.iload_n 1, 1) := by decide +kernel
theorem dX5_taken_34 : decode cX5_taken 34 = .ok (.iaload, 1) := by decide +kernel
theorem dX5_taken_35 : decode cX5_taken 35 = .ok (.iload_n 2, 1) := by decide +kernel
theorem dX5_taken_36 : decode cX5_taken 36 = .ok (.invokestatic 261, 3) := by decide +kernel
theorem dX5_taken_39 : decode cX5_taken 39 = .ok (.ifCond .eq 15, 3) := by decide +kernel
theorem dX5_taken_42 : decode cX5_taken 42 = .ok (.aload_n 0, 1) := by decide +kernel
theorem dX5_taken_43 : decode cX5_taken 43 = .ok (.getfield 12, 3) := by decide +kernel
theorem dX5_taken_46 : decode cX5_taken 46 = .ok (.getfield 89, 3) := by decide +kernel
theorem dX5_taken_49 : decode cX5_taken 49 = .ok (.iload_n 1, 1) := by decide +kernel
theorem dX5_taken_50 : decode cX5_taken 50 = .ok (.iaload, 1) := by decide +kernel
theorem dX5_taken_51 : decode cX5_taken 51 = .ok (.goto 5, 3) := by decide +kernel
theorem dX5_taken_54 : decode cX5_taken 54 = .ok (.bipush (-13), 2) := by decide +kernel
theorem dX5_taken_56 : decode cX5_taken 56 = .ok (.ireturn, 1) := by decide +kernel
theorem dX5_isWithin_0 : decode cX5_isWithin 0 = .ok (.iload_n 0, 1) := by decide +kernel
theorem dX5_isWithin_1 : decode cX5_isWithin 1 = .ok (.iload_n 1, 1) := by decide +kernel
theorem dX5_isWithin_2 : decode cX5_isWithin 2 = .ok (.if_icmp .lt 12, 3) := by decide +kernel
theorem dX5_isWithin_5 : decode cX5_isWithin 5 = .ok (.iload_n 0, 1) := by decide +kernel
theorem dX5_isWithin_6 : decode cX5_isWithin 6 = .ok (.iload_n 2, 1) := by decide +kernel
theorem dX5_isWithin_7 : decode cX5_isWithin 7 = .ok (.if_icmp .gt 7, 3) := by decide +kernel
theorem dX5_isWithin_10 : decode cX5_isWithin 10 = .ok (.iconst 1, 1) := by decide +kernel
theorem dX5_isWithin_11 : decode cX5_isWithin 11 = .ok (.goto 4, 3) := by decide +kernel
theorem dX5_isWithin_14 : decode cX5_isWithin 14 = .ok (.iconst 0, 1) := by decide +kernel
theorem dX5_isWithin_15 : decode cX5_isWithin 15 = .ok (.ireturn, 1) := by decide +kernel
theorem dX5_isCell_0 : decode cX5_isCell 0 = .ok (.iload_n 0, 1) := by decide +kernel
theorem dX5_isCell_1 : decode cX5_isCell 1 = .ok (.ifCond .lt 13, 3) := by decide +kernel
theorem dX5_isCell_4 : decode cX5_isCell 4 = .ok (.iload_n 0, 1) := by decide +kernel
theorem dX5_isCell_5 : decode cX5_isCell 5 = .ok (.bipush 48, 2) := by decide +kernel
theorem dX5_isCell_7 : decode cX5_isCell 7 = .ok (.if_icmp .ge 7, 3) := by decide +kernel
theorem dX5_isCell_10 : decode cX5_isCell 10 = .ok (.iconst 1, 1) := by decide +kernel
theorem dX5_isCell_11 : decode cX5_isCell 11 = .ok (.goto 4, 3) := by decide +kernel
theorem dX5_isCell_14 : decode cX5_isCell 14 = .ok (.iconst 0, 1) := by decide +kernel
theorem dX5_isCell_15 : decode cX5_isCell 15 = .ok (.ireturn, 1) := by decide +kernel
theorem dX5_isSheet_0 : decode cX5_isSheet 0 = .ok (.iload_n 0, 1) := by decide +kernel
theorem dX5_isSheet_1 : decode cX5_isSheet 1 = .ok (.ifCond .lt 12, 3) := by decide +kernel
theorem dX5_isSheet_4 : decode cX5_isSheet 4 = .ok (.iload_n 0, 1) := by decide +kernel
theorem dX5_isSheet_5 : decode cX5_isSheet 5 = .ok (.iconst 4, 1) := by decide +kernel
theorem dX5_isSheet_6 : decode cX5_isSheet 6 = .ok (.if_icmp .ge 7, 3) := by decide +kernel
theorem dX5_isSheet_9 : decode cX5_isSheet 9 = .ok (.iconst 1, 1) := by decide +kernel
theorem dX5_isSheet_10 : decode cX5_isSheet 10 = .ok (.goto 4, 3) := by decide +kernel
theorem dX5_isSheet_13 : decode cX5_isSheet 13 = .ok (.iconst 0, 1) := by decide +kernel
theorem dX5_isSheet_14 : decode cX5_isSheet 14 = .ok (.ireturn, 1) := by decide +kernel
theorem dX5_held_0 : decode cX5_held 0 = .ok (.iload_n 0, 1) := by decide +kernel
theorem dX5_held_1 : decode cX5_held 1 = .ok (.ifCond .ge 7, 3) := by decide +kernel
theorem dX5_held_4 : decode cX5_held 4 = .ok (.iconst 0, 1) := by decide +kernel
theorem dX5_held_5 : decode cX5_held 5 = .ok (.goto 13, 3) := by decide +kernel
theorem dX5_held_8 : decode cX5_held 8 = .ok (.iload_n 0, 1) := by decide +kernel
theorem dX5_held_9 : decode cX5_held 9 = .ok (.iload_n 1, 1) := by decide +kernel
theorem dX5_held_10 : decode cX5_held 10 = .ok (.if_icmp .le 7, 3) := by decide +kernel
theorem dX5_held_13 : decode cX5_held 13 = .ok (.iload_n 1, 1) := by decide +kernel
theorem dX5_held_14 : decode cX5_held 14 = .ok (.goto 4, 3) := by decide +kernel
theorem dX5_held_17 : decode cX5_held 17 = .ok (.iload_n 0, 1) := by decide +kernel
theorem dX5_held_18 : decode cX5_held 18 = .ok (.ireturn, 1) := by decide +kernel
theorem dX5_toneOf_0 : decode cX5_toneOf 0 = .ok (.bipush 10, 2) := by decide +kernel
theorem dX5_toneOf_2 : decode cX5_toneOf 2 = .ok (.iload_n 1, 1) := by decide +kernel
theorem dX5_toneOf_3 : decode cX5_toneOf 3 = .ok (.iadd, 1) := by decide +kernel
theorem dX5_toneOf_4 : decode cX5_toneOf 4 = .ok (.istore_n 2, 1) := by decide +kernel
theorem dX5_toneOf_5 : decode cX5_toneOf 5 = .ok (.iload_n 2, 1) := by decide +kernel
theorem dX5_toneOf_6 : decode cX5_toneOf 6 = .ok (.bipush 50, 2) := by decide +kernel
theorem dX5_toneOf_8 : decode cX5_toneOf 8 = .ok (.iadd, 1) := by decide +kernel
theorem dX5_toneOf_9 : decode cX5_toneOf 9 = .ok (.istore_n 3, 1) := by decide +kernel
theorem dX5_toneOf_10 : decode cX5_toneOf 10 = .ok (.iload_n 0, 1) := by decide +kernel
theorem dX5_toneOf_11 : decode cX5_toneOf 11 = .ok (.tableswitch 62 1 5 #[33, 35, 39, 43, 48], 33) := by decide +kernel
theorem dX5_toneOf_44 : decode cX5_toneOf 44 = .ok (.iload_n 3, 1) := by decide +kernel
theorem dX5_toneOf_45 : decode cX5_toneOf 45 = .ok (.ireturn, 1) := by decide +kernel
theorem dX5_toneOf_46 : decode cX5_toneOf 46 = .ok (.iload_n 2, 1) := by decide +kernel
theorem dX5_toneOf_47 : decode cX5_toneOf 47 = .ok (.iconst 2, 1) := by decide +kernel
theorem dX5_toneOf_48 : decode cX5_toneOf 48 = .ok (.idiv, 1) := by decide +kernel
theorem dX5_toneOf_49 : decode cX5_toneOf 49 = .ok (.ireturn, 1) := by decide +kernel
theorem dX5_toneOf_50 : decode cX5_toneOf 50 = .ok (.iload_n 3, 1) := by decide +kernel
theorem dX5_toneOf_51 : decode cX5_toneOf 51 = .ok (.iload_n 1, 1) := by decide +kernel
theorem dX5_toneOf_52 : decode cX5_toneOf 52 = .ok (.isub, 1) := by decide +kernel
theorem dX5_toneOf_53 : decode cX5_toneOf 53 = .ok (.ireturn, 1) := by decide +kernel
theorem dX5_toneOf_54 : decode cX5_toneOf 54 = .ok (.iload_n 2, 1) := by decide +kernel
theorem dX5_toneOf_55 : decode cX5_toneOf 55 = .ok (.bipush 30, 2) := by decide +kernel
theorem dX5_toneOf_57 : decode cX5_toneOf 57 = .ok (.iadd, 1) := by decide +kernel
theorem dX5_toneOf_58 : decode cX5_toneOf 58 = .ok (.ireturn, 1) := by decide +kernel
theorem dX5_toneOf_59 : decode cX5_toneOf 59 = .ok (.iload_n 1, 1) := by decide +kernel
theorem dX5_toneOf_60 : decode cX5_toneOf 60 = .ok (.iconst 4, 1) := by decide +kernel
theorem dX5_toneOf_61 : decode cX5_toneOf 61 = .ok (.if_icmp .le 10, 3) := by decide +kernel
theorem dX5_toneOf_64 : decode cX5_toneOf 64 = .ok (.iload_n 3, 1) := by decide +kernel
theorem dX5_toneOf_65 : decode cX5_toneOf 65 = .ok (.bipush 9, 2) := by decide +kernel
theorem dX5_toneOf_67 : decode cX5_toneOf 67 = .ok (.iadd, 1) := by decide +kernel
theorem dX5_toneOf_68 : decode cX5_toneOf 68 = .ok (.goto 4, 3) := by decide +kernel
theorem dX5_toneOf_71 : decode cX5_toneOf 71 = .ok (.iload_n 3, 1) := by decide +kernel
theorem dX5_toneOf_72 : decode cX5_toneOf 72 = .ok (.ireturn, 1) := by decide +kernel
theorem dX5_toneOf_73 : decode cX5_toneOf 73 = .ok (.iload_n 2, 1) := by decide +kernel
theorem dX5_toneOf_74 : decode cX5_toneOf 74 = .ok (.ireturn, 1) := by decide +kernel
theorem dX5_loudOf_0 : decode cX5_loudOf 0 = .ok (.bipush 10, 2) := by decide +kernel
theorem dX5_loudOf_2 : decode cX5_loudOf 2 = .ok (.iload_n 1, 1) := by decide +kernel
theorem dX5_loudOf_3 : decode cX5_loudOf 3 = .ok (.imul, 1) := by decide +kernel
theorem dX5_loudOf_4 : decode cX5_loudOf 4 = .ok (.iconst 5, 1) := by decide +kernel
theorem dX5_loudOf_5 : decode cX5_loudOf 5 = .ok (.iload_n 3, 1) := by decide +kernel
theorem dX5_loudOf_6 : decode cX5_loudOf 6 = .ok (.imul, 1) := by decide +kernel
theorem dX5_loudOf_7 : decode cX5_loudOf 7 = .ok (.iadd, 1) := by decide +kernel
theorem dX5_loudOf_8 : decode cX5_loudOf 8 = .ok (.iconst 2, 1) := by decide +kernel
theorem dX5_loudOf_9 : decode cX5_loudOf 9 = .ok (.iload 4, 2) := by decide +kernel
theorem dX5_loudOf_11 : decode cX5_loudOf 11 = .ok (.imul, 1) := by decide +kernel
theorem dX5_loudOf_12 : decode cX5_loudOf 12 = .ok (.iadd, 1) := by decide +kernel
theorem dX5_loudOf_13 : decode cX5_loudOf 13 = .ok (.bipush 6, 2) := by decide +kernel
theorem dX5_loudOf_15 : decode cX5_loudOf 15 = .ok (.iload_n 2, 1) := by decide +kernel
theorem dX5_loudOf_16 : decode cX5_loudOf 16 = .ok (.imul, 1) := by decide +kernel
theorem dX5_loudOf_17 : decode cX5_loudOf 17 = .ok (.isub, 1) := by decide +kernel
theorem dX5_loudOf_18 : decode cX5_loudOf 18 = .ok (.istore 5, 2) := by decide +kernel
theorem dX5_loudOf_20 : decode cX5_loudOf 20 = .ok (.iload 5, 2) := by decide +kernel
theorem dX5_loudOf_22 : decode cX5_loudOf 22 = .ok (.bipush 8, 2) := by decide +kernel
theorem dX5_loudOf_24 : decode cX5_loudOf 24 = .ok (.iadd, 1) := by decide +kernel
theorem dX5_loudOf_25 : decode cX5_loudOf 25 = .ok (.istore 6, 2) := by decide +kernel
theorem dX5_loudOf_27 : decode cX5_loudOf 27 = .ok (.iload_n 0, 1) := by decide +kernel
theorem dX5_loudOf_28 : decode cX5_loudOf 28 = .ok (.tableswitch 57 1 5 #[36, 39, 47, 57, 52], 36) := by decide +kernel
theorem dX5_loudOf_64 : decode cX5_loudOf 64 = .ok (.iload 6, 2) := by decide +kernel
theorem dX5_loudOf_66 : decode cX5_loudOf 66 = .ok (.ireturn, 1) := by decide +kernel
theorem dX5_loudOf_67 : decode cX5_loudOf 67 = .ok (.iload 5, 2) := by decide +kernel
theorem dX5_loudOf_69 : decode cX5_loudOf 69 = .ok (.iconst 5, 1) := by decide +kernel
theorem dX5_loudOf_70 : decode cX5_loudOf 70 = .ok (.iload 4, 2) := by decide +kernel
theorem dX5_loudOf_72 : decode cX5_loudOf 72 = .ok (.imul, 1) := by decide +kernel
theorem dX5_loudOf_73 : decode cX5_loudOf 73 = .ok (.isub, 1) := by decide +kernel
theorem dX5_loudOf_74 : decode cX5_loudOf 74 = .ok (.ireturn, 1) := by decide +kernel
theorem dX5_loudOf_75 : decode cX5_loudOf 75 = .ok (.iload 6, 2) := by decide +kernel
theorem dX5_loudOf_77 : decode cX5_loudOf 77 = .ok (.iconst 2, 1) := by decide +kernel
theorem dX5_loudOf_78 : decode cX5_loudOf 78 = .ok (.idiv, 1) := by decide +kernel
theorem dX5_loudOf_79 : decode cX5_loudOf 79 = .ok (.ireturn, 1) := by decide +kernel
theorem dX5_loudOf_80 : decode cX5_loudOf 80 = .ok (.iconst 2, 1) := by decide +kernel
theorem dX5_loudOf_81 : decode cX5_loudOf 81 = .ok (.iload 6, 2) := by decide +kernel
theorem dX5_loudOf_83 : decode cX5_loudOf 83 = .ok (.imul, 1) := by decide +kernel
theorem dX5_loudOf_84 : decode cX5_loudOf 84 = .ok (.ireturn, 1) := by decide +kernel
theorem dX5_loudOf_85 : decode cX5_loudOf 85 = .ok (.iload 5, 2) := by decide +kernel
theorem dX5_loudOf_87 : decode cX5_loudOf 87 = .ok (.ireturn, 1) := by decide +kernel
theorem dX5_dragsOf_0 : decode cX5_dragsOf 0 = .ok (.iload_n 0, 1) := by decide +kernel
theorem dX5_dragsOf_1 : decode cX5_dragsOf 1 = .ok (.tableswitch 58 2 5 #[31, 33, 35, 46], 31) := by decide +kernel
theorem dX5_dragsOf_32 : decode cX5_dragsOf 32 = .ok (.iconst 0, 1) := by decide +kernel
theorem dX5_dragsOf_33 : decode cX5_dragsOf 33 = .ok (.ireturn, 1) := by decide +kernel
theorem dX5_dragsOf_34 : decode cX5_dragsOf 34 = .ok (.iconst 2, 1) := by decide +kernel
theorem dX5_dragsOf_35 : decode cX5_dragsOf 35 = .ok (.ireturn, 1) := by decide +kernel
theorem dX5_dragsOf_36 : decode cX5_dragsOf 36 = .ok (.iload_n 1, 1) := by decide +kernel
theorem dX5_dragsOf_37 : decode cX5_dragsOf 37 = .ok (.iconst 5, 1) := by decide +kernel
theorem dX5_dragsOf_38 : decode cX5_dragsOf 38 = .ok (.if_icmp .ge 7, 3) := by decide +kernel
theorem dX5_dragsOf_41 : decode cX5_dragsOf 41 = .ok (.iconst 1, 1) := by decide +kernel
theorem dX5_dragsOf_42 : decode cX5_dragsOf 42 = .ok (.goto 4, 3) := by decide +kernel
theorem dX5_dragsOf_45 : decode cX5_dragsOf 45 = .ok (.iconst 0, 1) := by decide +kernel
theorem dX5_dragsOf_46 : decode cX5_dragsOf 46 = .ok (.ireturn, 1) := by decide +kernel
theorem dX5_dragsOf_47 : decode cX5_dragsOf 47 = .ok (.iload_n 2, 1) := by decide +kernel
theorem dX5_dragsOf_48 : decode cX5_dragsOf 48 = .ok (.bipush 10, 2) := by decide +kernel
theorem dX5_dragsOf_50 : decode cX5_dragsOf 50 = .ok (.if_icmp .ge 7, 3) := by decide +kernel
theorem dX5_dragsOf_53 : decode cX5_dragsOf 53 = .ok (.iconst 1, 1) := by decide +kernel
theorem dX5_dragsOf_54 : decode cX5_dragsOf 54 = .ok (.goto 4, 3) := by decide +kernel
theorem dX5_dragsOf_57 : decode cX5_dragsOf 57 = .ok (.iconst 0, 1) := by decide +kernel
theorem dX5_dragsOf_58 : decode cX5_dragsOf 58 = .ok (.ireturn, 1) := by decide +kernel
theorem dX5_dragsOf_59 : decode cX5_dragsOf 59 = .ok (.iconst 1, 1) := by decide +kernel
theorem dX5_dragsOf_60 : decode cX5_dragsOf 60 = .ok (.ireturn, 1) := by decide +kernel
theorem dX5_isUnder_0 : decode cX5_isUnder 0 = .ok (.iload_n 0, 1) := by decide +kernel
theorem dX5_isUnder_1 : decode cX5_isUnder 1 = .ok (.istore_n 2, 1) := by decide +kernel
theorem dX5_isUnder_2 : decode cX5_isUnder 2 = .ok (.iconst 0, 1) := by decide +kernel
theorem dX5_isUnder_3 : decode cX5_isUnder 3 = .ok (.istore_n 3, 1) := by decide +kernel
theorem dX5_isUnder_4 : decode cX5_isUnder 4 = .ok (.iload_n 3, 1) := by decide +kernel
theorem dX5_isUnder_5 : decode cX5_isUnder 5 = .ok (.getstatic 265, 3) := by decide +kernel
theorem dX5_isUnder_8 : decode cX5_isUnder 8 = .ok (.arraylength, 1) := by decide +kernel
theorem dX5_isUnder_9 : decode cX5_isUnder 9 = .ok (.if_icmp .ge 36, 3) := by decide +kernel
theorem dX5_isUnder_12 : decode cX5_isUnder 12 = .ok (.iload_n 2, 1) := by decide +kernel
theorem dX5_isUnder_13 : decode cX5_isUnder 13 = .ok (.iload_n 1, 1) := by decide +kernel
theorem dX5_isUnder_14 : decode cX5_isUnder 14 = .ok (.if_icmp .ne 5, 3) := by decide +kernel
theorem dX5_isUnder_17 : decode cX5_isUnder 17 = .ok (.iconst 1, 1) := by decide +kernel
theorem dX5_isUnder_18 : decode cX5_isUnder 18 = .ok (.ireturn, 1) := by decide +kernel
theorem dX5_isUnder_19 : decode cX5_isUnder 19 = .ok (.iload_n 2, 1) := by decide +kernel
theorem dX5_isUnder_20 : decode cX5_isUnder 20 = .ok (.ifCond .lt 11, 3) := by decide +kernel
theorem dX5_isUnder_23 : decode cX5_isUnder 23 = .ok (.iload_n 2, 1) := by decide +kernel
theorem dX5_isUnder_24 : decode cX5_isUnder 24 = .ok (.getstatic 265, 3) := by decide +kernel
theorem dX5_isUnder_27 : decode cX5_isUnder 27 = .ok (.arraylength, 1) := by decide +kernel
theorem dX5_isUnder_28 : decode cX5_isUnder 28 = .ok (.if_icmp .lt 5, 3) := by decide +kernel
theorem dX5_isUnder_31 : decode cX5_isUnder 31 = .ok (.iconst 0, 1) := by decide +kernel
theorem dX5_isUnder_32 : decode cX5_isUnder 32 = .ok (.ireturn, 1) := by decide +kernel
theorem dX5_isUnder_33 : decode cX5_isUnder 33 = .ok (.getstatic 265, 3) := by decide +kernel
theorem dX5_isUnder_36 : decode cX5_isUnder 36 = .ok (.iload_n 2, 1) := by decide +kernel
theorem dX5_isUnder_37 : decode cX5_isUnder 37 = .ok (.iaload, 1) := by decide +kernel
theorem dX5_isUnder_38 : decode cX5_isUnder 38 = .ok (.istore_n 2, 1) := by decide +kernel
theorem dX5_isUnder_39 : decode cX5_isUnder 39 = .ok (.iinc 3 1, 3) := by decide +kernel
theorem dX5_isUnder_42 : decode cX5_isUnder 42 = .ok (.goto (-38), 3) := by decide +kernel
theorem dX5_isUnder_45 : decode cX5_isUnder 45 = .ok (.iconst 0, 1) := by decide +kernel
theorem dX5_isUnder_46 : decode cX5_isUnder 46 = .ok (.ireturn, 1) := by decide +kernel
theorem dX6_in_0 : decode cX6_in 0 = .ok (.lload_n 0, 1) := by decide +kernel
theorem dX6_in_1 : decode cX6_in 1 = .ok (.lload_n 2, 1) := by decide +kernel
theorem dX6_in_2 : decode cX6_in 2 = .ok (.lcmp, 1) := by decide +kernel
theorem dX6_in_3 : decode cX6_in 3 = .ok (.ifCond .lt 14, 3) := by decide +kernel
theorem dX6_in_6 : decode cX6_in 6 = .ok (.lload_n 0, 1) := by decide +kernel
theorem dX6_in_7 : decode cX6_in 7 = .ok (.lload 4, 2) := by decide +kernel
theorem dX6_in_9 : decode cX6_in 9 = .ok (.lcmp, 1) := by decide +kernel
theorem dX6_in_10 : decode cX6_in 10 = .ok (.ifCond .gt 7, 3) := by decide +kernel
theorem dX6_in_13 : decode cX6_in 13 = .ok (.iconst 1, 1) := by decide +kernel
theorem dX6_in_14 : decode cX6_in 14 = .ok (.goto 4, 3) := by decide +kernel
theorem dX6_in_17 : decode cX6_in 17 = .ok (.iconst 0, 1) := by decide +kernel
theorem dX6_in_18 : decode cX6_in 18 = .ok (.ireturn, 1) := by decide +kernel
theorem dX6_within_0 : decode cX6_within 0 = .ok (.iload_n 0, 1) := by decide +kernel
theorem dX6_within_1 : decode cX6_within 1 = .ok (.iload_n 1, 1) := by decide +kernel
theorem dX6_within_2 : decode cX6_within 2 = .ok (.if_icmp .ge 7, 3) := by decide +kernel
theorem dX6_within_5 : decode cX6_within 5 = .ok (.iload_n 1, 1) := by decide +kernel
theorem dX6_within_6 : decode cX6_within 6 = .ok (.goto 13, 3) := by decide +kernel
theorem dX6_within_9 : decode cX6_within 9 = .ok (.iload_n 0, 1) := by decide +kernel
theorem dX6_within_10 : decode cX6_within 10 = .ok (.iload_n 2, 1) := by decide +kernel
theorem dX6_within_11 : decode cX6_within 11 = .ok (.if_icmp .le 7, 3) := by decide +kernel
theorem dX6_within_14 : decode cX6_within 14 = .ok (.iload_n 2, 1) := by decide +kernel
theorem dX6_within_15 : decode cX6_within 15 = .ok (.goto 4, 3) := by decide +kernel
theorem dX6_within_18 : decode cX6_within 18 = .ok (.iload_n 0, 1) := by decide +kernel
theorem dX6_within_19 : decode cX6_within 19 = .ok (.ireturn, 1) := by decide +kernel
theorem dX6_bitsOf_0 : decode cX6_bitsOf 0 = .ok (.iconst 0, 1) := by decide +kernel
theorem dX6_bitsOf_1 : decode cX6_bitsOf 1 = .ok (.istore_n 1, 1) := by decide +kernel
theorem dX6_bitsOf_2 : decode cX6_bitsOf 2 = .ok (.iload_n 0, 1) := by decide +kernel
theorem dX6_bitsOf_3 : decode cX6_bitsOf 3 = .ok (.istore_n 2, 1) := by decide +kernel
theorem dX6_bitsOf_4 : decode cX6_bitsOf 4 = .ok (.iload_n 2, 1) := by decide +kernel
theorem dX6_bitsOf_5 : decode cX6_bitsOf 5 = .ok (.ifCond .eq 15, 3) := by decide +kernel
theorem dX6_bitsOf_8 : decode cX6_bitsOf 8 = .ok (.iinc 1 1, 3) := by decide +kernel
theorem dX6_bitsOf_11 : decode cX6_bitsOf 11 = .ok (.iload_n 2, 1) := by decide +kernel
theorem dX6_bitsOf_12 : decode cX6_bitsOf 12 = .ok (.iload_n 2, 1) := by decide +kernel
theorem dX6_bitsOf_13 : decode cX6_bitsOf 13 = .ok (.iconst 1, 1) := by decide +kernel
theorem dX6_bitsOf_14 : decode cX6_bitsOf 14 = .ok (.isub, 1) := by decide +kernel
theorem dX6_bitsOf_15 : decode cX6_bitsOf 15 = .ok (.iand, 1) := by decide +kernel
theorem dX6_bitsOf_16 : decode cX6_bitsOf 16 = .ok (.istore_n 2, 1) := by decide +kernel
theorem dX6_bitsOf_17 : decode cX6_bitsOf 17 = .ok (.goto (-13), 3) := by decide +kernel
theorem dX6_bitsOf_20 : decode cX6_bitsOf 20 = .ok (.iload_n 1, 1) := by decide +kernel
theorem dX6_bitsOf_21 : decode cX6_bitsOf 21 = .ok (.ireturn, 1) := by decide +kernel
theorem dX6_init_0 : decode cX6_init 0 = .ok (.aload_n 0, 1) := by decide +kernel
theorem dX6_init_1 : decode cX6_init 1 = .ok (.invokespecial 7, 3) := by decide +kernel
theorem dX6_init_4 : decode cX6_init 4 = .ok (.aload_n 0, 1) := by decide +kernel
theorem dX6_init_5 : decode cX6_init 5 = .ok (.sipush 960, 3) := by decide +kernel
theorem dX6_init_8 : decode cX6_init 8 = .ok (.newarray .int, 2) := by decide +kernel
theorem dX6_init_10 : decode cX6_init 10 = .ok (.putfield 13, 3) := by decide +kernel
theorem dX6_init_13 : decode cX6_init 13 = .ok (.aload_n 0, 1) := by decide +kernel
theorem dX6_init_14 : decode cX6_init 14 = .ok (.bipush 6, 2) := by decide +kernel
theorem dX6_init_16 : decode cX6_init 16 = .ok (.newarray .int, 2) := by decide +kernel
theorem dX6_init_18 : decode cX6_init 18 = .ok (.putfield 17, 3) := by decide +kernel
theorem dX6_init_21 : decode cX6_init 21 = .ok (.aload_n 0, 1) := by decide +kernel
theorem dX6_init_22 : decode cX6_init 22 = .ok (.sipush 160, 3) := by decide +kernel
theorem dX6_init_25 : decode cX6_init 25 = .ok (.newarray .int, 2) := by decide +kernel
theorem dX6_init_27 : decode cX6_init 27 = .ok (.putfield 20, 3) := by decide +kernel
theorem dX6_init_30 : decode cX6_init 30 = .ok (.aload_n 0, 1) := by decide +kernel
theorem dX6_init_31 : decode cX6_init 31 = .ok (.bipush 12, 2) := by decide +kernel
theorem dX6_init_33 : decode cX6_init 33 = .ok (.newarray .int, 2) := by decide +kernel
theorem dX6_init_35 : decode cX6_init 35 = .ok (.putfield 23, 3) := by decide +kernel
theorem dX6_init_38 : decode cX6_init 38 = .ok (.aload_n 0, 1) := by decide +kernel
theorem dX6_init_39 : decode cX6_init 39 = .ok (.bipush 12, 2) := by decide +kernel
theorem dX6_init_41 : decode cX6_init 41 = .ok (.newarray .int, 2) := by decide +kernel
theorem dX6_init_43 : decode cX6_init 43 = .ok (.putfield 26, 3) := by decide +kernel
theorem dX6_init_46 : decode cX6_init 46 = .ok (.aload_n 0, 1) := by decide +kernel
theorem dX6_init_47 : decode cX6_init 47 = .ok (.bipush 12, 2) := by decide +kernel
theorem dX6_init_49 : decode cX6_init 49 = .ok (.newarray .int, 2) := by decide +kernel
theorem dX6_init_51 : decode cX6_init 51 = .ok (.putfield 29, 3) := by decide +kernel
theorem dX6_init_54 : decode cX6_init 54 = .ok (.aload_n 0, 1) := by decide +kernel
theorem dX6_init_55 : decode cX6_init 55 = .ok (.bipush 12, 2) := by decide +kernel
theorem dX6_init_57 : decode cX6_init 57 = .ok (.newarray .int, 2) := by decide +kernel
theorem dX6_init_59 : decode cX6_init 59 = .ok (.putfield 32, 3) := by decide +kernel
theorem dX6_init_62 : decode cX6_init 62 = .ok (.aload_n 0, 1) := by decide +kernel
theorem dX6_init_63 : decode cX6_init 63 = .ok (.iconst 3, 1) := by decide +kernel
theorem dX6_init_64 : decode cX6_init 64 = .ok (.putfield 35, 3) := by decide +kernel
theorem dX6_init_67 : decode cX6_init 67 = .ok (.aload_n 0, 1) := by decide +kernel
theorem dX6_init_68 : decode cX6_init 68 = .ok (.bipush 12, 2) := by decide +kernel
theorem dX6_init_70 : decode cX6_init 70 = .ok (.newarray .int, 2) := by decide +kernel
theorem dX6_init_72 : decode cX6_init 72 = .ok (.putfield 38, 3) := by decide +kernel
theorem dX6_init_75 : decode cX6_init 75 = .ok (.aload_n 0, 1) := by decide +kernel
theorem dX6_init_76 : decode cX6_init 76 = .ok (.bipush 12, 2) := by decide +kernel
theorem dX6_init_78 : decode cX6_init 78 = .ok (.newarray .int, 2) := by decide +kernel
theorem dX6_init_80 : decode cX6_init 80 = .ok (.putfield 41, 3) := by decide +kernel
theorem dX6_init_83 : decode cX6_init 83 = .ok (.aload_n 0, 1) := by decide +kernel
theorem dX6_init_84 : decode cX6_init 84 = .ok (.bipush 12, 2) := by decide +kernel
theorem dX6_init_86 : decode cX6_init 86 = .ok (.newarray .int, 2) := by decide +kernel
theorem dX6_init_88 : decode cX6_init 88 = .ok (.putfield 44, 3) := by decide +kernel
theorem dX6_init_91 : decode cX6_init 91 = .ok (.aload_n 0, 1) := by decide +kernel
theorem dX6_init_92 : decode cX6_init 92 = .ok (.bipush 12, 2) := by decide +kernel
theorem dX6_init_94 : decode cX6_init 94 = .ok (.newarray .int, 2) := by decide +kernel
theorem dX6_init_96 : decode cX6_init 96 = .ok (.putfield 47, 3) := by decide +kernel
theorem dX6_init_99 : decode cX6_init 99 = .ok (.aload_n 0, 1) := by decide +kernel
theorem dX6_init_100 : decode cX6_init 100 = .ok (.iconst (-1), 1) := by decide +kernel
theorem dX6_init_101 : decode cX6_init 101 = .ok (.putfield 50, 3) := by decide +kernel
theorem dX6_init_104 : decode cX6_init 104 = .ok (.aload_n 0, 1) := by decide +kernel
theorem dX6_init_105 : decode cX6_init 105 = .ok (.iconst 4, 1) := by decide +kernel
theorem dX6_init_106 : decode cX6_init 106 = .ok (.newarray .boolean, 2) := by decide +kernel
theorem dX6_init_108 : decode cX6_init 108 = .ok (.putfield 53, 3) := by decide +kernel
theorem dX6_init_111 : decode cX6_init 111 = .ok (.aload_n 0, 1) := by decide +kernel
theorem dX6_init_112 : decode cX6_init 112 = .ok (.iconst 4, 1) := by decide +kernel
theorem dX6_init_113 : decode cX6_init 113 = .ok (.newarray .int, 2) := by decide +kernel
theorem dX6_init_115 : decode cX6_init 115 = .ok (.putfield 57, 3) := by decide +kernel
theorem dX6_init_118 : decode cX6_init 118 = .ok (.aload_n 0, 1) := by decide +kernel
theorem dX6_init_119 : decode cX6_init 119 = .ok (.iconst 4, 1) := by decide +kernel
theorem dX6_init_120 : decode cX6_init 120 = .ok (.newarray .int, 2) := by decide +kernel
theorem dX6_init_122 : decode cX6_init 122 = .ok (.putfield 60, 3) := by decide +kernel
theorem dX6_init_125 : decode cX6_init 125 = .ok (.aload_n 0, 1) := by decide +kernel
theorem dX6_init_126 : decode cX6_init 126 = .ok (.sipush 160, 3) := by decide +kernel
theorem dX6_init_129 : decode cX6_init 129 = .ok (.newarray .int, 2) := by decide +kernel
theorem dX6_init_131 : decode cX6_init 131 = .ok (.putfield 63, 3) := by decide +kernel
theorem dX6_init_134 : decode cX6_init 134 = .ok (.aload_n 0, 1) := by decide +kernel
theorem dX6_init_135 : decode cX6_init 135 = .ok (.iconst 0, 1) := by decide +kernel
theorem dX6_init_136 : decode cX6_init 136 = .ok (.bipush 100, 2) := by decide +kernel
theorem dX6_init_138 : decode cX6_init 138 = .ok (.bipush 105, 2) := by decide +kernel
theorem dX6_init_140 : decode cX6_init 140 = .ok (.bipush 103, 2) := by decide +kernel
theorem dX6_init_142 : decode cX6_init 142 = .ok (.bipush 115, 2) := by decide +kernel
theorem dX6_init_144 : decode cX6_init 144 = .ok (.bipush 32, 2) := by decide +kernel
theorem dX6_init_146 : decode cX6_init 146 = .ok (.bipush 51, 2) := by decide +kernel
theorem dX6_init_148 : decode cX6_init 148 = .ok (.bipush 48, 2) := by decide +kernel
theorem dX6_init_150 : decode cX6_init 150 = .ok (.bipush 32, 2) := by decide +kernel
theorem dX6_init_152 : decode cX6_init 152 = .ok (.invokevirtual 66, 3) := by decide +kernel
theorem dX6_init_155 : decode cX6_init 155 = .ok (.aload_n 0, 1) := by decide +kernel
theorem dX6_init_156 : decode cX6_init 156 = .ok (.bipush 8, 2) := by decide +kernel
theorem dX6_init_158 : decode cX6_init 158 = .ok (.bipush 60, 2) := by decide +kernel
theorem dX6_init_160 : decode cX6_init 160 = .ok (.bipush 32, 2) := by decide +kernel
theorem dX6_init_162 : decode cX6_init 162 = .ok (.bipush 116, 2) := by decide +kernel
theorem dX6_init_164 : decode cX6_init 164 = .ok (.bipush 111, 2) := by decide +kernel
theorem dX6_init_166 : decode cX6_init 166 = .ok (.bipush 110, 2) := by decide +kernel
theorem dX6_init_168 : decode cX6_init 168 = .ok (.bipush 101, 2) := by decide +kernel
theorem dX6_init_170 : decode cX6_init 170 = .ok (.bipush 32, 2) := by decide +kernel
theorem dX6_init_172 : decode cX6_init 172 = .ok (.bipush 59, 2) := by decide +kernel
theorem dX6_init_174 : decode cX6_init 174 = .ok (.invokevirtual 66, 3) := by decide +kernel
theorem dX6_init_177 : decode cX6_init 177 = .ok (.aload_n 0, 1) := by decide +kernel
theorem dX6_init_178 : decode cX6_init 178 = .ok (.bipush 16, 2) := by decide +kernel
theorem dX6_init_180 : decode cX6_init 180 = .ok (.bipush 32, 2) := by decide +kernel
theorem dX6_init_182 : decode cX6_init 182 = .ok (.bipush 104, 2) := by decide +kernel
theorem dX6_init_184 : decode cX6_init 184 = .ok (.bipush 101, 2) := by decide +kernel
theorem dX6_init_186 : decode cX6_init 186 = .ok (.bipush 97, 2) := by decide +kernel
theorem dX6_init_188 : decode cX6_init 188 = .ok (.bipush 114, 2) := by decide +kernel
theorem dX6_init_190 : decode cX6_init 190 = .ok (.bipush 115, 2) := by decide +kernel
theorem dX6_init_192 : decode cX6_init 192 = .ok (.bipush 32, 2) := by decide +kernel
theorem dX6_init_194 : decode cX6_init 194 = .ok (.bipush 49, 2) := by decide +kernel
theorem dX6_init_196 : decode cX6_init 196 = .ok (.invokevirtual 66, 3) := by decide +kernel
theorem dX6_init_199 : decode cX6_init 199 = .ok (.aload_n 0, 1) := by decide +kernel
theorem dX6_init_200 : decode cX6_init 200 = .ok (.bipush 24, 2) := by decide +kernel
theorem dX6_init_202 : decode cX6_init 202 = .ok (.bipush 48, 2) := by decide +kernel
theorem dX6_init_204 : decode cX6_init 204 = .ok (.bipush 32, 2) := by decide +kernel
theorem dX6_init_206 : decode cX6_init 206 = .ok (.bipush 59, 2) := by decide +kernel
theorem dX6_init_208 : decode cX6_init 208 = .ok (.bipush 32, 2) := by decide +kernel
theorem dX6_init_210 : decode cX6_init 210 = .ok (.bipush 119, 2) := by decide +kernel
theorem dX6_init_212 : decode cX6_init 212 = .ok (.bipush 111, 2) := by decide +kernel
theorem dX6_init_214 : decode cX6_init 214 = .ok (.bipush 114, 2) := by decide +kernel
theorem dX6_init_216 : decode cX6_init 216 = .ok (.bipush 116, 2) := by decide +kernel
theorem dX6_init_218 : decode cX6_init 218 = .ok (.invokevirtual 66, 3) := by decide +kernel
theorem dX6_init_221 : decode cX6_init 221 = .ok (.aload_n 0, 1) := by decide +kernel
theorem dX6_init_222 : decode cX6_init 222 = .ok (.bipush 32, 2) := by decide +kernel
theorem dX6_init_224 : decode cX6_init 224 = .ok (.bipush 104, 2) := by decide +kernel
theorem dX6_init_226 : decode cX6_init 226 = .ok (.bipush 32, 2) := by decide +kernel
theorem dX6_init_228 : decode cX6_init 228 = .ok (.bipush 116, 2) := by decide +kernel
theorem dX6_init_230 : decode cX6_init 230 = .ok (.bipush 111, 2) := by decide +kernel
theorem dX6_init_232 : decode cX6_init 232 = .ok (.bipush 110, 2) := by decide +kernel
theorem dX6_init_234 : decode cX6_init 234 = .ok (.bipush 101, 2) := by decide +kernel
theorem dX6_init_236 : decode cX6_init 236 = .ok (.bipush 32, 2) := by decide +kernel
theorem dX6_init_238 : decode cX6_init 238 = .ok (.bipush 45, 2) := by decide +kernel
theorem dX6_init_240 : decode cX6_init 240 = .ok (.invokevirtual 66, 3) := by decide +kernel
theorem dX6_init_243 : decode cX6_init 243 = .ok (.aload_n 0, 1) := by decide +kernel
theorem dX6_init_244 : decode cX6_init 244 = .ok (.bipush 40, 2) := by decide +kernel
theorem dX6_init_246 : decode cX6_init 246 = .ok (.bipush 32, 2) := by decide +kernel
theorem dX6_init_248 : decode cX6_init 248 = .ok (.bipush 49, 2) := by decide +kernel
theorem dX6_init_250 : decode cX6_init 250 = .ok (.bipush 48, 2) := by decide +kernel
theorem dX6_init_252 : decode cX6_init 252 = .ok (.bipush 32, 2) := by decide +kernel
theorem dX6_init_254 : decode cX6_init 254 = .ok (.bipush 59, 2) := by decide +kernel
theorem dX6_init_256 : decode cX6_init 256 = .ok (.bipush 32, 2) := by decide +kernel
theorem dX6_init_258 : decode cX6_init 258 = .ok (.bipush 32, 2) := by decide +kernel
theorem dX6_init_260 : decode cX6_init 260 = .ok (.bipush 32, 2) := by decide +kernel
theorem dX6_init_262 : decode cX6_init 262 = .ok (.invokevirtual 66, 3) := by decide +kernel
theorem dX6_init_265 : decode cX6_init 265 = .ok (.aload_n 0, 1) := by decide +kernel
theorem dX6_init_266 : decode cX6_init 266 = .ok (.getfield 17, 3) := by decide +kernel
theorem dX6_init_269 : decode cX6_init 269 = .ok (.iconst 0, 1) := by decide +kernel
theorem dX6_init_270 : decode cX6_init 270 = .ok (.bipush 48, 2) := by decide +kernel
theorem dX6_init_272 : decode cX6_init 272 = .ok (.iastore, 1) := by decide +kernel
theorem dX6_init_273 : decode cX6_init 273 = .ok (.aload_n 0, 1) := by decide +kernel
theorem dX6_init_274 : decode cX6_init 274 = .ok (.iconst 1, 1) := by decide +kernel
theorem dX6_init_275 : decode cX6_init 275 = .ok (.putfield 70, 3) := by decide +kernel
theorem dX6_init_278 : decode cX6_init 278 = .ok (.return_, 1) := by decide +kernel
theorem dX6_spell_0 : decode cX6_spell 0 = .ok (.aload_n 0, 1) := by decide +kernel
theorem dX6_spell_1 : decode cX6_spell 1 = .ok (.getfield 13, 3) := by decide +kernel
theorem dX6_spell_4 : decode cX6_spell 4 = .ok (.iload_n 1, 1) := by decide +kernel
theorem dX6_spell_5 : decode cX6_spell 5 = .ok (.iload_n 2, 1) := by decide +kernel
theorem dX6_spell_6 : decode cX6_spell 6 = .ok (.iastore, 1) := by decide +kernel
theorem dX6_spell_7 : decode cX6_spell 7 = .ok (.aload_n 0, 1) := by decide +kernel
theorem dX6_spell_8 : decode cX6_spell 8 = .ok (.getfield 13, 3) := by decide +kernel
theorem dX6_spell_11 : decode cX6_spell 11 = .ok (.iload_n 1, 1) := by decide +kernel
theorem dX6_spell_12 : decode cX6_spell 12 = .ok (.iconst 1, 1) := by decide +kernel
theorem dX6_spell_13 : decode cX6_spell 13 = .ok (.iadd, 1) := by decide +kernel
theorem dX6_spell_14 : decode cX6_spell 14 = .ok (.iload_n 3, 1) := by decide +kernel
theorem dX6_spell_15 : decode cX6_spell 15 = .ok (.iastore, 1) := by decide +kernel
theorem dX6_spell_16 : decode cX6_spell 16 = .ok (.aload_n 0, 1) := by decide +kernel
theorem dX6_spell_17 : decode cX6_spell 17 = .ok (.getfield 13, 3) := by decide +kernel
theorem dX6_spell_20 : decode cX6_spell 20 = .ok (.iload_n 1, 1) := by decide +kernel
theorem dX6_spell_21 : decode cX6_spell 21 = .ok (.iconst 2, 1) := by decide +kernel
theorem dX6_spell_22 : decode cX6_spell 22 = .ok (.iadd, 1) := by decide +kernel
theorem dX6_spell_23 : decode cX6_spell 23 = .ok (.iload 4, 2) := by decide +kernel
theorem dX6_spell_25 : decode cX6_spell 25 = .ok (.iastore, 1) := by decide +kernel
theorem dX6_spell_26 : decode cX6_spell 26 = .ok (.aload_n 0, 1) := by decide +kernel
theorem dX6_spell_27 : decode cX6_spell 27 = .ok (.getfield 13, 3) := by decide +kernel
theorem dX6_spell_30 : decode cX6_spell 30 = .ok (.iload_n 1, 1) := by decide +kernel
theorem dX6_spell_31 : decode cX6_spell 31 = .ok (.iconst 3, 1) := by decide +kernel
theorem dX6_spell_32 : decode cX6_spell 32 = .ok (.iadd, 1) := by decide +kernel
theorem dX6_spell_33 : decode cX6_spell 33 = .ok (.iload 5, 2) := by decide +kernel
theorem dX6_spell_35 : decode cX6_spell 35 = .ok (.iastore, 1) := by decide +kernel
theorem dX6_spell_36 : decode cX6_spell 36 = .ok (.aload_n 0, 1) := by decide +kernel
theorem dX6_spell_37 : decode cX6_spell 37 = .ok (.getfield 13, 3) := by decide +kernel
theorem dX6_spell_40 : decode cX6_spell 40 = .ok (.iload_n 1, 1) := by decide +kernel
theorem dX6_spell_41 : decode cX6_spell 41 = .ok (.iconst 4, 1) := by decide +kernel
theorem dX6_spell_42 : decode cX6_spell 42 = .ok (.iadd, 1) := by decide +kernel
theorem dX6_spell_43 : decode cX6_spell 43 = .ok (.iload 6, 2) := by decide +kernel
theorem dX6_spell_45 : decode cX6_spell 45 = .ok (.iastore, 1) := by decide +kernel
theorem dX6_spell_46 : decode cX6_spell 46 = .ok (.aload_n 0, 1) := by decide +kernel
theorem dX6_spell_47 : decode cX6_spell 47 = .ok (.getfield 13, 3) := by decide +kernel
theorem dX6_spell_50 : decode cX6_spell 50 = .ok (.iload_n 1, 1) := by decide +kernel
theorem dX6_spell_51 : decode cX6_spell 51 = .ok (.iconst 5, 1) := by decide +kernel
theorem dX6_spell_52 : decode cX6_spell 52 = .ok (.iadd, 1) := by decide +kernel
theorem dX6_spell_53 : decode cX6_spell 53 = .ok (.iload 7, 2) := by decide +kernel
theorem dX6_spell_55 : decode cX6_spell 55 = .ok (.iastore, 1) := by decide +kernel
theorem dX6_spell_56 : decode cX6_spell 56 = .ok (.aload_n 0, 1) := by decide +kernel
theorem dX6_spell_57 : decode cX6_spell 57 = .ok (.getfield 13, 3) := by decide +kernel
theorem dX6_spell_60 : decode cX6_spell 60 = .ok (.iload_n 1, 1) := by decide +kernel
theorem dX6_spell_61 : decode cX6_spell 61 = .ok (.bipush 6, 2) := by decide +kernel
theorem dX6_spell_63 : decode cX6_spell 63 = .ok (.iadd, 1) := by decide +kernel
theorem dX6_spell_64 : decode cX6_spell 64 = .ok (.iload 8, 2) := by decide +kernel
theorem dX6_spell_66 : decode cX6_spell 66 = .ok (.iastore, 1) := by decide +kernel
theorem dX6_spell_67 : decode cX6_spell 67 = .ok (.aload_n 0, 1) := by decide +kernel
theorem dX6_spell_68 : decode cX6_spell 68 = .ok (.getfield 13, 3) := by decide +kernel
theorem dX6_spell_71 : decode cX6_spell 71 = .ok (.iload_n 1, 1) := by decide +kernel
theorem dX6_spell_72 : decode cX6_spell 72 = .ok (.bipush 7, 2) := by decide +kernel
theorem dX6_spell_74 : decode cX6_spell 74 = .ok (.iadd, 1) := by decide +kernel
theorem dX6_spell_75 : decode cX6_spell 75 = .ok (.iload 9, 2) := by decide +kernel
theorem dX6_spell_77 : decode cX6_spell 77 = .ok (.iastore, 1) := by decide +kernel
theorem dX6_spell_78 : decode cX6_spell 78 = .ok (.return_, 1) := by decide +kernel
theorem dX6_isFind_0 : decode cX6_isFind 0 = .ok (.iload_n 1, 1) := by decide +kernel
theorem dX6_isFind_1 : decode cX6_isFind 1 = .ok (.i2l, 1) := by decide +kernel
theorem dX6_isFind_2 : decode cX6_isFind 2 = .ok (.lconst 0, 1) := by decide +kernel
theorem dX6_isFind_3 : decode cX6_isFind 3 = .ok (.aload_n 0, 1) := by decide +kernel
theorem dX6_isFind_4 : decode cX6_isFind 4 = .ok (.getfield 73, 3) := by decide +kernel
theorem dX6_isFind_7 : decode cX6_isFind 7 = .ok (.iconst 1, 1) := by decide +kernel
theorem dX6_isFind_8 : decode cX6_isFind 8 = .ok (.isub, 1) := by decide +kernel
theorem dX6_isFind_9 : decode cX6_isFind 9 = .ok (.i2l, 1) := by decide +kernel
theorem dX6_isFind_10 : decode cX6_isFind 10 = .ok (.invokestatic 76, 3) := by decide +kernel
theorem dX6_isFind_13 : decode cX6_isFind 13 = .ok (.ireturn, 1) := by decide +kernel
theorem dX6_lies_0 : decode cX6_lies 0 = .ok (.aload_n 0, 1) := by decide +kernel
theorem dX6_lies_1 : decode cX6_lies 1 = .ok (.getfield 80, 3) := by decide +kernel
theorem dX6_lies_4 : decode cX6_lies 4 = .ok (.iload_n 1, 1) := by decide +kernel
theorem dX6_lies_5 : decode cX6_lies 5 = .ok (.ishr, 1) := by decide +kernel
theorem dX6_lies_6 : decode cX6_lies 6 = .ok (.iconst 1, 1) := by decide +kernel
theorem dX6_lies_7 : decode cX6_lies 7 = .ok (.iand, 1) := by decide +kernel
theorem dX6_lies_8 : decode cX6_lies 8 = .ok (.ifCond .ne 7, 3) := by decide +kernel
theorem dX6_lies_11 : decode cX6_lies 11 = .ok (.iconst 1, 1) := by decide +kernel
theorem dX6_lies_12 : decode cX6_lies 12 = .ok (.goto 4, 3) := by decide +kernel
theorem dX6_lies_15 : decode cX6_lies 15 = .ok (.iconst 0, 1) := by decide +kernel
theorem dX6_lies_16 : decode cX6_lies 16 = .ok (.ireturn, 1) := by decide +kernel
theorem dX6_isCell_0 : decode cX6_isCell 0 = .ok (.iload_n 0, 1) := by decide +kernel
theorem dX6_isCell_1 : decode cX6_isCell 1 = .ok (.i2l, 1) := by decide +kernel
theorem dX6_isCell_2 : decode cX6_isCell 2 = .ok (.lconst 0, 1) := by decide +kernel
theorem dX6_isCell_3 : decode cX6_isCell 3 = .ok (.ldc2_w 83, 3) := by decide +kernel
theorem dX6_isCell_6 : decode cX6_isCell 6 = .ok (.invokestatic 76, 3) := by decide +kernel
theorem dX6_isCell_9 : decode cX6_isCell 9 = .ok (.ireturn, 1) := by decide +kernel
theorem dX6_find_0 : decode cX6_find 0 = .ok (.iload_n 1, 1) := by decide +kernel
theorem dX6_find_1 : decode cX6_find 1 = .ok (.i2l, 1) := by decide +kernel
theorem dX6_find_2 : decode cX6_find 2 = .ok (.lconst 0, 1) := by decide +kernel
theorem dX6_find_3 : decode cX6_find 3 = .ok (.ldc2_w 85, 3) := by decide +kernel
theorem dX6_find_6 : decode cX6_find 6 = .ok (.invokestatic 76, 3) := by decide +kernel
theorem dX6_find_9 : decode cX6_find 9 = .ok (.ifCond .eq 29, 3) := by decide +kernel
theorem dX6_find_12 : decode cX6_find 12 = .ok (.iload_n 2, 1) := by decide +kernel
theorem dX6_find_13 : decode cX6_find 13 = .ok (.invokestatic 87, 3) := by decide +kernel
theorem dX6_find_16 : decode cX6_find 16 = .ok (.ifCond .eq 22, 3) := by decide +kernel
theorem dX6_find_19 : decode cX6_find 19 = .ok (.iload_n 3, 1) := by decide +kernel
theorem dX6_find_20 : decode cX6_find 20 = .ok (.i2l, 1) := by decide +kernel
theorem dX6_find_21 : decode cX6_find 21 = .ok (.lconst 1, 1) := by decide +kernel
theorem dX6_find_22 : decode cX6_find 22 = .ok (.ldc2_w 91, 3) := by decide +kernel
theorem dX6_find_25 : decode cX6_find 25 = .ok (.invokestatic 76, 3) := by decide +kernel
theorem dX6_find_28 : decode cX6_find 28 = .ok (.ifCond .eq 10, 3) := by decide +kernel
theorem dX6_find_31 : decode cX6_find 31 = .ok (.iload_n 3, 1) := by decide +kernel
theorem dX6_find_32 : decode cX6_find 32 = .ok (.bipush 10, 2) := by decide +kernel
theorem dX6_find_34 : decode cX6_find 34 = .ok (.irem, 1) := by decide +kernel
theorem dX6_find_35 : decode cX6_find 35 = .ok (.ifCond .ne 6, 3) := by decide +kernel
theorem dX6_find_38 : decode cX6_find 38 = .ok (.bipush (-2), 2) := by decide +kernel
theorem dX6_find_40 : decode cX6_find 40 = .ok (.ireturn, 1) := by decide +kernel
theorem dX6_find_41 : decode cX6_find 41 = .ok (.aload_n 0, 1) := by decide +kernel
theorem dX6_find_42 : decode cX6_find 42 = .ok (.getfield 73, 3) := by decide +kernel
theorem dX6_find_45 : decode cX6_find 45 = .ok (.bipush 12, 2) := by decide +kernel
theorem dX6_find_47 : decode cX6_find 47 = .ok (.if_icmp .ne 6, 3) := by decide +kernel
theorem dX6_find_50 : decode cX6_find 50 = .ok (.bipush (-4), 2) := by decide +kernel
theorem dX6_find_52 : decode cX6_find 52 = .ok (.ireturn, 1) := by decide +kernel
theorem dX6_find_53 : decode cX6_find 53 = .ok (.aload_n 0, 1) := by decide +kernel
theorem dX6_find_54 : decode cX6_find 54 = .ok (.getfield 23, 3) := by decide +kernel
theorem dX6_find_57 : decode cX6_find 57 = .ok (.aload_n 0, 1) := by decide +kernel
theorem dX6_find_58 : decode cX6_find 58 = .ok (.getfield 73, 3) := by decide +kernel
theorem dX6_find_61 : decode cX6_find 61 = .ok (.iload_n 1, 1) := by decide +kernel
end
section
theorem dX6_find_62 : decode cX6_find 62 = .ok (.iastore, 1) := by decide +kernel
theorem dX6_find_63 : decode cX6_find 63 = .ok (.aload_n 0, 1) := by decide +kernel
theorem dX6_find_64 : decode cX6_find 64 = .ok (.getfield 26, 3) := by decide +kernel
theorem dX6_find_67 : decode cX6_find 67 = .ok (.aload_n 0, 1) := by decide +kernel
theorem dX6_find_68 : decode cX6_find 68 = .ok (.getfield 73, 3) := by decide +kernel
theorem dX6_find_71 : decode cX6_find 71 = .ok (.iload_n 2, 1) := by decide +kernel
theorem dX6_find_72 : decode cX6_find 72 = .ok (.iastore, 1) := by decide +kernel
theorem dX6_find_73 : decode cX6_find 73 = .ok (.aload_n 0, 1) := by decide +kernel
theorem dX6_find_74 : decode cX6_find 74 = .ok (.getfield 29, 3) := by decide +kernel
theorem dX6_find_77 : decode cX6_find 77 = .ok (.aload_n 0, 1) := by decide +kernel
theorem dX6_find_78 : decode cX6_find 78 = .ok (.getfield 73, 3) := by decide +kernel
theorem dX6_find_81 : decode cX6_find 81 = .ok (.iload_n 3, 1) := by decide +kernel
theorem dX6_find_82 : decode cX6_find 82 = .ok (.bipush 10, 2) := by decide +kernel
theorem dX6_find_84 : decode cX6_find 84 = .ok (.idiv, 1) := by decide +kernel
theorem dX6_find_85 : decode cX6_find 85 = .ok (.iastore, 1) := by decide +kernel
theorem dX6_find_86 : decode cX6_find 86 = .ok (.aload_n 0, 1) := by decide +kernel
theorem dX6_find_87 : decode cX6_find 87 = .ok (.getfield 32, 3) := by decide +kernel
theorem dX6_find_90 : decode cX6_find 90 = .ok (.aload_n 0, 1) := by decide +kernel
theorem dX6_find_91 : decode cX6_find 91 = .ok (.getfield 73, 3) := by decide +kernel
theorem dX6_find_94 : decode cX6_find 94 = .ok (.iload_n 3, 1) := by decide +kernel
theorem dX6_find_95 : decode cX6_find 95 = .ok (.bipush 10, 2) := by decide +kernel
theorem dX6_find_97 : decode cX6_find 97 = .ok (.irem, 1) := by decide +kernel
theorem dX6_find_98 : decode cX6_find 98 = .ok (.iastore, 1) := by decide +kernel
theorem dX6_find_99 : decode cX6_find 99 = .ok (.aload_n 0, 1) := by decide +kernel
theorem dX6_find_100 : decode cX6_find 100 = .ok (.dup, 1) := by decide +kernel
theorem dX6_find_101 : decode cX6_find 101 = .ok (.getfield 80, 3) := by decide +kernel
theorem dX6_find_104 : decode cX6_find 104 = .ok (.iconst 1, 1) := by decide +kernel
theorem dX6_find_105 : decode cX6_find 105 = .ok (.aload_n 0, 1) := by decide +kernel
theorem dX6_find_106 : decode cX6_find 106 = .ok (.getfield 73, 3) := by decide +kernel
theorem dX6_find_109 : decode cX6_find 109 = .ok (.ishl, 1) := by decide +kernel
theorem dX6_find_110 : decode cX6_find 110 = .ok (.iconst (-1), 1) := by decide +kernel
theorem dX6_find_111 : decode cX6_find 111 = .ok (.ixor, 1) := by decide +kernel
theorem dX6_find_112 : decode cX6_find 112 = .ok (.iand, 1) := by decide +kernel
theorem dX6_find_113 : decode cX6_find 113 = .ok (.putfield 80, 3) := by decide +kernel
theorem dX6_find_116 : decode cX6_find 116 = .ok (.aload_n 0, 1) := by decide +kernel
theorem dX6_find_117 : decode cX6_find 117 = .ok (.dup, 1) := by decide +kernel
theorem dX6_find_118 : decode cX6_find 118 = .ok (.getfield 73, 3) := by decide +kernel
theorem dX6_find_121 : decode cX6_find 121 = .ok (.iconst 1, 1) := by decide +kernel
theorem dX6_find_122 : decode cX6_find 122 = .ok (.iadd, 1) := by decide +kernel
theorem dX6_find_123 : decode cX6_find 123 = .ok (.putfield 73, 3) := by decide +kernel
theorem dX6_find_126 : decode cX6_find 126 = .ok (.aload_n 0, 1) := by decide +kernel
theorem dX6_find_127 : decode cX6_find 127 = .ok (.getfield 73, 3) := by decide +kernel
theorem dX6_find_130 : decode cX6_find 130 = .ok (.iconst 1, 1) := by decide +kernel
theorem dX6_find_131 : decode cX6_find 131 = .ok (.isub, 1) := by decide +kernel
theorem dX6_find_132 : decode cX6_find 132 = .ok (.ireturn, 1) := by decide +kernel
theorem dX6_set_0 : decode cX6_set 0 = .ok (.iload_n 1, 1) := by decide +kernel
theorem dX6_set_1 : decode cX6_set 1 = .ok (.i2l, 1) := by decide +kernel
theorem dX6_set_2 : decode cX6_set 2 = .ok (.lconst 0, 1) := by decide +kernel
theorem dX6_set_3 : decode cX6_set 3 = .ok (.ldc2_w 93, 3) := by decide +kernel
theorem dX6_set_6 : decode cX6_set 6 = .ok (.invokestatic 76, 3) := by decide +kernel
theorem dX6_set_9 : decode cX6_set 9 = .ok (.ifCond .eq 16, 3) := by decide +kernel
theorem dX6_set_12 : decode cX6_set 12 = .ok (.iload_n 1, 1) := by decide +kernel
theorem dX6_set_13 : decode cX6_set 13 = .ok (.iconst 1, 1) := by decide +kernel
theorem dX6_set_14 : decode cX6_set 14 = .ok (.if_icmp .le 14, 3) := by decide +kernel
theorem dX6_set_17 : decode cX6_set 17 = .ok (.aload_n 0, 1) := by decide +kernel
theorem dX6_set_18 : decode cX6_set 18 = .ok (.iload_n 2, 1) := by decide +kernel
theorem dX6_set_19 : decode cX6_set 19 = .ok (.invokevirtual 95, 3) := by decide +kernel
theorem dX6_set_22 : decode cX6_set 22 = .ok (.ifCond .ne 6, 3) := by decide +kernel
theorem dX6_set_25 : decode cX6_set 25 = .ok (.bipush (-2), 2) := by decide +kernel
theorem dX6_set_27 : decode cX6_set 27 = .ok (.ireturn, 1) := by decide +kernel
theorem dX6_set_28 : decode cX6_set 28 = .ok (.iload_n 3, 1) := by decide +kernel
theorem dX6_set_29 : decode cX6_set 29 = .ok (.i2l, 1) := by decide +kernel
theorem dX6_set_30 : decode cX6_set 30 = .ok (.iload_n 1, 1) := by decide +kernel
theorem dX6_set_31 : decode cX6_set 31 = .ok (.iconst 1, 1) := by decide +kernel
theorem dX6_set_32 : decode cX6_set 32 = .ok (.if_icmp .eq 8, 3) := by decide +kernel
theorem dX6_set_35 : decode cX6_set 35 = .ok (.iload_n 1, 1) := by decide +kernel
theorem dX6_set_36 : decode cX6_set 36 = .ok (.iconst 4, 1) := by decide +kernel
theorem dX6_set_37 : decode cX6_set 37 = .ok (.if_icmp .ne 7, 3) := by decide +kernel
theorem dX6_set_40 : decode cX6_set 40 = .ok (.lconst 1, 1) := by decide +kernel
theorem dX6_set_41 : decode cX6_set 41 = .ok (.goto 4, 3) := by decide +kernel
theorem dX6_set_44 : decode cX6_set 44 = .ok (.lconst 0, 1) := by decide +kernel
theorem dX6_set_45 : decode cX6_set 45 = .ok (.iload_n 1, 1) := by decide +kernel
theorem dX6_set_46 : decode cX6_set 46 = .ok (.iconst 2, 1) := by decide +kernel
theorem dX6_set_47 : decode cX6_set 47 = .ok (.if_icmp .ne 9, 3) := by decide +kernel
theorem dX6_set_50 : decode cX6_set 50 = .ok (.ldc2_w 83, 3) := by decide +kernel
theorem dX6_set_53 : decode cX6_set 53 = .ok (.goto 17, 3) := by decide +kernel
theorem dX6_set_56 : decode cX6_set 56 = .ok (.iload_n 1, 1) := by decide +kernel
theorem dX6_set_57 : decode cX6_set 57 = .ok (.iconst 3, 1) := by decide +kernel
theorem dX6_set_58 : decode cX6_set 58 = .ok (.if_icmp .ne 9, 3) := by decide +kernel
theorem dX6_set_61 : decode cX6_set 61 = .ok (.ldc2_w 98, 3) := by decide +kernel
theorem dX6_set_64 : decode cX6_set 64 = .ok (.goto 6, 3) := by decide +kernel
theorem dX6_set_67 : decode cX6_set 67 = .ok (.ldc2_w 100, 3) := by decide +kernel
theorem dX6_set_70 : decode cX6_set 70 = .ok (.invokestatic 76, 3) := by decide +kernel
theorem dX6_set_73 : decode cX6_set 73 = .ok (.ifCond .ne 6, 3) := by decide +kernel
theorem dX6_set_76 : decode cX6_set 76 = .ok (.bipush (-2), 2) := by decide +kernel
theorem dX6_set_78 : decode cX6_set 78 = .ok (.ireturn, 1) := by decide +kernel
theorem dX6_set_79 : decode cX6_set 79 = .ok (.iload_n 1, 1) := by decide +kernel
theorem dX6_set_80 : decode cX6_set 80 = .ok (.iconst 1, 1) := by decide +kernel
theorem dX6_set_81 : decode cX6_set 81 = .ok (.if_icmp .le 14, 3) := by decide +kernel
theorem dX6_set_84 : decode cX6_set 84 = .ok (.aload_n 0, 1) := by decide +kernel
theorem dX6_set_85 : decode cX6_set 85 = .ok (.iload_n 2, 1) := by decide +kernel
theorem dX6_set_86 : decode cX6_set 86 = .ok (.invokevirtual 102, 3) := by decide +kernel
theorem dX6_set_89 : decode cX6_set 89 = .ok (.ifCond .ne 6, 3) := by decide +kernel
theorem dX6_set_92 : decode cX6_set 92 = .ok (.bipush (-3), 2) := by decide +kernel
theorem dX6_set_94 : decode cX6_set 94 = .ok (.ireturn, 1) := by decide +kernel
theorem dX6_set_95 : decode cX6_set 95 = .ok (.iload_n 1, 1) := by decide +kernel
theorem dX6_set_96 : decode cX6_set 96 = .ok (.ifCond .ne 10, 3) := by decide +kernel
theorem dX6_set_99 : decode cX6_set 99 = .ok (.aload_n 0, 1) := by decide +kernel
theorem dX6_set_100 : decode cX6_set 100 = .ok (.getfield 105, 3) := by decide +kernel
theorem dX6_set_103 : decode cX6_set 103 = .ok (.goto 49, 3) := by decide +kernel
theorem dX6_set_106 : decode cX6_set 106 = .ok (.iload_n 1, 1) := by decide +kernel
theorem dX6_set_107 : decode cX6_set 107 = .ok (.iconst 1, 1) := by decide +kernel
theorem dX6_set_108 : decode cX6_set 108 = .ok (.if_icmp .ne 10, 3) := by decide +kernel
theorem dX6_set_111 : decode cX6_set 111 = .ok (.aload_n 0, 1) := by decide +kernel
theorem dX6_set_112 : decode cX6_set 112 = .ok (.getfield 35, 3) := by decide +kernel
theorem dX6_set_115 : decode cX6_set 115 = .ok (.goto 37, 3) := by decide +kernel
theorem dX6_set_118 : decode cX6_set 118 = .ok (.iload_n 1, 1) := by decide +kernel
theorem dX6_set_119 : decode cX6_set 119 = .ok (.iconst 2, 1) := by decide +kernel
theorem dX6_set_120 : decode cX6_set 120 = .ok (.if_icmp .ne 12, 3) := by decide +kernel
theorem dX6_set_123 : decode cX6_set 123 = .ok (.aload_n 0, 1) := by decide +kernel
theorem dX6_set_124 : decode cX6_set 124 = .ok (.getfield 26, 3) := by decide +kernel
theorem dX6_set_127 : decode cX6_set 127 = .ok (.iload_n 2, 1) := by decide +kernel
theorem dX6_set_128 : decode cX6_set 128 = .ok (.iaload, 1) := by decide +kernel
theorem dX6_set_129 : decode cX6_set 129 = .ok (.goto 23, 3) := by decide +kernel
theorem dX6_set_132 : decode cX6_set 132 = .ok (.iload_n 1, 1) := by decide +kernel
theorem dX6_set_133 : decode cX6_set 133 = .ok (.iconst 3, 1) := by decide +kernel
theorem dX6_set_134 : decode cX6_set 134 = .ok (.if_icmp .ne 12, 3) := by decide +kernel
theorem dX6_set_137 : decode cX6_set 137 = .ok (.aload_n 0, 1) := by decide +kernel
theorem dX6_set_138 : decode cX6_set 138 = .ok (.getfield 29, 3) := by decide +kernel
theorem dX6_set_141 : decode cX6_set 141 = .ok (.iload_n 2, 1) := by decide +kernel
theorem dX6_set_142 : decode cX6_set 142 = .ok (.iaload, 1) := by decide +kernel
theorem dX6_set_143 : decode cX6_set 143 = .ok (.goto 9, 3) := by decide +kernel
theorem dX6_set_146 : decode cX6_set 146 = .ok (.aload_n 0, 1) := by decide +kernel
theorem dX6_set_147 : decode cX6_set 147 = .ok (.getfield 32, 3) := by decide +kernel
theorem dX6_set_150 : decode cX6_set 150 = .ok (.iload_n 2, 1) := by decide +kernel
theorem dX6_set_151 : decode cX6_set 151 = .ok (.iaload, 1) := by decide +kernel
theorem dX6_set_152 : decode cX6_set 152 = .ok (.istore 4, 2) := by decide +kernel
theorem dX6_set_154 : decode cX6_set 154 = .ok (.iload_n 1, 1) := by decide +kernel
theorem dX6_set_155 : decode cX6_set 155 = .ok (.ifCond .ne 11, 3) := by decide +kernel
theorem dX6_set_158 : decode cX6_set 158 = .ok (.aload_n 0, 1) := by decide +kernel
theorem dX6_set_159 : decode cX6_set 159 = .ok (.iload_n 3, 1) := by decide +kernel
theorem dX6_set_160 : decode cX6_set 160 = .ok (.putfield 105, 3) := by decide +kernel
theorem dX6_set_163 : decode cX6_set 163 = .ok (.goto 53, 3) := by decide +kernel
theorem dX6_set_166 : decode cX6_set 166 = .ok (.iload_n 1, 1) := by decide +kernel
theorem dX6_set_167 : decode cX6_set 167 = .ok (.iconst 1, 1) := by decide +kernel
theorem dX6_set_168 : decode cX6_set 168 = .ok (.if_icmp .ne 11, 3) := by decide +kernel
theorem dX6_set_171 : decode cX6_set 171 = .ok (.aload_n 0, 1) := by decide +kernel
theorem dX6_set_172 : decode cX6_set 172 = .ok (.iload_n 3, 1) := by decide +kernel
theorem dX6_set_173 : decode cX6_set 173 = .ok (.putfield 35, 3) := by decide +kernel
theorem dX6_set_176 : decode cX6_set 176 = .ok (.goto 40, 3) := by decide +kernel
theorem dX6_set_179 : decode cX6_set 179 = .ok (.iload_n 1, 1) := by decide +kernel
theorem dX6_set_180 : decode cX6_set 180 = .ok (.iconst 2, 1) := by decide +kernel
theorem dX6_set_181 : decode cX6_set 181 = .ok (.if_icmp .ne 13, 3) := by decide +kernel
theorem dX6_set_184 : decode cX6_set 184 = .ok (.aload_n 0, 1) := by decide +kernel
theorem dX6_set_185 : decode cX6_set 185 = .ok (.getfield 26, 3) := by decide +kernel
theorem dX6_set_188 : decode cX6_set 188 = .ok (.iload_n 2, 1) := by decide +kernel
theorem dX6_set_189 : decode cX6_set 189 = .ok (.iload_n 3, 1) := by decide +kernel
theorem dX6_set_190 : decode cX6_set 190 = .ok (.iastore, 1) := by decide +kernel
theorem dX6_set_191 : decode cX6_set 191 = .ok (.goto 25, 3) := by decide +kernel
theorem dX6_set_194 : decode cX6_set 194 = .ok (.iload_n 1, 1) := by decide +kernel
theorem dX6_set_195 : decode cX6_set 195 = .ok (.iconst 3, 1) := by decide +kernel
theorem dX6_set_196 : decode cX6_set 196 = .ok (.if_icmp .ne 13, 3) := by decide +kernel
theorem dX6_set_199 : decode cX6_set 199 = .ok (.aload_n 0, 1) := by decide +kernel
theorem dX6_set_200 : decode cX6_set 200 = .ok (.getfield 29, 3) := by decide +kernel
theorem dX6_set_203 : decode cX6_set 203 = .ok (.iload_n 2, 1) := by decide +kernel
theorem dX6_set_204 : decode cX6_set 204 = .ok (.iload_n 3, 1) := by decide +kernel
theorem dX6_set_205 : decode cX6_set 205 = .ok (.iastore, 1) := by decide +kernel
theorem dX6_set_206 : decode cX6_set 206 = .ok (.goto 10, 3) := by decide +kernel
theorem dX6_set_209 : decode cX6_set 209 = .ok (.aload_n 0, 1) := by decide +kernel
theorem dX6_set_210 : decode cX6_set 210 = .ok (.getfield 32, 3) := by decide +kernel
theorem dX6_set_213 : decode cX6_set 213 = .ok (.iload_n 2, 1) := by decide +kernel
theorem dX6_set_214 : decode cX6_set 214 = .ok (.iload_n 3, 1) := by decide +kernel
theorem dX6_set_215 : decode cX6_set 215 = .ok (.iastore, 1) := by decide +kernel
theorem dX6_set_216 : decode cX6_set 216 = .ok (.iload 4, 2) := by decide +kernel
theorem dX6_set_218 : decode cX6_set 218 = .ok (.ireturn, 1) := by decide +kernel
theorem dX6_tone_0 : decode cX6_tone 0 = .ok (.aload_n 0, 1) := by decide +kernel
theorem dX6_tone_1 : decode cX6_tone 1 = .ok (.getfield 23, 3) := by decide +kernel
theorem dX6_tone_4 : decode cX6_tone 4 = .ok (.iload_n 1, 1) := by decide +kernel
theorem dX6_tone_5 : decode cX6_tone 5 = .ok (.iaload, 1) := by decide +kernel
theorem dX6_tone_6 : decode cX6_tone 6 = .ok (.istore_n 2, 1) := by decide +kernel
theorem dX6_tone_7 : decode cX6_tone 7 = .ok (.bipush 10, 2) := by decide +kernel
theorem dX6_tone_9 : decode cX6_tone 9 = .ok (.aload_n 0, 1) := by decide +kernel
theorem dX6_tone_10 : decode cX6_tone 10 = .ok (.getfield 32, 3) := by decide +kernel
theorem dX6_tone_13 : decode cX6_tone 13 = .ok (.iload_n 1, 1) := by decide +kernel
theorem dX6_tone_14 : decode cX6_tone 14 = .ok (.iaload, 1) := by decide +kernel
theorem dX6_tone_15 : decode cX6_tone 15 = .ok (.iadd, 1) := by decide +kernel
theorem dX6_tone_16 : decode cX6_tone 16 = .ok (.istore_n 3, 1) := by decide +kernel
theorem dX6_tone_17 : decode cX6_tone 17 = .ok (.iload_n 2, 1) := by decide +kernel
theorem dX6_tone_18 : decode cX6_tone 18 = .ok (.iconst 2, 1) := by decide +kernel
theorem dX6_tone_19 : decode cX6_tone 19 = .ok (.if_icmp .ne 7, 3) := by decide +kernel
theorem dX6_tone_22 : decode cX6_tone 22 = .ok (.iload_n 3, 1) := by decide +kernel
theorem dX6_tone_23 : decode cX6_tone 23 = .ok (.iconst 2, 1) := by decide +kernel
theorem dX6_tone_24 : decode cX6_tone 24 = .ok (.idiv, 1) := by decide +kernel
theorem dX6_tone_25 : decode cX6_tone 25 = .ok (.ireturn, 1) := by decide +kernel
theorem dX6_tone_26 : decode cX6_tone 26 = .ok (.iload_n 2, 1) := by decide +kernel
theorem dX6_tone_27 : decode cX6_tone 27 = .ok (.iconst 4, 1) := by decide +kernel
theorem dX6_tone_28 : decode cX6_tone 28 = .ok (.if_icmp .ne 8, 3) := by decide +kernel
theorem dX6_tone_31 : decode cX6_tone 31 = .ok (.iload_n 3, 1) := by decide +kernel
theorem dX6_tone_32 : decode cX6_tone 32 = .ok (.bipush 30, 2) := by decide +kernel
theorem dX6_tone_34 : decode cX6_tone 34 = .ok (.iadd, 1) := by decide +kernel
theorem dX6_tone_35 : decode cX6_tone 35 = .ok (.ireturn, 1) := by decide +kernel
theorem dX6_tone_36 : decode cX6_tone 36 = .ok (.iload_n 2, 1) := by decide +kernel
theorem dX6_tone_37 : decode cX6_tone 37 = .ok (.iconst 3, 1) := by decide +kernel
theorem dX6_tone_38 : decode cX6_tone 38 = .ok (.if_icmp .ne 15, 3) := by decide +kernel
theorem dX6_tone_41 : decode cX6_tone 41 = .ok (.iload_n 3, 1) := by decide +kernel
theorem dX6_tone_42 : decode cX6_tone 42 = .ok (.bipush 50, 2) := by decide +kernel
theorem dX6_tone_44 : decode cX6_tone 44 = .ok (.iadd, 1) := by decide +kernel
theorem dX6_tone_45 : decode cX6_tone 45 = .ok (.aload_n 0, 1) := by decide +kernel
theorem dX6_tone_46 : decode cX6_tone 46 = .ok (.getfield 32, 3) := by decide +kernel
theorem dX6_tone_49 : decode cX6_tone 49 = .ok (.iload_n 1, 1) := by decide +kernel
theorem dX6_tone_50 : decode cX6_tone 50 = .ok (.iaload, 1) := by decide +kernel
theorem dX6_tone_51 : decode cX6_tone 51 = .ok (.isub, 1) := by decide +kernel
theorem dX6_tone_52 : decode cX6_tone 52 = .ok (.ireturn, 1) := by decide +kernel
theorem dX6_tone_53 : decode cX6_tone 53 = .ok (.iload_n 2, 1) := by decide +kernel
theorem dX6_tone_54 : decode cX6_tone 54 = .ok (.ifCond .ne 7, 3) := by decide +kernel
theorem dX6_tone_57 : decode cX6_tone 57 = .ok (.iload_n 3, 1) := by decide +kernel
theorem dX6_tone_58 : decode cX6_tone 58 = .ok (.goto 29, 3) := by decide +kernel
theorem dX6_tone_61 : decode cX6_tone 61 = .ok (.iload_n 3, 1) := by decide +kernel
theorem dX6_tone_62 : decode cX6_tone 62 = .ok (.bipush 50, 2) := by decide +kernel
theorem dX6_tone_64 : decode cX6_tone 64 = .ok (.iadd, 1) := by decide +kernel
theorem dX6_tone_65 : decode cX6_tone 65 = .ok (.iload_n 2, 1) := by decide +kernel
theorem dX6_tone_66 : decode cX6_tone 66 = .ok (.iconst 5, 1) := by decide +kernel
theorem dX6_tone_67 : decode cX6_tone 67 = .ok (.if_icmp .ne 18, 3) := by decide +kernel
theorem dX6_tone_70 : decode cX6_tone 70 = .ok (.aload_n 0, 1) := by decide +kernel
theorem dX6_tone_71 : decode cX6_tone 71 = .ok (.getfield 32, 3) := by decide +kernel
theorem dX6_tone_74 : decode cX6_tone 74 = .ok (.iload_n 1, 1) := by decide +kernel
theorem dX6_tone_75 : decode cX6_tone 75 = .ok (.iaload, 1) := by decide +kernel
theorem dX6_tone_76 : decode cX6_tone 76 = .ok (.iconst 4, 1) := by decide +kernel
theorem dX6_tone_77 : decode cX6_tone 77 = .ok (.if_icmp .le 8, 3) := by decide +kernel
theorem dX6_tone_80 : decode cX6_tone 80 = .ok (.bipush 9, 2) := by decide +kernel
theorem dX6_tone_82 : decode cX6_tone 82 = .ok (.goto 4, 3) := by decide +kernel
theorem dX6_tone_85 : decode cX6_tone 85 = .ok (.iconst 0, 1) := by decide +kernel
theorem dX6_tone_86 : decode cX6_tone 86 = .ok (.iadd, 1) := by decide +kernel
theorem dX6_tone_87 : decode cX6_tone 87 = .ok (.ireturn, 1) := by decide +kernel
theorem dX6_loud_0 : decode cX6_loud 0 = .ok (.aload_n 0, 1) := by decide +kernel
theorem dX6_loud_1 : decode cX6_loud 1 = .ok (.getfield 23, 3) := by decide +kernel
theorem dX6_loud_4 : decode cX6_loud 4 = .ok (.iload_n 1, 1) := by decide +kernel
theorem dX6_loud_5 : decode cX6_loud 5 = .ok (.iaload, 1) := by decide +kernel
theorem dX6_loud_6 : decode cX6_loud 6 = .ok (.istore_n 2, 1) := by decide +kernel
theorem dX6_loud_7 : decode cX6_loud 7 = .ok (.bipush 10, 2) := by decide +kernel
theorem dX6_loud_9 : decode cX6_loud 9 = .ok (.aload_n 0, 1) := by decide +kernel
theorem dX6_loud_10 : decode cX6_loud 10 = .ok (.getfield 32, 3) := by decide +kernel
theorem dX6_loud_13 : decode cX6_loud 13 = .ok (.iload_n 1, 1) := by decide +kernel
theorem dX6_loud_14 : decode cX6_loud 14 = .ok (.iaload, 1) := by decide +kernel
theorem dX6_loud_15 : decode cX6_loud 15 = .ok (.imul, 1) := by decide +kernel
theorem dX6_loud_16 : decode cX6_loud 16 = .ok (.iconst 5, 1) := by decide +kernel
theorem dX6_loud_17 : decode cX6_loud 17 = .ok (.aload_n 0, 1) := by decide +kernel
theorem dX6_loud_18 : decode cX6_loud 18 = .ok (.getfield 35, 3) := by decide +kernel
theorem dX6_loud_21 : decode cX6_loud 21 = .ok (.imul, 1) := by decide +kernel
theorem dX6_loud_22 : decode cX6_loud 22 = .ok (.iadd, 1) := by decide +kernel
theorem dX6_loud_23 : decode cX6_loud 23 = .ok (.iconst 2, 1) := by decide +kernel
theorem dX6_loud_24 : decode cX6_loud 24 = .ok (.aload_n 0, 1) := by decide +kernel
theorem dX6_loud_25 : decode cX6_loud 25 = .ok (.getfield 105, 3) := by decide +kernel
theorem dX6_loud_28 : decode cX6_loud 28 = .ok (.imul, 1) := by decide +kernel
theorem dX6_loud_29 : decode cX6_loud 29 = .ok (.iadd, 1) := by decide +kernel
theorem dX6_loud_30 : decode cX6_loud 30 = .ok (.bipush 6, 2) := by decide +kernel
theorem dX6_loud_32 : decode cX6_loud 32 = .ok (.aload_n 0, 1) := by decide +kernel
theorem dX6_loud_33 : decode cX6_loud 33 = .ok (.getfield 29, 3) := by decide +kernel
theorem dX6_loud_36 : decode cX6_loud 36 = .ok (.iload_n 1, 1) := by decide +kernel
theorem dX6_loud_37 : decode cX6_loud 37 = .ok (.iaload, 1) := by decide +kernel
theorem dX6_loud_38 : decode cX6_loud 38 = .ok (.imul, 1) := by decide +kernel
theorem dX6_loud_39 : decode cX6_loud 39 = .ok (.isub, 1) := by decide +kernel
theorem dX6_loud_40 : decode cX6_loud 40 = .ok (.istore_n 3, 1) := by decide +kernel
theorem dX6_loud_41 : decode cX6_loud 41 = .ok (.iload_n 2, 1) := by decide +kernel
theorem dX6_loud_42 : decode cX6_loud 42 = .ok (.iconst 2, 1) := by decide +kernel
theorem dX6_loud_43 : decode cX6_loud 43 = .ok (.if_icmp .ne 12, 3) := by decide +kernel
theorem dX6_loud_46 : decode cX6_loud 46 = .ok (.iload_n 3, 1) := by decide +kernel
theorem dX6_loud_47 : decode cX6_loud 47 = .ok (.iconst 5, 1) := by decide +kernel
theorem dX6_loud_48 : decode cX6_loud 48 = .ok (.aload_n 0, 1) := by decide +kernel
theorem dX6_loud_49 : decode cX6_loud 49 = .ok (.getfield 105, 3) := by decide +kernel
theorem dX6_loud_52 : decode cX6_loud 52 = .ok (.imul, 1) := by decide +kernel
theorem dX6_loud_53 : decode cX6_loud 53 = .ok (.isub, 1) := by decide +kernel
theorem dX6_loud_54 : decode cX6_loud 54 = .ok (.istore_n 3, 1) := by decide +kernel
theorem dX6_loud_55 : decode cX6_loud 55 = .ok (.iload_n 2, 1) := by decide +kernel
theorem dX6_loud_56 : decode cX6_loud 56 = .ok (.iconst 1, 1) := by decide +kernel
theorem dX6_loud_57 : decode cX6_loud 57 = .ok (.if_icmp .ne 6, 3) := by decide +kernel
theorem dX6_loud_60 : decode cX6_loud 60 = .ok (.iinc 3 8, 3) := by decide +kernel
theorem dX6_loud_63 : decode cX6_loud 63 = .ok (.iload_n 2, 1) := by decide +kernel
theorem dX6_loud_64 : decode cX6_loud 64 = .ok (.iconst 3, 1) := by decide +kernel
theorem dX6_loud_65 : decode cX6_loud 65 = .ok (.if_icmp .ne 10, 3) := by decide +kernel
theorem dX6_loud_68 : decode cX6_loud 68 = .ok (.iload_n 3, 1) := by decide +kernel
theorem dX6_loud_69 : decode cX6_loud 69 = .ok (.bipush 8, 2) := by decide +kernel
theorem dX6_loud_71 : decode cX6_loud 71 = .ok (.iadd, 1) := by decide +kernel
theorem dX6_loud_72 : decode cX6_loud 72 = .ok (.iconst 2, 1) := by decide +kernel
theorem dX6_loud_73 : decode cX6_loud 73 = .ok (.idiv, 1) := by decide +kernel
theorem dX6_loud_74 : decode cX6_loud 74 = .ok (.istore_n 3, 1) := by decide +kernel
theorem dX6_loud_75 : decode cX6_loud 75 = .ok (.iload_n 2, 1) := by decide +kernel
theorem dX6_loud_76 : decode cX6_loud 76 = .ok (.iconst 5, 1) := by decide +kernel
theorem dX6_loud_77 : decode cX6_loud 77 = .ok (.if_icmp .ne 10, 3) := by decide +kernel
theorem dX6_loud_80 : decode cX6_loud 80 = .ok (.iconst 2, 1) := by decide +kernel
theorem dX6_loud_81 : decode cX6_loud 81 = .ok (.iload_n 3, 1) := by decide +kernel
theorem dX6_loud_82 : decode cX6_loud 82 = .ok (.bipush 8, 2) := by decide +kernel
theorem dX6_loud_84 : decode cX6_loud 84 = .ok (.iadd, 1) := by decide +kernel
theorem dX6_loud_85 : decode cX6_loud 85 = .ok (.imul, 1) := by decide +kernel
theorem dX6_loud_86 : decode cX6_loud 86 = .ok (.istore_n 3, 1) := by decide +kernel
theorem dX6_loud_87 : decode cX6_loud 87 = .ok (.iload_n 3, 1) := by decide +kernel
theorem dX6_loud_88 : decode cX6_loud 88 = .ok (.ifCond .ge 7, 3) := by decide +kernel
theorem dX6_loud_91 : decode cX6_loud 91 = .ok (.iconst 0, 1) := by decide +kernel
theorem dX6_loud_92 : decode cX6_loud 92 = .ok (.goto 4, 3) := by decide +kernel
theorem dX6_loud_95 : decode cX6_loud 95 = .ok (.iload_n 3, 1) := by decide +kernel
theorem dX6_loud_96 : decode cX6_loud 96 = .ok (.ireturn, 1) := by decide +kernel
theorem dX6_dragsAt_0 : decode cX6_dragsAt 0 = .ok (.iload_n 0, 1) := by decide +kernel
theorem dX6_dragsAt_1 : decode cX6_dragsAt 1 = .ok (.iconst 2, 1) := by decide +kernel
theorem dX6_dragsAt_2 : decode cX6_dragsAt 2 = .ok (.if_icmp .ne 5, 3) := by decide +kernel
theorem dX6_dragsAt_5 : decode cX6_dragsAt 5 = .ok (.iconst 0, 1) := by decide +kernel
theorem dX6_dragsAt_6 : decode cX6_dragsAt 6 = .ok (.ireturn, 1) := by decide +kernel
theorem dX6_dragsAt_7 : decode cX6_dragsAt 7 = .ok (.iload_n 0, 1) := by decide +kernel
theorem dX6_dragsAt_8 : decode cX6_dragsAt 8 = .ok (.iconst 4, 1) := by decide +kernel
theorem dX6_dragsAt_9 : decode cX6_dragsAt 9 = .ok (.if_icmp .ne 14, 3) := by decide +kernel
theorem dX6_dragsAt_12 : decode cX6_dragsAt 12 = .ok (.iload_n 1, 1) := by decide +kernel
theorem dX6_dragsAt_13 : decode cX6_dragsAt 13 = .ok (.iconst 5, 1) := by decide +kernel
theorem dX6_dragsAt_14 : decode cX6_dragsAt 14 = .ok (.if_icmp .ge 7, 3) := by decide +kernel
theorem dX6_dragsAt_17 : decode cX6_dragsAt 17 = .ok (.iconst 1, 1) := by decide +kernel
theorem dX6_dragsAt_18 : decode cX6_dragsAt 18 = .ok (.goto 4, 3) := by decide +kernel
theorem dX6_dragsAt_21 : decode cX6_dragsAt 21 = .ok (.iconst 0, 1) := by decide +kernel
theorem dX6_dragsAt_22 : decode cX6_dragsAt 22 = .ok (.ireturn, 1) := by decide +kernel
theorem dX6_dragsAt_23 : decode cX6_dragsAt 23 = .ok (.iload_n 0, 1) := by decide +kernel
theorem dX6_dragsAt_24 : decode cX6_dragsAt 24 = .ok (.iconst 5, 1) := by decide +kernel
theorem dX6_dragsAt_25 : decode cX6_dragsAt 25 = .ok (.if_icmp .ne 15, 3) := by decide +kernel
theorem dX6_dragsAt_28 : decode cX6_dragsAt 28 = .ok (.iload_n 2, 1) := by decide +kernel
theorem dX6_dragsAt_29 : decode cX6_dragsAt 29 = .ok (.bipush 10, 2) := by decide +kernel
theorem dX6_dragsAt_31 : decode cX6_dragsAt 31 = .ok (.if_icmp .ge 7, 3) := by decide +kernel
theorem dX6_dragsAt_34 : decode cX6_dragsAt 34 = .ok (.iconst 1, 1) := by decide +kernel
theorem dX6_dragsAt_35 : decode cX6_dragsAt 35 = .ok (.goto 4, 3) := by decide +kernel
theorem dX6_dragsAt_38 : decode cX6_dragsAt 38 = .ok (.iconst 0, 1) := by decide +kernel
theorem dX6_dragsAt_39 : decode cX6_dragsAt 39 = .ok (.ireturn, 1) := by decide +kernel
theorem dX6_dragsAt_40 : decode cX6_dragsAt 40 = .ok (.iload_n 0, 1) := by decide +kernel
theorem dX6_dragsAt_41 : decode cX6_dragsAt 41 = .ok (.iconst 3, 1) := by decide +kernel
theorem dX6_dragsAt_42 : decode cX6_dragsAt 42 = .ok (.if_icmp .ne 7, 3) := by decide +kernel
theorem dX6_dragsAt_45 : decode cX6_dragsAt 45 = .ok (.iconst 2, 1) := by decide +kernel
theorem dX6_dragsAt_46 : decode cX6_dragsAt 46 = .ok (.goto 4, 3) := by decide +kernel
theorem dX6_dragsAt_49 : decode cX6_dragsAt 49 = .ok (.iconst 1, 1) := by decide +kernel
theorem dX6_dragsAt_50 : decode cX6_dragsAt 50 = .ok (.ireturn, 1) := by decide +kernel
theorem dX6_heard_0 : decode cX6_heard 0 = .ok (.aload_n 0, 1) := by decide +kernel
theorem dX6_heard_1 : decode cX6_heard 1 = .ok (.iload_n 1, 1) := by decide +kernel
theorem dX6_heard_2 : decode cX6_heard 2 = .ok (.invokevirtual 108, 3) := by decide +kernel
theorem dX6_heard_5 : decode cX6_heard 5 = .ok (.istore_n 2, 1) := by decide +kernel
theorem dX6_heard_6 : decode cX6_heard 6 = .ok (.iconst 0, 1) := by decide +kernel
theorem dX6_heard_7 : decode cX6_heard 7 = .ok (.istore_n 3, 1) := by decide +kernel
theorem dX6_heard_8 : decode cX6_heard 8 = .ok (.iload_n 3, 1) := by decide +kernel
theorem dX6_heard_9 : decode cX6_heard 9 = .ok (.aload_n 0, 1) := by decide +kernel
theorem dX6_heard_10 : decode cX6_heard 10 = .ok (.getfield 73, 3) := by decide +kernel
theorem dX6_heard_13 : decode cX6_heard 13 = .ok (.if_icmp .ge 50, 3) := by decide +kernel
theorem dX6_heard_16 : decode cX6_heard 16 = .ok (.iload_n 3, 1) := by decide +kernel
theorem dX6_heard_17 : decode cX6_heard 17 = .ok (.iload_n 1, 1) := by decide +kernel
theorem dX6_heard_18 : decode cX6_heard 18 = .ok (.if_icmp .eq 39, 3) := by decide +kernel
theorem dX6_heard_21 : decode cX6_heard 21 = .ok (.aload_n 0, 1) := by decide +kernel
theorem dX6_heard_22 : decode cX6_heard 22 = .ok (.getfield 23, 3) := by decide +kernel
theorem dX6_heard_25 : decode cX6_heard 25 = .ok (.iload_n 3, 1) := by decide +kernel
theorem dX6_heard_26 : decode cX6_heard 26 = .ok (.iaload, 1) := by decide +kernel
theorem dX6_heard_27 : decode cX6_heard 27 = .ok (.iconst 2, 1) := by decide +kernel
theorem dX6_heard_28 : decode cX6_heard 28 = .ok (.if_icmp .ne 29, 3) := by decide +kernel
theorem dX6_heard_31 : decode cX6_heard 31 = .ok (.aload_n 0, 1) := by decide +kernel
theorem dX6_heard_32 : decode cX6_heard 32 = .ok (.iload_n 3, 1) := by decide +kernel
theorem dX6_heard_33 : decode cX6_heard 33 = .ok (.invokevirtual 102, 3) := by decide +kernel
theorem dX6_heard_36 : decode cX6_heard 36 = .ok (.ifCond .eq 21, 3) := by decide +kernel
theorem dX6_heard_39 : decode cX6_heard 39 = .ok (.aload_n 0, 1) := by decide +kernel
theorem dX6_heard_40 : decode cX6_heard 40 = .ok (.getfield 26, 3) := by decide +kernel
theorem dX6_heard_43 : decode cX6_heard 43 = .ok (.iload_n 3, 1) := by decide +kernel
theorem dX6_heard_44 : decode cX6_heard 44 = .ok (.iaload, 1) := by decide +kernel
theorem dX6_heard_45 : decode cX6_heard 45 = .ok (.aload_n 0, 1) := by decide +kernel
theorem dX6_heard_46 : decode cX6_heard 46 = .ok (.getfield 26, 3) := by decide +kernel
theorem dX6_heard_49 : decode cX6_heard 49 = .ok (.iload_n 1, 1) := by decide +kernel
theorem dX6_heard_50 : decode cX6_heard 50 = .ok (.iaload, 1) := by decide +kernel
theorem dX6_heard_51 : decode cX6_heard 51 = .ok (.if_icmp .ne 6, 3) := by decide +kernel
theorem dX6_heard_54 : decode cX6_heard 54 = .ok (.iinc 2 (-10), 3) := by decide +kernel
theorem dX6_heard_57 : decode cX6_heard 57 = .ok (.iinc 3 1, 3) := by decide +kernel
theorem dX6_heard_60 : decode cX6_heard 60 = .ok (.goto (-52), 3) := by decide +kernel
theorem dX6_heard_63 : decode cX6_heard 63 = .ok (.iload_n 2, 1) := by decide +kernel
theorem dX6_heard_64 : decode cX6_heard 64 = .ok (.ifCond .ge 7, 3) := by decide +kernel
theorem dX6_heard_67 : decode cX6_heard 67 = .ok (.iconst 0, 1) := by decide +kernel
theorem dX6_heard_68 : decode cX6_heard 68 = .ok (.goto 4, 3) := by decide +kernel
theorem dX6_heard_71 : decode cX6_heard 71 = .ok (.iload_n 2, 1) := by decide +kernel
theorem dX6_heard_72 : decode cX6_heard 72 = .ok (.ireturn, 1) := by decide +kernel
theorem dX6_told_0 : decode cX6_told 0 = .ok (.aload_n 0, 1) := by decide +kernel
theorem dX6_told_1 : decode cX6_told 1 = .ok (.iload_n 1, 1) := by decide +kernel
theorem dX6_told_2 : decode cX6_told 2 = .ok (.invokevirtual 95, 3) := by decide +kernel
theorem dX6_told_5 : decode cX6_told 5 = .ok (.ifCond .eq 15, 3) := by decide +kernel
theorem dX6_told_8 : decode cX6_told 8 = .ok (.iload_n 2, 1) := by decide +kernel
theorem dX6_told_9 : decode cX6_told 9 = .ok (.i2l, 1) := by decide +kernel
theorem dX6_told_10 : decode cX6_told 10 = .ok (.lconst 0, 1) := by decide +kernel
theorem dX6_told_11 : decode cX6_told 11 = .ok (.ldc2_w 100, 3) := by decide +kernel
theorem dX6_told_14 : decode cX6_told 14 = .ok (.invokestatic 76, 3) := by decide +kernel
theorem dX6_told_17 : decode cX6_told 17 = .ok (.ifCond .ne 6, 3) := by decide +kernel
theorem dX6_told_20 : decode cX6_told 20 = .ok (.bipush (-2), 2) := by decide +kernel
theorem dX6_told_22 : decode cX6_told 22 = .ok (.ireturn, 1) := by decide +kernel
theorem dX6_told_23 : decode cX6_told 23 = .ok (.iload_n 2, 1) := by decide +kernel
theorem dX6_told_24 : decode cX6_told 24 = .ok (.iconst 4, 1) := by decide +kernel
theorem dX6_told_25 : decode cX6_told 25 = .ok (.if_icmp .ge 51, 3) := by decide +kernel
theorem dX6_told_28 : decode cX6_told 28 = .ok (.iload_n 2, 1) := by decide +kernel
theorem dX6_told_29 : decode cX6_told 29 = .ok (.ifCond .ne 12, 3) := by decide +kernel
theorem dX6_told_32 : decode cX6_told 32 = .ok (.aload_n 0, 1) := by decide +kernel
theorem dX6_told_33 : decode cX6_told 33 = .ok (.getfield 23, 3) := by decide +kernel
theorem dX6_told_36 : decode cX6_told 36 = .ok (.iload_n 1, 1) := by decide +kernel
theorem dX6_told_37 : decode cX6_told 37 = .ok (.iaload, 1) := by decide +kernel
theorem dX6_told_38 : decode cX6_told 38 = .ok (.goto 37, 3) := by decide +kernel
theorem dX6_told_41 : decode cX6_told 41 = .ok (.iload_n 2, 1) := by decide +kernel
theorem dX6_told_42 : decode cX6_told 42 = .ok (.iconst 1, 1) := by decide +kernel
theorem dX6_told_43 : decode cX6_told 43 = .ok (.if_icmp .ne 12, 3) := by decide +kernel
theorem dX6_told_46 : decode cX6_told 46 = .ok (.aload_n 0, 1) := by decide +kernel
theorem dX6_told_47 : decode cX6_told 47 = .ok (.getfield 26, 3) := by decide +kernel
theorem dX6_told_50 : decode cX6_told 50 = .ok (.iload_n 1, 1) := by decide +kernel
theorem dX6_told_51 : decode cX6_told 51 = .ok (.iaload, 1) := by decide +kernel
theorem dX6_told_52 : decode cX6_told 52 = .ok (.goto 23, 3) := by decide +kernel
theorem dX6_told_55 : decode cX6_told 55 = .ok (.iload_n 2, 1) := by decide +kernel
theorem dX6_told_56 : decode cX6_told 56 = .ok (.iconst 2, 1) := by decide +kernel
theorem dX6_told_57 : decode cX6_told 57 = .ok (.if_icmp .ne 12, 3) := by decide +kernel
theorem dX6_told_60 : decode cX6_told 60 = .ok (.aload_n 0, 1) := by decide +kernel
theorem dX6_told_61 : decode cX6_told 61 = .ok (.getfield 29, 3) := by decide +kernel
theorem dX6_told_64 : decode cX6_told 64 = .ok (.iload_n 1, 1) := by decide +kernel
theorem dX6_told_65 : decode cX6_told 65 = .ok (.iaload, 1) := by decide +kernel
theorem dX6_told_66 : decode cX6_told 66 = .ok (.goto 9, 3) := by decide +kernel
theorem dX6_told_69 : decode cX6_told 69 = .ok (.aload_n 0, 1) := by decide +kernel
theorem dX6_told_70 : decode cX6_told 70 = .ok (.getfield 32, 3) := by decide +kernel
theorem dX6_told_73 : decode cX6_told 73 = .ok (.iload_n 1, 1) := by decide +kernel
theorem dX6_told_74 : decode cX6_told 74 = .ok (.iaload, 1) := by decide +kernel
theorem dX6_told_75 : decode cX6_told 75 = .ok (.ireturn, 1) := by decide +kernel
theorem dX6_told_76 : decode cX6_told 76 = .ok (.iload_n 2, 1) := by decide +kernel
theorem dX6_told_77 : decode cX6_told 77 = .ok (.bipush 6, 2) := by decide +kernel
theorem dX6_told_79 : decode cX6_told 79 = .ok (.if_icmp .ge 25, 3) := by decide +kernel
theorem dX6_told_82 : decode cX6_told 82 = .ok (.iload_n 2, 1) := by decide +kernel
theorem dX6_told_83 : decode cX6_told 83 = .ok (.iconst 4, 1) := by decide +kernel
theorem dX6_told_84 : decode cX6_told 84 = .ok (.if_icmp .ne 14, 3) := by decide +kernel
theorem dX6_told_87 : decode cX6_told 87 = .ok (.aload_n 0, 1) := by decide +kernel
theorem dX6_told_88 : decode cX6_told 88 = .ok (.getfield 80, 3) := by decide +kernel
theorem dX6_told_91 : decode cX6_told 91 = .ok (.iload_n 1, 1) := by decide +kernel
theorem dX6_told_92 : decode cX6_told 92 = .ok (.ishr, 1) := by decide +kernel
theorem dX6_told_93 : decode cX6_told 93 = .ok (.iconst 1, 1) := by decide +kernel
theorem dX6_told_94 : decode cX6_told 94 = .ok (.iand, 1) := by decide +kernel
theorem dX6_told_95 : decode cX6_told 95 = .ok (.goto 8, 3) := by decide +kernel
theorem dX6_told_98 : decode cX6_told 98 = .ok (.aload_n 0, 1) := by decide +kernel
theorem dX6_told_99 : decode cX6_told 99 = .ok (.iload_n 1, 1) := by decide +kernel
theorem dX6_told_100 : decode cX6_told 100 = .ok (.invokevirtual 112, 3) := by decide +kernel
theorem dX6_told_103 : decode cX6_told 103 = .ok (.ireturn, 1) := by decide +kernel
theorem dX6_told_104 : decode cX6_told 104 = .ok (.iload_n 2, 1) := by decide +kernel
theorem dX6_told_105 : decode cX6_told 105 = .ok (.bipush 8, 2) := by decide +kernel
theorem dX6_told_107 : decode cX6_told 107 = .ok (.if_icmp .ge 35, 3) := by decide +kernel
theorem dX6_told_110 : decode cX6_told 110 = .ok (.iload_n 2, 1) := by decide +kernel
theorem dX6_told_111 : decode cX6_told 111 = .ok (.bipush 6, 2) := by decide +kernel
theorem dX6_told_113 : decode cX6_told 113 = .ok (.if_icmp .ne 11, 3) := by decide +kernel
theorem dX6_told_116 : decode cX6_told 116 = .ok (.aload_n 0, 1) := by decide +kernel
theorem dX6_told_117 : decode cX6_told 117 = .ok (.iload_n 1, 1) := by decide +kernel
theorem dX6_told_118 : decode cX6_told 118 = .ok (.invokevirtual 108, 3) := by decide +kernel
theorem dX6_told_121 : decode cX6_told 121 = .ok (.goto 20, 3) := by decide +kernel
theorem dX6_told_124 : decode cX6_told 124 = .ok (.aload_n 0, 1) := by decide +kernel
theorem dX6_told_125 : decode cX6_told 125 = .ok (.iload_n 1, 1) := by decide +kernel
theorem dX6_told_126 : decode cX6_told 126 = .ok (.invokevirtual 102, 3) := by decide +kernel
theorem dX6_told_129 : decode cX6_told 129 = .ok (.ifCond .eq 11, 3) := by decide +kernel
theorem dX6_told_132 : decode cX6_told 132 = .ok (.aload_n 0, 1) := by decide +kernel
theorem dX6_told_133 : decode cX6_told 133 = .ok (.iload_n 1, 1) := by decide +kernel
theorem dX6_told_134 : decode cX6_told 134 = .ok (.invokevirtual 115, 3) := by decide +kernel
theorem dX6_told_137 : decode cX6_told 137 = .ok (.goto 4, 3) := by decide +kernel
theorem dX6_told_140 : decode cX6_told 140 = .ok (.iconst 0, 1) := by decide +kernel
theorem dX6_told_141 : decode cX6_told 141 = .ok (.ireturn, 1) := by decide +kernel
theorem dX6_told_142 : decode cX6_told 142 = .ok (.iload_n 2, 1) := by decide +kernel
theorem dX6_told_143 : decode cX6_told 143 = .ok (.bipush 8, 2) := by decide +kernel
theorem dX6_told_145 : decode cX6_told 145 = .ok (.if_icmp .ne 27, 3) := by decide +kernel
theorem dX6_told_148 : decode cX6_told 148 = .ok (.aload_n 0, 1) := by decide +kernel
theorem dX6_told_149 : decode cX6_told 149 = .ok (.getfield 23, 3) := by decide +kernel
theorem dX6_told_152 : decode cX6_told 152 = .ok (.iload_n 1, 1) := by decide +kernel
theorem dX6_told_153 : decode cX6_told 153 = .ok (.iaload, 1) := by decide +kernel
theorem dX6_told_154 : decode cX6_told 154 = .ok (.aload_n 0, 1) := by decide +kernel
theorem dX6_told_155 : decode cX6_told 155 = .ok (.getfield 32, 3) := by decide +kernel
theorem dX6_told_158 : decode cX6_told 158 = .ok (.iload_n 1, 1) := by decide +kernel
theorem dX6_told_159 : decode cX6_told 159 = .ok (.iaload, 1) := by decide +kernel
theorem dX6_told_160 : decode cX6_told 160 = .ok (.aload_n 0, 1) := by decide +kernel
theorem dX6_told_161 : decode cX6_told 161 = .ok (.getfield 29, 3) := by decide +kernel
theorem dX6_told_164 : decode cX6_told 164 = .ok (.iload_n 1, 1) := by decide +kernel
theorem dX6_told_165 : decode cX6_told 165 = .ok (.iaload, 1) := by decide +kernel
theorem dX6_told_166 : decode cX6_told 166 = .ok (.invokestatic 118, 3) := by decide +kernel
theorem dX6_told_169 : decode cX6_told 169 = .ok (.goto 13, 3) := by decide +kernel
theorem dX6_told_172 : decode cX6_told 172 = .ok (.aload_n 0, 1) := by decide +kernel
theorem dX6_told_173 : decode cX6_told 173 = .ok (.iload_n 1, 1) := by decide +kernel
theorem dX6_told_174 : decode cX6_told 174 = .ok (.aload_n 0, 1) := by decide +kernel
theorem dX6_told_175 : decode cX6_told 175 = .ok (.iload_n 1, 1) := by decide +kernel
theorem dX6_told_176 : decode cX6_told 176 = .ok (.invokevirtual 108, 3) := by decide +kernel
theorem dX6_told_179 : decode cX6_told 179 = .ok (.invokevirtual 122, 3) := by decide +kernel
theorem dX6_told_182 : decode cX6_told 182 = .ok (.ireturn, 1) := by decide +kernel
theorem dX6_feed_0 : decode cX6_feed 0 = .ok (.iload_n 1, 1) := by decide +kernel
theorem dX6_feed_1 : decode cX6_feed 1 = .ok (.i2l, 1) := by decide +kernel
theorem dX6_feed_2 : decode cX6_feed 2 = .ok (.lconst 0, 1) := by decide +kernel
theorem dX6_feed_3 : decode cX6_feed 3 = .ok (.ldc2_w 126, 3) := by decide +kernel
theorem dX6_feed_6 : decode cX6_feed 6 = .ok (.invokestatic 76, 3) := by decide +kernel
theorem dX6_feed_9 : decode cX6_feed 9 = .ok (.ifCond .ne 6, 3) := by decide +kernel
theorem dX6_feed_12 : decode cX6_feed 12 = .ok (.bipush (-2), 2) := by decide +kernel
theorem dX6_feed_14 : decode cX6_feed 14 = .ok (.ireturn, 1) := by decide +kernel
theorem dX6_feed_15 : decode cX6_feed 15 = .ok (.aload_n 0, 1) := by decide +kernel
theorem dX6_feed_16 : decode cX6_feed 16 = .ok (.getfield 128, 3) := by decide +kernel
theorem dX6_feed_19 : decode cX6_feed 19 = .ok (.sipush 160, 3) := by decide +kernel
theorem dX6_feed_22 : decode cX6_feed 22 = .ok (.if_icmp .ne 6, 3) := by decide +kernel
theorem dX6_feed_25 : decode cX6_feed 25 = .ok (.bipush (-4), 2) := by decide +kernel
theorem dX6_feed_27 : decode cX6_feed 27 = .ok (.ireturn, 1) := by decide +kernel
theorem dX6_feed_28 : decode cX6_feed 28 = .ok (.aload_n 0, 1) := by decide +kernel
theorem dX6_feed_29 : decode cX6_feed 29 = .ok (.getfield 20, 3) := by decide +kernel
theorem dX6_feed_32 : decode cX6_feed 32 = .ok (.aload_n 0, 1) := by decide +kernel
theorem dX6_feed_33 : decode cX6_feed 33 = .ok (.getfield 128, 3) := by decide +kernel
theorem dX6_feed_36 : decode cX6_feed 36 = .ok (.iload_n 1, 1) := by decide +kernel
theorem dX6_feed_37 : decode cX6_feed 37 = .ok (.iastore, 1) := by decide +kernel
theorem dX6_feed_38 : decode cX6_feed 38 = .ok (.aload_n 0, 1) := by decide +kernel
theorem dX6_feed_39 : decode cX6_feed 39 = .ok (.dup, 1) := by decide +kernel
theorem dX6_feed_40 : decode cX6_feed 40 = .ok (.getfield 128, 3) := by decide +kernel
theorem dX6_feed_43 : decode cX6_feed 43 = .ok (.iconst 1, 1) := by decide +kernel
theorem dX6_feed_44 : decode cX6_feed 44 = .ok (.iadd, 1) := by decide +kernel
theorem dX6_feed_45 : decode cX6_feed 45 = .ok (.putfield 128, 3) := by decide +kernel
theorem dX6_feed_48 : decode cX6_feed 48 = .ok (.aload_n 0, 1) := by decide +kernel
theorem dX6_feed_49 : decode cX6_feed 49 = .ok (.getfield 128, 3) := by decide +kernel
theorem dX6_feed_52 : decode cX6_feed 52 = .ok (.ireturn, 1) := by decide +kernel
theorem dX6_byteAt_0 : decode cX6_byteAt 0 = .ok (.iload_n 1, 1) := by decide +kernel
theorem dX6_byteAt_1 : decode cX6_byteAt 1 = .ok (.aload_n 0, 1) := by decide +kernel
theorem dX6_byteAt_2 : decode cX6_byteAt 2 = .ok (.getfield 131, 3) := by decide +kernel
theorem dX6_byteAt_5 : decode cX6_byteAt 5 = .ok (.if_icmp .ge 17, 3) := by decide +kernel
theorem dX6_byteAt_8 : decode cX6_byteAt 8 = .ok (.aload_n 0, 1) := by decide +kernel
theorem dX6_byteAt_9 : decode cX6_byteAt 9 = .ok (.getfield 13, 3) := by decide +kernel
theorem dX6_byteAt_12 : decode cX6_byteAt 12 = .ok (.aload_n 0, 1) := by decide +kernel
theorem dX6_byteAt_13 : decode cX6_byteAt 13 = .ok (.getfield 134, 3) := by decide +kernel
theorem dX6_byteAt_16 : decode cX6_byteAt 16 = .ok (.iload_n 1, 1) := by decide +kernel
theorem dX6_byteAt_17 : decode cX6_byteAt 17 = .ok (.iadd, 1) := by decide +kernel
theorem dX6_byteAt_18 : decode cX6_byteAt 18 = .ok (.iaload, 1) := by decide +kernel
theorem dX6_byteAt_19 : decode cX6_byteAt 19 = .ok (.goto 4, 3) := by decide +kernel
theorem dX6_byteAt_22 : decode cX6_byteAt 22 = .ok (.iconst (-1), 1) := by decide +kernel
theorem dX6_byteAt_23 : decode cX6_byteAt 23 = .ok (.ireturn, 1) := by decide +kernel
theorem dX6_next_0 : decode cX6_next 0 = .ok (.aload_n 0, 1) := by decide +kernel
theorem dX6_next_1 : decode cX6_next 1 = .ok (.aload_n 0, 1) := by decide +kernel
theorem dX6_next_2 : decode cX6_next 2 = .ok (.getfield 137, 3) := by decide +kernel
theorem dX6_next_5 : decode cX6_next 5 = .ok (.invokevirtual 140, 3) := by decide +kernel
theorem dX6_next_8 : decode cX6_next 8 = .ok (.bipush 32, 2) := by decide +kernel
theorem dX6_next_10 : decode cX6_next 10 = .ok (.if_icmp .eq 16, 3) := by decide +kernel
theorem dX6_next_13 : decode cX6_next 13 = .ok (.aload_n 0, 1) := by decide +kernel
theorem dX6_next_14 : decode cX6_next 14 = .ok (.aload_n 0, 1) := by decide +kernel
theorem dX6_next_15 : decode cX6_next 15 = .ok (.getfield 137, 3) := by decide +kernel
theorem dX6_next_18 : decode cX6_next 18 = .ok (.invokevirtual 140, 3) := by decide +kernel
theorem dX6_next_21 : decode cX6_next 21 = .ok (.bipush 10, 2) := by decide +kernel
theorem dX6_next_23 : decode cX6_next 23 = .ok (.if_icmp .ne 16, 3) := by decide +kernel
theorem dX6_next_26 : decode cX6_next 26 = .ok (.aload_n 0, 1) := by decide +kernel
theorem dX6_next_27 : decode cX6_next 27 = .ok (.dup, 1) := by decide +kernel
theorem dX6_next_28 : decode cX6_next 28 = .ok (.getfield 137, 3) := by decide +kernel
theorem dX6_next_31 : decode cX6_next 31 = .ok (.iconst 1, 1) := by decide +kernel
theorem dX6_next_32 : decode cX6_next 32 = .ok (.iadd, 1) := by decide +kernel
theorem dX6_next_33 : decode cX6_next 33 = .ok (.putfield 137, 3) := by decide +kernel
theorem dX6_next_36 : decode cX6_next 36 = .ok (.goto (-36), 3) := by decide +kernel
theorem dX6_next_39 : decode cX6_next 39 = .ok (.aload_n 0, 1) := by decide +kernel
theorem dX6_next_40 : decode cX6_next 40 = .ok (.aload_n 0, 1) := by decide +kernel
theorem dX6_next_41 : decode cX6_next 41 = .ok (.getfield 137, 3) := by decide +kernel
theorem dX6_next_44 : decode cX6_next 44 = .ok (.putfield 143, 3) := by decide +kernel
theorem dX6_next_47 : decode cX6_next 47 = .ok (.aload_n 0, 1) := by decide +kernel
theorem dX6_next_48 : decode cX6_next 48 = .ok (.aload_n 0, 1) := by decide +kernel
theorem dX6_next_49 : decode cX6_next 49 = .ok (.getfield 137, 3) := by decide +kernel
theorem dX6_next_52 : decode cX6_next 52 = .ok (.invokevirtual 140, 3) := by decide +kernel
theorem dX6_next_55 : decode cX6_next 55 = .ok (.istore_n 1, 1) := by decide +kernel
theorem dX6_next_56 : decode cX6_next 56 = .ok (.aload_n 0, 1) := by decide +kernel
theorem dX6_next_57 : decode cX6_next 57 = .ok (.iconst 4, 1) := by decide +kernel
theorem dX6_next_58 : decode cX6_next 58 = .ok (.putfield 146, 3) := by decide +kernel
theorem dX6_next_61 : decode cX6_next 61 = .ok (.iload_n 1, 1) := by decide +kernel
theorem dX6_next_62 : decode cX6_next 62 = .ok (.ifCond .ge 19, 3) := by decide +kernel
theorem dX6_next_65 : decode cX6_next 65 = .ok (.aload_n 0, 1) := by decide +kernel
theorem dX6_next_66 : decode cX6_next 66 = .ok (.iconst 0, 1) := by decide +kernel
theorem dX6_next_67 : decode cX6_next 67 = .ok (.putfield 146, 3) := by decide +kernel
theorem dX6_next_70 : decode cX6_next 70 = .ok (.aload_n 0, 1) := by decide +kernel
theorem dX6_next_71 : decode cX6_next 71 = .ok (.aload_n 0, 1) := by decide +kernel
theorem dX6_next_72 : decode cX6_next 72 = .ok (.getfield 131, 3) := by decide +kernel
theorem dX6_next_75 : decode cX6_next 75 = .ok (.putfield 143, 3) := by decide +kernel
theorem dX6_next_78 : decode cX6_next 78 = .ok (.goto 243, 3) := by decide +kernel
theorem dX6_next_81 : decode cX6_next 81 = .ok (.iload_n 1, 1) := by decide +kernel
theorem dX6_next_82 : decode cX6_next 82 = .ok (.i2l, 1) := by decide +kernel
theorem dX6_next_83 : decode cX6_next 83 = .ok (.ldc2_w 149, 3) := by decide +kernel
theorem dX6_next_86 : decode cX6_next 86 = .ok (.ldc2_w 151, 3) := by decide +kernel
theorem dX6_next_89 : decode cX6_next 89 = .ok (.invokestatic 76, 3) := by decide +kernel
theorem dX6_next_92 : decode cX6_next 92 = .ok (.ifCond .eq 42, 3) := by decide +kernel
theorem dX6_next_95 : decode cX6_next 95 = .ok (.aload_n 0, 1) := by decide +kernel
theorem dX6_next_96 : decode cX6_next 96 = .ok (.iconst 1, 1) := by decide +kernel
theorem dX6_next_97 : decode cX6_next 97 = .ok (.putfield 146, 3) := by decide +kernel
theorem dX6_next_100 : decode cX6_next 100 = .ok (.aload_n 0, 1) := by decide +kernel
theorem dX6_next_101 : decode cX6_next 101 = .ok (.aload_n 0, 1) := by decide +kernel
theorem dX6_next_102 : decode cX6_next 102 = .ok (.getfield 137, 3) := by decide +kernel
theorem dX6_next_105 : decode cX6_next 105 = .ok (.invokevirtual 140, 3) := by decide +kernel
theorem dX6_next_108 : decode cX6_next 108 = .ok (.i2l, 1) := by decide +kernel
theorem dX6_next_109 : decode cX6_next 109 = .ok (.ldc2_w 149, 3) := by decide +kernel
theorem dX6_next_112 : decode cX6_next 112 = .ok (.ldc2_w 151, 3) := by decide +kernel
theorem dX6_next_115 : decode cX6_next 115 = .ok (.invokestatic 76, 3) := by decide +kernel
theorem dX6_next_118 : decode cX6_next 118 = .ok (.ifCond .eq 203, 3) := by decide +kernel
theorem dX6_next_121 : decode cX6_next 121 = .ok (.aload_n 0, 1) := by decide +kernel
theorem dX6_next_122 : decode cX6_next 122 = .ok (.dup, 1) := by decide +kernel
theorem dX6_next_123 : decode cX6_next 123 = .ok (.getfield 137, 3) := by decide +kernel
theorem dX6_next_126 : decode cX6_next 126 = .ok (.iconst 1, 1) := by decide +kernel
theorem dX6_next_127 : decode cX6_next 127 = .ok (.iadd, 1) := by decide +kernel
theorem dX6_next_128 : decode cX6_next 128 = .ok (.putfield 137, 3) := by decide +kernel
theorem dX6_next_131 : decode cX6_next 131 = .ok (.goto (-31), 3) := by decide +kernel
theorem dX6_next_134 : decode cX6_next 134 = .ok (.iload_n 1, 1) := by decide +kernel
theorem dX6_next_135 : decode cX6_next 135 = .ok (.i2l, 1) := by decide +kernel
theorem dX6_next_136 : decode cX6_next 136 = .ok (.ldc2_w 153, 3) := by decide +kernel
theorem dX6_next_139 : decode cX6_next 139 = .ok (.ldc2_w 155, 3) := by decide +kernel
theorem dX6_next_142 : decode cX6_next 142 = .ok (.invokestatic 76, 3) := by decide +kernel
theorem dX6_next_145 : decode cX6_next 145 = .ok (.ifCond .eq 107, 3) := by decide +kernel
theorem dX6_next_148 : decode cX6_next 148 = .ok (.aload_n 0, 1) := by decide +kernel
theorem dX6_next_149 : decode cX6_next 149 = .ok (.iconst 2, 1) := by decide +kernel
theorem dX6_next_150 : decode cX6_next 150 = .ok (.putfield 146, 3) := by decide +kernel
theorem dX6_next_153 : decode cX6_next 153 = .ok (.aload_n 0, 1) := by decide +kernel
theorem dX6_next_154 : decode cX6_next 154 = .ok (.lconst 0, 1) := by decide +kernel
theorem dX6_next_155 : decode cX6_next 155 = .ok (.putfield 157, 3) := by decide +kernel
theorem dX6_next_158 : decode cX6_next 158 = .ok (.iconst 0, 1) := by decide +kernel
theorem dX6_next_159 : decode cX6_next 159 = .ok (.istore_n 2, 1) := by decide +kernel
theorem dX6_next_160 : decode cX6_next 160 = .ok (.aload_n 0, 1) := by decide +kernel
theorem dX6_next_161 : decode cX6_next 161 = .ok (.aload_n 0, 1) := by decide +kernel
theorem dX6_next_162 : decode cX6_next 162 = .ok (.getfield 137, 3) := by decide +kernel
theorem dX6_next_165 : decode cX6_next 165 = .ok (.invokevirtual 140, 3) := by decide +kernel
theorem dX6_next_168 : decode cX6_next 168 = .ok (.i2l, 1) := by decide +kernel
theorem dX6_next_169 : decode cX6_next 169 = .ok (.ldc2_w 153, 3) := by decide +kernel
theorem dX6_next_172 : decode cX6_next 172 = .ok (.ldc2_w 155, 3) := by decide +kernel
theorem dX6_next_175 : decode cX6_next 175 = .ok (.invokestatic 76, 3) := by decide +kernel
theorem dX6_next_178 : decode cX6_next 178 = .ok (.ifCond .eq 57, 3) := by decide +kernel
theorem dX6_next_181 : decode cX6_next 181 = .ok (.aload_n 0, 1) := by decide +kernel
theorem dX6_next_182 : decode cX6_next 182 = .ok (.iload_n 2, 1) := by decide +kernel
theorem dX6_next_183 : decode cX6_next 183 = .ok (.iconst 4, 1) := by decide +kernel
theorem dX6_next_184 : decode cX6_next 184 = .ok (.if_icmp .ge 28, 3) := by decide +kernel
theorem dX6_next_187 : decode cX6_next 187 = .ok (.ldc2_w 161, 3) := by decide +kernel
theorem dX6_next_190 : decode cX6_next 190 = .ok (.aload_n 0, 1) := by decide +kernel
theorem dX6_next_191 : decode cX6_next 191 = .ok (.getfield 157, 3) := by decide +kernel
theorem dX6_next_194 : decode cX6_next 194 = .ok (.lmul, 1) := by decide +kernel
theorem dX6_next_195 : decode cX6_next 195 = .ok (.aload_n 0, 1) := by decide +kernel
theorem dX6_next_196 : decode cX6_next 196 = .ok (.aload_n 0, 1) := by decide +kernel
theorem dX6_next_197 : decode cX6_next 197 = .ok (.getfield 137, 3) := by decide +kernel
theorem dX6_next_200 : decode cX6_next 200 = .ok (.invokevirtual 140, 3) := by decide +kernel
theorem dX6_next_203 : decode cX6_next 203 = .ok (.i2l, 1) := by decide +kernel
theorem dX6_next_204 : decode cX6_next 204 = .ok (.ladd, 1) := by decide +kernel
theorem dX6_next_205 : decode cX6_next 205 = .ok (.ldc2_w 153, 3) := by decide +kernel
theorem dX6_next_208 : decode cX6_next 208 = .ok (.lsub, 1) := by decide +kernel
theorem dX6_next_209 : decode cX6_next 209 = .ok (.goto 7, 3) := by decide +kernel
theorem dX6_next_212 : decode cX6_next 212 = .ok (.aload_n 0, 1) := by decide +kernel
theorem dX6_next_213 : decode cX6_next 213 = .ok (.getfield 157, 3) := by decide +kernel
theorem dX6_next_216 : decode cX6_next 216 = .ok (.putfield 157, 3) := by decide +kernel
theorem dX6_next_219 : decode cX6_next 219 = .ok (.iinc 2 1, 3) := by decide +kernel
theorem dX6_next_222 : decode cX6_next 222 = .ok (.aload_n 0, 1) := by decide +kernel
theorem dX6_next_223 : decode cX6_next 223 = .ok (.dup, 1) := by decide +kernel
theorem dX6_next_224 : decode cX6_next 224 = .ok (.getfield 137, 3) := by decide +kernel
theorem dX6_next_227 : decode cX6_next 227 = .ok (.iconst 1, 1) := by decide +kernel
theorem dX6_next_228 : decode cX6_next 228 = .ok (.iadd, 1) := by decide +kernel
theorem dX6_next_229 : decode cX6_next 229 = .ok (.putfield 137, 3) := by decide +kernel
theorem dX6_next_232 : decode cX6_next 232 = .ok (.goto (-72), 3) := by decide +kernel
theorem dX6_next_235 : decode cX6_next 235 = .ok (.aload_n 0, 1) := by decide +kernel
theorem dX6_next_236 : decode cX6_next 236 = .ok (.iload_n 2, 1) := by decide +kernel
theorem dX6_next_237 : decode cX6_next 237 = .ok (.iconst 4, 1) := by decide +kernel
theorem dX6_next_238 : decode cX6_next 238 = .ok (.if_icmp .le 7, 3) := by decide +kernel
theorem dX6_next_241 : decode cX6_next 241 = .ok (.iconst 4, 1) := by decide +kernel
theorem dX6_next_242 : decode cX6_next 242 = .ok (.goto 4, 3) := by decide +kernel
theorem dX6_next_245 : decode cX6_next 245 = .ok (.iconst 2, 1) := by decide +kernel
theorem dX6_next_246 : decode cX6_next 246 = .ok (.putfield 146, 3) := by decide +kernel
theorem dX6_next_249 : decode cX6_next 249 = .ok (.goto 72, 3) := by decide +kernel
theorem dX6_next_252 : decode cX6_next 252 = .ok (.iload_n 1, 1) := by decide +kernel
theorem dX6_next_253 : decode cX6_next 253 = .ok (.bipush 40, 2) := by decide +kernel
theorem dX6_next_255 : decode cX6_next 255 = .ok (.if_icmp .eq 45, 3) := by decide +kernel
theorem dX6_next_258 : decode cX6_next 258 = .ok (.iload_n 1, 1) := by decide +kernel
theorem dX6_next_259 : decode cX6_next 259 = .ok (.bipush 41, 2) := by decide +kernel
theorem dX6_next_261 : decode cX6_next 261 = .ok (.if_icmp .eq 39, 3) := by decide +kernel
theorem dX6_next_264 : decode cX6_next 264 = .ok (.iload_n 1, 1) := by decide +kernel
theorem dX6_next_265 : decode cX6_next 265 = .ok (.bipush 59, 2) := by decide +kernel
theorem dX6_next_267 : decode cX6_next 267 = .ok (.if_icmp .eq 33, 3) := by decide +kernel
theorem dX6_next_270 : decode cX6_next 270 = .ok (.iload_n 1, 1) := by decide +kernel
theorem dX6_next_271 : decode cX6_next 271 = .ok (.bipush 43, 2) := by decide +kernel
theorem dX6_next_273 : decode cX6_next 273 = .ok (.if_icmp .eq 27, 3) := by decide +kernel
theorem dX6_next_276 : decode cX6_next 276 = .ok (.iload_n 1, 1) := by decide +kernel
theorem dX6_next_277 : decode cX6_next 277 = .ok (.bipush 45, 2) := by decide +kernel
theorem dX6_next_279 : decode cX6_next 279 = .ok (.if_icmp .eq 21, 3) := by decide +kernel
theorem dX6_next_282 : decode cX6_next 282 = .ok (.iload_n 1, 1) := by decide +kernel
theorem dX6_next_283 : decode cX6_next 283 = .ok (.bipush 42, 2) := by decide +kernel
theorem dX6_next_285 : decode cX6_next 285 = .ok (.if_icmp .eq 15, 3) := by decide +kernel
theorem dX6_next_288 : decode cX6_next 288 = .ok (.iload_n 1, 1) := by decide +kernel
theorem dX6_next_289 : decode cX6_next 289 = .ok (.bipush 60, 2) := by decide +kernel
theorem dX6_next_291 : decode cX6_next 291 = .ok (.if_icmp .eq 9, 3) := by decide +kernel
theorem dX6_next_294 : decode cX6_next 294 = .ok (.iload_n 1, 1) := by decide +kernel
theorem dX6_next_295 : decode cX6_next 295 = .ok (.bipush 61, 2) := by decide +kernel
theorem dX6_next_297 : decode cX6_next 297 = .ok (.if_icmp .ne 24, 3) := by decide +kernel
theorem dX6_next_300 : decode cX6_next 300 = .ok (.aload_n 0, 1) := by decide +kernel
theorem dX6_next_301 : decode cX6_next 301 = .ok (.iconst 3, 1) := by decide +kernel
theorem dX6_next_302 : decode cX6_next 302 = .ok (.putfield 146, 3) := by decide +kernel
theorem dX6_next_305 : decode cX6_next 305 = .ok (.aload_n 0, 1) := by decide +kernel
theorem dX6_next_306 : decode cX6_next 306 = .ok (.iload_n 1, 1) := by decide +kernel
theorem dX6_next_307 : decode cX6_next 307 = .ok (.i2l, 1) := by decide +kernel
theorem dX6_next_308 : decode cX6_next 308 = .ok (.putfield 157, 3) := by decide +kernel
theorem dX6_next_311 : decode cX6_next 311 = .ok (.aload_n 0, 1) := by decide +kernel
theorem dX6_next_312 : decode cX6_next 312 = .ok (.dup, 1) := by decide +kernel
theorem dX6_next_313 : decode cX6_next 313 = .ok (.getfield 137, 3) := by decide +kernel
theorem dX6_next_316 : decode cX6_next 316 = .ok (.iconst 1, 1) := by decide +kernel
theorem dX6_next_317 : decode cX6_next 317 = .ok (.iadd, 1) := by decide +kernel
theorem dX6_next_318 : decode cX6_next 318 = .ok (.putfield 137, 3) := by decide +kernel
theorem dX6_next_321 : decode cX6_next 321 = .ok (.return_, 1) := by decide +kernel
theorem dX6_fail_0 : decode cX6_fail 0 = .ok (.aload_n 0, 1) := by decide +kernel
theorem dX6_fail_1 : decode cX6_fail 1 = .ok (.getfield 163, 3) := by decide +kernel
theorem dX6_fail_4 : decode cX6_fail 4 = .ok (.ifCond .ne 16, 3) := by decide +kernel
theorem dX6_fail_7 : decode cX6_fail 7 = .ok (.aload_n 0, 1) := by decide +kernel
theorem dX6_fail_8 : decode cX6_fail 8 = .ok (.iconst 1, 1) := by decide +kernel
theorem dX6_fail_9 : decode cX6_fail 9 = .ok (.putfield 163, 3) := by decide +kernel
theorem dX6_fail_12 : decode cX6_fail 12 = .ok (.aload_n 0, 1) := by decide +kernel
theorem dX6_fail_13 : decode cX6_fail 13 = .ok (.aload_n 0, 1) := by decide +kernel
theorem dX6_fail_14 : decode cX6_fail 14 = .ok (.getfield 143, 3) := by decide +kernel
theorem dX6_fail_17 : decode cX6_fail 17 = .ok (.putfield 167, 3) := by decide +kernel
theorem dX6_fail_20 : decode cX6_fail 20 = .ok (.return_, 1) := by decide +kernel
theorem dX6_isLetter_0 : decode cX6_isLetter 0 = .ok (.aload_n 0, 1) := by decide +kernel
theorem dX6_isLetter_1 : decode cX6_isLetter 1 = .ok (.getfield 143, 3) := by decide +kernel
theorem dX6_isLetter_4 : decode cX6_isLetter 4 = .ok (.iload_n 1, 1) := by decide +kernel
theorem dX6_isLetter_5 : decode cX6_isLetter 5 = .ok (.iadd, 1) := by decide +kernel
theorem dX6_isLetter_6 : decode cX6_isLetter 6 = .ok (.aload_n 0, 1) := by decide +kernel
theorem dX6_isLetter_7 : decode cX6_isLetter 7 = .ok (.getfield 137, 3) := by decide +kernel
theorem dX6_isLetter_10 : decode cX6_isLetter 10 = .ok (.if_icmp .ge 25, 3) := by decide +kernel
theorem dX6_isLetter_13 : decode cX6_isLetter 13 = .ok (.aload_n 0, 1) := by decide +kernel
theorem dX6_isLetter_14 : decode cX6_isLetter 14 = .ok (.aload_n 0, 1) := by decide +kernel
theorem dX6_isLetter_15 : decode cX6_isLetter 15 = .ok (.getfield 143, 3) := by decide +kernel
theorem dX6_isLetter_18 : decode cX6_isLetter 18 = .ok (.iload_n 1, 1) := by decide +kernel
theorem dX6_isLetter_19 : decode cX6_isLetter 19 = .ok (.iadd, 1) := by decide +kernel
theorem dX6_isLetter_20 : decode cX6_isLetter 20 = .ok (.invokevirtual 140, 3) := by decide +kernel
theorem dX6_isLetter_23 : decode cX6_isLetter 23 = .ok (.iload_n 2, 1) := by decide +kernel
theorem dX6_isLetter_24 : decode cX6_isLetter 24 = .ok (.if_icmp .ne 7, 3) := by decide +kernel
theorem dX6_isLetter_27 : decode cX6_isLetter 27 = .ok (.iconst 1, 1) := by decide +kernel
theorem dX6_isLetter_28 : decode cX6_isLetter 28 = .ok (.goto 16, 3) := by decide +kernel
theorem dX6_isLetter_31 : decode cX6_isLetter 31 = .ok (.iconst 0, 1) := by decide +kernel
theorem dX6_isLetter_32 : decode cX6_isLetter 32 = .ok (.goto 12, 3) := by decide +kernel
theorem dX6_isLetter_35 : decode cX6_isLetter 35 = .ok (.iload_n 2, 1) := by decide +kernel
theorem dX6_isLetter_36 : decode cX6_isLetter 36 = .ok (.ifCond .ne 7, 3) := by decide +kernel
theorem dX6_isLetter_39 : decode cX6_isLetter 39 = .ok (.iconst 1, 1) := by decide +kernel
theorem dX6_isLetter_40 : decode cX6_isLetter 40 = .ok (.goto 4, 3) := by decide +kernel
theorem dX6_isLetter_43 : decode cX6_isLetter 43 = .ok (.iconst 0, 1) := by decide +kernel
theorem dX6_isLetter_44 : decode cX6_isLetter 44 = .ok (.ireturn, 1) := by decide +kernel
theorem dX6_isWord_0 : decode cX6_isWord 0 = .ok (.aload_n 0, 1) := by decide +kernel
theorem dX6_isWord_1 : decode cX6_isWord 1 = .ok (.getfield 163, 3) := by decide +kernel
theorem dX6_isWord_4 : decode cX6_isWord 4 = .ok (.ifCond .ne 108, 3) := by decide +kernel
theorem dX6_isWord_7 : decode cX6_isWord 7 = .ok (.aload_n 0, 1) := by decide +kernel
theorem dX6_isWord_8 : decode cX6_isWord 8 = .ok (.getfield 146, 3) := by decide +kernel
theorem dX6_isWord_11 : decode cX6_isWord 11 = .ok (.iconst 1, 1) := by decide +kernel
theorem dX6_isWord_12 : decode cX6_isWord 12 = .ok (.if_icmp .ne 100, 3) := by decide +kernel
theorem dX6_isWord_15 : decode cX6_isWord 15 = .ok (.aload_n 0, 1) := by decide +kernel
theorem dX6_isWord_16 : decode cX6_isWord 16 = .ok (.getfield 137, 3) := by decide +kernel
theorem dX6_isWord_19 : decode cX6_isWord 19 = .ok (.aload_n 0, 1) := by decide +kernel
theorem dX6_isWord_20 : decode cX6_isWord 20 = .ok (.getfield 143, 3) := by decide +kernel
theorem dX6_isWord_23 : decode cX6_isWord 23 = .ok (.bipush 8, 2) := by decide +kernel
theorem dX6_isWord_25 : decode cX6_isWord 25 = .ok (.iadd, 1) := by decide +kernel
theorem dX6_isWord_26 : decode cX6_isWord 26 = .ok (.if_icmp .gt 86, 3) := by decide +kernel
theorem dX6_isWord_29 : decode cX6_isWord 29 = .ok (.aload_n 0, 1) := by decide +kernel
theorem dX6_isWord_30 : decode cX6_isWord 30 = .ok (.iconst 0, 1) := by decide +kernel
theorem dX6_isWord_31 : decode cX6_isWord 31 = .ok (.iload_n 1, 1) := by decide +kernel
theorem dX6_isWord_32 : decode cX6_isWord 32 = .ok (.invokevirtual 170, 3) := by decide +kernel
theorem dX6_isWord_35 : decode cX6_isWord 35 = .ok (.ifCond .eq 77, 3) := by decide +kernel
theorem dX6_isWord_38 : decode cX6_isWord 38 = .ok (.aload_n 0, 1) := by decide +kernel
theorem dX6_isWord_39 : decode cX6_isWord 39 = .ok (.iconst 1, 1) := by decide +kernel
theorem dX6_isWord_40 : decode cX6_isWord 40 = .ok (.iload_n 2, 1) := by decide +kernel
theorem dX6_isWord_41 : decode cX6_isWord 41 = .ok (.invokevirtual 170, 3) := by decide +kernel
theorem dX6_isWord_44 : decode cX6_isWord 44 = .ok (.ifCond .eq 68, 3) := by decide +kernel
theorem dX6_isWord_47 : decode cX6_isWord 47 = .ok (.aload_n 0, 1) := by decide +kernel
theorem dX6_isWord_48 : decode cX6_isWord 48 = .ok (.iconst 2, 1) := by decide +kernel
theorem dX6_isWord_49 : decode cX6_isWord 49 = .ok (.iload_n 3, 1) := by decide +kernel
theorem dX6_isWord_50 : decode cX6_isWord 50 = .ok (.invokevirtual 170, 3) := by decide +kernel
theorem dX6_isWord_53 : decode cX6_isWord 53 = .ok (.ifCond .eq 59, 3) := by decide +kernel
theorem dX6_isWord_56 : decode cX6_isWord 56 = .ok (.aload_n 0, 1) := by decide +kernel
theorem dX6_isWord_57 : decode cX6_isWord 57 = .ok (.iconst 3, 1) := by decide +kernel
theorem dX6_isWord_58 : decode cX6_isWord 58 = .ok (.iload 4, 2) := by decide +kernel
theorem dX6_isWord_60 : decode cX6_isWord 60 = .ok (.invokevirtual 170, 3) := by decide +kernel
theorem dX6_isWord_63 : decode cX6_isWord 63 = .ok (.ifCond .eq 49, 3) := by decide +kernel
theorem dX6_isWord_66 : decode cX6_isWord 66 = .ok (.aload_n 0, 1) := by decide +kernel
theorem dX6_isWord_67 : decode cX6_isWord 67 = .ok (.iconst 4, 1) := by decide +kernel
theorem dX6_isWord_68 : decode cX6_isWord 68 = .ok (.iload 5, 2) := by decide +kernel
theorem dX6_isWord_70 : decode cX6_isWord 70 = .ok (.invokevirtual 170, 3) := by decide +kernel
theorem dX6_isWord_73 : decode cX6_isWord 73 = .ok (.ifCond .eq 39, 3) := by decide +kernel
theorem dX6_isWord_76 : decode cX6_isWord 76 = .ok (.aload_n 0, 1) := by decide +kernel
theorem dX6_isWord_77 : decode cX6_isWord 77 = .ok (.iconst 5, 1) := by decide +kernel
theorem dX6_isWord_78 : decode cX6_isWord 78 = .ok (.iload 6, 2) := by decide +kernel
theorem dX6_isWord_80 : decode cX6_isWord 80 = .ok (.invokevirtual 170, 3) := by decide +kernel
theorem dX6_isWord_83 : decode cX6_isWord 83 = .ok (.ifCond .eq 29, 3) := by decide +kernel
theorem dX6_isWord_86 : decode cX6_isWord 86 = .ok (.aload_n 0, 1) := by decide +kernel
theorem dX6_isWord_87 : decode cX6_isWord 87 = .ok (.bipush 6, 2) := by decide +kernel
theorem dX6_isWord_89 : decode cX6_isWord 89 = .ok (.iload 7, 2) := by decide +kernel
theorem dX6_isWord_91 : decode cX6_isWord 91 = .ok (.invokevirtual 170, 3) := by decide +kernel
theorem dX6_isWord_94 : decode cX6_isWord 94 = .ok (.ifCond .eq 18, 3) := by decide +kernel
theorem dX6_isWord_97 : decode cX6_isWord 97 = .ok (.aload_n 0, 1) := by decide +kernel
theorem dX6_isWord_98 : decode cX6_isWord 98 = .ok (.bipush 7, 2) := by decide +kernel
theorem dX6_isWord_100 : decode cX6_isWord 100 = .ok (.iload 8, 2) := by decide +kernel
theorem dX6_isWord_102 : decode cX6_isWord 102 = .ok (.invokevirtual 170, 3) := by decide +kernel
theorem dX6_isWord_105 : decode cX6_isWord 105 = .ok (.ifCond .eq 7, 3) := by decide +kernel
theorem dX6_isWord_108 : decode cX6_isWord 108 = .ok (.iconst 1, 1) := by decide +kernel
theorem dX6_isWord_109 : decode cX6_isWord 109 = .ok (.goto 4, 3) := by decide +kernel
theorem dX6_isWord_112 : decode cX6_isWord 112 = .ok (.iconst 0, 1) := by decide +kernel
theorem dX6_isWord_113 : decode cX6_isWord 113 = .ok (.ireturn, 1) := by decide +kernel
theorem dX6_isSign_0 : decode cX6_isSign 0 = .ok (.aload_n 0, 1) := by decide +kernel
theorem dX6_isSign_1 : decode cX6_isSign 1 = .ok (.getfield 163, 3) := by decide +kernel
theorem dX6_isSign_4 : decode cX6_isSign 4 = .ok (.ifCond .ne 25, 3) := by decide +kernel
theorem dX6_isSign_7 : decode cX6_isSign 7 = .ok (.aload_n 0, 1) := by decide +kernel
theorem dX6_isSign_8 : decode cX6_isSign 8 = .ok (.getfield 146, 3) := by decide +kernel
theorem dX6_isSign_11 : decode cX6_isSign 11 = .ok (.iconst 3, 1) := by decide +kernel
theorem dX6_isSign_12 : decode cX6_isSign 12 = .ok (.if_icmp .ne 17, 3) := by decide +kernel
theorem dX6_isSign_15 : decode cX6_isSign 15 = .ok (.aload_n 0, 1) := by decide +kernel
theorem dX6_isSign_16 : decode cX6_isSign 16 = .ok (.getfield 157, 3) := by decide +kernel
theorem dX6_isSign_19 : decode cX6_isSign 19 = .ok (.iload_n 1, 1) := by decide +kernel
theorem dX6_isSign_20 : decode cX6_isSign 20 = .ok (.i2l, 1) := by decide +kernel
theorem dX6_isSign_21 : decode cX6_isSign 21 = .ok (.lcmp, 1) := by decide +kernel
theorem dX6_isSign_22 : decode cX6_isSign 22 = .ok (.ifCond .ne 7, 3) := by decide +kernel
theorem dX6_isSign_25 : decode cX6_isSign 25 = .ok (.iconst 1, 1) := by decide +kernel
theorem dX6_isSign_26 : decode cX6_isSign 26 = .ok (.goto 4, 3) := by decide +kernel
theorem dX6_isSign_29 : decode cX6_isSign 29 = .ok (.iconst 0, 1) := by decide +kernel
theorem dX6_isSign_30 : decode cX6_isSign 30 = .ok (.ireturn, 1) := by decide +kernel
theorem dX6_opens_0 : decode cX6_opens 0 = .ok (.aload_n 0, 1) := by decide +kernel
theorem dX6_opens_1 : decode cX6_opens 1 = .ok (.getfield 174, 3) := by decide +kernel
theorem dX6_opens_4 : decode cX6_opens 4 = .ok (.iconst 5, 1) := by decide +kernel
theorem dX6_opens_5 : decode cX6_opens 5 = .ok (.if_icmp .ne 9, 3) := by decide +kernel
theorem dX6_opens_8 : decode cX6_opens 8 = .ok (.aload_n 0, 1) := by decide +kernel
theorem dX6_opens_9 : decode cX6_opens 9 = .ok (.invokevirtual 177, 3) := by decide +kernel
theorem dX6_opens_12 : decode cX6_opens 12 = .ok (.iconst 0, 1) := by decide +kernel
theorem dX6_opens_13 : decode cX6_opens 13 = .ok (.ireturn, 1) := by decide +kernel
theorem dX6_opens_14 : decode cX6_opens 14 = .ok (.aload_n 0, 1) := by decide +kernel
theorem dX6_opens_15 : decode cX6_opens 15 = .ok (.dup, 1) := by decide +kernel
theorem dX6_opens_16 : decode cX6_opens 16 = .ok (.getfield 174, 3) := by decide +kernel
theorem dX6_opens_19 : decode cX6_opens 19 = .ok (.iconst 1, 1) := by decide +kernel
theorem dX6_opens_20 : decode cX6_opens 20 = .ok (.iadd, 1) := by decide +kernel
theorem dX6_opens_21 : decode cX6_opens 21 = .ok (.putfield 174, 3) := by decide +kernel
theorem dX6_opens_24 : decode cX6_opens 24 = .ok (.aload_n 0, 1) := by decide +kernel
theorem dX6_opens_25 : decode cX6_opens 25 = .ok (.invokevirtual 180, 3) := by decide +kernel
theorem dX6_opens_28 : decode cX6_opens 28 = .ok (.iconst 1, 1) := by decide +kernel
theorem dX6_opens_29 : decode cX6_opens 29 = .ok (.ireturn, 1) := by decide +kernel
theorem dX6_name_0 : decode cX6_name 0 = .ok (.aload_n 0, 1) := by decide +kernel
theorem dX6_name_1 : decode cX6_name 1 = .ok (.bipush 116, 2) := by decide +kernel
theorem dX6_name_3 : decode cX6_name 3 = .ok (.bipush 111, 2) := by decide +kernel
theorem dX6_name_5 : decode cX6_name 5 = .ok (.bipush 110, 2) := by decide +kernel
theorem dX6_name_7 : decode cX6_name 7 = .ok (.bipush 101, 2) := by decide +kernel
theorem dX6_name_9 : decode cX6_name 9 = .ok (.iconst 0, 1) := by decide +kernel
theorem dX6_name_10 : decode cX6_name 10 = .ok (.iconst 0, 1) := by decide +kernel
theorem dX6_name_11 : decode cX6_name 11 = .ok (.iconst 0, 1) := by decide +kernel
theorem dX6_name_12 : decode cX6_name 12 = .ok (.iconst 0, 1) := by decide +kernel
theorem dX6_name_13 : decode cX6_name 13 = .ok (.invokevirtual 183, 3) := by decide +kernel
theorem dX6_name_16 : decode cX6_name 16 = .ok (.ifCond .eq 8, 3) := by decide +kernel
theorem dX6_name_19 : decode cX6_name 19 = .ok (.aload_n 0, 1) := by decide +kernel
theorem dX6_name_20 : decode cX6_name 20 = .ok (.getfield 187, 3) := by decide +kernel
theorem dX6_name_23 : decode cX6_name 23 = .ok (.ireturn, 1) := by decide +kernel
theorem dX6_name_24 : decode cX6_name 24 = .ok (.aload_n 0, 1) := by decide +kernel
theorem dX6_name_25 : decode cX6_name 25 = .ok (.bipush 108, 2) := by decide +kernel
theorem dX6_name_27 : decode cX6_name 27 = .ok (.bipush 111, 2) := by decide +kernel
theorem dX6_name_29 : decode cX6_name 29 = .ok (.bipush 117, 2) := by decide +kernel
theorem dX6_name_31 : decode cX6_name 31 = .ok (.bipush 100, 2) := by decide +kernel
theorem dX6_name_33 : decode cX6_name 33 = .ok (.iconst 0, 1) := by decide +kernel
theorem dX6_name_34 : decode cX6_name 34 = .ok (.iconst 0, 1) := by decide +kernel
theorem dX6_name_35 : decode cX6_name 35 = .ok (.iconst 0, 1) := by decide +kernel
theorem dX6_name_36 : decode cX6_name 36 = .ok (.iconst 0, 1) := by decide +kernel
theorem dX6_name_37 : decode cX6_name 37 = .ok (.invokevirtual 183, 3) := by decide +kernel
theorem dX6_name_40 : decode cX6_name 40 = .ok (.ifCond .eq 8, 3) := by decide +kernel
theorem dX6_name_43 : decode cX6_name 43 = .ok (.aload_n 0, 1) := by decide +kernel
theorem dX6_name_44 : decode cX6_name 44 = .ok (.getfield 190, 3) := by decide +kernel
theorem dX6_name_47 : decode cX6_name 47 = .ok (.ireturn, 1) := by decide +kernel
theorem dX6_name_48 : decode cX6_name 48 = .ok (.aload_n 0, 1) := by decide +kernel
theorem dX6_name_49 : decode cX6_name 49 = .ok (.bipush 119, 2) := by decide +kernel
theorem dX6_name_51 : decode cX6_name 51 = .ok (.bipush 101, 2) := by decide +kernel
theorem dX6_name_53 : decode cX6_name 53 = .ok (.bipush 116, 2) := by decide +kernel
theorem dX6_name_55 : decode cX6_name 55 = .ok (.iconst 0, 1) := by decide +kernel
theorem dX6_name_56 : decode cX6_name 56 = .ok (.iconst 0, 1) := by decide +kernel
theorem dX6_name_57 : decode cX6_name 57 = .ok (.iconst 0, 1) := by decide +kernel
theorem dX6_name_58 : decode cX6_name 58 = .ok (.iconst 0, 1) := by decide +kernel
theorem dX6_name_59 : decode cX6_name 59 = .ok (.iconst 0, 1) := by decide +kernel
theorem dX6_name_60 : decode cX6_name 60 = .ok (.invokevirtual 183, 3) := by decide +kernel
theorem dX6_name_63 : decode cX6_name 63 = .ok (.ifCond .eq 8, 3) := by decide +kernel
theorem dX6_name_66 : decode cX6_name 66 = .ok (.aload_n 0, 1) := by decide +kernel
theorem dX6_name_67 : decode cX6_name 67 = .ok (.getfield 193, 3) := by decide +kernel
theorem dX6_name_70 : decode cX6_name 70 = .ok (.ireturn, 1) := by decide +kernel
theorem dX6_name_71 : decode cX6_name 71 = .ok (.aload_n 0, 1) := by decide +kernel
theorem dX6_name_72 : decode cX6_name 72 = .ok (.bipush 112, 2) := by decide +kernel
theorem dX6_name_74 : decode cX6_name 74 = .ok (.bipush 108, 2) := by decide +kernel
theorem dX6_name_76 : decode cX6_name 76 = .ok (.bipush 97, 2) := by decide +kernel
theorem dX6_name_78 : decode cX6_name 78 = .ok (.bipush 116, 2) := by decide +kernel
theorem dX6_name_80 : decode cX6_name 80 = .ok (.bipush 101, 2) := by decide +kernel
theorem dX6_name_82 : decode cX6_name 82 = .ok (.iconst 0, 1) := by decide +kernel
theorem dX6_name_83 : decode cX6_name 83 = .ok (.iconst 0, 1) := by decide +kernel
theorem dX6_name_84 : decode cX6_name 84 = .ok (.iconst 0, 1) := by decide +kernel
theorem dX6_name_85 : decode cX6_name 85 = .ok (.invokevirtual 183, 3) := by decide +kernel
theorem dX6_name_88 : decode cX6_name 88 = .ok (.ifCond .eq 8, 3) := by decide +kernel
theorem dX6_name_91 : decode cX6_name 91 = .ok (.aload_n 0, 1) := by decide +kernel
theorem dX6_name_92 : decode cX6_name 92 = .ok (.getfield 196, 3) := by decide +kernel
theorem dX6_name_95 : decode cX6_name 95 = .ok (.ireturn, 1) := by decide +kernel
theorem dX6_name_96 : decode cX6_name 96 = .ok (.aload_n 0, 1) := by decide +kernel
theorem dX6_name_97 : decode cX6_name 97 = .ok (.bipush 121, 2) := by decide +kernel
theorem dX6_name_99 : decode cX6_name 99 = .ok (.iconst 0, 1) := by decide +kernel
theorem dX6_name_100 : decode cX6_name 100 = .ok (.iconst 0, 1) := by decide +kernel
theorem dX6_name_101 : decode cX6_name 101 = .ok (.iconst 0, 1) := by decide +kernel
theorem dX6_name_102 : decode cX6_name 102 = .ok (.iconst 0, 1) := by decide +kernel
theorem dX6_name_103 : decode cX6_name 103 = .ok (.iconst 0, 1) := by decide +kernel
theorem dX6_name_104 : decode cX6_name 104 = .ok (.iconst 0, 1) := by decide +kernel
theorem dX6_name_105 : decode cX6_name 105 = .ok (.iconst 0, 1) := by decide +kernel
theorem dX6_name_106 : decode cX6_name 106 = .ok (.invokevirtual 183, 3) := by decide +kernel
theorem dX6_name_109 : decode cX6_name 109 = .ok (.ifCond .eq 8, 3) := by decide +kernel
theorem dX6_name_112 : decode cX6_name 112 = .ok (.aload_n 0, 1) := by decide +kernel
theorem dX6_name_113 : decode cX6_name 113 = .ok (.getfield 199, 3) := by decide +kernel
theorem dX6_name_116 : decode cX6_name 116 = .ok (.ireturn, 1) := by decide +kernel
theorem dX6_name_117 : decode cX6_name 117 = .ok (.aload_n 0, 1) := by decide +kernel
theorem dX6_name_118 : decode cX6_name 118 = .ok (.bipush 120, 2) := by decide +kernel
theorem dX6_name_120 : decode cX6_name 120 = .ok (.iconst 0, 1) := by decide +kernel
theorem dX6_name_121 : decode cX6_name 121 = .ok (.iconst 0, 1) := by decide +kernel
theorem dX6_name_122 : decode cX6_name 122 = .ok (.iconst 0, 1) := by decide +kernel
theorem dX6_name_123 : decode cX6_name 123 = .ok (.iconst 0, 1) := by decide +kernel
theorem dX6_name_124 : decode cX6_name 124 = .ok (.iconst 0, 1) := by decide +kernel
theorem dX6_name_125 : decode cX6_name 125 = .ok (.iconst 0, 1) := by decide +kernel
theorem dX6_name_126 : decode cX6_name 126 = .ok (.iconst 0, 1) := by decide +kernel
theorem dX6_name_127 : decode cX6_name 127 = .ok (.invokevirtual 183, 3) := by decide +kernel
theorem dX6_name_130 : decode cX6_name 130 = .ok (.ifCond .eq 8, 3) := by decide +kernel
theorem dX6_name_133 : decode cX6_name 133 = .ok (.aload_n 0, 1) := by decide +kernel
theorem dX6_name_134 : decode cX6_name 134 = .ok (.getfield 202, 3) := by decide +kernel
theorem dX6_name_137 : decode cX6_name 137 = .ok (.ireturn, 1) := by decide +kernel
theorem dX6_name_138 : decode cX6_name 138 = .ok (.aload_n 0, 1) := by decide +kernel
theorem dX6_name_139 : decode cX6_name 139 = .ok (.invokevirtual 177, 3) := by decide +kernel
theorem dX6_name_142 : decode cX6_name 142 = .ok (.iconst 0, 1) := by decide +kernel
theorem dX6_name_143 : decode cX6_name 143 = .ok (.ireturn, 1) := by decide +kernel
theorem dX6_atom_0 : decode cX6_atom 0 = .ok (.iconst 0, 1) := by decide +kernel
theorem dX6_atom_1 : decode cX6_atom 1 = .ok (.istore_n 1, 1) := by decide +kernel
theorem dX6_atom_2 : decode cX6_atom 2 = .ok (.aload_n 0, 1) := by decide +kernel
theorem dX6_atom_3 : decode cX6_atom 3 = .ok (.bipush 45, 2) := by decide +kernel
theorem dX6_atom_5 : decode cX6_atom 5 = .ok (.invokevirtual 205, 3) := by decide +kernel
theorem dX6_atom_8 : decode cX6_atom 8 = .ok (.ifCond .eq 29, 3) := by decide +kernel
theorem dX6_atom_11 : decode cX6_atom 11 = .ok (.aload_n 0, 1) := by decide +kernel
theorem dX6_atom_12 : decode cX6_atom 12 = .ok (.invokevirtual 208, 3) := by decide +kernel
end
section
theorem dX6_atom_15 : decode cX6_atom 15 = .ok (.ifCond .eq 146, 3) := by decide +kernel
theorem dX6_atom_18 : decode cX6_atom 18 = .ok (.aload_n 0, 1) := by decide +kernel
theorem dX6_atom_19 : decode cX6_atom 19 = .ok (.invokevirtual 212, 3) := by decide +kernel
theorem dX6_atom_22 : decode cX6_atom 22 = .ok (.ineg, 1) := by decide +kernel
theorem dX6_atom_23 : decode cX6_atom 23 = .ok (.istore_n 1, 1) := by decide +kernel
theorem dX6_atom_24 : decode cX6_atom 24 = .ok (.aload_n 0, 1) := by decide +kernel
theorem dX6_atom_25 : decode cX6_atom 25 = .ok (.dup, 1) := by decide +kernel
theorem dX6_atom_26 : decode cX6_atom 26 = .ok (.getfield 174, 3) := by decide +kernel
theorem dX6_atom_29 : decode cX6_atom 29 = .ok (.iconst 1, 1) := by decide +kernel
theorem dX6_atom_30 : decode cX6_atom 30 = .ok (.isub, 1) := by decide +kernel
theorem dX6_atom_31 : decode cX6_atom 31 = .ok (.putfield 174, 3) := by decide +kernel
theorem dX6_atom_34 : decode cX6_atom 34 = .ok (.goto 127, 3) := by decide +kernel
theorem dX6_atom_37 : decode cX6_atom 37 = .ok (.aload_n 0, 1) := by decide +kernel
theorem dX6_atom_38 : decode cX6_atom 38 = .ok (.bipush 40, 2) := by decide +kernel
theorem dX6_atom_40 : decode cX6_atom 40 = .ok (.invokevirtual 205, 3) := by decide +kernel
theorem dX6_atom_43 : decode cX6_atom 43 = .ok (.ifCond .eq 52, 3) := by decide +kernel
theorem dX6_atom_46 : decode cX6_atom 46 = .ok (.aload_n 0, 1) := by decide +kernel
theorem dX6_atom_47 : decode cX6_atom 47 = .ok (.invokevirtual 208, 3) := by decide +kernel
theorem dX6_atom_50 : decode cX6_atom 50 = .ok (.ifCond .eq 111, 3) := by decide +kernel
theorem dX6_atom_53 : decode cX6_atom 53 = .ok (.aload_n 0, 1) := by decide +kernel
theorem dX6_atom_54 : decode cX6_atom 54 = .ok (.invokevirtual 216, 3) := by decide +kernel
theorem dX6_atom_57 : decode cX6_atom 57 = .ok (.istore_n 1, 1) := by decide +kernel
theorem dX6_atom_58 : decode cX6_atom 58 = .ok (.aload_n 0, 1) := by decide +kernel
theorem dX6_atom_59 : decode cX6_atom 59 = .ok (.bipush 41, 2) := by decide +kernel
theorem dX6_atom_61 : decode cX6_atom 61 = .ok (.invokevirtual 205, 3) := by decide +kernel
theorem dX6_atom_64 : decode cX6_atom 64 = .ok (.ifCond .ne 7, 3) := by decide +kernel
theorem dX6_atom_67 : decode cX6_atom 67 = .ok (.aload_n 0, 1) := by decide +kernel
theorem dX6_atom_68 : decode cX6_atom 68 = .ok (.invokevirtual 177, 3) := by decide +kernel
theorem dX6_atom_71 : decode cX6_atom 71 = .ok (.aload_n 0, 1) := by decide +kernel
theorem dX6_atom_72 : decode cX6_atom 72 = .ok (.dup, 1) := by decide +kernel
theorem dX6_atom_73 : decode cX6_atom 73 = .ok (.getfield 174, 3) := by decide +kernel
theorem dX6_atom_76 : decode cX6_atom 76 = .ok (.iconst 1, 1) := by decide +kernel
theorem dX6_atom_77 : decode cX6_atom 77 = .ok (.isub, 1) := by decide +kernel
theorem dX6_atom_78 : decode cX6_atom 78 = .ok (.putfield 174, 3) := by decide +kernel
theorem dX6_atom_81 : decode cX6_atom 81 = .ok (.aload_n 0, 1) := by decide +kernel
theorem dX6_atom_82 : decode cX6_atom 82 = .ok (.getfield 163, 3) := by decide +kernel
theorem dX6_atom_85 : decode cX6_atom 85 = .ok (.ifCond .ne 76, 3) := by decide +kernel
theorem dX6_atom_88 : decode cX6_atom 88 = .ok (.aload_n 0, 1) := by decide +kernel
theorem dX6_atom_89 : decode cX6_atom 89 = .ok (.invokevirtual 180, 3) := by decide +kernel
theorem dX6_atom_92 : decode cX6_atom 92 = .ok (.goto 69, 3) := by decide +kernel
theorem dX6_atom_95 : decode cX6_atom 95 = .ok (.aload_n 0, 1) := by decide +kernel
theorem dX6_atom_96 : decode cX6_atom 96 = .ok (.getfield 163, 3) := by decide +kernel
theorem dX6_atom_99 : decode cX6_atom 99 = .ok (.ifCond .ne 24, 3) := by decide +kernel
theorem dX6_atom_102 : decode cX6_atom 102 = .ok (.aload_n 0, 1) := by decide +kernel
theorem dX6_atom_103 : decode cX6_atom 103 = .ok (.getfield 146, 3) := by decide +kernel
theorem dX6_atom_106 : decode cX6_atom 106 = .ok (.iconst 2, 1) := by decide +kernel
theorem dX6_atom_107 : decode cX6_atom 107 = .ok (.if_icmp .ne 16, 3) := by decide +kernel
theorem dX6_atom_110 : decode cX6_atom 110 = .ok (.aload_n 0, 1) := by decide +kernel
theorem dX6_atom_111 : decode cX6_atom 111 = .ok (.getfield 157, 3) := by decide +kernel
theorem dX6_atom_114 : decode cX6_atom 114 = .ok (.l2i, 1) := by decide +kernel
theorem dX6_atom_115 : decode cX6_atom 115 = .ok (.istore_n 1, 1) := by decide +kernel
theorem dX6_atom_116 : decode cX6_atom 116 = .ok (.aload_n 0, 1) := by decide +kernel
theorem dX6_atom_117 : decode cX6_atom 117 = .ok (.invokevirtual 180, 3) := by decide +kernel
theorem dX6_atom_120 : decode cX6_atom 120 = .ok (.goto 41, 3) := by decide +kernel
theorem dX6_atom_123 : decode cX6_atom 123 = .ok (.aload_n 0, 1) := by decide +kernel
theorem dX6_atom_124 : decode cX6_atom 124 = .ok (.getfield 163, 3) := by decide +kernel
theorem dX6_atom_127 : decode cX6_atom 127 = .ok (.ifCond .ne 30, 3) := by decide +kernel
theorem dX6_atom_130 : decode cX6_atom 130 = .ok (.aload_n 0, 1) := by decide +kernel
theorem dX6_atom_131 : decode cX6_atom 131 = .ok (.getfield 146, 3) := by decide +kernel
theorem dX6_atom_134 : decode cX6_atom 134 = .ok (.iconst 1, 1) := by decide +kernel
theorem dX6_atom_135 : decode cX6_atom 135 = .ok (.if_icmp .ne 22, 3) := by decide +kernel
theorem dX6_atom_138 : decode cX6_atom 138 = .ok (.aload_n 0, 1) := by decide +kernel
theorem dX6_atom_139 : decode cX6_atom 139 = .ok (.invokevirtual 219, 3) := by decide +kernel
theorem dX6_atom_142 : decode cX6_atom 142 = .ok (.istore_n 1, 1) := by decide +kernel
theorem dX6_atom_143 : decode cX6_atom 143 = .ok (.aload_n 0, 1) := by decide +kernel
theorem dX6_atom_144 : decode cX6_atom 144 = .ok (.getfield 163, 3) := by decide +kernel
theorem dX6_atom_147 : decode cX6_atom 147 = .ok (.ifCond .ne 14, 3) := by decide +kernel
theorem dX6_atom_150 : decode cX6_atom 150 = .ok (.aload_n 0, 1) := by decide +kernel
theorem dX6_atom_151 : decode cX6_atom 151 = .ok (.invokevirtual 180, 3) := by decide +kernel
theorem dX6_atom_154 : decode cX6_atom 154 = .ok (.goto 7, 3) := by decide +kernel
theorem dX6_atom_157 : decode cX6_atom 157 = .ok (.aload_n 0, 1) := by decide +kernel
theorem dX6_atom_158 : decode cX6_atom 158 = .ok (.invokevirtual 177, 3) := by decide +kernel
theorem dX6_atom_161 : decode cX6_atom 161 = .ok (.iload_n 1, 1) := by decide +kernel
theorem dX6_atom_162 : decode cX6_atom 162 = .ok (.ireturn, 1) := by decide +kernel
theorem dX6_term_0 : decode cX6_term 0 = .ok (.aload_n 0, 1) := by decide +kernel
theorem dX6_term_1 : decode cX6_term 1 = .ok (.invokevirtual 212, 3) := by decide +kernel
theorem dX6_term_4 : decode cX6_term 4 = .ok (.istore_n 1, 1) := by decide +kernel
theorem dX6_term_5 : decode cX6_term 5 = .ok (.aload_n 0, 1) := by decide +kernel
theorem dX6_term_6 : decode cX6_term 6 = .ok (.bipush 42, 2) := by decide +kernel
theorem dX6_term_8 : decode cX6_term 8 = .ok (.invokevirtual 205, 3) := by decide +kernel
theorem dX6_term_11 : decode cX6_term 11 = .ok (.ifCond .eq 17, 3) := by decide +kernel
theorem dX6_term_14 : decode cX6_term 14 = .ok (.aload_n 0, 1) := by decide +kernel
theorem dX6_term_15 : decode cX6_term 15 = .ok (.invokevirtual 180, 3) := by decide +kernel
theorem dX6_term_18 : decode cX6_term 18 = .ok (.iload_n 1, 1) := by decide +kernel
theorem dX6_term_19 : decode cX6_term 19 = .ok (.aload_n 0, 1) := by decide +kernel
theorem dX6_term_20 : decode cX6_term 20 = .ok (.invokevirtual 212, 3) := by decide +kernel
theorem dX6_term_23 : decode cX6_term 23 = .ok (.imul, 1) := by decide +kernel
theorem dX6_term_24 : decode cX6_term 24 = .ok (.istore_n 1, 1) := by decide +kernel
theorem dX6_term_25 : decode cX6_term 25 = .ok (.goto (-20), 3) := by decide +kernel
theorem dX6_term_28 : decode cX6_term 28 = .ok (.iload_n 1, 1) := by decide +kernel
theorem dX6_term_29 : decode cX6_term 29 = .ok (.ireturn, 1) := by decide +kernel
theorem dX6_added_0 : decode cX6_added 0 = .ok (.aload_n 0, 1) := by decide +kernel
theorem dX6_added_1 : decode cX6_added 1 = .ok (.invokevirtual 222, 3) := by decide +kernel
theorem dX6_added_4 : decode cX6_added 4 = .ok (.istore_n 1, 1) := by decide +kernel
theorem dX6_added_5 : decode cX6_added 5 = .ok (.aload_n 0, 1) := by decide +kernel
theorem dX6_added_6 : decode cX6_added 6 = .ok (.bipush 43, 2) := by decide +kernel
theorem dX6_added_8 : decode cX6_added 8 = .ok (.invokevirtual 205, 3) := by decide +kernel
theorem dX6_added_11 : decode cX6_added 11 = .ok (.ifCond .ne 12, 3) := by decide +kernel
theorem dX6_added_14 : decode cX6_added 14 = .ok (.aload_n 0, 1) := by decide +kernel
theorem dX6_added_15 : decode cX6_added 15 = .ok (.bipush 45, 2) := by decide +kernel
theorem dX6_added_17 : decode cX6_added 17 = .ok (.invokevirtual 205, 3) := by decide +kernel
theorem dX6_added_20 : decode cX6_added 20 = .ok (.ifCond .eq 46, 3) := by decide +kernel
theorem dX6_added_23 : decode cX6_added 23 = .ok (.aload_n 0, 1) := by decide +kernel
theorem dX6_added_24 : decode cX6_added 24 = .ok (.getfield 157, 3) := by decide +kernel
theorem dX6_added_27 : decode cX6_added 27 = .ok (.ldc2_w 225, 3) := by decide +kernel
theorem dX6_added_30 : decode cX6_added 30 = .ok (.lcmp, 1) := by decide +kernel
theorem dX6_added_31 : decode cX6_added 31 = .ok (.ifCond .ne 7, 3) := by decide +kernel
theorem dX6_added_34 : decode cX6_added 34 = .ok (.iconst 1, 1) := by decide +kernel
theorem dX6_added_35 : decode cX6_added 35 = .ok (.goto 4, 3) := by decide +kernel
theorem dX6_added_38 : decode cX6_added 38 = .ok (.iconst 0, 1) := by decide +kernel
theorem dX6_added_39 : decode cX6_added 39 = .ok (.istore_n 2, 1) := by decide +kernel
theorem dX6_added_40 : decode cX6_added 40 = .ok (.aload_n 0, 1) := by decide +kernel
theorem dX6_added_41 : decode cX6_added 41 = .ok (.invokevirtual 180, 3) := by decide +kernel
theorem dX6_added_44 : decode cX6_added 44 = .ok (.aload_n 0, 1) := by decide +kernel
theorem dX6_added_45 : decode cX6_added 45 = .ok (.invokevirtual 222, 3) := by decide +kernel
theorem dX6_added_48 : decode cX6_added 48 = .ok (.istore_n 3, 1) := by decide +kernel
theorem dX6_added_49 : decode cX6_added 49 = .ok (.iload_n 2, 1) := by decide +kernel
theorem dX6_added_50 : decode cX6_added 50 = .ok (.ifCond .eq 9, 3) := by decide +kernel
theorem dX6_added_53 : decode cX6_added 53 = .ok (.iload_n 1, 1) := by decide +kernel
theorem dX6_added_54 : decode cX6_added 54 = .ok (.iload_n 3, 1) := by decide +kernel
theorem dX6_added_55 : decode cX6_added 55 = .ok (.iadd, 1) := by decide +kernel
theorem dX6_added_56 : decode cX6_added 56 = .ok (.goto 6, 3) := by decide +kernel
theorem dX6_added_59 : decode cX6_added 59 = .ok (.iload_n 1, 1) := by decide +kernel
theorem dX6_added_60 : decode cX6_added 60 = .ok (.iload_n 3, 1) := by decide +kernel
theorem dX6_added_61 : decode cX6_added 61 = .ok (.isub, 1) := by decide +kernel
theorem dX6_added_62 : decode cX6_added 62 = .ok (.istore_n 1, 1) := by decide +kernel
theorem dX6_added_63 : decode cX6_added 63 = .ok (.goto (-58), 3) := by decide +kernel
theorem dX6_added_66 : decode cX6_added 66 = .ok (.iload_n 1, 1) := by decide +kernel
theorem dX6_added_67 : decode cX6_added 67 = .ok (.ireturn, 1) := by decide +kernel
theorem dX6_not_0 : decode cX6_not 0 = .ok (.aload_n 0, 1) := by decide +kernel
theorem dX6_not_1 : decode cX6_not 1 = .ok (.bipush 110, 2) := by decide +kernel
theorem dX6_not_3 : decode cX6_not 3 = .ok (.bipush 111, 2) := by decide +kernel
theorem dX6_not_5 : decode cX6_not 5 = .ok (.bipush 116, 2) := by decide +kernel
theorem dX6_not_7 : decode cX6_not 7 = .ok (.iconst 0, 1) := by decide +kernel
theorem dX6_not_8 : decode cX6_not 8 = .ok (.iconst 0, 1) := by decide +kernel
theorem dX6_not_9 : decode cX6_not 9 = .ok (.iconst 0, 1) := by decide +kernel
theorem dX6_not_10 : decode cX6_not 10 = .ok (.iconst 0, 1) := by decide +kernel
theorem dX6_not_11 : decode cX6_not 11 = .ok (.iconst 0, 1) := by decide +kernel
theorem dX6_not_12 : decode cX6_not 12 = .ok (.invokevirtual 183, 3) := by decide +kernel
theorem dX6_not_15 : decode cX6_not 15 = .ok (.ifCond .eq 37, 3) := by decide +kernel
theorem dX6_not_18 : decode cX6_not 18 = .ok (.aload_n 0, 1) := by decide +kernel
theorem dX6_not_19 : decode cX6_not 19 = .ok (.invokevirtual 208, 3) := by decide +kernel
theorem dX6_not_22 : decode cX6_not 22 = .ok (.ifCond .ne 5, 3) := by decide +kernel
theorem dX6_not_25 : decode cX6_not 25 = .ok (.iconst 0, 1) := by decide +kernel
theorem dX6_not_26 : decode cX6_not 26 = .ok (.ireturn, 1) := by decide +kernel
theorem dX6_not_27 : decode cX6_not 27 = .ok (.aload_n 0, 1) := by decide +kernel
theorem dX6_not_28 : decode cX6_not 28 = .ok (.invokevirtual 227, 3) := by decide +kernel
theorem dX6_not_31 : decode cX6_not 31 = .ok (.istore_n 1, 1) := by decide +kernel
theorem dX6_not_32 : decode cX6_not 32 = .ok (.aload_n 0, 1) := by decide +kernel
theorem dX6_not_33 : decode cX6_not 33 = .ok (.dup, 1) := by decide +kernel
theorem dX6_not_34 : decode cX6_not 34 = .ok (.getfield 174, 3) := by decide +kernel
theorem dX6_not_37 : decode cX6_not 37 = .ok (.iconst 1, 1) := by decide +kernel
theorem dX6_not_38 : decode cX6_not 38 = .ok (.isub, 1) := by decide +kernel
theorem dX6_not_39 : decode cX6_not 39 = .ok (.putfield 174, 3) := by decide +kernel
theorem dX6_not_42 : decode cX6_not 42 = .ok (.iload_n 1, 1) := by decide +kernel
theorem dX6_not_43 : decode cX6_not 43 = .ok (.ifCond .ne 7, 3) := by decide +kernel
theorem dX6_not_46 : decode cX6_not 46 = .ok (.iconst 1, 1) := by decide +kernel
theorem dX6_not_47 : decode cX6_not 47 = .ok (.goto 4, 3) := by decide +kernel
theorem dX6_not_50 : decode cX6_not 50 = .ok (.iconst 0, 1) := by decide +kernel
theorem dX6_not_51 : decode cX6_not 51 = .ok (.ireturn, 1) := by decide +kernel
theorem dX6_not_52 : decode cX6_not 52 = .ok (.aload_n 0, 1) := by decide +kernel
theorem dX6_not_53 : decode cX6_not 53 = .ok (.invokevirtual 230, 3) := by decide +kernel
theorem dX6_not_56 : decode cX6_not 56 = .ok (.istore_n 1, 1) := by decide +kernel
theorem dX6_not_57 : decode cX6_not 57 = .ok (.aload_n 0, 1) := by decide +kernel
theorem dX6_not_58 : decode cX6_not 58 = .ok (.bipush 60, 2) := by decide +kernel
theorem dX6_not_60 : decode cX6_not 60 = .ok (.invokevirtual 205, 3) := by decide +kernel
theorem dX6_not_63 : decode cX6_not 63 = .ok (.ifCond .ne 14, 3) := by decide +kernel
theorem dX6_not_66 : decode cX6_not 66 = .ok (.aload_n 0, 1) := by decide +kernel
theorem dX6_not_67 : decode cX6_not 67 = .ok (.bipush 61, 2) := by decide +kernel
theorem dX6_not_69 : decode cX6_not 69 = .ok (.invokevirtual 205, 3) := by decide +kernel
theorem dX6_not_72 : decode cX6_not 72 = .ok (.ifCond .ne 5, 3) := by decide +kernel
theorem dX6_not_75 : decode cX6_not 75 = .ok (.iload_n 1, 1) := by decide +kernel
theorem dX6_not_76 : decode cX6_not 76 = .ok (.ireturn, 1) := by decide +kernel
theorem dX6_not_77 : decode cX6_not 77 = .ok (.aload_n 0, 1) := by decide +kernel
theorem dX6_not_78 : decode cX6_not 78 = .ok (.getfield 157, 3) := by decide +kernel
theorem dX6_not_81 : decode cX6_not 81 = .ok (.ldc2_w 233, 3) := by decide +kernel
theorem dX6_not_84 : decode cX6_not 84 = .ok (.lcmp, 1) := by decide +kernel
theorem dX6_not_85 : decode cX6_not 85 = .ok (.ifCond .ne 7, 3) := by decide +kernel
theorem dX6_not_88 : decode cX6_not 88 = .ok (.iconst 1, 1) := by decide +kernel
theorem dX6_not_89 : decode cX6_not 89 = .ok (.goto 4, 3) := by decide +kernel
theorem dX6_not_92 : decode cX6_not 92 = .ok (.iconst 0, 1) := by decide +kernel
theorem dX6_not_93 : decode cX6_not 93 = .ok (.istore_n 2, 1) := by decide +kernel
theorem dX6_not_94 : decode cX6_not 94 = .ok (.aload_n 0, 1) := by decide +kernel
theorem dX6_not_95 : decode cX6_not 95 = .ok (.invokevirtual 180, 3) := by decide +kernel
theorem dX6_not_98 : decode cX6_not 98 = .ok (.aload_n 0, 1) := by decide +kernel
theorem dX6_not_99 : decode cX6_not 99 = .ok (.invokevirtual 230, 3) := by decide +kernel
theorem dX6_not_102 : decode cX6_not 102 = .ok (.istore_n 3, 1) := by decide +kernel
theorem dX6_not_103 : decode cX6_not 103 = .ok (.iload_n 2, 1) := by decide +kernel
theorem dX6_not_104 : decode cX6_not 104 = .ok (.ifCond .eq 11, 3) := by decide +kernel
theorem dX6_not_107 : decode cX6_not 107 = .ok (.iload_n 1, 1) := by decide +kernel
theorem dX6_not_108 : decode cX6_not 108 = .ok (.iload_n 3, 1) := by decide +kernel
theorem dX6_not_109 : decode cX6_not 109 = .ok (.if_icmp .ge 15, 3) := by decide +kernel
theorem dX6_not_112 : decode cX6_not 112 = .ok (.goto 8, 3) := by decide +kernel
theorem dX6_not_115 : decode cX6_not 115 = .ok (.iload_n 1, 1) := by decide +kernel
theorem dX6_not_116 : decode cX6_not 116 = .ok (.iload_n 3, 1) := by decide +kernel
theorem dX6_not_117 : decode cX6_not 117 = .ok (.if_icmp .ne 7, 3) := by decide +kernel
theorem dX6_not_120 : decode cX6_not 120 = .ok (.iconst 1, 1) := by decide +kernel
theorem dX6_not_121 : decode cX6_not 121 = .ok (.goto 4, 3) := by decide +kernel
theorem dX6_not_124 : decode cX6_not 124 = .ok (.iconst 0, 1) := by decide +kernel
theorem dX6_not_125 : decode cX6_not 125 = .ok (.ireturn, 1) := by decide +kernel
theorem dX6_both_0 : decode cX6_both 0 = .ok (.aload_n 0, 1) := by decide +kernel
theorem dX6_both_1 : decode cX6_both 1 = .ok (.invokevirtual 227, 3) := by decide +kernel
theorem dX6_both_4 : decode cX6_both 4 = .ok (.istore_n 1, 1) := by decide +kernel
theorem dX6_both_5 : decode cX6_both 5 = .ok (.aload_n 0, 1) := by decide +kernel
theorem dX6_both_6 : decode cX6_both 6 = .ok (.bipush 97, 2) := by decide +kernel
theorem dX6_both_8 : decode cX6_both 8 = .ok (.bipush 110, 2) := by decide +kernel
theorem dX6_both_10 : decode cX6_both 10 = .ok (.bipush 100, 2) := by decide +kernel
theorem dX6_both_12 : decode cX6_both 12 = .ok (.iconst 0, 1) := by decide +kernel
theorem dX6_both_13 : decode cX6_both 13 = .ok (.iconst 0, 1) := by decide +kernel
theorem dX6_both_14 : decode cX6_both 14 = .ok (.iconst 0, 1) := by decide +kernel
theorem dX6_both_15 : decode cX6_both 15 = .ok (.iconst 0, 1) := by decide +kernel
theorem dX6_both_16 : decode cX6_both 16 = .ok (.iconst 0, 1) := by decide +kernel
theorem dX6_both_17 : decode cX6_both 17 = .ok (.invokevirtual 183, 3) := by decide +kernel
theorem dX6_both_20 : decode cX6_both 20 = .ok (.ifCond .eq 29, 3) := by decide +kernel
theorem dX6_both_23 : decode cX6_both 23 = .ok (.aload_n 0, 1) := by decide +kernel
theorem dX6_both_24 : decode cX6_both 24 = .ok (.invokevirtual 180, 3) := by decide +kernel
theorem dX6_both_27 : decode cX6_both 27 = .ok (.aload_n 0, 1) := by decide +kernel
theorem dX6_both_28 : decode cX6_both 28 = .ok (.invokevirtual 227, 3) := by decide +kernel
theorem dX6_both_31 : decode cX6_both 31 = .ok (.istore_n 2, 1) := by decide +kernel
theorem dX6_both_32 : decode cX6_both 32 = .ok (.iload_n 1, 1) := by decide +kernel
theorem dX6_both_33 : decode cX6_both 33 = .ok (.ifCond .eq 11, 3) := by decide +kernel
theorem dX6_both_36 : decode cX6_both 36 = .ok (.iload_n 2, 1) := by decide +kernel
theorem dX6_both_37 : decode cX6_both 37 = .ok (.ifCond .eq 7, 3) := by decide +kernel
theorem dX6_both_40 : decode cX6_both 40 = .ok (.iconst 1, 1) := by decide +kernel
theorem dX6_both_41 : decode cX6_both 41 = .ok (.goto 4, 3) := by decide +kernel
theorem dX6_both_44 : decode cX6_both 44 = .ok (.iconst 0, 1) := by decide +kernel
theorem dX6_both_45 : decode cX6_both 45 = .ok (.istore_n 1, 1) := by decide +kernel
theorem dX6_both_46 : decode cX6_both 46 = .ok (.goto (-41), 3) := by decide +kernel
theorem dX6_both_49 : decode cX6_both 49 = .ok (.iload_n 1, 1) := by decide +kernel
theorem dX6_both_50 : decode cX6_both 50 = .ok (.ireturn, 1) := by decide +kernel
theorem dX6_either_0 : decode cX6_either 0 = .ok (.aload_n 0, 1) := by decide +kernel
theorem dX6_either_1 : decode cX6_either 1 = .ok (.invokevirtual 235, 3) := by decide +kernel
theorem dX6_either_4 : decode cX6_either 4 = .ok (.istore_n 1, 1) := by decide +kernel
theorem dX6_either_5 : decode cX6_either 5 = .ok (.aload_n 0, 1) := by decide +kernel
theorem dX6_either_6 : decode cX6_either 6 = .ok (.bipush 111, 2) := by decide +kernel
theorem dX6_either_8 : decode cX6_either 8 = .ok (.bipush 114, 2) := by decide +kernel
theorem dX6_either_10 : decode cX6_either 10 = .ok (.iconst 0, 1) := by decide +kernel
theorem dX6_either_11 : decode cX6_either 11 = .ok (.iconst 0, 1) := by decide +kernel
theorem dX6_either_12 : decode cX6_either 12 = .ok (.iconst 0, 1) := by decide +kernel
theorem dX6_either_13 : decode cX6_either 13 = .ok (.iconst 0, 1) := by decide +kernel
theorem dX6_either_14 : decode cX6_either 14 = .ok (.iconst 0, 1) := by decide +kernel
theorem dX6_either_15 : decode cX6_either 15 = .ok (.iconst 0, 1) := by decide +kernel
theorem dX6_either_16 : decode cX6_either 16 = .ok (.invokevirtual 183, 3) := by decide +kernel
theorem dX6_either_19 : decode cX6_either 19 = .ok (.ifCond .eq 29, 3) := by decide +kernel
theorem dX6_either_22 : decode cX6_either 22 = .ok (.aload_n 0, 1) := by decide +kernel
theorem dX6_either_23 : decode cX6_either 23 = .ok (.invokevirtual 180, 3) := by decide +kernel
theorem dX6_either_26 : decode cX6_either 26 = .ok (.aload_n 0, 1) := by decide +kernel
theorem dX6_either_27 : decode cX6_either 27 = .ok (.invokevirtual 235, 3) := by decide +kernel
theorem dX6_either_30 : decode cX6_either 30 = .ok (.istore_n 2, 1) := by decide +kernel
theorem dX6_either_31 : decode cX6_either 31 = .ok (.iload_n 1, 1) := by decide +kernel
theorem dX6_either_32 : decode cX6_either 32 = .ok (.ifCond .ne 7, 3) := by decide +kernel
theorem dX6_either_35 : decode cX6_either 35 = .ok (.iload_n 2, 1) := by decide +kernel
theorem dX6_either_36 : decode cX6_either 36 = .ok (.ifCond .eq 7, 3) := by decide +kernel
theorem dX6_either_39 : decode cX6_either 39 = .ok (.iconst 1, 1) := by decide +kernel
theorem dX6_either_40 : decode cX6_either 40 = .ok (.goto 4, 3) := by decide +kernel
theorem dX6_either_43 : decode cX6_either 43 = .ok (.iconst 0, 1) := by decide +kernel
theorem dX6_either_44 : decode cX6_either 44 = .ok (.istore_n 1, 1) := by decide +kernel
theorem dX6_either_45 : decode cX6_either 45 = .ok (.goto (-40), 3) := by decide +kernel
theorem dX6_either_48 : decode cX6_either 48 = .ok (.iload_n 1, 1) := by decide +kernel
theorem dX6_either_49 : decode cX6_either 49 = .ok (.ireturn, 1) := by decide +kernel
theorem dX6_part_0 : decode cX6_part 0 = .ok (.iload_n 1, 1) := by decide +kernel
theorem dX6_part_1 : decode cX6_part 1 = .ok (.ifCond .ne 7, 3) := by decide +kernel
theorem dX6_part_4 : decode cX6_part 4 = .ok (.aload_n 0, 1) := by decide +kernel
theorem dX6_part_5 : decode cX6_part 5 = .ok (.invokevirtual 177, 3) := by decide +kernel
theorem dX6_part_8 : decode cX6_part 8 = .ok (.aload_n 0, 1) := by decide +kernel
theorem dX6_part_9 : decode cX6_part 9 = .ok (.getfield 163, 3) := by decide +kernel
theorem dX6_part_12 : decode cX6_part 12 = .ok (.ifCond .ne 7, 3) := by decide +kernel
theorem dX6_part_15 : decode cX6_part 15 = .ok (.aload_n 0, 1) := by decide +kernel
theorem dX6_part_16 : decode cX6_part 16 = .ok (.invokevirtual 180, 3) := by decide +kernel
theorem dX6_part_19 : decode cX6_part 19 = .ok (.aload_n 0, 1) := by decide +kernel
theorem dX6_part_20 : decode cX6_part 20 = .ok (.getfield 163, 3) := by decide +kernel
theorem dX6_part_23 : decode cX6_part 23 = .ok (.ifCond .eq 7, 3) := by decide +kernel
theorem dX6_part_26 : decode cX6_part 26 = .ok (.iconst 0, 1) := by decide +kernel
theorem dX6_part_27 : decode cX6_part 27 = .ok (.goto 7, 3) := by decide +kernel
theorem dX6_part_30 : decode cX6_part 30 = .ok (.aload_n 0, 1) := by decide +kernel
theorem dX6_part_31 : decode cX6_part 31 = .ok (.invokevirtual 216, 3) := by decide +kernel
theorem dX6_part_34 : decode cX6_part 34 = .ok (.istore_n 2, 1) := by decide +kernel
theorem dX6_part_35 : decode cX6_part 35 = .ok (.aload_n 0, 1) := by decide +kernel
theorem dX6_part_36 : decode cX6_part 36 = .ok (.bipush 59, 2) := by decide +kernel
theorem dX6_part_38 : decode cX6_part 38 = .ok (.invokevirtual 205, 3) := by decide +kernel
theorem dX6_part_41 : decode cX6_part 41 = .ok (.ifCond .ne 7, 3) := by decide +kernel
theorem dX6_part_44 : decode cX6_part 44 = .ok (.aload_n 0, 1) := by decide +kernel
theorem dX6_part_45 : decode cX6_part 45 = .ok (.invokevirtual 177, 3) := by decide +kernel
theorem dX6_part_48 : decode cX6_part 48 = .ok (.aload_n 0, 1) := by decide +kernel
theorem dX6_part_49 : decode cX6_part 49 = .ok (.getfield 163, 3) := by decide +kernel
theorem dX6_part_52 : decode cX6_part 52 = .ok (.ifCond .ne 7, 3) := by decide +kernel
theorem dX6_part_55 : decode cX6_part 55 = .ok (.aload_n 0, 1) := by decide +kernel
theorem dX6_part_56 : decode cX6_part 56 = .ok (.invokevirtual 180, 3) := by decide +kernel
theorem dX6_part_59 : decode cX6_part 59 = .ok (.iload_n 2, 1) := by decide +kernel
theorem dX6_part_60 : decode cX6_part 60 = .ok (.ireturn, 1) := by decide +kernel
theorem dX6_read_0 : decode cX6_read 0 = .ok (.aload_n 0, 1) := by decide +kernel
theorem dX6_read_1 : decode cX6_read 1 = .ok (.sipush 160, 3) := by decide +kernel
theorem dX6_read_4 : decode cX6_read 4 = .ok (.iload_n 1, 1) := by decide +kernel
theorem dX6_read_5 : decode cX6_read 5 = .ok (.imul, 1) := by decide +kernel
theorem dX6_read_6 : decode cX6_read 6 = .ok (.putfield 134, 3) := by decide +kernel
theorem dX6_read_9 : decode cX6_read 9 = .ok (.aload_n 0, 1) := by decide +kernel
theorem dX6_read_10 : decode cX6_read 10 = .ok (.aload_n 0, 1) := by decide +kernel
theorem dX6_read_11 : decode cX6_read 11 = .ok (.getfield 17, 3) := by decide +kernel
theorem dX6_read_14 : decode cX6_read 14 = .ok (.iload_n 1, 1) := by decide +kernel
theorem dX6_read_15 : decode cX6_read 15 = .ok (.iaload, 1) := by decide +kernel
theorem dX6_read_16 : decode cX6_read 16 = .ok (.putfield 131, 3) := by decide +kernel
theorem dX6_read_19 : decode cX6_read 19 = .ok (.aload_n 0, 1) := by decide +kernel
theorem dX6_read_20 : decode cX6_read 20 = .ok (.iconst 0, 1) := by decide +kernel
theorem dX6_read_21 : decode cX6_read 21 = .ok (.putfield 137, 3) := by decide +kernel
theorem dX6_read_24 : decode cX6_read 24 = .ok (.aload_n 0, 1) := by decide +kernel
theorem dX6_read_25 : decode cX6_read 25 = .ok (.iconst 0, 1) := by decide +kernel
theorem dX6_read_26 : decode cX6_read 26 = .ok (.putfield 174, 3) := by decide +kernel
theorem dX6_read_29 : decode cX6_read 29 = .ok (.aload_n 0, 1) := by decide +kernel
theorem dX6_read_30 : decode cX6_read 30 = .ok (.iconst 0, 1) := by decide +kernel
theorem dX6_read_31 : decode cX6_read 31 = .ok (.putfield 163, 3) := by decide +kernel
theorem dX6_read_34 : decode cX6_read 34 = .ok (.aload_n 0, 1) := by decide +kernel
theorem dX6_read_35 : decode cX6_read 35 = .ok (.invokevirtual 180, 3) := by decide +kernel
theorem dX6_read_38 : decode cX6_read 38 = .ok (.aload_n 0, 1) := by decide +kernel
theorem dX6_read_39 : decode cX6_read 39 = .ok (.aload_n 0, 1) := by decide +kernel
theorem dX6_read_40 : decode cX6_read 40 = .ok (.bipush 100, 2) := by decide +kernel
theorem dX6_read_42 : decode cX6_read 42 = .ok (.bipush 105, 2) := by decide +kernel
theorem dX6_read_44 : decode cX6_read 44 = .ok (.bipush 103, 2) := by decide +kernel
theorem dX6_read_46 : decode cX6_read 46 = .ok (.bipush 115, 2) := by decide +kernel
theorem dX6_read_48 : decode cX6_read 48 = .ok (.iconst 0, 1) := by decide +kernel
theorem dX6_read_49 : decode cX6_read 49 = .ok (.iconst 0, 1) := by decide +kernel
theorem dX6_read_50 : decode cX6_read 50 = .ok (.iconst 0, 1) := by decide +kernel
theorem dX6_read_51 : decode cX6_read 51 = .ok (.iconst 0, 1) := by decide +kernel
theorem dX6_read_52 : decode cX6_read 52 = .ok (.invokevirtual 183, 3) := by decide +kernel
theorem dX6_read_55 : decode cX6_read 55 = .ok (.invokevirtual 238, 3) := by decide +kernel
theorem dX6_read_58 : decode cX6_read 58 = .ok (.istore_n 3, 1) := by decide +kernel
theorem dX6_read_59 : decode cX6_read 59 = .ok (.aload_n 0, 1) := by decide +kernel
theorem dX6_read_60 : decode cX6_read 60 = .ok (.getfield 163, 3) := by decide +kernel
theorem dX6_read_63 : decode cX6_read 63 = .ok (.ifCond .eq 7, 3) := by decide +kernel
theorem dX6_read_66 : decode cX6_read 66 = .ok (.iconst 0, 1) := by decide +kernel
theorem dX6_read_67 : decode cX6_read 67 = .ok (.goto 24, 3) := by decide +kernel
theorem dX6_read_70 : decode cX6_read 70 = .ok (.aload_n 0, 1) := by decide +kernel
theorem dX6_read_71 : decode cX6_read 71 = .ok (.aload_n 0, 1) := by decide +kernel
theorem dX6_read_72 : decode cX6_read 72 = .ok (.bipush 104, 2) := by decide +kernel
theorem dX6_read_74 : decode cX6_read 74 = .ok (.bipush 101, 2) := by decide +kernel
theorem dX6_read_76 : decode cX6_read 76 = .ok (.bipush 97, 2) := by decide +kernel
theorem dX6_read_78 : decode cX6_read 78 = .ok (.bipush 114, 2) := by decide +kernel
theorem dX6_read_80 : decode cX6_read 80 = .ok (.bipush 115, 2) := by decide +kernel
theorem dX6_read_82 : decode cX6_read 82 = .ok (.iconst 0, 1) := by decide +kernel
theorem dX6_read_83 : decode cX6_read 83 = .ok (.iconst 0, 1) := by decide +kernel
theorem dX6_read_84 : decode cX6_read 84 = .ok (.iconst 0, 1) := by decide +kernel
theorem dX6_read_85 : decode cX6_read 85 = .ok (.invokevirtual 183, 3) := by decide +kernel
theorem dX6_read_88 : decode cX6_read 88 = .ok (.invokevirtual 238, 3) := by decide +kernel
theorem dX6_read_91 : decode cX6_read 91 = .ok (.istore 4, 2) := by decide +kernel
theorem dX6_read_93 : decode cX6_read 93 = .ok (.aload_n 0, 1) := by decide +kernel
theorem dX6_read_94 : decode cX6_read 94 = .ok (.getfield 163, 3) := by decide +kernel
theorem dX6_read_97 : decode cX6_read 97 = .ok (.ifCond .eq 7, 3) := by decide +kernel
theorem dX6_read_100 : decode cX6_read 100 = .ok (.iconst 0, 1) := by decide +kernel
theorem dX6_read_101 : decode cX6_read 101 = .ok (.goto 24, 3) := by decide +kernel
theorem dX6_read_104 : decode cX6_read 104 = .ok (.aload_n 0, 1) := by decide +kernel
theorem dX6_read_105 : decode cX6_read 105 = .ok (.aload_n 0, 1) := by decide +kernel
theorem dX6_read_106 : decode cX6_read 106 = .ok (.bipush 119, 2) := by decide +kernel
theorem dX6_read_108 : decode cX6_read 108 = .ok (.bipush 111, 2) := by decide +kernel
theorem dX6_read_110 : decode cX6_read 110 = .ok (.bipush 114, 2) := by decide +kernel
theorem dX6_read_112 : decode cX6_read 112 = .ok (.bipush 116, 2) := by decide +kernel
theorem dX6_read_114 : decode cX6_read 114 = .ok (.bipush 104, 2) := by decide +kernel
theorem dX6_read_116 : decode cX6_read 116 = .ok (.iconst 0, 1) := by decide +kernel
theorem dX6_read_117 : decode cX6_read 117 = .ok (.iconst 0, 1) := by decide +kernel
theorem dX6_read_118 : decode cX6_read 118 = .ok (.iconst 0, 1) := by decide +kernel
theorem dX6_read_119 : decode cX6_read 119 = .ok (.invokevirtual 183, 3) := by decide +kernel
theorem dX6_read_122 : decode cX6_read 122 = .ok (.invokevirtual 238, 3) := by decide +kernel
theorem dX6_read_125 : decode cX6_read 125 = .ok (.istore 5, 2) := by decide +kernel
theorem dX6_read_127 : decode cX6_read 127 = .ok (.aload_n 0, 1) := by decide +kernel
theorem dX6_read_128 : decode cX6_read 128 = .ok (.getfield 163, 3) := by decide +kernel
theorem dX6_read_131 : decode cX6_read 131 = .ok (.ifCond .ne 14, 3) := by decide +kernel
theorem dX6_read_134 : decode cX6_read 134 = .ok (.aload_n 0, 1) := by decide +kernel
theorem dX6_read_135 : decode cX6_read 135 = .ok (.getfield 146, 3) := by decide +kernel
theorem dX6_read_138 : decode cX6_read 138 = .ok (.ifCond .eq 7, 3) := by decide +kernel
theorem dX6_read_141 : decode cX6_read 141 = .ok (.aload_n 0, 1) := by decide +kernel
theorem dX6_read_142 : decode cX6_read 142 = .ok (.invokevirtual 177, 3) := by decide +kernel
theorem dX6_read_145 : decode cX6_read 145 = .ok (.iload_n 2, 1) := by decide +kernel
theorem dX6_read_146 : decode cX6_read 146 = .ok (.ifCond .ne 7, 3) := by decide +kernel
theorem dX6_read_149 : decode cX6_read 149 = .ok (.iload_n 3, 1) := by decide +kernel
theorem dX6_read_150 : decode cX6_read 150 = .ok (.goto 15, 3) := by decide +kernel
theorem dX6_read_153 : decode cX6_read 153 = .ok (.iload_n 2, 1) := by decide +kernel
theorem dX6_read_154 : decode cX6_read 154 = .ok (.iconst 1, 1) := by decide +kernel
theorem dX6_read_155 : decode cX6_read 155 = .ok (.if_icmp .ne 8, 3) := by decide +kernel
theorem dX6_read_158 : decode cX6_read 158 = .ok (.iload 4, 2) := by decide +kernel
theorem dX6_read_160 : decode cX6_read 160 = .ok (.goto 5, 3) := by decide +kernel
theorem dX6_read_163 : decode cX6_read 163 = .ok (.iload 5, 2) := by decide +kernel
theorem dX6_read_165 : decode cX6_read 165 = .ok (.ireturn, 1) := by decide +kernel
theorem dX6_text_0 : decode cX6_text 0 = .ok (.aload_n 0, 1) := by decide +kernel
theorem dX6_text_1 : decode cX6_text 1 = .ok (.getfield 70, 3) := by decide +kernel
theorem dX6_text_4 : decode cX6_text 4 = .ok (.bipush 6, 2) := by decide +kernel
theorem dX6_text_6 : decode cX6_text 6 = .ok (.if_icmp .ne 6, 3) := by decide +kernel
theorem dX6_text_9 : decode cX6_text 9 = .ok (.bipush (-4), 2) := by decide +kernel
theorem dX6_text_11 : decode cX6_text 11 = .ok (.ireturn, 1) := by decide +kernel
theorem dX6_text_12 : decode cX6_text 12 = .ok (.iconst 0, 1) := by decide +kernel
theorem dX6_text_13 : decode cX6_text 13 = .ok (.istore_n 1, 1) := by decide +kernel
theorem dX6_text_14 : decode cX6_text 14 = .ok (.iload_n 1, 1) := by decide +kernel
theorem dX6_text_15 : decode cX6_text 15 = .ok (.aload_n 0, 1) := by decide +kernel
theorem dX6_text_16 : decode cX6_text 16 = .ok (.getfield 128, 3) := by decide +kernel
theorem dX6_text_19 : decode cX6_text 19 = .ok (.if_icmp .ge 30, 3) := by decide +kernel
theorem dX6_text_22 : decode cX6_text 22 = .ok (.aload_n 0, 1) := by decide +kernel
theorem dX6_text_23 : decode cX6_text 23 = .ok (.getfield 13, 3) := by decide +kernel
theorem dX6_text_26 : decode cX6_text 26 = .ok (.sipush 160, 3) := by decide +kernel
theorem dX6_text_29 : decode cX6_text 29 = .ok (.aload_n 0, 1) := by decide +kernel
theorem dX6_text_30 : decode cX6_text 30 = .ok (.getfield 70, 3) := by decide +kernel
theorem dX6_text_33 : decode cX6_text 33 = .ok (.imul, 1) := by decide +kernel
theorem dX6_text_34 : decode cX6_text 34 = .ok (.iload_n 1, 1) := by decide +kernel
theorem dX6_text_35 : decode cX6_text 35 = .ok (.iadd, 1) := by decide +kernel
theorem dX6_text_36 : decode cX6_text 36 = .ok (.aload_n 0, 1) := by decide +kernel
theorem dX6_text_37 : decode cX6_text 37 = .ok (.getfield 20, 3) := by decide +kernel
theorem dX6_text_40 : decode cX6_text 40 = .ok (.iload_n 1, 1) := by decide +kernel
theorem dX6_text_41 : decode cX6_text 41 = .ok (.iaload, 1) := by decide +kernel
theorem dX6_text_42 : decode cX6_text 42 = .ok (.iastore, 1) := by decide +kernel
theorem dX6_text_43 : decode cX6_text 43 = .ok (.iinc 1 1, 3) := by decide +kernel
theorem dX6_text_46 : decode cX6_text 46 = .ok (.goto (-32), 3) := by decide +kernel
theorem dX6_text_49 : decode cX6_text 49 = .ok (.aload_n 0, 1) := by decide +kernel
theorem dX6_text_50 : decode cX6_text 50 = .ok (.getfield 17, 3) := by decide +kernel
theorem dX6_text_53 : decode cX6_text 53 = .ok (.aload_n 0, 1) := by decide +kernel
theorem dX6_text_54 : decode cX6_text 54 = .ok (.getfield 70, 3) := by decide +kernel
theorem dX6_text_57 : decode cX6_text 57 = .ok (.aload_n 0, 1) := by decide +kernel
theorem dX6_text_58 : decode cX6_text 58 = .ok (.getfield 128, 3) := by decide +kernel
theorem dX6_text_61 : decode cX6_text 61 = .ok (.iastore, 1) := by decide +kernel
theorem dX6_text_62 : decode cX6_text 62 = .ok (.aload_n 0, 1) := by decide +kernel
theorem dX6_text_63 : decode cX6_text 63 = .ok (.iconst 0, 1) := by decide +kernel
theorem dX6_text_64 : decode cX6_text 64 = .ok (.putfield 128, 3) := by decide +kernel
theorem dX6_text_67 : decode cX6_text 67 = .ok (.aload_n 0, 1) := by decide +kernel
theorem dX6_text_68 : decode cX6_text 68 = .ok (.aload_n 0, 1) := by decide +kernel
theorem dX6_text_69 : decode cX6_text 69 = .ok (.getfield 70, 3) := by decide +kernel
theorem dX6_text_72 : decode cX6_text 72 = .ok (.iconst 0, 1) := by decide +kernel
theorem dX6_text_73 : decode cX6_text 73 = .ok (.invokevirtual 242, 3) := by decide +kernel
theorem dX6_text_76 : decode cX6_text 76 = .ok (.istore_n 1, 1) := by decide +kernel
theorem dX6_text_77 : decode cX6_text 77 = .ok (.aload_n 0, 1) := by decide +kernel
theorem dX6_text_78 : decode cX6_text 78 = .ok (.getfield 163, 3) := by decide +kernel
theorem dX6_text_81 : decode cX6_text 81 = .ok (.ifCond .eq 11, 3) := by decide +kernel
theorem dX6_text_84 : decode cX6_text 84 = .ok (.bipush (-100), 2) := by decide +kernel
theorem dX6_text_86 : decode cX6_text 86 = .ok (.aload_n 0, 1) := by decide +kernel
theorem dX6_text_87 : decode cX6_text 87 = .ok (.getfield 167, 3) := by decide +kernel
theorem dX6_text_90 : decode cX6_text 90 = .ok (.isub, 1) := by decide +kernel
theorem dX6_text_91 : decode cX6_text 91 = .ok (.ireturn, 1) := by decide +kernel
theorem dX6_text_92 : decode cX6_text 92 = .ok (.aload_n 0, 1) := by decide +kernel
theorem dX6_text_93 : decode cX6_text 93 = .ok (.dup, 1) := by decide +kernel
theorem dX6_text_94 : decode cX6_text 94 = .ok (.getfield 70, 3) := by decide +kernel
theorem dX6_text_97 : decode cX6_text 97 = .ok (.iconst 1, 1) := by decide +kernel
theorem dX6_text_98 : decode cX6_text 98 = .ok (.iadd, 1) := by decide +kernel
theorem dX6_text_99 : decode cX6_text 99 = .ok (.putfield 70, 3) := by decide +kernel
theorem dX6_text_102 : decode cX6_text 102 = .ok (.aload_n 0, 1) := by decide +kernel
theorem dX6_text_103 : decode cX6_text 103 = .ok (.getfield 70, 3) := by decide +kernel
theorem dX6_text_106 : decode cX6_text 106 = .ok (.iconst 1, 1) := by decide +kernel
theorem dX6_text_107 : decode cX6_text 107 = .ok (.isub, 1) := by decide +kernel
theorem dX6_text_108 : decode cX6_text 108 = .ok (.ireturn, 1) := by decide +kernel
theorem dX6_force_0 : decode cX6_force 0 = .ok (.iload_n 1, 1) := by decide +kernel
theorem dX6_force_1 : decode cX6_force 1 = .ok (.i2l, 1) := by decide +kernel
theorem dX6_force_2 : decode cX6_force 2 = .ok (.lconst 0, 1) := by decide +kernel
theorem dX6_force_3 : decode cX6_force 3 = .ok (.aload_n 0, 1) := by decide +kernel
theorem dX6_force_4 : decode cX6_force 4 = .ok (.getfield 70, 3) := by decide +kernel
theorem dX6_force_7 : decode cX6_force 7 = .ok (.iconst 1, 1) := by decide +kernel
theorem dX6_force_8 : decode cX6_force 8 = .ok (.isub, 1) := by decide +kernel
theorem dX6_force_9 : decode cX6_force 9 = .ok (.i2l, 1) := by decide +kernel
theorem dX6_force_10 : decode cX6_force 10 = .ok (.invokestatic 76, 3) := by decide +kernel
theorem dX6_force_13 : decode cX6_force 13 = .ok (.ifCond .ne 6, 3) := by decide +kernel
theorem dX6_force_16 : decode cX6_force 16 = .ok (.bipush (-2), 2) := by decide +kernel
theorem dX6_force_18 : decode cX6_force 18 = .ok (.ireturn, 1) := by decide +kernel
theorem dX6_force_19 : decode cX6_force 19 = .ok (.aload_n 0, 1) := by decide +kernel
theorem dX6_force_20 : decode cX6_force 20 = .ok (.getfield 245, 3) := by decide +kernel
theorem dX6_force_23 : decode cX6_force 23 = .ok (.istore_n 2, 1) := by decide +kernel
theorem dX6_force_24 : decode cX6_force 24 = .ok (.aload_n 0, 1) := by decide +kernel
theorem dX6_force_25 : decode cX6_force 25 = .ok (.iload_n 1, 1) := by decide +kernel
theorem dX6_force_26 : decode cX6_force 26 = .ok (.putfield 245, 3) := by decide +kernel
theorem dX6_force_29 : decode cX6_force 29 = .ok (.iload_n 2, 1) := by decide +kernel
theorem dX6_force_30 : decode cX6_force 30 = .ok (.ireturn, 1) := by decide +kernel
theorem dX6_says_0 : decode cX6_says 0 = .ok (.aload_n 0, 1) := by decide +kernel
theorem dX6_says_1 : decode cX6_says 1 = .ok (.aload_n 0, 1) := by decide +kernel
theorem dX6_says_2 : decode cX6_says 2 = .ok (.iload_n 2, 1) := by decide +kernel
theorem dX6_says_3 : decode cX6_says 3 = .ok (.invokevirtual 112, 3) := by decide +kernel
theorem dX6_says_6 : decode cX6_says 6 = .ok (.putfield 187, 3) := by decide +kernel
theorem dX6_says_9 : decode cX6_says 9 = .ok (.aload_n 0, 1) := by decide +kernel
theorem dX6_says_10 : decode cX6_says 10 = .ok (.iload_n 3, 1) := by decide +kernel
theorem dX6_says_11 : decode cX6_says 11 = .ok (.putfield 190, 3) := by decide +kernel
theorem dX6_says_14 : decode cX6_says 14 = .ok (.aload_n 0, 1) := by decide +kernel
theorem dX6_says_15 : decode cX6_says 15 = .ok (.aload_n 0, 1) := by decide +kernel
theorem dX6_says_16 : decode cX6_says 16 = .ok (.getfield 105, 3) := by decide +kernel
theorem dX6_says_19 : decode cX6_says 19 = .ok (.putfield 193, 3) := by decide +kernel
theorem dX6_says_22 : decode cX6_says 22 = .ok (.aload_n 0, 1) := by decide +kernel
theorem dX6_says_23 : decode cX6_says 23 = .ok (.aload_n 0, 1) := by decide +kernel
theorem dX6_says_24 : decode cX6_says 24 = .ok (.getfield 35, 3) := by decide +kernel
theorem dX6_says_27 : decode cX6_says 27 = .ok (.putfield 196, 3) := by decide +kernel
theorem dX6_says_30 : decode cX6_says 30 = .ok (.aload_n 0, 1) := by decide +kernel
theorem dX6_says_31 : decode cX6_says 31 = .ok (.aload_n 0, 1) := by decide +kernel
theorem dX6_says_32 : decode cX6_says 32 = .ok (.getfield 26, 3) := by decide +kernel
theorem dX6_says_35 : decode cX6_says 35 = .ok (.iload_n 2, 1) := by decide +kernel
theorem dX6_says_36 : decode cX6_says 36 = .ok (.iaload, 1) := by decide +kernel
theorem dX6_says_37 : decode cX6_says 37 = .ok (.bipush 8, 2) := by decide +kernel
theorem dX6_says_39 : decode cX6_says 39 = .ok (.idiv, 1) := by decide +kernel
theorem dX6_says_40 : decode cX6_says 40 = .ok (.putfield 199, 3) := by decide +kernel
theorem dX6_says_43 : decode cX6_says 43 = .ok (.aload_n 0, 1) := by decide +kernel
theorem dX6_says_44 : decode cX6_says 44 = .ok (.aload_n 0, 1) := by decide +kernel
theorem dX6_says_45 : decode cX6_says 45 = .ok (.getfield 26, 3) := by decide +kernel
theorem dX6_says_48 : decode cX6_says 48 = .ok (.iload_n 2, 1) := by decide +kernel
theorem dX6_says_49 : decode cX6_says 49 = .ok (.iaload, 1) := by decide +kernel
theorem dX6_says_50 : decode cX6_says 50 = .ok (.bipush 8, 2) := by decide +kernel
theorem dX6_says_52 : decode cX6_says 52 = .ok (.irem, 1) := by decide +kernel
theorem dX6_says_53 : decode cX6_says 53 = .ok (.putfield 202, 3) := by decide +kernel
theorem dX6_says_56 : decode cX6_says 56 = .ok (.aload_n 0, 1) := by decide +kernel
theorem dX6_says_57 : decode cX6_says 57 = .ok (.aload_n 0, 1) := by decide +kernel
theorem dX6_says_58 : decode cX6_says 58 = .ok (.getfield 245, 3) := by decide +kernel
theorem dX6_says_61 : decode cX6_says 61 = .ok (.iload_n 1, 1) := by decide +kernel
theorem dX6_says_62 : decode cX6_says 62 = .ok (.invokevirtual 242, 3) := by decide +kernel
theorem dX6_says_65 : decode cX6_says 65 = .ok (.ireturn, 1) := by decide +kernel
theorem dX6_worth_0 : decode cX6_worth 0 = .ok (.aload_n 0, 1) := by decide +kernel
theorem dX6_worth_1 : decode cX6_worth 1 = .ok (.iconst 2, 1) := by decide +kernel
theorem dX6_worth_2 : decode cX6_worth 2 = .ok (.iload_n 1, 1) := by decide +kernel
theorem dX6_worth_3 : decode cX6_worth 3 = .ok (.iload_n 2, 1) := by decide +kernel
theorem dX6_worth_4 : decode cX6_worth 4 = .ok (.invokevirtual 248, 3) := by decide +kernel
theorem dX6_worth_7 : decode cX6_worth 7 = .ok (.iconst 0, 1) := by decide +kernel
theorem dX6_worth_8 : decode cX6_worth 8 = .ok (.bipush 99, 2) := by decide +kernel
theorem dX6_worth_10 : decode cX6_worth 10 = .ok (.invokestatic 251, 3) := by decide +kernel
theorem dX6_worth_13 : decode cX6_worth 13 = .ok (.ireturn, 1) := by decide +kernel
theorem dX6_isHeard_0 : decode cX6_isHeard 0 = .ok (.aload_n 0, 1) := by decide +kernel
theorem dX6_isHeard_1 : decode cX6_isHeard 1 = .ok (.iload_n 1, 1) := by decide +kernel
theorem dX6_isHeard_2 : decode cX6_isHeard 2 = .ok (.invokevirtual 115, 3) := by decide +kernel
theorem dX6_isHeard_5 : decode cX6_isHeard 5 = .ok (.istore_n 2, 1) := by decide +kernel
theorem dX6_isHeard_6 : decode cX6_isHeard 6 = .ok (.iload_n 2, 1) := by decide +kernel
theorem dX6_isHeard_7 : decode cX6_isHeard 7 = .ok (.aload_n 0, 1) := by decide +kernel
theorem dX6_isHeard_8 : decode cX6_isHeard 8 = .ok (.iconst 1, 1) := by decide +kernel
theorem dX6_isHeard_9 : decode cX6_isHeard 9 = .ok (.iload_n 1, 1) := by decide +kernel
theorem dX6_isHeard_10 : decode cX6_isHeard 10 = .ok (.iload_n 2, 1) := by decide +kernel
theorem dX6_isHeard_11 : decode cX6_isHeard 11 = .ok (.invokevirtual 248, 3) := by decide +kernel
theorem dX6_isHeard_14 : decode cX6_isHeard 14 = .ok (.iconst 0, 1) := by decide +kernel
theorem dX6_isHeard_15 : decode cX6_isHeard 15 = .ok (.bipush 99, 2) := by decide +kernel
theorem dX6_isHeard_17 : decode cX6_isHeard 17 = .ok (.invokestatic 251, 3) := by decide +kernel
theorem dX6_isHeard_20 : decode cX6_isHeard 20 = .ok (.if_icmp .lt 7, 3) := by decide +kernel
theorem dX6_isHeard_23 : decode cX6_isHeard 23 = .ok (.iconst 1, 1) := by decide +kernel
theorem dX6_isHeard_24 : decode cX6_isHeard 24 = .ok (.goto 4, 3) := by decide +kernel
theorem dX6_isHeard_27 : decode cX6_isHeard 27 = .ok (.iconst 0, 1) := by decide +kernel
theorem dX6_isHeard_28 : decode cX6_isHeard 28 = .ok (.ireturn, 1) := by decide +kernel
theorem dX6_beepOf_0 : decode cX6_beepOf 0 = .ok (.iconst (-1), 1) := by decide +kernel
theorem dX6_beepOf_1 : decode cX6_beepOf 1 = .ok (.istore_n 2, 1) := by decide +kernel
theorem dX6_beepOf_2 : decode cX6_beepOf 2 = .ok (.iconst 0, 1) := by decide +kernel
theorem dX6_beepOf_3 : decode cX6_beepOf 3 = .ok (.istore_n 3, 1) := by decide +kernel
theorem dX6_beepOf_4 : decode cX6_beepOf 4 = .ok (.iconst 0, 1) := by decide +kernel
theorem dX6_beepOf_5 : decode cX6_beepOf 5 = .ok (.istore 4, 2) := by decide +kernel
theorem dX6_beepOf_7 : decode cX6_beepOf 7 = .ok (.iload 4, 2) := by decide +kernel
theorem dX6_beepOf_9 : decode cX6_beepOf 9 = .ok (.aload_n 0, 1) := by decide +kernel
theorem dX6_beepOf_10 : decode cX6_beepOf 10 = .ok (.getfield 73, 3) := by decide +kernel
theorem dX6_beepOf_13 : decode cX6_beepOf 13 = .ok (.if_icmp .ge 63, 3) := by decide +kernel
theorem dX6_beepOf_16 : decode cX6_beepOf 16 = .ok (.aload_n 0, 1) := by decide +kernel
theorem dX6_beepOf_17 : decode cX6_beepOf 17 = .ok (.iload 4, 2) := by decide +kernel
theorem dX6_beepOf_19 : decode cX6_beepOf 19 = .ok (.invokevirtual 102, 3) := by decide +kernel
theorem dX6_beepOf_22 : decode cX6_beepOf 22 = .ok (.ifCond .eq 48, 3) := by decide +kernel
theorem dX6_beepOf_25 : decode cX6_beepOf 25 = .ok (.aload_n 0, 1) := by decide +kernel
theorem dX6_beepOf_26 : decode cX6_beepOf 26 = .ok (.getfield 26, 3) := by decide +kernel
theorem dX6_beepOf_29 : decode cX6_beepOf 29 = .ok (.iload 4, 2) := by decide +kernel
theorem dX6_beepOf_31 : decode cX6_beepOf 31 = .ok (.iaload, 1) := by decide +kernel
theorem dX6_beepOf_32 : decode cX6_beepOf 32 = .ok (.iload_n 1, 1) := by decide +kernel
theorem dX6_beepOf_33 : decode cX6_beepOf 33 = .ok (.if_icmp .ne 37, 3) := by decide +kernel
theorem dX6_beepOf_36 : decode cX6_beepOf 36 = .ok (.aload_n 0, 1) := by decide +kernel
theorem dX6_beepOf_37 : decode cX6_beepOf 37 = .ok (.iload 4, 2) := by decide +kernel
theorem dX6_beepOf_39 : decode cX6_beepOf 39 = .ok (.invokevirtual 254, 3) := by decide +kernel
theorem dX6_beepOf_42 : decode cX6_beepOf 42 = .ok (.ifCond .eq 28, 3) := by decide +kernel
theorem dX6_beepOf_45 : decode cX6_beepOf 45 = .ok (.iload_n 2, 1) := by decide +kernel
theorem dX6_beepOf_46 : decode cX6_beepOf 46 = .ok (.iconst (-1), 1) := by decide +kernel
theorem dX6_beepOf_47 : decode cX6_beepOf 47 = .ok (.if_icmp .eq 13, 3) := by decide +kernel
theorem dX6_beepOf_50 : decode cX6_beepOf 50 = .ok (.aload_n 0, 1) := by decide +kernel
theorem dX6_beepOf_51 : decode cX6_beepOf 51 = .ok (.iload 4, 2) := by decide +kernel
theorem dX6_beepOf_53 : decode cX6_beepOf 53 = .ok (.invokevirtual 115, 3) := by decide +kernel
theorem dX6_beepOf_56 : decode cX6_beepOf 56 = .ok (.iload_n 3, 1) := by decide +kernel
theorem dX6_beepOf_57 : decode cX6_beepOf 57 = .ok (.if_icmp .le 13, 3) := by decide +kernel
theorem dX6_beepOf_60 : decode cX6_beepOf 60 = .ok (.iload 4, 2) := by decide +kernel
theorem dX6_beepOf_62 : decode cX6_beepOf 62 = .ok (.istore_n 2, 1) := by decide +kernel
theorem dX6_beepOf_63 : decode cX6_beepOf 63 = .ok (.aload_n 0, 1) := by decide +kernel
theorem dX6_beepOf_64 : decode cX6_beepOf 64 = .ok (.iload 4, 2) := by decide +kernel
theorem dX6_beepOf_66 : decode cX6_beepOf 66 = .ok (.invokevirtual 115, 3) := by decide +kernel
theorem dX6_beepOf_69 : decode cX6_beepOf 69 = .ok (.istore_n 3, 1) := by decide +kernel
theorem dX6_beepOf_70 : decode cX6_beepOf 70 = .ok (.iinc 4 1, 3) := by decide +kernel
theorem dX6_beepOf_73 : decode cX6_beepOf 73 = .ok (.goto (-66), 3) := by decide +kernel
theorem dX6_beepOf_76 : decode cX6_beepOf 76 = .ok (.iload_n 2, 1) := by decide +kernel
theorem dX6_beepOf_77 : decode cX6_beepOf 77 = .ok (.ireturn, 1) := by decide +kernel
theorem dX6_beep_0 : decode cX6_beep 0 = .ok (.iload_n 1, 1) := by decide +kernel
theorem dX6_beep_1 : decode cX6_beep 1 = .ok (.invokestatic 87, 3) := by decide +kernel
theorem dX6_beep_4 : decode cX6_beep 4 = .ok (.ifCond .eq 11, 3) := by decide +kernel
theorem dX6_beep_7 : decode cX6_beep 7 = .ok (.aload_n 0, 1) := by decide +kernel
theorem dX6_beep_8 : decode cX6_beep 8 = .ok (.iload_n 1, 1) := by decide +kernel
theorem dX6_beep_9 : decode cX6_beep 9 = .ok (.invokevirtual 257, 3) := by decide +kernel
theorem dX6_beep_12 : decode cX6_beep 12 = .ok (.goto 5, 3) := by decide +kernel
theorem dX6_beep_15 : decode cX6_beep 15 = .ok (.bipush (-2), 2) := by decide +kernel
theorem dX6_beep_17 : decode cX6_beep 17 = .ok (.ireturn, 1) := by decide +kernel
theorem dX6_digs_0 : decode cX6_digs 0 = .ok (.aload_n 0, 1) := by decide +kernel
theorem dX6_digs_1 : decode cX6_digs 1 = .ok (.iload_n 1, 1) := by decide +kernel
theorem dX6_digs_2 : decode cX6_digs 2 = .ok (.invokevirtual 257, 3) := by decide +kernel
theorem dX6_digs_5 : decode cX6_digs 5 = .ok (.istore_n 2, 1) := by decide +kernel
theorem dX6_digs_6 : decode cX6_digs 6 = .ok (.iload_n 2, 1) := by decide +kernel
theorem dX6_digs_7 : decode cX6_digs 7 = .ok (.iconst (-1), 1) := by decide +kernel
theorem dX6_digs_8 : decode cX6_digs 8 = .ok (.if_icmp .eq 78, 3) := by decide +kernel
theorem dX6_digs_11 : decode cX6_digs 11 = .ok (.aload_n 0, 1) := by decide +kernel
theorem dX6_digs_12 : decode cX6_digs 12 = .ok (.getfield 29, 3) := by decide +kernel
theorem dX6_digs_15 : decode cX6_digs 15 = .ok (.iload_n 2, 1) := by decide +kernel
theorem dX6_digs_16 : decode cX6_digs 16 = .ok (.iaload, 1) := by decide +kernel
theorem dX6_digs_17 : decode cX6_digs 17 = .ok (.bipush 10, 2) := by decide +kernel
theorem dX6_digs_19 : decode cX6_digs 19 = .ok (.if_icmp .gt 67, 3) := by decide +kernel
theorem dX6_digs_22 : decode cX6_digs 22 = .ok (.aload_n 0, 1) := by decide +kernel
theorem dX6_digs_23 : decode cX6_digs 23 = .ok (.iconst 0, 1) := by decide +kernel
theorem dX6_digs_24 : decode cX6_digs 24 = .ok (.iload_n 2, 1) := by decide +kernel
theorem dX6_digs_25 : decode cX6_digs 25 = .ok (.aload_n 0, 1) := by decide +kernel
theorem dX6_digs_26 : decode cX6_digs 26 = .ok (.iload_n 2, 1) := by decide +kernel
theorem dX6_digs_27 : decode cX6_digs 27 = .ok (.invokevirtual 115, 3) := by decide +kernel
theorem dX6_digs_30 : decode cX6_digs 30 = .ok (.invokevirtual 248, 3) := by decide +kernel
theorem dX6_digs_33 : decode cX6_digs 33 = .ok (.ifCond .eq 53, 3) := by decide +kernel
theorem dX6_digs_36 : decode cX6_digs 36 = .ok (.aload_n 0, 1) := by decide +kernel
theorem dX6_digs_37 : decode cX6_digs 37 = .ok (.dup, 1) := by decide +kernel
theorem dX6_digs_38 : decode cX6_digs 38 = .ok (.getfield 260, 3) := by decide +kernel
theorem dX6_digs_41 : decode cX6_digs 41 = .ok (.iconst 1, 1) := by decide +kernel
theorem dX6_digs_42 : decode cX6_digs 42 = .ok (.iadd, 1) := by decide +kernel
theorem dX6_digs_43 : decode cX6_digs 43 = .ok (.putfield 260, 3) := by decide +kernel
theorem dX6_digs_46 : decode cX6_digs 46 = .ok (.aload_n 0, 1) := by decide +kernel
theorem dX6_digs_47 : decode cX6_digs 47 = .ok (.dup, 1) := by decide +kernel
theorem dX6_digs_48 : decode cX6_digs 48 = .ok (.getfield 263, 3) := by decide +kernel
theorem dX6_digs_51 : decode cX6_digs 51 = .ok (.aload_n 0, 1) := by decide +kernel
theorem dX6_digs_52 : decode cX6_digs 52 = .ok (.iload_n 2, 1) := by decide +kernel
theorem dX6_digs_53 : decode cX6_digs 53 = .ok (.aload_n 0, 1) := by decide +kernel
theorem dX6_digs_54 : decode cX6_digs 54 = .ok (.iload_n 2, 1) := by decide +kernel
theorem dX6_digs_55 : decode cX6_digs 55 = .ok (.invokevirtual 115, 3) := by decide +kernel
theorem dX6_digs_58 : decode cX6_digs 58 = .ok (.invokevirtual 122, 3) := by decide +kernel
theorem dX6_digs_61 : decode cX6_digs 61 = .ok (.iadd, 1) := by decide +kernel
theorem dX6_digs_62 : decode cX6_digs 62 = .ok (.putfield 263, 3) := by decide +kernel
theorem dX6_digs_65 : decode cX6_digs 65 = .ok (.aload_n 0, 1) := by decide +kernel
theorem dX6_digs_66 : decode cX6_digs 66 = .ok (.dup, 1) := by decide +kernel
theorem dX6_digs_67 : decode cX6_digs 67 = .ok (.getfield 80, 3) := by decide +kernel
theorem dX6_digs_70 : decode cX6_digs 70 = .ok (.iconst 1, 1) := by decide +kernel
theorem dX6_digs_71 : decode cX6_digs 71 = .ok (.iload_n 2, 1) := by decide +kernel
theorem dX6_digs_72 : decode cX6_digs 72 = .ok (.ishl, 1) := by decide +kernel
theorem dX6_digs_73 : decode cX6_digs 73 = .ok (.ior, 1) := by decide +kernel
theorem dX6_digs_74 : decode cX6_digs 74 = .ok (.putfield 80, 3) := by decide +kernel
theorem dX6_digs_77 : decode cX6_digs 77 = .ok (.aload_n 0, 1) := by decide +kernel
theorem dX6_digs_78 : decode cX6_digs 78 = .ok (.iload_n 1, 1) := by decide +kernel
theorem dX6_digs_79 : decode cX6_digs 79 = .ok (.invokevirtual 257, 3) := by decide +kernel
theorem dX6_digs_82 : decode cX6_digs 82 = .ok (.istore_n 2, 1) := by decide +kernel
theorem dX6_digs_83 : decode cX6_digs 83 = .ok (.goto (-77), 3) := by decide +kernel
theorem dX6_digs_86 : decode cX6_digs 86 = .ok (.return_, 1) := by decide +kernel
theorem dX6_walks_0 : decode cX6_walks 0 = .ok (.iconst 0, 1) := by decide +kernel
theorem dX6_walks_1 : decode cX6_walks 1 = .ok (.istore_n 2, 1) := by decide +kernel
theorem dX6_walks_2 : decode cX6_walks 2 = .ok (.iload_n 2, 1) := by decide +kernel
theorem dX6_walks_3 : decode cX6_walks 3 = .ok (.bipush 8, 2) := by decide +kernel
theorem dX6_walks_5 : decode cX6_walks 5 = .ok (.if_icmp .ge 32, 3) := by decide +kernel
theorem dX6_walks_8 : decode cX6_walks 8 = .ok (.aload_n 0, 1) := by decide +kernel
theorem dX6_walks_9 : decode cX6_walks 9 = .ok (.bipush 8, 2) := by decide +kernel
theorem dX6_walks_11 : decode cX6_walks 11 = .ok (.iload_n 1, 1) := by decide +kernel
theorem dX6_walks_12 : decode cX6_walks 12 = .ok (.imul, 1) := by decide +kernel
theorem dX6_walks_13 : decode cX6_walks 13 = .ok (.iload_n 1, 1) := by decide +kernel
theorem dX6_walks_14 : decode cX6_walks 14 = .ok (.iconst 2, 1) := by decide +kernel
theorem dX6_walks_15 : decode cX6_walks 15 = .ok (.irem, 1) := by decide +kernel
theorem dX6_walks_16 : decode cX6_walks 16 = .ok (.ifCond .ne 7, 3) := by decide +kernel
theorem dX6_walks_19 : decode cX6_walks 19 = .ok (.iload_n 2, 1) := by decide +kernel
theorem dX6_walks_20 : decode cX6_walks 20 = .ok (.goto 7, 3) := by decide +kernel
theorem dX6_walks_23 : decode cX6_walks 23 = .ok (.bipush 7, 2) := by decide +kernel
theorem dX6_walks_25 : decode cX6_walks 25 = .ok (.iload_n 2, 1) := by decide +kernel
theorem dX6_walks_26 : decode cX6_walks 26 = .ok (.isub, 1) := by decide +kernel
theorem dX6_walks_27 : decode cX6_walks 27 = .ok (.iadd, 1) := by decide +kernel
theorem dX6_walks_28 : decode cX6_walks 28 = .ok (.invokevirtual 266, 3) := by decide +kernel
theorem dX6_walks_31 : decode cX6_walks 31 = .ok (.iinc 2 1, 3) := by decide +kernel
theorem dX6_walks_34 : decode cX6_walks 34 = .ok (.goto (-32), 3) := by decide +kernel
theorem dX6_walks_37 : decode cX6_walks 37 = .ok (.return_, 1) := by decide +kernel
theorem dX6_walksAll_0 : decode cX6_walksAll 0 = .ok (.iconst 0, 1) := by decide +kernel
theorem dX6_walksAll_1 : decode cX6_walksAll 1 = .ok (.istore_n 2, 1) := by decide +kernel
theorem dX6_walksAll_2 : decode cX6_walksAll 2 = .ok (.iload_n 2, 1) := by decide +kernel
theorem dX6_walksAll_3 : decode cX6_walksAll 3 = .ok (.bipush 6, 2) := by decide +kernel
theorem dX6_walksAll_5 : decode cX6_walksAll 5 = .ok (.if_icmp .ge 23, 3) := by decide +kernel
theorem dX6_walksAll_8 : decode cX6_walksAll 8 = .ok (.iload_n 1, 1) := by decide +kernel
theorem dX6_walksAll_9 : decode cX6_walksAll 9 = .ok (.iload_n 2, 1) := by decide +kernel
theorem dX6_walksAll_10 : decode cX6_walksAll 10 = .ok (.ishr, 1) := by decide +kernel
theorem dX6_walksAll_11 : decode cX6_walksAll 11 = .ok (.iconst 1, 1) := by decide +kernel
theorem dX6_walksAll_12 : decode cX6_walksAll 12 = .ok (.iand, 1) := by decide +kernel
theorem dX6_walksAll_13 : decode cX6_walksAll 13 = .ok (.iconst 1, 1) := by decide +kernel
theorem dX6_walksAll_14 : decode cX6_walksAll 14 = .ok (.if_icmp .ne 8, 3) := by decide +kernel
theorem dX6_walksAll_17 : decode cX6_walksAll 17 = .ok (.aload_n 0, 1) := by decide +kernel
theorem dX6_walksAll_18 : decode cX6_walksAll 18 = .ok (.iload_n 2, 1) := by decide +kernel
theorem dX6_walksAll_19 : decode cX6_walksAll 19 = .ok (.invokevirtual 270, 3) := by decide +kernel
theorem dX6_walksAll_22 : decode cX6_walksAll 22 = .ok (.iinc 2 1, 3) := by decide +kernel
theorem dX6_walksAll_25 : decode cX6_walksAll 25 = .ok (.goto (-23), 3) := by decide +kernel
theorem dX6_walksAll_28 : decode cX6_walksAll 28 = .ok (.return_, 1) := by decide +kernel
theorem dX6_walk_0 : decode cX6_walk 0 = .ok (.iload_n 1, 1) := by decide +kernel
theorem dX6_walk_1 : decode cX6_walk 1 = .ok (.i2l, 1) := by decide +kernel
theorem dX6_walk_2 : decode cX6_walk 2 = .ok (.lconst 0, 1) := by decide +kernel
theorem dX6_walk_3 : decode cX6_walk 3 = .ok (.ldc2_w 85, 3) := by decide +kernel
theorem dX6_walk_6 : decode cX6_walk 6 = .ok (.invokestatic 76, 3) := by decide +kernel
theorem dX6_walk_9 : decode cX6_walk 9 = .ok (.ifCond .ne 6, 3) := by decide +kernel
theorem dX6_walk_12 : decode cX6_walk 12 = .ok (.bipush (-2), 2) := by decide +kernel
theorem dX6_walk_14 : decode cX6_walk 14 = .ok (.ireturn, 1) := by decide +kernel
theorem dX6_walk_15 : decode cX6_walk 15 = .ok (.aload_n 0, 1) := by decide +kernel
theorem dX6_walk_16 : decode cX6_walk 16 = .ok (.iconst 0, 1) := by decide +kernel
theorem dX6_walk_17 : decode cX6_walk 17 = .ok (.putfield 260, 3) := by decide +kernel
theorem dX6_walk_20 : decode cX6_walk 20 = .ok (.aload_n 0, 1) := by decide +kernel
theorem dX6_walk_21 : decode cX6_walk 21 = .ok (.iload_n 1, 1) := by decide +kernel
theorem dX6_walk_22 : decode cX6_walk 22 = .ok (.invokevirtual 270, 3) := by decide +kernel
theorem dX6_walk_25 : decode cX6_walk 25 = .ok (.aload_n 0, 1) := by decide +kernel
theorem dX6_walk_26 : decode cX6_walk 26 = .ok (.dup, 1) := by decide +kernel
theorem dX6_walk_27 : decode cX6_walk 27 = .ok (.getfield 273, 3) := by decide +kernel
theorem dX6_walk_30 : decode cX6_walk 30 = .ok (.iconst 1, 1) := by decide +kernel
theorem dX6_walk_31 : decode cX6_walk 31 = .ok (.iload_n 1, 1) := by decide +kernel
theorem dX6_walk_32 : decode cX6_walk 32 = .ok (.ishl, 1) := by decide +kernel
theorem dX6_walk_33 : decode cX6_walk 33 = .ok (.ior, 1) := by decide +kernel
theorem dX6_walk_34 : decode cX6_walk 34 = .ok (.putfield 273, 3) := by decide +kernel
theorem dX6_walk_37 : decode cX6_walk 37 = .ok (.aload_n 0, 1) := by decide +kernel
theorem dX6_walk_38 : decode cX6_walk 38 = .ok (.getfield 260, 3) := by decide +kernel
theorem dX6_walk_41 : decode cX6_walk 41 = .ok (.ireturn, 1) := by decide +kernel
theorem dX6_ploughs_0 : decode cX6_ploughs 0 = .ok (.iconst 0, 1) := by decide +kernel
theorem dX6_ploughs_1 : decode cX6_ploughs 1 = .ok (.istore_n 1, 1) := by decide +kernel
theorem dX6_ploughs_2 : decode cX6_ploughs 2 = .ok (.iload_n 1, 1) := by decide +kernel
theorem dX6_ploughs_3 : decode cX6_ploughs 3 = .ok (.aload_n 0, 1) := by decide +kernel
theorem dX6_ploughs_4 : decode cX6_ploughs 4 = .ok (.getfield 73, 3) := by decide +kernel
theorem dX6_ploughs_7 : decode cX6_ploughs 7 = .ok (.if_icmp .ge 128, 3) := by decide +kernel
theorem dX6_ploughs_10 : decode cX6_ploughs 10 = .ok (.aload_n 0, 1) := by decide +kernel
theorem dX6_ploughs_11 : decode cX6_ploughs 11 = .ok (.iload_n 1, 1) := by decide +kernel
theorem dX6_ploughs_12 : decode cX6_ploughs 12 = .ok (.invokevirtual 102, 3) := by decide +kernel
theorem dX6_ploughs_15 : decode cX6_ploughs 15 = .ok (.ifCond .eq 114, 3) := by decide +kernel
theorem dX6_ploughs_18 : decode cX6_ploughs 18 = .ok (.aload_n 0, 1) := by decide +kernel
theorem dX6_ploughs_19 : decode cX6_ploughs 19 = .ok (.getfield 23, 3) := by decide +kernel
theorem dX6_ploughs_22 : decode cX6_ploughs 22 = .ok (.iload_n 1, 1) := by decide +kernel
theorem dX6_ploughs_23 : decode cX6_ploughs 23 = .ok (.iaload, 1) := by decide +kernel
theorem dX6_ploughs_24 : decode cX6_ploughs 24 = .ok (.aload_n 0, 1) := by decide +kernel
theorem dX6_ploughs_25 : decode cX6_ploughs 25 = .ok (.getfield 32, 3) := by decide +kernel
theorem dX6_ploughs_28 : decode cX6_ploughs 28 = .ok (.iload_n 1, 1) := by decide +kernel
theorem dX6_ploughs_29 : decode cX6_ploughs 29 = .ok (.iaload, 1) := by decide +kernel
theorem dX6_ploughs_30 : decode cX6_ploughs 30 = .ok (.aload_n 0, 1) := by decide +kernel
theorem dX6_ploughs_31 : decode cX6_ploughs 31 = .ok (.getfield 29, 3) := by decide +kernel
theorem dX6_ploughs_34 : decode cX6_ploughs 34 = .ok (.iload_n 1, 1) := by decide +kernel
theorem dX6_ploughs_35 : decode cX6_ploughs 35 = .ok (.iaload, 1) := by decide +kernel
theorem dX6_ploughs_36 : decode cX6_ploughs 36 = .ok (.invokestatic 118, 3) := by decide +kernel
theorem dX6_ploughs_39 : decode cX6_ploughs 39 = .ok (.istore_n 2, 1) := by decide +kernel
theorem dX6_ploughs_40 : decode cX6_ploughs 40 = .ok (.aload_n 0, 1) := by decide +kernel
theorem dX6_ploughs_41 : decode cX6_ploughs 41 = .ok (.getfield 26, 3) := by decide +kernel
theorem dX6_ploughs_44 : decode cX6_ploughs 44 = .ok (.iload_n 1, 1) := by decide +kernel
theorem dX6_ploughs_45 : decode cX6_ploughs 45 = .ok (.iaload, 1) := by decide +kernel
theorem dX6_ploughs_46 : decode cX6_ploughs 46 = .ok (.bipush 8, 2) := by decide +kernel
theorem dX6_ploughs_48 : decode cX6_ploughs 48 = .ok (.irem, 1) := by decide +kernel
theorem dX6_ploughs_49 : decode cX6_ploughs 49 = .ok (.aload_n 0, 1) := by decide +kernel
theorem dX6_ploughs_50 : decode cX6_ploughs 50 = .ok (.getfield 276, 3) := by decide +kernel
theorem dX6_ploughs_53 : decode cX6_ploughs 53 = .ok (.iconst 2, 1) := by decide +kernel
theorem dX6_ploughs_54 : decode cX6_ploughs 54 = .ok (.irem, 1) := by decide +kernel
theorem dX6_ploughs_55 : decode cX6_ploughs 55 = .ok (.ifCond .ne 7, 3) := by decide +kernel
theorem dX6_ploughs_58 : decode cX6_ploughs 58 = .ok (.iload_n 2, 1) := by decide +kernel
theorem dX6_ploughs_59 : decode cX6_ploughs 59 = .ok (.goto 5, 3) := by decide +kernel
theorem dX6_ploughs_62 : decode cX6_ploughs 62 = .ok (.iload_n 2, 1) := by decide +kernel
theorem dX6_ploughs_63 : decode cX6_ploughs 63 = .ok (.ineg, 1) := by decide +kernel
theorem dX6_ploughs_64 : decode cX6_ploughs 64 = .ok (.iadd, 1) := by decide +kernel
theorem dX6_ploughs_65 : decode cX6_ploughs 65 = .ok (.istore_n 3, 1) := by decide +kernel
theorem dX6_ploughs_66 : decode cX6_ploughs 66 = .ok (.aload_n 0, 1) := by decide +kernel
theorem dX6_ploughs_67 : decode cX6_ploughs 67 = .ok (.getfield 26, 3) := by decide +kernel
theorem dX6_ploughs_70 : decode cX6_ploughs 70 = .ok (.iload_n 1, 1) := by decide +kernel
theorem dX6_ploughs_71 : decode cX6_ploughs 71 = .ok (.aload_n 0, 1) := by decide +kernel
theorem dX6_ploughs_72 : decode cX6_ploughs 72 = .ok (.getfield 26, 3) := by decide +kernel
theorem dX6_ploughs_75 : decode cX6_ploughs 75 = .ok (.iload_n 1, 1) := by decide +kernel
theorem dX6_ploughs_76 : decode cX6_ploughs 76 = .ok (.iaload, 1) := by decide +kernel
theorem dX6_ploughs_77 : decode cX6_ploughs 77 = .ok (.bipush 8, 2) := by decide +kernel
theorem dX6_ploughs_79 : decode cX6_ploughs 79 = .ok (.idiv, 1) := by decide +kernel
theorem dX6_ploughs_80 : decode cX6_ploughs 80 = .ok (.bipush 8, 2) := by decide +kernel
theorem dX6_ploughs_82 : decode cX6_ploughs 82 = .ok (.imul, 1) := by decide +kernel
theorem dX6_ploughs_83 : decode cX6_ploughs 83 = .ok (.iload_n 3, 1) := by decide +kernel
theorem dX6_ploughs_84 : decode cX6_ploughs 84 = .ok (.iconst 0, 1) := by decide +kernel
theorem dX6_ploughs_85 : decode cX6_ploughs 85 = .ok (.bipush 7, 2) := by decide +kernel
theorem dX6_ploughs_87 : decode cX6_ploughs 87 = .ok (.invokestatic 251, 3) := by decide +kernel
theorem dX6_ploughs_90 : decode cX6_ploughs 90 = .ok (.iadd, 1) := by decide +kernel
theorem dX6_ploughs_91 : decode cX6_ploughs 91 = .ok (.iastore, 1) := by decide +kernel
theorem dX6_ploughs_92 : decode cX6_ploughs 92 = .ok (.aload_n 0, 1) := by decide +kernel
theorem dX6_ploughs_93 : decode cX6_ploughs 93 = .ok (.getfield 29, 3) := by decide +kernel
theorem dX6_ploughs_96 : decode cX6_ploughs 96 = .ok (.iload_n 1, 1) := by decide +kernel
theorem dX6_ploughs_97 : decode cX6_ploughs 97 = .ok (.aload_n 0, 1) := by decide +kernel
theorem dX6_ploughs_98 : decode cX6_ploughs 98 = .ok (.getfield 29, 3) := by decide +kernel
theorem dX6_ploughs_101 : decode cX6_ploughs 101 = .ok (.iload_n 1, 1) := by decide +kernel
theorem dX6_ploughs_102 : decode cX6_ploughs 102 = .ok (.iaload, 1) := by decide +kernel
theorem dX6_ploughs_103 : decode cX6_ploughs 103 = .ok (.bipush 12, 2) := by decide +kernel
theorem dX6_ploughs_105 : decode cX6_ploughs 105 = .ok (.if_icmp .gt 15, 3) := by decide +kernel
theorem dX6_ploughs_108 : decode cX6_ploughs 108 = .ok (.bipush 12, 2) := by decide +kernel
theorem dX6_ploughs_110 : decode cX6_ploughs 110 = .ok (.aload_n 0, 1) := by decide +kernel
theorem dX6_ploughs_111 : decode cX6_ploughs 111 = .ok (.getfield 29, 3) := by decide +kernel
theorem dX6_ploughs_114 : decode cX6_ploughs 114 = .ok (.iload_n 1, 1) := by decide +kernel
theorem dX6_ploughs_115 : decode cX6_ploughs 115 = .ok (.iaload, 1) := by decide +kernel
theorem dX6_ploughs_116 : decode cX6_ploughs 116 = .ok (.isub, 1) := by decide +kernel
theorem dX6_ploughs_117 : decode cX6_ploughs 117 = .ok (.goto 11, 3) := by decide +kernel
theorem dX6_ploughs_120 : decode cX6_ploughs 120 = .ok (.aload_n 0, 1) := by decide +kernel
theorem dX6_ploughs_121 : decode cX6_ploughs 121 = .ok (.getfield 29, 3) := by decide +kernel
theorem dX6_ploughs_124 : decode cX6_ploughs 124 = .ok (.iload_n 1, 1) := by decide +kernel
theorem dX6_ploughs_125 : decode cX6_ploughs 125 = .ok (.iaload, 1) := by decide +kernel
theorem dX6_ploughs_126 : decode cX6_ploughs 126 = .ok (.iconst 1, 1) := by decide +kernel
theorem dX6_ploughs_127 : decode cX6_ploughs 127 = .ok (.isub, 1) := by decide +kernel
theorem dX6_ploughs_128 : decode cX6_ploughs 128 = .ok (.iastore, 1) := by decide +kernel
theorem dX6_ploughs_129 : decode cX6_ploughs 129 = .ok (.iinc 1 1, 3) := by decide +kernel
theorem dX6_ploughs_132 : decode cX6_ploughs 132 = .ok (.goto (-130), 3) := by decide +kernel
theorem dX6_ploughs_135 : decode cX6_ploughs 135 = .ok (.aload_n 0, 1) := by decide +kernel
theorem dX6_ploughs_136 : decode cX6_ploughs 136 = .ok (.aload_n 0, 1) := by decide +kernel
theorem dX6_ploughs_137 : decode cX6_ploughs 137 = .ok (.getfield 276, 3) := by decide +kernel
theorem dX6_ploughs_140 : decode cX6_ploughs 140 = .ok (.bipush 99, 2) := by decide +kernel
theorem dX6_ploughs_142 : decode cX6_ploughs 142 = .ok (.if_icmp .ge 12, 3) := by decide +kernel
theorem dX6_ploughs_145 : decode cX6_ploughs 145 = .ok (.aload_n 0, 1) := by decide +kernel
theorem dX6_ploughs_146 : decode cX6_ploughs 146 = .ok (.getfield 276, 3) := by decide +kernel
theorem dX6_ploughs_149 : decode cX6_ploughs 149 = .ok (.iconst 1, 1) := by decide +kernel
theorem dX6_ploughs_150 : decode cX6_ploughs 150 = .ok (.iadd, 1) := by decide +kernel
theorem dX6_ploughs_151 : decode cX6_ploughs 151 = .ok (.goto 5, 3) := by decide +kernel
theorem dX6_ploughs_154 : decode cX6_ploughs 154 = .ok (.bipush 99, 2) := by decide +kernel
theorem dX6_ploughs_156 : decode cX6_ploughs 156 = .ok (.putfield 276, 3) := by decide +kernel
theorem dX6_ploughs_159 : decode cX6_ploughs 159 = .ok (.return_, 1) := by decide +kernel
theorem dX6_plough_0 : decode cX6_plough 0 = .ok (.aload_n 0, 1) := by decide +kernel
theorem dX6_plough_1 : decode cX6_plough 1 = .ok (.invokevirtual 279, 3) := by decide +kernel
theorem dX6_plough_4 : decode cX6_plough 4 = .ok (.aload_n 0, 1) := by decide +kernel
theorem dX6_plough_5 : decode cX6_plough 5 = .ok (.getfield 276, 3) := by decide +kernel
theorem dX6_plough_8 : decode cX6_plough 8 = .ok (.ireturn, 1) := by decide +kernel
theorem dX6_laysAside_0 : decode cX6_laysAside 0 = .ok (.iconst 0, 1) := by decide +kernel
theorem dX6_laysAside_1 : decode cX6_laysAside 1 = .ok (.istore_n 1, 1) := by decide +kernel
theorem dX6_laysAside_2 : decode cX6_laysAside 2 = .ok (.iload_n 1, 1) := by decide +kernel
theorem dX6_laysAside_3 : decode cX6_laysAside 3 = .ok (.bipush 12, 2) := by decide +kernel
theorem dX6_laysAside_5 : decode cX6_laysAside 5 = .ok (.if_icmp .ge 33, 3) := by decide +kernel
theorem dX6_laysAside_8 : decode cX6_laysAside 8 = .ok (.aload_n 0, 1) := by decide +kernel
theorem dX6_laysAside_9 : decode cX6_laysAside 9 = .ok (.getfield 38, 3) := by decide +kernel
theorem dX6_laysAside_12 : decode cX6_laysAside 12 = .ok (.iload_n 1, 1) := by decide +kernel
theorem dX6_laysAside_13 : decode cX6_laysAside 13 = .ok (.aload_n 0, 1) := by decide +kernel
theorem dX6_laysAside_14 : decode cX6_laysAside 14 = .ok (.getfield 26, 3) := by decide +kernel
theorem dX6_laysAside_17 : decode cX6_laysAside 17 = .ok (.iload_n 1, 1) := by decide +kernel
theorem dX6_laysAside_18 : decode cX6_laysAside 18 = .ok (.iaload, 1) := by decide +kernel
theorem dX6_laysAside_19 : decode cX6_laysAside 19 = .ok (.iastore, 1) := by decide +kernel
theorem dX6_laysAside_20 : decode cX6_laysAside 20 = .ok (.aload_n 0, 1) := by decide +kernel
theorem dX6_laysAside_21 : decode cX6_laysAside 21 = .ok (.getfield 41, 3) := by decide +kernel
theorem dX6_laysAside_24 : decode cX6_laysAside 24 = .ok (.iload_n 1, 1) := by decide +kernel
theorem dX6_laysAside_25 : decode cX6_laysAside 25 = .ok (.aload_n 0, 1) := by decide +kernel
theorem dX6_laysAside_26 : decode cX6_laysAside 26 = .ok (.getfield 29, 3) := by decide +kernel
theorem dX6_laysAside_29 : decode cX6_laysAside 29 = .ok (.iload_n 1, 1) := by decide +kernel
theorem dX6_laysAside_30 : decode cX6_laysAside 30 = .ok (.iaload, 1) := by decide +kernel
theorem dX6_laysAside_31 : decode cX6_laysAside 31 = .ok (.iastore, 1) := by decide +kernel
theorem dX6_laysAside_32 : decode cX6_laysAside 32 = .ok (.iinc 1 1, 3) := by decide +kernel
theorem dX6_laysAside_35 : decode cX6_laysAside 35 = .ok (.goto (-33), 3) := by decide +kernel
theorem dX6_laysAside_38 : decode cX6_laysAside 38 = .ok (.aload_n 0, 1) := by decide +kernel
theorem dX6_laysAside_39 : decode cX6_laysAside 39 = .ok (.aload_n 0, 1) := by decide +kernel
theorem dX6_laysAside_40 : decode cX6_laysAside 40 = .ok (.getfield 80, 3) := by decide +kernel
theorem dX6_laysAside_43 : decode cX6_laysAside 43 = .ok (.putfield 282, 3) := by decide +kernel
theorem dX6_laysAside_46 : decode cX6_laysAside 46 = .ok (.aload_n 0, 1) := by decide +kernel
theorem dX6_laysAside_47 : decode cX6_laysAside 47 = .ok (.aload_n 0, 1) := by decide +kernel
theorem dX6_laysAside_48 : decode cX6_laysAside 48 = .ok (.getfield 35, 3) := by decide +kernel
theorem dX6_laysAside_51 : decode cX6_laysAside 51 = .ok (.putfield 285, 3) := by decide +kernel
theorem dX6_laysAside_54 : decode cX6_laysAside 54 = .ok (.aload_n 0, 1) := by decide +kernel
theorem dX6_laysAside_55 : decode cX6_laysAside 55 = .ok (.aload_n 0, 1) := by decide +kernel
theorem dX6_laysAside_56 : decode cX6_laysAside 56 = .ok (.getfield 276, 3) := by decide +kernel
theorem dX6_laysAside_59 : decode cX6_laysAside 59 = .ok (.putfield 288, 3) := by decide +kernel
theorem dX6_laysAside_62 : decode cX6_laysAside 62 = .ok (.aload_n 0, 1) := by decide +kernel
theorem dX6_laysAside_63 : decode cX6_laysAside 63 = .ok (.iconst 0, 1) := by decide +kernel
theorem dX6_laysAside_64 : decode cX6_laysAside 64 = .ok (.putfield 260, 3) := by decide +kernel
theorem dX6_laysAside_67 : decode cX6_laysAside 67 = .ok (.aload_n 0, 1) := by decide +kernel
theorem dX6_laysAside_68 : decode cX6_laysAside 68 = .ok (.iconst 0, 1) := by decide +kernel
theorem dX6_laysAside_69 : decode cX6_laysAside 69 = .ok (.putfield 263, 3) := by decide +kernel
theorem dX6_laysAside_72 : decode cX6_laysAside 72 = .ok (.return_, 1) := by decide +kernel
theorem dX6_laysBack_0 : decode cX6_laysBack 0 = .ok (.iconst 0, 1) := by decide +kernel
theorem dX6_laysBack_1 : decode cX6_laysBack 1 = .ok (.istore_n 1, 1) := by decide +kernel
theorem dX6_laysBack_2 : decode cX6_laysBack 2 = .ok (.iload_n 1, 1) := by decide +kernel
theorem dX6_laysBack_3 : decode cX6_laysBack 3 = .ok (.bipush 12, 2) := by decide +kernel
theorem dX6_laysBack_5 : decode cX6_laysBack 5 = .ok (.if_icmp .ge 33, 3) := by decide +kernel
theorem dX6_laysBack_8 : decode cX6_laysBack 8 = .ok (.aload_n 0, 1) := by decide +kernel
theorem dX6_laysBack_9 : decode cX6_laysBack 9 = .ok (.getfield 26, 3) := by decide +kernel
theorem dX6_laysBack_12 : decode cX6_laysBack 12 = .ok (.iload_n 1, 1) := by decide +kernel
theorem dX6_laysBack_13 : decode cX6_laysBack 13 = .ok (.aload_n 0, 1) := by decide +kernel
theorem dX6_laysBack_14 : decode cX6_laysBack 14 = .ok (.getfield 38, 3) := by decide +kernel
theorem dX6_laysBack_17 : decode cX6_laysBack 17 = .ok (.iload_n 1, 1) := by decide +kernel
theorem dX6_laysBack_18 : decode cX6_laysBack 18 = .ok (.iaload, 1) := by decide +kernel
theorem dX6_laysBack_19 : decode cX6_laysBack 19 = .ok (.iastore, 1) := by decide +kernel
theorem dX6_laysBack_20 : decode cX6_laysBack 20 = .ok (.aload_n 0, 1) := by decide +kernel
theorem dX6_laysBack_21 : decode cX6_laysBack 21 = .ok (.getfield 29, 3) := by decide +kernel
theorem dX6_laysBack_24 : decode cX6_laysBack 24 = .ok (.iload_n 1, 1) := by decide +kernel
theorem dX6_laysBack_25 : decode cX6_laysBack 25 = .ok (.aload_n 0, 1) := by decide +kernel
theorem dX6_laysBack_26 : decode cX6_laysBack 26 = .ok (.getfield 41, 3) := by decide +kernel
theorem dX6_laysBack_29 : decode cX6_laysBack 29 = .ok (.iload_n 1, 1) := by decide +kernel
theorem dX6_laysBack_30 : decode cX6_laysBack 30 = .ok (.iaload, 1) := by decide +kernel
theorem dX6_laysBack_31 : decode cX6_laysBack 31 = .ok (.iastore, 1) := by decide +kernel
theorem dX6_laysBack_32 : decode cX6_laysBack 32 = .ok (.iinc 1 1, 3) := by decide +kernel
theorem dX6_laysBack_35 : decode cX6_laysBack 35 = .ok (.goto (-33), 3) := by decide +kernel
theorem dX6_laysBack_38 : decode cX6_laysBack 38 = .ok (.aload_n 0, 1) := by decide +kernel
theorem dX6_laysBack_39 : decode cX6_laysBack 39 = .ok (.aload_n 0, 1) := by decide +kernel
theorem dX6_laysBack_40 : decode cX6_laysBack 40 = .ok (.getfield 282, 3) := by decide +kernel
theorem dX6_laysBack_43 : decode cX6_laysBack 43 = .ok (.putfield 80, 3) := by decide +kernel
theorem dX6_laysBack_46 : decode cX6_laysBack 46 = .ok (.aload_n 0, 1) := by decide +kernel
theorem dX6_laysBack_47 : decode cX6_laysBack 47 = .ok (.aload_n 0, 1) := by decide +kernel
theorem dX6_laysBack_48 : decode cX6_laysBack 48 = .ok (.getfield 285, 3) := by decide +kernel
theorem dX6_laysBack_51 : decode cX6_laysBack 51 = .ok (.putfield 35, 3) := by decide +kernel
theorem dX6_laysBack_54 : decode cX6_laysBack 54 = .ok (.aload_n 0, 1) := by decide +kernel
theorem dX6_laysBack_55 : decode cX6_laysBack 55 = .ok (.aload_n 0, 1) := by decide +kernel
theorem dX6_laysBack_56 : decode cX6_laysBack 56 = .ok (.getfield 288, 3) := by decide +kernel
theorem dX6_laysBack_59 : decode cX6_laysBack 59 = .ok (.putfield 276, 3) := by decide +kernel
theorem dX6_laysBack_62 : decode cX6_laysBack 62 = .ok (.aload_n 0, 1) := by decide +kernel
theorem dX6_laysBack_63 : decode cX6_laysBack 63 = .ok (.iconst 0, 1) := by decide +kernel
theorem dX6_laysBack_64 : decode cX6_laysBack 64 = .ok (.putfield 260, 3) := by decide +kernel
theorem dX6_laysBack_67 : decode cX6_laysBack 67 = .ok (.aload_n 0, 1) := by decide +kernel
theorem dX6_laysBack_68 : decode cX6_laysBack 68 = .ok (.iconst 0, 1) := by decide +kernel
theorem dX6_laysBack_69 : decode cX6_laysBack 69 = .ok (.putfield 263, 3) := by decide +kernel
theorem dX6_laysBack_72 : decode cX6_laysBack 72 = .ok (.return_, 1) := by decide +kernel
theorem dX6_found_0 : decode cX6_found 0 = .ok (.iload_n 1, 1) := by decide +kernel
theorem dX6_found_1 : decode cX6_found 1 = .ok (.i2l, 1) := by decide +kernel
theorem dX6_found_2 : decode cX6_found 2 = .ok (.lconst 0, 1) := by decide +kernel
theorem dX6_found_3 : decode cX6_found 3 = .ok (.ldc2_w 291, 3) := by decide +kernel
theorem dX6_found_6 : decode cX6_found 6 = .ok (.invokestatic 76, 3) := by decide +kernel
theorem dX6_found_9 : decode cX6_found 9 = .ok (.ifCond .eq 13, 3) := by decide +kernel
theorem dX6_found_12 : decode cX6_found 12 = .ok (.iload_n 2, 1) := by decide +kernel
theorem dX6_found_13 : decode cX6_found 13 = .ok (.i2l, 1) := by decide +kernel
theorem dX6_found_14 : decode cX6_found 14 = .ok (.lconst 0, 1) := by decide +kernel
theorem dX6_found_15 : decode cX6_found 15 = .ok (.lconst 1, 1) := by decide +kernel
theorem dX6_found_16 : decode cX6_found 16 = .ok (.invokestatic 76, 3) := by decide +kernel
theorem dX6_found_19 : decode cX6_found 19 = .ok (.ifCond .ne 6, 3) := by decide +kernel
theorem dX6_found_22 : decode cX6_found 22 = .ok (.bipush (-2), 2) := by decide +kernel
theorem dX6_found_24 : decode cX6_found 24 = .ok (.ireturn, 1) := by decide +kernel
theorem dX6_found_25 : decode cX6_found 25 = .ok (.aload_n 0, 1) := by decide +kernel
theorem dX6_found_26 : decode cX6_found 26 = .ok (.invokevirtual 293, 3) := by decide +kernel
theorem dX6_found_29 : decode cX6_found 29 = .ok (.aload_n 0, 1) := by decide +kernel
theorem dX6_found_30 : decode cX6_found 30 = .ok (.iload_n 1, 1) := by decide +kernel
theorem dX6_found_31 : decode cX6_found 31 = .ok (.invokevirtual 296, 3) := by decide +kernel
end
section
theorem dX6_found_34 : decode cX6_found 34 = .ok (.iload_n 2, 1) := by decide +kernel
theorem dX6_found_35 : decode cX6_found 35 = .ok (.ifCond .ne 10, 3) := by decide +kernel
theorem dX6_found_38 : decode cX6_found 38 = .ok (.aload_n 0, 1) := by decide +kernel
theorem dX6_found_39 : decode cX6_found 39 = .ok (.getfield 260, 3) := by decide +kernel
theorem dX6_found_42 : decode cX6_found 42 = .ok (.goto 7, 3) := by decide +kernel
theorem dX6_found_45 : decode cX6_found 45 = .ok (.aload_n 0, 1) := by decide +kernel
theorem dX6_found_46 : decode cX6_found 46 = .ok (.getfield 263, 3) := by decide +kernel
theorem dX6_found_49 : decode cX6_found 49 = .ok (.istore_n 3, 1) := by decide +kernel
theorem dX6_found_50 : decode cX6_found 50 = .ok (.aload_n 0, 1) := by decide +kernel
theorem dX6_found_51 : decode cX6_found 51 = .ok (.invokevirtual 299, 3) := by decide +kernel
theorem dX6_found_54 : decode cX6_found 54 = .ok (.iload_n 3, 1) := by decide +kernel
theorem dX6_found_55 : decode cX6_found 55 = .ok (.ireturn, 1) := by decide +kernel
theorem dX6_years_0 : decode cX6_years 0 = .ok (.iload_n 1, 1) := by decide +kernel
theorem dX6_years_1 : decode cX6_years 1 = .ok (.i2l, 1) := by decide +kernel
theorem dX6_years_2 : decode cX6_years 2 = .ok (.lconst 0, 1) := by decide +kernel
theorem dX6_years_3 : decode cX6_years 3 = .ok (.ldc2_w 98, 3) := by decide +kernel
theorem dX6_years_6 : decode cX6_years 6 = .ok (.invokestatic 76, 3) := by decide +kernel
theorem dX6_years_9 : decode cX6_years 9 = .ok (.ifCond .ne 6, 3) := by decide +kernel
theorem dX6_years_12 : decode cX6_years 12 = .ok (.bipush (-2), 2) := by decide +kernel
theorem dX6_years_14 : decode cX6_years 14 = .ok (.ireturn, 1) := by decide +kernel
theorem dX6_years_15 : decode cX6_years 15 = .ok (.aload_n 0, 1) := by decide +kernel
theorem dX6_years_16 : decode cX6_years 16 = .ok (.invokevirtual 293, 3) := by decide +kernel
theorem dX6_years_19 : decode cX6_years 19 = .ok (.iconst 0, 1) := by decide +kernel
theorem dX6_years_20 : decode cX6_years 20 = .ok (.istore_n 2, 1) := by decide +kernel
theorem dX6_years_21 : decode cX6_years 21 = .ok (.iload_n 2, 1) := by decide +kernel
theorem dX6_years_22 : decode cX6_years 22 = .ok (.iload_n 1, 1) := by decide +kernel
theorem dX6_years_23 : decode cX6_years 23 = .ok (.if_icmp .ge 19, 3) := by decide +kernel
theorem dX6_years_26 : decode cX6_years 26 = .ok (.aload_n 0, 1) := by decide +kernel
theorem dX6_years_27 : decode cX6_years 27 = .ok (.bipush 63, 2) := by decide +kernel
theorem dX6_years_29 : decode cX6_years 29 = .ok (.invokevirtual 296, 3) := by decide +kernel
theorem dX6_years_32 : decode cX6_years 32 = .ok (.aload_n 0, 1) := by decide +kernel
theorem dX6_years_33 : decode cX6_years 33 = .ok (.invokevirtual 279, 3) := by decide +kernel
theorem dX6_years_36 : decode cX6_years 36 = .ok (.iinc 2 1, 3) := by decide +kernel
theorem dX6_years_39 : decode cX6_years 39 = .ok (.goto (-18), 3) := by decide +kernel
theorem dX6_years_42 : decode cX6_years 42 = .ok (.aload_n 0, 1) := by decide +kernel
theorem dX6_years_43 : decode cX6_years 43 = .ok (.getfield 260, 3) := by decide +kernel
theorem dX6_years_46 : decode cX6_years 46 = .ok (.istore_n 2, 1) := by decide +kernel
theorem dX6_years_47 : decode cX6_years 47 = .ok (.aload_n 0, 1) := by decide +kernel
theorem dX6_years_48 : decode cX6_years 48 = .ok (.invokevirtual 299, 3) := by decide +kernel
theorem dX6_years_51 : decode cX6_years 51 = .ok (.iload_n 2, 1) := by decide +kernel
theorem dX6_years_52 : decode cX6_years 52 = .ok (.ireturn, 1) := by decide +kernel
theorem dX6_soonest_0 : decode cX6_soonest 0 = .ok (.iload_n 1, 1) := by decide +kernel
theorem dX6_soonest_1 : decode cX6_soonest 1 = .ok (.i2l, 1) := by decide +kernel
theorem dX6_soonest_2 : decode cX6_soonest 2 = .ok (.lconst 0, 1) := by decide +kernel
theorem dX6_soonest_3 : decode cX6_soonest 3 = .ok (.lconst 1, 1) := by decide +kernel
theorem dX6_soonest_4 : decode cX6_soonest 4 = .ok (.invokestatic 76, 3) := by decide +kernel
theorem dX6_soonest_7 : decode cX6_soonest 7 = .ok (.ifCond .ne 6, 3) := by decide +kernel
theorem dX6_soonest_10 : decode cX6_soonest 10 = .ok (.bipush (-2), 2) := by decide +kernel
theorem dX6_soonest_12 : decode cX6_soonest 12 = .ok (.ireturn, 1) := by decide +kernel
theorem dX6_soonest_13 : decode cX6_soonest 13 = .ok (.aload_n 0, 1) := by decide +kernel
theorem dX6_soonest_14 : decode cX6_soonest 14 = .ok (.invokevirtual 293, 3) := by decide +kernel
theorem dX6_soonest_17 : decode cX6_soonest 17 = .ok (.iconst 0, 1) := by decide +kernel
theorem dX6_soonest_18 : decode cX6_soonest 18 = .ok (.istore_n 2, 1) := by decide +kernel
theorem dX6_soonest_19 : decode cX6_soonest 19 = .ok (.iconst (-1), 1) := by decide +kernel
theorem dX6_soonest_20 : decode cX6_soonest 20 = .ok (.istore_n 3, 1) := by decide +kernel
theorem dX6_soonest_21 : decode cX6_soonest 21 = .ok (.iconst 0, 1) := by decide +kernel
theorem dX6_soonest_22 : decode cX6_soonest 22 = .ok (.istore 4, 2) := by decide +kernel
theorem dX6_soonest_24 : decode cX6_soonest 24 = .ok (.iload 4, 2) := by decide +kernel
theorem dX6_soonest_26 : decode cX6_soonest 26 = .ok (.bipush 20, 2) := by decide +kernel
theorem dX6_soonest_28 : decode cX6_soonest 28 = .ok (.if_icmp .gt 57, 3) := by decide +kernel
theorem dX6_soonest_31 : decode cX6_soonest 31 = .ok (.iconst 0, 1) := by decide +kernel
theorem dX6_soonest_32 : decode cX6_soonest 32 = .ok (.istore 5, 2) := by decide +kernel
theorem dX6_soonest_34 : decode cX6_soonest 34 = .ok (.iload 5, 2) := by decide +kernel
theorem dX6_soonest_36 : decode cX6_soonest 36 = .ok (.iload 4, 2) := by decide +kernel
theorem dX6_soonest_38 : decode cX6_soonest 38 = .ok (.if_icmp .ge 13, 3) := by decide +kernel
theorem dX6_soonest_41 : decode cX6_soonest 41 = .ok (.aload_n 0, 1) := by decide +kernel
theorem dX6_soonest_42 : decode cX6_soonest 42 = .ok (.invokevirtual 279, 3) := by decide +kernel
theorem dX6_soonest_45 : decode cX6_soonest 45 = .ok (.iinc 5 1, 3) := by decide +kernel
theorem dX6_soonest_48 : decode cX6_soonest 48 = .ok (.goto (-14), 3) := by decide +kernel
theorem dX6_soonest_51 : decode cX6_soonest 51 = .ok (.aload_n 0, 1) := by decide +kernel
theorem dX6_soonest_52 : decode cX6_soonest 52 = .ok (.bipush 63, 2) := by decide +kernel
theorem dX6_soonest_54 : decode cX6_soonest 54 = .ok (.invokevirtual 296, 3) := by decide +kernel
theorem dX6_soonest_57 : decode cX6_soonest 57 = .ok (.aload_n 0, 1) := by decide +kernel
theorem dX6_soonest_58 : decode cX6_soonest 58 = .ok (.getfield 260, 3) := by decide +kernel
theorem dX6_soonest_61 : decode cX6_soonest 61 = .ok (.istore 5, 2) := by decide +kernel
theorem dX6_soonest_63 : decode cX6_soonest 63 = .ok (.aload_n 0, 1) := by decide +kernel
theorem dX6_soonest_64 : decode cX6_soonest 64 = .ok (.invokevirtual 299, 3) := by decide +kernel
theorem dX6_soonest_67 : decode cX6_soonest 67 = .ok (.iload 5, 2) := by decide +kernel
theorem dX6_soonest_69 : decode cX6_soonest 69 = .ok (.iload_n 3, 1) := by decide +kernel
theorem dX6_soonest_70 : decode cX6_soonest 70 = .ok (.if_icmp .le 9, 3) := by decide +kernel
theorem dX6_soonest_73 : decode cX6_soonest 73 = .ok (.iload 4, 2) := by decide +kernel
theorem dX6_soonest_75 : decode cX6_soonest 75 = .ok (.istore_n 2, 1) := by decide +kernel
theorem dX6_soonest_76 : decode cX6_soonest 76 = .ok (.iload 5, 2) := by decide +kernel
theorem dX6_soonest_78 : decode cX6_soonest 78 = .ok (.istore_n 3, 1) := by decide +kernel
theorem dX6_soonest_79 : decode cX6_soonest 79 = .ok (.iinc 4 1, 3) := by decide +kernel
theorem dX6_soonest_82 : decode cX6_soonest 82 = .ok (.goto (-58), 3) := by decide +kernel
theorem dX6_soonest_85 : decode cX6_soonest 85 = .ok (.iload_n 1, 1) := by decide +kernel
theorem dX6_soonest_86 : decode cX6_soonest 86 = .ok (.ifCond .ne 7, 3) := by decide +kernel
theorem dX6_soonest_89 : decode cX6_soonest 89 = .ok (.iload_n 2, 1) := by decide +kernel
theorem dX6_soonest_90 : decode cX6_soonest 90 = .ok (.goto 4, 3) := by decide +kernel
theorem dX6_soonest_93 : decode cX6_soonest 93 = .ok (.iload_n 3, 1) := by decide +kernel
theorem dX6_soonest_94 : decode cX6_soonest 94 = .ok (.ireturn, 1) := by decide +kernel
theorem dX6_strips_0 : decode cX6_strips 0 = .ok (.iload_n 1, 1) := by decide +kernel
theorem dX6_strips_1 : decode cX6_strips 1 = .ok (.i2l, 1) := by decide +kernel
theorem dX6_strips_2 : decode cX6_strips 2 = .ok (.lconst 0, 1) := by decide +kernel
theorem dX6_strips_3 : decode cX6_strips 3 = .ok (.ldc2_w 302, 3) := by decide +kernel
theorem dX6_strips_6 : decode cX6_strips 6 = .ok (.invokestatic 76, 3) := by decide +kernel
theorem dX6_strips_9 : decode cX6_strips 9 = .ok (.ifCond .eq 13, 3) := by decide +kernel
theorem dX6_strips_12 : decode cX6_strips 12 = .ok (.iload_n 2, 1) := by decide +kernel
theorem dX6_strips_13 : decode cX6_strips 13 = .ok (.i2l, 1) := by decide +kernel
theorem dX6_strips_14 : decode cX6_strips 14 = .ok (.lconst 0, 1) := by decide +kernel
theorem dX6_strips_15 : decode cX6_strips 15 = .ok (.lconst 1, 1) := by decide +kernel
theorem dX6_strips_16 : decode cX6_strips 16 = .ok (.invokestatic 76, 3) := by decide +kernel
theorem dX6_strips_19 : decode cX6_strips 19 = .ok (.ifCond .ne 6, 3) := by decide +kernel
theorem dX6_strips_22 : decode cX6_strips 22 = .ok (.bipush (-2), 2) := by decide +kernel
theorem dX6_strips_24 : decode cX6_strips 24 = .ok (.ireturn, 1) := by decide +kernel
theorem dX6_strips_25 : decode cX6_strips 25 = .ok (.aload_n 0, 1) := by decide +kernel
theorem dX6_strips_26 : decode cX6_strips 26 = .ok (.invokevirtual 293, 3) := by decide +kernel
theorem dX6_strips_29 : decode cX6_strips 29 = .ok (.iconst 0, 1) := by decide +kernel
theorem dX6_strips_30 : decode cX6_strips 30 = .ok (.istore_n 3, 1) := by decide +kernel
theorem dX6_strips_31 : decode cX6_strips 31 = .ok (.iconst (-1), 1) := by decide +kernel
theorem dX6_strips_32 : decode cX6_strips 32 = .ok (.istore 4, 2) := by decide +kernel
theorem dX6_strips_34 : decode cX6_strips 34 = .ok (.iconst 0, 1) := by decide +kernel
theorem dX6_strips_35 : decode cX6_strips 35 = .ok (.istore 5, 2) := by decide +kernel
theorem dX6_strips_37 : decode cX6_strips 37 = .ok (.iload 5, 2) := by decide +kernel
theorem dX6_strips_39 : decode cX6_strips 39 = .ok (.bipush 63, 2) := by decide +kernel
theorem dX6_strips_41 : decode cX6_strips 41 = .ok (.if_icmp .gt 48, 3) := by decide +kernel
theorem dX6_strips_44 : decode cX6_strips 44 = .ok (.iload 5, 2) := by decide +kernel
theorem dX6_strips_46 : decode cX6_strips 46 = .ok (.invokestatic 304, 3) := by decide +kernel
theorem dX6_strips_49 : decode cX6_strips 49 = .ok (.iload_n 1, 1) := by decide +kernel
theorem dX6_strips_50 : decode cX6_strips 50 = .ok (.if_icmp .ne 33, 3) := by decide +kernel
theorem dX6_strips_53 : decode cX6_strips 53 = .ok (.aload_n 0, 1) := by decide +kernel
theorem dX6_strips_54 : decode cX6_strips 54 = .ok (.iload 5, 2) := by decide +kernel
theorem dX6_strips_56 : decode cX6_strips 56 = .ok (.invokevirtual 296, 3) := by decide +kernel
theorem dX6_strips_59 : decode cX6_strips 59 = .ok (.aload_n 0, 1) := by decide +kernel
theorem dX6_strips_60 : decode cX6_strips 60 = .ok (.getfield 263, 3) := by decide +kernel
theorem dX6_strips_63 : decode cX6_strips 63 = .ok (.istore 6, 2) := by decide +kernel
theorem dX6_strips_65 : decode cX6_strips 65 = .ok (.aload_n 0, 1) := by decide +kernel
theorem dX6_strips_66 : decode cX6_strips 66 = .ok (.invokevirtual 299, 3) := by decide +kernel
theorem dX6_strips_69 : decode cX6_strips 69 = .ok (.iload 6, 2) := by decide +kernel
theorem dX6_strips_71 : decode cX6_strips 71 = .ok (.iload 4, 2) := by decide +kernel
theorem dX6_strips_73 : decode cX6_strips 73 = .ok (.if_icmp .le 10, 3) := by decide +kernel
theorem dX6_strips_76 : decode cX6_strips 76 = .ok (.iload 5, 2) := by decide +kernel
theorem dX6_strips_78 : decode cX6_strips 78 = .ok (.istore_n 3, 1) := by decide +kernel
theorem dX6_strips_79 : decode cX6_strips 79 = .ok (.iload 6, 2) := by decide +kernel
theorem dX6_strips_81 : decode cX6_strips 81 = .ok (.istore 4, 2) := by decide +kernel
theorem dX6_strips_83 : decode cX6_strips 83 = .ok (.iinc 5 1, 3) := by decide +kernel
theorem dX6_strips_86 : decode cX6_strips 86 = .ok (.goto (-49), 3) := by decide +kernel
theorem dX6_strips_89 : decode cX6_strips 89 = .ok (.iload_n 2, 1) := by decide +kernel
theorem dX6_strips_90 : decode cX6_strips 90 = .ok (.ifCond .ne 7, 3) := by decide +kernel
theorem dX6_strips_93 : decode cX6_strips 93 = .ok (.iload_n 3, 1) := by decide +kernel
theorem dX6_strips_94 : decode cX6_strips 94 = .ok (.goto 5, 3) := by decide +kernel
theorem dX6_strips_97 : decode cX6_strips 97 = .ok (.iload 4, 2) := by decide +kernel
theorem dX6_strips_99 : decode cX6_strips 99 = .ok (.ireturn, 1) := by decide +kernel
theorem dX6_better_0 : decode cX6_better 0 = .ok (.aload_n 0, 1) := by decide +kernel
theorem dX6_better_1 : decode cX6_better 1 = .ok (.invokevirtual 293, 3) := by decide +kernel
theorem dX6_better_4 : decode cX6_better 4 = .ok (.aload_n 0, 1) := by decide +kernel
theorem dX6_better_5 : decode cX6_better 5 = .ok (.bipush 63, 2) := by decide +kernel
theorem dX6_better_7 : decode cX6_better 7 = .ok (.invokevirtual 296, 3) := by decide +kernel
theorem dX6_better_10 : decode cX6_better 10 = .ok (.aload_n 0, 1) := by decide +kernel
theorem dX6_better_11 : decode cX6_better 11 = .ok (.getfield 260, 3) := by decide +kernel
theorem dX6_better_14 : decode cX6_better 14 = .ok (.istore_n 1, 1) := by decide +kernel
theorem dX6_better_15 : decode cX6_better 15 = .ok (.aload_n 0, 1) := by decide +kernel
theorem dX6_better_16 : decode cX6_better 16 = .ok (.invokevirtual 299, 3) := by decide +kernel
theorem dX6_better_19 : decode cX6_better 19 = .ok (.aload_n 0, 1) := by decide +kernel
theorem dX6_better_20 : decode cX6_better 20 = .ok (.aload_n 0, 1) := by decide +kernel
theorem dX6_better_21 : decode cX6_better 21 = .ok (.getfield 35, 3) := by decide +kernel
theorem dX6_better_24 : decode cX6_better 24 = .ok (.bipush 9, 2) := by decide +kernel
theorem dX6_better_26 : decode cX6_better 26 = .ok (.if_icmp .ge 12, 3) := by decide +kernel
theorem dX6_better_29 : decode cX6_better 29 = .ok (.aload_n 0, 1) := by decide +kernel
theorem dX6_better_30 : decode cX6_better 30 = .ok (.getfield 35, 3) := by decide +kernel
theorem dX6_better_33 : decode cX6_better 33 = .ok (.iconst 1, 1) := by decide +kernel
theorem dX6_better_34 : decode cX6_better 34 = .ok (.iadd, 1) := by decide +kernel
theorem dX6_better_35 : decode cX6_better 35 = .ok (.goto 5, 3) := by decide +kernel
theorem dX6_better_38 : decode cX6_better 38 = .ok (.bipush 9, 2) := by decide +kernel
theorem dX6_better_40 : decode cX6_better 40 = .ok (.putfield 35, 3) := by decide +kernel
theorem dX6_better_43 : decode cX6_better 43 = .ok (.aload_n 0, 1) := by decide +kernel
theorem dX6_better_44 : decode cX6_better 44 = .ok (.bipush 63, 2) := by decide +kernel
theorem dX6_better_46 : decode cX6_better 46 = .ok (.invokevirtual 296, 3) := by decide +kernel
theorem dX6_better_49 : decode cX6_better 49 = .ok (.aload_n 0, 1) := by decide +kernel
theorem dX6_better_50 : decode cX6_better 50 = .ok (.getfield 260, 3) := by decide +kernel
theorem dX6_better_53 : decode cX6_better 53 = .ok (.istore_n 2, 1) := by decide +kernel
theorem dX6_better_54 : decode cX6_better 54 = .ok (.aload_n 0, 1) := by decide +kernel
theorem dX6_better_55 : decode cX6_better 55 = .ok (.invokevirtual 299, 3) := by decide +kernel
theorem dX6_better_58 : decode cX6_better 58 = .ok (.iload_n 2, 1) := by decide +kernel
theorem dX6_better_59 : decode cX6_better 59 = .ok (.iload_n 1, 1) := by decide +kernel
theorem dX6_better_60 : decode cX6_better 60 = .ok (.isub, 1) := by decide +kernel
theorem dX6_better_61 : decode cX6_better 61 = .ok (.ireturn, 1) := by decide +kernel
theorem dX6_order_0 : decode cX6_order 0 = .ok (.iload_n 1, 1) := by decide +kernel
theorem dX6_order_1 : decode cX6_order 1 = .ok (.i2l, 1) := by decide +kernel
theorem dX6_order_2 : decode cX6_order 2 = .ok (.lconst 1, 1) := by decide +kernel
theorem dX6_order_3 : decode cX6_order 3 = .ok (.ldc2_w 100, 3) := by decide +kernel
theorem dX6_order_6 : decode cX6_order 6 = .ok (.invokestatic 76, 3) := by decide +kernel
theorem dX6_order_9 : decode cX6_order 9 = .ok (.ifCond .eq 15, 3) := by decide +kernel
theorem dX6_order_12 : decode cX6_order 12 = .ok (.iload_n 2, 1) := by decide +kernel
theorem dX6_order_13 : decode cX6_order 13 = .ok (.i2l, 1) := by decide +kernel
theorem dX6_order_14 : decode cX6_order 14 = .ok (.lconst 1, 1) := by decide +kernel
theorem dX6_order_15 : decode cX6_order 15 = .ok (.ldc2_w 100, 3) := by decide +kernel
theorem dX6_order_18 : decode cX6_order 18 = .ok (.invokestatic 76, 3) := by decide +kernel
theorem dX6_order_21 : decode cX6_order 21 = .ok (.ifCond .ne 6, 3) := by decide +kernel
theorem dX6_order_24 : decode cX6_order 24 = .ok (.bipush (-2), 2) := by decide +kernel
theorem dX6_order_26 : decode cX6_order 26 = .ok (.ireturn, 1) := by decide +kernel
theorem dX6_order_27 : decode cX6_order 27 = .ok (.aload_n 0, 1) := by decide +kernel
theorem dX6_order_28 : decode cX6_order 28 = .ok (.invokevirtual 293, 3) := by decide +kernel
theorem dX6_order_31 : decode cX6_order 31 = .ok (.aload_n 0, 1) := by decide +kernel
theorem dX6_order_32 : decode cX6_order 32 = .ok (.iload_n 1, 1) := by decide +kernel
theorem dX6_order_33 : decode cX6_order 33 = .ok (.putfield 35, 3) := by decide +kernel
theorem dX6_order_36 : decode cX6_order 36 = .ok (.aload_n 0, 1) := by decide +kernel
theorem dX6_order_37 : decode cX6_order 37 = .ok (.bipush 63, 2) := by decide +kernel
theorem dX6_order_39 : decode cX6_order 39 = .ok (.invokevirtual 296, 3) := by decide +kernel
theorem dX6_order_42 : decode cX6_order 42 = .ok (.aload_n 0, 1) := by decide +kernel
theorem dX6_order_43 : decode cX6_order 43 = .ok (.getfield 260, 3) := by decide +kernel
theorem dX6_order_46 : decode cX6_order 46 = .ok (.istore_n 3, 1) := by decide +kernel
theorem dX6_order_47 : decode cX6_order 47 = .ok (.aload_n 0, 1) := by decide +kernel
theorem dX6_order_48 : decode cX6_order 48 = .ok (.iload_n 2, 1) := by decide +kernel
theorem dX6_order_49 : decode cX6_order 49 = .ok (.putfield 35, 3) := by decide +kernel
theorem dX6_order_52 : decode cX6_order 52 = .ok (.aload_n 0, 1) := by decide +kernel
theorem dX6_order_53 : decode cX6_order 53 = .ok (.bipush 63, 2) := by decide +kernel
theorem dX6_order_55 : decode cX6_order 55 = .ok (.invokevirtual 296, 3) := by decide +kernel
theorem dX6_order_58 : decode cX6_order 58 = .ok (.aload_n 0, 1) := by decide +kernel
theorem dX6_order_59 : decode cX6_order 59 = .ok (.getfield 260, 3) := by decide +kernel
theorem dX6_order_62 : decode cX6_order 62 = .ok (.iload_n 3, 1) := by decide +kernel
theorem dX6_order_63 : decode cX6_order 63 = .ok (.isub, 1) := by decide +kernel
theorem dX6_order_64 : decode cX6_order 64 = .ok (.istore 4, 2) := by decide +kernel
theorem dX6_order_66 : decode cX6_order 66 = .ok (.aload_n 0, 1) := by decide +kernel
theorem dX6_order_67 : decode cX6_order 67 = .ok (.invokevirtual 299, 3) := by decide +kernel
theorem dX6_order_70 : decode cX6_order 70 = .ok (.iload 4, 2) := by decide +kernel
theorem dX6_order_72 : decode cX6_order 72 = .ok (.ireturn, 1) := by decide +kernel
theorem dX6_off_0 : decode cX6_off 0 = .ok (.iload_n 0, 1) := by decide +kernel
theorem dX6_off_1 : decode cX6_off 1 = .ok (.iload_n 1, 1) := by decide +kernel
theorem dX6_off_2 : decode cX6_off 2 = .ok (.if_icmp .ge 9, 3) := by decide +kernel
theorem dX6_off_5 : decode cX6_off 5 = .ok (.iload_n 1, 1) := by decide +kernel
theorem dX6_off_6 : decode cX6_off 6 = .ok (.iload_n 0, 1) := by decide +kernel
theorem dX6_off_7 : decode cX6_off 7 = .ok (.isub, 1) := by decide +kernel
theorem dX6_off_8 : decode cX6_off 8 = .ok (.goto 6, 3) := by decide +kernel
theorem dX6_off_11 : decode cX6_off 11 = .ok (.iload_n 0, 1) := by decide +kernel
theorem dX6_off_12 : decode cX6_off 12 = .ok (.iload_n 1, 1) := by decide +kernel
theorem dX6_off_13 : decode cX6_off 13 = .ok (.isub, 1) := by decide +kernel
theorem dX6_off_14 : decode cX6_off 14 = .ok (.ireturn, 1) := by decide +kernel
theorem dX6_pot_0 : decode cX6_pot 0 = .ok (.aload_n 0, 1) := by decide +kernel
theorem dX6_pot_1 : decode cX6_pot 1 = .ok (.getfield 80, 3) := by decide +kernel
theorem dX6_pot_4 : decode cX6_pot 4 = .ok (.invokestatic 304, 3) := by decide +kernel
theorem dX6_pot_7 : decode cX6_pot 7 = .ok (.ifCond .ne 5, 3) := by decide +kernel
theorem dX6_pot_10 : decode cX6_pot 10 = .ok (.iconst (-1), 1) := by decide +kernel
theorem dX6_pot_11 : decode cX6_pot 11 = .ok (.ireturn, 1) := by decide +kernel
theorem dX6_pot_12 : decode cX6_pot 12 = .ok (.iconst 0, 1) := by decide +kernel
theorem dX6_pot_13 : decode cX6_pot 13 = .ok (.istore_n 1, 1) := by decide +kernel
theorem dX6_pot_14 : decode cX6_pot 14 = .ok (.iconst (-1), 1) := by decide +kernel
theorem dX6_pot_15 : decode cX6_pot 15 = .ok (.istore_n 2, 1) := by decide +kernel
theorem dX6_pot_16 : decode cX6_pot 16 = .ok (.iconst 0, 1) := by decide +kernel
theorem dX6_pot_17 : decode cX6_pot 17 = .ok (.istore_n 3, 1) := by decide +kernel
theorem dX6_pot_18 : decode cX6_pot 18 = .ok (.iload_n 3, 1) := by decide +kernel
theorem dX6_pot_19 : decode cX6_pot 19 = .ok (.bipush 48, 2) := by decide +kernel
theorem dX6_pot_21 : decode cX6_pot 21 = .ok (.if_icmp .ge 97, 3) := by decide +kernel
theorem dX6_pot_24 : decode cX6_pot 24 = .ok (.iconst 0, 1) := by decide +kernel
theorem dX6_pot_25 : decode cX6_pot 25 = .ok (.istore 4, 2) := by decide +kernel
theorem dX6_pot_27 : decode cX6_pot 27 = .ok (.iconst 0, 1) := by decide +kernel
theorem dX6_pot_28 : decode cX6_pot 28 = .ok (.istore 5, 2) := by decide +kernel
theorem dX6_pot_30 : decode cX6_pot 30 = .ok (.iload 5, 2) := by decide +kernel
theorem dX6_pot_32 : decode cX6_pot 32 = .ok (.aload_n 0, 1) := by decide +kernel
theorem dX6_pot_33 : decode cX6_pot 33 = .ok (.getfield 73, 3) := by decide +kernel
theorem dX6_pot_36 : decode cX6_pot 36 = .ok (.if_icmp .ge 60, 3) := by decide +kernel
theorem dX6_pot_39 : decode cX6_pot 39 = .ok (.aload_n 0, 1) := by decide +kernel
theorem dX6_pot_40 : decode cX6_pot 40 = .ok (.iload 5, 2) := by decide +kernel
theorem dX6_pot_42 : decode cX6_pot 42 = .ok (.invokevirtual 102, 3) := by decide +kernel
theorem dX6_pot_45 : decode cX6_pot 45 = .ok (.ifCond .ne 45, 3) := by decide +kernel
theorem dX6_pot_48 : decode cX6_pot 48 = .ok (.iload 4, 2) := by decide +kernel
theorem dX6_pot_50 : decode cX6_pot 50 = .ok (.iconst 3, 1) := by decide +kernel
theorem dX6_pot_51 : decode cX6_pot 51 = .ok (.aload_n 0, 1) := by decide +kernel
theorem dX6_pot_52 : decode cX6_pot 52 = .ok (.getfield 26, 3) := by decide +kernel
theorem dX6_pot_55 : decode cX6_pot 55 = .ok (.iload 5, 2) := by decide +kernel
theorem dX6_pot_57 : decode cX6_pot 57 = .ok (.iaload, 1) := by decide +kernel
theorem dX6_pot_58 : decode cX6_pot 58 = .ok (.bipush 8, 2) := by decide +kernel
theorem dX6_pot_60 : decode cX6_pot 60 = .ok (.idiv, 1) := by decide +kernel
theorem dX6_pot_61 : decode cX6_pot 61 = .ok (.iload_n 3, 1) := by decide +kernel
theorem dX6_pot_62 : decode cX6_pot 62 = .ok (.bipush 8, 2) := by decide +kernel
theorem dX6_pot_64 : decode cX6_pot 64 = .ok (.idiv, 1) := by decide +kernel
theorem dX6_pot_65 : decode cX6_pot 65 = .ok (.invokestatic 307, 3) := by decide +kernel
theorem dX6_pot_68 : decode cX6_pot 68 = .ok (.imul, 1) := by decide +kernel
theorem dX6_pot_69 : decode cX6_pot 69 = .ok (.aload_n 0, 1) := by decide +kernel
theorem dX6_pot_70 : decode cX6_pot 70 = .ok (.getfield 26, 3) := by decide +kernel
theorem dX6_pot_73 : decode cX6_pot 73 = .ok (.iload 5, 2) := by decide +kernel
theorem dX6_pot_75 : decode cX6_pot 75 = .ok (.iaload, 1) := by decide +kernel
theorem dX6_pot_76 : decode cX6_pot 76 = .ok (.bipush 8, 2) := by decide +kernel
theorem dX6_pot_78 : decode cX6_pot 78 = .ok (.irem, 1) := by decide +kernel
theorem dX6_pot_79 : decode cX6_pot 79 = .ok (.iload_n 3, 1) := by decide +kernel
theorem dX6_pot_80 : decode cX6_pot 80 = .ok (.bipush 8, 2) := by decide +kernel
theorem dX6_pot_82 : decode cX6_pot 82 = .ok (.irem, 1) := by decide +kernel
theorem dX6_pot_83 : decode cX6_pot 83 = .ok (.invokestatic 307, 3) := by decide +kernel
theorem dX6_pot_86 : decode cX6_pot 86 = .ok (.iadd, 1) := by decide +kernel
theorem dX6_pot_87 : decode cX6_pot 87 = .ok (.iadd, 1) := by decide +kernel
theorem dX6_pot_88 : decode cX6_pot 88 = .ok (.istore 4, 2) := by decide +kernel
theorem dX6_pot_90 : decode cX6_pot 90 = .ok (.iinc 5 1, 3) := by decide +kernel
theorem dX6_pot_93 : decode cX6_pot 93 = .ok (.goto (-63), 3) := by decide +kernel
theorem dX6_pot_96 : decode cX6_pot 96 = .ok (.iload_n 2, 1) := by decide +kernel
theorem dX6_pot_97 : decode cX6_pot 97 = .ok (.iconst (-1), 1) := by decide +kernel
theorem dX6_pot_98 : decode cX6_pot 98 = .ok (.if_icmp .eq 9, 3) := by decide +kernel
theorem dX6_pot_101 : decode cX6_pot 101 = .ok (.iload 4, 2) := by decide +kernel
theorem dX6_pot_103 : decode cX6_pot 103 = .ok (.iload_n 2, 1) := by decide +kernel
theorem dX6_pot_104 : decode cX6_pot 104 = .ok (.if_icmp .ge 8, 3) := by decide +kernel
theorem dX6_pot_107 : decode cX6_pot 107 = .ok (.iload_n 3, 1) := by decide +kernel
theorem dX6_pot_108 : decode cX6_pot 108 = .ok (.istore_n 1, 1) := by decide +kernel
theorem dX6_pot_109 : decode cX6_pot 109 = .ok (.iload 4, 2) := by decide +kernel
theorem dX6_pot_111 : decode cX6_pot 111 = .ok (.istore_n 2, 1) := by decide +kernel
theorem dX6_pot_112 : decode cX6_pot 112 = .ok (.iinc 3 1, 3) := by decide +kernel
theorem dX6_pot_115 : decode cX6_pot 115 = .ok (.goto (-97), 3) := by decide +kernel
theorem dX6_pot_118 : decode cX6_pot 118 = .ok (.iload_n 1, 1) := by decide +kernel
theorem dX6_pot_119 : decode cX6_pot 119 = .ok (.ireturn, 1) := by decide +kernel
theorem dX6_came_0 : decode cX6_came 0 = .ok (.aload_n 0, 1) := by decide +kernel
theorem dX6_came_1 : decode cX6_came 1 = .ok (.iload_n 1, 1) := by decide +kernel
theorem dX6_came_2 : decode cX6_came 2 = .ok (.invokevirtual 95, 3) := by decide +kernel
theorem dX6_came_5 : decode cX6_came 5 = .ok (.ifCond .eq 15, 3) := by decide +kernel
theorem dX6_came_8 : decode cX6_came 8 = .ok (.iload_n 2, 1) := by decide +kernel
theorem dX6_came_9 : decode cX6_came 9 = .ok (.i2l, 1) := by decide +kernel
theorem dX6_came_10 : decode cX6_came 10 = .ok (.lconst 0, 1) := by decide +kernel
theorem dX6_came_11 : decode cX6_came 11 = .ok (.ldc2_w 98, 3) := by decide +kernel
theorem dX6_came_14 : decode cX6_came 14 = .ok (.invokestatic 76, 3) := by decide +kernel
theorem dX6_came_17 : decode cX6_came 17 = .ok (.ifCond .ne 6, 3) := by decide +kernel
theorem dX6_came_20 : decode cX6_came 20 = .ok (.bipush (-2), 2) := by decide +kernel
theorem dX6_came_22 : decode cX6_came 22 = .ok (.ireturn, 1) := by decide +kernel
theorem dX6_came_23 : decode cX6_came 23 = .ok (.aload_n 0, 1) := by decide +kernel
theorem dX6_came_24 : decode cX6_came 24 = .ok (.getfield 29, 3) := by decide +kernel
theorem dX6_came_27 : decode cX6_came 27 = .ok (.iload_n 1, 1) := by decide +kernel
theorem dX6_came_28 : decode cX6_came 28 = .ok (.iaload, 1) := by decide +kernel
theorem dX6_came_29 : decode cX6_came 29 = .ok (.istore_n 3, 1) := by decide +kernel
theorem dX6_came_30 : decode cX6_came 30 = .ok (.aload_n 0, 1) := by decide +kernel
theorem dX6_came_31 : decode cX6_came 31 = .ok (.getfield 26, 3) := by decide +kernel
theorem dX6_came_34 : decode cX6_came 34 = .ok (.iload_n 1, 1) := by decide +kernel
theorem dX6_came_35 : decode cX6_came 35 = .ok (.iaload, 1) := by decide +kernel
theorem dX6_came_36 : decode cX6_came 36 = .ok (.bipush 8, 2) := by decide +kernel
theorem dX6_came_38 : decode cX6_came 38 = .ok (.irem, 1) := by decide +kernel
theorem dX6_came_39 : decode cX6_came 39 = .ok (.istore 4, 2) := by decide +kernel
theorem dX6_came_41 : decode cX6_came 41 = .ok (.iconst 1, 1) := by decide +kernel
theorem dX6_came_42 : decode cX6_came 42 = .ok (.istore 5, 2) := by decide +kernel
theorem dX6_came_44 : decode cX6_came 44 = .ok (.iload 5, 2) := by decide +kernel
theorem dX6_came_46 : decode cX6_came 46 = .ok (.iload_n 2, 1) := by decide +kernel
theorem dX6_came_47 : decode cX6_came 47 = .ok (.if_icmp .gt 80, 3) := by decide +kernel
theorem dX6_came_50 : decode cX6_came 50 = .ok (.iload_n 3, 1) := by decide +kernel
theorem dX6_came_51 : decode cX6_came 51 = .ok (.bipush 12, 2) := by decide +kernel
theorem dX6_came_53 : decode cX6_came 53 = .ok (.if_icmp .gt 10, 3) := by decide +kernel
theorem dX6_came_56 : decode cX6_came 56 = .ok (.bipush 12, 2) := by decide +kernel
theorem dX6_came_58 : decode cX6_came 58 = .ok (.iload_n 3, 1) := by decide +kernel
theorem dX6_came_59 : decode cX6_came 59 = .ok (.isub, 1) := by decide +kernel
theorem dX6_came_60 : decode cX6_came 60 = .ok (.goto 17, 3) := by decide +kernel
theorem dX6_came_63 : decode cX6_came 63 = .ok (.iload_n 3, 1) := by decide +kernel
theorem dX6_came_64 : decode cX6_came 64 = .ok (.bipush 20, 2) := by decide +kernel
theorem dX6_came_66 : decode cX6_came 66 = .ok (.if_icmp .ge 9, 3) := by decide +kernel
theorem dX6_came_69 : decode cX6_came 69 = .ok (.iload_n 3, 1) := by decide +kernel
theorem dX6_came_70 : decode cX6_came 70 = .ok (.iconst 1, 1) := by decide +kernel
theorem dX6_came_71 : decode cX6_came 71 = .ok (.iadd, 1) := by decide +kernel
theorem dX6_came_72 : decode cX6_came 72 = .ok (.goto 5, 3) := by decide +kernel
theorem dX6_came_75 : decode cX6_came 75 = .ok (.bipush 20, 2) := by decide +kernel
theorem dX6_came_77 : decode cX6_came 77 = .ok (.istore_n 3, 1) := by decide +kernel
theorem dX6_came_78 : decode cX6_came 78 = .ok (.aload_n 0, 1) := by decide +kernel
theorem dX6_came_79 : decode cX6_came 79 = .ok (.getfield 23, 3) := by decide +kernel
theorem dX6_came_82 : decode cX6_came 82 = .ok (.iload_n 1, 1) := by decide +kernel
theorem dX6_came_83 : decode cX6_came 83 = .ok (.iaload, 1) := by decide +kernel
theorem dX6_came_84 : decode cX6_came 84 = .ok (.aload_n 0, 1) := by decide +kernel
theorem dX6_came_85 : decode cX6_came 85 = .ok (.getfield 32, 3) := by decide +kernel
theorem dX6_came_88 : decode cX6_came 88 = .ok (.iload_n 1, 1) := by decide +kernel
theorem dX6_came_89 : decode cX6_came 89 = .ok (.iaload, 1) := by decide +kernel
theorem dX6_came_90 : decode cX6_came 90 = .ok (.iload_n 3, 1) := by decide +kernel
theorem dX6_came_91 : decode cX6_came 91 = .ok (.invokestatic 118, 3) := by decide +kernel
theorem dX6_came_94 : decode cX6_came 94 = .ok (.istore 6, 2) := by decide +kernel
theorem dX6_came_96 : decode cX6_came 96 = .ok (.iload 4, 2) := by decide +kernel
theorem dX6_came_98 : decode cX6_came 98 = .ok (.aload_n 0, 1) := by decide +kernel
theorem dX6_came_99 : decode cX6_came 99 = .ok (.getfield 276, 3) := by decide +kernel
theorem dX6_came_102 : decode cX6_came 102 = .ok (.iload 5, 2) := by decide +kernel
theorem dX6_came_104 : decode cX6_came 104 = .ok (.isub, 1) := by decide +kernel
theorem dX6_came_105 : decode cX6_came 105 = .ok (.iconst 2, 1) := by decide +kernel
theorem dX6_came_106 : decode cX6_came 106 = .ok (.irem, 1) := by decide +kernel
theorem dX6_came_107 : decode cX6_came 107 = .ok (.ifCond .ne 9, 3) := by decide +kernel
theorem dX6_came_110 : decode cX6_came 110 = .ok (.iload 6, 2) := by decide +kernel
theorem dX6_came_112 : decode cX6_came 112 = .ok (.ineg, 1) := by decide +kernel
theorem dX6_came_113 : decode cX6_came 113 = .ok (.goto 5, 3) := by decide +kernel
theorem dX6_came_116 : decode cX6_came 116 = .ok (.iload 6, 2) := by decide +kernel
theorem dX6_came_118 : decode cX6_came 118 = .ok (.iadd, 1) := by decide +kernel
theorem dX6_came_119 : decode cX6_came 119 = .ok (.istore 4, 2) := by decide +kernel
theorem dX6_came_121 : decode cX6_came 121 = .ok (.iinc 5 1, 3) := by decide +kernel
theorem dX6_came_124 : decode cX6_came 124 = .ok (.goto (-80), 3) := by decide +kernel
theorem dX6_came_127 : decode cX6_came 127 = .ok (.aload_n 0, 1) := by decide +kernel
theorem dX6_came_128 : decode cX6_came 128 = .ok (.getfield 26, 3) := by decide +kernel
theorem dX6_came_131 : decode cX6_came 131 = .ok (.iload_n 1, 1) := by decide +kernel
theorem dX6_came_132 : decode cX6_came 132 = .ok (.iaload, 1) := by decide +kernel
theorem dX6_came_133 : decode cX6_came 133 = .ok (.bipush 8, 2) := by decide +kernel
theorem dX6_came_135 : decode cX6_came 135 = .ok (.idiv, 1) := by decide +kernel
theorem dX6_came_136 : decode cX6_came 136 = .ok (.bipush 8, 2) := by decide +kernel
theorem dX6_came_138 : decode cX6_came 138 = .ok (.imul, 1) := by decide +kernel
theorem dX6_came_139 : decode cX6_came 139 = .ok (.iload 4, 2) := by decide +kernel
theorem dX6_came_141 : decode cX6_came 141 = .ok (.iconst 0, 1) := by decide +kernel
theorem dX6_came_142 : decode cX6_came 142 = .ok (.bipush 7, 2) := by decide +kernel
theorem dX6_came_144 : decode cX6_came 144 = .ok (.invokestatic 251, 3) := by decide +kernel
theorem dX6_came_147 : decode cX6_came 147 = .ok (.iadd, 1) := by decide +kernel
theorem dX6_came_148 : decode cX6_came 148 = .ok (.ireturn, 1) := by decide +kernel
theorem dX6_dotsOf_0 : decode cX6_dotsOf 0 = .ok (.iconst 0, 1) := by decide +kernel
theorem dX6_dotsOf_1 : decode cX6_dotsOf 1 = .ok (.istore_n 2, 1) := by decide +kernel
theorem dX6_dotsOf_2 : decode cX6_dotsOf 2 = .ok (.iconst 0, 1) := by decide +kernel
theorem dX6_dotsOf_3 : decode cX6_dotsOf 3 = .ok (.istore_n 3, 1) := by decide +kernel
theorem dX6_dotsOf_4 : decode cX6_dotsOf 4 = .ok (.iload_n 3, 1) := by decide +kernel
theorem dX6_dotsOf_5 : decode cX6_dotsOf 5 = .ok (.aload_n 0, 1) := by decide +kernel
theorem dX6_dotsOf_6 : decode cX6_dotsOf 6 = .ok (.getfield 73, 3) := by decide +kernel
theorem dX6_dotsOf_9 : decode cX6_dotsOf 9 = .ok (.if_icmp .ge 35, 3) := by decide +kernel
theorem dX6_dotsOf_12 : decode cX6_dotsOf 12 = .ok (.iload_n 2, 1) := by decide +kernel
theorem dX6_dotsOf_13 : decode cX6_dotsOf 13 = .ok (.aload_n 0, 1) := by decide +kernel
theorem dX6_dotsOf_14 : decode cX6_dotsOf 14 = .ok (.iload_n 3, 1) := by decide +kernel
theorem dX6_dotsOf_15 : decode cX6_dotsOf 15 = .ok (.invokevirtual 102, 3) := by decide +kernel
theorem dX6_dotsOf_18 : decode cX6_dotsOf 18 = .ok (.ifCond .ne 17, 3) := by decide +kernel
theorem dX6_dotsOf_21 : decode cX6_dotsOf 21 = .ok (.aload_n 0, 1) := by decide +kernel
theorem dX6_dotsOf_22 : decode cX6_dotsOf 22 = .ok (.getfield 26, 3) := by decide +kernel
theorem dX6_dotsOf_25 : decode cX6_dotsOf 25 = .ok (.iload_n 3, 1) := by decide +kernel
theorem dX6_dotsOf_26 : decode cX6_dotsOf 26 = .ok (.iaload, 1) := by decide +kernel
theorem dX6_dotsOf_27 : decode cX6_dotsOf 27 = .ok (.iload_n 1, 1) := by decide +kernel
theorem dX6_dotsOf_28 : decode cX6_dotsOf 28 = .ok (.if_icmp .ne 7, 3) := by decide +kernel
theorem dX6_dotsOf_31 : decode cX6_dotsOf 31 = .ok (.iconst 1, 1) := by decide +kernel
theorem dX6_dotsOf_32 : decode cX6_dotsOf 32 = .ok (.goto 4, 3) := by decide +kernel
theorem dX6_dotsOf_35 : decode cX6_dotsOf 35 = .ok (.iconst 0, 1) := by decide +kernel
theorem dX6_dotsOf_36 : decode cX6_dotsOf 36 = .ok (.iadd, 1) := by decide +kernel
theorem dX6_dotsOf_37 : decode cX6_dotsOf 37 = .ok (.istore_n 2, 1) := by decide +kernel
theorem dX6_dotsOf_38 : decode cX6_dotsOf 38 = .ok (.iinc 3 1, 3) := by decide +kernel
theorem dX6_dotsOf_41 : decode cX6_dotsOf 41 = .ok (.goto (-37), 3) := by decide +kernel
theorem dX6_dotsOf_44 : decode cX6_dotsOf 44 = .ok (.iload_n 2, 1) := by decide +kernel
theorem dX6_dotsOf_45 : decode cX6_dotsOf 45 = .ok (.ireturn, 1) := by decide +kernel
theorem dX6_dots_0 : decode cX6_dots 0 = .ok (.iload_n 1, 1) := by decide +kernel
theorem dX6_dots_1 : decode cX6_dots 1 = .ok (.invokestatic 87, 3) := by decide +kernel
theorem dX6_dots_4 : decode cX6_dots 4 = .ok (.ifCond .eq 11, 3) := by decide +kernel
theorem dX6_dots_7 : decode cX6_dots 7 = .ok (.aload_n 0, 1) := by decide +kernel
theorem dX6_dots_8 : decode cX6_dots 8 = .ok (.iload_n 1, 1) := by decide +kernel
theorem dX6_dots_9 : decode cX6_dots 9 = .ok (.invokevirtual 310, 3) := by decide +kernel
theorem dX6_dots_12 : decode cX6_dots 12 = .ok (.goto 5, 3) := by decide +kernel
theorem dX6_dots_15 : decode cX6_dots 15 = .ok (.bipush (-2), 2) := by decide +kernel
theorem dX6_dots_17 : decode cX6_dots 17 = .ok (.ireturn, 1) := by decide +kernel
theorem dX6_thick_0 : decode cX6_thick 0 = .ok (.iconst (-1), 1) := by decide +kernel
theorem dX6_thick_1 : decode cX6_thick 1 = .ok (.istore_n 1, 1) := by decide +kernel
theorem dX6_thick_2 : decode cX6_thick 2 = .ok (.iconst 0, 1) := by decide +kernel
theorem dX6_thick_3 : decode cX6_thick 3 = .ok (.istore_n 2, 1) := by decide +kernel
theorem dX6_thick_4 : decode cX6_thick 4 = .ok (.iconst 0, 1) := by decide +kernel
theorem dX6_thick_5 : decode cX6_thick 5 = .ok (.istore_n 3, 1) := by decide +kernel
theorem dX6_thick_6 : decode cX6_thick 6 = .ok (.iload_n 3, 1) := by decide +kernel
theorem dX6_thick_7 : decode cX6_thick 7 = .ok (.bipush 48, 2) := by decide +kernel
theorem dX6_thick_9 : decode cX6_thick 9 = .ok (.if_icmp .ge 26, 3) := by decide +kernel
theorem dX6_thick_12 : decode cX6_thick 12 = .ok (.aload_n 0, 1) := by decide +kernel
theorem dX6_thick_13 : decode cX6_thick 13 = .ok (.iload_n 3, 1) := by decide +kernel
theorem dX6_thick_14 : decode cX6_thick 14 = .ok (.invokevirtual 310, 3) := by decide +kernel
theorem dX6_thick_17 : decode cX6_thick 17 = .ok (.iload_n 2, 1) := by decide +kernel
theorem dX6_thick_18 : decode cX6_thick 18 = .ok (.if_icmp .le 11, 3) := by decide +kernel
theorem dX6_thick_21 : decode cX6_thick 21 = .ok (.iload_n 3, 1) := by decide +kernel
theorem dX6_thick_22 : decode cX6_thick 22 = .ok (.istore_n 1, 1) := by decide +kernel
theorem dX6_thick_23 : decode cX6_thick 23 = .ok (.aload_n 0, 1) := by decide +kernel
theorem dX6_thick_24 : decode cX6_thick 24 = .ok (.iload_n 3, 1) := by decide +kernel
theorem dX6_thick_25 : decode cX6_thick 25 = .ok (.invokevirtual 310, 3) := by decide +kernel
theorem dX6_thick_28 : decode cX6_thick 28 = .ok (.istore_n 2, 1) := by decide +kernel
theorem dX6_thick_29 : decode cX6_thick 29 = .ok (.iinc 3 1, 3) := by decide +kernel
theorem dX6_thick_32 : decode cX6_thick 32 = .ok (.goto (-26), 3) := by decide +kernel
theorem dX6_thick_35 : decode cX6_thick 35 = .ok (.iload_n 1, 1) := by decide +kernel
theorem dX6_thick_36 : decode cX6_thick 36 = .ok (.ireturn, 1) := by decide +kernel
theorem dX6_judge_0 : decode cX6_judge 0 = .ok (.iload_n 1, 1) := by decide +kernel
theorem dX6_judge_1 : decode cX6_judge 1 = .ok (.invokestatic 313, 3) := by decide +kernel
theorem dX6_judge_4 : decode cX6_judge 4 = .ok (.ifCond .eq 13, 3) := by decide +kernel
theorem dX6_judge_7 : decode cX6_judge 7 = .ok (.iload_n 2, 1) := by decide +kernel
theorem dX6_judge_8 : decode cX6_judge 8 = .ok (.i2l, 1) := by decide +kernel
theorem dX6_judge_9 : decode cX6_judge 9 = .ok (.lconst 0, 1) := by decide +kernel
theorem dX6_judge_10 : decode cX6_judge 10 = .ok (.lconst 1, 1) := by decide +kernel
theorem dX6_judge_11 : decode cX6_judge 11 = .ok (.invokestatic 76, 3) := by decide +kernel
theorem dX6_judge_14 : decode cX6_judge 14 = .ok (.ifCond .ne 6, 3) := by decide +kernel
theorem dX6_judge_17 : decode cX6_judge 17 = .ok (.bipush (-2), 2) := by decide +kernel
theorem dX6_judge_19 : decode cX6_judge 19 = .ok (.ireturn, 1) := by decide +kernel
theorem dX6_judge_20 : decode cX6_judge 20 = .ok (.aload_n 0, 1) := by decide +kernel
theorem dX6_judge_21 : decode cX6_judge 21 = .ok (.getfield 53, 3) := by decide +kernel
theorem dX6_judge_24 : decode cX6_judge 24 = .ok (.iload_n 1, 1) := by decide +kernel
theorem dX6_judge_25 : decode cX6_judge 25 = .ok (.baload, 1) := by decide +kernel
theorem dX6_judge_26 : decode cX6_judge 26 = .ok (.ifCond .ne 6, 3) := by decide +kernel
theorem dX6_judge_29 : decode cX6_judge 29 = .ok (.bipush (-11), 2) := by decide +kernel
theorem dX6_judge_31 : decode cX6_judge 31 = .ok (.ireturn, 1) := by decide +kernel
theorem dX6_judge_32 : decode cX6_judge 32 = .ok (.iconst (-1), 1) := by decide +kernel
theorem dX6_judge_33 : decode cX6_judge 33 = .ok (.istore_n 3, 1) := by decide +kernel
theorem dX6_judge_34 : decode cX6_judge 34 = .ok (.iconst 0, 1) := by decide +kernel
theorem dX6_judge_35 : decode cX6_judge 35 = .ok (.istore 4, 2) := by decide +kernel
theorem dX6_judge_37 : decode cX6_judge 37 = .ok (.iconst 0, 1) := by decide +kernel
theorem dX6_judge_38 : decode cX6_judge 38 = .ok (.istore 5, 2) := by decide +kernel
theorem dX6_judge_40 : decode cX6_judge 40 = .ok (.iload 5, 2) := by decide +kernel
theorem dX6_judge_42 : decode cX6_judge 42 = .ok (.aload_n 0, 1) := by decide +kernel
theorem dX6_judge_43 : decode cX6_judge 43 = .ok (.getfield 60, 3) := by decide +kernel
theorem dX6_judge_46 : decode cX6_judge 46 = .ok (.iload_n 1, 1) := by decide +kernel
theorem dX6_judge_47 : decode cX6_judge 47 = .ok (.iaload, 1) := by decide +kernel
theorem dX6_judge_48 : decode cX6_judge 48 = .ok (.if_icmp .ge 45, 3) := by decide +kernel
theorem dX6_judge_51 : decode cX6_judge 51 = .ok (.aload_n 0, 1) := by decide +kernel
theorem dX6_judge_52 : decode cX6_judge 52 = .ok (.getfield 63, 3) := by decide +kernel
theorem dX6_judge_55 : decode cX6_judge 55 = .ok (.bipush 40, 2) := by decide +kernel
theorem dX6_judge_57 : decode cX6_judge 57 = .ok (.iload_n 1, 1) := by decide +kernel
theorem dX6_judge_58 : decode cX6_judge 58 = .ok (.imul, 1) := by decide +kernel
theorem dX6_judge_59 : decode cX6_judge 59 = .ok (.iload 5, 2) := by decide +kernel
theorem dX6_judge_61 : decode cX6_judge 61 = .ok (.iadd, 1) := by decide +kernel
theorem dX6_judge_62 : decode cX6_judge 62 = .ok (.iaload, 1) := by decide +kernel
theorem dX6_judge_63 : decode cX6_judge 63 = .ok (.aload_n 0, 1) := by decide +kernel
theorem dX6_judge_64 : decode cX6_judge 64 = .ok (.iload 5, 2) := by decide +kernel
theorem dX6_judge_66 : decode cX6_judge 66 = .ok (.invokevirtual 310, 3) := by decide +kernel
theorem dX6_judge_69 : decode cX6_judge 69 = .ok (.if_icmp .eq 18, 3) := by decide +kernel
theorem dX6_judge_72 : decode cX6_judge 72 = .ok (.iinc 4 1, 3) := by decide +kernel
theorem dX6_judge_75 : decode cX6_judge 75 = .ok (.iload_n 3, 1) := by decide +kernel
theorem dX6_judge_76 : decode cX6_judge 76 = .ok (.iconst (-1), 1) := by decide +kernel
theorem dX6_judge_77 : decode cX6_judge 77 = .ok (.if_icmp .ne 8, 3) := by decide +kernel
theorem dX6_judge_80 : decode cX6_judge 80 = .ok (.iload 5, 2) := by decide +kernel
theorem dX6_judge_82 : decode cX6_judge 82 = .ok (.goto 4, 3) := by decide +kernel
theorem dX6_judge_85 : decode cX6_judge 85 = .ok (.iload_n 3, 1) := by decide +kernel
theorem dX6_judge_86 : decode cX6_judge 86 = .ok (.istore_n 3, 1) := by decide +kernel
theorem dX6_judge_87 : decode cX6_judge 87 = .ok (.iinc 5 1, 3) := by decide +kernel
theorem dX6_judge_90 : decode cX6_judge 90 = .ok (.goto (-50), 3) := by decide +kernel
theorem dX6_judge_93 : decode cX6_judge 93 = .ok (.iload_n 2, 1) := by decide +kernel
theorem dX6_judge_94 : decode cX6_judge 94 = .ok (.ifCond .ne 7, 3) := by decide +kernel
theorem dX6_judge_97 : decode cX6_judge 97 = .ok (.iload_n 3, 1) := by decide +kernel
theorem dX6_judge_98 : decode cX6_judge 98 = .ok (.goto 5, 3) := by decide +kernel
theorem dX6_judge_101 : decode cX6_judge 101 = .ok (.iload 4, 2) := by decide +kernel
theorem dX6_judge_103 : decode cX6_judge 103 = .ok (.ireturn, 1) := by decide +kernel
theorem dX6_unseen_0 : decode cX6_unseen 0 = .ok (.iconst 0, 1) := by decide +kernel
theorem dX6_unseen_1 : decode cX6_unseen 1 = .ok (.istore_n 1, 1) := by decide +kernel
theorem dX6_unseen_2 : decode cX6_unseen 2 = .ok (.iconst 0, 1) := by decide +kernel
theorem dX6_unseen_3 : decode cX6_unseen 3 = .ok (.istore_n 2, 1) := by decide +kernel
theorem dX6_unseen_4 : decode cX6_unseen 4 = .ok (.iload_n 2, 1) := by decide +kernel
theorem dX6_unseen_5 : decode cX6_unseen 5 = .ok (.aload_n 0, 1) := by decide +kernel
theorem dX6_unseen_6 : decode cX6_unseen 6 = .ok (.getfield 73, 3) := by decide +kernel
theorem dX6_unseen_9 : decode cX6_unseen 9 = .ok (.if_icmp .ge 31, 3) := by decide +kernel
theorem dX6_unseen_12 : decode cX6_unseen 12 = .ok (.aload_n 0, 1) := by decide +kernel
theorem dX6_unseen_13 : decode cX6_unseen 13 = .ok (.iload_n 2, 1) := by decide +kernel
theorem dX6_unseen_14 : decode cX6_unseen 14 = .ok (.invokevirtual 102, 3) := by decide +kernel
theorem dX6_unseen_17 : decode cX6_unseen 17 = .ok (.ifCond .eq 17, 3) := by decide +kernel
theorem dX6_unseen_20 : decode cX6_unseen 20 = .ok (.iload_n 1, 1) := by decide +kernel
theorem dX6_unseen_21 : decode cX6_unseen 21 = .ok (.iconst 1, 1) := by decide +kernel
theorem dX6_unseen_22 : decode cX6_unseen 22 = .ok (.aload_n 0, 1) := by decide +kernel
theorem dX6_unseen_23 : decode cX6_unseen 23 = .ok (.getfield 26, 3) := by decide +kernel
theorem dX6_unseen_26 : decode cX6_unseen 26 = .ok (.iload_n 2, 1) := by decide +kernel
theorem dX6_unseen_27 : decode cX6_unseen 27 = .ok (.iaload, 1) := by decide +kernel
theorem dX6_unseen_28 : decode cX6_unseen 28 = .ok (.bipush 8, 2) := by decide +kernel
theorem dX6_unseen_30 : decode cX6_unseen 30 = .ok (.idiv, 1) := by decide +kernel
theorem dX6_unseen_31 : decode cX6_unseen 31 = .ok (.ishl, 1) := by decide +kernel
theorem dX6_unseen_32 : decode cX6_unseen 32 = .ok (.ior, 1) := by decide +kernel
theorem dX6_unseen_33 : decode cX6_unseen 33 = .ok (.istore_n 1, 1) := by decide +kernel
theorem dX6_unseen_34 : decode cX6_unseen 34 = .ok (.iinc 2 1, 3) := by decide +kernel
theorem dX6_unseen_37 : decode cX6_unseen 37 = .ok (.goto (-33), 3) := by decide +kernel
theorem dX6_unseen_40 : decode cX6_unseen 40 = .ok (.iload_n 1, 1) := by decide +kernel
theorem dX6_unseen_41 : decode cX6_unseen 41 = .ok (.aload_n 0, 1) := by decide +kernel
theorem dX6_unseen_42 : decode cX6_unseen 42 = .ok (.getfield 273, 3) := by decide +kernel
theorem dX6_unseen_45 : decode cX6_unseen 45 = .ok (.iconst (-1), 1) := by decide +kernel
theorem dX6_unseen_46 : decode cX6_unseen 46 = .ok (.ixor, 1) := by decide +kernel
theorem dX6_unseen_47 : decode cX6_unseen 47 = .ok (.iand, 1) := by decide +kernel
theorem dX6_unseen_48 : decode cX6_unseen 48 = .ok (.ireturn, 1) := by decide +kernel
theorem dX6_left_0 : decode cX6_left 0 = .ok (.iload_n 1, 1) := by decide +kernel
theorem dX6_left_1 : decode cX6_left 1 = .ok (.i2l, 1) := by decide +kernel
theorem dX6_left_2 : decode cX6_left 2 = .ok (.lconst 0, 1) := by decide +kernel
theorem dX6_left_3 : decode cX6_left 3 = .ok (.lconst 1, 1) := by decide +kernel
theorem dX6_left_4 : decode cX6_left 4 = .ok (.invokestatic 76, 3) := by decide +kernel
theorem dX6_left_7 : decode cX6_left 7 = .ok (.ifCond .ne 6, 3) := by decide +kernel
theorem dX6_left_10 : decode cX6_left 10 = .ok (.bipush (-2), 2) := by decide +kernel
theorem dX6_left_12 : decode cX6_left 12 = .ok (.ireturn, 1) := by decide +kernel
theorem dX6_left_13 : decode cX6_left 13 = .ok (.iload_n 1, 1) := by decide +kernel
theorem dX6_left_14 : decode cX6_left 14 = .ok (.ifCond .ne 16, 3) := by decide +kernel
theorem dX6_left_17 : decode cX6_left 17 = .ok (.aload_n 0, 1) := by decide +kernel
theorem dX6_left_18 : decode cX6_left 18 = .ok (.getfield 73, 3) := by decide +kernel
theorem dX6_left_21 : decode cX6_left 21 = .ok (.aload_n 0, 1) := by decide +kernel
theorem dX6_left_22 : decode cX6_left 22 = .ok (.getfield 80, 3) := by decide +kernel
theorem dX6_left_25 : decode cX6_left 25 = .ok (.invokestatic 304, 3) := by decide +kernel
theorem dX6_left_28 : decode cX6_left 28 = .ok (.isub, 1) := by decide +kernel
theorem dX6_left_29 : decode cX6_left 29 = .ok (.ireturn, 1) := by decide +kernel
theorem dX6_left_30 : decode cX6_left 30 = .ok (.iconst 0, 1) := by decide +kernel
theorem dX6_left_31 : decode cX6_left 31 = .ok (.istore_n 2, 1) := by decide +kernel
theorem dX6_left_32 : decode cX6_left 32 = .ok (.aload_n 0, 1) := by decide +kernel
theorem dX6_left_33 : decode cX6_left 33 = .ok (.getfield 35, 3) := by decide +kernel
theorem dX6_left_36 : decode cX6_left 36 = .ok (.istore_n 3, 1) := by decide +kernel
theorem dX6_left_37 : decode cX6_left 37 = .ok (.iconst 0, 1) := by decide +kernel
theorem dX6_left_38 : decode cX6_left 38 = .ok (.istore 4, 2) := by decide +kernel
theorem dX6_left_40 : decode cX6_left 40 = .ok (.iload 4, 2) := by decide +kernel
theorem dX6_left_42 : decode cX6_left 42 = .ok (.aload_n 0, 1) := by decide +kernel
theorem dX6_left_43 : decode cX6_left 43 = .ok (.getfield 73, 3) := by decide +kernel
theorem dX6_left_46 : decode cX6_left 46 = .ok (.if_icmp .ge 98, 3) := by decide +kernel
theorem dX6_left_49 : decode cX6_left 49 = .ok (.aload_n 0, 1) := by decide +kernel
theorem dX6_left_50 : decode cX6_left 50 = .ok (.iload 4, 2) := by decide +kernel
theorem dX6_left_52 : decode cX6_left 52 = .ok (.invokevirtual 102, 3) := by decide +kernel
theorem dX6_left_55 : decode cX6_left 55 = .ok (.ifCond .eq 83, 3) := by decide +kernel
theorem dX6_left_58 : decode cX6_left 58 = .ok (.iconst 0, 1) := by decide +kernel
theorem dX6_left_59 : decode cX6_left 59 = .ok (.istore 5, 2) := by decide +kernel
theorem dX6_left_61 : decode cX6_left 61 = .ok (.aload_n 0, 1) := by decide +kernel
theorem dX6_left_62 : decode cX6_left 62 = .ok (.iconst 1, 1) := by decide +kernel
theorem dX6_left_63 : decode cX6_left 63 = .ok (.putfield 35, 3) := by decide +kernel
theorem dX6_left_66 : decode cX6_left 66 = .ok (.aload_n 0, 1) := by decide +kernel
theorem dX6_left_67 : decode cX6_left 67 = .ok (.getfield 35, 3) := by decide +kernel
theorem dX6_left_70 : decode cX6_left 70 = .ok (.bipush 9, 2) := by decide +kernel
theorem dX6_left_72 : decode cX6_left 72 = .ok (.if_icmp .gt 53, 3) := by decide +kernel
theorem dX6_left_75 : decode cX6_left 75 = .ok (.iload 5, 2) := by decide +kernel
theorem dX6_left_77 : decode cX6_left 77 = .ok (.ifCond .ne 28, 3) := by decide +kernel
theorem dX6_left_80 : decode cX6_left 80 = .ok (.aload_n 0, 1) := by decide +kernel
theorem dX6_left_81 : decode cX6_left 81 = .ok (.iload 4, 2) := by decide +kernel
theorem dX6_left_83 : decode cX6_left 83 = .ok (.invokevirtual 254, 3) := by decide +kernel
theorem dX6_left_86 : decode cX6_left 86 = .ok (.ifCond .eq 23, 3) := by decide +kernel
theorem dX6_left_89 : decode cX6_left 89 = .ok (.aload_n 0, 1) := by decide +kernel
theorem dX6_left_90 : decode cX6_left 90 = .ok (.iconst 0, 1) := by decide +kernel
theorem dX6_left_91 : decode cX6_left 91 = .ok (.iload 4, 2) := by decide +kernel
theorem dX6_left_93 : decode cX6_left 93 = .ok (.aload_n 0, 1) := by decide +kernel
theorem dX6_left_94 : decode cX6_left 94 = .ok (.iload 4, 2) := by decide +kernel
theorem dX6_left_96 : decode cX6_left 96 = .ok (.invokevirtual 115, 3) := by decide +kernel
theorem dX6_left_99 : decode cX6_left 99 = .ok (.invokevirtual 248, 3) := by decide +kernel
theorem dX6_left_102 : decode cX6_left 102 = .ok (.ifCond .eq 7, 3) := by decide +kernel
theorem dX6_left_105 : decode cX6_left 105 = .ok (.iconst 1, 1) := by decide +kernel
theorem dX6_left_106 : decode cX6_left 106 = .ok (.goto 4, 3) := by decide +kernel
theorem dX6_left_109 : decode cX6_left 109 = .ok (.iconst 0, 1) := by decide +kernel
theorem dX6_left_110 : decode cX6_left 110 = .ok (.istore 5, 2) := by decide +kernel
theorem dX6_left_112 : decode cX6_left 112 = .ok (.aload_n 0, 1) := by decide +kernel
theorem dX6_left_113 : decode cX6_left 113 = .ok (.dup, 1) := by decide +kernel
theorem dX6_left_114 : decode cX6_left 114 = .ok (.getfield 35, 3) := by decide +kernel
theorem dX6_left_117 : decode cX6_left 117 = .ok (.iconst 1, 1) := by decide +kernel
theorem dX6_left_118 : decode cX6_left 118 = .ok (.iadd, 1) := by decide +kernel
theorem dX6_left_119 : decode cX6_left 119 = .ok (.putfield 35, 3) := by decide +kernel
theorem dX6_left_122 : decode cX6_left 122 = .ok (.goto (-56), 3) := by decide +kernel
theorem dX6_left_125 : decode cX6_left 125 = .ok (.iload_n 2, 1) := by decide +kernel
theorem dX6_left_126 : decode cX6_left 126 = .ok (.iload 5, 2) := by decide +kernel
theorem dX6_left_128 : decode cX6_left 128 = .ok (.ifCond .eq 7, 3) := by decide +kernel
theorem dX6_left_131 : decode cX6_left 131 = .ok (.iconst 0, 1) := by decide +kernel
theorem dX6_left_132 : decode cX6_left 132 = .ok (.goto 4, 3) := by decide +kernel
theorem dX6_left_135 : decode cX6_left 135 = .ok (.iconst 1, 1) := by decide +kernel
theorem dX6_left_136 : decode cX6_left 136 = .ok (.iadd, 1) := by decide +kernel
theorem dX6_left_137 : decode cX6_left 137 = .ok (.istore_n 2, 1) := by decide +kernel
theorem dX6_left_138 : decode cX6_left 138 = .ok (.iinc 4 1, 3) := by decide +kernel
theorem dX6_left_141 : decode cX6_left 141 = .ok (.goto (-101), 3) := by decide +kernel
theorem dX6_left_144 : decode cX6_left 144 = .ok (.aload_n 0, 1) := by decide +kernel
theorem dX6_left_145 : decode cX6_left 145 = .ok (.iload_n 3, 1) := by decide +kernel
theorem dX6_left_146 : decode cX6_left 146 = .ok (.putfield 35, 3) := by decide +kernel
theorem dX6_left_149 : decode cX6_left 149 = .ok (.iload_n 2, 1) := by decide +kernel
theorem dX6_left_150 : decode cX6_left 150 = .ok (.ireturn, 1) := by decide +kernel
theorem dX6_drawn_0 : decode cX6_drawn 0 = .ok (.aload_n 0, 1) := by decide +kernel
theorem dX6_drawn_1 : decode cX6_drawn 1 = .ok (.invokevirtual 293, 3) := by decide +kernel
theorem dX6_drawn_4 : decode cX6_drawn 4 = .ok (.iload_n 1, 1) := by decide +kernel
theorem dX6_drawn_5 : decode cX6_drawn 5 = .ok (.istore_n 2, 1) := by decide +kernel
theorem dX6_drawn_6 : decode cX6_drawn 6 = .ok (.iconst 0, 1) := by decide +kernel
theorem dX6_drawn_7 : decode cX6_drawn 7 = .ok (.istore_n 3, 1) := by decide +kernel
theorem dX6_drawn_8 : decode cX6_drawn 8 = .ok (.iload_n 3, 1) := by decide +kernel
theorem dX6_drawn_9 : decode cX6_drawn 9 = .ok (.aload_n 0, 1) := by decide +kernel
theorem dX6_drawn_10 : decode cX6_drawn 10 = .ok (.getfield 73, 3) := by decide +kernel
theorem dX6_drawn_13 : decode cX6_drawn 13 = .ok (.if_icmp .ge 53, 3) := by decide +kernel
theorem dX6_drawn_16 : decode cX6_drawn 16 = .ok (.aload_n 0, 1) := by decide +kernel
theorem dX6_drawn_17 : decode cX6_drawn 17 = .ok (.iload_n 3, 1) := by decide +kernel
theorem dX6_drawn_18 : decode cX6_drawn 18 = .ok (.invokevirtual 102, 3) := by decide +kernel
theorem dX6_drawn_21 : decode cX6_drawn 21 = .ok (.ifCond .eq 39, 3) := by decide +kernel
theorem dX6_drawn_24 : decode cX6_drawn 24 = .ok (.iload_n 2, 1) := by decide +kernel
theorem dX6_drawn_25 : decode cX6_drawn 25 = .ok (.ldc_w 316, 3) := by decide +kernel
theorem dX6_drawn_28 : decode cX6_drawn 28 = .ok (.imul, 1) := by decide +kernel
theorem dX6_drawn_29 : decode cX6_drawn 29 = .ok (.sipush 12345, 3) := by decide +kernel
theorem dX6_drawn_32 : decode cX6_drawn 32 = .ok (.iadd, 1) := by decide +kernel
theorem dX6_drawn_33 : decode cX6_drawn 33 = .ok (.istore_n 2, 1) := by decide +kernel
theorem dX6_drawn_34 : decode cX6_drawn 34 = .ok (.aload_n 0, 1) := by decide +kernel
theorem dX6_drawn_35 : decode cX6_drawn 35 = .ok (.getfield 26, 3) := by decide +kernel
theorem dX6_drawn_38 : decode cX6_drawn 38 = .ok (.iload_n 3, 1) := by decide +kernel
theorem dX6_drawn_39 : decode cX6_drawn 39 = .ok (.iload_n 2, 1) := by decide +kernel
theorem dX6_drawn_40 : decode cX6_drawn 40 = .ok (.bipush 9, 2) := by decide +kernel
theorem dX6_drawn_42 : decode cX6_drawn 42 = .ok (.iushr, 1) := by decide +kernel
theorem dX6_drawn_43 : decode cX6_drawn 43 = .ok (.bipush 48, 2) := by decide +kernel
theorem dX6_drawn_45 : decode cX6_drawn 45 = .ok (.irem, 1) := by decide +kernel
theorem dX6_drawn_46 : decode cX6_drawn 46 = .ok (.iastore, 1) := by decide +kernel
theorem dX6_drawn_47 : decode cX6_drawn 47 = .ok (.aload_n 0, 1) := by decide +kernel
theorem dX6_drawn_48 : decode cX6_drawn 48 = .ok (.getfield 29, 3) := by decide +kernel
theorem dX6_drawn_51 : decode cX6_drawn 51 = .ok (.iload_n 3, 1) := by decide +kernel
theorem dX6_drawn_52 : decode cX6_drawn 52 = .ok (.iload_n 2, 1) := by decide +kernel
theorem dX6_drawn_53 : decode cX6_drawn 53 = .ok (.bipush 16, 2) := by decide +kernel
theorem dX6_drawn_55 : decode cX6_drawn 55 = .ok (.iushr, 1) := by decide +kernel
theorem dX6_drawn_56 : decode cX6_drawn 56 = .ok (.bipush 21, 2) := by decide +kernel
theorem dX6_drawn_58 : decode cX6_drawn 58 = .ok (.irem, 1) := by decide +kernel
theorem dX6_drawn_59 : decode cX6_drawn 59 = .ok (.iastore, 1) := by decide +kernel
theorem dX6_drawn_60 : decode cX6_drawn 60 = .ok (.iinc 3 1, 3) := by decide +kernel
theorem dX6_drawn_63 : decode cX6_drawn 63 = .ok (.goto (-55), 3) := by decide +kernel
theorem dX6_drawn_66 : decode cX6_drawn 66 = .ok (.aload_n 0, 1) := by decide +kernel
theorem dX6_drawn_67 : decode cX6_drawn 67 = .ok (.bipush 63, 2) := by decide +kernel
theorem dX6_drawn_69 : decode cX6_drawn 69 = .ok (.invokevirtual 296, 3) := by decide +kernel
theorem dX6_drawn_72 : decode cX6_drawn 72 = .ok (.aload_n 0, 1) := by decide +kernel
theorem dX6_drawn_73 : decode cX6_drawn 73 = .ok (.getfield 260, 3) := by decide +kernel
theorem dX6_drawn_76 : decode cX6_drawn 76 = .ok (.istore_n 3, 1) := by decide +kernel
theorem dX6_drawn_77 : decode cX6_drawn 77 = .ok (.aload_n 0, 1) := by decide +kernel
theorem dX6_drawn_78 : decode cX6_drawn 78 = .ok (.invokevirtual 299, 3) := by decide +kernel
theorem dX6_drawn_81 : decode cX6_drawn 81 = .ok (.iload_n 3, 1) := by decide +kernel
theorem dX6_drawn_82 : decode cX6_drawn 82 = .ok (.ireturn, 1) := by decide +kernel
theorem dX6_odds_0 : decode cX6_odds 0 = .ok (.iload_n 2, 1) := by decide +kernel
theorem dX6_odds_1 : decode cX6_odds 1 = .ok (.i2l, 1) := by decide +kernel
theorem dX6_odds_2 : decode cX6_odds 2 = .ok (.lconst 1, 1) := by decide +kernel
theorem dX6_odds_3 : decode cX6_odds 3 = .ok (.ldc2_w 98, 3) := by decide +kernel
theorem dX6_odds_6 : decode cX6_odds 6 = .ok (.invokestatic 76, 3) := by decide +kernel
theorem dX6_odds_9 : decode cX6_odds 9 = .ok (.ifCond .eq 26, 3) := by decide +kernel
theorem dX6_odds_12 : decode cX6_odds 12 = .ok (.iload_n 3, 1) := by decide +kernel
theorem dX6_odds_13 : decode cX6_odds 13 = .ok (.i2l, 1) := by decide +kernel
theorem dX6_odds_14 : decode cX6_odds 14 = .ok (.lconst 0, 1) := by decide +kernel
theorem dX6_odds_15 : decode cX6_odds 15 = .ok (.ldc2_w 317, 3) := by decide +kernel
theorem dX6_odds_18 : decode cX6_odds 18 = .ok (.invokestatic 76, 3) := by decide +kernel
theorem dX6_odds_21 : decode cX6_odds 21 = .ok (.ifCond .eq 14, 3) := by decide +kernel
theorem dX6_odds_24 : decode cX6_odds 24 = .ok (.iload 4, 2) := by decide +kernel
theorem dX6_odds_26 : decode cX6_odds 26 = .ok (.i2l, 1) := by decide +kernel
theorem dX6_odds_27 : decode cX6_odds 27 = .ok (.lconst 0, 1) := by decide +kernel
theorem dX6_odds_28 : decode cX6_odds 28 = .ok (.lconst 1, 1) := by decide +kernel
theorem dX6_odds_29 : decode cX6_odds 29 = .ok (.invokestatic 76, 3) := by decide +kernel
theorem dX6_odds_32 : decode cX6_odds 32 = .ok (.ifCond .ne 7, 3) := by decide +kernel
theorem dX6_odds_35 : decode cX6_odds 35 = .ok (.ldc2_w 319, 3) := by decide +kernel
theorem dX6_odds_38 : decode cX6_odds 38 = .ok (.lreturn, 1) := by decide +kernel
theorem dX6_odds_39 : decode cX6_odds 39 = .ok (.lconst 0, 1) := by decide +kernel
theorem dX6_odds_40 : decode cX6_odds 40 = .ok (.lstore 5, 2) := by decide +kernel
theorem dX6_odds_42 : decode cX6_odds 42 = .ok (.iconst 0, 1) := by decide +kernel
theorem dX6_odds_43 : decode cX6_odds 43 = .ok (.istore 7, 2) := by decide +kernel
theorem dX6_odds_45 : decode cX6_odds 45 = .ok (.iload 7, 2) := by decide +kernel
theorem dX6_odds_47 : decode cX6_odds 47 = .ok (.iload_n 2, 1) := by decide +kernel
theorem dX6_odds_48 : decode cX6_odds 48 = .ok (.if_icmp .ge 31, 3) := by decide +kernel
theorem dX6_odds_51 : decode cX6_odds 51 = .ok (.lload 5, 2) := by decide +kernel
theorem dX6_odds_53 : decode cX6_odds 53 = .ok (.aload_n 0, 1) := by decide +kernel
theorem dX6_odds_54 : decode cX6_odds 54 = .ok (.iload_n 1, 1) := by decide +kernel
theorem dX6_odds_55 : decode cX6_odds 55 = .ok (.iload 7, 2) := by decide +kernel
theorem dX6_odds_57 : decode cX6_odds 57 = .ok (.iadd, 1) := by decide +kernel
theorem dX6_odds_58 : decode cX6_odds 58 = .ok (.invokevirtual 321, 3) := by decide +kernel
theorem dX6_odds_61 : decode cX6_odds 61 = .ok (.iload_n 3, 1) := by decide +kernel
theorem dX6_odds_62 : decode cX6_odds 62 = .ok (.if_icmp .lt 7, 3) := by decide +kernel
theorem dX6_odds_65 : decode cX6_odds 65 = .ok (.lconst 1, 1) := by decide +kernel
theorem dX6_odds_66 : decode cX6_odds 66 = .ok (.goto 4, 3) := by decide +kernel
theorem dX6_odds_69 : decode cX6_odds 69 = .ok (.lconst 0, 1) := by decide +kernel
theorem dX6_odds_70 : decode cX6_odds 70 = .ok (.ladd, 1) := by decide +kernel
theorem dX6_odds_71 : decode cX6_odds 71 = .ok (.lstore 5, 2) := by decide +kernel
theorem dX6_odds_73 : decode cX6_odds 73 = .ok (.iinc 7 1, 3) := by decide +kernel
theorem dX6_odds_76 : decode cX6_odds 76 = .ok (.goto (-31), 3) := by decide +kernel
theorem dX6_odds_79 : decode cX6_odds 79 = .ok (.lload 5, 2) := by decide +kernel
theorem dX6_odds_81 : decode cX6_odds 81 = .ok (.lstore 7, 2) := by decide +kernel
theorem dX6_odds_83 : decode cX6_odds 83 = .ok (.iload_n 2, 1) := by decide +kernel
theorem dX6_odds_84 : decode cX6_odds 84 = .ok (.i2l, 1) := by decide +kernel
theorem dX6_odds_85 : decode cX6_odds 85 = .ok (.lstore 9, 2) := by decide +kernel
theorem dX6_odds_87 : decode cX6_odds 87 = .ok (.lload 9, 2) := by decide +kernel
theorem dX6_odds_89 : decode cX6_odds 89 = .ok (.lconst 0, 1) := by decide +kernel
theorem dX6_odds_90 : decode cX6_odds 90 = .ok (.lcmp, 1) := by decide +kernel
theorem dX6_odds_91 : decode cX6_odds 91 = .ok (.ifCond .eq 21, 3) := by decide +kernel
theorem dX6_odds_94 : decode cX6_odds 94 = .ok (.lload 7, 2) := by decide +kernel
theorem dX6_odds_96 : decode cX6_odds 96 = .ok (.lload 9, 2) := by decide +kernel
theorem dX6_odds_98 : decode cX6_odds 98 = .ok (.lrem, 1) := by decide +kernel
theorem dX6_odds_99 : decode cX6_odds 99 = .ok (.lstore 11, 2) := by decide +kernel
theorem dX6_odds_101 : decode cX6_odds 101 = .ok (.lload 9, 2) := by decide +kernel
theorem dX6_odds_103 : decode cX6_odds 103 = .ok (.lstore 7, 2) := by decide +kernel
theorem dX6_odds_105 : decode cX6_odds 105 = .ok (.lload 11, 2) := by decide +kernel
theorem dX6_odds_107 : decode cX6_odds 107 = .ok (.lstore 9, 2) := by decide +kernel
theorem dX6_odds_109 : decode cX6_odds 109 = .ok (.goto (-22), 3) := by decide +kernel
theorem dX6_odds_112 : decode cX6_odds 112 = .ok (.iload 4, 2) := by decide +kernel
theorem dX6_odds_114 : decode cX6_odds 114 = .ok (.ifCond .ne 11, 3) := by decide +kernel
theorem dX6_odds_117 : decode cX6_odds 117 = .ok (.lload 5, 2) := by decide +kernel
theorem dX6_odds_119 : decode cX6_odds 119 = .ok (.lload 7, 2) := by decide +kernel
theorem dX6_odds_121 : decode cX6_odds 121 = .ok (.ldiv, 1) := by decide +kernel
theorem dX6_odds_122 : decode cX6_odds 122 = .ok (.goto 8, 3) := by decide +kernel
theorem dX6_odds_125 : decode cX6_odds 125 = .ok (.iload_n 2, 1) := by decide +kernel
theorem dX6_odds_126 : decode cX6_odds 126 = .ok (.i2l, 1) := by decide +kernel
theorem dX6_odds_127 : decode cX6_odds 127 = .ok (.lload 7, 2) := by decide +kernel
theorem dX6_odds_129 : decode cX6_odds 129 = .ok (.ldiv, 1) := by decide +kernel
theorem dX6_odds_130 : decode cX6_odds 130 = .ok (.lreturn, 1) := by decide +kernel
theorem dX6_image_0 : decode cX6_image 0 = .ok (.iconst 0, 1) := by decide +kernel
theorem dX6_image_1 : decode cX6_image 1 = .ok (.istore_n 1, 1) := by decide +kernel
theorem dX6_image_2 : decode cX6_image 2 = .ok (.iload_n 1, 1) := by decide +kernel
theorem dX6_image_3 : decode cX6_image 3 = .ok (.bipush 12, 2) := by decide +kernel
theorem dX6_image_5 : decode cX6_image 5 = .ok (.if_icmp .ge 33, 3) := by decide +kernel
theorem dX6_image_8 : decode cX6_image 8 = .ok (.aload_n 0, 1) := by decide +kernel
theorem dX6_image_9 : decode cX6_image 9 = .ok (.getfield 44, 3) := by decide +kernel
theorem dX6_image_12 : decode cX6_image 12 = .ok (.iload_n 1, 1) := by decide +kernel
theorem dX6_image_13 : decode cX6_image 13 = .ok (.aload_n 0, 1) := by decide +kernel
theorem dX6_image_14 : decode cX6_image 14 = .ok (.getfield 26, 3) := by decide +kernel
theorem dX6_image_17 : decode cX6_image 17 = .ok (.iload_n 1, 1) := by decide +kernel
theorem dX6_image_18 : decode cX6_image 18 = .ok (.iaload, 1) := by decide +kernel
theorem dX6_image_19 : decode cX6_image 19 = .ok (.iastore, 1) := by decide +kernel
theorem dX6_image_20 : decode cX6_image 20 = .ok (.aload_n 0, 1) := by decide +kernel
theorem dX6_image_21 : decode cX6_image 21 = .ok (.getfield 47, 3) := by decide +kernel
theorem dX6_image_24 : decode cX6_image 24 = .ok (.iload_n 1, 1) := by decide +kernel
theorem dX6_image_25 : decode cX6_image 25 = .ok (.aload_n 0, 1) := by decide +kernel
theorem dX6_image_26 : decode cX6_image 26 = .ok (.getfield 29, 3) := by decide +kernel
theorem dX6_image_29 : decode cX6_image 29 = .ok (.iload_n 1, 1) := by decide +kernel
theorem dX6_image_30 : decode cX6_image 30 = .ok (.iaload, 1) := by decide +kernel
theorem dX6_image_31 : decode cX6_image 31 = .ok (.iastore, 1) := by decide +kernel
theorem dX6_image_32 : decode cX6_image 32 = .ok (.iinc 1 1, 3) := by decide +kernel
theorem dX6_image_35 : decode cX6_image 35 = .ok (.goto (-33), 3) := by decide +kernel
theorem dX6_image_38 : decode cX6_image 38 = .ok (.aload_n 0, 1) := by decide +kernel
theorem dX6_image_39 : decode cX6_image 39 = .ok (.aload_n 0, 1) := by decide +kernel
theorem dX6_image_40 : decode cX6_image 40 = .ok (.getfield 73, 3) := by decide +kernel
theorem dX6_image_43 : decode cX6_image 43 = .ok (.putfield 50, 3) := by decide +kernel
theorem dX6_image_46 : decode cX6_image 46 = .ok (.aload_n 0, 1) := by decide +kernel
theorem dX6_image_47 : decode cX6_image 47 = .ok (.aload_n 0, 1) := by decide +kernel
theorem dX6_image_48 : decode cX6_image 48 = .ok (.getfield 80, 3) := by decide +kernel
theorem dX6_image_51 : decode cX6_image 51 = .ok (.putfield 324, 3) := by decide +kernel
theorem dX6_image_54 : decode cX6_image 54 = .ok (.aload_n 0, 1) := by decide +kernel
theorem dX6_image_55 : decode cX6_image 55 = .ok (.aload_n 0, 1) := by decide +kernel
theorem dX6_image_56 : decode cX6_image 56 = .ok (.getfield 105, 3) := by decide +kernel
theorem dX6_image_59 : decode cX6_image 59 = .ok (.putfield 327, 3) := by decide +kernel
theorem dX6_image_62 : decode cX6_image 62 = .ok (.aload_n 0, 1) := by decide +kernel
theorem dX6_image_63 : decode cX6_image 63 = .ok (.aload_n 0, 1) := by decide +kernel
theorem dX6_image_64 : decode cX6_image 64 = .ok (.getfield 35, 3) := by decide +kernel
theorem dX6_image_67 : decode cX6_image 67 = .ok (.putfield 330, 3) := by decide +kernel
theorem dX6_image_70 : decode cX6_image 70 = .ok (.aload_n 0, 1) := by decide +kernel
theorem dX6_image_71 : decode cX6_image 71 = .ok (.aload_n 0, 1) := by decide +kernel
theorem dX6_image_72 : decode cX6_image 72 = .ok (.getfield 276, 3) := by decide +kernel
theorem dX6_image_75 : decode cX6_image 75 = .ok (.putfield 333, 3) := by decide +kernel
theorem dX6_image_78 : decode cX6_image 78 = .ok (.aload_n 0, 1) := by decide +kernel
theorem dX6_image_79 : decode cX6_image 79 = .ok (.aload_n 0, 1) := by decide +kernel
theorem dX6_image_80 : decode cX6_image 80 = .ok (.getfield 273, 3) := by decide +kernel
theorem dX6_image_83 : decode cX6_image 83 = .ok (.putfield 336, 3) := by decide +kernel
theorem dX6_image_86 : decode cX6_image 86 = .ok (.aload_n 0, 1) := by decide +kernel
theorem dX6_image_87 : decode cX6_image 87 = .ok (.aload_n 0, 1) := by decide +kernel
theorem dX6_image_88 : decode cX6_image 88 = .ok (.getfield 245, 3) := by decide +kernel
theorem dX6_image_91 : decode cX6_image 91 = .ok (.putfield 339, 3) := by decide +kernel
theorem dX6_image_94 : decode cX6_image 94 = .ok (.aload_n 0, 1) := by decide +kernel
theorem dX6_image_95 : decode cX6_image 95 = .ok (.getfield 73, 3) := by decide +kernel
theorem dX6_image_98 : decode cX6_image 98 = .ok (.aload_n 0, 1) := by decide +kernel
theorem dX6_image_99 : decode cX6_image 99 = .ok (.getfield 80, 3) := by decide +kernel
theorem dX6_image_102 : decode cX6_image 102 = .ok (.invokestatic 304, 3) := by decide +kernel
theorem dX6_image_105 : decode cX6_image 105 = .ok (.isub, 1) := by decide +kernel
theorem dX6_image_106 : decode cX6_image 106 = .ok (.ireturn, 1) := by decide +kernel
theorem dX6_back_0 : decode cX6_back 0 = .ok (.aload_n 0, 1) := by decide +kernel
theorem dX6_back_1 : decode cX6_back 1 = .ok (.getfield 50, 3) := by decide +kernel
theorem dX6_back_4 : decode cX6_back 4 = .ok (.iconst (-1), 1) := by decide +kernel
theorem dX6_back_5 : decode cX6_back 5 = .ok (.if_icmp .ne 6, 3) := by decide +kernel
theorem dX6_back_8 : decode cX6_back 8 = .ok (.bipush (-3), 2) := by decide +kernel
theorem dX6_back_10 : decode cX6_back 10 = .ok (.ireturn, 1) := by decide +kernel
theorem dX6_back_11 : decode cX6_back 11 = .ok (.iconst 0, 1) := by decide +kernel
theorem dX6_back_12 : decode cX6_back 12 = .ok (.istore_n 1, 1) := by decide +kernel
theorem dX6_back_13 : decode cX6_back 13 = .ok (.iload_n 1, 1) := by decide +kernel
theorem dX6_back_14 : decode cX6_back 14 = .ok (.aload_n 0, 1) := by decide +kernel
theorem dX6_back_15 : decode cX6_back 15 = .ok (.getfield 50, 3) := by decide +kernel
theorem dX6_back_18 : decode cX6_back 18 = .ok (.if_icmp .ge 33, 3) := by decide +kernel
theorem dX6_back_21 : decode cX6_back 21 = .ok (.aload_n 0, 1) := by decide +kernel
theorem dX6_back_22 : decode cX6_back 22 = .ok (.getfield 26, 3) := by decide +kernel
theorem dX6_back_25 : decode cX6_back 25 = .ok (.iload_n 1, 1) := by decide +kernel
theorem dX6_back_26 : decode cX6_back 26 = .ok (.aload_n 0, 1) := by decide +kernel
theorem dX6_back_27 : decode cX6_back 27 = .ok (.getfield 44, 3) := by decide +kernel
theorem dX6_back_30 : decode cX6_back 30 = .ok (.iload_n 1, 1) := by decide +kernel
theorem dX6_back_31 : decode cX6_back 31 = .ok (.iaload, 1) := by decide +kernel
theorem dX6_back_32 : decode cX6_back 32 = .ok (.iastore, 1) := by decide +kernel
theorem dX6_back_33 : decode cX6_back 33 = .ok (.aload_n 0, 1) := by decide +kernel
theorem dX6_back_34 : decode cX6_back 34 = .ok (.getfield 29, 3) := by decide +kernel
theorem dX6_back_37 : decode cX6_back 37 = .ok (.iload_n 1, 1) := by decide +kernel
theorem dX6_back_38 : decode cX6_back 38 = .ok (.aload_n 0, 1) := by decide +kernel
theorem dX6_back_39 : decode cX6_back 39 = .ok (.getfield 47, 3) := by decide +kernel
theorem dX6_back_42 : decode cX6_back 42 = .ok (.iload_n 1, 1) := by decide +kernel
theorem dX6_back_43 : decode cX6_back 43 = .ok (.iaload, 1) := by decide +kernel
theorem dX6_back_44 : decode cX6_back 44 = .ok (.iastore, 1) := by decide +kernel
theorem dX6_back_45 : decode cX6_back 45 = .ok (.iinc 1 1, 3) := by decide +kernel
theorem dX6_back_48 : decode cX6_back 48 = .ok (.goto (-35), 3) := by decide +kernel
theorem dX6_back_51 : decode cX6_back 51 = .ok (.aload_n 0, 1) := by decide +kernel
theorem dX6_back_52 : decode cX6_back 52 = .ok (.aload_n 0, 1) := by decide +kernel
theorem dX6_back_53 : decode cX6_back 53 = .ok (.getfield 50, 3) := by decide +kernel
theorem dX6_back_56 : decode cX6_back 56 = .ok (.putfield 73, 3) := by decide +kernel
theorem dX6_back_59 : decode cX6_back 59 = .ok (.aload_n 0, 1) := by decide +kernel
theorem dX6_back_60 : decode cX6_back 60 = .ok (.aload_n 0, 1) := by decide +kernel
theorem dX6_back_61 : decode cX6_back 61 = .ok (.getfield 324, 3) := by decide +kernel
theorem dX6_back_64 : decode cX6_back 64 = .ok (.putfield 80, 3) := by decide +kernel
theorem dX6_back_67 : decode cX6_back 67 = .ok (.aload_n 0, 1) := by decide +kernel
theorem dX6_back_68 : decode cX6_back 68 = .ok (.aload_n 0, 1) := by decide +kernel
theorem dX6_back_69 : decode cX6_back 69 = .ok (.getfield 327, 3) := by decide +kernel
theorem dX6_back_72 : decode cX6_back 72 = .ok (.putfield 105, 3) := by decide +kernel
theorem dX6_back_75 : decode cX6_back 75 = .ok (.aload_n 0, 1) := by decide +kernel
theorem dX6_back_76 : decode cX6_back 76 = .ok (.aload_n 0, 1) := by decide +kernel
theorem dX6_back_77 : decode cX6_back 77 = .ok (.getfield 330, 3) := by decide +kernel
theorem dX6_back_80 : decode cX6_back 80 = .ok (.putfield 35, 3) := by decide +kernel
theorem dX6_back_83 : decode cX6_back 83 = .ok (.aload_n 0, 1) := by decide +kernel
theorem dX6_back_84 : decode cX6_back 84 = .ok (.aload_n 0, 1) := by decide +kernel
theorem dX6_back_85 : decode cX6_back 85 = .ok (.getfield 333, 3) := by decide +kernel
theorem dX6_back_88 : decode cX6_back 88 = .ok (.putfield 276, 3) := by decide +kernel
theorem dX6_back_91 : decode cX6_back 91 = .ok (.aload_n 0, 1) := by decide +kernel
theorem dX6_back_92 : decode cX6_back 92 = .ok (.aload_n 0, 1) := by decide +kernel
theorem dX6_back_93 : decode cX6_back 93 = .ok (.getfield 336, 3) := by decide +kernel
theorem dX6_back_96 : decode cX6_back 96 = .ok (.putfield 273, 3) := by decide +kernel
theorem dX6_back_99 : decode cX6_back 99 = .ok (.aload_n 0, 1) := by decide +kernel
theorem dX6_back_100 : decode cX6_back 100 = .ok (.aload_n 0, 1) := by decide +kernel
theorem dX6_back_101 : decode cX6_back 101 = .ok (.getfield 339, 3) := by decide +kernel
theorem dX6_back_104 : decode cX6_back 104 = .ok (.putfield 245, 3) := by decide +kernel
theorem dX6_back_107 : decode cX6_back 107 = .ok (.aload_n 0, 1) := by decide +kernel
theorem dX6_back_108 : decode cX6_back 108 = .ok (.getfield 73, 3) := by decide +kernel
theorem dX6_back_111 : decode cX6_back 111 = .ok (.aload_n 0, 1) := by decide +kernel
theorem dX6_back_112 : decode cX6_back 112 = .ok (.getfield 80, 3) := by decide +kernel
theorem dX6_back_115 : decode cX6_back 115 = .ok (.invokestatic 304, 3) := by decide +kernel
theorem dX6_back_118 : decode cX6_back 118 = .ok (.isub, 1) := by decide +kernel
theorem dX6_back_119 : decode cX6_back 119 = .ok (.ireturn, 1) := by decide +kernel
theorem dX6_count_0 : decode cX6_count 0 = .ok (.iload_n 1, 1) := by decide +kernel
theorem dX6_count_1 : decode cX6_count 1 = .ok (.i2l, 1) := by decide +kernel
theorem dX6_count_2 : decode cX6_count 2 = .ok (.lconst 0, 1) := by decide +kernel
theorem dX6_count_3 : decode cX6_count 3 = .ok (.ldc2_w 342, 3) := by decide +kernel
theorem dX6_count_6 : decode cX6_count 6 = .ok (.invokestatic 76, 3) := by decide +kernel
theorem dX6_count_9 : decode cX6_count 9 = .ok (.ifCond .ne 6, 3) := by decide +kernel
theorem dX6_count_12 : decode cX6_count 12 = .ok (.bipush (-2), 2) := by decide +kernel
theorem dX6_count_14 : decode cX6_count 14 = .ok (.ireturn, 1) := by decide +kernel
theorem dX6_count_15 : decode cX6_count 15 = .ok (.iload_n 1, 1) := by decide +kernel
theorem dX6_count_16 : decode cX6_count 16 = .ok (.iconst 4, 1) := by decide +kernel
theorem dX6_count_17 : decode cX6_count 17 = .ok (.if_icmp .ge 46, 3) := by decide +kernel
theorem dX6_count_20 : decode cX6_count 20 = .ok (.iload_n 1, 1) := by decide +kernel
theorem dX6_count_21 : decode cX6_count 21 = .ok (.ifCond .ne 10, 3) := by decide +kernel
theorem dX6_count_24 : decode cX6_count 24 = .ok (.aload_n 0, 1) := by decide +kernel
theorem dX6_count_25 : decode cX6_count 25 = .ok (.getfield 73, 3) := by decide +kernel
theorem dX6_count_28 : decode cX6_count 28 = .ok (.goto 34, 3) := by decide +kernel
theorem dX6_count_31 : decode cX6_count 31 = .ok (.iload_n 1, 1) := by decide +kernel
theorem dX6_count_32 : decode cX6_count 32 = .ok (.iconst 1, 1) := by decide +kernel
theorem dX6_count_33 : decode cX6_count 33 = .ok (.if_icmp .ne 13, 3) := by decide +kernel
theorem dX6_count_36 : decode cX6_count 36 = .ok (.aload_n 0, 1) := by decide +kernel
theorem dX6_count_37 : decode cX6_count 37 = .ok (.getfield 80, 3) := by decide +kernel
theorem dX6_count_40 : decode cX6_count 40 = .ok (.invokestatic 304, 3) := by decide +kernel
theorem dX6_count_43 : decode cX6_count 43 = .ok (.goto 19, 3) := by decide +kernel
theorem dX6_count_46 : decode cX6_count 46 = .ok (.iload_n 1, 1) := by decide +kernel
theorem dX6_count_47 : decode cX6_count 47 = .ok (.iconst 2, 1) := by decide +kernel
theorem dX6_count_48 : decode cX6_count 48 = .ok (.if_icmp .ne 10, 3) := by decide +kernel
theorem dX6_count_51 : decode cX6_count 51 = .ok (.aload_n 0, 1) := by decide +kernel
theorem dX6_count_52 : decode cX6_count 52 = .ok (.getfield 105, 3) := by decide +kernel
theorem dX6_count_55 : decode cX6_count 55 = .ok (.goto 7, 3) := by decide +kernel
theorem dX6_count_58 : decode cX6_count 58 = .ok (.aload_n 0, 1) := by decide +kernel
theorem dX6_count_59 : decode cX6_count 59 = .ok (.getfield 35, 3) := by decide +kernel
theorem dX6_count_62 : decode cX6_count 62 = .ok (.ireturn, 1) := by decide +kernel
theorem dX6_count_63 : decode cX6_count 63 = .ok (.iload_n 1, 1) := by decide +kernel
theorem dX6_count_64 : decode cX6_count 64 = .ok (.bipush 6, 2) := by decide +kernel
theorem dX6_count_66 : decode cX6_count 66 = .ok (.if_icmp .ge 20, 3) := by decide +kernel
theorem dX6_count_69 : decode cX6_count 69 = .ok (.iload_n 1, 1) := by decide +kernel
theorem dX6_count_70 : decode cX6_count 70 = .ok (.iconst 4, 1) := by decide +kernel
theorem dX6_count_71 : decode cX6_count 71 = .ok (.if_icmp .ne 10, 3) := by decide +kernel
theorem dX6_count_74 : decode cX6_count 74 = .ok (.aload_n 0, 1) := by decide +kernel
theorem dX6_count_75 : decode cX6_count 75 = .ok (.getfield 276, 3) := by decide +kernel
end
section
theorem dX6_count_78 : decode cX6_count 78 = .ok (.goto 7, 3) := by decide +kernel
theorem dX6_count_81 : decode cX6_count 81 = .ok (.aload_n 0, 1) := by decide +kernel
theorem dX6_count_82 : decode cX6_count 82 = .ok (.getfield 273, 3) := by decide +kernel
theorem dX6_count_85 : decode cX6_count 85 = .ok (.ireturn, 1) := by decide +kernel
theorem dX6_count_86 : decode cX6_count 86 = .ok (.iload_n 1, 1) := by decide +kernel
theorem dX6_count_87 : decode cX6_count 87 = .ok (.bipush 6, 2) := by decide +kernel
theorem dX6_count_89 : decode cX6_count 89 = .ok (.if_icmp .ne 10, 3) := by decide +kernel
theorem dX6_count_92 : decode cX6_count 92 = .ok (.aload_n 0, 1) := by decide +kernel
theorem dX6_count_93 : decode cX6_count 93 = .ok (.getfield 70, 3) := by decide +kernel
theorem dX6_count_96 : decode cX6_count 96 = .ok (.goto 20, 3) := by decide +kernel
theorem dX6_count_99 : decode cX6_count 99 = .ok (.iload_n 1, 1) := by decide +kernel
theorem dX6_count_100 : decode cX6_count 100 = .ok (.bipush 7, 2) := by decide +kernel
theorem dX6_count_102 : decode cX6_count 102 = .ok (.if_icmp .ne 10, 3) := by decide +kernel
theorem dX6_count_105 : decode cX6_count 105 = .ok (.aload_n 0, 1) := by decide +kernel
theorem dX6_count_106 : decode cX6_count 106 = .ok (.getfield 128, 3) := by decide +kernel
theorem dX6_count_109 : decode cX6_count 109 = .ok (.goto 7, 3) := by decide +kernel
theorem dX6_count_112 : decode cX6_count 112 = .ok (.aload_n 0, 1) := by decide +kernel
theorem dX6_count_113 : decode cX6_count 113 = .ok (.getfield 245, 3) := by decide +kernel
theorem dX6_count_116 : decode cX6_count 116 = .ok (.ireturn, 1) := by decide +kernel
theorem dX6_isSheet_0 : decode cX6_isSheet 0 = .ok (.iload_n 0, 1) := by decide +kernel
theorem dX6_isSheet_1 : decode cX6_isSheet 1 = .ok (.i2l, 1) := by decide +kernel
theorem dX6_isSheet_2 : decode cX6_isSheet 2 = .ok (.lconst 0, 1) := by decide +kernel
theorem dX6_isSheet_3 : decode cX6_isSheet 3 = .ok (.ldc2_w 344, 3) := by decide +kernel
theorem dX6_isSheet_6 : decode cX6_isSheet 6 = .ok (.invokestatic 76, 3) := by decide +kernel
theorem dX6_isSheet_9 : decode cX6_isSheet 9 = .ok (.ireturn, 1) := by decide +kernel
theorem dX6_sheet_0 : decode cX6_sheet 0 = .ok (.iload_n 1, 1) := by decide +kernel
theorem dX6_sheet_1 : decode cX6_sheet 1 = .ok (.invokestatic 313, 3) := by decide +kernel
theorem dX6_sheet_4 : decode cX6_sheet 4 = .ok (.ifCond .eq 27, 3) := by decide +kernel
theorem dX6_sheet_7 : decode cX6_sheet 7 = .ok (.iload_n 2, 1) := by decide +kernel
theorem dX6_sheet_8 : decode cX6_sheet 8 = .ok (.i2l, 1) := by decide +kernel
theorem dX6_sheet_9 : decode cX6_sheet 9 = .ok (.ldc2_w 346, 3) := by decide +kernel
theorem dX6_sheet_12 : decode cX6_sheet 12 = .ok (.ldc2_w 348, 3) := by decide +kernel
theorem dX6_sheet_15 : decode cX6_sheet 15 = .ok (.invokestatic 76, 3) := by decide +kernel
theorem dX6_sheet_18 : decode cX6_sheet 18 = .ok (.ifCond .eq 13, 3) := by decide +kernel
theorem dX6_sheet_21 : decode cX6_sheet 21 = .ok (.iload_n 2, 1) := by decide +kernel
theorem dX6_sheet_22 : decode cX6_sheet 22 = .ok (.ifCond .lt 12, 3) := by decide +kernel
theorem dX6_sheet_25 : decode cX6_sheet 25 = .ok (.iload_n 3, 1) := by decide +kernel
theorem dX6_sheet_26 : decode cX6_sheet 26 = .ok (.bipush 40, 2) := by decide +kernel
theorem dX6_sheet_28 : decode cX6_sheet 28 = .ok (.if_icmp .le 6, 3) := by decide +kernel
theorem dX6_sheet_31 : decode cX6_sheet 31 = .ok (.bipush (-2), 2) := by decide +kernel
theorem dX6_sheet_33 : decode cX6_sheet 33 = .ok (.ireturn, 1) := by decide +kernel
theorem dX6_sheet_34 : decode cX6_sheet 34 = .ok (.iload_n 2, 1) := by decide +kernel
theorem dX6_sheet_35 : decode cX6_sheet 35 = .ok (.ifCond .lt 10, 3) := by decide +kernel
theorem dX6_sheet_38 : decode cX6_sheet 38 = .ok (.iload_n 3, 1) := by decide +kernel
theorem dX6_sheet_39 : decode cX6_sheet 39 = .ok (.ifCond .ge 6, 3) := by decide +kernel
theorem dX6_sheet_42 : decode cX6_sheet 42 = .ok (.bipush (-14), 2) := by decide +kernel
theorem dX6_sheet_44 : decode cX6_sheet 44 = .ok (.ireturn, 1) := by decide +kernel
theorem dX6_sheet_45 : decode cX6_sheet 45 = .ok (.aload_n 0, 1) := by decide +kernel
theorem dX6_sheet_46 : decode cX6_sheet 46 = .ok (.getfield 53, 3) := by decide +kernel
theorem dX6_sheet_49 : decode cX6_sheet 49 = .ok (.iload_n 1, 1) := by decide +kernel
theorem dX6_sheet_50 : decode cX6_sheet 50 = .ok (.iload_n 2, 1) := by decide +kernel
theorem dX6_sheet_51 : decode cX6_sheet 51 = .ok (.ifCond .lt 7, 3) := by decide +kernel
theorem dX6_sheet_54 : decode cX6_sheet 54 = .ok (.iconst 1, 1) := by decide +kernel
theorem dX6_sheet_55 : decode cX6_sheet 55 = .ok (.goto 4, 3) := by decide +kernel
theorem dX6_sheet_58 : decode cX6_sheet 58 = .ok (.iconst 0, 1) := by decide +kernel
theorem dX6_sheet_59 : decode cX6_sheet 59 = .ok (.bastore, 1) := by decide +kernel
theorem dX6_sheet_60 : decode cX6_sheet 60 = .ok (.aload_n 0, 1) := by decide +kernel
theorem dX6_sheet_61 : decode cX6_sheet 61 = .ok (.getfield 57, 3) := by decide +kernel
theorem dX6_sheet_64 : decode cX6_sheet 64 = .ok (.iload_n 1, 1) := by decide +kernel
theorem dX6_sheet_65 : decode cX6_sheet 65 = .ok (.iload_n 2, 1) := by decide +kernel
theorem dX6_sheet_66 : decode cX6_sheet 66 = .ok (.iastore, 1) := by decide +kernel
theorem dX6_sheet_67 : decode cX6_sheet 67 = .ok (.aload_n 0, 1) := by decide +kernel
theorem dX6_sheet_68 : decode cX6_sheet 68 = .ok (.getfield 60, 3) := by decide +kernel
theorem dX6_sheet_71 : decode cX6_sheet 71 = .ok (.iload_n 1, 1) := by decide +kernel
theorem dX6_sheet_72 : decode cX6_sheet 72 = .ok (.iload_n 3, 1) := by decide +kernel
theorem dX6_sheet_73 : decode cX6_sheet 73 = .ok (.iastore, 1) := by decide +kernel
theorem dX6_sheet_74 : decode cX6_sheet 74 = .ok (.iconst 0, 1) := by decide +kernel
theorem dX6_sheet_75 : decode cX6_sheet 75 = .ok (.istore 4, 2) := by decide +kernel
theorem dX6_sheet_77 : decode cX6_sheet 77 = .ok (.iload 4, 2) := by decide +kernel
theorem dX6_sheet_79 : decode cX6_sheet 79 = .ok (.iload_n 3, 1) := by decide +kernel
theorem dX6_sheet_80 : decode cX6_sheet 80 = .ok (.if_icmp .ge 26, 3) := by decide +kernel
theorem dX6_sheet_83 : decode cX6_sheet 83 = .ok (.iload_n 2, 1) := by decide +kernel
theorem dX6_sheet_84 : decode cX6_sheet 84 = .ok (.ifCond .lt 22, 3) := by decide +kernel
theorem dX6_sheet_87 : decode cX6_sheet 87 = .ok (.aload_n 0, 1) := by decide +kernel
theorem dX6_sheet_88 : decode cX6_sheet 88 = .ok (.getfield 63, 3) := by decide +kernel
theorem dX6_sheet_91 : decode cX6_sheet 91 = .ok (.bipush 40, 2) := by decide +kernel
theorem dX6_sheet_93 : decode cX6_sheet 93 = .ok (.iload_n 1, 1) := by decide +kernel
theorem dX6_sheet_94 : decode cX6_sheet 94 = .ok (.imul, 1) := by decide +kernel
theorem dX6_sheet_95 : decode cX6_sheet 95 = .ok (.iload 4, 2) := by decide +kernel
theorem dX6_sheet_97 : decode cX6_sheet 97 = .ok (.iadd, 1) := by decide +kernel
theorem dX6_sheet_98 : decode cX6_sheet 98 = .ok (.iconst 0, 1) := by decide +kernel
theorem dX6_sheet_99 : decode cX6_sheet 99 = .ok (.iastore, 1) := by decide +kernel
theorem dX6_sheet_100 : decode cX6_sheet 100 = .ok (.iinc 4 1, 3) := by decide +kernel
theorem dX6_sheet_103 : decode cX6_sheet 103 = .ok (.goto (-26), 3) := by decide +kernel
theorem dX6_sheet_106 : decode cX6_sheet 106 = .ok (.iconst 1, 1) := by decide +kernel
theorem dX6_sheet_107 : decode cX6_sheet 107 = .ok (.ireturn, 1) := by decide +kernel
theorem dX6_cell_0 : decode cX6_cell 0 = .ok (.iload_n 1, 1) := by decide +kernel
theorem dX6_cell_1 : decode cX6_cell 1 = .ok (.invokestatic 313, 3) := by decide +kernel
theorem dX6_cell_4 : decode cX6_cell 4 = .ok (.ifCond .ne 6, 3) := by decide +kernel
theorem dX6_cell_7 : decode cX6_cell 7 = .ok (.bipush (-2), 2) := by decide +kernel
theorem dX6_cell_9 : decode cX6_cell 9 = .ok (.ireturn, 1) := by decide +kernel
theorem dX6_cell_10 : decode cX6_cell 10 = .ok (.aload_n 0, 1) := by decide +kernel
theorem dX6_cell_11 : decode cX6_cell 11 = .ok (.getfield 53, 3) := by decide +kernel
theorem dX6_cell_14 : decode cX6_cell 14 = .ok (.iload_n 1, 1) := by decide +kernel
theorem dX6_cell_15 : decode cX6_cell 15 = .ok (.baload, 1) := by decide +kernel
theorem dX6_cell_16 : decode cX6_cell 16 = .ok (.ifCond .ne 6, 3) := by decide +kernel
theorem dX6_cell_19 : decode cX6_cell 19 = .ok (.bipush (-11), 2) := by decide +kernel
theorem dX6_cell_21 : decode cX6_cell 21 = .ok (.ireturn, 1) := by decide +kernel
theorem dX6_cell_22 : decode cX6_cell 22 = .ok (.iload_n 2, 1) := by decide +kernel
theorem dX6_cell_23 : decode cX6_cell 23 = .ok (.i2l, 1) := by decide +kernel
theorem dX6_cell_24 : decode cX6_cell 24 = .ok (.lconst 0, 1) := by decide +kernel
theorem dX6_cell_25 : decode cX6_cell 25 = .ok (.aload_n 0, 1) := by decide +kernel
theorem dX6_cell_26 : decode cX6_cell 26 = .ok (.getfield 60, 3) := by decide +kernel
theorem dX6_cell_29 : decode cX6_cell 29 = .ok (.iload_n 1, 1) := by decide +kernel
theorem dX6_cell_30 : decode cX6_cell 30 = .ok (.iaload, 1) := by decide +kernel
theorem dX6_cell_31 : decode cX6_cell 31 = .ok (.iconst 1, 1) := by decide +kernel
theorem dX6_cell_32 : decode cX6_cell 32 = .ok (.isub, 1) := by decide +kernel
theorem dX6_cell_33 : decode cX6_cell 33 = .ok (.i2l, 1) := by decide +kernel
theorem dX6_cell_34 : decode cX6_cell 34 = .ok (.invokestatic 76, 3) := by decide +kernel
theorem dX6_cell_37 : decode cX6_cell 37 = .ok (.ifCond .ne 6, 3) := by decide +kernel
theorem dX6_cell_40 : decode cX6_cell 40 = .ok (.bipush (-12), 2) := by decide +kernel
theorem dX6_cell_42 : decode cX6_cell 42 = .ok (.ireturn, 1) := by decide +kernel
theorem dX6_cell_43 : decode cX6_cell 43 = .ok (.aload_n 0, 1) := by decide +kernel
theorem dX6_cell_44 : decode cX6_cell 44 = .ok (.getfield 63, 3) := by decide +kernel
theorem dX6_cell_47 : decode cX6_cell 47 = .ok (.bipush 40, 2) := by decide +kernel
theorem dX6_cell_49 : decode cX6_cell 49 = .ok (.iload_n 1, 1) := by decide +kernel
theorem dX6_cell_50 : decode cX6_cell 50 = .ok (.imul, 1) := by decide +kernel
theorem dX6_cell_51 : decode cX6_cell 51 = .ok (.iload_n 2, 1) := by decide +kernel
theorem dX6_cell_52 : decode cX6_cell 52 = .ok (.iadd, 1) := by decide +kernel
theorem dX6_cell_53 : decode cX6_cell 53 = .ok (.aload_n 0, 1) := by decide +kernel
theorem dX6_cell_54 : decode cX6_cell 54 = .ok (.getfield 57, 3) := by decide +kernel
theorem dX6_cell_57 : decode cX6_cell 57 = .ok (.iload_n 1, 1) := by decide +kernel
theorem dX6_cell_58 : decode cX6_cell 58 = .ok (.iaload, 1) := by decide +kernel
theorem dX6_cell_59 : decode cX6_cell 59 = .ok (.ifCond .ne 8, 3) := by decide +kernel
theorem dX6_cell_62 : decode cX6_cell 62 = .ok (.iload_n 3, 1) := by decide +kernel
theorem dX6_cell_63 : decode cX6_cell 63 = .ok (.i2b, 1) := by decide +kernel
theorem dX6_cell_64 : decode cX6_cell 64 = .ok (.goto 19, 3) := by decide +kernel
theorem dX6_cell_67 : decode cX6_cell 67 = .ok (.aload_n 0, 1) := by decide +kernel
theorem dX6_cell_68 : decode cX6_cell 68 = .ok (.getfield 57, 3) := by decide +kernel
theorem dX6_cell_71 : decode cX6_cell 71 = .ok (.iload_n 1, 1) := by decide +kernel
theorem dX6_cell_72 : decode cX6_cell 72 = .ok (.iaload, 1) := by decide +kernel
theorem dX6_cell_73 : decode cX6_cell 73 = .ok (.iconst 1, 1) := by decide +kernel
theorem dX6_cell_74 : decode cX6_cell 74 = .ok (.if_icmp .ne 8, 3) := by decide +kernel
theorem dX6_cell_77 : decode cX6_cell 77 = .ok (.iload_n 3, 1) := by decide +kernel
theorem dX6_cell_78 : decode cX6_cell 78 = .ok (.i2s, 1) := by decide +kernel
theorem dX6_cell_79 : decode cX6_cell 79 = .ok (.goto 4, 3) := by decide +kernel
theorem dX6_cell_82 : decode cX6_cell 82 = .ok (.iload_n 3, 1) := by decide +kernel
theorem dX6_cell_83 : decode cX6_cell 83 = .ok (.iastore, 1) := by decide +kernel
theorem dX6_cell_84 : decode cX6_cell 84 = .ok (.iconst 1, 1) := by decide +kernel
theorem dX6_cell_85 : decode cX6_cell 85 = .ok (.ireturn, 1) := by decide +kernel
theorem dX6_copy_0 : decode cX6_copy 0 = .ok (.iload_n 1, 1) := by decide +kernel
theorem dX6_copy_1 : decode cX6_copy 1 = .ok (.invokestatic 313, 3) := by decide +kernel
theorem dX6_copy_4 : decode cX6_copy 4 = .ok (.ifCond .eq 10, 3) := by decide +kernel
theorem dX6_copy_7 : decode cX6_copy 7 = .ok (.iload_n 3, 1) := by decide +kernel
theorem dX6_copy_8 : decode cX6_copy 8 = .ok (.invokestatic 313, 3) := by decide +kernel
theorem dX6_copy_11 : decode cX6_copy 11 = .ok (.ifCond .ne 6, 3) := by decide +kernel
theorem dX6_copy_14 : decode cX6_copy 14 = .ok (.bipush (-2), 2) := by decide +kernel
theorem dX6_copy_16 : decode cX6_copy 16 = .ok (.ireturn, 1) := by decide +kernel
theorem dX6_copy_17 : decode cX6_copy 17 = .ok (.aload_n 0, 1) := by decide +kernel
theorem dX6_copy_18 : decode cX6_copy 18 = .ok (.getfield 53, 3) := by decide +kernel
theorem dX6_copy_21 : decode cX6_copy 21 = .ok (.iload_n 1, 1) := by decide +kernel
theorem dX6_copy_22 : decode cX6_copy 22 = .ok (.baload, 1) := by decide +kernel
theorem dX6_copy_23 : decode cX6_copy 23 = .ok (.ifCond .eq 12, 3) := by decide +kernel
theorem dX6_copy_26 : decode cX6_copy 26 = .ok (.aload_n 0, 1) := by decide +kernel
theorem dX6_copy_27 : decode cX6_copy 27 = .ok (.getfield 53, 3) := by decide +kernel
theorem dX6_copy_30 : decode cX6_copy 30 = .ok (.iload_n 3, 1) := by decide +kernel
theorem dX6_copy_31 : decode cX6_copy 31 = .ok (.baload, 1) := by decide +kernel
theorem dX6_copy_32 : decode cX6_copy 32 = .ok (.ifCond .ne 6, 3) := by decide +kernel
theorem dX6_copy_35 : decode cX6_copy 35 = .ok (.bipush (-11), 2) := by decide +kernel
theorem dX6_copy_37 : decode cX6_copy 37 = .ok (.ireturn, 1) := by decide +kernel
theorem dX6_copy_38 : decode cX6_copy 38 = .ok (.aload_n 0, 1) := by decide +kernel
theorem dX6_copy_39 : decode cX6_copy 39 = .ok (.getfield 57, 3) := by decide +kernel
theorem dX6_copy_42 : decode cX6_copy 42 = .ok (.iload_n 1, 1) := by decide +kernel
theorem dX6_copy_43 : decode cX6_copy 43 = .ok (.iaload, 1) := by decide +kernel
theorem dX6_copy_44 : decode cX6_copy 44 = .ok (.aload_n 0, 1) := by decide +kernel
theorem dX6_copy_45 : decode cX6_copy 45 = .ok (.getfield 57, 3) := by decide +kernel
theorem dX6_copy_48 : decode cX6_copy 48 = .ok (.iload_n 3, 1) := by decide +kernel
theorem dX6_copy_49 : decode cX6_copy 49 = .ok (.iaload, 1) := by decide +kernel
theorem dX6_copy_50 : decode cX6_copy 50 = .ok (.if_icmp .eq 6, 3) := by decide +kernel
theorem dX6_copy_53 : decode cX6_copy 53 = .ok (.bipush (-13), 2) := by decide +kernel
theorem dX6_copy_55 : decode cX6_copy 55 = .ok (.ireturn, 1) := by decide +kernel
theorem dX6_copy_56 : decode cX6_copy 56 = .ok (.iload 5, 2) := by decide +kernel
theorem dX6_copy_58 : decode cX6_copy 58 = .ok (.ifCond .lt 39, 3) := by decide +kernel
theorem dX6_copy_61 : decode cX6_copy 61 = .ok (.iload_n 2, 1) := by decide +kernel
theorem dX6_copy_62 : decode cX6_copy 62 = .ok (.ifCond .lt 35, 3) := by decide +kernel
theorem dX6_copy_65 : decode cX6_copy 65 = .ok (.iload 4, 2) := by decide +kernel
theorem dX6_copy_67 : decode cX6_copy 67 = .ok (.ifCond .lt 30, 3) := by decide +kernel
theorem dX6_copy_70 : decode cX6_copy 70 = .ok (.iload_n 2, 1) := by decide +kernel
theorem dX6_copy_71 : decode cX6_copy 71 = .ok (.aload_n 0, 1) := by decide +kernel
theorem dX6_copy_72 : decode cX6_copy 72 = .ok (.getfield 60, 3) := by decide +kernel
theorem dX6_copy_75 : decode cX6_copy 75 = .ok (.iload_n 1, 1) := by decide +kernel
theorem dX6_copy_76 : decode cX6_copy 76 = .ok (.iaload, 1) := by decide +kernel
theorem dX6_copy_77 : decode cX6_copy 77 = .ok (.iload 5, 2) := by decide +kernel
theorem dX6_copy_79 : decode cX6_copy 79 = .ok (.isub, 1) := by decide +kernel
theorem dX6_copy_80 : decode cX6_copy 80 = .ok (.if_icmp .gt 17, 3) := by decide +kernel
theorem dX6_copy_83 : decode cX6_copy 83 = .ok (.iload 4, 2) := by decide +kernel
theorem dX6_copy_85 : decode cX6_copy 85 = .ok (.aload_n 0, 1) := by decide +kernel
theorem dX6_copy_86 : decode cX6_copy 86 = .ok (.getfield 60, 3) := by decide +kernel
theorem dX6_copy_89 : decode cX6_copy 89 = .ok (.iload_n 3, 1) := by decide +kernel
theorem dX6_copy_90 : decode cX6_copy 90 = .ok (.iaload, 1) := by decide +kernel
theorem dX6_copy_91 : decode cX6_copy 91 = .ok (.iload 5, 2) := by decide +kernel
theorem dX6_copy_93 : decode cX6_copy 93 = .ok (.isub, 1) := by decide +kernel
theorem dX6_copy_94 : decode cX6_copy 94 = .ok (.if_icmp .le 6, 3) := by decide +kernel
theorem dX6_copy_97 : decode cX6_copy 97 = .ok (.bipush (-12), 2) := by decide +kernel
theorem dX6_copy_99 : decode cX6_copy 99 = .ok (.ireturn, 1) := by decide +kernel
theorem dX6_copy_100 : decode cX6_copy 100 = .ok (.iload_n 1, 1) := by decide +kernel
theorem dX6_copy_101 : decode cX6_copy 101 = .ok (.iload_n 3, 1) := by decide +kernel
theorem dX6_copy_102 : decode cX6_copy 102 = .ok (.if_icmp .ne 13, 3) := by decide +kernel
theorem dX6_copy_105 : decode cX6_copy 105 = .ok (.iload_n 2, 1) := by decide +kernel
theorem dX6_copy_106 : decode cX6_copy 106 = .ok (.iload 4, 2) := by decide +kernel
theorem dX6_copy_108 : decode cX6_copy 108 = .ok (.if_icmp .ge 7, 3) := by decide +kernel
theorem dX6_copy_111 : decode cX6_copy 111 = .ok (.iconst 1, 1) := by decide +kernel
theorem dX6_copy_112 : decode cX6_copy 112 = .ok (.goto 4, 3) := by decide +kernel
theorem dX6_copy_115 : decode cX6_copy 115 = .ok (.iconst 0, 1) := by decide +kernel
theorem dX6_copy_116 : decode cX6_copy 116 = .ok (.istore 6, 2) := by decide +kernel
theorem dX6_copy_118 : decode cX6_copy 118 = .ok (.iconst 0, 1) := by decide +kernel
theorem dX6_copy_119 : decode cX6_copy 119 = .ok (.istore 7, 2) := by decide +kernel
theorem dX6_copy_121 : decode cX6_copy 121 = .ok (.iload 7, 2) := by decide +kernel
theorem dX6_copy_123 : decode cX6_copy 123 = .ok (.iload 5, 2) := by decide +kernel
theorem dX6_copy_125 : decode cX6_copy 125 = .ok (.if_icmp .ge 57, 3) := by decide +kernel
theorem dX6_copy_128 : decode cX6_copy 128 = .ok (.iload 6, 2) := by decide +kernel
theorem dX6_copy_130 : decode cX6_copy 130 = .ok (.ifCond .eq 13, 3) := by decide +kernel
theorem dX6_copy_133 : decode cX6_copy 133 = .ok (.iload 5, 2) := by decide +kernel
theorem dX6_copy_135 : decode cX6_copy 135 = .ok (.iconst 1, 1) := by decide +kernel
theorem dX6_copy_136 : decode cX6_copy 136 = .ok (.isub, 1) := by decide +kernel
theorem dX6_copy_137 : decode cX6_copy 137 = .ok (.iload 7, 2) := by decide +kernel
theorem dX6_copy_139 : decode cX6_copy 139 = .ok (.isub, 1) := by decide +kernel
theorem dX6_copy_140 : decode cX6_copy 140 = .ok (.goto 5, 3) := by decide +kernel
theorem dX6_copy_143 : decode cX6_copy 143 = .ok (.iload 7, 2) := by decide +kernel
theorem dX6_copy_145 : decode cX6_copy 145 = .ok (.istore 8, 2) := by decide +kernel
theorem dX6_copy_147 : decode cX6_copy 147 = .ok (.aload_n 0, 1) := by decide +kernel
theorem dX6_copy_148 : decode cX6_copy 148 = .ok (.getfield 63, 3) := by decide +kernel
theorem dX6_copy_151 : decode cX6_copy 151 = .ok (.bipush 40, 2) := by decide +kernel
theorem dX6_copy_153 : decode cX6_copy 153 = .ok (.iload_n 3, 1) := by decide +kernel
theorem dX6_copy_154 : decode cX6_copy 154 = .ok (.imul, 1) := by decide +kernel
theorem dX6_copy_155 : decode cX6_copy 155 = .ok (.iload 4, 2) := by decide +kernel
theorem dX6_copy_157 : decode cX6_copy 157 = .ok (.iadd, 1) := by decide +kernel
theorem dX6_copy_158 : decode cX6_copy 158 = .ok (.iload 8, 2) := by decide +kernel
theorem dX6_copy_160 : decode cX6_copy 160 = .ok (.iadd, 1) := by decide +kernel
theorem dX6_copy_161 : decode cX6_copy 161 = .ok (.aload_n 0, 1) := by decide +kernel
theorem dX6_copy_162 : decode cX6_copy 162 = .ok (.getfield 63, 3) := by decide +kernel
theorem dX6_copy_165 : decode cX6_copy 165 = .ok (.bipush 40, 2) := by decide +kernel
theorem dX6_copy_167 : decode cX6_copy 167 = .ok (.iload_n 1, 1) := by decide +kernel
theorem dX6_copy_168 : decode cX6_copy 168 = .ok (.imul, 1) := by decide +kernel
theorem dX6_copy_169 : decode cX6_copy 169 = .ok (.iload_n 2, 1) := by decide +kernel
theorem dX6_copy_170 : decode cX6_copy 170 = .ok (.iadd, 1) := by decide +kernel
theorem dX6_copy_171 : decode cX6_copy 171 = .ok (.iload 8, 2) := by decide +kernel
theorem dX6_copy_173 : decode cX6_copy 173 = .ok (.iadd, 1) := by decide +kernel
theorem dX6_copy_174 : decode cX6_copy 174 = .ok (.iaload, 1) := by decide +kernel
theorem dX6_copy_175 : decode cX6_copy 175 = .ok (.iastore, 1) := by decide +kernel
theorem dX6_copy_176 : decode cX6_copy 176 = .ok (.iinc 7 1, 3) := by decide +kernel
theorem dX6_copy_179 : decode cX6_copy 179 = .ok (.goto (-58), 3) := by decide +kernel
theorem dX6_copy_182 : decode cX6_copy 182 = .ok (.iload 5, 2) := by decide +kernel
theorem dX6_copy_184 : decode cX6_copy 184 = .ok (.ireturn, 1) := by decide +kernel
theorem dX6_finds_0 : decode cX6_finds 0 = .ok (.iload_n 1, 1) := by decide +kernel
theorem dX6_finds_1 : decode cX6_finds 1 = .ok (.invokestatic 313, 3) := by decide +kernel
theorem dX6_finds_4 : decode cX6_finds 4 = .ok (.ifCond .eq 28, 3) := by decide +kernel
theorem dX6_finds_7 : decode cX6_finds 7 = .ok (.iload_n 2, 1) := by decide +kernel
theorem dX6_finds_8 : decode cX6_finds 8 = .ok (.i2l, 1) := by decide +kernel
theorem dX6_finds_9 : decode cX6_finds 9 = .ok (.lconst 0, 1) := by decide +kernel
theorem dX6_finds_10 : decode cX6_finds 10 = .ok (.ldc2_w 348, 3) := by decide +kernel
theorem dX6_finds_13 : decode cX6_finds 13 = .ok (.invokestatic 76, 3) := by decide +kernel
theorem dX6_finds_16 : decode cX6_finds 16 = .ok (.ifCond .eq 16, 3) := by decide +kernel
theorem dX6_finds_19 : decode cX6_finds 19 = .ok (.iload 4, 2) := by decide +kernel
theorem dX6_finds_21 : decode cX6_finds 21 = .ok (.i2l, 1) := by decide +kernel
theorem dX6_finds_22 : decode cX6_finds 22 = .ok (.lconst 0, 1) := by decide +kernel
theorem dX6_finds_23 : decode cX6_finds 23 = .ok (.ldc2_w 317, 3) := by decide +kernel
theorem dX6_finds_26 : decode cX6_finds 26 = .ok (.invokestatic 76, 3) := by decide +kernel
theorem dX6_finds_29 : decode cX6_finds 29 = .ok (.ifCond .ne 6, 3) := by decide +kernel
theorem dX6_finds_32 : decode cX6_finds 32 = .ok (.bipush (-2), 2) := by decide +kernel
theorem dX6_finds_34 : decode cX6_finds 34 = .ok (.ireturn, 1) := by decide +kernel
theorem dX6_finds_35 : decode cX6_finds 35 = .ok (.aload_n 0, 1) := by decide +kernel
theorem dX6_finds_36 : decode cX6_finds 36 = .ok (.getfield 53, 3) := by decide +kernel
theorem dX6_finds_39 : decode cX6_finds 39 = .ok (.iload_n 1, 1) := by decide +kernel
theorem dX6_finds_40 : decode cX6_finds 40 = .ok (.baload, 1) := by decide +kernel
theorem dX6_finds_41 : decode cX6_finds 41 = .ok (.ifCond .eq 16, 3) := by decide +kernel
theorem dX6_finds_44 : decode cX6_finds 44 = .ok (.aload_n 0, 1) := by decide +kernel
theorem dX6_finds_45 : decode cX6_finds 45 = .ok (.getfield 57, 3) := by decide +kernel
theorem dX6_finds_48 : decode cX6_finds 48 = .ok (.iload_n 1, 1) := by decide +kernel
theorem dX6_finds_49 : decode cX6_finds 49 = .ok (.iaload, 1) := by decide +kernel
theorem dX6_finds_50 : decode cX6_finds 50 = .ok (.iload_n 2, 1) := by decide +kernel
theorem dX6_finds_51 : decode cX6_finds 51 = .ok (.if_icmp .eq 6, 3) := by decide +kernel
theorem dX6_finds_54 : decode cX6_finds 54 = .ok (.bipush (-13), 2) := by decide +kernel
theorem dX6_finds_56 : decode cX6_finds 56 = .ok (.ireturn, 1) := by decide +kernel
theorem dX6_finds_57 : decode cX6_finds 57 = .ok (.aload_n 0, 1) := by decide +kernel
theorem dX6_finds_58 : decode cX6_finds 58 = .ok (.getfield 53, 3) := by decide +kernel
theorem dX6_finds_61 : decode cX6_finds 61 = .ok (.iload_n 1, 1) := by decide +kernel
theorem dX6_finds_62 : decode cX6_finds 62 = .ok (.baload, 1) := by decide +kernel
theorem dX6_finds_63 : decode cX6_finds 63 = .ok (.ifCond .ne 6, 3) := by decide +kernel
theorem dX6_finds_66 : decode cX6_finds 66 = .ok (.bipush (-11), 2) := by decide +kernel
theorem dX6_finds_68 : decode cX6_finds 68 = .ok (.ireturn, 1) := by decide +kernel
theorem dX6_finds_69 : decode cX6_finds 69 = .ok (.iconst 0, 1) := by decide +kernel
theorem dX6_finds_70 : decode cX6_finds 70 = .ok (.istore 5, 2) := by decide +kernel
theorem dX6_finds_72 : decode cX6_finds 72 = .ok (.iconst 0, 1) := by decide +kernel
theorem dX6_finds_73 : decode cX6_finds 73 = .ok (.istore 6, 2) := by decide +kernel
theorem dX6_finds_75 : decode cX6_finds 75 = .ok (.iload 6, 2) := by decide +kernel
theorem dX6_finds_77 : decode cX6_finds 77 = .ok (.iload 4, 2) := by decide +kernel
theorem dX6_finds_79 : decode cX6_finds 79 = .ok (.if_icmp .ge 88, 3) := by decide +kernel
theorem dX6_finds_82 : decode cX6_finds 82 = .ok (.iload_n 3, 1) := by decide +kernel
theorem dX6_finds_83 : decode cX6_finds 83 = .ok (.ifCond .lt 20, 3) := by decide +kernel
theorem dX6_finds_86 : decode cX6_finds 86 = .ok (.iload_n 3, 1) := by decide +kernel
theorem dX6_finds_87 : decode cX6_finds 87 = .ok (.aload_n 0, 1) := by decide +kernel
theorem dX6_finds_88 : decode cX6_finds 88 = .ok (.getfield 60, 3) := by decide +kernel
theorem dX6_finds_91 : decode cX6_finds 91 = .ok (.iload_n 1, 1) := by decide +kernel
theorem dX6_finds_92 : decode cX6_finds 92 = .ok (.iaload, 1) := by decide +kernel
theorem dX6_finds_93 : decode cX6_finds 93 = .ok (.iconst 3, 1) := by decide +kernel
theorem dX6_finds_94 : decode cX6_finds 94 = .ok (.iload 6, 2) := by decide +kernel
theorem dX6_finds_96 : decode cX6_finds 96 = .ok (.imul, 1) := by decide +kernel
theorem dX6_finds_97 : decode cX6_finds 97 = .ok (.isub, 1) := by decide +kernel
theorem dX6_finds_98 : decode cX6_finds 98 = .ok (.iconst 3, 1) := by decide +kernel
theorem dX6_finds_99 : decode cX6_finds 99 = .ok (.isub, 1) := by decide +kernel
theorem dX6_finds_100 : decode cX6_finds 100 = .ok (.if_icmp .le 6, 3) := by decide +kernel
theorem dX6_finds_103 : decode cX6_finds 103 = .ok (.bipush (-12), 2) := by decide +kernel
theorem dX6_finds_105 : decode cX6_finds 105 = .ok (.ireturn, 1) := by decide +kernel
theorem dX6_finds_106 : decode cX6_finds 106 = .ok (.bipush 40, 2) := by decide +kernel
theorem dX6_finds_108 : decode cX6_finds 108 = .ok (.iload_n 1, 1) := by decide +kernel
theorem dX6_finds_109 : decode cX6_finds 109 = .ok (.imul, 1) := by decide +kernel
theorem dX6_finds_110 : decode cX6_finds 110 = .ok (.iload_n 3, 1) := by decide +kernel
theorem dX6_finds_111 : decode cX6_finds 111 = .ok (.iadd, 1) := by decide +kernel
theorem dX6_finds_112 : decode cX6_finds 112 = .ok (.iconst 3, 1) := by decide +kernel
theorem dX6_finds_113 : decode cX6_finds 113 = .ok (.iload 6, 2) := by decide +kernel
theorem dX6_finds_115 : decode cX6_finds 115 = .ok (.imul, 1) := by decide +kernel
theorem dX6_finds_116 : decode cX6_finds 116 = .ok (.iadd, 1) := by decide +kernel
theorem dX6_finds_117 : decode cX6_finds 117 = .ok (.istore 7, 2) := by decide +kernel
theorem dX6_finds_119 : decode cX6_finds 119 = .ok (.iload 5, 2) := by decide +kernel
theorem dX6_finds_121 : decode cX6_finds 121 = .ok (.aload_n 0, 1) := by decide +kernel
theorem dX6_finds_122 : decode cX6_finds 122 = .ok (.aload_n 0, 1) := by decide +kernel
theorem dX6_finds_123 : decode cX6_finds 123 = .ok (.getfield 63, 3) := by decide +kernel
theorem dX6_finds_126 : decode cX6_finds 126 = .ok (.iload 7, 2) := by decide +kernel
theorem dX6_finds_128 : decode cX6_finds 128 = .ok (.iaload, 1) := by decide +kernel
theorem dX6_finds_129 : decode cX6_finds 129 = .ok (.aload_n 0, 1) := by decide +kernel
theorem dX6_finds_130 : decode cX6_finds 130 = .ok (.getfield 63, 3) := by decide +kernel
theorem dX6_finds_133 : decode cX6_finds 133 = .ok (.iload 7, 2) := by decide +kernel
theorem dX6_finds_135 : decode cX6_finds 135 = .ok (.iconst 1, 1) := by decide +kernel
theorem dX6_finds_136 : decode cX6_finds 136 = .ok (.iadd, 1) := by decide +kernel
theorem dX6_finds_137 : decode cX6_finds 137 = .ok (.iaload, 1) := by decide +kernel
theorem dX6_finds_138 : decode cX6_finds 138 = .ok (.aload_n 0, 1) := by decide +kernel
theorem dX6_finds_139 : decode cX6_finds 139 = .ok (.getfield 63, 3) := by decide +kernel
theorem dX6_finds_142 : decode cX6_finds 142 = .ok (.iload 7, 2) := by decide +kernel
theorem dX6_finds_144 : decode cX6_finds 144 = .ok (.iconst 2, 1) := by decide +kernel
theorem dX6_finds_145 : decode cX6_finds 145 = .ok (.iadd, 1) := by decide +kernel
theorem dX6_finds_146 : decode cX6_finds 146 = .ok (.iaload, 1) := by decide +kernel
theorem dX6_finds_147 : decode cX6_finds 147 = .ok (.invokevirtual 350, 3) := by decide +kernel
theorem dX6_finds_150 : decode cX6_finds 150 = .ok (.ifCond .lt 7, 3) := by decide +kernel
theorem dX6_finds_153 : decode cX6_finds 153 = .ok (.iconst 1, 1) := by decide +kernel
theorem dX6_finds_154 : decode cX6_finds 154 = .ok (.goto 4, 3) := by decide +kernel
theorem dX6_finds_157 : decode cX6_finds 157 = .ok (.iconst 0, 1) := by decide +kernel
theorem dX6_finds_158 : decode cX6_finds 158 = .ok (.iadd, 1) := by decide +kernel
theorem dX6_finds_159 : decode cX6_finds 159 = .ok (.istore 5, 2) := by decide +kernel
theorem dX6_finds_161 : decode cX6_finds 161 = .ok (.iinc 6 1, 3) := by decide +kernel
theorem dX6_finds_164 : decode cX6_finds 164 = .ok (.goto (-89), 3) := by decide +kernel
theorem dX6_finds_167 : decode cX6_finds 167 = .ok (.iload 5, 2) := by decide +kernel
theorem dX6_finds_169 : decode cX6_finds 169 = .ok (.ireturn, 1) := by decide +kernel
theorem dX6_over_0 : decode cX6_over 0 = .ok (.iload_n 0, 1) := by decide +kernel
theorem dX6_over_1 : decode cX6_over 1 = .ok (.ifCond .ne 7, 3) := by decide +kernel
theorem dX6_over_4 : decode cX6_over 4 = .ok (.iconst (-1), 1) := by decide +kernel
theorem dX6_over_5 : decode cX6_over 5 = .ok (.goto 18, 3) := by decide +kernel
theorem dX6_over_8 : decode cX6_over 8 = .ok (.iload_n 0, 1) := by decide +kernel
theorem dX6_over_9 : decode cX6_over 9 = .ok (.iconst 3, 1) := by decide +kernel
theorem dX6_over_10 : decode cX6_over 10 = .ok (.if_icmp .eq 8, 3) := by decide +kernel
theorem dX6_over_13 : decode cX6_over 13 = .ok (.iload_n 0, 1) := by decide +kernel
theorem dX6_over_14 : decode cX6_over 14 = .ok (.iconst 5, 1) := by decide +kernel
theorem dX6_over_15 : decode cX6_over 15 = .ok (.if_icmp .ne 7, 3) := by decide +kernel
theorem dX6_over_18 : decode cX6_over 18 = .ok (.iconst 1, 1) := by decide +kernel
theorem dX6_over_19 : decode cX6_over 19 = .ok (.goto 4, 3) := by decide +kernel
theorem dX6_over_22 : decode cX6_over 22 = .ok (.iconst 0, 1) := by decide +kernel
theorem dX6_over_23 : decode cX6_over 23 = .ok (.ireturn, 1) := by decide +kernel
theorem dX6_taken_0 : decode cX6_taken 0 = .ok (.iload_n 2, 1) := by decide +kernel
theorem dX6_taken_1 : decode cX6_taken 1 = .ok (.i2l, 1) := by decide +kernel
theorem dX6_taken_2 : decode cX6_taken 2 = .ok (.lconst 0, 1) := by decide +kernel
theorem dX6_taken_3 : decode cX6_taken 3 = .ok (.ldc2_w 85, 3) := by decide +kernel
theorem dX6_taken_6 : decode cX6_taken 6 = .ok (.invokestatic 76, 3) := by decide +kernel
theorem dX6_taken_9 : decode cX6_taken 9 = .ok (.ifCond .ne 6, 3) := by decide +kernel
theorem dX6_taken_12 : decode cX6_taken 12 = .ok (.bipush (-2), 2) := by decide +kernel
theorem dX6_taken_14 : decode cX6_taken 14 = .ok (.ireturn, 1) := by decide +kernel
theorem dX6_taken_15 : decode cX6_taken 15 = .ok (.aload_n 0, 1) := by decide +kernel
theorem dX6_taken_16 : decode cX6_taken 16 = .ok (.iload_n 1, 1) := by decide +kernel
theorem dX6_taken_17 : decode cX6_taken 17 = .ok (.invokevirtual 95, 3) := by decide +kernel
theorem dX6_taken_20 : decode cX6_taken 20 = .ok (.ifCond .ne 6, 3) := by decide +kernel
theorem dX6_taken_23 : decode cX6_taken 23 = .ok (.bipush (-11), 2) := by decide +kernel
theorem dX6_taken_25 : decode cX6_taken 25 = .ok (.ireturn, 1) := by decide +kernel
theorem dX6_taken_26 : decode cX6_taken 26 = .ok (.aload_n 0, 1) := by decide +kernel
theorem dX6_taken_27 : decode cX6_taken 27 = .ok (.getfield 23, 3) := by decide +kernel
theorem dX6_taken_30 : decode cX6_taken 30 = .ok (.iload_n 1, 1) := by decide +kernel
theorem dX6_taken_31 : decode cX6_taken 31 = .ok (.iaload, 1) := by decide +kernel
theorem dX6_taken_32 : decode cX6_taken 32 = .ok (.istore_n 3, 1) := by decide +kernel
theorem dX6_taken_33 : decode cX6_taken 33 = .ok (.iload_n 3, 1) := by decide +kernel
theorem dX6_taken_34 : decode cX6_taken 34 = .ok (.iconst (-1), 1) := by decide +kernel
theorem dX6_taken_35 : decode cX6_taken 35 = .ok (.if_icmp .eq 16, 3) := by decide +kernel
theorem dX6_taken_38 : decode cX6_taken 38 = .ok (.iload_n 3, 1) := by decide +kernel
theorem dX6_taken_39 : decode cX6_taken 39 = .ok (.iload_n 2, 1) := by decide +kernel
theorem dX6_taken_40 : decode cX6_taken 40 = .ok (.if_icmp .eq 11, 3) := by decide +kernel
theorem dX6_taken_43 : decode cX6_taken 43 = .ok (.iload_n 3, 1) := by decide +kernel
theorem dX6_taken_44 : decode cX6_taken 44 = .ok (.invokestatic 353, 3) := by decide +kernel
theorem dX6_taken_47 : decode cX6_taken 47 = .ok (.istore_n 3, 1) := by decide +kernel
theorem dX6_taken_48 : decode cX6_taken 48 = .ok (.goto (-15), 3) := by decide +kernel
theorem dX6_taken_51 : decode cX6_taken 51 = .ok (.iload_n 3, 1) := by decide +kernel
theorem dX6_taken_52 : decode cX6_taken 52 = .ok (.iload_n 2, 1) := by decide +kernel
theorem dX6_taken_53 : decode cX6_taken 53 = .ok (.if_icmp .ne 12, 3) := by decide +kernel
theorem dX6_taken_56 : decode cX6_taken 56 = .ok (.aload_n 0, 1) := by decide +kernel
theorem dX6_taken_57 : decode cX6_taken 57 = .ok (.getfield 32, 3) := by decide +kernel
theorem dX6_taken_60 : decode cX6_taken 60 = .ok (.iload_n 1, 1) := by decide +kernel
theorem dX6_taken_61 : decode cX6_taken 61 = .ok (.iaload, 1) := by decide +kernel
theorem dX6_taken_62 : decode cX6_taken 62 = .ok (.goto 5, 3) := by decide +kernel
theorem dX6_taken_65 : decode cX6_taken 65 = .ok (.bipush (-13), 2) := by decide +kernel
theorem dX6_taken_67 : decode cX6_taken 67 = .ok (.ireturn, 1) := by decide +kernel
theorem dJ6_bitCount_0f7a4_0 : decode cJ6_bitCount_0f7a4 0 = .ok (.iload_n 0, 1) := by decide +kernel
theorem dJ6_bitCount_0f7a4_1 : decode cJ6_bitCount_0f7a4 1 = .ok (.iload_n 0, 1) := by decide +kernel
theorem dJ6_bitCount_0f7a4_2 : decode cJ6_bitCount_0f7a4 2 = .ok (.iconst 1, 1) := by decide +kernel
theorem dJ6_bitCount_0f7a4_3 : decode cJ6_bitCount_0f7a4 3 = .ok (.iushr, 1) := by decide +kernel
theorem dJ6_bitCount_0f7a4_4 : decode cJ6_bitCount_0f7a4 4 = .ok (.ldc_w 265, 3) := by decide +kernel
theorem dJ6_bitCount_0f7a4_7 : decode cJ6_bitCount_0f7a4 7 = .ok (.iand, 1) := by decide +kernel
theorem dJ6_bitCount_0f7a4_8 : decode cJ6_bitCount_0f7a4 8 = .ok (.isub, 1) := by decide +kernel
theorem dJ6_bitCount_0f7a4_9 : decode cJ6_bitCount_0f7a4 9 = .ok (.istore_n 0, 1) := by decide +kernel
theorem dJ6_bitCount_0f7a4_10 : decode cJ6_bitCount_0f7a4 10 = .ok (.iload_n 0, 1) := by decide +kernel
theorem dJ6_bitCount_0f7a4_11 : decode cJ6_bitCount_0f7a4 11 = .ok (.ldc_w 266, 3) := by decide +kernel
theorem dJ6_bitCount_0f7a4_14 : decode cJ6_bitCount_0f7a4 14 = .ok (.iand, 1) := by decide +kernel
theorem dJ6_bitCount_0f7a4_15 : decode cJ6_bitCount_0f7a4 15 = .ok (.iload_n 0, 1) := by decide +kernel
theorem dJ6_bitCount_0f7a4_16 : decode cJ6_bitCount_0f7a4 16 = .ok (.iconst 2, 1) := by decide +kernel
theorem dJ6_bitCount_0f7a4_17 : decode cJ6_bitCount_0f7a4 17 = .ok (.iushr, 1) := by decide +kernel
theorem dJ6_bitCount_0f7a4_18 : decode cJ6_bitCount_0f7a4 18 = .ok (.ldc_w 266, 3) := by decide +kernel
theorem dJ6_bitCount_0f7a4_21 : decode cJ6_bitCount_0f7a4 21 = .ok (.iand, 1) := by decide +kernel
theorem dJ6_bitCount_0f7a4_22 : decode cJ6_bitCount_0f7a4 22 = .ok (.iadd, 1) := by decide +kernel
theorem dJ6_bitCount_0f7a4_23 : decode cJ6_bitCount_0f7a4 23 = .ok (.istore_n 0, 1) := by decide +kernel
theorem dJ6_bitCount_0f7a4_24 : decode cJ6_bitCount_0f7a4 24 = .ok (.iload_n 0, 1) := by decide +kernel
theorem dJ6_bitCount_0f7a4_25 : decode cJ6_bitCount_0f7a4 25 = .ok (.iload_n 0, 1) := by decide +kernel
theorem dJ6_bitCount_0f7a4_26 : decode cJ6_bitCount_0f7a4 26 = .ok (.iconst 4, 1) := by decide +kernel
theorem dJ6_bitCount_0f7a4_27 : decode cJ6_bitCount_0f7a4 27 = .ok (.iushr, 1) := by decide +kernel
theorem dJ6_bitCount_0f7a4_28 : decode cJ6_bitCount_0f7a4 28 = .ok (.iadd, 1) := by decide +kernel
theorem dJ6_bitCount_0f7a4_29 : decode cJ6_bitCount_0f7a4 29 = .ok (.ldc_w 267, 3) := by decide +kernel
theorem dJ6_bitCount_0f7a4_32 : decode cJ6_bitCount_0f7a4 32 = .ok (.iand, 1) := by decide +kernel
theorem dJ6_bitCount_0f7a4_33 : decode cJ6_bitCount_0f7a4 33 = .ok (.istore_n 0, 1) := by decide +kernel
theorem dJ6_bitCount_0f7a4_34 : decode cJ6_bitCount_0f7a4 34 = .ok (.iload_n 0, 1) := by decide +kernel
theorem dJ6_bitCount_0f7a4_35 : decode cJ6_bitCount_0f7a4 35 = .ok (.iload_n 0, 1) := by decide +kernel
theorem dJ6_bitCount_0f7a4_36 : decode cJ6_bitCount_0f7a4 36 = .ok (.bipush 8, 2) := by decide +kernel
theorem dJ6_bitCount_0f7a4_38 : decode cJ6_bitCount_0f7a4 38 = .ok (.iushr, 1) := by decide +kernel
theorem dJ6_bitCount_0f7a4_39 : decode cJ6_bitCount_0f7a4 39 = .ok (.iadd, 1) := by decide +kernel
theorem dJ6_bitCount_0f7a4_40 : decode cJ6_bitCount_0f7a4 40 = .ok (.istore_n 0, 1) := by decide +kernel
theorem dJ6_bitCount_0f7a4_41 : decode cJ6_bitCount_0f7a4 41 = .ok (.iload_n 0, 1) := by decide +kernel
theorem dJ6_bitCount_0f7a4_42 : decode cJ6_bitCount_0f7a4 42 = .ok (.iload_n 0, 1) := by decide +kernel
theorem dJ6_bitCount_0f7a4_43 : decode cJ6_bitCount_0f7a4 43 = .ok (.bipush 16, 2) := by decide +kernel
theorem dJ6_bitCount_0f7a4_45 : decode cJ6_bitCount_0f7a4 45 = .ok (.iushr, 1) := by decide +kernel
theorem dJ6_bitCount_0f7a4_46 : decode cJ6_bitCount_0f7a4 46 = .ok (.iadd, 1) := by decide +kernel
theorem dJ6_bitCount_0f7a4_47 : decode cJ6_bitCount_0f7a4 47 = .ok (.istore_n 0, 1) := by decide +kernel
theorem dJ6_bitCount_0f7a4_48 : decode cJ6_bitCount_0f7a4 48 = .ok (.iload_n 0, 1) := by decide +kernel
theorem dJ6_bitCount_0f7a4_49 : decode cJ6_bitCount_0f7a4 49 = .ok (.bipush 63, 2) := by decide +kernel
theorem dJ6_bitCount_0f7a4_51 : decode cJ6_bitCount_0f7a4 51 = .ok (.iand, 1) := by decide +kernel
theorem dJ6_bitCount_0f7a4_52 : decode cJ6_bitCount_0f7a4 52 = .ok (.ireturn, 1) := by decide +kernel
theorem dJ9_abs_0f7a4_0 : decode cJ9_abs_0f7a4 0 = .ok (.iload_n 0, 1) := by decide +kernel
theorem dJ9_abs_0f7a4_1 : decode cJ9_abs_0f7a4 1 = .ok (.ifCond .ge 8, 3) := by decide +kernel
theorem dJ9_abs_0f7a4_4 : decode cJ9_abs_0f7a4 4 = .ok (.iload_n 0, 1) := by decide +kernel
theorem dJ9_abs_0f7a4_5 : decode cJ9_abs_0f7a4 5 = .ok (.ineg, 1) := by decide +kernel
theorem dJ9_abs_0f7a4_6 : decode cJ9_abs_0f7a4 6 = .ok (.goto 4, 3) := by decide +kernel
theorem dJ9_abs_0f7a4_9 : decode cJ9_abs_0f7a4 9 = .ok (.iload_n 0, 1) := by decide +kernel
theorem dJ9_abs_0f7a4_10 : decode cJ9_abs_0f7a4 10 = .ok (.ireturn, 1) := by decide +kernel
theorem dJ9_max_7cf53_0 : decode cJ9_max_7cf53 0 = .ok (.iload_n 0, 1) := by decide +kernel
theorem dJ9_max_7cf53_1 : decode cJ9_max_7cf53 1 = .ok (.iload_n 1, 1) := by decide +kernel
theorem dJ9_max_7cf53_2 : decode cJ9_max_7cf53 2 = .ok (.if_icmp .lt 7, 3) := by decide +kernel
theorem dJ9_max_7cf53_5 : decode cJ9_max_7cf53 5 = .ok (.iload_n 0, 1) := by decide +kernel
theorem dJ9_max_7cf53_6 : decode cJ9_max_7cf53 6 = .ok (.goto 4, 3) := by decide +kernel
theorem dJ9_max_7cf53_9 : decode cJ9_max_7cf53 9 = .ok (.iload_n 1, 1) := by decide +kernel
theorem dJ9_max_7cf53_10 : decode cJ9_max_7cf53 10 = .ok (.ireturn, 1) := by decide +kernel
theorem dJ9_min_7cf53_0 : decode cJ9_min_7cf53 0 = .ok (.iload_n 0, 1) := by decide +kernel
theorem dJ9_min_7cf53_1 : decode cJ9_min_7cf53 1 = .ok (.iload_n 1, 1) := by decide +kernel
theorem dJ9_min_7cf53_2 : decode cJ9_min_7cf53 2 = .ok (.if_icmp .gt 7, 3) := by decide +kernel
theorem dJ9_min_7cf53_5 : decode cJ9_min_7cf53 5 = .ok (.iload_n 0, 1) := by decide +kernel
theorem dJ9_min_7cf53_6 : decode cJ9_min_7cf53 6 = .ok (.goto 4, 3) := by decide +kernel
theorem dJ9_min_7cf53_9 : decode cJ9_min_7cf53 9 = .ok (.iload_n 1, 1) := by decide +kernel
theorem dJ9_min_7cf53_10 : decode cJ9_min_7cf53 10 = .ok (.ireturn, 1) := by decide +kernel
theorem dJ0_length_8abf5_0 : decode cJ0_length_8abf5 0 = .ok (.aload_n 0, 1) := by decide +kernel
theorem dJ0_length_8abf5_1 : decode cJ0_length_8abf5 1 = .ok (.getfield 9, 3) := by decide +kernel
theorem dJ0_length_8abf5_4 : decode cJ0_length_8abf5 4 = .ok (.arraylength, 1) := by decide +kernel
theorem dJ0_length_8abf5_5 : decode cJ0_length_8abf5 5 = .ok (.aload_n 0, 1) := by decide +kernel
theorem dJ0_length_8abf5_6 : decode cJ0_length_8abf5 6 = .ok (.invokevirtual 335, 3) := by decide +kernel
theorem dJ0_length_8abf5_9 : decode cJ0_length_8abf5 9 = .ok (.ishr, 1) := by decide +kernel
theorem dJ0_length_8abf5_10 : decode cJ0_length_8abf5 10 = .ok (.ireturn, 1) := by decide +kernel
theorem dJ0_charAt_5068e_0 : decode cJ0_charAt_5068e 0 = .ok (.aload_n 0, 1) := by decide +kernel
theorem dJ0_charAt_5068e_1 : decode cJ0_charAt_5068e 1 = .ok (.invokevirtual 492, 3) := by decide +kernel
theorem dJ0_charAt_5068e_4 : decode cJ0_charAt_5068e 4 = .ok (.ifCond .eq 12, 3) := by decide +kernel
theorem dJ0_charAt_5068e_7 : decode cJ0_charAt_5068e 7 = .ok (.aload_n 0, 1) := by decide +kernel
theorem dJ0_charAt_5068e_8 : decode cJ0_charAt_5068e 8 = .ok (.getfield 9, 3) := by decide +kernel
theorem dJ0_charAt_5068e_11 : decode cJ0_charAt_5068e 11 = .ok (.iload_n 1, 1) := by decide +kernel
theorem dJ0_charAt_5068e_12 : decode cJ0_charAt_5068e 12 = .ok (.invokestatic 495, 3) := by decide +kernel
theorem dJ0_charAt_5068e_15 : decode cJ0_charAt_5068e 15 = .ok (.ireturn, 1) := by decide +kernel
theorem dJ0_charAt_5068e_16 : decode cJ0_charAt_5068e 16 = .ok (.aload_n 0, 1) := by decide +kernel
theorem dJ0_charAt_5068e_17 : decode cJ0_charAt_5068e 17 = .ok (.getfield 9, 3) := by decide +kernel
theorem dJ0_charAt_5068e_20 : decode cJ0_charAt_5068e 20 = .ok (.iload_n 1, 1) := by decide +kernel
theorem dJ0_charAt_5068e_21 : decode cJ0_charAt_5068e 21 = .ok (.invokestatic 498, 3) := by decide +kernel
theorem dJ0_charAt_5068e_24 : decode cJ0_charAt_5068e 24 = .ok (.ireturn, 1) := by decide +kernel
theorem dJ0_coder_7d493_0 : decode cJ0_coder_7d493 0 = .ok (.getstatic 38, 3) := by decide +kernel
theorem dJ0_coder_7d493_3 : decode cJ0_coder_7d493 3 = .ok (.ifCond .eq 10, 3) := by decide +kernel
theorem dJ0_coder_7d493_6 : decode cJ0_coder_7d493 6 = .ok (.aload_n 0, 1) := by decide +kernel
theorem dJ0_coder_7d493_7 : decode cJ0_coder_7d493 7 = .ok (.getfield 15, 3) := by decide +kernel
theorem dJ0_coder_7d493_10 : decode cJ0_coder_7d493 10 = .ok (.goto 4, 3) := by decide +kernel
theorem dJ0_coder_7d493_13 : decode cJ0_coder_7d493 13 = .ok (.iconst 1, 1) := by decide +kernel
theorem dJ0_coder_7d493_14 : decode cJ0_coder_7d493 14 = .ok (.ireturn, 1) := by decide +kernel
theorem dJ0_isLatin1_aae02_0 : decode cJ0_isLatin1_aae02 0 = .ok (.getstatic 38, 3) := by decide +kernel
theorem dJ0_isLatin1_aae02_3 : decode cJ0_isLatin1_aae02 3 = .ok (.ifCond .eq 14, 3) := by decide +kernel
theorem dJ0_isLatin1_aae02_6 : decode cJ0_isLatin1_aae02 6 = .ok (.aload_n 0, 1) := by decide +kernel
theorem dJ0_isLatin1_aae02_7 : decode cJ0_isLatin1_aae02 7 = .ok (.getfield 15, 3) := by decide +kernel
theorem dJ0_isLatin1_aae02_10 : decode cJ0_isLatin1_aae02 10 = .ok (.ifCond .ne 7, 3) := by decide +kernel
theorem dJ0_isLatin1_aae02_13 : decode cJ0_isLatin1_aae02 13 = .ok (.iconst 1, 1) := by decide +kernel
theorem dJ0_isLatin1_aae02_14 : decode cJ0_isLatin1_aae02 14 = .ok (.goto 4, 3) := by decide +kernel
theorem dJ0_isLatin1_aae02_17 : decode cJ0_isLatin1_aae02 17 = .ok (.iconst 0, 1) := by decide +kernel
theorem dJ0_isLatin1_aae02_18 : decode cJ0_isLatin1_aae02 18 = .ok (.ireturn, 1) := by decide +kernel
theorem dJ0_checkIndex_df160_0 : decode cJ0_checkIndex_df160 0 = .ok (.iload_n 0, 1) := by decide +kernel
theorem dJ0_checkIndex_df160_1 : decode cJ0_checkIndex_df160 1 = .ok (.iload_n 1, 1) := by decide +kernel
theorem dJ0_checkIndex_df160_2 : decode cJ0_checkIndex_df160 2 = .ok (.getstatic 1053, 3) := by decide +kernel
theorem dJ0_checkIndex_df160_5 : decode cJ0_checkIndex_df160 5 = .ok (.invokestatic 1059, 3) := by decide +kernel
theorem dJ0_checkIndex_df160_8 : decode cJ0_checkIndex_df160 8 = .ok (.pop, 1) := by decide +kernel
theorem dJ0_checkIndex_df160_9 : decode cJ0_checkIndex_df160 9 = .ok (.return_, 1) := by decide +kernel
theorem dJ1_charAt_3b067_0 : decode cJ1_charAt_3b067 0 = .ok (.iload_n 1, 1) := by decide +kernel
theorem dJ1_charAt_3b067_1 : decode cJ1_charAt_3b067 1 = .ok (.aload_n 0, 1) := by decide +kernel
theorem dJ1_charAt_3b067_2 : decode cJ1_charAt_3b067 2 = .ok (.arraylength, 1) := by decide +kernel
theorem dJ1_charAt_3b067_3 : decode cJ1_charAt_3b067 3 = .ok (.invokestatic 9, 3) := by decide +kernel
theorem dJ1_charAt_3b067_6 : decode cJ1_charAt_3b067 6 = .ok (.aload_n 0, 1) := by decide +kernel
theorem dJ1_charAt_3b067_7 : decode cJ1_charAt_3b067 7 = .ok (.iload_n 1, 1) := by decide +kernel
theorem dJ1_charAt_3b067_8 : decode cJ1_charAt_3b067 8 = .ok (.baload, 1) := by decide +kernel
theorem dJ1_charAt_3b067_9 : decode cJ1_charAt_3b067 9 = .ok (.sipush 255, 3) := by decide +kernel
theorem dJ1_charAt_3b067_12 : decode cJ1_charAt_3b067 12 = .ok (.iand, 1) := by decide +kernel
theorem dJ1_charAt_3b067_13 : decode cJ1_charAt_3b067 13 = .ok (.i2c, 1) := by decide +kernel
theorem dJ1_charAt_3b067_14 : decode cJ1_charAt_3b067 14 = .ok (.ireturn, 1) := by decide +kernel
theorem dJ2_getChar_3b067_0 : decode cJ2_getChar_3b067 0 = .ok (.getstatic 44, 3) := by decide +kernel
theorem dJ2_getChar_3b067_3 : decode cJ2_getChar_3b067 3 = .ok (.ifCond .ne 25, 3) := by decide +kernel
theorem dJ2_getChar_3b067_6 : decode cJ2_getChar_3b067 6 = .ok (.iload_n 1, 1) := by decide +kernel
theorem dJ2_getChar_3b067_7 : decode cJ2_getChar_3b067 7 = .ok (.ifCond .lt 11, 3) := by decide +kernel
theorem dJ2_getChar_3b067_10 : decode cJ2_getChar_3b067 10 = .ok (.iload_n 1, 1) := by decide +kernel
theorem dJ2_getChar_3b067_11 : decode cJ2_getChar_3b067 11 = .ok (.aload_n 0, 1) := by decide +kernel
theorem dJ2_getChar_3b067_12 : decode cJ2_getChar_3b067 12 = .ok (.invokestatic 48, 3) := by decide +kernel
theorem dJ2_getChar_3b067_15 : decode cJ2_getChar_3b067 15 = .ok (.if_icmp .lt 13, 3) := by decide +kernel
theorem dJ2_getChar_3b067_18 : decode cJ2_getChar_3b067 18 = .ok (.new 52, 3) := by decide +kernel
theorem dJ2_getChar_3b067_21 : decode cJ2_getChar_3b067 21 = .ok (.dup, 1) := by decide +kernel
theorem dJ2_getChar_3b067_22 : decode cJ2_getChar_3b067 22 = .ok (.ldc 54, 2) := by decide +kernel
theorem dJ2_getChar_3b067_24 : decode cJ2_getChar_3b067 24 = .ok (.invokespecial 56, 3) := by decide +kernel
theorem dJ2_getChar_3b067_27 : decode cJ2_getChar_3b067 27 = .ok (.athrow, 1) := by decide +kernel
theorem dJ2_getChar_3b067_28 : decode cJ2_getChar_3b067 28 = .ok (.iload_n 1, 1) := by decide +kernel
theorem dJ2_getChar_3b067_29 : decode cJ2_getChar_3b067 29 = .ok (.iconst 1, 1) := by decide +kernel
theorem dJ2_getChar_3b067_30 : decode cJ2_getChar_3b067 30 = .ok (.ishl, 1) := by decide +kernel
theorem dJ2_getChar_3b067_31 : decode cJ2_getChar_3b067 31 = .ok (.istore_n 1, 1) := by decide +kernel
theorem dJ2_getChar_3b067_32 : decode cJ2_getChar_3b067 32 = .ok (.aload_n 0, 1) := by decide +kernel
theorem dJ2_getChar_3b067_33 : decode cJ2_getChar_3b067 33 = .ok (.iload_n 1, 1) := by decide +kernel
theorem dJ2_getChar_3b067_34 : decode cJ2_getChar_3b067 34 = .ok (.iinc 1 1, 3) := by decide +kernel
theorem dJ2_getChar_3b067_37 : decode cJ2_getChar_3b067 37 = .ok (.baload, 1) := by decide +kernel
theorem dJ2_getChar_3b067_38 : decode cJ2_getChar_3b067 38 = .ok (.sipush 255, 3) := by decide +kernel
theorem dJ2_getChar_3b067_41 : decode cJ2_getChar_3b067 41 = .ok (.iand, 1) := by decide +kernel
theorem dJ2_getChar_3b067_42 : decode cJ2_getChar_3b067 42 = .ok (.getstatic 59, 3) := by decide +kernel
theorem dJ2_getChar_3b067_45 : decode cJ2_getChar_3b067 45 = .ok (.ishl, 1) := by decide +kernel
theorem dJ2_getChar_3b067_46 : decode cJ2_getChar_3b067 46 = .ok (.aload_n 0, 1) := by decide +kernel
theorem dJ2_getChar_3b067_47 : decode cJ2_getChar_3b067 47 = .ok (.iload_n 1, 1) := by decide +kernel
theorem dJ2_getChar_3b067_48 : decode cJ2_getChar_3b067 48 = .ok (.baload, 1) := by decide +kernel
theorem dJ2_getChar_3b067_49 : decode cJ2_getChar_3b067 49 = .ok (.sipush 255, 3) := by decide +kernel
theorem dJ2_getChar_3b067_52 : decode cJ2_getChar_3b067 52 = .ok (.iand, 1) := by decide +kernel
theorem dJ2_getChar_3b067_53 : decode cJ2_getChar_3b067 53 = .ok (.getstatic 63, 3) := by decide +kernel
theorem dJ2_getChar_3b067_56 : decode cJ2_getChar_3b067 56 = .ok (.ishl, 1) := by decide +kernel
theorem dJ2_getChar_3b067_57 : decode cJ2_getChar_3b067 57 = .ok (.ior, 1) := by decide +kernel
theorem dJ2_getChar_3b067_58 : decode cJ2_getChar_3b067 58 = .ok (.i2c, 1) := by decide +kernel
theorem dJ2_getChar_3b067_59 : decode cJ2_getChar_3b067 59 = .ok (.ireturn, 1) := by decide +kernel
theorem dJ2_length_9d52b_0 : decode cJ2_length_9d52b 0 = .ok (.aload_n 0, 1) := by decide +kernel
theorem dJ2_length_9d52b_1 : decode cJ2_length_9d52b 1 = .ok (.arraylength, 1) := by decide +kernel
theorem dJ2_length_9d52b_2 : decode cJ2_length_9d52b 2 = .ok (.iconst 1, 1) := by decide +kernel
theorem dJ2_length_9d52b_3 : decode cJ2_length_9d52b 3 = .ok (.ishr, 1) := by decide +kernel
theorem dJ2_length_9d52b_4 : decode cJ2_length_9d52b 4 = .ok (.ireturn, 1) := by decide +kernel
theorem dJ2_charAt_3b067_0 : decode cJ2_charAt_3b067 0 = .ok (.iload_n 1, 1) := by decide +kernel
theorem dJ2_charAt_3b067_1 : decode cJ2_charAt_3b067 1 = .ok (.aload_n 0, 1) := by decide +kernel
theorem dJ2_charAt_3b067_2 : decode cJ2_charAt_3b067 2 = .ok (.invokestatic 67, 3) := by decide +kernel
theorem dJ2_charAt_3b067_5 : decode cJ2_charAt_3b067 5 = .ok (.aload_n 0, 1) := by decide +kernel
theorem dJ2_charAt_3b067_6 : decode cJ2_charAt_3b067 6 = .ok (.iload_n 1, 1) := by decide +kernel
theorem dJ2_charAt_3b067_7 : decode cJ2_charAt_3b067 7 = .ok (.invokestatic 71, 3) := by decide +kernel
theorem dJ2_charAt_3b067_10 : decode cJ2_charAt_3b067 10 = .ok (.ireturn, 1) := by decide +kernel
theorem dJ2_checkIndex_2214a_0 : decode cJ2_checkIndex_2214a 0 = .ok (.iload_n 0, 1) := by decide +kernel
theorem dJ2_checkIndex_2214a_1 : decode cJ2_checkIndex_2214a 1 = .ok (.aload_n 1, 1) := by decide +kernel
theorem dJ2_checkIndex_2214a_2 : decode cJ2_checkIndex_2214a 2 = .ok (.invokestatic 48, 3) := by decide +kernel
theorem dJ2_checkIndex_2214a_5 : decode cJ2_checkIndex_2214a 5 = .ok (.invokestatic 414, 3) := by decide +kernel
theorem dJ2_checkIndex_2214a_8 : decode cJ2_checkIndex_2214a 8 = .ok (.return_, 1) := by decide +kernel
theorem dJ3_checkIndex_8e157_0 : decode cJ3_checkIndex_8e157 0 = .ok (.iload_n 0, 1) := by decide +kernel
theorem dJ3_checkIndex_8e157_1 : decode cJ3_checkIndex_8e157 1 = .ok (.ifCond .lt 8, 3) := by decide +kernel
theorem dJ3_checkIndex_8e157_4 : decode cJ3_checkIndex_8e157 4 = .ok (.iload_n 0, 1) := by decide +kernel
theorem dJ3_checkIndex_8e157_5 : decode cJ3_checkIndex_8e157 5 = .ok (.iload_n 1, 1) := by decide +kernel
theorem dJ3_checkIndex_8e157_6 : decode cJ3_checkIndex_8e157 6 = .ok (.if_icmp .lt 10, 3) := by decide +kernel
theorem dJ3_checkIndex_8e157_9 : decode cJ3_checkIndex_8e157 9 = .ok (.aload_n 2, 1) := by decide +kernel
theorem dJ3_checkIndex_8e157_10 : decode cJ3_checkIndex_8e157 10 = .ok (.iload_n 0, 1) := by decide +kernel
theorem dJ3_checkIndex_8e157_11 : decode cJ3_checkIndex_8e157 11 = .ok (.iload_n 1, 1) := by decide +kernel
theorem dJ3_checkIndex_8e157_12 : decode cJ3_checkIndex_8e157 12 = .ok (.invokestatic 95, 3) := by decide +kernel
theorem dJ3_checkIndex_8e157_15 : decode cJ3_checkIndex_8e157 15 = .ok (.athrow, 1) := by decide +kernel
theorem dJ3_checkIndex_8e157_16 : decode cJ3_checkIndex_8e157 16 = .ok (.iload_n 0, 1) := by decide +kernel
theorem dJ3_checkIndex_8e157_17 : decode cJ3_checkIndex_8e157 17 = .ok (.ireturn, 1) := by decide +kernel
theorem dL_law_0 : decode cL_law 0 = .ok (.new 7, 3) := by decide +kernel
theorem dL_law_3 : decode cL_law 3 = .ok (.dup, 1) := by decide +kernel
theorem dL_law_4 : decode cL_law 4 = .ok (.invokespecial 9, 3) := by decide +kernel
theorem dL_law_7 : decode cL_law 7 = .ok (.astore_n 1, 1) := by decide +kernel
theorem dL_law_8 : decode cL_law 8 = .ok (.new 10, 3) := by decide +kernel
theorem dL_law_11 : decode cL_law 11 = .ok (.dup, 1) := by decide +kernel
theorem dL_law_12 : decode cL_law 12 = .ok (.invokespecial 12, 3) := by decide +kernel
theorem dL_law_15 : decode cL_law 15 = .ok (.astore_n 2, 1) := by decide +kernel
theorem dL_law_16 : decode cL_law 16 = .ok (.iconst 0, 1) := by decide +kernel
theorem dL_law_17 : decode cL_law 17 = .ok (.istore_n 3, 1) := by decide +kernel
theorem dL_law_18 : decode cL_law 18 = .ok (.iload_n 3, 1) := by decide +kernel
theorem dL_law_19 : decode cL_law 19 = .ok (.aload_n 0, 1) := by decide +kernel
theorem dL_law_20 : decode cL_law 20 = .ok (.arraylength, 1) := by decide +kernel
theorem dL_law_21 : decode cL_law 21 = .ok (.bipush 6, 2) := by decide +kernel
theorem dL_law_23 : decode cL_law 23 = .ok (.isub, 1) := by decide +kernel
theorem dL_law_24 : decode cL_law 24 = .ok (.if_icmp .gt 1065, 3) := by decide +kernel
theorem dL_law_27 : decode cL_law 27 = .ok (.aload_n 0, 1) := by decide +kernel
theorem dL_law_28 : decode cL_law 28 = .ok (.iload_n 3, 1) := by decide +kernel
theorem dL_law_29 : decode cL_law 29 = .ok (.iaload, 1) := by decide +kernel
theorem dL_law_30 : decode cL_law 30 = .ok (.bipush 31, 2) := by decide +kernel
theorem dL_law_32 : decode cL_law 32 = .ok (.iand, 1) := by decide +kernel
theorem dL_law_33 : decode cL_law 33 = .ok (.tableswitch 1050 0 31 #[143, 186, 229, 262, 285, 298, 321, 344, 367, 380, 413, 436, 459, 492, 505, 538, 551, 584, 607, 620, 653, 666, 689, 712, 766, 779, 792, 815, 858, 901, 964, 1017], 143) := by decide +kernel
theorem dL_law_176 : decode cL_law 176 = .ok (.aload_n 1, 1) := by decide +kernel
theorem dL_law_177 : decode cL_law 177 = .ok (.aload_n 0, 1) := by decide +kernel
theorem dL_law_178 : decode cL_law 178 = .ok (.iload_n 3, 1) := by decide +kernel
theorem dL_law_179 : decode cL_law 179 = .ok (.iconst 1, 1) := by decide +kernel
theorem dL_law_180 : decode cL_law 180 = .ok (.iadd, 1) := by decide +kernel
theorem dL_law_181 : decode cL_law 181 = .ok (.iaload, 1) := by decide +kernel
theorem dL_law_182 : decode cL_law 182 = .ok (.aload_n 0, 1) := by decide +kernel
theorem dL_law_183 : decode cL_law 183 = .ok (.iload_n 3, 1) := by decide +kernel
theorem dL_law_184 : decode cL_law 184 = .ok (.iconst 2, 1) := by decide +kernel
theorem dL_law_185 : decode cL_law 185 = .ok (.iadd, 1) := by decide +kernel
theorem dL_law_186 : decode cL_law 186 = .ok (.iaload, 1) := by decide +kernel
theorem dL_law_187 : decode cL_law 187 = .ok (.aload_n 0, 1) := by decide +kernel
theorem dL_law_188 : decode cL_law 188 = .ok (.iload_n 3, 1) := by decide +kernel
theorem dL_law_189 : decode cL_law 189 = .ok (.iconst 3, 1) := by decide +kernel
theorem dL_law_190 : decode cL_law 190 = .ok (.iadd, 1) := by decide +kernel
theorem dL_law_191 : decode cL_law 191 = .ok (.iaload, 1) := by decide +kernel
theorem dL_law_192 : decode cL_law 192 = .ok (.invokevirtual 13, 3) := by decide +kernel
theorem dL_law_195 : decode cL_law 195 = .ok (.aload_n 2, 1) := by decide +kernel
theorem dL_law_196 : decode cL_law 196 = .ok (.aload_n 0, 1) := by decide +kernel
theorem dL_law_197 : decode cL_law 197 = .ok (.iload_n 3, 1) := by decide +kernel
theorem dL_law_198 : decode cL_law 198 = .ok (.iconst 1, 1) := by decide +kernel
theorem dL_law_199 : decode cL_law 199 = .ok (.iadd, 1) := by decide +kernel
theorem dL_law_200 : decode cL_law 200 = .ok (.iaload, 1) := by decide +kernel
theorem dL_law_201 : decode cL_law 201 = .ok (.aload_n 0, 1) := by decide +kernel
theorem dL_law_202 : decode cL_law 202 = .ok (.iload_n 3, 1) := by decide +kernel
theorem dL_law_203 : decode cL_law 203 = .ok (.iconst 2, 1) := by decide +kernel
theorem dL_law_204 : decode cL_law 204 = .ok (.iadd, 1) := by decide +kernel
theorem dL_law_205 : decode cL_law 205 = .ok (.iaload, 1) := by decide +kernel
theorem dL_law_206 : decode cL_law 206 = .ok (.aload_n 0, 1) := by decide +kernel
theorem dL_law_207 : decode cL_law 207 = .ok (.iload_n 3, 1) := by decide +kernel
theorem dL_law_208 : decode cL_law 208 = .ok (.iconst 3, 1) := by decide +kernel
theorem dL_law_209 : decode cL_law 209 = .ok (.iadd, 1) := by decide +kernel
theorem dL_law_210 : decode cL_law 210 = .ok (.iaload, 1) := by decide +kernel
theorem dL_law_211 : decode cL_law 211 = .ok (.invokevirtual 17, 3) := by decide +kernel
theorem dL_law_214 : decode cL_law 214 = .ok (.if_icmp .eq 869, 3) := by decide +kernel
theorem dL_law_217 : decode cL_law 217 = .ok (.iconst 0, 1) := by decide +kernel
theorem dL_law_218 : decode cL_law 218 = .ok (.ireturn, 1) := by decide +kernel
theorem dL_law_219 : decode cL_law 219 = .ok (.aload_n 1, 1) := by decide +kernel
theorem dL_law_220 : decode cL_law 220 = .ok (.aload_n 0, 1) := by decide +kernel
theorem dL_law_221 : decode cL_law 221 = .ok (.iload_n 3, 1) := by decide +kernel
theorem dL_law_222 : decode cL_law 222 = .ok (.iconst 1, 1) := by decide +kernel
theorem dL_law_223 : decode cL_law 223 = .ok (.iadd, 1) := by decide +kernel
theorem dL_law_224 : decode cL_law 224 = .ok (.iaload, 1) := by decide +kernel
theorem dL_law_225 : decode cL_law 225 = .ok (.aload_n 0, 1) := by decide +kernel
theorem dL_law_226 : decode cL_law 226 = .ok (.iload_n 3, 1) := by decide +kernel
theorem dL_law_227 : decode cL_law 227 = .ok (.iconst 2, 1) := by decide +kernel
theorem dL_law_228 : decode cL_law 228 = .ok (.iadd, 1) := by decide +kernel
theorem dL_law_229 : decode cL_law 229 = .ok (.iaload, 1) := by decide +kernel
theorem dL_law_230 : decode cL_law 230 = .ok (.aload_n 0, 1) := by decide +kernel
theorem dL_law_231 : decode cL_law 231 = .ok (.iload_n 3, 1) := by decide +kernel
theorem dL_law_232 : decode cL_law 232 = .ok (.iconst 3, 1) := by decide +kernel
theorem dL_law_233 : decode cL_law 233 = .ok (.iadd, 1) := by decide +kernel
theorem dL_law_234 : decode cL_law 234 = .ok (.iaload, 1) := by decide +kernel
theorem dL_law_235 : decode cL_law 235 = .ok (.invokevirtual 18, 3) := by decide +kernel
theorem dL_law_238 : decode cL_law 238 = .ok (.aload_n 2, 1) := by decide +kernel
theorem dL_law_239 : decode cL_law 239 = .ok (.aload_n 0, 1) := by decide +kernel
theorem dL_law_240 : decode cL_law 240 = .ok (.iload_n 3, 1) := by decide +kernel
theorem dL_law_241 : decode cL_law 241 = .ok (.iconst 1, 1) := by decide +kernel
theorem dL_law_242 : decode cL_law 242 = .ok (.iadd, 1) := by decide +kernel
theorem dL_law_243 : decode cL_law 243 = .ok (.iaload, 1) := by decide +kernel
theorem dL_law_244 : decode cL_law 244 = .ok (.aload_n 0, 1) := by decide +kernel
theorem dL_law_245 : decode cL_law 245 = .ok (.iload_n 3, 1) := by decide +kernel
theorem dL_law_246 : decode cL_law 246 = .ok (.iconst 2, 1) := by decide +kernel
theorem dL_law_247 : decode cL_law 247 = .ok (.iadd, 1) := by decide +kernel
theorem dL_law_248 : decode cL_law 248 = .ok (.iaload, 1) := by decide +kernel
theorem dL_law_249 : decode cL_law 249 = .ok (.aload_n 0, 1) := by decide +kernel
theorem dL_law_250 : decode cL_law 250 = .ok (.iload_n 3, 1) := by decide +kernel
theorem dL_law_251 : decode cL_law 251 = .ok (.iconst 3, 1) := by decide +kernel
theorem dL_law_252 : decode cL_law 252 = .ok (.iadd, 1) := by decide +kernel
theorem dL_law_253 : decode cL_law 253 = .ok (.iaload, 1) := by decide +kernel
theorem dL_law_254 : decode cL_law 254 = .ok (.invokevirtual 21, 3) := by decide +kernel
theorem dL_law_257 : decode cL_law 257 = .ok (.if_icmp .eq 826, 3) := by decide +kernel
theorem dL_law_260 : decode cL_law 260 = .ok (.iconst 0, 1) := by decide +kernel
theorem dL_law_261 : decode cL_law 261 = .ok (.ireturn, 1) := by decide +kernel
theorem dL_law_262 : decode cL_law 262 = .ok (.aload_n 1, 1) := by decide +kernel
theorem dL_law_263 : decode cL_law 263 = .ok (.aload_n 0, 1) := by decide +kernel
theorem dL_law_264 : decode cL_law 264 = .ok (.iload_n 3, 1) := by decide +kernel
theorem dL_law_265 : decode cL_law 265 = .ok (.iconst 1, 1) := by decide +kernel
theorem dL_law_266 : decode cL_law 266 = .ok (.iadd, 1) := by decide +kernel
theorem dL_law_267 : decode cL_law 267 = .ok (.iaload, 1) := by decide +kernel
theorem dL_law_268 : decode cL_law 268 = .ok (.aload_n 0, 1) := by decide +kernel
theorem dL_law_269 : decode cL_law 269 = .ok (.iload_n 3, 1) := by decide +kernel
theorem dL_law_270 : decode cL_law 270 = .ok (.iconst 2, 1) := by decide +kernel
theorem dL_law_271 : decode cL_law 271 = .ok (.iadd, 1) := by decide +kernel
theorem dL_law_272 : decode cL_law 272 = .ok (.iaload, 1) := by decide +kernel
theorem dL_law_273 : decode cL_law 273 = .ok (.invokevirtual 22, 3) := by decide +kernel
theorem dL_law_276 : decode cL_law 276 = .ok (.aload_n 2, 1) := by decide +kernel
theorem dL_law_277 : decode cL_law 277 = .ok (.aload_n 0, 1) := by decide +kernel
theorem dL_law_278 : decode cL_law 278 = .ok (.iload_n 3, 1) := by decide +kernel
theorem dL_law_279 : decode cL_law 279 = .ok (.iconst 1, 1) := by decide +kernel
theorem dL_law_280 : decode cL_law 280 = .ok (.iadd, 1) := by decide +kernel
theorem dL_law_281 : decode cL_law 281 = .ok (.iaload, 1) := by decide +kernel
theorem dL_law_282 : decode cL_law 282 = .ok (.aload_n 0, 1) := by decide +kernel
theorem dL_law_283 : decode cL_law 283 = .ok (.iload_n 3, 1) := by decide +kernel
theorem dL_law_284 : decode cL_law 284 = .ok (.iconst 2, 1) := by decide +kernel
theorem dL_law_285 : decode cL_law 285 = .ok (.iadd, 1) := by decide +kernel
theorem dL_law_286 : decode cL_law 286 = .ok (.iaload, 1) := by decide +kernel
theorem dL_law_287 : decode cL_law 287 = .ok (.invokevirtual 26, 3) := by decide +kernel
theorem dL_law_290 : decode cL_law 290 = .ok (.if_icmp .eq 793, 3) := by decide +kernel
theorem dL_law_293 : decode cL_law 293 = .ok (.iconst 0, 1) := by decide +kernel
theorem dL_law_294 : decode cL_law 294 = .ok (.ireturn, 1) := by decide +kernel
theorem dL_law_295 : decode cL_law 295 = .ok (.aload_n 1, 1) := by decide +kernel
theorem dL_law_296 : decode cL_law 296 = .ok (.aload_n 0, 1) := by decide +kernel
theorem dL_law_297 : decode cL_law 297 = .ok (.iload_n 3, 1) := by decide +kernel
theorem dL_law_298 : decode cL_law 298 = .ok (.iconst 1, 1) := by decide +kernel
theorem dL_law_299 : decode cL_law 299 = .ok (.iadd, 1) := by decide +kernel
theorem dL_law_300 : decode cL_law 300 = .ok (.iaload, 1) := by decide +kernel
theorem dL_law_301 : decode cL_law 301 = .ok (.invokevirtual 27, 3) := by decide +kernel
theorem dL_law_304 : decode cL_law 304 = .ok (.aload_n 2, 1) := by decide +kernel
theorem dL_law_305 : decode cL_law 305 = .ok (.aload_n 0, 1) := by decide +kernel
theorem dL_law_306 : decode cL_law 306 = .ok (.iload_n 3, 1) := by decide +kernel
theorem dL_law_307 : decode cL_law 307 = .ok (.iconst 1, 1) := by decide +kernel
theorem dL_law_308 : decode cL_law 308 = .ok (.iadd, 1) := by decide +kernel
theorem dL_law_309 : decode cL_law 309 = .ok (.iaload, 1) := by decide +kernel
theorem dL_law_310 : decode cL_law 310 = .ok (.invokevirtual 31, 3) := by decide +kernel
theorem dL_law_313 : decode cL_law 313 = .ok (.if_icmp .eq 770, 3) := by decide +kernel
theorem dL_law_316 : decode cL_law 316 = .ok (.iconst 0, 1) := by decide +kernel
theorem dL_law_317 : decode cL_law 317 = .ok (.ireturn, 1) := by decide +kernel
theorem dL_law_318 : decode cL_law 318 = .ok (.aload_n 1, 1) := by decide +kernel
theorem dL_law_319 : decode cL_law 319 = .ok (.invokevirtual 32, 3) := by decide +kernel
theorem dL_law_322 : decode cL_law 322 = .ok (.aload_n 2, 1) := by decide +kernel
theorem dL_law_323 : decode cL_law 323 = .ok (.invokevirtual 36, 3) := by decide +kernel
theorem dL_law_326 : decode cL_law 326 = .ok (.if_icmp .eq 757, 3) := by decide +kernel
theorem dL_law_329 : decode cL_law 329 = .ok (.iconst 0, 1) := by decide +kernel
theorem dL_law_330 : decode cL_law 330 = .ok (.ireturn, 1) := by decide +kernel
theorem dL_law_331 : decode cL_law 331 = .ok (.aload_n 1, 1) := by decide +kernel
theorem dL_law_332 : decode cL_law 332 = .ok (.aload_n 0, 1) := by decide +kernel
theorem dL_law_333 : decode cL_law 333 = .ok (.iload_n 3, 1) := by decide +kernel
theorem dL_law_334 : decode cL_law 334 = .ok (.iconst 1, 1) := by decide +kernel
theorem dL_law_335 : decode cL_law 335 = .ok (.iadd, 1) := by decide +kernel
theorem dL_law_336 : decode cL_law 336 = .ok (.iaload, 1) := by decide +kernel
theorem dL_law_337 : decode cL_law 337 = .ok (.invokevirtual 37, 3) := by decide +kernel
theorem dL_law_340 : decode cL_law 340 = .ok (.aload_n 2, 1) := by decide +kernel
theorem dL_law_341 : decode cL_law 341 = .ok (.aload_n 0, 1) := by decide +kernel
theorem dL_law_342 : decode cL_law 342 = .ok (.iload_n 3, 1) := by decide +kernel
theorem dL_law_343 : decode cL_law 343 = .ok (.iconst 1, 1) := by decide +kernel
theorem dL_law_344 : decode cL_law 344 = .ok (.iadd, 1) := by decide +kernel
theorem dL_law_345 : decode cL_law 345 = .ok (.iaload, 1) := by decide +kernel
theorem dL_law_346 : decode cL_law 346 = .ok (.invokevirtual 40, 3) := by decide +kernel
theorem dL_law_349 : decode cL_law 349 = .ok (.if_icmp .eq 734, 3) := by decide +kernel
theorem dL_law_352 : decode cL_law 352 = .ok (.iconst 0, 1) := by decide +kernel
theorem dL_law_353 : decode cL_law 353 = .ok (.ireturn, 1) := by decide +kernel
theorem dL_law_354 : decode cL_law 354 = .ok (.aload_n 1, 1) := by decide +kernel
theorem dL_law_355 : decode cL_law 355 = .ok (.aload_n 0, 1) := by decide +kernel
theorem dL_law_356 : decode cL_law 356 = .ok (.iload_n 3, 1) := by decide +kernel
theorem dL_law_357 : decode cL_law 357 = .ok (.iconst 1, 1) := by decide +kernel
theorem dL_law_358 : decode cL_law 358 = .ok (.iadd, 1) := by decide +kernel
theorem dL_law_359 : decode cL_law 359 = .ok (.iaload, 1) := by decide +kernel
theorem dL_law_360 : decode cL_law 360 = .ok (.invokevirtual 41, 3) := by decide +kernel
theorem dL_law_363 : decode cL_law 363 = .ok (.aload_n 2, 1) := by decide +kernel
theorem dL_law_364 : decode cL_law 364 = .ok (.aload_n 0, 1) := by decide +kernel
theorem dL_law_365 : decode cL_law 365 = .ok (.iload_n 3, 1) := by decide +kernel
theorem dL_law_366 : decode cL_law 366 = .ok (.iconst 1, 1) := by decide +kernel
theorem dL_law_367 : decode cL_law 367 = .ok (.iadd, 1) := by decide +kernel
theorem dL_law_368 : decode cL_law 368 = .ok (.iaload, 1) := by decide +kernel
theorem dL_law_369 : decode cL_law 369 = .ok (.invokevirtual 44, 3) := by decide +kernel
theorem dL_law_372 : decode cL_law 372 = .ok (.if_icmp .eq 711, 3) := by decide +kernel
theorem dL_law_375 : decode cL_law 375 = .ok (.iconst 0, 1) := by decide +kernel
theorem dL_law_376 : decode cL_law 376 = .ok (.ireturn, 1) := by decide +kernel
theorem dL_law_377 : decode cL_law 377 = .ok (.aload_n 1, 1) := by decide +kernel
theorem dL_law_378 : decode cL_law 378 = .ok (.aload_n 0, 1) := by decide +kernel
theorem dL_law_379 : decode cL_law 379 = .ok (.iload_n 3, 1) := by decide +kernel
theorem dL_law_380 : decode cL_law 380 = .ok (.iconst 1, 1) := by decide +kernel
theorem dL_law_381 : decode cL_law 381 = .ok (.iadd, 1) := by decide +kernel
theorem dL_law_382 : decode cL_law 382 = .ok (.iaload, 1) := by decide +kernel
theorem dL_law_383 : decode cL_law 383 = .ok (.invokevirtual 45, 3) := by decide +kernel
theorem dL_law_386 : decode cL_law 386 = .ok (.aload_n 2, 1) := by decide +kernel
theorem dL_law_387 : decode cL_law 387 = .ok (.aload_n 0, 1) := by decide +kernel
theorem dL_law_388 : decode cL_law 388 = .ok (.iload_n 3, 1) := by decide +kernel
theorem dL_law_389 : decode cL_law 389 = .ok (.iconst 1, 1) := by decide +kernel
theorem dL_law_390 : decode cL_law 390 = .ok (.iadd, 1) := by decide +kernel
theorem dL_law_391 : decode cL_law 391 = .ok (.iaload, 1) := by decide +kernel
theorem dL_law_392 : decode cL_law 392 = .ok (.invokevirtual 48, 3) := by decide +kernel
theorem dL_law_395 : decode cL_law 395 = .ok (.if_icmp .eq 688, 3) := by decide +kernel
theorem dL_law_398 : decode cL_law 398 = .ok (.iconst 0, 1) := by decide +kernel
theorem dL_law_399 : decode cL_law 399 = .ok (.ireturn, 1) := by decide +kernel
theorem dL_law_400 : decode cL_law 400 = .ok (.aload_n 1, 1) := by decide +kernel
theorem dL_law_401 : decode cL_law 401 = .ok (.invokevirtual 49, 3) := by decide +kernel
theorem dL_law_404 : decode cL_law 404 = .ok (.aload_n 2, 1) := by decide +kernel
theorem dL_law_405 : decode cL_law 405 = .ok (.invokevirtual 52, 3) := by decide +kernel
theorem dL_law_408 : decode cL_law 408 = .ok (.if_icmp .eq 675, 3) := by decide +kernel
theorem dL_law_411 : decode cL_law 411 = .ok (.iconst 0, 1) := by decide +kernel
theorem dL_law_412 : decode cL_law 412 = .ok (.ireturn, 1) := by decide +kernel
theorem dL_law_413 : decode cL_law 413 = .ok (.aload_n 1, 1) := by decide +kernel
theorem dL_law_414 : decode cL_law 414 = .ok (.aload_n 0, 1) := by decide +kernel
theorem dL_law_415 : decode cL_law 415 = .ok (.iload_n 3, 1) := by decide +kernel
theorem dL_law_416 : decode cL_law 416 = .ok (.iconst 1, 1) := by decide +kernel
theorem dL_law_417 : decode cL_law 417 = .ok (.iadd, 1) := by decide +kernel
theorem dL_law_418 : decode cL_law 418 = .ok (.iaload, 1) := by decide +kernel
theorem dL_law_419 : decode cL_law 419 = .ok (.aload_n 0, 1) := by decide +kernel
theorem dL_law_420 : decode cL_law 420 = .ok (.iload_n 3, 1) := by decide +kernel
theorem dL_law_421 : decode cL_law 421 = .ok (.iconst 2, 1) := by decide +kernel
theorem dL_law_422 : decode cL_law 422 = .ok (.iadd, 1) := by decide +kernel
theorem dL_law_423 : decode cL_law 423 = .ok (.iaload, 1) := by decide +kernel
theorem dL_law_424 : decode cL_law 424 = .ok (.invokevirtual 53, 3) := by decide +kernel
theorem dL_law_427 : decode cL_law 427 = .ok (.aload_n 2, 1) := by decide +kernel
theorem dL_law_428 : decode cL_law 428 = .ok (.aload_n 0, 1) := by decide +kernel
theorem dL_law_429 : decode cL_law 429 = .ok (.iload_n 3, 1) := by decide +kernel
theorem dL_law_430 : decode cL_law 430 = .ok (.iconst 1, 1) := by decide +kernel
theorem dL_law_431 : decode cL_law 431 = .ok (.iadd, 1) := by decide +kernel
theorem dL_law_432 : decode cL_law 432 = .ok (.iaload, 1) := by decide +kernel
theorem dL_law_433 : decode cL_law 433 = .ok (.aload_n 0, 1) := by decide +kernel
theorem dL_law_434 : decode cL_law 434 = .ok (.iload_n 3, 1) := by decide +kernel
theorem dL_law_435 : decode cL_law 435 = .ok (.iconst 2, 1) := by decide +kernel
theorem dL_law_436 : decode cL_law 436 = .ok (.iadd, 1) := by decide +kernel
theorem dL_law_437 : decode cL_law 437 = .ok (.iaload, 1) := by decide +kernel
theorem dL_law_438 : decode cL_law 438 = .ok (.invokevirtual 56, 3) := by decide +kernel
theorem dL_law_441 : decode cL_law 441 = .ok (.if_icmp .eq 642, 3) := by decide +kernel
theorem dL_law_444 : decode cL_law 444 = .ok (.iconst 0, 1) := by decide +kernel
theorem dL_law_445 : decode cL_law 445 = .ok (.ireturn, 1) := by decide +kernel
theorem dL_law_446 : decode cL_law 446 = .ok (.aload_n 1, 1) := by decide +kernel
theorem dL_law_447 : decode cL_law 447 = .ok (.aload_n 0, 1) := by decide +kernel
theorem dL_law_448 : decode cL_law 448 = .ok (.iload_n 3, 1) := by decide +kernel
theorem dL_law_449 : decode cL_law 449 = .ok (.iconst 1, 1) := by decide +kernel
theorem dL_law_450 : decode cL_law 450 = .ok (.iadd, 1) := by decide +kernel
theorem dL_law_451 : decode cL_law 451 = .ok (.iaload, 1) := by decide +kernel
theorem dL_law_452 : decode cL_law 452 = .ok (.invokevirtual 57, 3) := by decide +kernel
theorem dL_law_455 : decode cL_law 455 = .ok (.aload_n 2, 1) := by decide +kernel
theorem dL_law_456 : decode cL_law 456 = .ok (.aload_n 0, 1) := by decide +kernel
theorem dL_law_457 : decode cL_law 457 = .ok (.iload_n 3, 1) := by decide +kernel
theorem dL_law_458 : decode cL_law 458 = .ok (.iconst 1, 1) := by decide +kernel
theorem dL_law_459 : decode cL_law 459 = .ok (.iadd, 1) := by decide +kernel
theorem dL_law_460 : decode cL_law 460 = .ok (.iaload, 1) := by decide +kernel
theorem dL_law_461 : decode cL_law 461 = .ok (.invokevirtual 60, 3) := by decide +kernel
theorem dL_law_464 : decode cL_law 464 = .ok (.if_icmp .eq 619, 3) := by decide +kernel
theorem dL_law_467 : decode cL_law 467 = .ok (.iconst 0, 1) := by decide +kernel
theorem dL_law_468 : decode cL_law 468 = .ok (.ireturn, 1) := by decide +kernel
theorem dL_law_469 : decode cL_law 469 = .ok (.aload_n 1, 1) := by decide +kernel
theorem dL_law_470 : decode cL_law 470 = .ok (.aload_n 0, 1) := by decide +kernel
theorem dL_law_471 : decode cL_law 471 = .ok (.iload_n 3, 1) := by decide +kernel
theorem dL_law_472 : decode cL_law 472 = .ok (.iconst 1, 1) := by decide +kernel
theorem dL_law_473 : decode cL_law 473 = .ok (.iadd, 1) := by decide +kernel
theorem dL_law_474 : decode cL_law 474 = .ok (.iaload, 1) := by decide +kernel
theorem dL_law_475 : decode cL_law 475 = .ok (.invokevirtual 61, 3) := by decide +kernel
theorem dL_law_478 : decode cL_law 478 = .ok (.aload_n 2, 1) := by decide +kernel
theorem dL_law_479 : decode cL_law 479 = .ok (.aload_n 0, 1) := by decide +kernel
theorem dL_law_480 : decode cL_law 480 = .ok (.iload_n 3, 1) := by decide +kernel
theorem dL_law_481 : decode cL_law 481 = .ok (.iconst 1, 1) := by decide +kernel
theorem dL_law_482 : decode cL_law 482 = .ok (.iadd, 1) := by decide +kernel
theorem dL_law_483 : decode cL_law 483 = .ok (.iaload, 1) := by decide +kernel
theorem dL_law_484 : decode cL_law 484 = .ok (.invokevirtual 64, 3) := by decide +kernel
theorem dL_law_487 : decode cL_law 487 = .ok (.if_icmp .eq 596, 3) := by decide +kernel
theorem dL_law_490 : decode cL_law 490 = .ok (.iconst 0, 1) := by decide +kernel
theorem dL_law_491 : decode cL_law 491 = .ok (.ireturn, 1) := by decide +kernel
theorem dL_law_492 : decode cL_law 492 = .ok (.aload_n 1, 1) := by decide +kernel
theorem dL_law_493 : decode cL_law 493 = .ok (.aload_n 0, 1) := by decide +kernel
theorem dL_law_494 : decode cL_law 494 = .ok (.iload_n 3, 1) := by decide +kernel
theorem dL_law_495 : decode cL_law 495 = .ok (.iconst 1, 1) := by decide +kernel
theorem dL_law_496 : decode cL_law 496 = .ok (.iadd, 1) := by decide +kernel
theorem dL_law_497 : decode cL_law 497 = .ok (.iaload, 1) := by decide +kernel
theorem dL_law_498 : decode cL_law 498 = .ok (.aload_n 0, 1) := by decide +kernel
theorem dL_law_499 : decode cL_law 499 = .ok (.iload_n 3, 1) := by decide +kernel
theorem dL_law_500 : decode cL_law 500 = .ok (.iconst 2, 1) := by decide +kernel
theorem dL_law_501 : decode cL_law 501 = .ok (.iadd, 1) := by decide +kernel
theorem dL_law_502 : decode cL_law 502 = .ok (.iaload, 1) := by decide +kernel
theorem dL_law_503 : decode cL_law 503 = .ok (.invokevirtual 65, 3) := by decide +kernel
theorem dL_law_506 : decode cL_law 506 = .ok (.aload_n 2, 1) := by decide +kernel
theorem dL_law_507 : decode cL_law 507 = .ok (.aload_n 0, 1) := by decide +kernel
theorem dL_law_508 : decode cL_law 508 = .ok (.iload_n 3, 1) := by decide +kernel
theorem dL_law_509 : decode cL_law 509 = .ok (.iconst 1, 1) := by decide +kernel
theorem dL_law_510 : decode cL_law 510 = .ok (.iadd, 1) := by decide +kernel
theorem dL_law_511 : decode cL_law 511 = .ok (.iaload, 1) := by decide +kernel
theorem dL_law_512 : decode cL_law 512 = .ok (.aload_n 0, 1) := by decide +kernel
theorem dL_law_513 : decode cL_law 513 = .ok (.iload_n 3, 1) := by decide +kernel
theorem dL_law_514 : decode cL_law 514 = .ok (.iconst 2, 1) := by decide +kernel
theorem dL_law_515 : decode cL_law 515 = .ok (.iadd, 1) := by decide +kernel
theorem dL_law_516 : decode cL_law 516 = .ok (.iaload, 1) := by decide +kernel
theorem dL_law_517 : decode cL_law 517 = .ok (.invokevirtual 68, 3) := by decide +kernel
theorem dL_law_520 : decode cL_law 520 = .ok (.if_icmp .eq 563, 3) := by decide +kernel
theorem dL_law_523 : decode cL_law 523 = .ok (.iconst 0, 1) := by decide +kernel
theorem dL_law_524 : decode cL_law 524 = .ok (.ireturn, 1) := by decide +kernel
theorem dL_law_525 : decode cL_law 525 = .ok (.aload_n 1, 1) := by decide +kernel
theorem dL_law_526 : decode cL_law 526 = .ok (.invokevirtual 69, 3) := by decide +kernel
theorem dL_law_529 : decode cL_law 529 = .ok (.aload_n 2, 1) := by decide +kernel
theorem dL_law_530 : decode cL_law 530 = .ok (.invokevirtual 72, 3) := by decide +kernel
theorem dL_law_533 : decode cL_law 533 = .ok (.if_icmp .eq 550, 3) := by decide +kernel
theorem dL_law_536 : decode cL_law 536 = .ok (.iconst 0, 1) := by decide +kernel
theorem dL_law_537 : decode cL_law 537 = .ok (.ireturn, 1) := by decide +kernel
theorem dL_law_538 : decode cL_law 538 = .ok (.aload_n 1, 1) := by decide +kernel
theorem dL_law_539 : decode cL_law 539 = .ok (.aload_n 0, 1) := by decide +kernel
theorem dL_law_540 : decode cL_law 540 = .ok (.iload_n 3, 1) := by decide +kernel
theorem dL_law_541 : decode cL_law 541 = .ok (.iconst 1, 1) := by decide +kernel
theorem dL_law_542 : decode cL_law 542 = .ok (.iadd, 1) := by decide +kernel
theorem dL_law_543 : decode cL_law 543 = .ok (.iaload, 1) := by decide +kernel
theorem dL_law_544 : decode cL_law 544 = .ok (.aload_n 0, 1) := by decide +kernel
theorem dL_law_545 : decode cL_law 545 = .ok (.iload_n 3, 1) := by decide +kernel
theorem dL_law_546 : decode cL_law 546 = .ok (.iconst 2, 1) := by decide +kernel
theorem dL_law_547 : decode cL_law 547 = .ok (.iadd, 1) := by decide +kernel
theorem dL_law_548 : decode cL_law 548 = .ok (.iaload, 1) := by decide +kernel
theorem dL_law_549 : decode cL_law 549 = .ok (.invokevirtual 73, 3) := by decide +kernel
theorem dL_law_552 : decode cL_law 552 = .ok (.aload_n 2, 1) := by decide +kernel
theorem dL_law_553 : decode cL_law 553 = .ok (.aload_n 0, 1) := by decide +kernel
theorem dL_law_554 : decode cL_law 554 = .ok (.iload_n 3, 1) := by decide +kernel
theorem dL_law_555 : decode cL_law 555 = .ok (.iconst 1, 1) := by decide +kernel
theorem dL_law_556 : decode cL_law 556 = .ok (.iadd, 1) := by decide +kernel
theorem dL_law_557 : decode cL_law 557 = .ok (.iaload, 1) := by decide +kernel
theorem dL_law_558 : decode cL_law 558 = .ok (.aload_n 0, 1) := by decide +kernel
theorem dL_law_559 : decode cL_law 559 = .ok (.iload_n 3, 1) := by decide +kernel
theorem dL_law_560 : decode cL_law 560 = .ok (.iconst 2, 1) := by decide +kernel
theorem dL_law_561 : decode cL_law 561 = .ok (.iadd, 1) := by decide +kernel
theorem dL_law_562 : decode cL_law 562 = .ok (.iaload, 1) := by decide +kernel
theorem dL_law_563 : decode cL_law 563 = .ok (.invokevirtual 76, 3) := by decide +kernel
end
section
theorem dL_law_566 : decode cL_law 566 = .ok (.if_icmp .eq 517, 3) := by decide +kernel
theorem dL_law_569 : decode cL_law 569 = .ok (.iconst 0, 1) := by decide +kernel
theorem dL_law_570 : decode cL_law 570 = .ok (.ireturn, 1) := by decide +kernel
theorem dL_law_571 : decode cL_law 571 = .ok (.aload_n 1, 1) := by decide +kernel
theorem dL_law_572 : decode cL_law 572 = .ok (.invokevirtual 77, 3) := by decide +kernel
theorem dL_law_575 : decode cL_law 575 = .ok (.aload_n 2, 1) := by decide +kernel
theorem dL_law_576 : decode cL_law 576 = .ok (.invokevirtual 80, 3) := by decide +kernel
theorem dL_law_579 : decode cL_law 579 = .ok (.if_icmp .eq 504, 3) := by decide +kernel
theorem dL_law_582 : decode cL_law 582 = .ok (.iconst 0, 1) := by decide +kernel
theorem dL_law_583 : decode cL_law 583 = .ok (.ireturn, 1) := by decide +kernel
theorem dL_law_584 : decode cL_law 584 = .ok (.aload_n 1, 1) := by decide +kernel
theorem dL_law_585 : decode cL_law 585 = .ok (.aload_n 0, 1) := by decide +kernel
theorem dL_law_586 : decode cL_law 586 = .ok (.iload_n 3, 1) := by decide +kernel
theorem dL_law_587 : decode cL_law 587 = .ok (.iconst 1, 1) := by decide +kernel
theorem dL_law_588 : decode cL_law 588 = .ok (.iadd, 1) := by decide +kernel
theorem dL_law_589 : decode cL_law 589 = .ok (.iaload, 1) := by decide +kernel
theorem dL_law_590 : decode cL_law 590 = .ok (.aload_n 0, 1) := by decide +kernel
theorem dL_law_591 : decode cL_law 591 = .ok (.iload_n 3, 1) := by decide +kernel
theorem dL_law_592 : decode cL_law 592 = .ok (.iconst 2, 1) := by decide +kernel
theorem dL_law_593 : decode cL_law 593 = .ok (.iadd, 1) := by decide +kernel
theorem dL_law_594 : decode cL_law 594 = .ok (.iaload, 1) := by decide +kernel
theorem dL_law_595 : decode cL_law 595 = .ok (.invokevirtual 81, 3) := by decide +kernel
theorem dL_law_598 : decode cL_law 598 = .ok (.aload_n 2, 1) := by decide +kernel
theorem dL_law_599 : decode cL_law 599 = .ok (.aload_n 0, 1) := by decide +kernel
theorem dL_law_600 : decode cL_law 600 = .ok (.iload_n 3, 1) := by decide +kernel
theorem dL_law_601 : decode cL_law 601 = .ok (.iconst 1, 1) := by decide +kernel
theorem dL_law_602 : decode cL_law 602 = .ok (.iadd, 1) := by decide +kernel
theorem dL_law_603 : decode cL_law 603 = .ok (.iaload, 1) := by decide +kernel
theorem dL_law_604 : decode cL_law 604 = .ok (.aload_n 0, 1) := by decide +kernel
theorem dL_law_605 : decode cL_law 605 = .ok (.iload_n 3, 1) := by decide +kernel
theorem dL_law_606 : decode cL_law 606 = .ok (.iconst 2, 1) := by decide +kernel
theorem dL_law_607 : decode cL_law 607 = .ok (.iadd, 1) := by decide +kernel
theorem dL_law_608 : decode cL_law 608 = .ok (.iaload, 1) := by decide +kernel
theorem dL_law_609 : decode cL_law 609 = .ok (.invokevirtual 84, 3) := by decide +kernel
theorem dL_law_612 : decode cL_law 612 = .ok (.if_icmp .eq 471, 3) := by decide +kernel
theorem dL_law_615 : decode cL_law 615 = .ok (.iconst 0, 1) := by decide +kernel
theorem dL_law_616 : decode cL_law 616 = .ok (.ireturn, 1) := by decide +kernel
theorem dL_law_617 : decode cL_law 617 = .ok (.aload_n 1, 1) := by decide +kernel
theorem dL_law_618 : decode cL_law 618 = .ok (.aload_n 0, 1) := by decide +kernel
theorem dL_law_619 : decode cL_law 619 = .ok (.iload_n 3, 1) := by decide +kernel
theorem dL_law_620 : decode cL_law 620 = .ok (.iconst 1, 1) := by decide +kernel
theorem dL_law_621 : decode cL_law 621 = .ok (.iadd, 1) := by decide +kernel
theorem dL_law_622 : decode cL_law 622 = .ok (.iaload, 1) := by decide +kernel
theorem dL_law_623 : decode cL_law 623 = .ok (.invokevirtual 85, 3) := by decide +kernel
theorem dL_law_626 : decode cL_law 626 = .ok (.aload_n 2, 1) := by decide +kernel
theorem dL_law_627 : decode cL_law 627 = .ok (.aload_n 0, 1) := by decide +kernel
theorem dL_law_628 : decode cL_law 628 = .ok (.iload_n 3, 1) := by decide +kernel
theorem dL_law_629 : decode cL_law 629 = .ok (.iconst 1, 1) := by decide +kernel
theorem dL_law_630 : decode cL_law 630 = .ok (.iadd, 1) := by decide +kernel
theorem dL_law_631 : decode cL_law 631 = .ok (.iaload, 1) := by decide +kernel
theorem dL_law_632 : decode cL_law 632 = .ok (.invokevirtual 88, 3) := by decide +kernel
theorem dL_law_635 : decode cL_law 635 = .ok (.if_icmp .eq 448, 3) := by decide +kernel
theorem dL_law_638 : decode cL_law 638 = .ok (.iconst 0, 1) := by decide +kernel
theorem dL_law_639 : decode cL_law 639 = .ok (.ireturn, 1) := by decide +kernel
theorem dL_law_640 : decode cL_law 640 = .ok (.aload_n 1, 1) := by decide +kernel
theorem dL_law_641 : decode cL_law 641 = .ok (.invokevirtual 89, 3) := by decide +kernel
theorem dL_law_644 : decode cL_law 644 = .ok (.aload_n 2, 1) := by decide +kernel
theorem dL_law_645 : decode cL_law 645 = .ok (.invokevirtual 92, 3) := by decide +kernel
theorem dL_law_648 : decode cL_law 648 = .ok (.if_icmp .eq 435, 3) := by decide +kernel
theorem dL_law_651 : decode cL_law 651 = .ok (.iconst 0, 1) := by decide +kernel
theorem dL_law_652 : decode cL_law 652 = .ok (.ireturn, 1) := by decide +kernel
theorem dL_law_653 : decode cL_law 653 = .ok (.aload_n 1, 1) := by decide +kernel
theorem dL_law_654 : decode cL_law 654 = .ok (.aload_n 0, 1) := by decide +kernel
theorem dL_law_655 : decode cL_law 655 = .ok (.iload_n 3, 1) := by decide +kernel
theorem dL_law_656 : decode cL_law 656 = .ok (.iconst 1, 1) := by decide +kernel
theorem dL_law_657 : decode cL_law 657 = .ok (.iadd, 1) := by decide +kernel
theorem dL_law_658 : decode cL_law 658 = .ok (.iaload, 1) := by decide +kernel
theorem dL_law_659 : decode cL_law 659 = .ok (.aload_n 0, 1) := by decide +kernel
theorem dL_law_660 : decode cL_law 660 = .ok (.iload_n 3, 1) := by decide +kernel
theorem dL_law_661 : decode cL_law 661 = .ok (.iconst 2, 1) := by decide +kernel
theorem dL_law_662 : decode cL_law 662 = .ok (.iadd, 1) := by decide +kernel
theorem dL_law_663 : decode cL_law 663 = .ok (.iaload, 1) := by decide +kernel
theorem dL_law_664 : decode cL_law 664 = .ok (.invokevirtual 93, 3) := by decide +kernel
theorem dL_law_667 : decode cL_law 667 = .ok (.aload_n 2, 1) := by decide +kernel
theorem dL_law_668 : decode cL_law 668 = .ok (.aload_n 0, 1) := by decide +kernel
theorem dL_law_669 : decode cL_law 669 = .ok (.iload_n 3, 1) := by decide +kernel
theorem dL_law_670 : decode cL_law 670 = .ok (.iconst 1, 1) := by decide +kernel
theorem dL_law_671 : decode cL_law 671 = .ok (.iadd, 1) := by decide +kernel
theorem dL_law_672 : decode cL_law 672 = .ok (.iaload, 1) := by decide +kernel
theorem dL_law_673 : decode cL_law 673 = .ok (.aload_n 0, 1) := by decide +kernel
theorem dL_law_674 : decode cL_law 674 = .ok (.iload_n 3, 1) := by decide +kernel
theorem dL_law_675 : decode cL_law 675 = .ok (.iconst 2, 1) := by decide +kernel
theorem dL_law_676 : decode cL_law 676 = .ok (.iadd, 1) := by decide +kernel
theorem dL_law_677 : decode cL_law 677 = .ok (.iaload, 1) := by decide +kernel
theorem dL_law_678 : decode cL_law 678 = .ok (.invokevirtual 96, 3) := by decide +kernel
theorem dL_law_681 : decode cL_law 681 = .ok (.if_icmp .eq 402, 3) := by decide +kernel
theorem dL_law_684 : decode cL_law 684 = .ok (.iconst 0, 1) := by decide +kernel
theorem dL_law_685 : decode cL_law 685 = .ok (.ireturn, 1) := by decide +kernel
theorem dL_law_686 : decode cL_law 686 = .ok (.aload_n 1, 1) := by decide +kernel
theorem dL_law_687 : decode cL_law 687 = .ok (.invokevirtual 97, 3) := by decide +kernel
theorem dL_law_690 : decode cL_law 690 = .ok (.aload_n 2, 1) := by decide +kernel
theorem dL_law_691 : decode cL_law 691 = .ok (.invokevirtual 100, 3) := by decide +kernel
theorem dL_law_694 : decode cL_law 694 = .ok (.if_icmp .eq 389, 3) := by decide +kernel
theorem dL_law_697 : decode cL_law 697 = .ok (.iconst 0, 1) := by decide +kernel
theorem dL_law_698 : decode cL_law 698 = .ok (.ireturn, 1) := by decide +kernel
theorem dL_law_699 : decode cL_law 699 = .ok (.aload_n 1, 1) := by decide +kernel
theorem dL_law_700 : decode cL_law 700 = .ok (.aload_n 0, 1) := by decide +kernel
theorem dL_law_701 : decode cL_law 701 = .ok (.iload_n 3, 1) := by decide +kernel
theorem dL_law_702 : decode cL_law 702 = .ok (.iconst 1, 1) := by decide +kernel
theorem dL_law_703 : decode cL_law 703 = .ok (.iadd, 1) := by decide +kernel
theorem dL_law_704 : decode cL_law 704 = .ok (.iaload, 1) := by decide +kernel
theorem dL_law_705 : decode cL_law 705 = .ok (.invokevirtual 101, 3) := by decide +kernel
theorem dL_law_708 : decode cL_law 708 = .ok (.aload_n 2, 1) := by decide +kernel
theorem dL_law_709 : decode cL_law 709 = .ok (.aload_n 0, 1) := by decide +kernel
theorem dL_law_710 : decode cL_law 710 = .ok (.iload_n 3, 1) := by decide +kernel
theorem dL_law_711 : decode cL_law 711 = .ok (.iconst 1, 1) := by decide +kernel
theorem dL_law_712 : decode cL_law 712 = .ok (.iadd, 1) := by decide +kernel
theorem dL_law_713 : decode cL_law 713 = .ok (.iaload, 1) := by decide +kernel
theorem dL_law_714 : decode cL_law 714 = .ok (.invokevirtual 104, 3) := by decide +kernel
theorem dL_law_717 : decode cL_law 717 = .ok (.if_icmp .eq 366, 3) := by decide +kernel
theorem dL_law_720 : decode cL_law 720 = .ok (.iconst 0, 1) := by decide +kernel
theorem dL_law_721 : decode cL_law 721 = .ok (.ireturn, 1) := by decide +kernel
theorem dL_law_722 : decode cL_law 722 = .ok (.aload_n 1, 1) := by decide +kernel
theorem dL_law_723 : decode cL_law 723 = .ok (.aload_n 0, 1) := by decide +kernel
theorem dL_law_724 : decode cL_law 724 = .ok (.iload_n 3, 1) := by decide +kernel
theorem dL_law_725 : decode cL_law 725 = .ok (.iconst 1, 1) := by decide +kernel
theorem dL_law_726 : decode cL_law 726 = .ok (.iadd, 1) := by decide +kernel
theorem dL_law_727 : decode cL_law 727 = .ok (.iaload, 1) := by decide +kernel
theorem dL_law_728 : decode cL_law 728 = .ok (.invokevirtual 105, 3) := by decide +kernel
theorem dL_law_731 : decode cL_law 731 = .ok (.aload_n 2, 1) := by decide +kernel
theorem dL_law_732 : decode cL_law 732 = .ok (.aload_n 0, 1) := by decide +kernel
theorem dL_law_733 : decode cL_law 733 = .ok (.iload_n 3, 1) := by decide +kernel
theorem dL_law_734 : decode cL_law 734 = .ok (.iconst 1, 1) := by decide +kernel
theorem dL_law_735 : decode cL_law 735 = .ok (.iadd, 1) := by decide +kernel
theorem dL_law_736 : decode cL_law 736 = .ok (.iaload, 1) := by decide +kernel
theorem dL_law_737 : decode cL_law 737 = .ok (.invokevirtual 108, 3) := by decide +kernel
theorem dL_law_740 : decode cL_law 740 = .ok (.if_icmp .eq 343, 3) := by decide +kernel
theorem dL_law_743 : decode cL_law 743 = .ok (.iconst 0, 1) := by decide +kernel
theorem dL_law_744 : decode cL_law 744 = .ok (.ireturn, 1) := by decide +kernel
theorem dL_law_745 : decode cL_law 745 = .ok (.aload_n 1, 1) := by decide +kernel
theorem dL_law_746 : decode cL_law 746 = .ok (.aload_n 0, 1) := by decide +kernel
theorem dL_law_747 : decode cL_law 747 = .ok (.iload_n 3, 1) := by decide +kernel
theorem dL_law_748 : decode cL_law 748 = .ok (.iconst 1, 1) := by decide +kernel
theorem dL_law_749 : decode cL_law 749 = .ok (.iadd, 1) := by decide +kernel
theorem dL_law_750 : decode cL_law 750 = .ok (.iaload, 1) := by decide +kernel
theorem dL_law_751 : decode cL_law 751 = .ok (.aload_n 0, 1) := by decide +kernel
theorem dL_law_752 : decode cL_law 752 = .ok (.iload_n 3, 1) := by decide +kernel
theorem dL_law_753 : decode cL_law 753 = .ok (.iconst 2, 1) := by decide +kernel
theorem dL_law_754 : decode cL_law 754 = .ok (.iadd, 1) := by decide +kernel
theorem dL_law_755 : decode cL_law 755 = .ok (.iaload, 1) := by decide +kernel
theorem dL_law_756 : decode cL_law 756 = .ok (.aload_n 0, 1) := by decide +kernel
theorem dL_law_757 : decode cL_law 757 = .ok (.iload_n 3, 1) := by decide +kernel
theorem dL_law_758 : decode cL_law 758 = .ok (.iconst 3, 1) := by decide +kernel
theorem dL_law_759 : decode cL_law 759 = .ok (.iadd, 1) := by decide +kernel
theorem dL_law_760 : decode cL_law 760 = .ok (.iaload, 1) := by decide +kernel
theorem dL_law_761 : decode cL_law 761 = .ok (.aload_n 0, 1) := by decide +kernel
theorem dL_law_762 : decode cL_law 762 = .ok (.iload_n 3, 1) := by decide +kernel
theorem dL_law_763 : decode cL_law 763 = .ok (.iconst 4, 1) := by decide +kernel
theorem dL_law_764 : decode cL_law 764 = .ok (.iadd, 1) := by decide +kernel
theorem dL_law_765 : decode cL_law 765 = .ok (.iaload, 1) := by decide +kernel
theorem dL_law_766 : decode cL_law 766 = .ok (.invokevirtual 109, 3) := by decide +kernel
theorem dL_law_769 : decode cL_law 769 = .ok (.aload_n 2, 1) := by decide +kernel
theorem dL_law_770 : decode cL_law 770 = .ok (.aload_n 0, 1) := by decide +kernel
theorem dL_law_771 : decode cL_law 771 = .ok (.iload_n 3, 1) := by decide +kernel
theorem dL_law_772 : decode cL_law 772 = .ok (.iconst 1, 1) := by decide +kernel
theorem dL_law_773 : decode cL_law 773 = .ok (.iadd, 1) := by decide +kernel
theorem dL_law_774 : decode cL_law 774 = .ok (.iaload, 1) := by decide +kernel
theorem dL_law_775 : decode cL_law 775 = .ok (.aload_n 0, 1) := by decide +kernel
theorem dL_law_776 : decode cL_law 776 = .ok (.iload_n 3, 1) := by decide +kernel
theorem dL_law_777 : decode cL_law 777 = .ok (.iconst 2, 1) := by decide +kernel
theorem dL_law_778 : decode cL_law 778 = .ok (.iadd, 1) := by decide +kernel
theorem dL_law_779 : decode cL_law 779 = .ok (.iaload, 1) := by decide +kernel
theorem dL_law_780 : decode cL_law 780 = .ok (.aload_n 0, 1) := by decide +kernel
theorem dL_law_781 : decode cL_law 781 = .ok (.iload_n 3, 1) := by decide +kernel
theorem dL_law_782 : decode cL_law 782 = .ok (.iconst 3, 1) := by decide +kernel
theorem dL_law_783 : decode cL_law 783 = .ok (.iadd, 1) := by decide +kernel
theorem dL_law_784 : decode cL_law 784 = .ok (.iaload, 1) := by decide +kernel
theorem dL_law_785 : decode cL_law 785 = .ok (.aload_n 0, 1) := by decide +kernel
theorem dL_law_786 : decode cL_law 786 = .ok (.iload_n 3, 1) := by decide +kernel
theorem dL_law_787 : decode cL_law 787 = .ok (.iconst 4, 1) := by decide +kernel
theorem dL_law_788 : decode cL_law 788 = .ok (.iadd, 1) := by decide +kernel
theorem dL_law_789 : decode cL_law 789 = .ok (.iaload, 1) := by decide +kernel
theorem dL_law_790 : decode cL_law 790 = .ok (.invokevirtual 113, 3) := by decide +kernel
theorem dL_law_793 : decode cL_law 793 = .ok (.lcmp, 1) := by decide +kernel
theorem dL_law_794 : decode cL_law 794 = .ok (.ifCond .eq 289, 3) := by decide +kernel
theorem dL_law_797 : decode cL_law 797 = .ok (.iconst 0, 1) := by decide +kernel
theorem dL_law_798 : decode cL_law 798 = .ok (.ireturn, 1) := by decide +kernel
theorem dL_law_799 : decode cL_law 799 = .ok (.aload_n 1, 1) := by decide +kernel
theorem dL_law_800 : decode cL_law 800 = .ok (.invokevirtual 114, 3) := by decide +kernel
theorem dL_law_803 : decode cL_law 803 = .ok (.aload_n 2, 1) := by decide +kernel
theorem dL_law_804 : decode cL_law 804 = .ok (.invokevirtual 117, 3) := by decide +kernel
theorem dL_law_807 : decode cL_law 807 = .ok (.if_icmp .eq 276, 3) := by decide +kernel
theorem dL_law_810 : decode cL_law 810 = .ok (.iconst 0, 1) := by decide +kernel
theorem dL_law_811 : decode cL_law 811 = .ok (.ireturn, 1) := by decide +kernel
theorem dL_law_812 : decode cL_law 812 = .ok (.aload_n 1, 1) := by decide +kernel
theorem dL_law_813 : decode cL_law 813 = .ok (.invokevirtual 118, 3) := by decide +kernel
theorem dL_law_816 : decode cL_law 816 = .ok (.aload_n 2, 1) := by decide +kernel
theorem dL_law_817 : decode cL_law 817 = .ok (.invokevirtual 121, 3) := by decide +kernel
theorem dL_law_820 : decode cL_law 820 = .ok (.if_icmp .eq 263, 3) := by decide +kernel
theorem dL_law_823 : decode cL_law 823 = .ok (.iconst 0, 1) := by decide +kernel
theorem dL_law_824 : decode cL_law 824 = .ok (.ireturn, 1) := by decide +kernel
theorem dL_law_825 : decode cL_law 825 = .ok (.aload_n 1, 1) := by decide +kernel
theorem dL_law_826 : decode cL_law 826 = .ok (.aload_n 0, 1) := by decide +kernel
theorem dL_law_827 : decode cL_law 827 = .ok (.iload_n 3, 1) := by decide +kernel
theorem dL_law_828 : decode cL_law 828 = .ok (.iconst 1, 1) := by decide +kernel
theorem dL_law_829 : decode cL_law 829 = .ok (.iadd, 1) := by decide +kernel
theorem dL_law_830 : decode cL_law 830 = .ok (.iaload, 1) := by decide +kernel
theorem dL_law_831 : decode cL_law 831 = .ok (.invokevirtual 122, 3) := by decide +kernel
theorem dL_law_834 : decode cL_law 834 = .ok (.aload_n 2, 1) := by decide +kernel
theorem dL_law_835 : decode cL_law 835 = .ok (.aload_n 0, 1) := by decide +kernel
theorem dL_law_836 : decode cL_law 836 = .ok (.iload_n 3, 1) := by decide +kernel
theorem dL_law_837 : decode cL_law 837 = .ok (.iconst 1, 1) := by decide +kernel
theorem dL_law_838 : decode cL_law 838 = .ok (.iadd, 1) := by decide +kernel
theorem dL_law_839 : decode cL_law 839 = .ok (.iaload, 1) := by decide +kernel
theorem dL_law_840 : decode cL_law 840 = .ok (.invokevirtual 125, 3) := by decide +kernel
theorem dL_law_843 : decode cL_law 843 = .ok (.if_icmp .eq 240, 3) := by decide +kernel
theorem dL_law_846 : decode cL_law 846 = .ok (.iconst 0, 1) := by decide +kernel
theorem dL_law_847 : decode cL_law 847 = .ok (.ireturn, 1) := by decide +kernel
theorem dL_law_848 : decode cL_law 848 = .ok (.aload_n 1, 1) := by decide +kernel
theorem dL_law_849 : decode cL_law 849 = .ok (.aload_n 0, 1) := by decide +kernel
theorem dL_law_850 : decode cL_law 850 = .ok (.iload_n 3, 1) := by decide +kernel
theorem dL_law_851 : decode cL_law 851 = .ok (.iconst 1, 1) := by decide +kernel
theorem dL_law_852 : decode cL_law 852 = .ok (.iadd, 1) := by decide +kernel
theorem dL_law_853 : decode cL_law 853 = .ok (.iaload, 1) := by decide +kernel
theorem dL_law_854 : decode cL_law 854 = .ok (.aload_n 0, 1) := by decide +kernel
theorem dL_law_855 : decode cL_law 855 = .ok (.iload_n 3, 1) := by decide +kernel
theorem dL_law_856 : decode cL_law 856 = .ok (.iconst 2, 1) := by decide +kernel
theorem dL_law_857 : decode cL_law 857 = .ok (.iadd, 1) := by decide +kernel
theorem dL_law_858 : decode cL_law 858 = .ok (.iaload, 1) := by decide +kernel
theorem dL_law_859 : decode cL_law 859 = .ok (.aload_n 0, 1) := by decide +kernel
theorem dL_law_860 : decode cL_law 860 = .ok (.iload_n 3, 1) := by decide +kernel
theorem dL_law_861 : decode cL_law 861 = .ok (.iconst 3, 1) := by decide +kernel
theorem dL_law_862 : decode cL_law 862 = .ok (.iadd, 1) := by decide +kernel
theorem dL_law_863 : decode cL_law 863 = .ok (.iaload, 1) := by decide +kernel
theorem dL_law_864 : decode cL_law 864 = .ok (.invokevirtual 126, 3) := by decide +kernel
theorem dL_law_867 : decode cL_law 867 = .ok (.aload_n 2, 1) := by decide +kernel
theorem dL_law_868 : decode cL_law 868 = .ok (.aload_n 0, 1) := by decide +kernel
theorem dL_law_869 : decode cL_law 869 = .ok (.iload_n 3, 1) := by decide +kernel
theorem dL_law_870 : decode cL_law 870 = .ok (.iconst 1, 1) := by decide +kernel
theorem dL_law_871 : decode cL_law 871 = .ok (.iadd, 1) := by decide +kernel
theorem dL_law_872 : decode cL_law 872 = .ok (.iaload, 1) := by decide +kernel
theorem dL_law_873 : decode cL_law 873 = .ok (.aload_n 0, 1) := by decide +kernel
theorem dL_law_874 : decode cL_law 874 = .ok (.iload_n 3, 1) := by decide +kernel
theorem dL_law_875 : decode cL_law 875 = .ok (.iconst 2, 1) := by decide +kernel
theorem dL_law_876 : decode cL_law 876 = .ok (.iadd, 1) := by decide +kernel
theorem dL_law_877 : decode cL_law 877 = .ok (.iaload, 1) := by decide +kernel
theorem dL_law_878 : decode cL_law 878 = .ok (.aload_n 0, 1) := by decide +kernel
theorem dL_law_879 : decode cL_law 879 = .ok (.iload_n 3, 1) := by decide +kernel
theorem dL_law_880 : decode cL_law 880 = .ok (.iconst 3, 1) := by decide +kernel
theorem dL_law_881 : decode cL_law 881 = .ok (.iadd, 1) := by decide +kernel
theorem dL_law_882 : decode cL_law 882 = .ok (.iaload, 1) := by decide +kernel
theorem dL_law_883 : decode cL_law 883 = .ok (.invokevirtual 129, 3) := by decide +kernel
theorem dL_law_886 : decode cL_law 886 = .ok (.if_icmp .eq 197, 3) := by decide +kernel
theorem dL_law_889 : decode cL_law 889 = .ok (.iconst 0, 1) := by decide +kernel
theorem dL_law_890 : decode cL_law 890 = .ok (.ireturn, 1) := by decide +kernel
theorem dL_law_891 : decode cL_law 891 = .ok (.aload_n 1, 1) := by decide +kernel
theorem dL_law_892 : decode cL_law 892 = .ok (.aload_n 0, 1) := by decide +kernel
theorem dL_law_893 : decode cL_law 893 = .ok (.iload_n 3, 1) := by decide +kernel
theorem dL_law_894 : decode cL_law 894 = .ok (.iconst 1, 1) := by decide +kernel
theorem dL_law_895 : decode cL_law 895 = .ok (.iadd, 1) := by decide +kernel
theorem dL_law_896 : decode cL_law 896 = .ok (.iaload, 1) := by decide +kernel
theorem dL_law_897 : decode cL_law 897 = .ok (.aload_n 0, 1) := by decide +kernel
theorem dL_law_898 : decode cL_law 898 = .ok (.iload_n 3, 1) := by decide +kernel
theorem dL_law_899 : decode cL_law 899 = .ok (.iconst 2, 1) := by decide +kernel
theorem dL_law_900 : decode cL_law 900 = .ok (.iadd, 1) := by decide +kernel
theorem dL_law_901 : decode cL_law 901 = .ok (.iaload, 1) := by decide +kernel
theorem dL_law_902 : decode cL_law 902 = .ok (.aload_n 0, 1) := by decide +kernel
theorem dL_law_903 : decode cL_law 903 = .ok (.iload_n 3, 1) := by decide +kernel
theorem dL_law_904 : decode cL_law 904 = .ok (.iconst 3, 1) := by decide +kernel
theorem dL_law_905 : decode cL_law 905 = .ok (.iadd, 1) := by decide +kernel
theorem dL_law_906 : decode cL_law 906 = .ok (.iaload, 1) := by decide +kernel
theorem dL_law_907 : decode cL_law 907 = .ok (.invokevirtual 130, 3) := by decide +kernel
theorem dL_law_910 : decode cL_law 910 = .ok (.aload_n 2, 1) := by decide +kernel
theorem dL_law_911 : decode cL_law 911 = .ok (.aload_n 0, 1) := by decide +kernel
theorem dL_law_912 : decode cL_law 912 = .ok (.iload_n 3, 1) := by decide +kernel
theorem dL_law_913 : decode cL_law 913 = .ok (.iconst 1, 1) := by decide +kernel
theorem dL_law_914 : decode cL_law 914 = .ok (.iadd, 1) := by decide +kernel
theorem dL_law_915 : decode cL_law 915 = .ok (.iaload, 1) := by decide +kernel
theorem dL_law_916 : decode cL_law 916 = .ok (.aload_n 0, 1) := by decide +kernel
theorem dL_law_917 : decode cL_law 917 = .ok (.iload_n 3, 1) := by decide +kernel
theorem dL_law_918 : decode cL_law 918 = .ok (.iconst 2, 1) := by decide +kernel
theorem dL_law_919 : decode cL_law 919 = .ok (.iadd, 1) := by decide +kernel
theorem dL_law_920 : decode cL_law 920 = .ok (.iaload, 1) := by decide +kernel
theorem dL_law_921 : decode cL_law 921 = .ok (.aload_n 0, 1) := by decide +kernel
theorem dL_law_922 : decode cL_law 922 = .ok (.iload_n 3, 1) := by decide +kernel
theorem dL_law_923 : decode cL_law 923 = .ok (.iconst 3, 1) := by decide +kernel
theorem dL_law_924 : decode cL_law 924 = .ok (.iadd, 1) := by decide +kernel
theorem dL_law_925 : decode cL_law 925 = .ok (.iaload, 1) := by decide +kernel
theorem dL_law_926 : decode cL_law 926 = .ok (.invokevirtual 133, 3) := by decide +kernel
theorem dL_law_929 : decode cL_law 929 = .ok (.if_icmp .eq 154, 3) := by decide +kernel
theorem dL_law_932 : decode cL_law 932 = .ok (.iconst 0, 1) := by decide +kernel
theorem dL_law_933 : decode cL_law 933 = .ok (.ireturn, 1) := by decide +kernel
theorem dL_law_934 : decode cL_law 934 = .ok (.aload_n 1, 1) := by decide +kernel
theorem dL_law_935 : decode cL_law 935 = .ok (.aload_n 0, 1) := by decide +kernel
theorem dL_law_936 : decode cL_law 936 = .ok (.iload_n 3, 1) := by decide +kernel
theorem dL_law_937 : decode cL_law 937 = .ok (.iconst 1, 1) := by decide +kernel
theorem dL_law_938 : decode cL_law 938 = .ok (.iadd, 1) := by decide +kernel
theorem dL_law_939 : decode cL_law 939 = .ok (.iaload, 1) := by decide +kernel
theorem dL_law_940 : decode cL_law 940 = .ok (.aload_n 0, 1) := by decide +kernel
theorem dL_law_941 : decode cL_law 941 = .ok (.iload_n 3, 1) := by decide +kernel
theorem dL_law_942 : decode cL_law 942 = .ok (.iconst 2, 1) := by decide +kernel
theorem dL_law_943 : decode cL_law 943 = .ok (.iadd, 1) := by decide +kernel
theorem dL_law_944 : decode cL_law 944 = .ok (.iaload, 1) := by decide +kernel
theorem dL_law_945 : decode cL_law 945 = .ok (.aload_n 0, 1) := by decide +kernel
theorem dL_law_946 : decode cL_law 946 = .ok (.iload_n 3, 1) := by decide +kernel
theorem dL_law_947 : decode cL_law 947 = .ok (.iconst 3, 1) := by decide +kernel
theorem dL_law_948 : decode cL_law 948 = .ok (.iadd, 1) := by decide +kernel
theorem dL_law_949 : decode cL_law 949 = .ok (.iaload, 1) := by decide +kernel
theorem dL_law_950 : decode cL_law 950 = .ok (.aload_n 0, 1) := by decide +kernel
theorem dL_law_951 : decode cL_law 951 = .ok (.iload_n 3, 1) := by decide +kernel
theorem dL_law_952 : decode cL_law 952 = .ok (.iconst 4, 1) := by decide +kernel
theorem dL_law_953 : decode cL_law 953 = .ok (.iadd, 1) := by decide +kernel
theorem dL_law_954 : decode cL_law 954 = .ok (.iaload, 1) := by decide +kernel
theorem dL_law_955 : decode cL_law 955 = .ok (.aload_n 0, 1) := by decide +kernel
theorem dL_law_956 : decode cL_law 956 = .ok (.iload_n 3, 1) := by decide +kernel
theorem dL_law_957 : decode cL_law 957 = .ok (.iconst 5, 1) := by decide +kernel
theorem dL_law_958 : decode cL_law 958 = .ok (.iadd, 1) := by decide +kernel
theorem dL_law_959 : decode cL_law 959 = .ok (.iaload, 1) := by decide +kernel
theorem dL_law_960 : decode cL_law 960 = .ok (.invokevirtual 134, 3) := by decide +kernel
theorem dL_law_963 : decode cL_law 963 = .ok (.aload_n 2, 1) := by decide +kernel
theorem dL_law_964 : decode cL_law 964 = .ok (.aload_n 0, 1) := by decide +kernel
theorem dL_law_965 : decode cL_law 965 = .ok (.iload_n 3, 1) := by decide +kernel
theorem dL_law_966 : decode cL_law 966 = .ok (.iconst 1, 1) := by decide +kernel
theorem dL_law_967 : decode cL_law 967 = .ok (.iadd, 1) := by decide +kernel
theorem dL_law_968 : decode cL_law 968 = .ok (.iaload, 1) := by decide +kernel
theorem dL_law_969 : decode cL_law 969 = .ok (.aload_n 0, 1) := by decide +kernel
theorem dL_law_970 : decode cL_law 970 = .ok (.iload_n 3, 1) := by decide +kernel
theorem dL_law_971 : decode cL_law 971 = .ok (.iconst 2, 1) := by decide +kernel
theorem dL_law_972 : decode cL_law 972 = .ok (.iadd, 1) := by decide +kernel
theorem dL_law_973 : decode cL_law 973 = .ok (.iaload, 1) := by decide +kernel
theorem dL_law_974 : decode cL_law 974 = .ok (.aload_n 0, 1) := by decide +kernel
theorem dL_law_975 : decode cL_law 975 = .ok (.iload_n 3, 1) := by decide +kernel
theorem dL_law_976 : decode cL_law 976 = .ok (.iconst 3, 1) := by decide +kernel
theorem dL_law_977 : decode cL_law 977 = .ok (.iadd, 1) := by decide +kernel
theorem dL_law_978 : decode cL_law 978 = .ok (.iaload, 1) := by decide +kernel
theorem dL_law_979 : decode cL_law 979 = .ok (.aload_n 0, 1) := by decide +kernel
theorem dL_law_980 : decode cL_law 980 = .ok (.iload_n 3, 1) := by decide +kernel
theorem dL_law_981 : decode cL_law 981 = .ok (.iconst 4, 1) := by decide +kernel
theorem dL_law_982 : decode cL_law 982 = .ok (.iadd, 1) := by decide +kernel
theorem dL_law_983 : decode cL_law 983 = .ok (.iaload, 1) := by decide +kernel
theorem dL_law_984 : decode cL_law 984 = .ok (.aload_n 0, 1) := by decide +kernel
theorem dL_law_985 : decode cL_law 985 = .ok (.iload_n 3, 1) := by decide +kernel
theorem dL_law_986 : decode cL_law 986 = .ok (.iconst 5, 1) := by decide +kernel
theorem dL_law_987 : decode cL_law 987 = .ok (.iadd, 1) := by decide +kernel
theorem dL_law_988 : decode cL_law 988 = .ok (.iaload, 1) := by decide +kernel
theorem dL_law_989 : decode cL_law 989 = .ok (.invokevirtual 138, 3) := by decide +kernel
theorem dL_law_992 : decode cL_law 992 = .ok (.if_icmp .eq 91, 3) := by decide +kernel
theorem dL_law_995 : decode cL_law 995 = .ok (.iconst 0, 1) := by decide +kernel
theorem dL_law_996 : decode cL_law 996 = .ok (.ireturn, 1) := by decide +kernel
theorem dL_law_997 : decode cL_law 997 = .ok (.aload_n 1, 1) := by decide +kernel
theorem dL_law_998 : decode cL_law 998 = .ok (.aload_n 0, 1) := by decide +kernel
theorem dL_law_999 : decode cL_law 999 = .ok (.iload_n 3, 1) := by decide +kernel
theorem dL_law_1000 : decode cL_law 1000 = .ok (.iconst 1, 1) := by decide +kernel
theorem dL_law_1001 : decode cL_law 1001 = .ok (.iadd, 1) := by decide +kernel
theorem dL_law_1002 : decode cL_law 1002 = .ok (.iaload, 1) := by decide +kernel
theorem dL_law_1003 : decode cL_law 1003 = .ok (.aload_n 0, 1) := by decide +kernel
theorem dL_law_1004 : decode cL_law 1004 = .ok (.iload_n 3, 1) := by decide +kernel
theorem dL_law_1005 : decode cL_law 1005 = .ok (.iconst 2, 1) := by decide +kernel
theorem dL_law_1006 : decode cL_law 1006 = .ok (.iadd, 1) := by decide +kernel
theorem dL_law_1007 : decode cL_law 1007 = .ok (.iaload, 1) := by decide +kernel
theorem dL_law_1008 : decode cL_law 1008 = .ok (.aload_n 0, 1) := by decide +kernel
theorem dL_law_1009 : decode cL_law 1009 = .ok (.iload_n 3, 1) := by decide +kernel
theorem dL_law_1010 : decode cL_law 1010 = .ok (.iconst 3, 1) := by decide +kernel
theorem dL_law_1011 : decode cL_law 1011 = .ok (.iadd, 1) := by decide +kernel
theorem dL_law_1012 : decode cL_law 1012 = .ok (.iaload, 1) := by decide +kernel
theorem dL_law_1013 : decode cL_law 1013 = .ok (.aload_n 0, 1) := by decide +kernel
theorem dL_law_1014 : decode cL_law 1014 = .ok (.iload_n 3, 1) := by decide +kernel
theorem dL_law_1015 : decode cL_law 1015 = .ok (.iconst 4, 1) := by decide +kernel
theorem dL_law_1016 : decode cL_law 1016 = .ok (.iadd, 1) := by decide +kernel
theorem dL_law_1017 : decode cL_law 1017 = .ok (.iaload, 1) := by decide +kernel
theorem dL_law_1018 : decode cL_law 1018 = .ok (.invokevirtual 139, 3) := by decide +kernel
theorem dL_law_1021 : decode cL_law 1021 = .ok (.aload_n 2, 1) := by decide +kernel
theorem dL_law_1022 : decode cL_law 1022 = .ok (.aload_n 0, 1) := by decide +kernel
theorem dL_law_1023 : decode cL_law 1023 = .ok (.iload_n 3, 1) := by decide +kernel
theorem dL_law_1024 : decode cL_law 1024 = .ok (.iconst 1, 1) := by decide +kernel
theorem dL_law_1025 : decode cL_law 1025 = .ok (.iadd, 1) := by decide +kernel
theorem dL_law_1026 : decode cL_law 1026 = .ok (.iaload, 1) := by decide +kernel
theorem dL_law_1027 : decode cL_law 1027 = .ok (.aload_n 0, 1) := by decide +kernel
theorem dL_law_1028 : decode cL_law 1028 = .ok (.iload_n 3, 1) := by decide +kernel
theorem dL_law_1029 : decode cL_law 1029 = .ok (.iconst 2, 1) := by decide +kernel
theorem dL_law_1030 : decode cL_law 1030 = .ok (.iadd, 1) := by decide +kernel
theorem dL_law_1031 : decode cL_law 1031 = .ok (.iaload, 1) := by decide +kernel
theorem dL_law_1032 : decode cL_law 1032 = .ok (.aload_n 0, 1) := by decide +kernel
theorem dL_law_1033 : decode cL_law 1033 = .ok (.iload_n 3, 1) := by decide +kernel
theorem dL_law_1034 : decode cL_law 1034 = .ok (.iconst 3, 1) := by decide +kernel
theorem dL_law_1035 : decode cL_law 1035 = .ok (.iadd, 1) := by decide +kernel
theorem dL_law_1036 : decode cL_law 1036 = .ok (.iaload, 1) := by decide +kernel
theorem dL_law_1037 : decode cL_law 1037 = .ok (.aload_n 0, 1) := by decide +kernel
theorem dL_law_1038 : decode cL_law 1038 = .ok (.iload_n 3, 1) := by decide +kernel
theorem dL_law_1039 : decode cL_law 1039 = .ok (.iconst 4, 1) := by decide +kernel
theorem dL_law_1040 : decode cL_law 1040 = .ok (.iadd, 1) := by decide +kernel
theorem dL_law_1041 : decode cL_law 1041 = .ok (.iaload, 1) := by decide +kernel
theorem dL_law_1042 : decode cL_law 1042 = .ok (.invokevirtual 143, 3) := by decide +kernel
theorem dL_law_1045 : decode cL_law 1045 = .ok (.if_icmp .eq 38, 3) := by decide +kernel
theorem dL_law_1048 : decode cL_law 1048 = .ok (.iconst 0, 1) := by decide +kernel
theorem dL_law_1049 : decode cL_law 1049 = .ok (.ireturn, 1) := by decide +kernel
theorem dL_law_1050 : decode cL_law 1050 = .ok (.aload_n 1, 1) := by decide +kernel
theorem dL_law_1051 : decode cL_law 1051 = .ok (.aload_n 0, 1) := by decide +kernel
theorem dL_law_1052 : decode cL_law 1052 = .ok (.iload_n 3, 1) := by decide +kernel
theorem dL_law_1053 : decode cL_law 1053 = .ok (.iconst 1, 1) := by decide +kernel
theorem dL_law_1054 : decode cL_law 1054 = .ok (.iadd, 1) := by decide +kernel
theorem dL_law_1055 : decode cL_law 1055 = .ok (.iaload, 1) := by decide +kernel
theorem dL_law_1056 : decode cL_law 1056 = .ok (.aload_n 0, 1) := by decide +kernel
theorem dL_law_1057 : decode cL_law 1057 = .ok (.iload_n 3, 1) := by decide +kernel
theorem dL_law_1058 : decode cL_law 1058 = .ok (.iconst 2, 1) := by decide +kernel
theorem dL_law_1059 : decode cL_law 1059 = .ok (.iadd, 1) := by decide +kernel
theorem dL_law_1060 : decode cL_law 1060 = .ok (.iaload, 1) := by decide +kernel
theorem dL_law_1061 : decode cL_law 1061 = .ok (.invokevirtual 144, 3) := by decide +kernel
theorem dL_law_1064 : decode cL_law 1064 = .ok (.aload_n 2, 1) := by decide +kernel
theorem dL_law_1065 : decode cL_law 1065 = .ok (.aload_n 0, 1) := by decide +kernel
theorem dL_law_1066 : decode cL_law 1066 = .ok (.iload_n 3, 1) := by decide +kernel
theorem dL_law_1067 : decode cL_law 1067 = .ok (.iconst 1, 1) := by decide +kernel
theorem dL_law_1068 : decode cL_law 1068 = .ok (.iadd, 1) := by decide +kernel
theorem dL_law_1069 : decode cL_law 1069 = .ok (.iaload, 1) := by decide +kernel
theorem dL_law_1070 : decode cL_law 1070 = .ok (.aload_n 0, 1) := by decide +kernel
theorem dL_law_1071 : decode cL_law 1071 = .ok (.iload_n 3, 1) := by decide +kernel
theorem dL_law_1072 : decode cL_law 1072 = .ok (.iconst 2, 1) := by decide +kernel
theorem dL_law_1073 : decode cL_law 1073 = .ok (.iadd, 1) := by decide +kernel
theorem dL_law_1074 : decode cL_law 1074 = .ok (.iaload, 1) := by decide +kernel
theorem dL_law_1075 : decode cL_law 1075 = .ok (.invokevirtual 147, 3) := by decide +kernel
theorem dL_law_1078 : decode cL_law 1078 = .ok (.if_icmp .eq 5, 3) := by decide +kernel
theorem dL_law_1081 : decode cL_law 1081 = .ok (.iconst 0, 1) := by decide +kernel
theorem dL_law_1082 : decode cL_law 1082 = .ok (.ireturn, 1) := by decide +kernel
theorem dL_law_1083 : decode cL_law 1083 = .ok (.iinc 3 6, 3) := by decide +kernel
theorem dL_law_1086 : decode cL_law 1086 = .ok (.goto (-1068), 3) := by decide +kernel
theorem dL_law_1089 : decode cL_law 1089 = .ok (.iconst 1, 1) := by decide +kernel
theorem dL_law_1090 : decode cL_law 1090 = .ok (.ireturn, 1) := by decide +kernel
end
section
/-! LAYER V: a method's walk over a world that is a function of a small picture: roles instead of addresses -/
abbrev vMH : Type := (Nat → Nat → Int32) × Int64
/-- a role: an array (of ints: true, of booleans: false) of a length, or an object of a class with codes of its fields (0 int, 1 long, r + 2 the role r) -/
abbrev vLK : Type := (Bool × Nat) ⊕ (Nat × List Nat)
abbrev vLay : Type := Nat × (Nat → vLK)
abbrev vX : Type := Program × Launch × Env × State × MethodId × Array Value × List Frame × Method × Code × va_G × (ClassId × ClassId) × (Nat → Nat) × (Nat → Prop) × (Array Value → State → Outcome → State → Prop)
def v_tr (ad : Nat → Nat) : Value → Value
  | .ref r => .ref (ad r)
  | v => v
def v_row (I : Nat → Nat → Int32) (a : Nat) (f : Nat → Int32) : Nat → Nat → Int32 := fun r => if r = a then f else I r
def v_up (mh : vMH) (r k : Nat) (x : Int32) : vMH := (v_row mh.1 r (upd (mh.1 r) k x), mh.2)
def v_ul (mh : vMH) (x : Int64) : vMH := (mh.1, x)
def v_cp (mh : vMH) (a b sp dp n : Nat) : vMH := (v_row mh.1 b (va_cpy (mh.1 a) (mh.1 b) sp dp n), mh.2)
def v_fv (ad : Nat → Nat) (mh : vMH) (r k : Nat) : Nat → Value
  | 0 => .int (mh.1 r k)
  | 1 => .long mh.2
  | n + 2 => .ref (ad n)
def v_fs (ad : Nat → Nat) (mh : vMH) (r : Nat) (fc : List Nat) : List Value := fc.mapIdx (fun k c => v_fv ad mh r k c)
def v_ce (cA : ClassId × ClassId) (ad : Nat → Nat) (mh : vMH) (r : Nat) : vLK → va_E
  | .inl q => .inl (cond q.1 cA.1 cA.2, (q.2, .inl (mh.1 r)))
  | .inr q => .inr (q.1, v_fs ad mh r q.2)
def v_ws (Λ : vLay) (cA : ClassId × ClassId) (ad : Nat → Nat) (mh : vMH) : va_W := (List.range Λ.1).map fun r => (ad r, v_ce cA ad mh r (Λ.2 r))
def v_tys (cA : ClassId × ClassId) : List (ClassId × FieldType) := [(cA.1, .int), (cA.2, .boolean)]
def v_lv (ad : Nat → Nat) : Nat → List (Option Value) → List (Nat × Value)
  | _, [] => []
  | i, none :: t => v_lv ad (i + 1) t
  | i, some v :: t => (i, v_tr ad v) :: v_lv ad (i + 1) t
def v_en : List Value → List (Option Value)
  | [] => []
  | v :: t => if v.category = 2 then some v :: none :: v_en t else some v :: v_en t
abbrev v_cl : List vw_C := [(RX0, TX0, 11), (RX1, TX1, 7), (RX2, TX2, 3), (RX3, TX3, 6), (RX4, TX4, 2), (RX5, TX5, 9), (RX6, TX6, 52)]
def gw : List Cond := lw_tbl.filter goodWord
def v_rm (d : Nat) : Room := { frames := d, cells := 0, slots := 0, locals := 64 * d }
def v_above (j : Nat) : Int32 := ([-1, 0, 0, 1, 0, 1] : List Int32).getD j 0
def v_six : List Nat := [88, 94, 96, 98, 100, 102, 104, 106, 108, 110, 112, 114]
def v_stx : List String := ["tone", "loud", "wet", "plate", "y", "x", "or", "and", "not", "digs", "hears", "worth"]
def v_slen : List Nat := [4, 4, 3, 5, 1, 1, 2, 3, 3, 4, 5, 5]
def v_sbyt : List (List Int32) := [[116, 111, 110, 101], [108, 111, 117, 100], [119, 101, 116], [112, 108, 97, 116, 101], [121], [120], [111, 114], [97, 110, 100], [110, 111, 116], [100, 105, 103, 115], [104, 101, 97, 114, 115], [119, 111, 114, 116, 104]]
def v_nest : List Cond := [.methodLinkNest RX0 66 yX5_loudOf RX5, .methodLinkNest RX0 79 yX5_dragsOf RX5, .methodLinkNest RX0 83 yX5_held RX5, .methodLinkNest RX2 21 yX5_isSheet RX5, .methodLinkNest RX2 29 yX5_held RX5, .methodLinkNest RX3 53 yX5_isWithin RX5, .methodLinkNest RX3 63 yX5_toneOf RX5, .methodLinkNest RX3 79 yX5_held RX5]
/-- what lies outside the world and never changes: the nest's links, a static table (role 999), the text constants (roles 1000 and on) -/
def v_Ext (ad : Nat → Nat) (A : Nat → Prop) (U : State) (H : Heap) : Prop :=
  (∀ w ∈ v_nest, va_Nw w U) ∧ va_Z "FieldBeeps" "ABOVE" "[I" (.ref (ad 999)) A U H ∧ va_T .int (ad 999) 6 (fun j => .int (v_above j)) A U H ∧
  (∀ i, i < 12 → vk_R RX1 (v_six.getD i 0) (v_stx.getD i "") (ad (1000 + i)) U) ∧ vk_S 12 v_slen v_sbyt (fun i => ad (1000 + i)) (fun i => ad (2000 + i)) A U H ∧ va_Z "java/lang/String" "COMPACT_STRINGS" "Z" (.int 1) A U H ∧
  (va_Z "jdk/internal/util/Preconditions" "SIOOBE_FORMATTER" "Ljava/util/function/BiFunction;" .null A U H ∨ va_Z "jdk/internal/util/Preconditions" "SIOOBE_FORMATTER" "Ljava/util/function/BiFunction;" (.ref (ad 3000)) A U H)
theorem v_Ext.kept {ad : Nat → Nat} {A : Nat → Prop} {U : State} {H H1 : Heap} (h : v_Ext ad A U H) (hq : ∀ a : Nat, a < H.size → ¬ A a → H1[a]? = H[a]?) : v_Ext ad A U H1 := by
  obtain ⟨h1, h2, h3, h4, h5, h6, h7⟩ := h
  exact ⟨h1, h2.kept hq, h3.kept hq, h4, h5.kept hq, h6.kept hq, h7.imp (fun z => z.kept hq) (fun z => z.kept hq)⟩
theorem v_Ext.narrow {ad : Nat → Nat} {A B : Nat → Prop} {U : State} {H : Heap} (h : v_Ext ad A U H) (hAB : ∀ q, B q → A q) : v_Ext ad B U H := by
  obtain ⟨h1, h2, h3, h4, h5, h6, h7⟩ := h
  exact ⟨h1, h2.narrow hAB, h3.narrow hAB, h4, h5.narrow hAB, h6.narrow hAB, h7.imp (fun z => z.narrow hAB) (fun z => z.narrow hAB)⟩
theorem v_nest_all {P : Cond → Prop} (h : ∀ (a : String) (i : Nat) (y : MethodName) (b : String), P (.methodLinkNest a i y b)) : ∀ w ∈ v_nest, P w := by
  intro w hw
  simp only [v_nest, List.mem_cons, List.not_mem_nil, or_false] at hw
  rcases hw with rfl | rfl | rfl | rfl | rfl | rfl | rfl | rfl <;> exact h _ _ _ _
theorem v_Ext.warm {ad : Nat → Nat} {A : Nat → Prop} {s U : State} {H : Heap} (hW : s.WarmedH U.vm) (h : v_Ext ad A s H) : v_Ext ad A U H := by
  obtain ⟨h1, h2, h3, h4, h5, h6, h7⟩ := h
  exact ⟨fun w hw => v_nest_all (P := fun w => va_Nw w s → va_Nw w U) (fun _ _ _ _ h => va_Nw.warmM hW h) w hw (h1 w hw), h2.moved hW.alike, h3.moved hW.alike, fun i hi => (h4 i hi).warm hW, h5.moved hW.alike, h6.moved hW.alike, h7.imp (fun z => z.moved hW.alike) (fun z => z.moved hW.alike)⟩
theorem v_Ext.same {ad : Nat → Nat} {A : Nat → Prop} {u U : State} {H : Heap} (hv : U.vm = u.vm) (h : v_Ext ad A u H) : v_Ext ad A U H := by
  obtain ⟨h1, h2, h3, h4, h5, h6, h7⟩ := h
  have hal : u.vm.Alike U.vm := by rw [hv]; exact Vm.Alike.refl _
  exact ⟨fun w hw => v_nest_all (P := fun w => va_Nw w u → va_Nw w U) (fun _ _ _ _ h => va_Nw.same rfl hv.symm h) w hw (h1 w hw), h2.moved hal, h3.moved hal, fun i hi => (h4 i hi).same hv, h5.moved hal, h6.moved hal, h7.imp (fun z => z.moved hal) (fun z => z.moved hal)⟩
def Vw (Λ : vLay) (X : vX) (d nL pc : Nat) (lv : List (Option Value)) (st : List Value) (mh : vMH) : Prop :=
  match X with
  | (p, l, e, s, m, args, below, meth, c, D, cA, ad, A, Qc) =>
    ∀ (H : Heap) (locs : List Loc) (ls : Array Slot), va_P D v_cl (v_ws Λ cA ad mh) H → va_D A (v_ws Λ cA ad mh) → va_S A s.heap H locs → lv_has ls nL (v_lv ad 0 lv) →
      W p l e (v_rm d) s m args below meth c H locs 0 0 (MQ below Qc args s 0 0 A) (F0 m pc ls (st.map (v_tr ad)))
def Cx (X : vX) (d nL : Nat) (cc : ByteArray) (own : String) (ret : Option FieldType) : Prop :=
  match X with
  | (p, _, _, s, m, args, _, meth, c, D, cA, ad, A, _) =>
    p.tables.exec = Jvm.exec ∧ c.code = cc ∧ c.maxLocals = nL ∧ s.vm.findClass own = some m.cls ∧ (∀ w ∈ gw, w.before args s = true) ∧ meth.sig.returnType = ret ∧ meth.locks = false ∧ va_K D v_cl (v_tys cA) s ∧ (∀ q, s.heap.size ≤ q → A q) ∧ v_Ext ad A s s.heap
/-- it is good to end so -/
def Gd (Λ : vLay) (X : vX) (rv : Option Value) (mh : vMH) : Prop :=
  match X with
  | (_, _, _, s, _, args, _, _, _, D, cA, ad, A, Qc) =>
    ∀ (H : Heap) (locs : List Loc), va_P D v_cl (v_ws Λ cA ad mh) H → va_D A (v_ws Λ cA ad mh) → va_S A s.heap H locs → ∀ t : State, t.heap = H → s.WarmedH t.vm → Qc args s (.returned rv) t
-- ===== the world's cells =====
theorem v_ws_at {Λ : vLay} {cA : ClassId × ClassId} {ad : Nat → Nat} {mh : vMH} {r : Nat} (h : r < Λ.1) : (v_ws Λ cA ad mh)[r]? = some (ad r, v_ce cA ad mh r (Λ.2 r)) := by
  simp [v_ws, h]
theorem v_ws_arr {Λ : vLay} {cA : ClassId × ClassId} {ad : Nat → Nat} {mh : vMH} {r : Nat} {b : Bool} {n : Nat} (h : r < Λ.1) (hk : Λ.2 r = .inl (b, n)) : (v_ws Λ cA ad mh)[r]? = some (ad r, .inl (cond b cA.1 cA.2, n, .inl (mh.1 r))) := by
  rw [v_ws_at h, hk]; rfl
theorem v_ws_obj {Λ : vLay} {cA : ClassId × ClassId} {ad : Nat → Nat} {mh : vMH} {r ci : Nat} {fc : List Nat} (h : r < Λ.1) (hk : Λ.2 r = .inr (ci, fc)) : (v_ws Λ cA ad mh)[r]? = some (ad r, .inr (ci, v_fs ad mh r fc)) := by
  rw [v_ws_at h, hk]; rfl
theorem v_ce_other {cA : ClassId × ClassId} {ad : Nat → Nat} {mh : vMH} {a r : Nat} {f : Nat → Int32} (K : vLK) (h : r ≠ a) : v_ce cA ad (v_row mh.1 a f, mh.2) r K = v_ce cA ad mh r K := by
  have hr : v_row mh.1 a f r = mh.1 r := if_neg h
  cases K with
  | inl q => simp [v_ce, hr]
  | inr q =>
    simp only [v_ce, v_fs]
    congr 2
    apply List.ext_getElem? 
    intro k
    rw [List.getElem?_mapIdx, List.getElem?_mapIdx]
    congr 1
    funext c
    match c with
    | 0 => simp [v_fv, hr]
    | 1 => rfl
    | _ + 2 => rfl
theorem v_ws_row {Λ : vLay} {cA : ClassId × ClassId} {ad : Nat → Nat} {mh : vMH} {a : Nat} {f : Nat → Int32} {e : va_E} (h : a < Λ.1) (he : v_ce cA ad (v_row mh.1 a f, mh.2) a (Λ.2 a) = e) : (v_ws Λ cA ad mh).set a (ad a, e) = v_ws Λ cA ad (v_row mh.1 a f, mh.2) := by
  apply List.ext_getElem?
  intro k
  by_cases hk : k = a
  · subst hk
    rw [List.getElem?_set_self (by simp [v_ws, h]), v_ws_at h, he]
  · rw [List.getElem?_set_ne (Ne.symm hk)]
    by_cases hl : k < Λ.1
    · rw [v_ws_at hl, v_ws_at hl, v_ce_other _ hk]
    · simp [v_ws, Nat.not_lt.mp hl]
theorem v_ws_rowA {Λ : vLay} {cA : ClassId × ClassId} {ad : Nat → Nat} {mh : vMH} {a n : Nat} {b : Bool} {f : Nat → Int32} (h : a < Λ.1) (hk : Λ.2 a = .inl (b, n)) : (v_ws Λ cA ad mh).set a (ad a, .inl (cond b cA.1 cA.2, n, .inl f)) = v_ws Λ cA ad (v_row mh.1 a f, mh.2) := by
  refine v_ws_row h ?_
  rw [hk]
  simp [v_ce, v_row]
theorem v_fs_set {ad : Nat → Nat} {mh : vMH} {r k : Nat} {fc : List Nat} {x : Int32} (h0 : fc[k]? = some 0) : v_fs ad (v_up mh r k x) r fc = (v_fs ad mh r fc).set k (.int x) := by
  apply List.ext_getElem?
  intro j
  have hl : k < fc.length := (List.getElem?_eq_some_iff.mp h0).1
  by_cases hj : j = k
  · subst hj
    rw [List.getElem?_set_self (by simp [v_fs, hl])]
    simp [v_fs, List.getElem?_mapIdx, h0, v_fv, v_up, v_row, upd]
  · rw [List.getElem?_set_ne (Ne.symm hj)]
    simp only [v_fs, List.getElem?_mapIdx]
    congr 1
    funext c
    match c with
    | 0 => simp [v_fv, v_up, v_row, upd, hj]
    | 1 => rfl
    | _ + 2 => rfl
theorem v_ws_up {Λ : vLay} {cA : ClassId × ClassId} {ad : Nat → Nat} {mh : vMH} {r k ci : Nat} {fc : List Nat} {x : Int32} (h : r < Λ.1) (hk : Λ.2 r = .inr (ci, fc)) (h0 : fc[k]? = some 0) : (v_ws Λ cA ad mh).set r (ad r, .inr (ci, (v_fs ad mh r fc).set k (.int x))) = v_ws Λ cA ad (v_up mh r k x) := by
  refine v_ws_row h ?_
  rw [hk]
  show Sum.inr (ci, v_fs ad (v_up mh r k x) r fc) = _
  rw [v_fs_set h0]
-- ===== locals =====
theorem v_lv_mem {ad : Nat → Nat} : ∀ (lv : List (Option Value)) (i : Nat) (q : Nat × Value), q ∈ v_lv ad i lv ↔ ∃ j v, lv[j]? = some (some v) ∧ q = (i + j, v_tr ad v)
  | [], i, q => by simp [v_lv]
  | none :: t, i, q => by
    rw [v_lv, v_lv_mem t (i + 1) q]
    constructor
    · rintro ⟨j, v, h1, h2⟩
      exact ⟨j + 1, v, by simpa using h1, by rw [h2]; congr 1; omega⟩
    · rintro ⟨j, v, h1, h2⟩
      cases j with
      | zero => simp at h1
      | succ j => exact ⟨j, v, by simpa using h1, by rw [h2]; congr 1; omega⟩
  | some w :: t, i, q => by
    rw [v_lv, List.mem_cons, v_lv_mem t (i + 1) q]
    constructor
    · rintro (h | ⟨j, v, h1, h2⟩)
      · exact ⟨0, w, by simp, by rw [h]; simp⟩
      · exact ⟨j + 1, v, by simpa using h1, by rw [h2]; congr 1; omega⟩
    · rintro ⟨j, v, h1, h2⟩
      cases j with
      | zero =>
        left
        simp at h1
        rw [h2, h1]; simp
      | succ j => exact Or.inr ⟨j, v, by simpa using h1, by rw [h2]; congr 1; omega⟩
theorem lv_mono {ls : Array Slot} {n : Nat} {l l' : List (Nat × Value)} (h : lv_has ls n l) (hs : ∀ q ∈ l', q ∈ l) : lv_has ls n l' := ⟨h.1, h.2.1, fun q hq => h.2.2 q (hs q hq)⟩
theorem v_lv_get {ad : Nat → Nat} {ls : Array Slot} {n : Nat} {lv : List (Option Value)} {i : Nat} {v : Value} (h : lv_has ls n (v_lv ad 0 lv)) (hi : lv[i]? = some (some v)) : ls[i]? = some (.val (v_tr ad v)) := by
  have := h.2.2 (i, v_tr ad v) ((v_lv_mem lv 0 _).mpr ⟨i, v, hi, by simp⟩)
  simpa using this
theorem v_tr_cat (ad : Nat → Nat) (v : Value) : (v_tr ad v).category = v.category := by cases v <;> rfl
/-- slot i holds no long whose second half is at i + 1 = k -/
def v_nl (lv : List (Option Value)) : Nat → Bool
  | 0 => true
  | k + 1 => match lv[k]? with
    | some (some (.long _)) => false
    | some (some (.double _)) => false
    | _ => true
theorem v_nl_spec {lv : List (Option Value)} {k : Nat} {v : Value} (h : v_nl lv (k + 1) = true) (hv : lv[k]? = some (some v)) : v.category = 1 := by
  simp only [v_nl, hv] at h
  cases v <;> first | rfl | (simp at h)
theorem v_lv_set1 {ad : Nat → Nat} {ls : Array Slot} {n : Nat} {lv : List (Option Value)} {i : Nat} {v : Value} {w : List (Nat × Value)} (hw : w = (i, v_tr ad v) :: (v_lv ad 0 lv).filter (fun q => !(q.1 == i) && !(q.1 + 1 == i && q.2.category == 2))) (h : lv_has ls n w) (hn : v_nl lv i = true) (hi : i < lv.length) : lv_has ls n (v_lv ad 0 (lv.set i (some v))) := by
  refine lv_mono h (fun q hq => ?_)
  obtain ⟨j, u, h1, h2⟩ := (v_lv_mem _ 0 q).mp hq
  rw [hw]
  by_cases hj : j = i
  · subst hj
    rw [List.getElem?_set_self hi] at h1
    cases h1
    rw [h2]; simp
  · rw [List.getElem?_set_ne (Ne.symm hj)] at h1
    refine List.mem_cons_of_mem _ (List.mem_filter.mpr ⟨(v_lv_mem _ 0 q).mpr ⟨j, u, h1, h2⟩, ?_⟩)
    rw [h2]
    simp only [Nat.zero_add, Bool.and_eq_true, Bool.not_eq_true', beq_eq_false_iff_ne, ne_eq, Bool.and_eq_false_iff]
    refine ⟨hj, ?_⟩
    by_cases hji : j + 1 = i
    · right
      subst hji
      rw [v_tr_cat, v_nl_spec hn h1]; decide
    · exact Or.inl hji
theorem v_lv_set2 {ad : Nat → Nat} {ls : Array Slot} {n : Nat} {lv : List (Option Value)} {i : Nat} {v : Value} {w : List (Nat × Value)} (hw : w = (i, v_tr ad v) :: (v_lv ad 0 lv).filter (fun q => !(q.1 == i) && (!(q.1 == i + 1) && !(q.1 + 1 == i && q.2.category == 2)))) (h : lv_has ls n w) (hn : v_nl lv i = true) (hi : i + 1 < lv.length) : lv_has ls n (v_lv ad 0 ((lv.set i (some v)).set (i + 1) none)) := by
  refine lv_mono h (fun q hq => ?_)
  obtain ⟨j, u, h1, h2⟩ := (v_lv_mem _ 0 q).mp hq
  rw [hw]
  by_cases hj1 : j = i + 1
  · subst hj1
    rw [List.getElem?_set_self (by simpa using hi)] at h1
    cases h1
  rw [List.getElem?_set_ne (Ne.symm hj1)] at h1
  by_cases hj : j = i
  · subst hj
    rw [List.getElem?_set_self (by omega)] at h1
    cases h1
    rw [h2]; simp
  · rw [List.getElem?_set_ne (Ne.symm hj)] at h1
    refine List.mem_cons_of_mem _ (List.mem_filter.mpr ⟨(v_lv_mem _ 0 q).mpr ⟨j, u, h1, h2⟩, ?_⟩)
    rw [h2]
    simp only [Nat.zero_add, Bool.and_eq_true, Bool.not_eq_true', beq_eq_false_iff_ne, ne_eq, Bool.and_eq_false_iff]
    refine ⟨hj, hj1, ?_⟩
    by_cases hji : j + 1 = i
    · right
      subst hji
      rw [v_tr_cat, v_nl_spec hn h1]; decide
    · exact Or.inl hji
theorem v_lv_en {ad : Nat → Nat} (k : Nat) : ∀ (vs : List Value) (i : Nat), v_lv ad i (v_en vs ++ List.replicate k none) = lv_args i (vs.map (v_tr ad))
  | [], i => by
    have : ∀ (k i : Nat), v_lv ad i (List.replicate k none) = [] := by
      intro k
      induction k with
      | zero => intro i; rfl
      | succ k ih => intro i; rw [List.replicate_succ, v_lv, ih]
    simp [v_en, lv_args, this]
  | v :: t, i => by
    rw [List.map_cons, lv_args, v_tr_cat]
    by_cases hc : v.category = 2
    · simp only [v_en, hc, if_true, List.cons_append, v_lv]
      rw [v_lv_en k t]
    · simp only [v_en, hc, if_false, List.cons_append, v_lv]
      rw [v_lv_en k t]
-- ===== words by their places =====
def CF (ci : Nat) (Cn : String) (T : u_T) (N : Nat) (ty : Nat → FieldType) : Prop := v_cl[ci]? = some (Cn, T, N) ∧ (∀ w ∈ u_ws Cn T N, w ∈ gw) ∧ (∀ k, k < N → parseFieldDescriptor (T k).2.2.1 = some (ty k)) ∧ ∀ a, a < N → ∀ b, b < N → a ≠ b → (T a).2.1 ≠ (T b).2.1
def FL (own : String) (idx : Nat) (T : u_T) (k : Nat) : Prop := Cond.fieldLink own idx (T k).1 (T k).2.1 (T k).2.2.1 ∈ gw
def LO (Λ : vLay) (r ci : Nat) (fc : List Nat) : Prop := r < Λ.1 ∧ Λ.2 r = .inr (ci, fc)
def LA (Λ : vLay) (r : Nat) (b : Bool) (n : Nat) : Prop := r < Λ.1 ∧ Λ.2 r = .inl (b, n)
theorem gw_good {w : Cond} (h : w ∈ gw) : (w.onTables && w.keeps) = true ∨ ∃ ty, w = .arrayClass ty := good_of_word (List.mem_filter.mp h).2
theorem inG (i : Nat) {w : Cond} (h : (decide (lw_tbl[i]? = some w) && goodWord w) = true) : w ∈ gw := by
  rw [Bool.and_eq_true, decide_eq_true_eq] at h
  exact List.mem_filter.mpr ⟨List.mem_of_getElem? h.1, h.2⟩
def CSV (own : String) (idx : Nat) (Cn : String) (y : MethodName) (ycc : ByteArray) (ynL : Nat) (yret : Option FieldType) (n : Nat) : Prop :=
  GoodIn gw (wsV own idx Cn y (.code y ycc ynL yret :: gw)) ∧ (y.cls = Cn ∧ y.cls ≠ "java/lang/invoke/MethodHandle" ∧ y.cls ≠ "java/lang/invoke/VarHandle" ∧ (parseMethodDescriptor y.desc).map (fun d => d.parameters.length) = some n)
def CSS (own : String) (idx : Nat) (y : MethodName) (ycc : ByteArray) (ynL : Nat) (yret : Option FieldType) (n : Nat) : Prop :=
  GoodIn gw (va_wsS own idx y (.code y ycc ynL yret :: gw)) ∧ (y.cls ≠ "java/lang/invoke/MethodHandle" ∧ y.cls ≠ "java/lang/invoke/VarHandle" ∧ (parseMethodDescriptor y.desc).map (fun d => d.parameters.length) = some n)
def CSN (own : String) (idx : Nat) (y : MethodName) (ycc : ByteArray) (ynL : Nat) (yret : Option FieldType) (n : Nat) : Prop :=
  (Cond.methodLinkNest own idx y RX5 ∈ v_nest ∧ Cond.static y ∈ gw ∧ Cond.initialized y.cls ∈ gw ∧ Cond.code y ycc ynL yret ∈ gw) ∧ (y.cls ≠ "java/lang/invoke/MethodHandle" ∧ y.cls ≠ "java/lang/invoke/VarHandle" ∧ (parseMethodDescriptor y.desc).map (fun d => d.parameters.length) = some n)
theorem gw_self : GoodIn gw gw := fun w h => ⟨h, gw_good h⟩
theorem gw_cons {ws : List Cond} {w : Cond} (h : w ∈ gw) (hs : GoodIn gw ws) : GoodIn gw (w :: ws) := by
  intro v hv
  rcases List.mem_cons.mp hv with rfl | hv
  · exact ⟨h, gw_good h⟩
  · exact hs v hv
end
section
/-! facts of the tables, by their places; the two layouts -/
theorem uX0 : ∀ w ∈ u_ws RX0 TX0 11, w ∈ gw := by
  have h : u_ws RX0 TX0 11 = ([111, 113, 115, 117, 119, 121, 123, 125, 127, 129, 131] : List Nat).filterMap (fun i => lw_tbl[i]?) := by decide +kernel
  have g : (u_ws RX0 TX0 11).all goodWord = true := by decide +kernel
  intro w hw
  refine List.mem_filter.mpr ⟨?_, List.all_eq_true.mp g w hw⟩
  rw [h] at hw
  obtain ⟨i, -, hi⟩ := List.mem_filterMap.mp hw
  exact List.mem_of_getElem? hi
theorem CF0 : CF 0 RX0 TX0 11 tyX0 := ⟨rfl, uX0, tyX0_ok, nmX0⟩
theorem uX1 : ∀ w ∈ u_ws RX1 TX1 7, w ∈ gw := by
  have h : u_ws RX1 TX1 7 = ([182, 184, 186, 188, 190, 192, 194] : List Nat).filterMap (fun i => lw_tbl[i]?) := by decide +kernel
  have g : (u_ws RX1 TX1 7).all goodWord = true := by decide +kernel
  intro w hw
  refine List.mem_filter.mpr ⟨?_, List.all_eq_true.mp g w hw⟩
  rw [h] at hw
  obtain ⟨i, -, hi⟩ := List.mem_filterMap.mp hw
  exact List.mem_of_getElem? hi
theorem CF1 : CF 1 RX1 TX1 7 tyX1 := ⟨rfl, uX1, tyX1_ok, nmX1⟩
theorem uX2 : ∀ w ∈ u_ws RX2 TX2 3, w ∈ gw := by
  have h : u_ws RX2 TX2 3 = ([220, 222, 224] : List Nat).filterMap (fun i => lw_tbl[i]?) := by decide +kernel
  have g : (u_ws RX2 TX2 3).all goodWord = true := by decide +kernel
  intro w hw
  refine List.mem_filter.mpr ⟨?_, List.all_eq_true.mp g w hw⟩
  rw [h] at hw
  obtain ⟨i, -, hi⟩ := List.mem_filterMap.mp hw
  exact List.mem_of_getElem? hi
theorem CF2 : CF 2 RX2 TX2 3 tyX2 := ⟨rfl, uX2, tyX2_ok, nmX2⟩
theorem uX3 : ∀ w ∈ u_ws RX3 TX3 6, w ∈ gw := by
  have h : u_ws RX3 TX3 6 = ([155, 157, 159, 161, 163, 165] : List Nat).filterMap (fun i => lw_tbl[i]?) := by decide +kernel
  have g : (u_ws RX3 TX3 6).all goodWord = true := by decide +kernel
  intro w hw
  refine List.mem_filter.mpr ⟨?_, List.all_eq_true.mp g w hw⟩
  rw [h] at hw
  obtain ⟨i, -, hi⟩ := List.mem_filterMap.mp hw
  exact List.mem_of_getElem? hi
theorem CF3 : CF 3 RX3 TX3 6 tyX3 := ⟨rfl, uX3, tyX3_ok, nmX3⟩
theorem uX4 : ∀ w ∈ u_ws RX4 TX4 2, w ∈ gw := by
  have h : u_ws RX4 TX4 2 = ([206, 208] : List Nat).filterMap (fun i => lw_tbl[i]?) := by decide +kernel
  have g : (u_ws RX4 TX4 2).all goodWord = true := by decide +kernel
  intro w hw
  refine List.mem_filter.mpr ⟨?_, List.all_eq_true.mp g w hw⟩
  rw [h] at hw
  obtain ⟨i, -, hi⟩ := List.mem_filterMap.mp hw
  exact List.mem_of_getElem? hi
theorem CF4 : CF 4 RX4 TX4 2 tyX4 := ⟨rfl, uX4, tyX4_ok, nmX4⟩
theorem uX5 : ∀ w ∈ u_ws RX5 TX5 9, w ∈ gw := by
  have h : u_ws RX5 TX5 9 = ([236, 238, 240, 242, 244, 246, 248, 250, 252] : List Nat).filterMap (fun i => lw_tbl[i]?) := by decide +kernel
  have g : (u_ws RX5 TX5 9).all goodWord = true := by decide +kernel
  intro w hw
  refine List.mem_filter.mpr ⟨?_, List.all_eq_true.mp g w hw⟩
  rw [h] at hw
  obtain ⟨i, -, hi⟩ := List.mem_filterMap.mp hw
  exact List.mem_of_getElem? hi
theorem CF5 : CF 5 RX5 TX5 9 tyX5 := ⟨rfl, uX5, tyX5_ok, nmX5⟩
theorem uX6 : ∀ w ∈ u_ws RX6 TX6 52, w ∈ gw := by
  have h : u_ws RX6 TX6 52 = ([794, 796, 798, 800, 802, 804, 806, 808, 810, 812, 814, 816, 818, 820, 822, 824, 826, 828, 830, 832, 834, 836, 838, 840, 842, 844, 846, 848, 850, 852, 854, 856, 858, 860, 862, 864, 866, 868, 870, 872, 874, 876, 878, 880, 882, 884, 886, 888, 890, 892, 894, 896] : List Nat).filterMap (fun i => lw_tbl[i]?) := by decide +kernel
  have g : (u_ws RX6 TX6 52).all goodWord = true := by decide +kernel
  intro w hw
  refine List.mem_filter.mpr ⟨?_, List.all_eq_true.mp g w hw⟩
  rw [h] at hw
  obtain ⟨i, -, hi⟩ := List.mem_filterMap.mp hw
  exact List.mem_of_getElem? hi
theorem CF6 : CF 6 RX6 TX6 52 tyX6 := ⟨rfl, uX6, tyX6_ok, nmX6⟩
theorem fl_X0_9 : FL RX0 9 TX0 0 := inG 79 (by decide +kernel)
theorem fl_X5_105 : FL RX5 105 TX0 0 := inG 80 (by decide +kernel)
theorem fl_X3_57 : FL RX3 57 TX0 0 := inG 81 (by decide +kernel)
theorem fl_X0_15 : FL RX0 15 TX0 1 := inG 82 (by decide +kernel)
theorem fl_X5_78 : FL RX5 78 TX0 1 := inG 83 (by decide +kernel)
theorem fl_X4_52 : FL RX4 52 TX0 1 := inG 84 (by decide +kernel)
theorem fl_X3_73 : FL RX3 73 TX0 1 := inG 85 (by decide +kernel)
theorem fl_X0_18 : FL RX0 18 TX0 2 := inG 86 (by decide +kernel)
theorem fl_X4_32 : FL RX4 32 TX0 2 := inG 87 (by decide +kernel)
theorem fl_X5_86 : FL RX5 86 TX0 2 := inG 88 (by decide +kernel)
theorem fl_X0_21 : FL RX0 21 TX0 3 := inG 89 (by decide +kernel)
theorem fl_X5_89 : FL RX5 89 TX0 3 := inG 90 (by decide +kernel)
theorem fl_X3_60 : FL RX3 60 TX0 3 := inG 91 (by decide +kernel)
theorem fl_X0_24 : FL RX0 24 TX0 4 := inG 92 (by decide +kernel)
theorem fl_X4_49 : FL RX4 49 TX0 4 := inG 93 (by decide +kernel)
theorem fl_X5_235 : FL RX5 235 TX0 4 := inG 94 (by decide +kernel)
theorem fl_X0_28 : FL RX0 28 TX0 5 := inG 95 (by decide +kernel)
theorem fl_X4_46 : FL RX4 46 TX0 5 := inG 96 (by decide +kernel)
theorem fl_X5_180 : FL RX5 180 TX0 5 := inG 97 (by decide +kernel)
theorem fl_X0_31 : FL RX0 31 TX0 6 := inG 98 (by decide +kernel)
theorem fl_X5_92 : FL RX5 92 TX0 6 := inG 99 (by decide +kernel)
theorem fl_X3_67 : FL RX3 67 TX0 6 := inG 100 (by decide +kernel)
theorem fl_X0_34 : FL RX0 34 TX0 7 := inG 101 (by decide +kernel)
theorem fl_X5_96 : FL RX5 96 TX0 7 := inG 102 (by decide +kernel)
theorem fl_X3_70 : FL RX3 70 TX0 7 := inG 103 (by decide +kernel)
theorem fl_X0_37 : FL RX0 37 TX0 8 := inG 104 (by decide +kernel)
theorem fl_X5_157 : FL RX5 157 TX0 8 := inG 105 (by decide +kernel)
theorem fl_X0_40 : FL RX0 40 TX0 9 := inG 106 (by decide +kernel)
theorem fl_X5_148 : FL RX5 148 TX0 9 := inG 107 (by decide +kernel)
theorem fl_X0_43 : FL RX0 43 TX0 10 := inG 108 (by decide +kernel)
theorem fl_X3_43 : FL RX3 43 TX0 10 := inG 109 (by decide +kernel)
theorem fl_X5_141 : FL RX5 141 TX0 10 := inG 110 (by decide +kernel)
theorem fl_X3_9 : FL RX3 9 TX3 0 := inG 148 (by decide +kernel)
theorem fl_X5_238 : FL RX5 238 TX3 0 := inG 149 (by decide +kernel)
theorem fl_X3_15 : FL RX3 15 TX3 1 := inG 150 (by decide +kernel)
theorem fl_X3_19 : FL RX3 19 TX3 2 := inG 151 (by decide +kernel)
theorem fl_X3_22 : FL RX3 22 TX3 3 := inG 152 (by decide +kernel)
theorem fl_X3_25 : FL RX3 25 TX3 4 := inG 153 (by decide +kernel)
theorem fl_X3_28 : FL RX3 28 TX3 5 := inG 154 (by decide +kernel)
theorem fl_X1_9 : FL RX1 9 TX1 0 := inG 174 (by decide +kernel)
theorem fl_X5_239 : FL RX5 239 TX1 0 := inG 175 (by decide +kernel)
theorem fl_X1_31 : FL RX1 31 TX1 1 := inG 176 (by decide +kernel)
theorem fl_X1_15 : FL RX1 15 TX1 2 := inG 177 (by decide +kernel)
theorem fl_X1_19 : FL RX1 19 TX1 3 := inG 178 (by decide +kernel)
theorem fl_X1_22 : FL RX1 22 TX1 4 := inG 179 (by decide +kernel)
theorem fl_X1_25 : FL RX1 25 TX1 5 := inG 180 (by decide +kernel)
theorem fl_X1_28 : FL RX1 28 TX1 6 := inG 181 (by decide +kernel)
theorem fl_X4_15 : FL RX4 15 TX4 0 := inG 203 (by decide +kernel)
theorem fl_X4_9 : FL RX4 9 TX4 1 := inG 204 (by decide +kernel)
theorem fl_X5_163 : FL RX5 163 TX4 1 := inG 205 (by decide +kernel)
theorem fl_X2_9 : FL RX2 9 TX2 0 := inG 217 (by decide +kernel)
theorem fl_X2_15 : FL RX2 15 TX2 1 := inG 218 (by decide +kernel)
theorem fl_X2_18 : FL RX2 18 TX2 2 := inG 219 (by decide +kernel)
theorem fl_X5_12 : FL RX5 12 TX5 0 := inG 227 (by decide +kernel)
theorem fl_X5_16 : FL RX5 16 TX5 1 := inG 228 (by decide +kernel)
theorem fl_X5_19 : FL RX5 19 TX5 2 := inG 229 (by decide +kernel)
theorem fl_X5_22 : FL RX5 22 TX5 3 := inG 230 (by decide +kernel)
theorem fl_X5_28 : FL RX5 28 TX5 4 := inG 231 (by decide +kernel)
theorem fl_X5_37 : FL RX5 37 TX5 5 := inG 232 (by decide +kernel)
theorem fl_X5_44 : FL RX5 44 TX5 6 := inG 233 (by decide +kernel)
theorem fl_X5_51 : FL RX5 51 TX5 7 := inG 234 (by decide +kernel)
theorem fl_X5_55 : FL RX5 55 TX5 8 := inG 235 (by decide +kernel)
theorem fs_X5_265 : Cond.fieldLink RX5 265 "FieldBeeps" "ABOVE" "[I" ∈ gw := inG 731 (by decide +kernel)
theorem fl_X6_13 : FL RX6 13 TX6 1 := inG 743 (by decide +kernel)
theorem fl_X6_17 : FL RX6 17 TX6 2 := inG 744 (by decide +kernel)
theorem fl_X6_70 : FL RX6 70 TX6 3 := inG 745 (by decide +kernel)
theorem fl_X6_245 : FL RX6 245 TX6 4 := inG 746 (by decide +kernel)
theorem fl_X6_20 : FL RX6 20 TX6 5 := inG 747 (by decide +kernel)
theorem fl_X6_128 : FL RX6 128 TX6 6 := inG 748 (by decide +kernel)
theorem fl_X6_23 : FL RX6 23 TX6 7 := inG 749 (by decide +kernel)
theorem fl_X6_26 : FL RX6 26 TX6 8 := inG 750 (by decide +kernel)
theorem fl_X6_29 : FL RX6 29 TX6 9 := inG 751 (by decide +kernel)
theorem fl_X6_32 : FL RX6 32 TX6 10 := inG 752 (by decide +kernel)
theorem fl_X6_73 : FL RX6 73 TX6 11 := inG 753 (by decide +kernel)
theorem fl_X6_80 : FL RX6 80 TX6 12 := inG 754 (by decide +kernel)
theorem fl_X6_105 : FL RX6 105 TX6 13 := inG 755 (by decide +kernel)
theorem fl_X6_35 : FL RX6 35 TX6 14 := inG 756 (by decide +kernel)
theorem fl_X6_276 : FL RX6 276 TX6 15 := inG 757 (by decide +kernel)
theorem fl_X6_273 : FL RX6 273 TX6 16 := inG 758 (by decide +kernel)
theorem fl_X6_187 : FL RX6 187 TX6 17 := inG 759 (by decide +kernel)
theorem fl_X6_190 : FL RX6 190 TX6 18 := inG 760 (by decide +kernel)
theorem fl_X6_193 : FL RX6 193 TX6 19 := inG 761 (by decide +kernel)
theorem fl_X6_196 : FL RX6 196 TX6 20 := inG 762 (by decide +kernel)
theorem fl_X6_199 : FL RX6 199 TX6 21 := inG 763 (by decide +kernel)
theorem fl_X6_202 : FL RX6 202 TX6 22 := inG 764 (by decide +kernel)
theorem fl_X6_134 : FL RX6 134 TX6 23 := inG 765 (by decide +kernel)
theorem fl_X6_131 : FL RX6 131 TX6 24 := inG 766 (by decide +kernel)
theorem fl_X6_137 : FL RX6 137 TX6 25 := inG 767 (by decide +kernel)
theorem fl_X6_146 : FL RX6 146 TX6 26 := inG 768 (by decide +kernel)
theorem fl_X6_143 : FL RX6 143 TX6 27 := inG 769 (by decide +kernel)
theorem fl_X6_157 : FL RX6 157 TX6 28 := inG 770 (by decide +kernel)
theorem fl_X6_174 : FL RX6 174 TX6 29 := inG 771 (by decide +kernel)
theorem fl_X6_163 : FL RX6 163 TX6 30 := inG 772 (by decide +kernel)
theorem fl_X6_167 : FL RX6 167 TX6 31 := inG 773 (by decide +kernel)
theorem fl_X6_260 : FL RX6 260 TX6 32 := inG 774 (by decide +kernel)
theorem fl_X6_263 : FL RX6 263 TX6 33 := inG 775 (by decide +kernel)
theorem fl_X6_38 : FL RX6 38 TX6 34 := inG 776 (by decide +kernel)
theorem fl_X6_41 : FL RX6 41 TX6 35 := inG 777 (by decide +kernel)
theorem fl_X6_282 : FL RX6 282 TX6 36 := inG 778 (by decide +kernel)
theorem fl_X6_285 : FL RX6 285 TX6 37 := inG 779 (by decide +kernel)
theorem fl_X6_288 : FL RX6 288 TX6 38 := inG 780 (by decide +kernel)
theorem fl_X6_44 : FL RX6 44 TX6 39 := inG 781 (by decide +kernel)
theorem fl_X6_47 : FL RX6 47 TX6 40 := inG 782 (by decide +kernel)
theorem fl_X6_50 : FL RX6 50 TX6 41 := inG 783 (by decide +kernel)
theorem fl_X6_324 : FL RX6 324 TX6 42 := inG 784 (by decide +kernel)
theorem fl_X6_327 : FL RX6 327 TX6 43 := inG 785 (by decide +kernel)
theorem fl_X6_330 : FL RX6 330 TX6 44 := inG 786 (by decide +kernel)
theorem fl_X6_333 : FL RX6 333 TX6 45 := inG 787 (by decide +kernel)
theorem fl_X6_336 : FL RX6 336 TX6 46 := inG 788 (by decide +kernel)
theorem fl_X6_339 : FL RX6 339 TX6 47 := inG 789 (by decide +kernel)
theorem fl_X6_53 : FL RX6 53 TX6 48 := inG 790 (by decide +kernel)
theorem fl_X6_57 : FL RX6 57 TX6 49 := inG 791 (by decide +kernel)
theorem fl_X6_60 : FL RX6 60 TX6 50 := inG 792 (by decide +kernel)
theorem fl_X6_63 : FL RX6 63 TX6 51 := inG 793 (by decide +kernel)
theorem kc_J6_265 : Cond.constant RJ6 265 (1431655765) ∈ gw := inG 562 (by decide +kernel)
theorem kc_J6_266 : Cond.constant RJ6 266 (858993459) ∈ gw := inG 563 (by decide +kernel)
theorem kc_J6_267 : Cond.constant RJ6 267 (252645135) ∈ gw := inG 564 (by decide +kernel)
theorem kc_X0_89 : Cond.constant RX0 89 (1103515245) ∈ gw := inG 664 (by decide +kernel)
theorem kc_X5_224 : Cond.constantLong RX5 224 (-4611686018427387904) ∈ gw := inG 669 (by decide +kernel)
theorem kc_X6_85 : Cond.constantLong RX6 85 (5) ∈ gw := inG 904 (by decide +kernel)
theorem kc_X6_83 : Cond.constantLong RX6 83 (47) ∈ gw := inG 911 (by decide +kernel)
theorem kc_X6_91 : Cond.constantLong RX6 91 (209) ∈ gw := inG 912 (by decide +kernel)
theorem kc_X6_93 : Cond.constantLong RX6 93 (4) ∈ gw := inG 917 (by decide +kernel)
theorem kc_X6_98 : Cond.constantLong RX6 98 (20) ∈ gw := inG 922 (by decide +kernel)
theorem kc_X6_100 : Cond.constantLong RX6 100 (9) ∈ gw := inG 923 (by decide +kernel)
theorem kc_X6_149 : Cond.constantLong RX6 149 (97) ∈ gw := inG 967 (by decide +kernel)
theorem kc_X6_151 : Cond.constantLong RX6 151 (122) ∈ gw := inG 968 (by decide +kernel)
theorem kc_X6_153 : Cond.constantLong RX6 153 (48) ∈ gw := inG 969 (by decide +kernel)
theorem kc_X6_155 : Cond.constantLong RX6 155 (57) ∈ gw := inG 970 (by decide +kernel)
theorem kc_X6_161 : Cond.constantLong RX6 161 (10) ∈ gw := inG 971 (by decide +kernel)
theorem kc_X6_225 : Cond.constantLong RX6 225 (43) ∈ gw := inG 1024 (by decide +kernel)
theorem kc_X6_233 : Cond.constantLong RX6 233 (60) ∈ gw := inG 1025 (by decide +kernel)
theorem kc_X6_126 : Cond.constantLong RX6 126 (255) ∈ gw := inG 1033 (by decide +kernel)
theorem kc_X6_291 : Cond.constantLong RX6 291 (63) ∈ gw := inG 1078 (by decide +kernel)
theorem kc_X6_302 : Cond.constantLong RX6 302 (6) ∈ gw := inG 1103 (by decide +kernel)
theorem kc_X6_344 : Cond.constantLong RX6 344 (3) ∈ gw := inG 1145 (by decide +kernel)
theorem kc_X6_316 : Cond.constant RX6 316 (1103515245) ∈ gw := inG 1158 (by decide +kernel)
theorem kc_X6_317 : Cond.constantLong RX6 317 (12) ∈ gw := inG 1163 (by decide +kernel)
theorem kc_X6_319 : Cond.constantLong RX6 319 (-4611686018427387904) ∈ gw := inG 1164 (by decide +kernel)
theorem kc_X6_342 : Cond.constantLong RX6 342 (8) ∈ gw := inG 1178 (by decide +kernel)
theorem kc_X6_346 : Cond.constantLong RX6 346 (-1) ∈ gw := inG 1183 (by decide +kernel)
theorem kc_X6_348 : Cond.constantLong RX6 348 (2) ∈ gw := inG 1184 (by decide +kernel)
theorem co_X0_init : Cond.code yX0_init cX0_init 1 none ∈ gw := inG 77 (by decide +kernel)
theorem im_X0_init : Cond.instanceMethod yX0_init ∈ gw := inG 76 (by decide +kernel)
theorem co_X0_has : Cond.code yX0_has cX0_has 2 (some .boolean) ∈ gw := inG 288 (by decide +kernel)
theorem im_X0_has : Cond.instanceMethod yX0_has ∈ gw := inG 286 (by decide +kernel)
theorem se_X0_has : Cond.selects RX0 yX0_has yX0_has ∈ gw := inG 287 (by decide +kernel)
theorem co_X0_lies : Cond.code yX0_lies cX0_lies 2 (some .boolean) ∈ gw := inG 292 (by decide +kernel)
theorem im_X0_lies : Cond.instanceMethod yX0_lies ∈ gw := inG 290 (by decide +kernel)
theorem se_X0_lies : Cond.selects RX0 yX0_lies yX0_lies ∈ gw := inG 291 (by decide +kernel)
theorem co_X0_lying : Cond.code yX0_lying cX0_lying 1 (some .int) ∈ gw := inG 642 (by decide +kernel)
theorem im_X0_lying : Cond.instanceMethod yX0_lying ∈ gw := inG 640 (by decide +kernel)
theorem se_X0_lying : Cond.selects RX0 yX0_lying yX0_lying ∈ gw := inG 641 (by decide +kernel)
theorem co_X0_lay : Cond.code yX0_lay cX0_lay 5 (some .int) ∈ gw := inG 268 (by decide +kernel)
theorem im_X0_lay : Cond.instanceMethod yX0_lay ∈ gw := inG 266 (by decide +kernel)
theorem se_X0_lay : Cond.selects RX0 yX0_lay yX0_lay ∈ gw := inG 267 (by decide +kernel)
theorem co_X0_layAs : Cond.code yX0_layAs cX0_layAs 2 none ∈ gw := inG 545 (by decide +kernel)
theorem im_X0_layAs : Cond.instanceMethod yX0_layAs ∈ gw := inG 543 (by decide +kernel)
theorem se_X0_layAs : Cond.selects RX0 yX0_layAs yX0_layAs ∈ gw := inG 544 (by decide +kernel)
theorem co_X0_become : Cond.code yX0_become cX0_become 2 none ∈ gw := inG 541 (by decide +kernel)
theorem im_X0_become : Cond.instanceMethod yX0_become ∈ gw := inG 539 (by decide +kernel)
theorem se_X0_become : Cond.selects RX0 yX0_become yX0_become ∈ gw := inG 540 (by decide +kernel)
theorem co_X0_loud : Cond.code yX0_loud cX0_loud 2 (some .int) ∈ gw := inG 304 (by decide +kernel)
theorem im_X0_loud : Cond.instanceMethod yX0_loud ∈ gw := inG 302 (by decide +kernel)
theorem se_X0_loud : Cond.selects RX0 yX0_loud yX0_loud ∈ gw := inG 303 (by decide +kernel)
theorem co_X0_heard : Cond.code yX0_heard cX0_heard 4 (some .int) ∈ gw := inG 314 (by decide +kernel)
theorem im_X0_heard : Cond.instanceMethod yX0_heard ∈ gw := inG 312 (by decide +kernel)
theorem se_X0_heard : Cond.selects RX0 yX0_heard yX0_heard ∈ gw := inG 313 (by decide +kernel)
theorem co_X0_turnOver : Cond.code yX0_turnOver cX0_turnOver 5 none ∈ gw := inG 524 (by decide +kernel)
theorem im_X0_turnOver : Cond.instanceMethod yX0_turnOver ∈ gw := inG 522 (by decide +kernel)
theorem se_X0_turnOver : Cond.selects RX0 yX0_turnOver yX0_turnOver ∈ gw := inG 523 (by decide +kernel)
theorem co_X0_scatter : Cond.code yX0_scatter cX0_scatter 4 none ∈ gw := inG 663 (by decide +kernel)
theorem im_X0_scatter : Cond.instanceMethod yX0_scatter ∈ gw := inG 661 (by decide +kernel)
theorem se_X0_scatter : Cond.selects RX0 yX0_scatter yX0_scatter ∈ gw := inG 662 (by decide +kernel)
theorem co_X0_dotsIn : Cond.code yX0_dotsIn cX0_dotsIn 4 (some .int) ∈ gw := inG 597 (by decide +kernel)
theorem im_X0_dotsIn : Cond.instanceMethod yX0_dotsIn ∈ gw := inG 595 (by decide +kernel)
theorem se_X0_dotsIn : Cond.selects RX0 yX0_dotsIn yX0_dotsIn ∈ gw := inG 596 (by decide +kernel)
theorem co_X0_stripsWithFinds : Cond.code yX0_stripsWithFinds cX0_stripsWithFinds 3 (some .int) ∈ gw := inG 634 (by decide +kernel)
theorem im_X0_stripsWithFinds : Cond.instanceMethod yX0_stripsWithFinds ∈ gw := inG 632 (by decide +kernel)
theorem se_X0_stripsWithFinds : Cond.selects RX0 yX0_stripsWithFinds yX0_stripsWithFinds ∈ gw := inG 633 (by decide +kernel)
theorem co_X0_farFrom : Cond.code yX0_farFrom cX0_farFrom 4 (some .int) ∈ gw := inG 581 (by decide +kernel)
theorem im_X0_farFrom : Cond.instanceMethod yX0_farFrom ∈ gw := inG 579 (by decide +kernel)
theorem se_X0_farFrom : Cond.selects RX0 yX0_farFrom yX0_farFrom ∈ gw := inG 580 (by decide +kernel)
theorem co_X1_init : Cond.code yX1_init cX1_init 2 none ∈ gw := inG 172 (by decide +kernel)
theorem im_X1_init : Cond.instanceMethod yX1_init ∈ gw := inG 171 (by decide +kernel)
theorem co_X1_append : Cond.code yX1_append cX1_append 2 (some .int) ∈ gw := inG 350 (by decide +kernel)
theorem im_X1_append : Cond.instanceMethod yX1_append ∈ gw := inG 348 (by decide +kernel)
theorem se_X1_append : Cond.selects RX1 yX1_append yX1_append ∈ gw := inG 349 (by decide +kernel)
theorem co_X1_readTape : Cond.code yX1_readTape cX1_readTape 2 (some .int) ∈ gw := inG 362 (by decide +kernel)
theorem im_X1_readTape : Cond.instanceMethod yX1_readTape ∈ gw := inG 360 (by decide +kernel)
theorem se_X1_readTape : Cond.selects RX1 yX1_readTape yX1_readTape ∈ gw := inG 361 (by decide +kernel)
theorem co_X1_readRank : Cond.code yX1_readRank cX1_readRank 6 none ∈ gw := inG 463 (by decide +kernel)
theorem im_X1_readRank : Cond.instanceMethod yX1_readRank ∈ gw := inG 462 (by decide +kernel)
theorem se_X1_readRank : Cond.selects RX1 yX1_readRank yX1_readRank ∈ gw := inG 10 (by decide +kernel)
theorem co_X1_isJoint : Cond.code yX1_isJoint cX1_isJoint 2 (some .boolean) ∈ gw := inG 478 (by decide +kernel)
theorem sm_X1_isJoint : Cond.static yX1_isJoint ∈ gw := inG 477 (by decide +kernel)
theorem co_X1_readOne : Cond.code yX1_readOne cX1_readOne 2 none ∈ gw := inG 467 (by decide +kernel)
theorem im_X1_readOne : Cond.instanceMethod yX1_readOne ∈ gw := inG 466 (by decide +kernel)
theorem se_X1_readOne : Cond.selects RX1 yX1_readOne yX1_readOne ∈ gw := inG 11 (by decide +kernel)
theorem co_X1_mayOpen : Cond.code yX1_mayOpen cX1_mayOpen 2 (some .boolean) ∈ gw := inG 475 (by decide +kernel)
theorem im_X1_mayOpen : Cond.instanceMethod yX1_mayOpen ∈ gw := inG 474 (by decide +kernel)
theorem se_X1_mayOpen : Cond.selects RX1 yX1_mayOpen yX1_mayOpen ∈ gw := inG 12 (by decide +kernel)
theorem co_X1_expect : Cond.code yX1_expect cX1_expect 2 none ∈ gw := inG 455 (by decide +kernel)
theorem im_X1_expect : Cond.instanceMethod yX1_expect ∈ gw := inG 454 (by decide +kernel)
theorem se_X1_expect : Cond.selects RX1 yX1_expect yX1_expect ∈ gw := inG 8 (by decide +kernel)
theorem co_X1_refuse : Cond.code yX1_refuse cX1_refuse 1 none ∈ gw := inG 459 (by decide +kernel)
theorem im_X1_refuse : Cond.instanceMethod yX1_refuse ∈ gw := inG 458 (by decide +kernel)
theorem se_X1_refuse : Cond.selects RX1 yX1_refuse yX1_refuse ∈ gw := inG 9 (by decide +kernel)
theorem co_X1_advance : Cond.code yX1_advance cX1_advance 1 none ∈ gw := inG 370 (by decide +kernel)
theorem im_X1_advance : Cond.instanceMethod yX1_advance ∈ gw := inG 369 (by decide +kernel)
theorem se_X1_advance : Cond.selects RX1 yX1_advance yX1_advance ∈ gw := inG 4 (by decide +kernel)
theorem co_X1_isLetter : Cond.code yX1_isLetter cX1_isLetter 1 (some .boolean) ∈ gw := inG 373 (by decide +kernel)
theorem sm_X1_isLetter : Cond.static yX1_isLetter ∈ gw := inG 372 (by decide +kernel)
theorem co_X1_isDigit : Cond.code yX1_isDigit cX1_isDigit 1 (some .boolean) ∈ gw := inG 444 (by decide +kernel)
theorem sm_X1_isDigit : Cond.static yX1_isDigit ∈ gw := inG 443 (by decide +kernel)
theorem co_X1_signOf : Cond.code yX1_signOf cX1_signOf 1 (some .int) ∈ gw := inG 451 (by decide +kernel)
theorem sm_X1_signOf : Cond.static yX1_signOf ∈ gw := inG 450 (by decide +kernel)
theorem co_X1_takeNumber : Cond.code yX1_takeNumber cX1_takeNumber 2 (some .int) ∈ gw := inG 448 (by decide +kernel)
theorem im_X1_takeNumber : Cond.instanceMethod yX1_takeNumber ∈ gw := inG 447 (by decide +kernel)
theorem se_X1_takeNumber : Cond.selects RX1 yX1_takeNumber yX1_takeNumber ∈ gw := inG 7 (by decide +kernel)
theorem co_X1_takeWord : Cond.code yX1_takeWord cX1_takeWord 1 (some .int) ∈ gw := inG 377 (by decide +kernel)
theorem im_X1_takeWord : Cond.instanceMethod yX1_takeWord ∈ gw := inG 376 (by decide +kernel)
theorem se_X1_takeWord : Cond.selects RX1 yX1_takeWord yX1_takeWord ∈ gw := inG 5 (by decide +kernel)
theorem co_X1_spells : Cond.code yX1_spells cX1_spells 3 (some .boolean) ∈ gw := inG 382 (by decide +kernel)
theorem im_X1_spells : Cond.instanceMethod yX1_spells ∈ gw := inG 381 (by decide +kernel)
theorem se_X1_spells : Cond.selects RX1 yX1_spells yX1_spells ∈ gw := inG 6 (by decide +kernel)
theorem co_X2_init : Cond.code yX2_init cX2_init 1 none ∈ gw := inG 215 (by decide +kernel)
theorem im_X2_init : Cond.instanceMethod yX2_init ∈ gw := inG 214 (by decide +kernel)
theorem co_X2_sortOf : Cond.code yX2_sortOf cX2_sortOf 2 (some .int) ∈ gw := inG 612 (by decide +kernel)
theorem im_X2_sortOf : Cond.instanceMethod yX2_sortOf ∈ gw := inG 610 (by decide +kernel)
theorem se_X2_sortOf : Cond.selects RX2 yX2_sortOf yX2_sortOf ∈ gw := inG 611 (by decide +kernel)
theorem co_X2_sizeOf : Cond.code yX2_sizeOf cX2_sizeOf 2 (some .int) ∈ gw := inG 617 (by decide +kernel)
theorem im_X2_sizeOf : Cond.instanceMethod yX2_sizeOf ∈ gw := inG 615 (by decide +kernel)
theorem se_X2_sizeOf : Cond.selects RX2 yX2_sizeOf yX2_sizeOf ∈ gw := inG 616 (by decide +kernel)
theorem co_X2_remove : Cond.code yX2_remove cX2_remove 2 none ∈ gw := inG 694 (by decide +kernel)
theorem im_X2_remove : Cond.instanceMethod yX2_remove ∈ gw := inG 692 (by decide +kernel)
theorem se_X2_remove : Cond.selects RX2 yX2_remove yX2_remove ∈ gw := inG 693 (by decide +kernel)
theorem co_X2_make : Cond.code yX2_make cX2_make 5 none ∈ gw := inG 698 (by decide +kernel)
theorem im_X2_make : Cond.instanceMethod yX2_make ∈ gw := inG 696 (by decide +kernel)
theorem se_X2_make : Cond.selects RX2 yX2_make yX2_make ∈ gw := inG 697 (by decide +kernel)
theorem co_X2_itemOf : Cond.code yX2_itemOf cX2_itemOf 3 (some .int) ∈ gw := inG 621 (by decide +kernel)
theorem im_X2_itemOf : Cond.instanceMethod yX2_itemOf ∈ gw := inG 619 (by decide +kernel)
theorem se_X2_itemOf : Cond.selects RX2 yX2_itemOf yX2_itemOf ∈ gw := inG 620 (by decide +kernel)
theorem co_X2_put : Cond.code yX2_put cX2_put 5 none ∈ gw := inG 708 (by decide +kernel)
theorem im_X2_put : Cond.instanceMethod yX2_put ∈ gw := inG 706 (by decide +kernel)
theorem se_X2_put : Cond.selects RX2 yX2_put yX2_put ∈ gw := inG 707 (by decide +kernel)
theorem co_X2_hasRange : Cond.code yX2_hasRange cX2_hasRange 4 (some .boolean) ∈ gw := inG 625 (by decide +kernel)
theorem im_X2_hasRange : Cond.instanceMethod yX2_hasRange ∈ gw := inG 623 (by decide +kernel)
theorem se_X2_hasRange : Cond.selects RX2 yX2_hasRange yX2_hasRange ∈ gw := inG 624 (by decide +kernel)
theorem co_X2_move : Cond.code yX2_move cX2_move 6 none ∈ gw := inG 717 (by decide +kernel)
theorem im_X2_move : Cond.instanceMethod yX2_move ∈ gw := inG 715 (by decide +kernel)
theorem se_X2_move : Cond.selects RX2 yX2_move yX2_move ∈ gw := inG 716 (by decide +kernel)
theorem co_X3_init : Cond.code yX3_init cX3_init 1 none ∈ gw := inG 139 (by decide +kernel)
theorem im_X3_init : Cond.instanceMethod yX3_init ∈ gw := inG 138 (by decide +kernel)
theorem co_X3_has : Cond.code yX3_has cX3_has 2 (some .boolean) ∈ gw := inG 326 (by decide +kernel)
theorem im_X3_has : Cond.instanceMethod yX3_has ∈ gw := inG 324 (by decide +kernel)
theorem se_X3_has : Cond.selects RX3 yX3_has yX3_has ∈ gw := inG 325 (by decide +kernel)
theorem co_X3_isFull : Cond.code yX3_isFull cX3_isFull 1 (some .boolean) ∈ gw := inG 358 (by decide +kernel)
theorem im_X3_isFull : Cond.instanceMethod yX3_isFull ∈ gw := inG 356 (by decide +kernel)
theorem se_X3_isFull : Cond.selects RX3 yX3_isFull yX3_isFull ∈ gw := inG 357 (by decide +kernel)
theorem co_X3_begin : Cond.code yX3_begin cX3_begin 1 none ∈ gw := inG 366 (by decide +kernel)
theorem im_X3_begin : Cond.instanceMethod yX3_begin ∈ gw := inG 364 (by decide +kernel)
theorem se_X3_begin : Cond.selects RX3 yX3_begin yX3_begin ∈ gw := inG 365 (by decide +kernel)
theorem co_X3_write : Cond.code yX3_write cX3_write 2 none ∈ gw := inG 471 (by decide +kernel)
theorem im_X3_write : Cond.instanceMethod yX3_write ∈ gw := inG 469 (by decide +kernel)
theorem se_X3_write : Cond.selects RX3 yX3_write yX3_write ∈ gw := inG 470 (by decide +kernel)
theorem co_X3_endPart : Cond.code yX3_endPart cX3_endPart 3 none ∈ gw := inG 482 (by decide +kernel)
theorem im_X3_endPart : Cond.instanceMethod yX3_endPart ∈ gw := inG 480 (by decide +kernel)
theorem se_X3_endPart : Cond.selects RX3 yX3_endPart yX3_endPart ∈ gw := inG 481 (by decide +kernel)
theorem co_X3_keep : Cond.code yX3_keep cX3_keep 1 (some .int) ∈ gw := inG 486 (by decide +kernel)
theorem im_X3_keep : Cond.instanceMethod yX3_keep ∈ gw := inG 484 (by decide +kernel)
theorem se_X3_keep : Cond.selects RX3 yX3_keep yX3_keep ∈ gw := inG 485 (by decide +kernel)
theorem co_X3_reckon : Cond.code yX3_reckon cX3_reckon 8 (some .int) ∈ gw := inG 322 (by decide +kernel)
theorem im_X3_reckon : Cond.instanceMethod yX3_reckon ∈ gw := inG 320 (by decide +kernel)
theorem se_X3_reckon : Cond.selects RX3 yX3_reckon yX3_reckon ∈ gw := inG 321 (by decide +kernel)
theorem co_X3_run : Cond.code yX3_run cX3_run 6 (some .int) ∈ gw := inG 333 (by decide +kernel)
theorem im_X3_run : Cond.instanceMethod yX3_run ∈ gw := inG 332 (by decide +kernel)
theorem se_X3_run : Cond.selects RX3 yX3_run yX3_run ∈ gw := inG 3 (by decide +kernel)
theorem co_X3_turned : Cond.code yX3_turned cX3_turned 2 (some .int) ∈ gw := inG 336 (by decide +kernel)
theorem sm_X3_turned : Cond.static yX3_turned ∈ gw := inG 335 (by decide +kernel)
theorem co_X3_joined : Cond.code yX3_joined cX3_joined 3 (some .int) ∈ gw := inG 339 (by decide +kernel)
theorem sm_X3_joined : Cond.static yX3_joined ∈ gw := inG 338 (by decide +kernel)
theorem co_X4_init : Cond.code yX4_init cX4_init 2 none ∈ gw := inG 201 (by decide +kernel)
theorem im_X4_init : Cond.instanceMethod yX4_init ∈ gw := inG 200 (by decide +kernel)
theorem co_X4_walkStrips : Cond.code yX4_walkStrips cX4_walkStrips 7 (some .int) ∈ gw := inG 511 (by decide +kernel)
theorem im_X4_walkStrips : Cond.instanceMethod yX4_walkStrips ∈ gw := inG 509 (by decide +kernel)
theorem se_X4_walkStrips : Cond.selects RX4 yX4_walkStrips yX4_walkStrips ∈ gw := inG 510 (by decide +kernel)
theorem co_X4_digIn : Cond.code yX4_digIn cX4_digIn 6 (some .int) ∈ gw := inG 515 (by decide +kernel)
theorem im_X4_digIn : Cond.instanceMethod yX4_digIn ∈ gw := inG 514 (by decide +kernel)
theorem se_X4_digIn : Cond.selects RX4 yX4_digIn yX4_digIn ∈ gw := inG 13 (by decide +kernel)
theorem co_X4_beepIn : Cond.code yX4_beepIn cX4_beepIn 7 (some .int) ∈ gw := inG 500 (by decide +kernel)
theorem im_X4_beepIn : Cond.instanceMethod yX4_beepIn ∈ gw := inG 498 (by decide +kernel)
theorem se_X4_beepIn : Cond.selects RX4 yX4_beepIn yX4_beepIn ∈ gw := inG 499 (by decide +kernel)
theorem co_X4_dugIfHeard : Cond.code yX4_dugIfHeard cX4_dugIfHeard 5 (some .int) ∈ gw := inG 651 (by decide +kernel)
theorem im_X4_dugIfHeard : Cond.instanceMethod yX4_dugIfHeard ∈ gw := inG 649 (by decide +kernel)
theorem se_X4_dugIfHeard : Cond.selects RX4 yX4_dugIfHeard yX4_dugIfHeard ∈ gw := inG 650 (by decide +kernel)
theorem co_X5_init : Cond.code yX5_init cX5_init 1 none ∈ gw := inG 69 (by decide +kernel)
theorem im_X5_init : Cond.instanceMethod yX5_init ∈ gw := inG 68 (by decide +kernel)
theorem co_X5_find : Cond.code yX5_find cX5_find 6 (some .int) ∈ gw := inG 258 (by decide +kernel)
theorem im_X5_find : Cond.instanceMethod yX5_find ∈ gw := inG 256 (by decide +kernel)
theorem se_X5_find : Cond.selects RX5 yX5_find yX5_find ∈ gw := inG 257 (by decide +kernel)
theorem co_X5_set : Cond.code yX5_set cX5_set 4 (some .int) ∈ gw := inG 272 (by decide +kernel)
theorem im_X5_set : Cond.instanceMethod yX5_set ∈ gw := inG 270 (by decide +kernel)
theorem se_X5_set : Cond.selects RX5 yX5_set yX5_set ∈ gw := inG 271 (by decide +kernel)
theorem co_X5_changeWet : Cond.code yX5_changeWet cX5_changeWet 3 (some .int) ∈ gw := inG 276 (by decide +kernel)
theorem im_X5_changeWet : Cond.instanceMethod yX5_changeWet ∈ gw := inG 275 (by decide +kernel)
theorem se_X5_changeWet : Cond.selects RX5 yX5_changeWet yX5_changeWet ∈ gw := inG 0 (by decide +kernel)
theorem co_X5_changePlate : Cond.code yX5_changePlate cX5_changePlate 3 (some .int) ∈ gw := inG 280 (by decide +kernel)
theorem im_X5_changePlate : Cond.instanceMethod yX5_changePlate ∈ gw := inG 279 (by decide +kernel)
theorem se_X5_changePlate : Cond.selects RX5 yX5_changePlate yX5_changePlate ∈ gw := inG 1 (by decide +kernel)
theorem co_X5_changeFind : Cond.code yX5_changeFind cX5_changeFind 6 (some .int) ∈ gw := inG 284 (by decide +kernel)
theorem im_X5_changeFind : Cond.instanceMethod yX5_changeFind ∈ gw := inG 283 (by decide +kernel)
theorem se_X5_changeFind : Cond.selects RX5 yX5_changeFind yX5_changeFind ∈ gw := inG 2 (by decide +kernel)
theorem co_X5_told : Cond.code yX5_told cX5_told 3 (some .int) ∈ gw := inG 297 (by decide +kernel)
theorem im_X5_told : Cond.instanceMethod yX5_told ∈ gw := inG 295 (by decide +kernel)
theorem se_X5_told : Cond.selects RX5 yX5_told yX5_told ∈ gw := inG 296 (by decide +kernel)
theorem co_X5_feed : Cond.code yX5_feed cX5_feed 2 (some .int) ∈ gw := inG 346 (by decide +kernel)
theorem im_X5_feed : Cond.instanceMethod yX5_feed ∈ gw := inG 344 (by decide +kernel)
theorem se_X5_feed : Cond.selects RX5 yX5_feed yX5_feed ∈ gw := inG 345 (by decide +kernel)
theorem co_X5_text : Cond.code yX5_text cX5_text 2 (some .int) ∈ gw := inG 354 (by decide +kernel)
theorem im_X5_text : Cond.instanceMethod yX5_text ∈ gw := inG 352 (by decide +kernel)
theorem se_X5_text : Cond.selects RX5 yX5_text yX5_text ∈ gw := inG 353 (by decide +kernel)
theorem co_X5_force : Cond.code yX5_force cX5_force 3 (some .int) ∈ gw := inG 491 (by decide +kernel)
theorem im_X5_force : Cond.instanceMethod yX5_force ∈ gw := inG 489 (by decide +kernel)
theorem se_X5_force : Cond.selects RX5 yX5_force yX5_force ∈ gw := inG 490 (by decide +kernel)
theorem co_X5_beep : Cond.code yX5_beep cX5_beep 2 (some .int) ∈ gw := inG 496 (by decide +kernel)
theorem im_X5_beep : Cond.instanceMethod yX5_beep ∈ gw := inG 494 (by decide +kernel)
theorem se_X5_beep : Cond.selects RX5 yX5_beep yX5_beep ∈ gw := inG 495 (by decide +kernel)
theorem co_X5_walk : Cond.code yX5_walk cX5_walk 2 (some .int) ∈ gw := inG 507 (by decide +kernel)
theorem im_X5_walk : Cond.instanceMethod yX5_walk ∈ gw := inG 505 (by decide +kernel)
theorem se_X5_walk : Cond.selects RX5 yX5_walk yX5_walk ∈ gw := inG 506 (by decide +kernel)
theorem co_X5_plough : Cond.code yX5_plough cX5_plough 1 (some .int) ∈ gw := inG 520 (by decide +kernel)
theorem im_X5_plough : Cond.instanceMethod yX5_plough ∈ gw := inG 518 (by decide +kernel)
theorem se_X5_plough : Cond.selects RX5 yX5_plough yX5_plough ∈ gw := inG 519 (by decide +kernel)
theorem co_X5_found : Cond.code yX5_found cX5_found 4 (some .int) ∈ gw := inG 533 (by decide +kernel)
theorem im_X5_found : Cond.instanceMethod yX5_found ∈ gw := inG 531 (by decide +kernel)
theorem se_X5_found : Cond.selects RX5 yX5_found yX5_found ∈ gw := inG 532 (by decide +kernel)
theorem co_X5_foundIn : Cond.code yX5_foundIn cX5_foundIn 3 (some .int) ∈ gw := inG 537 (by decide +kernel)
theorem im_X5_foundIn : Cond.instanceMethod yX5_foundIn ∈ gw := inG 536 (by decide +kernel)
theorem se_X5_foundIn : Cond.selects RX5 yX5_foundIn yX5_foundIn ∈ gw := inG 14 (by decide +kernel)
theorem co_X5_years : Cond.code yX5_years cX5_years 4 (some .int) ∈ gw := inG 550 (by decide +kernel)
theorem im_X5_years : Cond.instanceMethod yX5_years ∈ gw := inG 548 (by decide +kernel)
theorem se_X5_years : Cond.selects RX5 yX5_years yX5_years ∈ gw := inG 549 (by decide +kernel)
theorem co_X5_soonest : Cond.code yX5_soonest cX5_soonest 6 (some .int) ∈ gw := inG 554 (by decide +kernel)
theorem im_X5_soonest : Cond.instanceMethod yX5_soonest ∈ gw := inG 552 (by decide +kernel)
theorem se_X5_soonest : Cond.selects RX5 yX5_soonest yX5_soonest ∈ gw := inG 553 (by decide +kernel)
theorem co_X5_strips : Cond.code yX5_strips cX5_strips 6 (some .int) ∈ gw := inG 558 (by decide +kernel)
theorem im_X5_strips : Cond.instanceMethod yX5_strips ∈ gw := inG 556 (by decide +kernel)
theorem se_X5_strips : Cond.selects RX5 yX5_strips yX5_strips ∈ gw := inG 557 (by decide +kernel)
theorem co_X5_better : Cond.code yX5_better cX5_better 2 (some .int) ∈ gw := inG 568 (by decide +kernel)
theorem im_X5_better : Cond.instanceMethod yX5_better ∈ gw := inG 566 (by decide +kernel)
theorem se_X5_better : Cond.selects RX5 yX5_better yX5_better ∈ gw := inG 567 (by decide +kernel)
theorem co_X5_order : Cond.code yX5_order cX5_order 3 (some .int) ∈ gw := inG 573 (by decide +kernel)
theorem im_X5_order : Cond.instanceMethod yX5_order ∈ gw := inG 571 (by decide +kernel)
theorem se_X5_order : Cond.selects RX5 yX5_order yX5_order ∈ gw := inG 572 (by decide +kernel)
theorem co_X5_pot : Cond.code yX5_pot cX5_pot 5 (some .int) ∈ gw := inG 577 (by decide +kernel)
theorem im_X5_pot : Cond.instanceMethod yX5_pot ∈ gw := inG 575 (by decide +kernel)
theorem se_X5_pot : Cond.selects RX5 yX5_pot yX5_pot ∈ gw := inG 576 (by decide +kernel)
theorem co_X5_came : Cond.code yX5_came cX5_came 8 (some .int) ∈ gw := inG 588 (by decide +kernel)
theorem im_X5_came : Cond.instanceMethod yX5_came ∈ gw := inG 586 (by decide +kernel)
theorem se_X5_came : Cond.selects RX5 yX5_came yX5_came ∈ gw := inG 587 (by decide +kernel)
theorem co_X5_dots : Cond.code yX5_dots cX5_dots 2 (some .int) ∈ gw := inG 593 (by decide +kernel)
theorem im_X5_dots : Cond.instanceMethod yX5_dots ∈ gw := inG 591 (by decide +kernel)
theorem se_X5_dots : Cond.selects RX5 yX5_dots yX5_dots ∈ gw := inG 592 (by decide +kernel)
theorem co_X5_thick : Cond.code yX5_thick cX5_thick 5 (some .int) ∈ gw := inG 601 (by decide +kernel)
theorem im_X5_thick : Cond.instanceMethod yX5_thick ∈ gw := inG 599 (by decide +kernel)
theorem se_X5_thick : Cond.selects RX5 yX5_thick yX5_thick ∈ gw := inG 600 (by decide +kernel)
theorem co_X5_judge : Cond.code yX5_judge cX5_judge 6 (some .int) ∈ gw := inG 605 (by decide +kernel)
theorem im_X5_judge : Cond.instanceMethod yX5_judge ∈ gw := inG 603 (by decide +kernel)
theorem se_X5_judge : Cond.selects RX5 yX5_judge yX5_judge ∈ gw := inG 604 (by decide +kernel)
theorem co_X5_unseen : Cond.code yX5_unseen cX5_unseen 1 (some .int) ∈ gw := inG 630 (by decide +kernel)
theorem im_X5_unseen : Cond.instanceMethod yX5_unseen ∈ gw := inG 628 (by decide +kernel)
theorem se_X5_unseen : Cond.selects RX5 yX5_unseen yX5_unseen ∈ gw := inG 629 (by decide +kernel)
theorem co_X5_left : Cond.code yX5_left cX5_left 2 (some .int) ∈ gw := inG 638 (by decide +kernel)
theorem im_X5_left : Cond.instanceMethod yX5_left ∈ gw := inG 636 (by decide +kernel)
theorem se_X5_left : Cond.selects RX5 yX5_left yX5_left ∈ gw := inG 637 (by decide +kernel)
theorem co_X5_neverHeard : Cond.code yX5_neverHeard cX5_neverHeard 3 (some .int) ∈ gw := inG 647 (by decide +kernel)
theorem im_X5_neverHeard : Cond.instanceMethod yX5_neverHeard ∈ gw := inG 646 (by decide +kernel)
theorem se_X5_neverHeard : Cond.selects RX5 yX5_neverHeard yX5_neverHeard ∈ gw := inG 15 (by decide +kernel)
theorem co_X5_drawn : Cond.code yX5_drawn cX5_drawn 2 (some .int) ∈ gw := inG 655 (by decide +kernel)
theorem im_X5_drawn : Cond.instanceMethod yX5_drawn ∈ gw := inG 653 (by decide +kernel)
theorem se_X5_drawn : Cond.selects RX5 yX5_drawn yX5_drawn ∈ gw := inG 654 (by decide +kernel)
theorem co_X5_foundIfDrawn : Cond.code yX5_foundIfDrawn cX5_foundIfDrawn 2 (some .int) ∈ gw := inG 659 (by decide +kernel)
theorem im_X5_foundIfDrawn : Cond.instanceMethod yX5_foundIfDrawn ∈ gw := inG 658 (by decide +kernel)
theorem se_X5_foundIfDrawn : Cond.selects RX5 yX5_foundIfDrawn yX5_foundIfDrawn ∈ gw := inG 16 (by decide +kernel)
theorem co_X5_odds : Cond.code yX5_odds cX5_odds 7 (some .long) ∈ gw := inG 668 (by decide +kernel)
theorem im_X5_odds : Cond.instanceMethod yX5_odds ∈ gw := inG 666 (by decide +kernel)
theorem se_X5_odds : Cond.selects RX5 yX5_odds yX5_odds ∈ gw := inG 667 (by decide +kernel)
theorem co_X5_lowered : Cond.code yX5_lowered cX5_lowered 3 (some .int) ∈ gw := inG 672 (by decide +kernel)
theorem sm_X5_lowered : Cond.static yX5_lowered ∈ gw := inG 671 (by decide +kernel)
theorem co_X5_image : Cond.code yX5_image cX5_image 1 (some .int) ∈ gw := inG 677 (by decide +kernel)
theorem im_X5_image : Cond.instanceMethod yX5_image ∈ gw := inG 675 (by decide +kernel)
theorem se_X5_image : Cond.selects RX5 yX5_image yX5_image ∈ gw := inG 676 (by decide +kernel)
theorem co_X5_back : Cond.code yX5_back cX5_back 1 (some .int) ∈ gw := inG 682 (by decide +kernel)
theorem im_X5_back : Cond.instanceMethod yX5_back ∈ gw := inG 680 (by decide +kernel)
theorem se_X5_back : Cond.selects RX5 yX5_back yX5_back ∈ gw := inG 681 (by decide +kernel)
theorem co_X5_count : Cond.code yX5_count cX5_count 2 (some .int) ∈ gw := inG 686 (by decide +kernel)
theorem im_X5_count : Cond.instanceMethod yX5_count ∈ gw := inG 684 (by decide +kernel)
theorem se_X5_count : Cond.selects RX5 yX5_count yX5_count ∈ gw := inG 685 (by decide +kernel)
theorem co_X5_sheet : Cond.code yX5_sheet cX5_sheet 4 (some .int) ∈ gw := inG 690 (by decide +kernel)
theorem im_X5_sheet : Cond.instanceMethod yX5_sheet ∈ gw := inG 688 (by decide +kernel)
theorem se_X5_sheet : Cond.selects RX5 yX5_sheet yX5_sheet ∈ gw := inG 689 (by decide +kernel)
theorem co_X5_cell : Cond.code yX5_cell cX5_cell 4 (some .int) ∈ gw := inG 704 (by decide +kernel)
theorem im_X5_cell : Cond.instanceMethod yX5_cell ∈ gw := inG 702 (by decide +kernel)
theorem se_X5_cell : Cond.selects RX5 yX5_cell yX5_cell ∈ gw := inG 703 (by decide +kernel)
theorem co_X5_copy : Cond.code yX5_copy cX5_copy 6 (some .int) ∈ gw := inG 712 (by decide +kernel)
theorem im_X5_copy : Cond.instanceMethod yX5_copy ∈ gw := inG 710 (by decide +kernel)
theorem se_X5_copy : Cond.selects RX5 yX5_copy yX5_copy ∈ gw := inG 711 (by decide +kernel)
theorem co_X5_finds : Cond.code yX5_finds cX5_finds 10 (some .int) ∈ gw := inG 722 (by decide +kernel)
theorem im_X5_finds : Cond.instanceMethod yX5_finds ∈ gw := inG 720 (by decide +kernel)
theorem se_X5_finds : Cond.selects RX5 yX5_finds yX5_finds ∈ gw := inG 721 (by decide +kernel)
theorem co_X5_taken : Cond.code yX5_taken cX5_taken 3 (some .int) ∈ gw := inG 727 (by decide +kernel)
theorem im_X5_taken : Cond.instanceMethod yX5_taken ∈ gw := inG 725 (by decide +kernel)
theorem se_X5_taken : Cond.selects RX5 yX5_taken yX5_taken ∈ gw := inG 726 (by decide +kernel)
theorem co_X5_isWithin : Cond.code yX5_isWithin cX5_isWithin 3 (some .boolean) ∈ gw := inG 261 (by decide +kernel)
theorem sm_X5_isWithin : Cond.static yX5_isWithin ∈ gw := inG 260 (by decide +kernel)
theorem co_X5_isCell : Cond.code yX5_isCell cX5_isCell 1 (some .boolean) ∈ gw := inG 264 (by decide +kernel)
theorem sm_X5_isCell : Cond.static yX5_isCell ∈ gw := inG 263 (by decide +kernel)
theorem co_X5_isSheet : Cond.code yX5_isSheet cX5_isSheet 1 (some .boolean) ∈ gw := inG 608 (by decide +kernel)
theorem sm_X5_isSheet : Cond.static yX5_isSheet ∈ gw := inG 607 (by decide +kernel)
theorem co_X5_held : Cond.code yX5_held cX5_held 2 (some .int) ∈ gw := inG 342 (by decide +kernel)
theorem sm_X5_held : Cond.static yX5_held ∈ gw := inG 341 (by decide +kernel)
theorem co_X5_toneOf : Cond.code yX5_toneOf cX5_toneOf 4 (some .int) ∈ gw := inG 300 (by decide +kernel)
theorem sm_X5_toneOf : Cond.static yX5_toneOf ∈ gw := inG 299 (by decide +kernel)
theorem co_X5_loudOf : Cond.code yX5_loudOf cX5_loudOf 7 (some .int) ∈ gw := inG 307 (by decide +kernel)
theorem sm_X5_loudOf : Cond.static yX5_loudOf ∈ gw := inG 306 (by decide +kernel)
theorem co_X5_dragsOf : Cond.code yX5_dragsOf cX5_dragsOf 3 (some .int) ∈ gw := inG 318 (by decide +kernel)
theorem sm_X5_dragsOf : Cond.static yX5_dragsOf ∈ gw := inG 317 (by decide +kernel)
theorem co_X5_isUnder : Cond.code yX5_isUnder cX5_isUnder 4 (some .boolean) ∈ gw := inG 730 (by decide +kernel)
theorem sm_X5_isUnder : Cond.static yX5_isUnder ∈ gw := inG 729 (by decide +kernel)
theorem co_X6_in : Cond.code yX6_in cX6_in 6 (some .boolean) ∈ gw := inG 907 (by decide +kernel)
theorem sm_X6_in : Cond.static yX6_in ∈ gw := inG 906 (by decide +kernel)
theorem co_X6_within : Cond.code yX6_within cX6_within 3 (some .int) ∈ gw := inG 1028 (by decide +kernel)
theorem sm_X6_within : Cond.static yX6_within ∈ gw := inG 1027 (by decide +kernel)
theorem co_X6_bitsOf : Cond.code yX6_bitsOf cX6_bitsOf 3 (some .int) ∈ gw := inG 1106 (by decide +kernel)
theorem sm_X6_bitsOf : Cond.static yX6_bitsOf ∈ gw := inG 1105 (by decide +kernel)
theorem co_X6_init : Cond.code yX6_init cX6_init 1 none ∈ gw := inG 737 (by decide +kernel)
theorem im_X6_init : Cond.instanceMethod yX6_init ∈ gw := inG 736 (by decide +kernel)
theorem co_X6_spell : Cond.code yX6_spell cX6_spell 10 none ∈ gw := inG 742 (by decide +kernel)
theorem im_X6_spell : Cond.instanceMethod yX6_spell ∈ gw := inG 741 (by decide +kernel)
theorem se_X6_spell : Cond.selects RX6 yX6_spell yX6_spell ∈ gw := inG 17 (by decide +kernel)
theorem co_X6_isFind : Cond.code yX6_isFind cX6_isFind 2 (some .boolean) ∈ gw := inG 921 (by decide +kernel)
theorem im_X6_isFind : Cond.instanceMethod yX6_isFind ∈ gw := inG 920 (by decide +kernel)
theorem se_X6_isFind : Cond.selects RX6 yX6_isFind yX6_isFind ∈ gw := inG 18 (by decide +kernel)
theorem co_X6_lies : Cond.code yX6_lies cX6_lies 2 (some .boolean) ∈ gw := inG 927 (by decide +kernel)
theorem im_X6_lies : Cond.instanceMethod yX6_lies ∈ gw := inG 926 (by decide +kernel)
theorem se_X6_lies : Cond.selects RX6 yX6_lies yX6_lies ∈ gw := inG 19 (by decide +kernel)
theorem co_X6_isCell : Cond.code yX6_isCell cX6_isCell 1 (some .boolean) ∈ gw := inG 910 (by decide +kernel)
theorem sm_X6_isCell : Cond.static yX6_isCell ∈ gw := inG 909 (by decide +kernel)
theorem co_X6_find : Cond.code yX6_find cX6_find 4 (some .int) ∈ gw := inG 903 (by decide +kernel)
theorem im_X6_find : Cond.instanceMethod yX6_find ∈ gw := inG 901 (by decide +kernel)
theorem se_X6_find : Cond.selects RX6 yX6_find yX6_find ∈ gw := inG 902 (by decide +kernel)
theorem co_X6_set : Cond.code yX6_set cX6_set 5 (some .int) ∈ gw := inG 916 (by decide +kernel)
theorem im_X6_set : Cond.instanceMethod yX6_set ∈ gw := inG 914 (by decide +kernel)
theorem se_X6_set : Cond.selects RX6 yX6_set yX6_set ∈ gw := inG 915 (by decide +kernel)
theorem co_X6_tone : Cond.code yX6_tone cX6_tone 4 (some .int) ∈ gw := inG 935 (by decide +kernel)
theorem im_X6_tone : Cond.instanceMethod yX6_tone ∈ gw := inG 934 (by decide +kernel)
theorem se_X6_tone : Cond.selects RX6 yX6_tone yX6_tone ∈ gw := inG 20 (by decide +kernel)
theorem co_X6_loud : Cond.code yX6_loud cX6_loud 4 (some .int) ∈ gw := inG 939 (by decide +kernel)
theorem im_X6_loud : Cond.instanceMethod yX6_loud ∈ gw := inG 938 (by decide +kernel)
theorem se_X6_loud : Cond.selects RX6 yX6_loud yX6_loud ∈ gw := inG 21 (by decide +kernel)
theorem co_X6_dragsAt : Cond.code yX6_dragsAt cX6_dragsAt 3 (some .int) ∈ gw := inG 946 (by decide +kernel)
theorem sm_X6_dragsAt : Cond.static yX6_dragsAt ∈ gw := inG 945 (by decide +kernel)
theorem co_X6_heard : Cond.code yX6_heard cX6_heard 4 (some .int) ∈ gw := inG 943 (by decide +kernel)
theorem im_X6_heard : Cond.instanceMethod yX6_heard ∈ gw := inG 942 (by decide +kernel)
theorem se_X6_heard : Cond.selects RX6 yX6_heard yX6_heard ∈ gw := inG 22 (by decide +kernel)
theorem co_X6_told : Cond.code yX6_told cX6_told 3 (some .int) ∈ gw := inG 931 (by decide +kernel)
theorem im_X6_told : Cond.instanceMethod yX6_told ∈ gw := inG 929 (by decide +kernel)
theorem se_X6_told : Cond.selects RX6 yX6_told yX6_told ∈ gw := inG 930 (by decide +kernel)
theorem co_X6_feed : Cond.code yX6_feed cX6_feed 2 (some .int) ∈ gw := inG 1032 (by decide +kernel)
theorem im_X6_feed : Cond.instanceMethod yX6_feed ∈ gw := inG 1030 (by decide +kernel)
theorem se_X6_feed : Cond.selects RX6 yX6_feed yX6_feed ∈ gw := inG 1031 (by decide +kernel)
theorem co_X6_byteAt : Cond.code yX6_byteAt cX6_byteAt 2 (some .int) ∈ gw := inG 966 (by decide +kernel)
theorem im_X6_byteAt : Cond.instanceMethod yX6_byteAt ∈ gw := inG 965 (by decide +kernel)
theorem se_X6_byteAt : Cond.selects RX6 yX6_byteAt yX6_byteAt ∈ gw := inG 27 (by decide +kernel)
theorem co_X6_next : Cond.code yX6_next cX6_next 3 none ∈ gw := inG 962 (by decide +kernel)
theorem im_X6_next : Cond.instanceMethod yX6_next ∈ gw := inG 961 (by decide +kernel)
theorem se_X6_next : Cond.selects RX6 yX6_next yX6_next ∈ gw := inG 26 (by decide +kernel)
theorem co_X6_fail : Cond.code yX6_fail cX6_fail 1 none ∈ gw := inG 987 (by decide +kernel)
theorem im_X6_fail : Cond.instanceMethod yX6_fail ∈ gw := inG 986 (by decide +kernel)
theorem se_X6_fail : Cond.selects RX6 yX6_fail yX6_fail ∈ gw := inG 31 (by decide +kernel)
theorem co_X6_isLetter : Cond.code yX6_isLetter cX6_isLetter 3 (some .boolean) ∈ gw := inG 979 (by decide +kernel)
theorem im_X6_isLetter : Cond.instanceMethod yX6_isLetter ∈ gw := inG 978 (by decide +kernel)
theorem se_X6_isLetter : Cond.selects RX6 yX6_isLetter yX6_isLetter ∈ gw := inG 29 (by decide +kernel)
theorem co_X6_isWord : Cond.code yX6_isWord cX6_isWord 9 (some .boolean) ∈ gw := inG 975 (by decide +kernel)
theorem im_X6_isWord : Cond.instanceMethod yX6_isWord ∈ gw := inG 974 (by decide +kernel)
theorem se_X6_isWord : Cond.selects RX6 yX6_isWord yX6_isWord ∈ gw := inG 28 (by decide +kernel)
theorem co_X6_isSign : Cond.code yX6_isSign cX6_isSign 2 (some .boolean) ∈ gw := inG 1019 (by decide +kernel)
theorem im_X6_isSign : Cond.instanceMethod yX6_isSign ∈ gw := inG 1018 (by decide +kernel)
theorem se_X6_isSign : Cond.selects RX6 yX6_isSign yX6_isSign ∈ gw := inG 39 (by decide +kernel)
theorem co_X6_opens : Cond.code yX6_opens cX6_opens 1 (some .boolean) ∈ gw := inG 1003 (by decide +kernel)
theorem im_X6_opens : Cond.instanceMethod yX6_opens ∈ gw := inG 1002 (by decide +kernel)
theorem se_X6_opens : Cond.selects RX6 yX6_opens yX6_opens ∈ gw := inG 35 (by decide +kernel)
theorem co_X6_name : Cond.code yX6_name cX6_name 1 (some .int) ∈ gw := inG 1023 (by decide +kernel)
theorem im_X6_name : Cond.instanceMethod yX6_name ∈ gw := inG 1022 (by decide +kernel)
theorem se_X6_name : Cond.selects RX6 yX6_name yX6_name ∈ gw := inG 40 (by decide +kernel)
theorem co_X6_atom : Cond.code yX6_atom cX6_atom 2 (some .int) ∈ gw := inG 1015 (by decide +kernel)
theorem im_X6_atom : Cond.instanceMethod yX6_atom ∈ gw := inG 1014 (by decide +kernel)
theorem se_X6_atom : Cond.selects RX6 yX6_atom yX6_atom ∈ gw := inG 38 (by decide +kernel)
theorem co_X6_term : Cond.code yX6_term cX6_term 2 (some .int) ∈ gw := inG 1011 (by decide +kernel)
theorem im_X6_term : Cond.instanceMethod yX6_term ∈ gw := inG 1010 (by decide +kernel)
theorem se_X6_term : Cond.selects RX6 yX6_term yX6_term ∈ gw := inG 37 (by decide +kernel)
theorem co_X6_added : Cond.code yX6_added cX6_added 4 (some .int) ∈ gw := inG 1007 (by decide +kernel)
theorem im_X6_added : Cond.instanceMethod yX6_added ∈ gw := inG 1006 (by decide +kernel)
theorem se_X6_added : Cond.selects RX6 yX6_added yX6_added ∈ gw := inG 36 (by decide +kernel)
theorem co_X6_not : Cond.code yX6_not cX6_not 4 (some .int) ∈ gw := inG 999 (by decide +kernel)
theorem im_X6_not : Cond.instanceMethod yX6_not ∈ gw := inG 998 (by decide +kernel)
theorem se_X6_not : Cond.selects RX6 yX6_not yX6_not ∈ gw := inG 34 (by decide +kernel)
theorem co_X6_both : Cond.code yX6_both cX6_both 3 (some .int) ∈ gw := inG 995 (by decide +kernel)
theorem im_X6_both : Cond.instanceMethod yX6_both ∈ gw := inG 994 (by decide +kernel)
theorem se_X6_both : Cond.selects RX6 yX6_both yX6_both ∈ gw := inG 33 (by decide +kernel)
theorem co_X6_either : Cond.code yX6_either cX6_either 3 (some .int) ∈ gw := inG 991 (by decide +kernel)
theorem im_X6_either : Cond.instanceMethod yX6_either ∈ gw := inG 990 (by decide +kernel)
theorem se_X6_either : Cond.selects RX6 yX6_either yX6_either ∈ gw := inG 32 (by decide +kernel)
theorem co_X6_part : Cond.code yX6_part cX6_part 3 (some .int) ∈ gw := inG 983 (by decide +kernel)
theorem im_X6_part : Cond.instanceMethod yX6_part ∈ gw := inG 982 (by decide +kernel)
theorem se_X6_part : Cond.selects RX6 yX6_part yX6_part ∈ gw := inG 30 (by decide +kernel)
theorem co_X6_read : Cond.code yX6_read cX6_read 6 (some .int) ∈ gw := inG 958 (by decide +kernel)
theorem im_X6_read : Cond.instanceMethod yX6_read ∈ gw := inG 957 (by decide +kernel)
theorem se_X6_read : Cond.selects RX6 yX6_read yX6_read ∈ gw := inG 25 (by decide +kernel)
theorem co_X6_text : Cond.code yX6_text cX6_text 2 (some .int) ∈ gw := inG 1037 (by decide +kernel)
theorem im_X6_text : Cond.instanceMethod yX6_text ∈ gw := inG 1035 (by decide +kernel)
theorem se_X6_text : Cond.selects RX6 yX6_text yX6_text ∈ gw := inG 1036 (by decide +kernel)
theorem co_X6_force : Cond.code yX6_force cX6_force 3 (some .int) ∈ gw := inG 1041 (by decide +kernel)
theorem im_X6_force : Cond.instanceMethod yX6_force ∈ gw := inG 1039 (by decide +kernel)
theorem se_X6_force : Cond.selects RX6 yX6_force yX6_force ∈ gw := inG 1040 (by decide +kernel)
theorem co_X6_says : Cond.code yX6_says cX6_says 4 (some .int) ∈ gw := inG 954 (by decide +kernel)
theorem im_X6_says : Cond.instanceMethod yX6_says ∈ gw := inG 953 (by decide +kernel)
theorem se_X6_says : Cond.selects RX6 yX6_says yX6_says ∈ gw := inG 24 (by decide +kernel)
theorem co_X6_worth : Cond.code yX6_worth cX6_worth 3 (some .int) ∈ gw := inG 950 (by decide +kernel)
theorem im_X6_worth : Cond.instanceMethod yX6_worth ∈ gw := inG 949 (by decide +kernel)
theorem se_X6_worth : Cond.selects RX6 yX6_worth yX6_worth ∈ gw := inG 23 (by decide +kernel)
theorem co_X6_isHeard : Cond.code yX6_isHeard cX6_isHeard 3 (some .boolean) ∈ gw := inG 1053 (by decide +kernel)
theorem im_X6_isHeard : Cond.instanceMethod yX6_isHeard ∈ gw := inG 1052 (by decide +kernel)
theorem se_X6_isHeard : Cond.selects RX6 yX6_isHeard yX6_isHeard ∈ gw := inG 42 (by decide +kernel)
theorem co_X6_beepOf : Cond.code yX6_beepOf cX6_beepOf 5 (some .int) ∈ gw := inG 1049 (by decide +kernel)
theorem im_X6_beepOf : Cond.instanceMethod yX6_beepOf ∈ gw := inG 1048 (by decide +kernel)
theorem se_X6_beepOf : Cond.selects RX6 yX6_beepOf yX6_beepOf ∈ gw := inG 41 (by decide +kernel)
theorem co_X6_beep : Cond.code yX6_beep cX6_beep 2 (some .int) ∈ gw := inG 1045 (by decide +kernel)
theorem im_X6_beep : Cond.instanceMethod yX6_beep ∈ gw := inG 1043 (by decide +kernel)
theorem se_X6_beep : Cond.selects RX6 yX6_beep yX6_beep ∈ gw := inG 1044 (by decide +kernel)
theorem co_X6_digs : Cond.code yX6_digs cX6_digs 3 none ∈ gw := inG 1065 (by decide +kernel)
theorem im_X6_digs : Cond.instanceMethod yX6_digs ∈ gw := inG 1064 (by decide +kernel)
theorem se_X6_digs : Cond.selects RX6 yX6_digs yX6_digs ∈ gw := inG 44 (by decide +kernel)
theorem co_X6_walks : Cond.code yX6_walks cX6_walks 3 none ∈ gw := inG 1061 (by decide +kernel)
theorem im_X6_walks : Cond.instanceMethod yX6_walks ∈ gw := inG 1060 (by decide +kernel)
theorem se_X6_walks : Cond.selects RX6 yX6_walks yX6_walks ∈ gw := inG 43 (by decide +kernel)
theorem co_X6_walksAll : Cond.code yX6_walksAll cX6_walksAll 3 none ∈ gw := inG 1086 (by decide +kernel)
theorem im_X6_walksAll : Cond.instanceMethod yX6_walksAll ∈ gw := inG 1085 (by decide +kernel)
theorem se_X6_walksAll : Cond.selects RX6 yX6_walksAll yX6_walksAll ∈ gw := inG 47 (by decide +kernel)
theorem co_X6_walk : Cond.code yX6_walk cX6_walk 2 (some .int) ∈ gw := inG 1057 (by decide +kernel)
theorem im_X6_walk : Cond.instanceMethod yX6_walk ∈ gw := inG 1055 (by decide +kernel)
theorem se_X6_walk : Cond.selects RX6 yX6_walk yX6_walk ∈ gw := inG 1056 (by decide +kernel)
theorem co_X6_ploughs : Cond.code yX6_ploughs cX6_ploughs 4 none ∈ gw := inG 1073 (by decide +kernel)
theorem im_X6_ploughs : Cond.instanceMethod yX6_ploughs ∈ gw := inG 1072 (by decide +kernel)
theorem se_X6_ploughs : Cond.selects RX6 yX6_ploughs yX6_ploughs ∈ gw := inG 45 (by decide +kernel)
theorem co_X6_plough : Cond.code yX6_plough cX6_plough 1 (some .int) ∈ gw := inG 1069 (by decide +kernel)
theorem im_X6_plough : Cond.instanceMethod yX6_plough ∈ gw := inG 1067 (by decide +kernel)
theorem se_X6_plough : Cond.selects RX6 yX6_plough yX6_plough ∈ gw := inG 1068 (by decide +kernel)
theorem co_X6_laysAside : Cond.code yX6_laysAside cX6_laysAside 2 none ∈ gw := inG 1082 (by decide +kernel)
theorem im_X6_laysAside : Cond.instanceMethod yX6_laysAside ∈ gw := inG 1081 (by decide +kernel)
theorem se_X6_laysAside : Cond.selects RX6 yX6_laysAside yX6_laysAside ∈ gw := inG 46 (by decide +kernel)
theorem co_X6_laysBack : Cond.code yX6_laysBack cX6_laysBack 2 none ∈ gw := inG 1090 (by decide +kernel)
theorem im_X6_laysBack : Cond.instanceMethod yX6_laysBack ∈ gw := inG 1089 (by decide +kernel)
theorem se_X6_laysBack : Cond.selects RX6 yX6_laysBack yX6_laysBack ∈ gw := inG 48 (by decide +kernel)
theorem co_X6_found : Cond.code yX6_found cX6_found 4 (some .int) ∈ gw := inG 1077 (by decide +kernel)
theorem im_X6_found : Cond.instanceMethod yX6_found ∈ gw := inG 1075 (by decide +kernel)
theorem se_X6_found : Cond.selects RX6 yX6_found yX6_found ∈ gw := inG 1076 (by decide +kernel)
theorem co_X6_years : Cond.code yX6_years cX6_years 3 (some .int) ∈ gw := inG 1094 (by decide +kernel)
theorem im_X6_years : Cond.instanceMethod yX6_years ∈ gw := inG 1092 (by decide +kernel)
theorem se_X6_years : Cond.selects RX6 yX6_years yX6_years ∈ gw := inG 1093 (by decide +kernel)
theorem co_X6_soonest : Cond.code yX6_soonest cX6_soonest 6 (some .int) ∈ gw := inG 1098 (by decide +kernel)
theorem im_X6_soonest : Cond.instanceMethod yX6_soonest ∈ gw := inG 1096 (by decide +kernel)
theorem se_X6_soonest : Cond.selects RX6 yX6_soonest yX6_soonest ∈ gw := inG 1097 (by decide +kernel)
theorem co_X6_strips : Cond.code yX6_strips cX6_strips 7 (some .int) ∈ gw := inG 1102 (by decide +kernel)
theorem im_X6_strips : Cond.instanceMethod yX6_strips ∈ gw := inG 1100 (by decide +kernel)
theorem se_X6_strips : Cond.selects RX6 yX6_strips yX6_strips ∈ gw := inG 1101 (by decide +kernel)
theorem co_X6_better : Cond.code yX6_better cX6_better 3 (some .int) ∈ gw := inG 1110 (by decide +kernel)
theorem im_X6_better : Cond.instanceMethod yX6_better ∈ gw := inG 1108 (by decide +kernel)
theorem se_X6_better : Cond.selects RX6 yX6_better yX6_better ∈ gw := inG 1109 (by decide +kernel)
theorem co_X6_order : Cond.code yX6_order cX6_order 5 (some .int) ∈ gw := inG 1114 (by decide +kernel)
theorem im_X6_order : Cond.instanceMethod yX6_order ∈ gw := inG 1112 (by decide +kernel)
theorem se_X6_order : Cond.selects RX6 yX6_order yX6_order ∈ gw := inG 1113 (by decide +kernel)
theorem co_X6_off : Cond.code yX6_off cX6_off 2 (some .int) ∈ gw := inG 1121 (by decide +kernel)
theorem sm_X6_off : Cond.static yX6_off ∈ gw := inG 1120 (by decide +kernel)
theorem co_X6_pot : Cond.code yX6_pot cX6_pot 6 (some .int) ∈ gw := inG 1118 (by decide +kernel)
theorem im_X6_pot : Cond.instanceMethod yX6_pot ∈ gw := inG 1116 (by decide +kernel)
theorem se_X6_pot : Cond.selects RX6 yX6_pot yX6_pot ∈ gw := inG 1117 (by decide +kernel)
theorem co_X6_came : Cond.code yX6_came cX6_came 7 (some .int) ∈ gw := inG 1125 (by decide +kernel)
theorem im_X6_came : Cond.instanceMethod yX6_came ∈ gw := inG 1123 (by decide +kernel)
theorem se_X6_came : Cond.selects RX6 yX6_came yX6_came ∈ gw := inG 1124 (by decide +kernel)
theorem co_X6_dotsOf : Cond.code yX6_dotsOf cX6_dotsOf 4 (some .int) ∈ gw := inG 1133 (by decide +kernel)
theorem im_X6_dotsOf : Cond.instanceMethod yX6_dotsOf ∈ gw := inG 1132 (by decide +kernel)
theorem se_X6_dotsOf : Cond.selects RX6 yX6_dotsOf yX6_dotsOf ∈ gw := inG 49 (by decide +kernel)
theorem co_X6_dots : Cond.code yX6_dots cX6_dots 2 (some .int) ∈ gw := inG 1129 (by decide +kernel)
theorem im_X6_dots : Cond.instanceMethod yX6_dots ∈ gw := inG 1127 (by decide +kernel)
theorem se_X6_dots : Cond.selects RX6 yX6_dots yX6_dots ∈ gw := inG 1128 (by decide +kernel)
theorem co_X6_thick : Cond.code yX6_thick cX6_thick 4 (some .int) ∈ gw := inG 1137 (by decide +kernel)
theorem im_X6_thick : Cond.instanceMethod yX6_thick ∈ gw := inG 1135 (by decide +kernel)
theorem se_X6_thick : Cond.selects RX6 yX6_thick yX6_thick ∈ gw := inG 1136 (by decide +kernel)
theorem co_X6_judge : Cond.code yX6_judge cX6_judge 6 (some .int) ∈ gw := inG 1141 (by decide +kernel)
theorem im_X6_judge : Cond.instanceMethod yX6_judge ∈ gw := inG 1139 (by decide +kernel)
theorem se_X6_judge : Cond.selects RX6 yX6_judge yX6_judge ∈ gw := inG 1140 (by decide +kernel)
theorem co_X6_unseen : Cond.code yX6_unseen cX6_unseen 3 (some .int) ∈ gw := inG 1149 (by decide +kernel)
theorem im_X6_unseen : Cond.instanceMethod yX6_unseen ∈ gw := inG 1147 (by decide +kernel)
theorem se_X6_unseen : Cond.selects RX6 yX6_unseen yX6_unseen ∈ gw := inG 1148 (by decide +kernel)
theorem co_X6_left : Cond.code yX6_left cX6_left 6 (some .int) ∈ gw := inG 1153 (by decide +kernel)
theorem im_X6_left : Cond.instanceMethod yX6_left ∈ gw := inG 1151 (by decide +kernel)
theorem se_X6_left : Cond.selects RX6 yX6_left yX6_left ∈ gw := inG 1152 (by decide +kernel)
theorem co_X6_drawn : Cond.code yX6_drawn cX6_drawn 4 (some .int) ∈ gw := inG 1157 (by decide +kernel)
theorem im_X6_drawn : Cond.instanceMethod yX6_drawn ∈ gw := inG 1155 (by decide +kernel)
theorem se_X6_drawn : Cond.selects RX6 yX6_drawn yX6_drawn ∈ gw := inG 1156 (by decide +kernel)
theorem co_X6_odds : Cond.code yX6_odds cX6_odds 13 (some .long) ∈ gw := inG 1162 (by decide +kernel)
theorem im_X6_odds : Cond.instanceMethod yX6_odds ∈ gw := inG 1160 (by decide +kernel)
theorem se_X6_odds : Cond.selects RX6 yX6_odds yX6_odds ∈ gw := inG 1161 (by decide +kernel)
theorem co_X6_image : Cond.code yX6_image cX6_image 2 (some .int) ∈ gw := inG 1169 (by decide +kernel)
theorem im_X6_image : Cond.instanceMethod yX6_image ∈ gw := inG 1167 (by decide +kernel)
theorem se_X6_image : Cond.selects RX6 yX6_image yX6_image ∈ gw := inG 1168 (by decide +kernel)
theorem co_X6_back : Cond.code yX6_back cX6_back 2 (some .int) ∈ gw := inG 1173 (by decide +kernel)
theorem im_X6_back : Cond.instanceMethod yX6_back ∈ gw := inG 1171 (by decide +kernel)
theorem se_X6_back : Cond.selects RX6 yX6_back yX6_back ∈ gw := inG 1172 (by decide +kernel)
theorem co_X6_count : Cond.code yX6_count cX6_count 2 (some .int) ∈ gw := inG 1177 (by decide +kernel)
theorem im_X6_count : Cond.instanceMethod yX6_count ∈ gw := inG 1175 (by decide +kernel)
theorem se_X6_count : Cond.selects RX6 yX6_count yX6_count ∈ gw := inG 1176 (by decide +kernel)
theorem co_X6_isSheet : Cond.code yX6_isSheet cX6_isSheet 1 (some .boolean) ∈ gw := inG 1144 (by decide +kernel)
theorem sm_X6_isSheet : Cond.static yX6_isSheet ∈ gw := inG 1143 (by decide +kernel)
theorem co_X6_sheet : Cond.code yX6_sheet cX6_sheet 5 (some .int) ∈ gw := inG 1182 (by decide +kernel)
theorem im_X6_sheet : Cond.instanceMethod yX6_sheet ∈ gw := inG 1180 (by decide +kernel)
theorem se_X6_sheet : Cond.selects RX6 yX6_sheet yX6_sheet ∈ gw := inG 1181 (by decide +kernel)
theorem co_X6_cell : Cond.code yX6_cell cX6_cell 4 (some .int) ∈ gw := inG 1188 (by decide +kernel)
theorem im_X6_cell : Cond.instanceMethod yX6_cell ∈ gw := inG 1186 (by decide +kernel)
theorem se_X6_cell : Cond.selects RX6 yX6_cell yX6_cell ∈ gw := inG 1187 (by decide +kernel)
theorem co_X6_copy : Cond.code yX6_copy cX6_copy 9 (some .int) ∈ gw := inG 1192 (by decide +kernel)
theorem im_X6_copy : Cond.instanceMethod yX6_copy ∈ gw := inG 1190 (by decide +kernel)
theorem se_X6_copy : Cond.selects RX6 yX6_copy yX6_copy ∈ gw := inG 1191 (by decide +kernel)
theorem co_X6_finds : Cond.code yX6_finds cX6_finds 8 (some .int) ∈ gw := inG 1196 (by decide +kernel)
theorem im_X6_finds : Cond.instanceMethod yX6_finds ∈ gw := inG 1194 (by decide +kernel)
theorem se_X6_finds : Cond.selects RX6 yX6_finds yX6_finds ∈ gw := inG 1195 (by decide +kernel)
theorem co_X6_over : Cond.code yX6_over cX6_over 1 (some .int) ∈ gw := inG 1204 (by decide +kernel)
theorem sm_X6_over : Cond.static yX6_over ∈ gw := inG 1203 (by decide +kernel)
theorem co_X6_taken : Cond.code yX6_taken cX6_taken 4 (some .int) ∈ gw := inG 1201 (by decide +kernel)
theorem im_X6_taken : Cond.instanceMethod yX6_taken ∈ gw := inG 1199 (by decide +kernel)
theorem se_X6_taken : Cond.selects RX6 yX6_taken yX6_taken ∈ gw := inG 1200 (by decide +kernel)
theorem co_J6_bitCount_0f7a4 : Cond.code yJ6_bitCount_0f7a4 cJ6_bitCount_0f7a4 1 (some .int) ∈ gw := inG 561 (by decide +kernel)
theorem sm_J6_bitCount_0f7a4 : Cond.static yJ6_bitCount_0f7a4 ∈ gw := inG 560 (by decide +kernel)
theorem co_J9_abs_0f7a4 : Cond.code yJ9_abs_0f7a4 cJ9_abs_0f7a4 1 (some .int) ∈ gw := inG 584 (by decide +kernel)
theorem sm_J9_abs_0f7a4 : Cond.static yJ9_abs_0f7a4 ∈ gw := inG 583 (by decide +kernel)
theorem co_J9_max_7cf53 : Cond.code yJ9_max_7cf53 cJ9_max_7cf53 2 (some .int) ∈ gw := inG 310 (by decide +kernel)
theorem sm_J9_max_7cf53 : Cond.static yJ9_max_7cf53 ∈ gw := inG 309 (by decide +kernel)
theorem co_J9_min_7cf53 : Cond.code yJ9_min_7cf53 cJ9_min_7cf53 2 (some .int) ∈ gw := inG 529 (by decide +kernel)
theorem sm_J9_min_7cf53 : Cond.static yJ9_min_7cf53 ∈ gw := inG 528 (by decide +kernel)
theorem co_J0_length_8abf5 : Cond.code yJ0_length_8abf5 cJ0_length_8abf5 1 (some .int) ∈ gw := inG 386 (by decide +kernel)
theorem im_J0_length_8abf5 : Cond.instanceMethod yJ0_length_8abf5 ∈ gw := inG 384 (by decide +kernel)
theorem se_J0_length_8abf5 : Cond.selects RJ0 yJ0_length_8abf5 yJ0_length_8abf5 ∈ gw := inG 385 (by decide +kernel)
theorem co_J0_charAt_5068e : Cond.code yJ0_charAt_5068e cJ0_charAt_5068e 2 (some .char) ∈ gw := inG 396 (by decide +kernel)
theorem im_J0_charAt_5068e : Cond.instanceMethod yJ0_charAt_5068e ∈ gw := inG 394 (by decide +kernel)
theorem se_J0_charAt_5068e : Cond.selects RJ0 yJ0_charAt_5068e yJ0_charAt_5068e ∈ gw := inG 395 (by decide +kernel)
theorem co_J0_coder_7d493 : Cond.code yJ0_coder_7d493 cJ0_coder_7d493 1 (some .byte) ∈ gw := inG 390 (by decide +kernel)
theorem im_J0_coder_7d493 : Cond.instanceMethod yJ0_coder_7d493 ∈ gw := inG 388 (by decide +kernel)
theorem se_J0_coder_7d493 : Cond.selects RJ0 yJ0_coder_7d493 yJ0_coder_7d493 ∈ gw := inG 389 (by decide +kernel)
theorem co_J0_isLatin1_aae02 : Cond.code yJ0_isLatin1_aae02 cJ0_isLatin1_aae02 1 (some .boolean) ∈ gw := inG 400 (by decide +kernel)
theorem im_J0_isLatin1_aae02 : Cond.instanceMethod yJ0_isLatin1_aae02 ∈ gw := inG 398 (by decide +kernel)
theorem se_J0_isLatin1_aae02 : Cond.selects RJ0 yJ0_isLatin1_aae02 yJ0_isLatin1_aae02 ∈ gw := inG 399 (by decide +kernel)
theorem co_J0_checkIndex_df160 : Cond.code yJ0_checkIndex_df160 cJ0_checkIndex_df160 2 none ∈ gw := inG 406 (by decide +kernel)
theorem sm_J0_checkIndex_df160 : Cond.static yJ0_checkIndex_df160 ∈ gw := inG 405 (by decide +kernel)
theorem co_J1_charAt_3b067 : Cond.code yJ1_charAt_3b067 cJ1_charAt_3b067 2 (some .char) ∈ gw := inG 403 (by decide +kernel)
theorem sm_J1_charAt_3b067 : Cond.static yJ1_charAt_3b067 ∈ gw := inG 402 (by decide +kernel)
theorem co_J2_getChar_3b067 : Cond.code yJ2_getChar_3b067 cJ2_getChar_3b067 2 (some .char) ∈ gw := inG 424 (by decide +kernel)
theorem sm_J2_getChar_3b067 : Cond.static yJ2_getChar_3b067 ∈ gw := inG 423 (by decide +kernel)
theorem co_J2_length_9d52b : Cond.code yJ2_length_9d52b cJ2_length_9d52b 1 (some .int) ∈ gw := inG 420 (by decide +kernel)
theorem sm_J2_length_9d52b : Cond.static yJ2_length_9d52b ∈ gw := inG 419 (by decide +kernel)
theorem co_J2_charAt_3b067 : Cond.code yJ2_charAt_3b067 cJ2_charAt_3b067 2 (some .char) ∈ gw := inG 414 (by decide +kernel)
theorem sm_J2_charAt_3b067 : Cond.static yJ2_charAt_3b067 ∈ gw := inG 413 (by decide +kernel)
theorem co_J2_checkIndex_2214a : Cond.code yJ2_checkIndex_2214a cJ2_checkIndex_2214a 2 none ∈ gw := inG 417 (by decide +kernel)
theorem sm_J2_checkIndex_2214a : Cond.static yJ2_checkIndex_2214a ∈ gw := inG 416 (by decide +kernel)
theorem co_J3_checkIndex_8e157 : Cond.code yJ3_checkIndex_8e157 cJ3_checkIndex_8e157 3 (some .int) ∈ gw := inG 411 (by decide +kernel)
theorem sm_J3_checkIndex_8e157 : Cond.static yJ3_checkIndex_8e157 ∈ gw := inG 410 (by decide +kernel)
theorem in_L : Cond.initialized RL ∈ gw := inG 50 (by decide +kernel)
theorem in_X5 : Cond.initialized RX5 ∈ gw := inG 51 (by decide +kernel)
theorem in_X0 : Cond.initialized RX0 ∈ gw := inG 52 (by decide +kernel)
theorem in_X3 : Cond.initialized RX3 ∈ gw := inG 53 (by decide +kernel)
theorem in_J10 : Cond.initialized RJ10 ∈ gw := inG 54 (by decide +kernel)
theorem in_X1 : Cond.initialized RX1 ∈ gw := inG 55 (by decide +kernel)
theorem in_X4 : Cond.initialized RX4 ∈ gw := inG 56 (by decide +kernel)
theorem in_X2 : Cond.initialized RX2 ∈ gw := inG 57 (by decide +kernel)
theorem in_X6 : Cond.initialized RX6 ∈ gw := inG 58 (by decide +kernel)
theorem in_J9 : Cond.initialized RJ9 ∈ gw := inG 59 (by decide +kernel)
theorem in_J0 : Cond.initialized RJ0 ∈ gw := inG 60 (by decide +kernel)
theorem in_J1 : Cond.initialized RJ1 ∈ gw := inG 61 (by decide +kernel)
theorem in_J3 : Cond.initialized RJ3 ∈ gw := inG 62 (by decide +kernel)
theorem in_J2 : Cond.initialized RJ2 ∈ gw := inG 63 (by decide +kernel)
theorem in_J6 : Cond.initialized RJ6 ∈ gw := inG 64 (by decide +kernel)
theorem mt_max : Cond.static Lib.Math.max.name ∈ gw ∧ Cond.initialized "java/lang/Math" ∈ gw ∧ Cond.code Lib.Math.max.name Lib.Math.max.code 2 (some .int) ∈ gw := ⟨inG 309 (by decide +kernel), inG 59 (by decide +kernel), inG 310 (by decide +kernel)⟩
theorem mt_min : Cond.static Lib.Math.min.name ∈ gw ∧ Cond.initialized "java/lang/Math" ∈ gw ∧ Cond.code Lib.Math.min.name Lib.Math.min.code 2 (some .int) ∈ gw := ⟨inG 528 (by decide +kernel), inG 59 (by decide +kernel), inG 529 (by decide +kernel)⟩
theorem mt_abs : Cond.static Lib.Math.abs.name ∈ gw ∧ Cond.initialized "java/lang/Math" ∈ gw ∧ Cond.code Lib.Math.abs.name Lib.Math.abs.code 1 (some .int) ∈ gw := ⟨inG 583 (by decide +kernel), inG 59 (by decide +kernel), inG 584 (by decide +kernel)⟩
theorem ac_ : Cond.native arraycopyName ∈ gw ∧ Cond.static arraycopyName ∈ gw ∧ Cond.initialized "java/lang/System" ∈ gw := ⟨inG 145 (by decide +kernel), inG 144 (by decide +kernel), inG 54 (by decide +kernel)⟩
theorem ml_X3_34 : Cond.methodLink RX3 34 arraycopyName ∈ gw ∧ Cond.native arraycopyName ∈ gw ∧ Cond.static arraycopyName ∈ gw ∧ Cond.initialized "java/lang/System" ∈ gw := ⟨inG 143 (by decide +kernel), ac_⟩
theorem cs_L_13 : CSV RL 13 RX5 yX5_find cX5_find 6 (some .int) 3 := ⟨gw_cons (inG 255 (by decide +kernel)) (gw_cons im_X5_find (gw_cons se_X5_find (gw_cons in_X5 (gw_cons co_X5_find gw_self)))), by decide +kernel⟩
theorem cs_X5_59 : CSS RX5 59 yX5_isWithin cX5_isWithin 3 (some .boolean) 3 := ⟨gw_cons (inG 259 (by decide +kernel)) (gw_cons sm_X5_isWithin (gw_cons in_X5 (gw_cons co_X5_isWithin gw_self))), by decide +kernel⟩
theorem cs_X5_63 : CSS RX5 63 yX5_isCell cX5_isCell 1 (some .boolean) 1 := ⟨gw_cons (inG 262 (by decide +kernel)) (gw_cons sm_X5_isCell (gw_cons in_X5 (gw_cons co_X5_isCell gw_self))), by decide +kernel⟩
theorem cs_X5_67 : CSV RX5 67 RX0 yX0_lay cX0_lay 5 (some .int) 4 := ⟨gw_cons (inG 265 (by decide +kernel)) (gw_cons im_X0_lay (gw_cons se_X0_lay (gw_cons in_X0 (gw_cons co_X0_lay gw_self)))), by decide +kernel⟩
theorem cs_L_18 : CSV RL 18 RX5 yX5_set cX5_set 4 (some .int) 3 := ⟨gw_cons (inG 269 (by decide +kernel)) (gw_cons im_X5_set (gw_cons se_X5_set (gw_cons in_X5 (gw_cons co_X5_set gw_self)))), by decide +kernel⟩
theorem cs_X5_71 : CSV RX5 71 RX5 yX5_changeWet cX5_changeWet 3 (some .int) 1 := ⟨gw_cons (inG 273 (by decide +kernel)) (gw_cons im_X5_changeWet (gw_cons se_X5_changeWet (gw_cons in_X5 (gw_cons co_X5_changeWet gw_self)))), by decide +kernel⟩
theorem cs_X5_75 : CSV RX5 75 RX5 yX5_changePlate cX5_changePlate 3 (some .int) 1 := ⟨gw_cons (inG 277 (by decide +kernel)) (gw_cons im_X5_changePlate (gw_cons se_X5_changePlate (gw_cons in_X5 (gw_cons co_X5_changePlate gw_self)))), by decide +kernel⟩
theorem cs_X5_82 : CSV RX5 82 RX5 yX5_changeFind cX5_changeFind 6 (some .int) 4 := ⟨gw_cons (inG 281 (by decide +kernel)) (gw_cons im_X5_changeFind (gw_cons se_X5_changeFind (gw_cons in_X5 (gw_cons co_X5_changeFind gw_self)))), by decide +kernel⟩
theorem cs_X5_99 : CSV RX5 99 RX0 yX0_has cX0_has 2 (some .boolean) 1 := ⟨gw_cons (inG 285 (by decide +kernel)) (gw_cons im_X0_has (gw_cons se_X0_has (gw_cons in_X0 (gw_cons co_X0_has gw_self)))), by decide +kernel⟩
theorem cs_X5_102 : CSV RX5 102 RX0 yX0_lies cX0_lies 2 (some .boolean) 1 := ⟨gw_cons (inG 289 (by decide +kernel)) (gw_cons im_X0_lies (gw_cons se_X0_lies (gw_cons in_X0 (gw_cons co_X0_lies gw_self)))), by decide +kernel⟩
theorem cs_X0_46 : CSV RX0 46 RX0 yX0_has cX0_has 2 (some .boolean) 1 := ⟨gw_cons (inG 293 (by decide +kernel)) (gw_cons im_X0_has (gw_cons se_X0_has (gw_cons in_X0 (gw_cons co_X0_has gw_self)))), by decide +kernel⟩
theorem cs_L_22 : CSV RL 22 RX5 yX5_told cX5_told 3 (some .int) 2 := ⟨gw_cons (inG 294 (by decide +kernel)) (gw_cons im_X5_told (gw_cons se_X5_told (gw_cons in_X5 (gw_cons co_X5_told gw_self)))), by decide +kernel⟩
theorem cs_X5_108 : CSS RX5 108 yX5_toneOf cX5_toneOf 4 (some .int) 2 := ⟨gw_cons (inG 298 (by decide +kernel)) (gw_cons sm_X5_toneOf (gw_cons in_X5 (gw_cons co_X5_toneOf gw_self))), by decide +kernel⟩
theorem cs_X5_112 : CSV RX5 112 RX0 yX0_loud cX0_loud 2 (some .int) 1 := ⟨gw_cons (inG 301 (by decide +kernel)) (gw_cons im_X0_loud (gw_cons se_X0_loud (gw_cons in_X0 (gw_cons co_X0_loud gw_self)))), by decide +kernel⟩
theorem cs_X0_66 : CSN RX0 66 yX5_loudOf cX5_loudOf 7 (some .int) 5 := ⟨⟨by decide +kernel, sm_X5_loudOf, in_X5, co_X5_loudOf⟩, by decide +kernel⟩
theorem ml_X0_70 : Cond.methodLink RX0 70 Lib.Math.max.name ∈ gw ∧ Cond.static Lib.Math.max.name ∈ gw ∧ Cond.initialized "java/lang/Math" ∈ gw ∧ Cond.code Lib.Math.max.name Lib.Math.max.code 2 (some .int) ∈ gw := ⟨inG 308 (by decide +kernel), mt_max⟩
theorem cs_X5_115 : CSV RX5 115 RX0 yX0_heard cX0_heard 4 (some .int) 1 := ⟨gw_cons (inG 311 (by decide +kernel)) (gw_cons im_X0_heard (gw_cons se_X0_heard (gw_cons in_X0 (gw_cons co_X0_heard gw_self)))), by decide +kernel⟩
theorem cs_X0_76 : CSV RX0 76 RX0 yX0_lies cX0_lies 2 (some .boolean) 1 := ⟨gw_cons (inG 315 (by decide +kernel)) (gw_cons im_X0_lies (gw_cons se_X0_lies (gw_cons in_X0 (gw_cons co_X0_lies gw_self)))), by decide +kernel⟩
theorem cs_X5_118 : CSS RX5 118 yX5_dragsOf cX5_dragsOf 3 (some .int) 3 := ⟨gw_cons (inG 316 (by decide +kernel)) (gw_cons sm_X5_dragsOf (gw_cons in_X5 (gw_cons co_X5_dragsOf gw_self))), by decide +kernel⟩
theorem cs_X5_122 : CSV RX5 122 RX3 yX3_reckon cX3_reckon 8 (some .int) 4 := ⟨gw_cons (inG 319 (by decide +kernel)) (gw_cons im_X3_reckon (gw_cons se_X3_reckon (gw_cons in_X3 (gw_cons co_X3_reckon gw_self)))), by decide +kernel⟩
theorem cs_X3_48 : CSV RX3 48 RX3 yX3_has cX3_has 2 (some .boolean) 1 := ⟨gw_cons (inG 323 (by decide +kernel)) (gw_cons im_X3_has (gw_cons se_X3_has (gw_cons in_X3 (gw_cons co_X3_has gw_self)))), by decide +kernel⟩
theorem cs_X3_52 : CSV RX3 52 RX0 yX0_has cX0_has 2 (some .boolean) 1 := ⟨gw_cons (inG 327 (by decide +kernel)) (gw_cons im_X0_has (gw_cons se_X0_has (gw_cons in_X0 (gw_cons co_X0_has gw_self)))), by decide +kernel⟩
theorem cs_X3_53 : CSN RX3 53 yX5_isWithin cX5_isWithin 3 (some .boolean) 3 := ⟨⟨by decide +kernel, sm_X5_isWithin, in_X5, co_X5_isWithin⟩, by decide +kernel⟩
theorem cs_X3_63 : CSN RX3 63 yX5_toneOf cX5_toneOf 4 (some .int) 2 := ⟨⟨by decide +kernel, sm_X5_toneOf, in_X5, co_X5_toneOf⟩, by decide +kernel⟩
theorem cs_X3_76 : CSV RX3 76 RX3 yX3_run cX3_run 6 (some .int) 2 := ⟨gw_cons (inG 330 (by decide +kernel)) (gw_cons im_X3_run (gw_cons se_X3_run (gw_cons in_X3 (gw_cons co_X3_run gw_self)))), by decide +kernel⟩
theorem cs_X3_82 : CSS RX3 82 yX3_turned cX3_turned 2 (some .int) 2 := ⟨gw_cons (inG 334 (by decide +kernel)) (gw_cons sm_X3_turned (gw_cons in_X3 (gw_cons co_X3_turned gw_self))), by decide +kernel⟩
theorem cs_X3_85 : CSS RX3 85 yX3_joined cX3_joined 3 (some .int) 3 := ⟨gw_cons (inG 337 (by decide +kernel)) (gw_cons sm_X3_joined (gw_cons in_X3 (gw_cons co_X3_joined gw_self))), by decide +kernel⟩
theorem cs_X3_79 : CSN RX3 79 yX5_held cX5_held 2 (some .int) 2 := ⟨⟨by decide +kernel, sm_X5_held, in_X5, co_X5_held⟩, by decide +kernel⟩
theorem cs_L_27 : CSV RL 27 RX5 yX5_feed cX5_feed 2 (some .int) 1 := ⟨gw_cons (inG 343 (by decide +kernel)) (gw_cons im_X5_feed (gw_cons se_X5_feed (gw_cons in_X5 (gw_cons co_X5_feed gw_self)))), by decide +kernel⟩
theorem cs_X5_126 : CSV RX5 126 RX1 yX1_append cX1_append 2 (some .int) 1 := ⟨gw_cons (inG 347 (by decide +kernel)) (gw_cons im_X1_append (gw_cons se_X1_append (gw_cons in_X1 (gw_cons co_X1_append gw_self)))), by decide +kernel⟩
theorem cs_L_32 : CSV RL 32 RX5 yX5_text cX5_text 2 (some .int) 0 := ⟨gw_cons (inG 351 (by decide +kernel)) (gw_cons im_X5_text (gw_cons se_X5_text (gw_cons in_X5 (gw_cons co_X5_text gw_self)))), by decide +kernel⟩
theorem cs_X5_129 : CSV RX5 129 RX3 yX3_isFull cX3_isFull 1 (some .boolean) 0 := ⟨gw_cons (inG 355 (by decide +kernel)) (gw_cons im_X3_isFull (gw_cons se_X3_isFull (gw_cons in_X3 (gw_cons co_X3_isFull gw_self)))), by decide +kernel⟩
theorem cs_X5_133 : CSV RX5 133 RX1 yX1_readTape cX1_readTape 2 (some .int) 0 := ⟨gw_cons (inG 359 (by decide +kernel)) (gw_cons im_X1_readTape (gw_cons se_X1_readTape (gw_cons in_X1 (gw_cons co_X1_readTape gw_self)))), by decide +kernel⟩
theorem cs_X1_35 : CSV RX1 35 RX3 yX3_begin cX3_begin 1 none 0 := ⟨gw_cons (inG 363 (by decide +kernel)) (gw_cons im_X3_begin (gw_cons se_X3_begin (gw_cons in_X3 (gw_cons co_X3_begin gw_self)))), by decide +kernel⟩
theorem cs_X1_40 : CSV RX1 40 RX1 yX1_advance cX1_advance 1 none 0 := ⟨gw_cons (inG 367 (by decide +kernel)) (gw_cons im_X1_advance (gw_cons se_X1_advance (gw_cons in_X1 (gw_cons co_X1_advance gw_self)))), by decide +kernel⟩
theorem cs_X1_71 : CSS RX1 71 yX1_isLetter cX1_isLetter 1 (some .boolean) 1 := ⟨gw_cons (inG 371 (by decide +kernel)) (gw_cons sm_X1_isLetter (gw_cons in_X1 (gw_cons co_X1_isLetter gw_self))), by decide +kernel⟩
theorem cs_X1_74 : CSV RX1 74 RX1 yX1_takeWord cX1_takeWord 1 (some .int) 0 := ⟨gw_cons (inG 374 (by decide +kernel)) (gw_cons im_X1_takeWord (gw_cons se_X1_takeWord (gw_cons in_X1 (gw_cons co_X1_takeWord gw_self)))), by decide +kernel⟩
theorem cs_X1_90 : CSV RX1 90 RX1 yX1_spells cX1_spells 3 (some .boolean) 1 := ⟨gw_cons (inG 379 (by decide +kernel)) (gw_cons im_X1_spells (gw_cons se_X1_spells (gw_cons in_X1 (gw_cons co_X1_spells gw_self)))), by decide +kernel⟩
theorem cs_X1_116 : CSV RX1 116 RJ0 yJ0_length_8abf5 cJ0_length_8abf5 1 (some .int) 0 := ⟨gw_cons (inG 383 (by decide +kernel)) (gw_cons im_J0_length_8abf5 (gw_cons se_J0_length_8abf5 (gw_cons in_J0 (gw_cons co_J0_length_8abf5 gw_self)))), by decide +kernel⟩
theorem cs_J0_335 : CSV RJ0 335 RJ0 yJ0_coder_7d493 cJ0_coder_7d493 1 (some .byte) 0 := ⟨gw_cons (inG 387 (by decide +kernel)) (gw_cons im_J0_coder_7d493 (gw_cons se_J0_coder_7d493 (gw_cons in_J0 (gw_cons co_J0_coder_7d493 gw_self)))), by decide +kernel⟩
theorem cs_X1_121 : CSV RX1 121 RJ0 yJ0_charAt_5068e cJ0_charAt_5068e 2 (some .char) 1 := ⟨gw_cons (inG 393 (by decide +kernel)) (gw_cons im_J0_charAt_5068e (gw_cons se_J0_charAt_5068e (gw_cons in_J0 (gw_cons co_J0_charAt_5068e gw_self)))), by decide +kernel⟩
theorem cs_J0_492 : CSV RJ0 492 RJ0 yJ0_isLatin1_aae02 cJ0_isLatin1_aae02 1 (some .boolean) 0 := ⟨gw_cons (inG 397 (by decide +kernel)) (gw_cons im_J0_isLatin1_aae02 (gw_cons se_J0_isLatin1_aae02 (gw_cons in_J0 (gw_cons co_J0_isLatin1_aae02 gw_self)))), by decide +kernel⟩
theorem cs_J0_495 : CSS RJ0 495 yJ1_charAt_3b067 cJ1_charAt_3b067 2 (some .char) 2 := ⟨gw_cons (inG 401 (by decide +kernel)) (gw_cons sm_J1_charAt_3b067 (gw_cons in_J1 (gw_cons co_J1_charAt_3b067 gw_self))), by decide +kernel⟩
theorem cs_J1_9 : CSS RJ1 9 yJ0_checkIndex_df160 cJ0_checkIndex_df160 2 none 2 := ⟨gw_cons (inG 404 (by decide +kernel)) (gw_cons sm_J0_checkIndex_df160 (gw_cons in_J0 (gw_cons co_J0_checkIndex_df160 gw_self))), by decide +kernel⟩
theorem cs_J0_1059 : CSS RJ0 1059 yJ3_checkIndex_8e157 cJ3_checkIndex_8e157 3 (some .int) 3 := ⟨gw_cons (inG 409 (by decide +kernel)) (gw_cons sm_J3_checkIndex_8e157 (gw_cons in_J3 (gw_cons co_J3_checkIndex_8e157 gw_self))), by decide +kernel⟩
theorem cs_J0_498 : CSS RJ0 498 yJ2_charAt_3b067 cJ2_charAt_3b067 2 (some .char) 2 := ⟨gw_cons (inG 412 (by decide +kernel)) (gw_cons sm_J2_charAt_3b067 (gw_cons in_J2 (gw_cons co_J2_charAt_3b067 gw_self))), by decide +kernel⟩
theorem cs_J2_67 : CSS RJ2 67 yJ2_checkIndex_2214a cJ2_checkIndex_2214a 2 none 2 := ⟨gw_cons (inG 415 (by decide +kernel)) (gw_cons sm_J2_checkIndex_2214a (gw_cons in_J2 (gw_cons co_J2_checkIndex_2214a gw_self))), by decide +kernel⟩
theorem cs_J2_48 : CSS RJ2 48 yJ2_length_9d52b cJ2_length_9d52b 1 (some .int) 1 := ⟨gw_cons (inG 418 (by decide +kernel)) (gw_cons sm_J2_length_9d52b (gw_cons in_J2 (gw_cons co_J2_length_9d52b gw_self))), by decide +kernel⟩
theorem cs_J2_414 : CSS RJ2 414 yJ0_checkIndex_df160 cJ0_checkIndex_df160 2 none 2 := ⟨gw_cons (inG 421 (by decide +kernel)) (gw_cons sm_J0_checkIndex_df160 (gw_cons in_J0 (gw_cons co_J0_checkIndex_df160 gw_self))), by decide +kernel⟩
theorem cs_J2_71 : CSS RJ2 71 yJ2_getChar_3b067 cJ2_getChar_3b067 2 (some .char) 2 := ⟨gw_cons (inG 422 (by decide +kernel)) (gw_cons sm_J2_getChar_3b067 (gw_cons in_J2 (gw_cons co_J2_getChar_3b067 gw_self))), by decide +kernel⟩
theorem cs_X1_78 : CSS RX1 78 yX1_isDigit cX1_isDigit 1 (some .boolean) 1 := ⟨gw_cons (inG 442 (by decide +kernel)) (gw_cons sm_X1_isDigit (gw_cons in_X1 (gw_cons co_X1_isDigit gw_self))), by decide +kernel⟩
theorem cs_X1_81 : CSV RX1 81 RX1 yX1_takeNumber cX1_takeNumber 2 (some .int) 0 := ⟨gw_cons (inG 445 (by decide +kernel)) (gw_cons im_X1_takeNumber (gw_cons se_X1_takeNumber (gw_cons in_X1 (gw_cons co_X1_takeNumber gw_self)))), by decide +kernel⟩
theorem cs_X1_84 : CSS RX1 84 yX1_signOf cX1_signOf 1 (some .int) 1 := ⟨gw_cons (inG 449 (by decide +kernel)) (gw_cons sm_X1_signOf (gw_cons in_X1 (gw_cons co_X1_signOf gw_self))), by decide +kernel⟩
theorem cs_X1_43 : CSV RX1 43 RX1 yX1_expect cX1_expect 2 none 1 := ⟨gw_cons (inG 452 (by decide +kernel)) (gw_cons im_X1_expect (gw_cons se_X1_expect (gw_cons in_X1 (gw_cons co_X1_expect gw_self)))), by decide +kernel⟩
theorem cs_X1_54 : CSV RX1 54 RX1 yX1_refuse cX1_refuse 1 none 0 := ⟨gw_cons (inG 456 (by decide +kernel)) (gw_cons im_X1_refuse (gw_cons se_X1_refuse (gw_cons in_X1 (gw_cons co_X1_refuse gw_self)))), by decide +kernel⟩
theorem cs_X1_47 : CSV RX1 47 RX1 yX1_readRank cX1_readRank 6 none 2 := ⟨gw_cons (inG 460 (by decide +kernel)) (gw_cons im_X1_readRank (gw_cons se_X1_readRank (gw_cons in_X1 (gw_cons co_X1_readRank gw_self)))), by decide +kernel⟩
theorem cs_X1_57 : CSV RX1 57 RX1 yX1_readOne cX1_readOne 2 none 1 := ⟨gw_cons (inG 464 (by decide +kernel)) (gw_cons im_X1_readOne (gw_cons se_X1_readOne (gw_cons in_X1 (gw_cons co_X1_readOne gw_self)))), by decide +kernel⟩
theorem cs_X1_64 : CSV RX1 64 RX3 yX3_write cX3_write 2 none 1 := ⟨gw_cons (inG 468 (by decide +kernel)) (gw_cons im_X3_write (gw_cons se_X3_write (gw_cons in_X3 (gw_cons co_X3_write gw_self)))), by decide +kernel⟩
theorem cs_X1_60 : CSV RX1 60 RX1 yX1_mayOpen cX1_mayOpen 2 (some .boolean) 1 := ⟨gw_cons (inG 472 (by decide +kernel)) (gw_cons im_X1_mayOpen (gw_cons se_X1_mayOpen (gw_cons in_X1 (gw_cons co_X1_mayOpen gw_self)))), by decide +kernel⟩
theorem cs_X1_67 : CSS RX1 67 yX1_isJoint cX1_isJoint 2 (some .boolean) 2 := ⟨gw_cons (inG 476 (by decide +kernel)) (gw_cons sm_X1_isJoint (gw_cons in_X1 (gw_cons co_X1_isJoint gw_self))), by decide +kernel⟩
theorem cs_X1_51 : CSV RX1 51 RX3 yX3_endPart cX3_endPart 3 none 1 := ⟨gw_cons (inG 479 (by decide +kernel)) (gw_cons im_X3_endPart (gw_cons se_X3_endPart (gw_cons in_X3 (gw_cons co_X3_endPart gw_self)))), by decide +kernel⟩
theorem cs_X5_137 : CSV RX5 137 RX3 yX3_keep cX3_keep 1 (some .int) 0 := ⟨gw_cons (inG 483 (by decide +kernel)) (gw_cons im_X3_keep (gw_cons se_X3_keep (gw_cons in_X3 (gw_cons co_X3_keep gw_self)))), by decide +kernel⟩
theorem cs_L_37 : CSV RL 37 RX5 yX5_force cX5_force 3 (some .int) 1 := ⟨gw_cons (inG 488 (by decide +kernel)) (gw_cons im_X5_force (gw_cons se_X5_force (gw_cons in_X5 (gw_cons co_X5_force gw_self)))), by decide +kernel⟩
theorem cs_X5_140 : CSV RX5 140 RX3 yX3_has cX3_has 2 (some .boolean) 1 := ⟨gw_cons (inG 492 (by decide +kernel)) (gw_cons im_X3_has (gw_cons se_X3_has (gw_cons in_X3 (gw_cons co_X3_has gw_self)))), by decide +kernel⟩
theorem cs_L_41 : CSV RL 41 RX5 yX5_beep cX5_beep 2 (some .int) 1 := ⟨gw_cons (inG 493 (by decide +kernel)) (gw_cons im_X5_beep (gw_cons se_X5_beep (gw_cons in_X5 (gw_cons co_X5_beep gw_self)))), by decide +kernel⟩
theorem cs_X5_144 : CSV RX5 144 RX4 yX4_beepIn cX4_beepIn 7 (some .int) 2 := ⟨gw_cons (inG 497 (by decide +kernel)) (gw_cons im_X4_beepIn (gw_cons se_X4_beepIn (gw_cons in_X4 (gw_cons co_X4_beepIn gw_self)))), by decide +kernel⟩
theorem cs_X4_26 : CSV RX4 26 RX0 yX0_lies cX0_lies 2 (some .boolean) 1 := ⟨gw_cons (inG 501 (by decide +kernel)) (gw_cons im_X0_lies (gw_cons se_X0_lies (gw_cons in_X0 (gw_cons co_X0_lies gw_self)))), by decide +kernel⟩
theorem cs_X4_36 : CSV RX4 36 RX0 yX0_heard cX0_heard 4 (some .int) 1 := ⟨gw_cons (inG 502 (by decide +kernel)) (gw_cons im_X0_heard (gw_cons se_X0_heard (gw_cons in_X0 (gw_cons co_X0_heard gw_self)))), by decide +kernel⟩
theorem cs_X4_40 : CSV RX4 40 RX3 yX3_reckon cX3_reckon 8 (some .int) 4 := ⟨gw_cons (inG 503 (by decide +kernel)) (gw_cons im_X3_reckon (gw_cons se_X3_reckon (gw_cons in_X3 (gw_cons co_X3_reckon gw_self)))), by decide +kernel⟩
theorem cs_L_45 : CSV RL 45 RX5 yX5_walk cX5_walk 2 (some .int) 1 := ⟨gw_cons (inG 504 (by decide +kernel)) (gw_cons im_X5_walk (gw_cons se_X5_walk (gw_cons in_X5 (gw_cons co_X5_walk gw_self)))), by decide +kernel⟩
theorem cs_X5_151 : CSV RX5 151 RX4 yX4_walkStrips cX4_walkStrips 7 (some .int) 2 := ⟨gw_cons (inG 508 (by decide +kernel)) (gw_cons im_X4_walkStrips (gw_cons se_X4_walkStrips (gw_cons in_X4 (gw_cons co_X4_walkStrips gw_self)))), by decide +kernel⟩
theorem cs_X4_19 : CSV RX4 19 RX4 yX4_digIn cX4_digIn 6 (some .int) 2 := ⟨gw_cons (inG 512 (by decide +kernel)) (gw_cons im_X4_digIn (gw_cons se_X4_digIn (gw_cons in_X4 (gw_cons co_X4_digIn gw_self)))), by decide +kernel⟩
theorem cs_X4_23 : CSV RX4 23 RX4 yX4_beepIn cX4_beepIn 7 (some .int) 2 := ⟨gw_cons (inG 516 (by decide +kernel)) (gw_cons im_X4_beepIn (gw_cons se_X4_beepIn (gw_cons in_X4 (gw_cons co_X4_beepIn gw_self)))), by decide +kernel⟩
theorem cs_L_49 : CSV RL 49 RX5 yX5_plough cX5_plough 1 (some .int) 0 := ⟨gw_cons (inG 517 (by decide +kernel)) (gw_cons im_X5_plough (gw_cons se_X5_plough (gw_cons in_X5 (gw_cons co_X5_plough gw_self)))), by decide +kernel⟩
theorem cs_X5_154 : CSV RX5 154 RX0 yX0_turnOver cX0_turnOver 5 none 0 := ⟨gw_cons (inG 521 (by decide +kernel)) (gw_cons im_X0_turnOver (gw_cons se_X0_turnOver (gw_cons in_X0 (gw_cons co_X0_turnOver gw_self)))), by decide +kernel⟩
theorem cs_X0_79 : CSN RX0 79 yX5_dragsOf cX5_dragsOf 3 (some .int) 3 := ⟨⟨by decide +kernel, sm_X5_dragsOf, in_X5, co_X5_dragsOf⟩, by decide +kernel⟩
theorem cs_X0_83 : CSN RX0 83 yX5_held cX5_held 2 (some .int) 2 := ⟨⟨by decide +kernel, sm_X5_held, in_X5, co_X5_held⟩, by decide +kernel⟩
theorem ml_X0_86 : Cond.methodLink RX0 86 Lib.Math.min.name ∈ gw ∧ Cond.static Lib.Math.min.name ∈ gw ∧ Cond.initialized "java/lang/Math" ∈ gw ∧ Cond.code Lib.Math.min.name Lib.Math.min.code 2 (some .int) ∈ gw := ⟨inG 527 (by decide +kernel), mt_min⟩
theorem cs_L_53 : CSV RL 53 RX5 yX5_found cX5_found 4 (some .int) 2 := ⟨gw_cons (inG 530 (by decide +kernel)) (gw_cons im_X5_found (gw_cons se_X5_found (gw_cons in_X5 (gw_cons co_X5_found gw_self)))), by decide +kernel⟩
theorem cs_X5_160 : CSV RX5 160 RX5 yX5_foundIn cX5_foundIn 3 (some .int) 2 := ⟨gw_cons (inG 534 (by decide +kernel)) (gw_cons im_X5_foundIn (gw_cons se_X5_foundIn (gw_cons in_X5 (gw_cons co_X5_foundIn gw_self)))), by decide +kernel⟩
theorem cs_X5_166 : CSV RX5 166 RX0 yX0_become cX0_become 2 none 1 := ⟨gw_cons (inG 538 (by decide +kernel)) (gw_cons im_X0_become (gw_cons se_X0_become (gw_cons in_X0 (gw_cons co_X0_become gw_self)))), by decide +kernel⟩
theorem cs_X0_62 : CSV RX0 62 RX0 yX0_layAs cX0_layAs 2 none 1 := ⟨gw_cons (inG 542 (by decide +kernel)) (gw_cons im_X0_layAs (gw_cons se_X0_layAs (gw_cons in_X0 (gw_cons co_X0_layAs gw_self)))), by decide +kernel⟩
theorem ml_X0_56 : Cond.methodLink RX0 56 arraycopyName ∈ gw ∧ Cond.native arraycopyName ∈ gw ∧ Cond.static arraycopyName ∈ gw ∧ Cond.initialized "java/lang/System" ∈ gw := ⟨inG 546 (by decide +kernel), ac_⟩
theorem cs_L_57 : CSV RL 57 RX5 yX5_years cX5_years 4 (some .int) 1 := ⟨gw_cons (inG 547 (by decide +kernel)) (gw_cons im_X5_years (gw_cons se_X5_years (gw_cons in_X5 (gw_cons co_X5_years gw_self)))), by decide +kernel⟩
theorem cs_L_61 : CSV RL 61 RX5 yX5_soonest cX5_soonest 6 (some .int) 1 := ⟨gw_cons (inG 551 (by decide +kernel)) (gw_cons im_X5_soonest (gw_cons se_X5_soonest (gw_cons in_X5 (gw_cons co_X5_soonest gw_self)))), by decide +kernel⟩
theorem cs_L_65 : CSV RL 65 RX5 yX5_strips cX5_strips 6 (some .int) 2 := ⟨gw_cons (inG 555 (by decide +kernel)) (gw_cons im_X5_strips (gw_cons se_X5_strips (gw_cons in_X5 (gw_cons co_X5_strips gw_self)))), by decide +kernel⟩
theorem cs_X5_170 : CSS RX5 170 yJ6_bitCount_0f7a4 cJ6_bitCount_0f7a4 1 (some .int) 1 := ⟨gw_cons (inG 559 (by decide +kernel)) (gw_cons sm_J6_bitCount_0f7a4 (gw_cons in_J6 (gw_cons co_J6_bitCount_0f7a4 gw_self))), by decide +kernel⟩
theorem cs_L_69 : CSV RL 69 RX5 yX5_better cX5_better 2 (some .int) 0 := ⟨gw_cons (inG 565 (by decide +kernel)) (gw_cons im_X5_better (gw_cons se_X5_better (gw_cons in_X5 (gw_cons co_X5_better gw_self)))), by decide +kernel⟩
theorem ml_X5_175 : Cond.methodLink RX5 175 Lib.Math.min.name ∈ gw ∧ Cond.static Lib.Math.min.name ∈ gw ∧ Cond.initialized "java/lang/Math" ∈ gw ∧ Cond.code Lib.Math.min.name Lib.Math.min.code 2 (some .int) ∈ gw := ⟨inG 569 (by decide +kernel), mt_min⟩
theorem cs_L_73 : CSV RL 73 RX5 yX5_order cX5_order 3 (some .int) 2 := ⟨gw_cons (inG 570 (by decide +kernel)) (gw_cons im_X5_order (gw_cons se_X5_order (gw_cons in_X5 (gw_cons co_X5_order gw_self)))), by decide +kernel⟩
theorem cs_L_77 : CSV RL 77 RX5 yX5_pot cX5_pot 5 (some .int) 0 := ⟨gw_cons (inG 574 (by decide +kernel)) (gw_cons im_X5_pot (gw_cons se_X5_pot (gw_cons in_X5 (gw_cons co_X5_pot gw_self)))), by decide +kernel⟩
theorem cs_X5_183 : CSV RX5 183 RX0 yX0_farFrom cX0_farFrom 4 (some .int) 1 := ⟨gw_cons (inG 578 (by decide +kernel)) (gw_cons im_X0_farFrom (gw_cons se_X0_farFrom (gw_cons in_X0 (gw_cons co_X0_farFrom gw_self)))), by decide +kernel⟩
theorem ml_X0_90 : Cond.methodLink RX0 90 Lib.Math.abs.name ∈ gw ∧ Cond.static Lib.Math.abs.name ∈ gw ∧ Cond.initialized "java/lang/Math" ∈ gw ∧ Cond.code Lib.Math.abs.name Lib.Math.abs.code 1 (some .int) ∈ gw := ⟨inG 582 (by decide +kernel), mt_abs⟩
theorem cs_L_81 : CSV RL 81 RX5 yX5_came cX5_came 8 (some .int) 2 := ⟨gw_cons (inG 585 (by decide +kernel)) (gw_cons im_X5_came (gw_cons se_X5_came (gw_cons in_X5 (gw_cons co_X5_came gw_self)))), by decide +kernel⟩
theorem cs_X5_186 : CSS RX5 186 yX5_held cX5_held 2 (some .int) 2 := ⟨gw_cons (inG 589 (by decide +kernel)) (gw_cons sm_X5_held (gw_cons in_X5 (gw_cons co_X5_held gw_self))), by decide +kernel⟩
theorem cs_L_85 : CSV RL 85 RX5 yX5_dots cX5_dots 2 (some .int) 1 := ⟨gw_cons (inG 590 (by decide +kernel)) (gw_cons im_X5_dots (gw_cons se_X5_dots (gw_cons in_X5 (gw_cons co_X5_dots gw_self)))), by decide +kernel⟩
theorem cs_X5_189 : CSV RX5 189 RX0 yX0_dotsIn cX0_dotsIn 4 (some .int) 1 := ⟨gw_cons (inG 594 (by decide +kernel)) (gw_cons im_X0_dotsIn (gw_cons se_X0_dotsIn (gw_cons in_X0 (gw_cons co_X0_dotsIn gw_self)))), by decide +kernel⟩
theorem cs_L_89 : CSV RL 89 RX5 yX5_thick cX5_thick 5 (some .int) 0 := ⟨gw_cons (inG 598 (by decide +kernel)) (gw_cons im_X5_thick (gw_cons se_X5_thick (gw_cons in_X5 (gw_cons co_X5_thick gw_self)))), by decide +kernel⟩
theorem cs_L_93 : CSV RL 93 RX5 yX5_judge cX5_judge 6 (some .int) 2 := ⟨gw_cons (inG 602 (by decide +kernel)) (gw_cons im_X5_judge (gw_cons se_X5_judge (gw_cons in_X5 (gw_cons co_X5_judge gw_self)))), by decide +kernel⟩
theorem cs_X5_192 : CSS RX5 192 yX5_isSheet cX5_isSheet 1 (some .boolean) 1 := ⟨gw_cons (inG 606 (by decide +kernel)) (gw_cons sm_X5_isSheet (gw_cons in_X5 (gw_cons co_X5_isSheet gw_self))), by decide +kernel⟩
theorem cs_X5_195 : CSV RX5 195 RX2 yX2_sortOf cX2_sortOf 2 (some .int) 1 := ⟨gw_cons (inG 609 (by decide +kernel)) (gw_cons im_X2_sortOf (gw_cons se_X2_sortOf (gw_cons in_X2 (gw_cons co_X2_sortOf gw_self)))), by decide +kernel⟩
theorem cs_X2_21 : CSN RX2 21 yX5_isSheet cX5_isSheet 1 (some .boolean) 1 := ⟨⟨by decide +kernel, sm_X5_isSheet, in_X5, co_X5_isSheet⟩, by decide +kernel⟩
theorem cs_X5_198 : CSV RX5 198 RX2 yX2_sizeOf cX2_sizeOf 2 (some .int) 1 := ⟨gw_cons (inG 614 (by decide +kernel)) (gw_cons im_X2_sizeOf (gw_cons se_X2_sizeOf (gw_cons in_X2 (gw_cons co_X2_sizeOf gw_self)))), by decide +kernel⟩
theorem cs_X5_201 : CSV RX5 201 RX2 yX2_itemOf cX2_itemOf 3 (some .int) 2 := ⟨gw_cons (inG 618 (by decide +kernel)) (gw_cons im_X2_itemOf (gw_cons se_X2_itemOf (gw_cons in_X2 (gw_cons co_X2_itemOf gw_self)))), by decide +kernel⟩
theorem cs_X2_33 : CSV RX2 33 RX2 yX2_hasRange cX2_hasRange 4 (some .boolean) 3 := ⟨gw_cons (inG 622 (by decide +kernel)) (gw_cons im_X2_hasRange (gw_cons se_X2_hasRange (gw_cons in_X2 (gw_cons co_X2_hasRange gw_self)))), by decide +kernel⟩
theorem cs_X2_37 : CSV RX2 37 RX2 yX2_sizeOf cX2_sizeOf 2 (some .int) 1 := ⟨gw_cons (inG 626 (by decide +kernel)) (gw_cons im_X2_sizeOf (gw_cons se_X2_sizeOf (gw_cons in_X2 (gw_cons co_X2_sizeOf gw_self)))), by decide +kernel⟩
theorem cs_L_97 : CSV RL 97 RX5 yX5_unseen cX5_unseen 1 (some .int) 0 := ⟨gw_cons (inG 627 (by decide +kernel)) (gw_cons im_X5_unseen (gw_cons se_X5_unseen (gw_cons in_X5 (gw_cons co_X5_unseen gw_self)))), by decide +kernel⟩
theorem cs_X5_204 : CSV RX5 204 RX0 yX0_stripsWithFinds cX0_stripsWithFinds 3 (some .int) 0 := ⟨gw_cons (inG 631 (by decide +kernel)) (gw_cons im_X0_stripsWithFinds (gw_cons se_X0_stripsWithFinds (gw_cons in_X0 (gw_cons co_X0_stripsWithFinds gw_self)))), by decide +kernel⟩
theorem cs_L_101 : CSV RL 101 RX5 yX5_left cX5_left 2 (some .int) 1 := ⟨gw_cons (inG 635 (by decide +kernel)) (gw_cons im_X5_left (gw_cons se_X5_left (gw_cons in_X5 (gw_cons co_X5_left gw_self)))), by decide +kernel⟩
theorem cs_X5_207 : CSV RX5 207 RX0 yX0_lying cX0_lying 1 (some .int) 0 := ⟨gw_cons (inG 639 (by decide +kernel)) (gw_cons im_X0_lying (gw_cons se_X0_lying (gw_cons in_X0 (gw_cons co_X0_lying gw_self)))), by decide +kernel⟩
theorem cs_X0_50 : CSS RX0 50 yJ6_bitCount_0f7a4 cJ6_bitCount_0f7a4 1 (some .int) 1 := ⟨gw_cons (inG 643 (by decide +kernel)) (gw_cons sm_J6_bitCount_0f7a4 (gw_cons in_J6 (gw_cons co_J6_bitCount_0f7a4 gw_self))), by decide +kernel⟩
theorem cs_X5_210 : CSV RX5 210 RX5 yX5_neverHeard cX5_neverHeard 3 (some .int) 0 := ⟨gw_cons (inG 644 (by decide +kernel)) (gw_cons im_X5_neverHeard (gw_cons se_X5_neverHeard (gw_cons in_X5 (gw_cons co_X5_neverHeard gw_self)))), by decide +kernel⟩
theorem cs_X5_213 : CSV RX5 213 RX4 yX4_dugIfHeard cX4_dugIfHeard 5 (some .int) 1 := ⟨gw_cons (inG 648 (by decide +kernel)) (gw_cons im_X4_dugIfHeard (gw_cons se_X4_dugIfHeard (gw_cons in_X4 (gw_cons co_X4_dugIfHeard gw_self)))), by decide +kernel⟩
theorem cs_L_105 : CSV RL 105 RX5 yX5_drawn cX5_drawn 2 (some .int) 1 := ⟨gw_cons (inG 652 (by decide +kernel)) (gw_cons im_X5_drawn (gw_cons se_X5_drawn (gw_cons in_X5 (gw_cons co_X5_drawn gw_self)))), by decide +kernel⟩
theorem cs_X5_217 : CSV RX5 217 RX5 yX5_foundIfDrawn cX5_foundIfDrawn 2 (some .int) 1 := ⟨gw_cons (inG 656 (by decide +kernel)) (gw_cons im_X5_foundIfDrawn (gw_cons se_X5_foundIfDrawn (gw_cons in_X5 (gw_cons co_X5_foundIfDrawn gw_self)))), by decide +kernel⟩
theorem cs_X5_220 : CSV RX5 220 RX0 yX0_scatter cX0_scatter 4 none 1 := ⟨gw_cons (inG 660 (by decide +kernel)) (gw_cons im_X0_scatter (gw_cons se_X0_scatter (gw_cons in_X0 (gw_cons co_X0_scatter gw_self)))), by decide +kernel⟩
theorem cs_L_109 : CSV RL 109 RX5 yX5_odds cX5_odds 7 (some .long) 4 := ⟨gw_cons (inG 665 (by decide +kernel)) (gw_cons im_X5_odds (gw_cons se_X5_odds (gw_cons in_X5 (gw_cons co_X5_odds gw_self)))), by decide +kernel⟩
theorem cs_X5_226 : CSS RX5 226 yX5_lowered cX5_lowered 3 (some .int) 2 := ⟨gw_cons (inG 670 (by decide +kernel)) (gw_cons sm_X5_lowered (gw_cons in_X5 (gw_cons co_X5_lowered gw_self))), by decide +kernel⟩
theorem ml_X5_229 : Cond.methodLink RX5 229 Lib.Math.max.name ∈ gw ∧ Cond.static Lib.Math.max.name ∈ gw ∧ Cond.initialized "java/lang/Math" ∈ gw ∧ Cond.code Lib.Math.max.name Lib.Math.max.code 2 (some .int) ∈ gw := ⟨inG 673 (by decide +kernel), mt_max⟩
theorem cs_L_114 : CSV RL 114 RX5 yX5_image cX5_image 1 (some .int) 0 := ⟨gw_cons (inG 674 (by decide +kernel)) (gw_cons im_X5_image (gw_cons se_X5_image (gw_cons in_X5 (gw_cons co_X5_image gw_self)))), by decide +kernel⟩
theorem cs_X5_232 : CSV RX5 232 RX0 yX0_layAs cX0_layAs 2 none 1 := ⟨gw_cons (inG 678 (by decide +kernel)) (gw_cons im_X0_layAs (gw_cons se_X0_layAs (gw_cons in_X0 (gw_cons co_X0_layAs gw_self)))), by decide +kernel⟩
theorem cs_L_118 : CSV RL 118 RX5 yX5_back cX5_back 1 (some .int) 0 := ⟨gw_cons (inG 679 (by decide +kernel)) (gw_cons im_X5_back (gw_cons se_X5_back (gw_cons in_X5 (gw_cons co_X5_back gw_self)))), by decide +kernel⟩
theorem cs_L_122 : CSV RL 122 RX5 yX5_count cX5_count 2 (some .int) 1 := ⟨gw_cons (inG 683 (by decide +kernel)) (gw_cons im_X5_count (gw_cons se_X5_count (gw_cons in_X5 (gw_cons co_X5_count gw_self)))), by decide +kernel⟩
theorem cs_L_126 : CSV RL 126 RX5 yX5_sheet cX5_sheet 4 (some .int) 3 := ⟨gw_cons (inG 687 (by decide +kernel)) (gw_cons im_X5_sheet (gw_cons se_X5_sheet (gw_cons in_X5 (gw_cons co_X5_sheet gw_self)))), by decide +kernel⟩
theorem cs_X5_241 : CSV RX5 241 RX2 yX2_remove cX2_remove 2 none 1 := ⟨gw_cons (inG 691 (by decide +kernel)) (gw_cons im_X2_remove (gw_cons se_X2_remove (gw_cons in_X2 (gw_cons co_X2_remove gw_self)))), by decide +kernel⟩
theorem cs_X2_25 : CSV RX2 25 RX2 yX2_make cX2_make 5 none 3 := ⟨gw_cons (inG 695 (by decide +kernel)) (gw_cons im_X2_make (gw_cons se_X2_make (gw_cons in_X2 (gw_cons co_X2_make gw_self)))), by decide +kernel⟩
theorem cs_X2_29 : CSN RX2 29 yX5_held cX5_held 2 (some .int) 2 := ⟨⟨by decide +kernel, sm_X5_held, in_X5, co_X5_held⟩, by decide +kernel⟩
theorem cs_X5_244 : CSV RX5 244 RX2 yX2_make cX2_make 5 none 3 := ⟨gw_cons (inG 700 (by decide +kernel)) (gw_cons im_X2_make (gw_cons se_X2_make (gw_cons in_X2 (gw_cons co_X2_make gw_self)))), by decide +kernel⟩
theorem cs_L_130 : CSV RL 130 RX5 yX5_cell cX5_cell 4 (some .int) 3 := ⟨gw_cons (inG 701 (by decide +kernel)) (gw_cons im_X5_cell (gw_cons se_X5_cell (gw_cons in_X5 (gw_cons co_X5_cell gw_self)))), by decide +kernel⟩
theorem cs_X5_248 : CSV RX5 248 RX2 yX2_put cX2_put 5 none 3 := ⟨gw_cons (inG 705 (by decide +kernel)) (gw_cons im_X2_put (gw_cons se_X2_put (gw_cons in_X2 (gw_cons co_X2_put gw_self)))), by decide +kernel⟩
theorem cs_L_134 : CSV RL 134 RX5 yX5_copy cX5_copy 6 (some .int) 5 := ⟨gw_cons (inG 709 (by decide +kernel)) (gw_cons im_X5_copy (gw_cons se_X5_copy (gw_cons in_X5 (gw_cons co_X5_copy gw_self)))), by decide +kernel⟩
theorem cs_X5_251 : CSV RX5 251 RX2 yX2_hasRange cX2_hasRange 4 (some .boolean) 3 := ⟨gw_cons (inG 713 (by decide +kernel)) (gw_cons im_X2_hasRange (gw_cons se_X2_hasRange (gw_cons in_X2 (gw_cons co_X2_hasRange gw_self)))), by decide +kernel⟩
theorem cs_X5_254 : CSV RX5 254 RX2 yX2_move cX2_move 6 none 5 := ⟨gw_cons (inG 714 (by decide +kernel)) (gw_cons im_X2_move (gw_cons se_X2_move (gw_cons in_X2 (gw_cons co_X2_move gw_self)))), by decide +kernel⟩
theorem ml_X2_41 : Cond.methodLink RX2 41 arraycopyName ∈ gw ∧ Cond.native arraycopyName ∈ gw ∧ Cond.static arraycopyName ∈ gw ∧ Cond.initialized "java/lang/System" ∈ gw := ⟨inG 718 (by decide +kernel), ac_⟩
theorem cs_L_139 : CSV RL 139 RX5 yX5_finds cX5_finds 10 (some .int) 4 := ⟨gw_cons (inG 719 (by decide +kernel)) (gw_cons im_X5_finds (gw_cons se_X5_finds (gw_cons in_X5 (gw_cons co_X5_finds gw_self)))), by decide +kernel⟩
theorem cs_X5_258 : CSV RX5 258 RX5 yX5_find cX5_find 6 (some .int) 3 := ⟨gw_cons (inG 723 (by decide +kernel)) (gw_cons im_X5_find (gw_cons se_X5_find (gw_cons in_X5 (gw_cons co_X5_find gw_self)))), by decide +kernel⟩
theorem cs_L_144 : CSV RL 144 RX5 yX5_taken cX5_taken 3 (some .int) 2 := ⟨gw_cons (inG 724 (by decide +kernel)) (gw_cons im_X5_taken (gw_cons se_X5_taken (gw_cons in_X5 (gw_cons co_X5_taken gw_self)))), by decide +kernel⟩
theorem cs_X5_261 : CSS RX5 261 yX5_isUnder cX5_isUnder 4 (some .boolean) 2 := ⟨gw_cons (inG 728 (by decide +kernel)) (gw_cons sm_X5_isUnder (gw_cons in_X5 (gw_cons co_X5_isUnder gw_self))), by decide +kernel⟩
theorem cs_X6_66 : CSV RX6 66 RX6 yX6_spell cX6_spell 10 none 9 := ⟨gw_cons (inG 739 (by decide +kernel)) (gw_cons im_X6_spell (gw_cons se_X6_spell (gw_cons in_X6 (gw_cons co_X6_spell gw_self)))), by decide +kernel⟩
theorem cs_L_17 : CSV RL 17 RX6 yX6_find cX6_find 4 (some .int) 3 := ⟨gw_cons (inG 900 (by decide +kernel)) (gw_cons im_X6_find (gw_cons se_X6_find (gw_cons in_X6 (gw_cons co_X6_find gw_self)))), by decide +kernel⟩
theorem cs_X6_76 : CSS RX6 76 yX6_in cX6_in 6 (some .boolean) 3 := ⟨gw_cons (inG 905 (by decide +kernel)) (gw_cons sm_X6_in (gw_cons in_X6 (gw_cons co_X6_in gw_self))), by decide +kernel⟩
theorem cs_X6_87 : CSS RX6 87 yX6_isCell cX6_isCell 1 (some .boolean) 1 := ⟨gw_cons (inG 908 (by decide +kernel)) (gw_cons sm_X6_isCell (gw_cons in_X6 (gw_cons co_X6_isCell gw_self))), by decide +kernel⟩
theorem cs_L_21 : CSV RL 21 RX6 yX6_set cX6_set 5 (some .int) 3 := ⟨gw_cons (inG 913 (by decide +kernel)) (gw_cons im_X6_set (gw_cons se_X6_set (gw_cons in_X6 (gw_cons co_X6_set gw_self)))), by decide +kernel⟩
theorem cs_X6_95 : CSV RX6 95 RX6 yX6_isFind cX6_isFind 2 (some .boolean) 1 := ⟨gw_cons (inG 918 (by decide +kernel)) (gw_cons im_X6_isFind (gw_cons se_X6_isFind (gw_cons in_X6 (gw_cons co_X6_isFind gw_self)))), by decide +kernel⟩
theorem cs_X6_102 : CSV RX6 102 RX6 yX6_lies cX6_lies 2 (some .boolean) 1 := ⟨gw_cons (inG 924 (by decide +kernel)) (gw_cons im_X6_lies (gw_cons se_X6_lies (gw_cons in_X6 (gw_cons co_X6_lies gw_self)))), by decide +kernel⟩
theorem cs_L_26 : CSV RL 26 RX6 yX6_told cX6_told 3 (some .int) 2 := ⟨gw_cons (inG 928 (by decide +kernel)) (gw_cons im_X6_told (gw_cons se_X6_told (gw_cons in_X6 (gw_cons co_X6_told gw_self)))), by decide +kernel⟩
theorem cs_X6_112 : CSV RX6 112 RX6 yX6_tone cX6_tone 4 (some .int) 1 := ⟨gw_cons (inG 932 (by decide +kernel)) (gw_cons im_X6_tone (gw_cons se_X6_tone (gw_cons in_X6 (gw_cons co_X6_tone gw_self)))), by decide +kernel⟩
theorem cs_X6_108 : CSV RX6 108 RX6 yX6_loud cX6_loud 4 (some .int) 1 := ⟨gw_cons (inG 936 (by decide +kernel)) (gw_cons im_X6_loud (gw_cons se_X6_loud (gw_cons in_X6 (gw_cons co_X6_loud gw_self)))), by decide +kernel⟩
theorem cs_X6_115 : CSV RX6 115 RX6 yX6_heard cX6_heard 4 (some .int) 1 := ⟨gw_cons (inG 940 (by decide +kernel)) (gw_cons im_X6_heard (gw_cons se_X6_heard (gw_cons in_X6 (gw_cons co_X6_heard gw_self)))), by decide +kernel⟩
theorem cs_X6_118 : CSS RX6 118 yX6_dragsAt cX6_dragsAt 3 (some .int) 3 := ⟨gw_cons (inG 944 (by decide +kernel)) (gw_cons sm_X6_dragsAt (gw_cons in_X6 (gw_cons co_X6_dragsAt gw_self))), by decide +kernel⟩
theorem cs_X6_122 : CSV RX6 122 RX6 yX6_worth cX6_worth 3 (some .int) 2 := ⟨gw_cons (inG 947 (by decide +kernel)) (gw_cons im_X6_worth (gw_cons se_X6_worth (gw_cons in_X6 (gw_cons co_X6_worth gw_self)))), by decide +kernel⟩
theorem cs_X6_248 : CSV RX6 248 RX6 yX6_says cX6_says 4 (some .int) 3 := ⟨gw_cons (inG 951 (by decide +kernel)) (gw_cons im_X6_says (gw_cons se_X6_says (gw_cons in_X6 (gw_cons co_X6_says gw_self)))), by decide +kernel⟩
theorem cs_X6_242 : CSV RX6 242 RX6 yX6_read cX6_read 6 (some .int) 2 := ⟨gw_cons (inG 955 (by decide +kernel)) (gw_cons im_X6_read (gw_cons se_X6_read (gw_cons in_X6 (gw_cons co_X6_read gw_self)))), by decide +kernel⟩
theorem cs_X6_180 : CSV RX6 180 RX6 yX6_next cX6_next 3 none 0 := ⟨gw_cons (inG 959 (by decide +kernel)) (gw_cons im_X6_next (gw_cons se_X6_next (gw_cons in_X6 (gw_cons co_X6_next gw_self)))), by decide +kernel⟩
theorem cs_X6_140 : CSV RX6 140 RX6 yX6_byteAt cX6_byteAt 2 (some .int) 1 := ⟨gw_cons (inG 963 (by decide +kernel)) (gw_cons im_X6_byteAt (gw_cons se_X6_byteAt (gw_cons in_X6 (gw_cons co_X6_byteAt gw_self)))), by decide +kernel⟩
theorem cs_X6_183 : CSV RX6 183 RX6 yX6_isWord cX6_isWord 9 (some .boolean) 8 := ⟨gw_cons (inG 972 (by decide +kernel)) (gw_cons im_X6_isWord (gw_cons se_X6_isWord (gw_cons in_X6 (gw_cons co_X6_isWord gw_self)))), by decide +kernel⟩
theorem cs_X6_170 : CSV RX6 170 RX6 yX6_isLetter cX6_isLetter 3 (some .boolean) 2 := ⟨gw_cons (inG 976 (by decide +kernel)) (gw_cons im_X6_isLetter (gw_cons se_X6_isLetter (gw_cons in_X6 (gw_cons co_X6_isLetter gw_self)))), by decide +kernel⟩
theorem cs_X6_238 : CSV RX6 238 RX6 yX6_part cX6_part 3 (some .int) 1 := ⟨gw_cons (inG 980 (by decide +kernel)) (gw_cons im_X6_part (gw_cons se_X6_part (gw_cons in_X6 (gw_cons co_X6_part gw_self)))), by decide +kernel⟩
theorem cs_X6_177 : CSV RX6 177 RX6 yX6_fail cX6_fail 1 none 0 := ⟨gw_cons (inG 984 (by decide +kernel)) (gw_cons im_X6_fail (gw_cons se_X6_fail (gw_cons in_X6 (gw_cons co_X6_fail gw_self)))), by decide +kernel⟩
theorem cs_X6_216 : CSV RX6 216 RX6 yX6_either cX6_either 3 (some .int) 0 := ⟨gw_cons (inG 988 (by decide +kernel)) (gw_cons im_X6_either (gw_cons se_X6_either (gw_cons in_X6 (gw_cons co_X6_either gw_self)))), by decide +kernel⟩
theorem cs_X6_235 : CSV RX6 235 RX6 yX6_both cX6_both 3 (some .int) 0 := ⟨gw_cons (inG 992 (by decide +kernel)) (gw_cons im_X6_both (gw_cons se_X6_both (gw_cons in_X6 (gw_cons co_X6_both gw_self)))), by decide +kernel⟩
theorem cs_X6_227 : CSV RX6 227 RX6 yX6_not cX6_not 4 (some .int) 0 := ⟨gw_cons (inG 996 (by decide +kernel)) (gw_cons im_X6_not (gw_cons se_X6_not (gw_cons in_X6 (gw_cons co_X6_not gw_self)))), by decide +kernel⟩
theorem cs_X6_208 : CSV RX6 208 RX6 yX6_opens cX6_opens 1 (some .boolean) 0 := ⟨gw_cons (inG 1000 (by decide +kernel)) (gw_cons im_X6_opens (gw_cons se_X6_opens (gw_cons in_X6 (gw_cons co_X6_opens gw_self)))), by decide +kernel⟩
theorem cs_X6_230 : CSV RX6 230 RX6 yX6_added cX6_added 4 (some .int) 0 := ⟨gw_cons (inG 1004 (by decide +kernel)) (gw_cons im_X6_added (gw_cons se_X6_added (gw_cons in_X6 (gw_cons co_X6_added gw_self)))), by decide +kernel⟩
theorem cs_X6_222 : CSV RX6 222 RX6 yX6_term cX6_term 2 (some .int) 0 := ⟨gw_cons (inG 1008 (by decide +kernel)) (gw_cons im_X6_term (gw_cons se_X6_term (gw_cons in_X6 (gw_cons co_X6_term gw_self)))), by decide +kernel⟩
theorem cs_X6_212 : CSV RX6 212 RX6 yX6_atom cX6_atom 2 (some .int) 0 := ⟨gw_cons (inG 1012 (by decide +kernel)) (gw_cons im_X6_atom (gw_cons se_X6_atom (gw_cons in_X6 (gw_cons co_X6_atom gw_self)))), by decide +kernel⟩
theorem cs_X6_205 : CSV RX6 205 RX6 yX6_isSign cX6_isSign 2 (some .boolean) 1 := ⟨gw_cons (inG 1016 (by decide +kernel)) (gw_cons im_X6_isSign (gw_cons se_X6_isSign (gw_cons in_X6 (gw_cons co_X6_isSign gw_self)))), by decide +kernel⟩
theorem cs_X6_219 : CSV RX6 219 RX6 yX6_name cX6_name 1 (some .int) 0 := ⟨gw_cons (inG 1020 (by decide +kernel)) (gw_cons im_X6_name (gw_cons se_X6_name (gw_cons in_X6 (gw_cons co_X6_name gw_self)))), by decide +kernel⟩
theorem cs_X6_251 : CSS RX6 251 yX6_within cX6_within 3 (some .int) 3 := ⟨gw_cons (inG 1026 (by decide +kernel)) (gw_cons sm_X6_within (gw_cons in_X6 (gw_cons co_X6_within gw_self))), by decide +kernel⟩
theorem cs_L_31 : CSV RL 31 RX6 yX6_feed cX6_feed 2 (some .int) 1 := ⟨gw_cons (inG 1029 (by decide +kernel)) (gw_cons im_X6_feed (gw_cons se_X6_feed (gw_cons in_X6 (gw_cons co_X6_feed gw_self)))), by decide +kernel⟩
theorem cs_L_36 : CSV RL 36 RX6 yX6_text cX6_text 2 (some .int) 0 := ⟨gw_cons (inG 1034 (by decide +kernel)) (gw_cons im_X6_text (gw_cons se_X6_text (gw_cons in_X6 (gw_cons co_X6_text gw_self)))), by decide +kernel⟩
theorem cs_L_40 : CSV RL 40 RX6 yX6_force cX6_force 3 (some .int) 1 := ⟨gw_cons (inG 1038 (by decide +kernel)) (gw_cons im_X6_force (gw_cons se_X6_force (gw_cons in_X6 (gw_cons co_X6_force gw_self)))), by decide +kernel⟩
theorem cs_L_44 : CSV RL 44 RX6 yX6_beep cX6_beep 2 (some .int) 1 := ⟨gw_cons (inG 1042 (by decide +kernel)) (gw_cons im_X6_beep (gw_cons se_X6_beep (gw_cons in_X6 (gw_cons co_X6_beep gw_self)))), by decide +kernel⟩
theorem cs_X6_257 : CSV RX6 257 RX6 yX6_beepOf cX6_beepOf 5 (some .int) 1 := ⟨gw_cons (inG 1046 (by decide +kernel)) (gw_cons im_X6_beepOf (gw_cons se_X6_beepOf (gw_cons in_X6 (gw_cons co_X6_beepOf gw_self)))), by decide +kernel⟩
theorem cs_X6_254 : CSV RX6 254 RX6 yX6_isHeard cX6_isHeard 3 (some .boolean) 1 := ⟨gw_cons (inG 1050 (by decide +kernel)) (gw_cons im_X6_isHeard (gw_cons se_X6_isHeard (gw_cons in_X6 (gw_cons co_X6_isHeard gw_self)))), by decide +kernel⟩
theorem cs_L_48 : CSV RL 48 RX6 yX6_walk cX6_walk 2 (some .int) 1 := ⟨gw_cons (inG 1054 (by decide +kernel)) (gw_cons im_X6_walk (gw_cons se_X6_walk (gw_cons in_X6 (gw_cons co_X6_walk gw_self)))), by decide +kernel⟩
theorem cs_X6_270 : CSV RX6 270 RX6 yX6_walks cX6_walks 3 none 1 := ⟨gw_cons (inG 1058 (by decide +kernel)) (gw_cons im_X6_walks (gw_cons se_X6_walks (gw_cons in_X6 (gw_cons co_X6_walks gw_self)))), by decide +kernel⟩
theorem cs_X6_266 : CSV RX6 266 RX6 yX6_digs cX6_digs 3 none 1 := ⟨gw_cons (inG 1062 (by decide +kernel)) (gw_cons im_X6_digs (gw_cons se_X6_digs (gw_cons in_X6 (gw_cons co_X6_digs gw_self)))), by decide +kernel⟩
theorem cs_L_52 : CSV RL 52 RX6 yX6_plough cX6_plough 1 (some .int) 0 := ⟨gw_cons (inG 1066 (by decide +kernel)) (gw_cons im_X6_plough (gw_cons se_X6_plough (gw_cons in_X6 (gw_cons co_X6_plough gw_self)))), by decide +kernel⟩
theorem cs_X6_279 : CSV RX6 279 RX6 yX6_ploughs cX6_ploughs 4 none 0 := ⟨gw_cons (inG 1070 (by decide +kernel)) (gw_cons im_X6_ploughs (gw_cons se_X6_ploughs (gw_cons in_X6 (gw_cons co_X6_ploughs gw_self)))), by decide +kernel⟩
theorem cs_L_56 : CSV RL 56 RX6 yX6_found cX6_found 4 (some .int) 2 := ⟨gw_cons (inG 1074 (by decide +kernel)) (gw_cons im_X6_found (gw_cons se_X6_found (gw_cons in_X6 (gw_cons co_X6_found gw_self)))), by decide +kernel⟩
theorem cs_X6_293 : CSV RX6 293 RX6 yX6_laysAside cX6_laysAside 2 none 0 := ⟨gw_cons (inG 1079 (by decide +kernel)) (gw_cons im_X6_laysAside (gw_cons se_X6_laysAside (gw_cons in_X6 (gw_cons co_X6_laysAside gw_self)))), by decide +kernel⟩
theorem cs_X6_296 : CSV RX6 296 RX6 yX6_walksAll cX6_walksAll 3 none 1 := ⟨gw_cons (inG 1083 (by decide +kernel)) (gw_cons im_X6_walksAll (gw_cons se_X6_walksAll (gw_cons in_X6 (gw_cons co_X6_walksAll gw_self)))), by decide +kernel⟩
theorem cs_X6_299 : CSV RX6 299 RX6 yX6_laysBack cX6_laysBack 2 none 0 := ⟨gw_cons (inG 1087 (by decide +kernel)) (gw_cons im_X6_laysBack (gw_cons se_X6_laysBack (gw_cons in_X6 (gw_cons co_X6_laysBack gw_self)))), by decide +kernel⟩
theorem cs_L_60 : CSV RL 60 RX6 yX6_years cX6_years 3 (some .int) 1 := ⟨gw_cons (inG 1091 (by decide +kernel)) (gw_cons im_X6_years (gw_cons se_X6_years (gw_cons in_X6 (gw_cons co_X6_years gw_self)))), by decide +kernel⟩
theorem cs_L_64 : CSV RL 64 RX6 yX6_soonest cX6_soonest 6 (some .int) 1 := ⟨gw_cons (inG 1095 (by decide +kernel)) (gw_cons im_X6_soonest (gw_cons se_X6_soonest (gw_cons in_X6 (gw_cons co_X6_soonest gw_self)))), by decide +kernel⟩
theorem cs_L_68 : CSV RL 68 RX6 yX6_strips cX6_strips 7 (some .int) 2 := ⟨gw_cons (inG 1099 (by decide +kernel)) (gw_cons im_X6_strips (gw_cons se_X6_strips (gw_cons in_X6 (gw_cons co_X6_strips gw_self)))), by decide +kernel⟩
theorem cs_X6_304 : CSS RX6 304 yX6_bitsOf cX6_bitsOf 3 (some .int) 1 := ⟨gw_cons (inG 1104 (by decide +kernel)) (gw_cons sm_X6_bitsOf (gw_cons in_X6 (gw_cons co_X6_bitsOf gw_self))), by decide +kernel⟩
theorem cs_L_72 : CSV RL 72 RX6 yX6_better cX6_better 3 (some .int) 0 := ⟨gw_cons (inG 1107 (by decide +kernel)) (gw_cons im_X6_better (gw_cons se_X6_better (gw_cons in_X6 (gw_cons co_X6_better gw_self)))), by decide +kernel⟩
theorem cs_L_76 : CSV RL 76 RX6 yX6_order cX6_order 5 (some .int) 2 := ⟨gw_cons (inG 1111 (by decide +kernel)) (gw_cons im_X6_order (gw_cons se_X6_order (gw_cons in_X6 (gw_cons co_X6_order gw_self)))), by decide +kernel⟩
theorem cs_L_80 : CSV RL 80 RX6 yX6_pot cX6_pot 6 (some .int) 0 := ⟨gw_cons (inG 1115 (by decide +kernel)) (gw_cons im_X6_pot (gw_cons se_X6_pot (gw_cons in_X6 (gw_cons co_X6_pot gw_self)))), by decide +kernel⟩
theorem cs_X6_307 : CSS RX6 307 yX6_off cX6_off 2 (some .int) 2 := ⟨gw_cons (inG 1119 (by decide +kernel)) (gw_cons sm_X6_off (gw_cons in_X6 (gw_cons co_X6_off gw_self))), by decide +kernel⟩
theorem cs_L_84 : CSV RL 84 RX6 yX6_came cX6_came 7 (some .int) 2 := ⟨gw_cons (inG 1122 (by decide +kernel)) (gw_cons im_X6_came (gw_cons se_X6_came (gw_cons in_X6 (gw_cons co_X6_came gw_self)))), by decide +kernel⟩
theorem cs_L_88 : CSV RL 88 RX6 yX6_dots cX6_dots 2 (some .int) 1 := ⟨gw_cons (inG 1126 (by decide +kernel)) (gw_cons im_X6_dots (gw_cons se_X6_dots (gw_cons in_X6 (gw_cons co_X6_dots gw_self)))), by decide +kernel⟩
theorem cs_X6_310 : CSV RX6 310 RX6 yX6_dotsOf cX6_dotsOf 4 (some .int) 1 := ⟨gw_cons (inG 1130 (by decide +kernel)) (gw_cons im_X6_dotsOf (gw_cons se_X6_dotsOf (gw_cons in_X6 (gw_cons co_X6_dotsOf gw_self)))), by decide +kernel⟩
theorem cs_L_92 : CSV RL 92 RX6 yX6_thick cX6_thick 4 (some .int) 0 := ⟨gw_cons (inG 1134 (by decide +kernel)) (gw_cons im_X6_thick (gw_cons se_X6_thick (gw_cons in_X6 (gw_cons co_X6_thick gw_self)))), by decide +kernel⟩
theorem cs_L_96 : CSV RL 96 RX6 yX6_judge cX6_judge 6 (some .int) 2 := ⟨gw_cons (inG 1138 (by decide +kernel)) (gw_cons im_X6_judge (gw_cons se_X6_judge (gw_cons in_X6 (gw_cons co_X6_judge gw_self)))), by decide +kernel⟩
theorem cs_X6_313 : CSS RX6 313 yX6_isSheet cX6_isSheet 1 (some .boolean) 1 := ⟨gw_cons (inG 1142 (by decide +kernel)) (gw_cons sm_X6_isSheet (gw_cons in_X6 (gw_cons co_X6_isSheet gw_self))), by decide +kernel⟩
theorem cs_L_100 : CSV RL 100 RX6 yX6_unseen cX6_unseen 3 (some .int) 0 := ⟨gw_cons (inG 1146 (by decide +kernel)) (gw_cons im_X6_unseen (gw_cons se_X6_unseen (gw_cons in_X6 (gw_cons co_X6_unseen gw_self)))), by decide +kernel⟩
theorem cs_L_104 : CSV RL 104 RX6 yX6_left cX6_left 6 (some .int) 1 := ⟨gw_cons (inG 1150 (by decide +kernel)) (gw_cons im_X6_left (gw_cons se_X6_left (gw_cons in_X6 (gw_cons co_X6_left gw_self)))), by decide +kernel⟩
theorem cs_L_108 : CSV RL 108 RX6 yX6_drawn cX6_drawn 4 (some .int) 1 := ⟨gw_cons (inG 1154 (by decide +kernel)) (gw_cons im_X6_drawn (gw_cons se_X6_drawn (gw_cons in_X6 (gw_cons co_X6_drawn gw_self)))), by decide +kernel⟩
theorem cs_L_113 : CSV RL 113 RX6 yX6_odds cX6_odds 13 (some .long) 4 := ⟨gw_cons (inG 1159 (by decide +kernel)) (gw_cons im_X6_odds (gw_cons se_X6_odds (gw_cons in_X6 (gw_cons co_X6_odds gw_self)))), by decide +kernel⟩
theorem cs_X6_321 : CSV RX6 321 RX6 yX6_drawn cX6_drawn 4 (some .int) 1 := ⟨gw_cons (inG 1165 (by decide +kernel)) (gw_cons im_X6_drawn (gw_cons se_X6_drawn (gw_cons in_X6 (gw_cons co_X6_drawn gw_self)))), by decide +kernel⟩
theorem cs_L_117 : CSV RL 117 RX6 yX6_image cX6_image 2 (some .int) 0 := ⟨gw_cons (inG 1166 (by decide +kernel)) (gw_cons im_X6_image (gw_cons se_X6_image (gw_cons in_X6 (gw_cons co_X6_image gw_self)))), by decide +kernel⟩
theorem cs_L_121 : CSV RL 121 RX6 yX6_back cX6_back 2 (some .int) 0 := ⟨gw_cons (inG 1170 (by decide +kernel)) (gw_cons im_X6_back (gw_cons se_X6_back (gw_cons in_X6 (gw_cons co_X6_back gw_self)))), by decide +kernel⟩
theorem cs_L_125 : CSV RL 125 RX6 yX6_count cX6_count 2 (some .int) 1 := ⟨gw_cons (inG 1174 (by decide +kernel)) (gw_cons im_X6_count (gw_cons se_X6_count (gw_cons in_X6 (gw_cons co_X6_count gw_self)))), by decide +kernel⟩
theorem cs_L_129 : CSV RL 129 RX6 yX6_sheet cX6_sheet 5 (some .int) 3 := ⟨gw_cons (inG 1179 (by decide +kernel)) (gw_cons im_X6_sheet (gw_cons se_X6_sheet (gw_cons in_X6 (gw_cons co_X6_sheet gw_self)))), by decide +kernel⟩
theorem cs_L_133 : CSV RL 133 RX6 yX6_cell cX6_cell 4 (some .int) 3 := ⟨gw_cons (inG 1185 (by decide +kernel)) (gw_cons im_X6_cell (gw_cons se_X6_cell (gw_cons in_X6 (gw_cons co_X6_cell gw_self)))), by decide +kernel⟩
theorem cs_L_138 : CSV RL 138 RX6 yX6_copy cX6_copy 9 (some .int) 5 := ⟨gw_cons (inG 1189 (by decide +kernel)) (gw_cons im_X6_copy (gw_cons se_X6_copy (gw_cons in_X6 (gw_cons co_X6_copy gw_self)))), by decide +kernel⟩
theorem cs_L_143 : CSV RL 143 RX6 yX6_finds cX6_finds 8 (some .int) 4 := ⟨gw_cons (inG 1193 (by decide +kernel)) (gw_cons im_X6_finds (gw_cons se_X6_finds (gw_cons in_X6 (gw_cons co_X6_finds gw_self)))), by decide +kernel⟩
theorem cs_X6_350 : CSV RX6 350 RX6 yX6_find cX6_find 4 (some .int) 3 := ⟨gw_cons (inG 1197 (by decide +kernel)) (gw_cons im_X6_find (gw_cons se_X6_find (gw_cons in_X6 (gw_cons co_X6_find gw_self)))), by decide +kernel⟩
theorem cs_L_147 : CSV RL 147 RX6 yX6_taken cX6_taken 4 (some .int) 2 := ⟨gw_cons (inG 1198 (by decide +kernel)) (gw_cons im_X6_taken (gw_cons se_X6_taken (gw_cons in_X6 (gw_cons co_X6_taken gw_self)))), by decide +kernel⟩
theorem cs_X6_353 : CSS RX6 353 yX6_over cX6_over 1 (some .int) 1 := ⟨gw_cons (inG 1202 (by decide +kernel)) (gw_cons sm_X6_over (gw_cons in_X6 (gw_cons co_X6_over gw_self))), by decide +kernel⟩
def isF (r : Nat) : Prop := r = 1 ∨ r = 2 ∨ r = 3 ∨ r = 4
theorem isF1 : isF 1 := Or.inl rfl
theorem isF2 : isF 2 := Or.inr (Or.inl rfl)
theorem isF3 : isF 3 := Or.inr (Or.inr (Or.inl rfl))
theorem isF4 : isF 4 := Or.inr (Or.inr (Or.inr rfl))
def fcF (r : Nat) : List Nat := [4 * r + 5 + 2, 4 * r + 6 + 2, 4 * r + 7 + 2, 4 * r + 8 + 2, 0, 0, 0, 0, 0, 0, 0]
def fc5 : List Nat := [1 + 2, 2 + 2, 3 + 2, 4 + 2, 5 + 2, 6 + 2, 7 + 2, 8 + 2, 0]
def fc3 : List Nat := [0, 25 + 2, 26 + 2, 27 + 2, 28 + 2, 0]
def fc1 : List Nat := [0, 5 + 2, 29 + 2, 0, 0, 0, 0]
def fc4 : List Nat := [5 + 2, 0]
def fc2 : List Nat := [30 + 2, 31 + 2, 32 + 2]
/-- the component: 0 FieldBeeps, 1 .. 4 Fields (field, kept, later, trial), 5 Texts, 6 Reader, 7 Walker, 8 Sheets, 4 r + 5 .. 4 r + 8 the rows of Field r, 25 code, 26 ends, 27 names, 28 stack, 29 tape, 30 sort, 31 size, 32 item -/
def LC : vLay := (33, fun r => if r = 0 then .inr (5, fc5) else if r ≤ 4 then .inr (0, fcF r) else if r = 5 then .inr (3, fc3) else if r = 6 then .inr (1, fc1) else if r = 7 then .inr (4, fc4) else if r = 8 then .inr (2, fc2) else if r ≤ 24 then .inl (true, 12) else if r = 25 then .inl (true, 960) else if r = 26 then .inl (true, 18) else if r = 27 then .inl (true, 6) else if r ≤ 29 then .inl (true, 160) else if r ≤ 31 then .inl (true, 4) else .inl (true, 160))
theorem LO5 : LO LC 0 5 fc5 := ⟨by decide, rfl⟩
theorem LO3 : LO LC 5 3 fc3 := ⟨by decide, rfl⟩
theorem LO1 : LO LC 6 1 fc1 := ⟨by decide, rfl⟩
theorem LO4 : LO LC 7 4 fc4 := ⟨by decide, rfl⟩
theorem LO2 : LO LC 8 2 fc2 := ⟨by decide, rfl⟩
theorem LO_F {r : Nat} (h : isF r) : LO LC r 0 (fcF r) := by
  rcases h with rfl | rfl | rfl | rfl <;> exact ⟨by decide, rfl⟩
theorem LA_F0 {r : Nat} (h : isF r) : LA LC (4 * r + 5) true 12 := by
  rcases h with rfl | rfl | rfl | rfl <;> exact ⟨by decide, rfl⟩
theorem LA_F1 {r : Nat} (h : isF r) : LA LC (4 * r + 6) true 12 := by
  rcases h with rfl | rfl | rfl | rfl <;> exact ⟨by decide, rfl⟩
theorem LA_F2 {r : Nat} (h : isF r) : LA LC (4 * r + 7) true 12 := by
  rcases h with rfl | rfl | rfl | rfl <;> exact ⟨by decide, rfl⟩
theorem LA_F3 {r : Nat} (h : isF r) : LA LC (4 * r + 8) true 12 := by
  rcases h with rfl | rfl | rfl | rfl <;> exact ⟨by decide, rfl⟩
theorem LAC25 : LA LC 25 true 960 := ⟨by decide, rfl⟩
theorem LAC26 : LA LC 26 true 18 := ⟨by decide, rfl⟩
theorem LAC27 : LA LC 27 true 6 := ⟨by decide, rfl⟩
theorem LAC28 : LA LC 28 true 160 := ⟨by decide, rfl⟩
theorem LAC29 : LA LC 29 true 160 := ⟨by decide, rfl⟩
theorem LAC30 : LA LC 30 true 4 := ⟨by decide, rfl⟩
theorem LAC31 : LA LC 31 true 4 := ⟨by decide, rfl⟩
theorem LAC32 : LA LC 32 true 160 := ⟨by decide, rfl⟩
def fc6 : List Nat := [0, 1 + 2, 2 + 2, 0, 0, 3 + 2, 0, 4 + 2, 5 + 2, 6 + 2, 7 + 2, 0, 0, 0, 0, 0, 0, 0, 0, 0, 0, 0, 0, 0, 0, 0, 0, 0, 1, 0, 0, 0, 0, 0, 8 + 2, 9 + 2, 0, 0, 0, 10 + 2, 11 + 2, 0, 0, 0, 0, 0, 0, 0, 12 + 2, 13 + 2, 14 + 2, 15 + 2]
def lm6 (r : Nat) : vLK := match r with
  | 0 => .inr (6, fc6)
  | 1 => .inl (true, 960)
  | 2 => .inl (true, 6)
  | 3 => .inl (true, 160)
  | 4 => .inl (true, 12)
  | 5 => .inl (true, 12)
  | 6 => .inl (true, 12)
  | 7 => .inl (true, 12)
  | 8 => .inl (true, 12)
  | 9 => .inl (true, 12)
  | 10 => .inl (true, 12)
  | 11 => .inl (true, 12)
  | 12 => .inl (false, 4)
  | 13 => .inl (true, 4)
  | 14 => .inl (true, 4)
  | 15 => .inl (true, 160)
  | _ => .inl (true, 0)
/-- the model: 0 the object; 1 texts, 2 textSize, 3 tape, 4 kinds, 5 cells, 6 depths, 7 sizes, 8 cellsWas, 9 depthsWas, 10 cellsKept, 11 depthsKept, 12 isThere, 13 sorts, 14 sheetSize, 15 items -/
def LM : vLay := (16, lm6)
theorem LO6 : LO LM 0 6 fc6 := ⟨by decide, rfl⟩
theorem LAM1 : LA LM 1 true 960 := ⟨by decide, rfl⟩
theorem LAM2 : LA LM 2 true 6 := ⟨by decide, rfl⟩
theorem LAM3 : LA LM 3 true 160 := ⟨by decide, rfl⟩
theorem LAM4 : LA LM 4 true 12 := ⟨by decide, rfl⟩
theorem LAM5 : LA LM 5 true 12 := ⟨by decide, rfl⟩
theorem LAM6 : LA LM 6 true 12 := ⟨by decide, rfl⟩
theorem LAM7 : LA LM 7 true 12 := ⟨by decide, rfl⟩
theorem LAM8 : LA LM 8 true 12 := ⟨by decide, rfl⟩
theorem LAM9 : LA LM 9 true 12 := ⟨by decide, rfl⟩
theorem LAM10 : LA LM 10 true 12 := ⟨by decide, rfl⟩
theorem LAM11 : LA LM 11 true 12 := ⟨by decide, rfl⟩
theorem LAM12 : LA LM 12 false 4 := ⟨by decide, rfl⟩
theorem LAM13 : LA LM 13 true 4 := ⟨by decide, rfl⟩
theorem LAM14 : LA LM 14 true 4 := ⟨by decide, rfl⟩
theorem LAM15 : LA LM 15 true 160 := ⟨by decide, rfl⟩
end
section
/-! LAYER V, its rows: an instruction each -/
def jr (x y : Int32) : Int32 := x - x / y * y
def jrl (x y : Int64) : Int64 := x - x / y * y
def jl (x y : Int32) : Int32 := x <<< (y &&& 31)
def js (x y : Int32) : Int32 := x >>> (y &&& 31)
def ju (x y : Int32) : Int32 := (x.toUInt32 >>> (y.toUInt32 &&& Int32.toUInt32 31)).toInt32
def jmax (x y : Int32) : Int32 := if x < y then y else x
def jmin (x y : Int32) : Int32 := if y < x then y else x
def jabs (x : Int32) : Int32 := if 0 ≤ x then x else 0 - x
def jn (i : Int32) : Nat := i.toNatClampNeg
abbrev inb (i : Int32) (n : Nat) : Prop := ¬ (i < 0 ∨ n ≤ jn i)
abbrev inc (sp dp n : Int32) (n0 n1 : Nat) : Prop := ¬ sp < 0 ∧ ¬ dp < 0 ∧ ¬ n < 0 ∧ jn sp + jn n ≤ n0 ∧ jn dp + jn n ≤ n1
section VROWS
variable {Λ : vLay} {X : vX} {d nL pc : Nat} {cc : ByteArray} {own : String} {ret : Option FieldType} {lv : List (Option Value)} {st : List Value} {mh : vMH}
theorem V_iconst (C : Cx X d nL cc own ret) {n : Int} {v : Int32} (hd : decode cc pc = .ok (.iconst n, 1)) (hv : Int32.ofInt n = v) (k : Vw Λ X d nL (pc + 1) lv (.int v :: st) mh) : Vw Λ X d nL pc lv (st) mh := by
  obtain ⟨p, l, e, s, m, args, below, meth, c, D, cA, ad, A, Qc⟩ := X
  obtain ⟨hx, hb, hml, hown, hts, hret, hlk, hK, hA, hE⟩ := C
  intro H locs ls hP hD hS hl
  exact lv_iconst hx hb hd hv (k H locs ls hP hD hS hl)
theorem V_bipush (C : Cx X d nL cc own ret) {n : Int} {v : Int32} (hd : decode cc pc = .ok (.bipush n, 2)) (hv : (Int8.ofInt n).toInt32 = v) (k : Vw Λ X d nL (pc + 2) lv (.int v :: st) mh) : Vw Λ X d nL pc lv (st) mh := by
  obtain ⟨p, l, e, s, m, args, below, meth, c, D, cA, ad, A, Qc⟩ := X
  obtain ⟨hx, hb, hml, hown, hts, hret, hlk, hK, hA, hE⟩ := C
  intro H locs ls hP hD hS hl
  exact lv_bipush hx hb hd hv (k H locs ls hP hD hS hl)
theorem V_sipush (C : Cx X d nL cc own ret) {n : Int} {v : Int32} (hd : decode cc pc = .ok (.sipush n, 3)) (hv : (Int16.ofInt n).toInt32 = v) (k : Vw Λ X d nL (pc + 3) lv (.int v :: st) mh) : Vw Λ X d nL pc lv (st) mh := by
  obtain ⟨p, l, e, s, m, args, below, meth, c, D, cA, ad, A, Qc⟩ := X
  obtain ⟨hx, hb, hml, hown, hts, hret, hlk, hK, hA, hE⟩ := C
  intro H locs ls hP hD hS hl
  exact lv_sipush hx hb hd hv (k H locs ls hP hD hS hl)
theorem V_lconst (C : Cx X d nL cc own ret) {n : Fin 2} {v : Int64} (hd : decode cc pc = .ok (.lconst n, 1)) (hv : Int64.ofNat (n : Nat) = v) (k : Vw Λ X d nL (pc + 1) lv (.long v :: st) mh) : Vw Λ X d nL pc lv (st) mh := by
  obtain ⟨p, l, e, s, m, args, below, meth, c, D, cA, ad, A, Qc⟩ := X
  obtain ⟨hx, hb, hml, hown, hts, hret, hlk, hK, hA, hE⟩ := C
  intro H locs ls hP hD hS hl
  exact lv_lconst hx hb hd hv (k H locs ls hP hD hS hl)
theorem V_ldc (C : Cx X d nL cc own ret) {i : Nat} {v : Int32} (hd : decode cc pc = .ok (.ldc i, 2)) (hg : Cond.constant own i v ∈ gw) (k : Vw Λ X d nL (pc + 2) lv (.int v :: st) mh) : Vw Λ X d nL pc lv (st) mh := by
  obtain ⟨p, l, e, s, m, args, below, meth, c, D, cA, ad, A, Qc⟩ := X
  obtain ⟨hx, hb, hml, hown, hts, hret, hlk, hK, hA, hE⟩ := C
  intro H locs ls hP hD hS hl
  exact lv_ldc hx hb hown (hts _ hg) hd (k H locs ls hP hD hS hl)
theorem V_ldcw (C : Cx X d nL cc own ret) {i : Nat} {v : Int32} (hd : decode cc pc = .ok (.ldc_w i, 3)) (hg : Cond.constant own i v ∈ gw) (k : Vw Λ X d nL (pc + 3) lv (.int v :: st) mh) : Vw Λ X d nL pc lv (st) mh := by
  obtain ⟨p, l, e, s, m, args, below, meth, c, D, cA, ad, A, Qc⟩ := X
  obtain ⟨hx, hb, hml, hown, hts, hret, hlk, hK, hA, hE⟩ := C
  intro H locs ls hP hD hS hl
  exact lv_ldcw hx hb hown (hts _ hg) hd (k H locs ls hP hD hS hl)
theorem V_ldc2 (C : Cx X d nL cc own ret) {i : Nat} {v : Int64} (hd : decode cc pc = .ok (.ldc2_w i, 3)) (hg : Cond.constantLong own i v ∈ gw) (k : Vw Λ X d nL (pc + 3) lv (.long v :: st) mh) : Vw Λ X d nL pc lv (st) mh := by
  obtain ⟨p, l, e, s, m, args, below, meth, c, D, cA, ad, A, Qc⟩ := X
  obtain ⟨hx, hb, hml, hown, hts, hret, hlk, hK, hA, hE⟩ := C
  intro H locs ls hP hD hS hl
  exact lv_ldc2 hx hb hown (hts _ hg) hd (k H locs ls hP hD hS hl)
theorem V_iload_n (C : Cx X d nL cc own ret) {j : Fin 4} {i : Nat} {x : Int32} (hd : decode cc pc = .ok (.iload_n j, 1)) (hi : (j : Nat) = i) (hv : lv[i]? = some (some (.int x))) (k : Vw Λ X d nL (pc + 1) lv (.int x :: st) mh) : Vw Λ X d nL pc lv (st) mh := by
  obtain ⟨p, l, e, s, m, args, below, meth, c, D, cA, ad, A, Qc⟩ := X
  obtain ⟨hx, hb, hml, hown, hts, hret, hlk, hK, hA, hE⟩ := C
  intro H locs ls hP hD hS hl
  exact lv_iload_n hx hb hd hi (v_lv_get hl hv) (k H locs ls hP hD hS hl)
theorem V_iload (C : Cx X d nL cc own ret) {i : Nat} {x : Int32} (hd : decode cc pc = .ok (.iload i, 2)) (hv : lv[i]? = some (some (.int x))) (k : Vw Λ X d nL (pc + 2) lv (.int x :: st) mh) : Vw Λ X d nL pc lv (st) mh := by
  obtain ⟨p, l, e, s, m, args, below, meth, c, D, cA, ad, A, Qc⟩ := X
  obtain ⟨hx, hb, hml, hown, hts, hret, hlk, hK, hA, hE⟩ := C
  intro H locs ls hP hD hS hl
  exact lv_iload hx hb hd (v_lv_get hl hv) (k H locs ls hP hD hS hl)
theorem V_lload_n (C : Cx X d nL cc own ret) {j : Fin 4} {i : Nat} {x : Int64} (hd : decode cc pc = .ok (.lload_n j, 1)) (hi : (j : Nat) = i) (hv : lv[i]? = some (some (.long x))) (k : Vw Λ X d nL (pc + 1) lv (.long x :: st) mh) : Vw Λ X d nL pc lv (st) mh := by
  obtain ⟨p, l, e, s, m, args, below, meth, c, D, cA, ad, A, Qc⟩ := X
  obtain ⟨hx, hb, hml, hown, hts, hret, hlk, hK, hA, hE⟩ := C
  intro H locs ls hP hD hS hl
  exact lv_lload_n hx hb hd hi (v_lv_get hl hv) (k H locs ls hP hD hS hl)
theorem V_lload (C : Cx X d nL cc own ret) {i : Nat} {x : Int64} (hd : decode cc pc = .ok (.lload i, 2)) (hv : lv[i]? = some (some (.long x))) (k : Vw Λ X d nL (pc + 2) lv (.long x :: st) mh) : Vw Λ X d nL pc lv (st) mh := by
  obtain ⟨p, l, e, s, m, args, below, meth, c, D, cA, ad, A, Qc⟩ := X
  obtain ⟨hx, hb, hml, hown, hts, hret, hlk, hK, hA, hE⟩ := C
  intro H locs ls hP hD hS hl
  exact lv_lload hx hb hd (v_lv_get hl hv) (k H locs ls hP hD hS hl)
theorem V_aload_n (C : Cx X d nL cc own ret) {j : Fin 4} {i r : Nat} (hd : decode cc pc = .ok (.aload_n j, 1)) (hi : (j : Nat) = i) (hv : lv[i]? = some (some (.ref r))) (k : Vw Λ X d nL (pc + 1) lv (.ref r :: st) mh) : Vw Λ X d nL pc lv (st) mh := by
  obtain ⟨p, l, e, s, m, args, below, meth, c, D, cA, ad, A, Qc⟩ := X
  obtain ⟨hx, hb, hml, hown, hts, hret, hlk, hK, hA, hE⟩ := C
  intro H locs ls hP hD hS hl
  exact lv_aload_n hx hb hd hi (v_lv_get hl hv) (k H locs ls hP hD hS hl)
theorem V_aload (C : Cx X d nL cc own ret) {i r : Nat} (hd : decode cc pc = .ok (.aload i, 2)) (hv : lv[i]? = some (some (.ref r))) (k : Vw Λ X d nL (pc + 2) lv (.ref r :: st) mh) : Vw Λ X d nL pc lv (st) mh := by
  obtain ⟨p, l, e, s, m, args, below, meth, c, D, cA, ad, A, Qc⟩ := X
  obtain ⟨hx, hb, hml, hown, hts, hret, hlk, hK, hA, hE⟩ := C
  intro H locs ls hP hD hS hl
  exact lv_aload hx hb hd (v_lv_get hl hv) (k H locs ls hP hD hS hl)
theorem V_istore_n (C : Cx X d nL cc own ret) {j : Fin 4} {i : Nat} {x : Int32} {lv' : List (Option Value)} (hd : decode cc pc = .ok (.istore_n j, 1)) (hj : (j : Nat) = i) (hn : i < nL) (hi : i < lv.length) (hq : v_nl lv i = true) (hlv : (lv.set i (some (.int x))) = lv') (k : Vw Λ X d nL (pc + 1) lv' st mh) : Vw Λ X d nL pc lv (.int x :: st) mh := by
  subst hlv
  obtain ⟨p, l, e, s, m, args, below, meth, c, D, cA, ad, A, Qc⟩ := X
  obtain ⟨hx, hb, hml, hown, hts, hret, hlk, hK, hA, hE⟩ := C
  intro H locs ls hP hD hS hl
  exact lv_istore_n hx hb hd hj hl hn rfl (fun ls' hl' => k H locs ls' hP hD hS (v_lv_set1 (v := .int x) rfl hl' hq hi))
theorem V_istore (C : Cx X d nL cc own ret) {i : Nat} {x : Int32} {lv' : List (Option Value)} (hd : decode cc pc = .ok (.istore i, 2)) (hn : i < nL) (hi : i < lv.length) (hq : v_nl lv i = true) (hlv : (lv.set i (some (.int x))) = lv') (k : Vw Λ X d nL (pc + 2) lv' st mh) : Vw Λ X d nL pc lv (.int x :: st) mh := by
  subst hlv
  obtain ⟨p, l, e, s, m, args, below, meth, c, D, cA, ad, A, Qc⟩ := X
  obtain ⟨hx, hb, hml, hown, hts, hret, hlk, hK, hA, hE⟩ := C
  intro H locs ls hP hD hS hl
  exact lv_istore hx hb hd hl hn rfl (fun ls' hl' => k H locs ls' hP hD hS (v_lv_set1 (v := .int x) rfl hl' hq hi))
theorem V_lstore_n (C : Cx X d nL cc own ret) {j : Fin 4} {i : Nat} {x : Int64} {lv' : List (Option Value)} (hd : decode cc pc = .ok (.lstore_n j, 1)) (hj : (j : Nat) = i) (hn : i + 1 < nL) (hi : i + 1 < lv.length) (hq : v_nl lv i = true) (hlv : ((lv.set i (some (.long x))).set (i + 1) none) = lv') (k : Vw Λ X d nL (pc + 1) lv' st mh) : Vw Λ X d nL pc lv (.long x :: st) mh := by
  subst hlv
  obtain ⟨p, l, e, s, m, args, below, meth, c, D, cA, ad, A, Qc⟩ := X
  obtain ⟨hx, hb, hml, hown, hts, hret, hlk, hK, hA, hE⟩ := C
  intro H locs ls hP hD hS hl
  exact lv_lstore_n hx hb hd hj hl hn rfl (fun ls' hl' => k H locs ls' hP hD hS (v_lv_set2 (v := .long x) rfl hl' hq hi))
theorem V_lstore (C : Cx X d nL cc own ret) {i : Nat} {x : Int64} {lv' : List (Option Value)} (hd : decode cc pc = .ok (.lstore i, 2)) (hn : i + 1 < nL) (hi : i + 1 < lv.length) (hq : v_nl lv i = true) (hlv : ((lv.set i (some (.long x))).set (i + 1) none) = lv') (k : Vw Λ X d nL (pc + 2) lv' st mh) : Vw Λ X d nL pc lv (.long x :: st) mh := by
  subst hlv
  obtain ⟨p, l, e, s, m, args, below, meth, c, D, cA, ad, A, Qc⟩ := X
  obtain ⟨hx, hb, hml, hown, hts, hret, hlk, hK, hA, hE⟩ := C
  intro H locs ls hP hD hS hl
  exact lv_lstore hx hb hd hl hn rfl (fun ls' hl' => k H locs ls' hP hD hS (v_lv_set2 (v := .long x) rfl hl' hq hi))
theorem V_iinc (C : Cx X d nL cc own ret) {i : Nat} {n : Int} {x : Int32} (hd : decode cc pc = .ok (.iinc i n, 3)) (hv : lv[i]? = some (some (.int x))) {v : Int32} (hvn : x + Int32.ofInt n = v) {lv' : List (Option Value)} (hn : i < nL) (hi : i < lv.length) (hq : v_nl lv i = true) (hlv : lv.set i (some (.int v)) = lv') (k : Vw Λ X d nL (pc + 3) lv' st mh) : Vw Λ X d nL pc lv st mh := by
  subst hlv
  obtain ⟨p, l, e, s, m, args, below, meth, c, D, cA, ad, A, Qc⟩ := X
  obtain ⟨hx, hb, hml, hown, hts, hret, hlk, hK, hA, hE⟩ := C
  intro H locs ls hP hD hS hl
  obtain ⟨j, hj⟩ := List.getElem?_of_mem ((v_lv_mem (ad := ad) lv 0 (i, .int x)).mpr ⟨i, .int x, hv, by simp [v_tr]⟩)
  exact lv_iinc hx hb hd hl hj hvn hn rfl (fun ls' hl' => k H locs ls' hP hD hS (v_lv_set1 (v := .int v) rfl hl' hq hi))
theorem V_iadd (C : Cx X d nL cc own ret) {x y : Int32} (hd : decode cc pc = .ok (.iadd, 1)) (k : Vw Λ X d nL (pc + 1) lv (.int (x + y) :: st) mh) : Vw Λ X d nL pc lv (.int y :: .int x :: st) mh := by
  obtain ⟨p, l, e, s, m, args, below, meth, c, D, cA, ad, A, Qc⟩ := X
  obtain ⟨hx, hb, hml, hown, hts, hret, hlk, hK, hA, hE⟩ := C
  intro H locs ls hP hD hS hl
  exact lv_iadd hx hb hd (k H locs ls hP hD hS hl)
theorem V_isub (C : Cx X d nL cc own ret) {x y : Int32} (hd : decode cc pc = .ok (.isub, 1)) (k : Vw Λ X d nL (pc + 1) lv (.int (x - y) :: st) mh) : Vw Λ X d nL pc lv (.int y :: .int x :: st) mh := by
  obtain ⟨p, l, e, s, m, args, below, meth, c, D, cA, ad, A, Qc⟩ := X
  obtain ⟨hx, hb, hml, hown, hts, hret, hlk, hK, hA, hE⟩ := C
  intro H locs ls hP hD hS hl
  exact lv_isub hx hb hd (k H locs ls hP hD hS hl)
theorem V_imul (C : Cx X d nL cc own ret) {x y : Int32} (hd : decode cc pc = .ok (.imul, 1)) (k : Vw Λ X d nL (pc + 1) lv (.int (x * y) :: st) mh) : Vw Λ X d nL pc lv (.int y :: .int x :: st) mh := by
  obtain ⟨p, l, e, s, m, args, below, meth, c, D, cA, ad, A, Qc⟩ := X
  obtain ⟨hx, hb, hml, hown, hts, hret, hlk, hK, hA, hE⟩ := C
  intro H locs ls hP hD hS hl
  exact lv_imul hx hb hd (k H locs ls hP hD hS hl)
theorem V_iand (C : Cx X d nL cc own ret) {x y : Int32} (hd : decode cc pc = .ok (.iand, 1)) (k : Vw Λ X d nL (pc + 1) lv (.int (x &&& y) :: st) mh) : Vw Λ X d nL pc lv (.int y :: .int x :: st) mh := by
  obtain ⟨p, l, e, s, m, args, below, meth, c, D, cA, ad, A, Qc⟩ := X
  obtain ⟨hx, hb, hml, hown, hts, hret, hlk, hK, hA, hE⟩ := C
  intro H locs ls hP hD hS hl
  exact lv_iand hx hb hd (k H locs ls hP hD hS hl)
theorem V_ior (C : Cx X d nL cc own ret) {x y : Int32} (hd : decode cc pc = .ok (.ior, 1)) (k : Vw Λ X d nL (pc + 1) lv (.int (x ||| y) :: st) mh) : Vw Λ X d nL pc lv (.int y :: .int x :: st) mh := by
  obtain ⟨p, l, e, s, m, args, below, meth, c, D, cA, ad, A, Qc⟩ := X
  obtain ⟨hx, hb, hml, hown, hts, hret, hlk, hK, hA, hE⟩ := C
  intro H locs ls hP hD hS hl
  exact lv_ior hx hb hd (k H locs ls hP hD hS hl)
theorem V_ixor (C : Cx X d nL cc own ret) {x y : Int32} (hd : decode cc pc = .ok (.ixor, 1)) (k : Vw Λ X d nL (pc + 1) lv (.int (x ^^^ y) :: st) mh) : Vw Λ X d nL pc lv (.int y :: .int x :: st) mh := by
  obtain ⟨p, l, e, s, m, args, below, meth, c, D, cA, ad, A, Qc⟩ := X
  obtain ⟨hx, hb, hml, hown, hts, hret, hlk, hK, hA, hE⟩ := C
  intro H locs ls hP hD hS hl
  exact lv_ixor hx hb hd (k H locs ls hP hD hS hl)
theorem V_ishl (C : Cx X d nL cc own ret) {x y : Int32} (hd : decode cc pc = .ok (.ishl, 1)) (k : Vw Λ X d nL (pc + 1) lv (.int (jl x y) :: st) mh) : Vw Λ X d nL pc lv (.int y :: .int x :: st) mh := by
  obtain ⟨p, l, e, s, m, args, below, meth, c, D, cA, ad, A, Qc⟩ := X
  obtain ⟨hx, hb, hml, hown, hts, hret, hlk, hK, hA, hE⟩ := C
  intro H locs ls hP hD hS hl
  exact lv_ishl hx hb hd (k H locs ls hP hD hS hl)
theorem V_ishr (C : Cx X d nL cc own ret) {x y : Int32} (hd : decode cc pc = .ok (.ishr, 1)) (k : Vw Λ X d nL (pc + 1) lv (.int (js x y) :: st) mh) : Vw Λ X d nL pc lv (.int y :: .int x :: st) mh := by
  obtain ⟨p, l, e, s, m, args, below, meth, c, D, cA, ad, A, Qc⟩ := X
  obtain ⟨hx, hb, hml, hown, hts, hret, hlk, hK, hA, hE⟩ := C
  intro H locs ls hP hD hS hl
  exact lv_ishr hx hb hd (k H locs ls hP hD hS hl)
theorem V_iushr (C : Cx X d nL cc own ret) {x y : Int32} (hd : decode cc pc = .ok (.iushr, 1)) (k : Vw Λ X d nL (pc + 1) lv (.int (ju x y) :: st) mh) : Vw Λ X d nL pc lv (.int y :: .int x :: st) mh := by
  obtain ⟨p, l, e, s, m, args, below, meth, c, D, cA, ad, A, Qc⟩ := X
  obtain ⟨hx, hb, hml, hown, hts, hret, hlk, hK, hA, hE⟩ := C
  intro H locs ls hP hD hS hl
  exact lv_iushr hx hb hd (v := ju x y) rfl (k H locs ls hP hD hS hl)
theorem V_idiv (C : Cx X d nL cc own ret) {x y : Int32} (hd : decode cc pc = .ok (.idiv, 1)) (hne : ¬ y = 0) (k : Vw Λ X d nL (pc + 1) lv (.int (x / y) :: st) mh) : Vw Λ X d nL pc lv (.int y :: .int x :: st) mh := by
  obtain ⟨p, l, e, s, m, args, below, meth, c, D, cA, ad, A, Qc⟩ := X
  obtain ⟨hx, hb, hml, hown, hts, hret, hlk, hK, hA, hE⟩ := C
  intro H locs ls hP hD hS hl
  exact lv_idiv hx hb hd hne (k H locs ls hP hD hS hl)
theorem V_irem (C : Cx X d nL cc own ret) {x y : Int32} (hd : decode cc pc = .ok (.irem, 1)) (hne : ¬ y = 0) (k : Vw Λ X d nL (pc + 1) lv (.int (jr x y) :: st) mh) : Vw Λ X d nL pc lv (.int y :: .int x :: st) mh := by
  obtain ⟨p, l, e, s, m, args, below, meth, c, D, cA, ad, A, Qc⟩ := X
  obtain ⟨hx, hb, hml, hown, hts, hret, hlk, hK, hA, hE⟩ := C
  intro H locs ls hP hD hS hl
  exact lv_irem hx hb hd hne (k H locs ls hP hD hS hl)
theorem V_ineg (C : Cx X d nL cc own ret) {x : Int32} (hd : decode cc pc = .ok (.ineg, 1)) (k : Vw Λ X d nL (pc + 1) lv (.int (-x) :: st) mh) : Vw Λ X d nL pc lv (.int x :: st) mh := by
  obtain ⟨p, l, e, s, m, args, below, meth, c, D, cA, ad, A, Qc⟩ := X
  obtain ⟨hx, hb, hml, hown, hts, hret, hlk, hK, hA, hE⟩ := C
  intro H locs ls hP hD hS hl
  exact lv_ineg hx hb hd (k H locs ls hP hD hS hl)
theorem V_ladd (C : Cx X d nL cc own ret) {x y : Int64} (hd : decode cc pc = .ok (.ladd, 1)) (k : Vw Λ X d nL (pc + 1) lv (.long (x + y) :: st) mh) : Vw Λ X d nL pc lv (.long y :: .long x :: st) mh := by
  obtain ⟨p, l, e, s, m, args, below, meth, c, D, cA, ad, A, Qc⟩ := X
  obtain ⟨hx, hb, hml, hown, hts, hret, hlk, hK, hA, hE⟩ := C
  intro H locs ls hP hD hS hl
  exact lv_ladd hx hb hd (k H locs ls hP hD hS hl)
theorem V_lsub (C : Cx X d nL cc own ret) {x y : Int64} (hd : decode cc pc = .ok (.lsub, 1)) (k : Vw Λ X d nL (pc + 1) lv (.long (x - y) :: st) mh) : Vw Λ X d nL pc lv (.long y :: .long x :: st) mh := by
  obtain ⟨p, l, e, s, m, args, below, meth, c, D, cA, ad, A, Qc⟩ := X
  obtain ⟨hx, hb, hml, hown, hts, hret, hlk, hK, hA, hE⟩ := C
  intro H locs ls hP hD hS hl
  exact lv_lsub hx hb hd (k H locs ls hP hD hS hl)
theorem V_lmul (C : Cx X d nL cc own ret) {x y : Int64} (hd : decode cc pc = .ok (.lmul, 1)) (k : Vw Λ X d nL (pc + 1) lv (.long (x * y) :: st) mh) : Vw Λ X d nL pc lv (.long y :: .long x :: st) mh := by
  obtain ⟨p, l, e, s, m, args, below, meth, c, D, cA, ad, A, Qc⟩ := X
  obtain ⟨hx, hb, hml, hown, hts, hret, hlk, hK, hA, hE⟩ := C
  intro H locs ls hP hD hS hl
  exact lv_lmul hx hb hd (k H locs ls hP hD hS hl)
theorem V_ldiv (C : Cx X d nL cc own ret) {x y : Int64} (hd : decode cc pc = .ok (.ldiv, 1)) (hne : ¬ y = 0) (k : Vw Λ X d nL (pc + 1) lv (.long (x / y) :: st) mh) : Vw Λ X d nL pc lv (.long y :: .long x :: st) mh := by
  obtain ⟨p, l, e, s, m, args, below, meth, c, D, cA, ad, A, Qc⟩ := X
  obtain ⟨hx, hb, hml, hown, hts, hret, hlk, hK, hA, hE⟩ := C
  intro H locs ls hP hD hS hl
  exact lv_ldiv hx hb hd hne (k H locs ls hP hD hS hl)
theorem V_lrem (C : Cx X d nL cc own ret) {x y : Int64} (hd : decode cc pc = .ok (.lrem, 1)) (hne : ¬ y = 0) (k : Vw Λ X d nL (pc + 1) lv (.long (jrl x y) :: st) mh) : Vw Λ X d nL pc lv (.long y :: .long x :: st) mh := by
  obtain ⟨p, l, e, s, m, args, below, meth, c, D, cA, ad, A, Qc⟩ := X
  obtain ⟨hx, hb, hml, hown, hts, hret, hlk, hK, hA, hE⟩ := C
  intro H locs ls hP hD hS hl
  exact lv_lrem hx hb hd hne (k H locs ls hP hD hS hl)
theorem V_lcmp (C : Cx X d nL cc own ret) {x y : Int64} (hd : decode cc pc = .ok (.lcmp, 1)) (k : Vw Λ X d nL (pc + 1) lv (.int (lg_cmp x y) :: st) mh) : Vw Λ X d nL pc lv (.long y :: .long x :: st) mh := by
  obtain ⟨p, l, e, s, m, args, below, meth, c, D, cA, ad, A, Qc⟩ := X
  obtain ⟨hx, hb, hml, hown, hts, hret, hlk, hK, hA, hE⟩ := C
  intro H locs ls hP hD hS hl
  exact W.lcmp hx hb hd (k H locs ls hP hD hS hl)
theorem V_i2l (C : Cx X d nL cc own ret) {x : Int32} (hd : decode cc pc = .ok (.i2l, 1)) (k : Vw Λ X d nL (pc + 1) lv (.long x.toInt64 :: st) mh) : Vw Λ X d nL pc lv (.int x :: st) mh := by
  obtain ⟨p, l, e, s, m, args, below, meth, c, D, cA, ad, A, Qc⟩ := X
  obtain ⟨hx, hb, hml, hown, hts, hret, hlk, hK, hA, hE⟩ := C
  intro H locs ls hP hD hS hl
  exact lv_i2l hx hb hd (v := x.toInt64) rfl (k H locs ls hP hD hS hl)
theorem V_l2i (C : Cx X d nL cc own ret) {x : Int64} (hd : decode cc pc = .ok (.l2i, 1)) (k : Vw Λ X d nL (pc + 1) lv (.int x.toInt32 :: st) mh) : Vw Λ X d nL pc lv (.long x :: st) mh := by
  obtain ⟨p, l, e, s, m, args, below, meth, c, D, cA, ad, A, Qc⟩ := X
  obtain ⟨hx, hb, hml, hown, hts, hret, hlk, hK, hA, hE⟩ := C
  intro H locs ls hP hD hS hl
  exact lv_l2i hx hb hd (v := x.toInt32) rfl (k H locs ls hP hD hS hl)
theorem V_i2b (C : Cx X d nL cc own ret) {x : Int32} (hd : decode cc pc = .ok (.i2b, 1)) (k : Vw Λ X d nL (pc + 1) lv (.int x.toInt8.toInt32 :: st) mh) : Vw Λ X d nL pc lv (.int x :: st) mh := by
  obtain ⟨p, l, e, s, m, args, below, meth, c, D, cA, ad, A, Qc⟩ := X
  obtain ⟨hx, hb, hml, hown, hts, hret, hlk, hK, hA, hE⟩ := C
  intro H locs ls hP hD hS hl
  exact lv_i2b hx hb hd (v := x.toInt8.toInt32) rfl (k H locs ls hP hD hS hl)
theorem V_i2s (C : Cx X d nL cc own ret) {x : Int32} (hd : decode cc pc = .ok (.i2s, 1)) (k : Vw Λ X d nL (pc + 1) lv (.int x.toInt16.toInt32 :: st) mh) : Vw Λ X d nL pc lv (.int x :: st) mh := by
  obtain ⟨p, l, e, s, m, args, below, meth, c, D, cA, ad, A, Qc⟩ := X
  obtain ⟨hx, hb, hml, hown, hts, hret, hlk, hK, hA, hE⟩ := C
  intro H locs ls hP hD hS hl
  exact lv_i2s hx hb hd (v := x.toInt16.toInt32) rfl (k H locs ls hP hD hS hl)
theorem V_dup (C : Cx X d nL cc own ret) {v : Value} (hd : decode cc pc = .ok (.dup, 1)) (hc : v.category = 1) (k : Vw Λ X d nL (pc + 1) lv (v :: v :: st) mh) : Vw Λ X d nL pc lv (v :: st) mh := by
  obtain ⟨p, l, e, s, m, args, below, meth, c, D, cA, ad, A, Qc⟩ := X
  obtain ⟨hx, hb, hml, hown, hts, hret, hlk, hK, hA, hE⟩ := C
  intro H locs ls hP hD hS hl
  exact lv_dup hx hb hd (by rw [v_tr_cat]; exact hc) (k H locs ls hP hD hS hl)
theorem V_pop (C : Cx X d nL cc own ret) {v : Value} (hd : decode cc pc = .ok (.pop, 1)) (hc : v.category = 1) (k : Vw Λ X d nL (pc + 1) lv (st) mh) : Vw Λ X d nL pc lv (v :: st) mh := by
  obtain ⟨p, l, e, s, m, args, below, meth, c, D, cA, ad, A, Qc⟩ := X
  obtain ⟨hx, hb, hml, hown, hts, hret, hlk, hK, hA, hE⟩ := C
  intro H locs ls hP hD hS hl
  exact lv_pop hx hb hd (by rw [v_tr_cat]; exact hc) (k H locs ls hP hD hS hl)
theorem V_dup2 (C : Cx X d nL cc own ret) {v w : Value} (hd : decode cc pc = .ok (.dup2, 1)) (hc : v.category = 1) (hc2 : w.category = 1) (k : Vw Λ X d nL (pc + 1) lv (v :: w :: v :: w :: st) mh) : Vw Λ X d nL pc lv (v :: w :: st) mh := by
  obtain ⟨p, l, e, s, m, args, below, meth, c, D, cA, ad, A, Qc⟩ := X
  obtain ⟨hx, hb, hml, hown, hts, hret, hlk, hK, hA, hE⟩ := C
  intro H locs ls hP hD hS hl
  exact lv_dup2_11 hx hb hd (by rw [v_tr_cat]; exact hc) (by rw [v_tr_cat]; exact hc2) (k H locs ls hP hD hS hl)
theorem V_goto (C : Cx X d nL cc own ret) {off : Int} {tgt : Nat} (hd : decode cc pc = .ok (.goto off, 3)) (ht : (pc : Int) + off = (tgt : Int)) (k : Vw Λ X d nL tgt lv st mh) : Vw Λ X d nL pc lv st mh := by
  obtain ⟨p, l, e, s, m, args, below, meth, c, D, cA, ad, A, Qc⟩ := X
  obtain ⟨hx, hb, hml, hown, hts, hret, hlk, hK, hA, hE⟩ := C
  intro H locs ls hP hD hS hl
  exact lv_goto hx hb hd ht (k H locs ls hP hD hS hl)
theorem V_ifeq (C : Cx X d nL cc own ret) {x : Int32} {off : Int} {tgt : Nat} (hd : decode cc pc = .ok (.ifCond .eq off, 3)) (ht : (pc : Int) + off = (tgt : Int)) (kt : x = 0 → Vw Λ X d nL tgt lv st mh) (kf : ¬ x = 0 → Vw Λ X d nL (pc + 3) lv st mh) : Vw Λ X d nL pc lv (.int x :: st) mh := by
  obtain ⟨p, l, e, s, m, args, below, meth, c, D, cA, ad, A, Qc⟩ := X
  obtain ⟨hx, hb, hml, hown, hts, hret, hlk, hK, hA, hE⟩ := C
  intro H locs ls hP hD hS hl
  exact lv_if_eq hx hb hd ht (fun h => kt h H locs ls hP hD hS hl) (fun h => kf h H locs ls hP hD hS hl)
theorem V_iflt (C : Cx X d nL cc own ret) {x : Int32} {off : Int} {tgt : Nat} (hd : decode cc pc = .ok (.ifCond .lt off, 3)) (ht : (pc : Int) + off = (tgt : Int)) (kt : x < 0 → Vw Λ X d nL tgt lv st mh) (kf : ¬ x < 0 → Vw Λ X d nL (pc + 3) lv st mh) : Vw Λ X d nL pc lv (.int x :: st) mh := by
  obtain ⟨p, l, e, s, m, args, below, meth, c, D, cA, ad, A, Qc⟩ := X
  obtain ⟨hx, hb, hml, hown, hts, hret, hlk, hK, hA, hE⟩ := C
  intro H locs ls hP hD hS hl
  exact lv_if_lt hx hb hd ht (fun h => kt h H locs ls hP hD hS hl) (fun h => kf h H locs ls hP hD hS hl)
theorem V_ifge (C : Cx X d nL cc own ret) {x : Int32} {off : Int} {tgt : Nat} (hd : decode cc pc = .ok (.ifCond .ge off, 3)) (ht : (pc : Int) + off = (tgt : Int)) (kt : 0 ≤ x → Vw Λ X d nL tgt lv st mh) (kf : ¬ 0 ≤ x → Vw Λ X d nL (pc + 3) lv st mh) : Vw Λ X d nL pc lv (.int x :: st) mh := by
  obtain ⟨p, l, e, s, m, args, below, meth, c, D, cA, ad, A, Qc⟩ := X
  obtain ⟨hx, hb, hml, hown, hts, hret, hlk, hK, hA, hE⟩ := C
  intro H locs ls hP hD hS hl
  exact lv_if_ge hx hb hd ht (fun h => kt h H locs ls hP hD hS hl) (fun h => kf h H locs ls hP hD hS hl)
theorem V_ifgt (C : Cx X d nL cc own ret) {x : Int32} {off : Int} {tgt : Nat} (hd : decode cc pc = .ok (.ifCond .gt off, 3)) (ht : (pc : Int) + off = (tgt : Int)) (kt : 0 < x → Vw Λ X d nL tgt lv st mh) (kf : ¬ 0 < x → Vw Λ X d nL (pc + 3) lv st mh) : Vw Λ X d nL pc lv (.int x :: st) mh := by
  obtain ⟨p, l, e, s, m, args, below, meth, c, D, cA, ad, A, Qc⟩ := X
  obtain ⟨hx, hb, hml, hown, hts, hret, hlk, hK, hA, hE⟩ := C
  intro H locs ls hP hD hS hl
  exact lv_if_gt hx hb hd ht (fun h => kt h H locs ls hP hD hS hl) (fun h => kf h H locs ls hP hD hS hl)
theorem V_ifle (C : Cx X d nL cc own ret) {x : Int32} {off : Int} {tgt : Nat} (hd : decode cc pc = .ok (.ifCond .le off, 3)) (ht : (pc : Int) + off = (tgt : Int)) (kt : x ≤ 0 → Vw Λ X d nL tgt lv st mh) (kf : ¬ x ≤ 0 → Vw Λ X d nL (pc + 3) lv st mh) : Vw Λ X d nL pc lv (.int x :: st) mh := by
  obtain ⟨p, l, e, s, m, args, below, meth, c, D, cA, ad, A, Qc⟩ := X
  obtain ⟨hx, hb, hml, hown, hts, hret, hlk, hK, hA, hE⟩ := C
  intro H locs ls hP hD hS hl
  exact lv_if_le hx hb hd ht (fun h => kt h H locs ls hP hD hS hl) (fun h => kf h H locs ls hP hD hS hl)
theorem V_ifne (C : Cx X d nL cc own ret) {x : Int32} {off : Int} {tgt : Nat} (hd : decode cc pc = .ok (.ifCond .ne off, 3)) (ht : (pc : Int) + off = (tgt : Int)) (kt : ¬ x = 0 → Vw Λ X d nL tgt lv st mh) (kf : x = 0 → Vw Λ X d nL (pc + 3) lv st mh) : Vw Λ X d nL pc lv (.int x :: st) mh := by
  obtain ⟨p, l, e, s, m, args, below, meth, c, D, cA, ad, A, Qc⟩ := X
  obtain ⟨hx, hb, hml, hown, hts, hret, hlk, hK, hA, hE⟩ := C
  intro H locs ls hP hD hS hl
  exact lv_if_ne hx hb hd ht (fun h => kt h H locs ls hP hD hS hl) (fun h => kf h H locs ls hP hD hS hl)
theorem V_icmpeq (C : Cx X d nL cc own ret) {x y : Int32} {off : Int} {tgt : Nat} (hd : decode cc pc = .ok (.if_icmp .eq off, 3)) (ht : (pc : Int) + off = (tgt : Int)) (kt : x = y → Vw Λ X d nL tgt lv st mh) (kf : ¬ x = y → Vw Λ X d nL (pc + 3) lv st mh) : Vw Λ X d nL pc lv (.int y :: .int x :: st) mh := by
  obtain ⟨p, l, e, s, m, args, below, meth, c, D, cA, ad, A, Qc⟩ := X
  obtain ⟨hx, hb, hml, hown, hts, hret, hlk, hK, hA, hE⟩ := C
  intro H locs ls hP hD hS hl
  exact lv_icmp_eq hx hb hd ht (fun h => kt h H locs ls hP hD hS hl) (fun h => kf h H locs ls hP hD hS hl)
theorem V_icmplt (C : Cx X d nL cc own ret) {x y : Int32} {off : Int} {tgt : Nat} (hd : decode cc pc = .ok (.if_icmp .lt off, 3)) (ht : (pc : Int) + off = (tgt : Int)) (kt : x < y → Vw Λ X d nL tgt lv st mh) (kf : ¬ x < y → Vw Λ X d nL (pc + 3) lv st mh) : Vw Λ X d nL pc lv (.int y :: .int x :: st) mh := by
  obtain ⟨p, l, e, s, m, args, below, meth, c, D, cA, ad, A, Qc⟩ := X
  obtain ⟨hx, hb, hml, hown, hts, hret, hlk, hK, hA, hE⟩ := C
  intro H locs ls hP hD hS hl
  exact lv_icmp_lt hx hb hd ht (fun h => kt h H locs ls hP hD hS hl) (fun h => kf h H locs ls hP hD hS hl)
theorem V_icmpge (C : Cx X d nL cc own ret) {x y : Int32} {off : Int} {tgt : Nat} (hd : decode cc pc = .ok (.if_icmp .ge off, 3)) (ht : (pc : Int) + off = (tgt : Int)) (kt : y ≤ x → Vw Λ X d nL tgt lv st mh) (kf : ¬ y ≤ x → Vw Λ X d nL (pc + 3) lv st mh) : Vw Λ X d nL pc lv (.int y :: .int x :: st) mh := by
  obtain ⟨p, l, e, s, m, args, below, meth, c, D, cA, ad, A, Qc⟩ := X
  obtain ⟨hx, hb, hml, hown, hts, hret, hlk, hK, hA, hE⟩ := C
  intro H locs ls hP hD hS hl
  exact lv_icmp_ge hx hb hd ht (fun h => kt h H locs ls hP hD hS hl) (fun h => kf h H locs ls hP hD hS hl)
theorem V_icmpgt (C : Cx X d nL cc own ret) {x y : Int32} {off : Int} {tgt : Nat} (hd : decode cc pc = .ok (.if_icmp .gt off, 3)) (ht : (pc : Int) + off = (tgt : Int)) (kt : y < x → Vw Λ X d nL tgt lv st mh) (kf : ¬ y < x → Vw Λ X d nL (pc + 3) lv st mh) : Vw Λ X d nL pc lv (.int y :: .int x :: st) mh := by
  obtain ⟨p, l, e, s, m, args, below, meth, c, D, cA, ad, A, Qc⟩ := X
  obtain ⟨hx, hb, hml, hown, hts, hret, hlk, hK, hA, hE⟩ := C
  intro H locs ls hP hD hS hl
  exact lv_icmp_gt hx hb hd ht (fun h => kt h H locs ls hP hD hS hl) (fun h => kf h H locs ls hP hD hS hl)
theorem V_icmple (C : Cx X d nL cc own ret) {x y : Int32} {off : Int} {tgt : Nat} (hd : decode cc pc = .ok (.if_icmp .le off, 3)) (ht : (pc : Int) + off = (tgt : Int)) (kt : x ≤ y → Vw Λ X d nL tgt lv st mh) (kf : ¬ x ≤ y → Vw Λ X d nL (pc + 3) lv st mh) : Vw Λ X d nL pc lv (.int y :: .int x :: st) mh := by
  obtain ⟨p, l, e, s, m, args, below, meth, c, D, cA, ad, A, Qc⟩ := X
  obtain ⟨hx, hb, hml, hown, hts, hret, hlk, hK, hA, hE⟩ := C
  intro H locs ls hP hD hS hl
  exact lv_icmp_le hx hb hd ht (fun h => kt h H locs ls hP hD hS hl) (fun h => kf h H locs ls hP hD hS hl)
theorem V_icmpne (C : Cx X d nL cc own ret) {x y : Int32} {off : Int} {tgt : Nat} (hd : decode cc pc = .ok (.if_icmp .ne off, 3)) (ht : (pc : Int) + off = (tgt : Int)) (kt : ¬ x = y → Vw Λ X d nL tgt lv st mh) (kf : x = y → Vw Λ X d nL (pc + 3) lv st mh) : Vw Λ X d nL pc lv (.int y :: .int x :: st) mh := by
  obtain ⟨p, l, e, s, m, args, below, meth, c, D, cA, ad, A, Qc⟩ := X
  obtain ⟨hx, hb, hml, hown, hts, hret, hlk, hK, hA, hE⟩ := C
  intro H locs ls hP hD hS hl
  exact lv_icmp_ne hx hb hd ht (fun h => kt h H locs ls hP hD hS hl) (fun h => kf h H locs ls hP hD hS hl)
/-- where a tableswitch goes -/
def v_tgt (pc : Nat) (dflt lo hi : Int) (offs : List Int) (x : Int32) : Int := if x.toInt < lo ∨ hi < x.toInt then pc + dflt else pc + offs.getD (x.toInt - lo).toNat dflt
theorem V_tab (C : Cx X d nL cc own ret) {x : Int32} {dflt lo hi : Int} {offs : Array Int} {len tgt : Nat} (hd : decode cc pc = .ok (.tableswitch dflt lo hi offs, len)) (hh : hi < lo + offs.size) (ht : v_tgt pc dflt lo hi offs.toList x = (tgt : Int)) (k : Vw Λ X d nL tgt lv st mh) : Vw Λ X d nL pc lv (.int x :: st) mh := by
  obtain ⟨p, l, e, s, m, args, below, meth, c, D, cA, ad, A, Qc⟩ := X
  obtain ⟨hx, hb, hml, hown, hts, hret, hlk, hK, hA, hE⟩ := C
  intro H locs ls hP hD hS hl
  unfold v_tgt at ht
  by_cases h : x.toInt < lo ∨ hi < x.toInt
  · rw [if_pos h] at ht
    exact lv_tableOut hx hb hd h ht (k H locs ls hP hD hS hl)
  · rw [if_neg h] at ht
    have h1 : ¬ x.toInt < lo := fun z => h (Or.inl z)
    have h2 : ¬ hi < x.toInt := fun z => h (Or.inr z)
    have hlt : (x.toInt - lo).toNat < offs.size := by omega
    refine lv_tableIn hx hb hd h1 h2 (off := offs[(x.toInt - lo).toNat]) (by simp [hlt]) ?_ (k H locs ls hP hD hS hl)
    rw [← ht]
    simp [List.getD, hlt]
def v_tabN (dflt : Int) (x : Int32) : Int → List Int → Prop
  | _, [] => True
  | lo, o :: t => (o = dflt ∨ ¬ x = Int32.ofInt lo) ∧ v_tabN dflt x (lo + 1) t
theorem v_tabN_at {dflt : Int} {x : Int32} : ∀ (offs : List Int) (lo : Int), v_tabN dflt x lo offs → ∀ j : Nat, x.toInt = lo + j → offs.getD j dflt = dflt
  | [], _, _, j, _ => by simp
  | o :: t, lo, h, 0, hx => by
    rcases h.1 with h1 | h1
    · simp [h1]
    · exfalso
      apply h1
      rw [← Int32.ofInt_toInt x, hx]
      simp
  | o :: t, lo, h, j + 1, hx => by
    have := v_tabN_at t (lo + 1) h.2 j (by rw [hx]; push_cast; omega)
    simpa using this
theorem v_tgt_d {pc : Nat} {dflt lo hi : Int} {offs : List Int} {x : Int32} {tgt : Nat} (h : v_tabN dflt x lo offs) (ht : (pc : Int) + dflt = tgt) : v_tgt pc dflt lo hi offs x = tgt := by
  unfold v_tgt
  split
  · exact ht
  · rename_i hn
    rw [v_tabN_at offs lo h (x.toInt - lo).toNat (by omega)]
    exact ht
theorem v_tgt_k {pc : Nat} {dflt lo hi : Int} {offs : List Int} {x v : Int32} {tgt : Nat} (hx : x = v) (ht : v_tgt pc dflt lo hi offs v = tgt) : v_tgt pc dflt lo hi offs x = tgt := by rw [hx]; exact ht
variable {r ci N k idx : Nat} {fc : List Nat} {Cn : String} {T : u_T} {ty : Nat → FieldType}
theorem V_getI (C : Cx X d nL cc own ret) (F : CF ci Cn T N ty) (L : FL own idx T k) (O : LO Λ r ci fc) (hk : k < N) (hc : fc[k]? = some 0) (hd : decode cc pc = .ok (.getfield idx, 3)) {v : Int32} (hv : mh.1 r k = v) (kk : Vw Λ X d nL (pc + 3) lv (.int v :: st) mh) : Vw Λ X d nL pc lv (.ref r :: st) mh := by
  subst hv
  obtain ⟨p, l, e, s, m, args, below, meth, c, D, cA, ad, A, Qc⟩ := X
  obtain ⟨hx, hb, hml, hown, hts, hret, hlk, hK, hA, hE⟩ := C
  intro H locs ls hP hD hS hl
  exact va_get hx hb hts F.2.1 hown hK hP r (v_ws_obj O.1 O.2) F.1 k hk (hts _ L) (fun _ h9 => h9) (v := .int (mh.1 r k)) (by simp [v_fs, List.getElem?_mapIdx, hc, v_fv]) hd (kk H locs ls hP hD hS hl)
theorem V_getL (C : Cx X d nL cc own ret) (F : CF ci Cn T N ty) (L : FL own idx T k) (O : LO Λ r ci fc) (hk : k < N) (hc : fc[k]? = some 1) (hd : decode cc pc = .ok (.getfield idx, 3)) {v : Int64} (hv : mh.2 = v) (kk : Vw Λ X d nL (pc + 3) lv (.long v :: st) mh) : Vw Λ X d nL pc lv (.ref r :: st) mh := by
  subst hv
  obtain ⟨p, l, e, s, m, args, below, meth, c, D, cA, ad, A, Qc⟩ := X
  obtain ⟨hx, hb, hml, hown, hts, hret, hlk, hK, hA, hE⟩ := C
  intro H locs ls hP hD hS hl
  exact va_get hx hb hts F.2.1 hown hK hP r (v_ws_obj O.1 O.2) F.1 k hk (hts _ L) (fun _ h9 => h9) (v := .long mh.2) (by simp [v_fs, List.getElem?_mapIdx, hc, v_fv]) hd (kk H locs ls hP hD hS hl)
theorem V_getR (C : Cx X d nL cc own ret) (F : CF ci Cn T N ty) (L : FL own idx T k) (O : LO Λ r ci fc) {r' : Nat} (hk : k < N) (hc : fc[k]? = some (r' + 2)) (hd : decode cc pc = .ok (.getfield idx, 3)) (kk : Vw Λ X d nL (pc + 3) lv (.ref r' :: st) mh) : Vw Λ X d nL pc lv (.ref r :: st) mh := by
  obtain ⟨p, l, e, s, m, args, below, meth, c, D, cA, ad, A, Qc⟩ := X
  obtain ⟨hx, hb, hml, hown, hts, hret, hlk, hK, hA, hE⟩ := C
  intro H locs ls hP hD hS hl
  exact va_get hx hb hts F.2.1 hown hK hP r (v_ws_obj O.1 O.2) F.1 k hk (hts _ L) (fun _ h9 => h9) (v := .ref (ad r')) (by simp [v_fs, List.getElem?_mapIdx, hc, v_fv]) hd (kk H locs ls hP hD hS hl)
theorem V_putT (C : Cx X d nL cc own ret) (F : CF ci Cn T N ty) (L : FL own idx T k) (O : LO Λ r ci fc) {t0 : FieldType} {x : Int32} (hk : k < N) (hc : fc[k]? = some 0) (hf : (T k).2.2.2 = false) (hty : ty k = t0) (hn : narrow t0 (.int x) = .int x) (hfi : fits t0 (.int x) = true) (hd : decode cc pc = .ok (.putfield idx, 3)) (kk : Vw Λ X d nL (pc + 3) lv st (v_up mh r k x)) : Vw Λ X d nL pc lv (.int x :: .ref r :: st) mh := by
  obtain ⟨p, l, e, s, m, args, below, meth, c, D, cA, ad, A, Qc⟩ := X
  obtain ⟨hx, hb, hml, hown, hts, hret, hlk, hK, hA, hE⟩ := C
  intro H locs ls hP hD hS hl
  refine va_put hx hb hts F.2.1 ty F.2.2.1 F.2.2.2 hown hK hP hD hS r (v_ws_obj O.1 O.2) F.1 k hk (hts _ L) (fun _ h9 => h9) hf (ty := t0) (v := .int x) (by rw [← hty]; exact F.2.2.1 k hk) hn hfi (by simp [v_fs]; exact (List.getElem?_eq_some_iff.mp hc).1) hd (fun H1 locs1 hP1 hD1 hS1 => ?_)
  rw [v_ws_up O.1 O.2 hc] at hP1 hD1
  exact kk H1 locs1 ls hP1 hD1 hS1 hl
theorem V_putI (C : Cx X d nL cc own ret) (F : CF ci Cn T N ty) (L : FL own idx T k) (O : LO Λ r ci fc) {x : Int32} (hk : k < N) (hc : fc[k]? = some 0) (hf : (T k).2.2.2 = false) (hty : ty k = .int) (hd : decode cc pc = .ok (.putfield idx, 3)) (kk : Vw Λ X d nL (pc + 3) lv st (v_up mh r k x)) : Vw Λ X d nL pc lv (.int x :: .ref r :: st) mh :=
  V_putT C F L O hk hc hf hty rfl rfl hd kk
theorem V_iald (C : Cx X d nL cc own ret) {n : Nat} (O : LA Λ r true n) {i : Int32} (hi : vp_in i n) (hd : decode cc pc = .ok (.iaload, 1)) {v : Int32} (hv : mh.1 r (jn i) = v) (kk : Vw Λ X d nL (pc + 1) lv (.int v :: st) mh) : Vw Λ X d nL pc lv (.int i :: .ref r :: st) mh := by
  subst hv
  obtain ⟨p, l, e, s, m, args, below, meth, c, D, cA, ad, A, Qc⟩ := X
  obtain ⟨hx, hb, hml, hown, hts, hret, hlk, hK, hA, hE⟩ := C
  intro H locs ls hP hD hS hl
  exact va_iald hx hb hK hP r 0 (v_ws_arr O.1 O.2) rfl hi hd (kk H locs ls hP hD hS hl)
theorem V_zald (C : Cx X d nL cc own ret) {n : Nat} (O : LA Λ r false n) {i : Int32} (hi : vp_in i n) (hd : decode cc pc = .ok (.baload, 1)) {v : Int32} (hv : mh.1 r (jn i) = v) (kk : Vw Λ X d nL (pc + 1) lv (.int v :: st) mh) : Vw Λ X d nL pc lv (.int i :: .ref r :: st) mh := by
  subst hv
  obtain ⟨p, l, e, s, m, args, below, meth, c, D, cA, ad, A, Qc⟩ := X
  obtain ⟨hx, hb, hml, hown, hts, hret, hlk, hK, hA, hE⟩ := C
  intro H locs ls hP hD hS hl
  exact va_zald hx hb hK hP r 1 (v_ws_arr O.1 O.2) rfl hi hd (kk H locs ls hP hD hS hl)
theorem V_iast (C : Cx X d nL cc own ret) {n : Nat} (O : LA Λ r true n) {i x : Int32} (hi : vp_in i n) (hd : decode cc pc = .ok (.iastore, 1)) (kk : Vw Λ X d nL (pc + 1) lv st (v_up mh r (jn i) x)) : Vw Λ X d nL pc lv (.int x :: .int i :: .ref r :: st) mh := by
  obtain ⟨p, l, e, s, m, args, below, meth, c, D, cA, ad, A, Qc⟩ := X
  obtain ⟨hx, hb, hml, hown, hts, hret, hlk, hK, hA, hE⟩ := C
  intro H locs ls hP hD hS hl
  refine va_iast hx hb hK hP hD hS r 0 (v_ws_arr O.1 O.2) rfl hi hd (fun H1 locs1 hP1 hD1 hS1 => ?_)
  have e := v_ws_rowA (cA := cA) (ad := ad) (mh := mh) (f := upd (mh.1 r) i.toNatClampNeg x) O.1 O.2
  rw [e] at hP1 hD1
  exact kk H1 locs1 ls hP1 hD1 hS1 hl
theorem V_zast (C : Cx X d nL cc own ret) {n : Nat} (O : LA Λ r false n) {i x : Int32} (hi : vp_in i n) (hz : x = 0 ∨ x = 1) (hd : decode cc pc = .ok (.bastore, 1)) (kk : Vw Λ X d nL (pc + 1) lv st (v_up mh r (jn i) x)) : Vw Λ X d nL pc lv (.int x :: .int i :: .ref r :: st) mh := by
  obtain ⟨p, l, e, s, m, args, below, meth, c, D, cA, ad, A, Qc⟩ := X
  obtain ⟨hx, hb, hml, hown, hts, hret, hlk, hK, hA, hE⟩ := C
  intro H locs ls hP hD hS hl
  refine va_zast hx hb hK hP hD hS r 1 (v_ws_arr O.1 O.2) rfl hi hd (fun H1 locs1 hP1 hD1 hS1 => ?_)
  have hz' : vp_nar .boolean x = x := by rcases hz with rfl | rfl <;> decide
  rw [hz'] at hP1 hD1
  have e := v_ws_rowA (cA := cA) (ad := ad) (mh := mh) (f := upd (mh.1 r) i.toNatClampNeg x) O.1 O.2
  rw [e] at hP1 hD1
  exact kk H1 locs1 ls hP1 hD1 hS1 hl
theorem V_alen (C : Cx X d nL cc own ret) {n : Nat} (O : LA Λ r true n) {v : Int32} (hv : Int32.ofNat n = v) (hd : decode cc pc = .ok (.arraylength, 1)) (kk : Vw Λ X d nL (pc + 1) lv (.int v :: st) mh) : Vw Λ X d nL pc lv (.ref r :: st) mh := by
  obtain ⟨p, l, e, s, m, args, below, meth, c, D, cA, ad, A, Qc⟩ := X
  obtain ⟨hx, hb, hml, hown, hts, hret, hlk, hK, hA, hE⟩ := C
  intro H locs ls hP hD hS hl
  exact va_alen hx hb hK hP r 0 (v_ws_arr O.1 O.2) rfl hv hd (kk H locs ls hP hD hS hl)
theorem V_copy (C : Cx X (d + 1) nL cc own ret) {n0 n1 r1 : Nat} (hg : Cond.methodLink own idx arraycopyName ∈ gw ∧ Cond.native arraycopyName ∈ gw ∧ Cond.static arraycopyName ∈ gw ∧ Cond.initialized "java/lang/System" ∈ gw) (O : LA Λ r true n0) (O1 : LA Λ r1 true n1) {sp dp n : Int32} (hi : inc sp dp n n0 n1) (hcat : (st.map fun v => v.category).sum ≤ 8) (hd : decode cc pc = .ok (.invokestatic idx, 3))
    (kk : Vw Λ X (d + 1) nL (pc + 3) lv st (v_cp mh r r1 (jn sp) (jn dp) (jn n))) : Vw Λ X (d + 1) nL pc lv (.int n :: .int dp :: .ref r1 :: .int sp :: .ref r :: st) mh := by
  obtain ⟨p, l, e, s, m, args, below, meth, c, D, cA, ad, A, Qc⟩ := X
  obtain ⟨hx, hb, hml, hown, hts, hret, hlk, hK, hA, hE⟩ := C
  intro H locs ls hP hD hS hl
  have hcat' : ((st.map (v_tr ad)).map fun v => v.category).sum ≤ 8 := by
    rw [List.map_map]
    rw [show ((fun v : Value => v.category) ∘ v_tr ad) = fun v => v.category from funext (fun v => v_tr_cat ad v)]
    exact hcat
  refine va_copyi hx hb (by rw [hml, hl.1]) hown (hts _ hg.1) (hts _ hg.2.1) (hts _ hg.2.2.1) (hts _ hg.2.2.2) hK hP hD hS r r1 0 0 (v_ws_arr O.1 O.2) (v_ws_arr O1.1 O1.2) (ty := .int) rfl rfl rfl hi.1 hi.2.1 hi.2.2.1 hi.2.2.2.1 hi.2.2.2.2 (fun _ _ => rfl) (by simp [v_rm]) (by
    have e : nativeFrameWords "java/lang/System" "arraycopy" 5 + 11 ≤ 56 := by decide
    simp only [v_rm]
    omega) hd (fun H1 locs1 hP1 hD1 hS1 => ?_)
  have e := v_ws_rowA (cA := cA) (ad := ad) (mh := mh) (f := va_cpy (mh.1 r) (mh.1 r1) sp.toNatClampNeg dp.toNatClampNeg n.toNatClampNeg) O1.1 O1.2
  rw [e] at hP1 hD1
  exact kk H1 locs1 ls hP1 hD1 hS1 hl
theorem V_max (C : Cx X (d + 1) nL cc own ret) (hg : Cond.methodLink own idx Lib.Math.max.name ∈ gw ∧ Cond.static Lib.Math.max.name ∈ gw ∧ Cond.initialized "java/lang/Math" ∈ gw ∧ Cond.code Lib.Math.max.name Lib.Math.max.code 2 (some .int) ∈ gw) {x y : Int32} (hcat : (st.map fun v => v.category).sum ≤ 8) (hd : decode cc pc = .ok (.invokestatic idx, 3)) (kk : Vw Λ X (d + 1) nL (pc + 3) lv (.int (jmax x y) :: st) mh) : Vw Λ X (d + 1) nL pc lv (.int y :: .int x :: st) mh := by
  obtain ⟨p, l, e, s, m, args, below, meth, c, D, cA, ad, A, Qc⟩ := X
  obtain ⟨hx, hb, hml, hown, hts, hret, hlk, hK, hA, hE⟩ := C
  intro H locs ls hP hD hS hl
  have hcat' : ((st.map (v_tr ad)).map fun v => v.category).sum ≤ 8 := by
    rw [List.map_map]
    rw [show ((fun v : Value => v.category) ∘ v_tr ad) = fun v => v.category from funext (fun v => v_tr_cat ad v)]
    exact hcat
  exact va_mmax hx hb (by rw [hml, hl.1]) hown (hts _ hg.1) (hts _ hg.2.1) (hts _ hg.2.2.1) (hts _ hg.2.2.2) (by simp [v_rm]) (by simp only [v_rm]; omega) (Nat.zero_le _) (Nat.zero_le _) hd (kk H locs ls hP hD hS hl)
theorem V_min (C : Cx X (d + 1) nL cc own ret) (hg : Cond.methodLink own idx Lib.Math.min.name ∈ gw ∧ Cond.static Lib.Math.min.name ∈ gw ∧ Cond.initialized "java/lang/Math" ∈ gw ∧ Cond.code Lib.Math.min.name Lib.Math.min.code 2 (some .int) ∈ gw) {x y : Int32} (hcat : (st.map fun v => v.category).sum ≤ 8) (hd : decode cc pc = .ok (.invokestatic idx, 3)) (kk : Vw Λ X (d + 1) nL (pc + 3) lv (.int (jmin x y) :: st) mh) : Vw Λ X (d + 1) nL pc lv (.int y :: .int x :: st) mh := by
  obtain ⟨p, l, e, s, m, args, below, meth, c, D, cA, ad, A, Qc⟩ := X
  obtain ⟨hx, hb, hml, hown, hts, hret, hlk, hK, hA, hE⟩ := C
  intro H locs ls hP hD hS hl
  have hcat' : ((st.map (v_tr ad)).map fun v => v.category).sum ≤ 8 := by
    rw [List.map_map]
    rw [show ((fun v : Value => v.category) ∘ v_tr ad) = fun v => v.category from funext (fun v => v_tr_cat ad v)]
    exact hcat
  exact va_mmin hx hb (by rw [hml, hl.1]) hown (hts _ hg.1) (hts _ hg.2.1) (hts _ hg.2.2.1) (hts _ hg.2.2.2) (by simp [v_rm]) (by simp only [v_rm]; omega) (Nat.zero_le _) (Nat.zero_le _) hd (kk H locs ls hP hD hS hl)
theorem V_abs (C : Cx X (d + 1) nL cc own ret) (hg : Cond.methodLink own idx Lib.Math.abs.name ∈ gw ∧ Cond.static Lib.Math.abs.name ∈ gw ∧ Cond.initialized "java/lang/Math" ∈ gw ∧ Cond.code Lib.Math.abs.name Lib.Math.abs.code 1 (some .int) ∈ gw) {x : Int32} (hcat : (st.map fun v => v.category).sum ≤ 8) (hd : decode cc pc = .ok (.invokestatic idx, 3)) (kk : Vw Λ X (d + 1) nL (pc + 3) lv (.int (jabs x) :: st) mh) : Vw Λ X (d + 1) nL pc lv (.int x :: st) mh := by
  obtain ⟨p, l, e, s, m, args, below, meth, c, D, cA, ad, A, Qc⟩ := X
  obtain ⟨hx, hb, hml, hown, hts, hret, hlk, hK, hA, hE⟩ := C
  intro H locs ls hP hD hS hl
  have hcat' : ((st.map (v_tr ad)).map fun v => v.category).sum ≤ 8 := by
    rw [List.map_map]
    rw [show ((fun v : Value => v.category) ∘ v_tr ad) = fun v => v.category from funext (fun v => v_tr_cat ad v)]
    exact hcat
  exact va_mabs hx hb (by rw [hml, hl.1]) hown (hts _ hg.1) (hts _ hg.2.1) (hts _ hg.2.2.1) (hts _ hg.2.2.2) (by simp [v_rm]) (by simp only [v_rm]; omega) (Nat.zero_le _) (Nat.zero_le _) hd (kk H locs ls hP hD hS hl)
theorem V_above (C : Cx X d nL cc own ret) (L : Cond.fieldLink own idx "FieldBeeps" "ABOVE" "[I" ∈ gw) (hd : decode cc pc = .ok (.getstatic idx, 3)) (kk : Vw Λ X d nL (pc + 3) lv (.ref 999 :: st) mh) : Vw Λ X d nL pc lv st mh := by
  obtain ⟨p, l, e, s, m, args, below, meth, c, D, cA, ad, A, Qc⟩ := X
  obtain ⟨hx, hb, hml, hown, hts, hret, hlk, hK, hA, hE⟩ := C
  intro H locs ls hP hD hS hl
  exact va_gets hx hb hE.2.1 hS hown (hts _ L) (fun _ h9 => h9) hd (kk H locs ls hP hD hS hl)
theorem V_aboveLen (C : Cx X d nL cc own ret) (hd : decode cc pc = .ok (.arraylength, 1)) (kk : Vw Λ X d nL (pc + 1) lv (.int 6 :: st) mh) : Vw Λ X d nL pc lv (.ref 999 :: st) mh := by
  obtain ⟨p, l, e, s, m, args, below, meth, c, D, cA, ad, A, Qc⟩ := X
  obtain ⟨hx, hb, hml, hown, hts, hret, hlk, hK, hA, hE⟩ := C
  intro H locs ls hP hD hS hl
  exact va_tlen hx hb hE.2.2.1 hS (v := 6) rfl hd (kk H locs ls hP hD hS hl)
theorem V_aboveAt (C : Cx X d nL cc own ret) {i : Int32} (hi : vp_in i 6) (hd : decode cc pc = .ok (.iaload, 1)) (kk : Vw Λ X d nL (pc + 1) lv (.int (v_above (jn i)) :: st) mh) : Vw Λ X d nL pc lv (.int i :: .ref 999 :: st) mh := by
  obtain ⟨p, l, e, s, m, args, below, meth, c, D, cA, ad, A, Qc⟩ := X
  obtain ⟨hx, hb, hml, hown, hts, hret, hlk, hK, hA, hE⟩ := C
  intro H locs ls hP hD hS hl
  exact va_ti hx hb hE.2.2.1 hS hi (v := .int (v_above (jn i))) rfl hd (kk H locs ls hP hD hS hl)
theorem V_ret0 (C : Cx X d nL cc own none) (hG : Gd Λ X none mh) (hd : decode cc pc = .ok (.return_, 1)) : Vw Λ X d nL pc lv [] mh := by
  obtain ⟨p, l, e, s, m, args, below, meth, c, D, cA, ad, A, Qc⟩ := X
  obtain ⟨hx, hb, hml, hown, hts, hret, hlk, hK, hA, hE⟩ := C
  intro H locs ls hP hD hS hl
  exact W.vret hx hb hret (fun t ht hW => hG H locs hP hD hS t ht hW) hS.2.2 hd hlk
theorem V_iret (C : Cx X d nL cc own (some .int)) {x : Int32} (hG : Gd Λ X (some (.int x)) mh) (hd : decode cc pc = .ok (.ireturn, 1)) : Vw Λ X d nL pc lv [.int x] mh := by
  obtain ⟨p, l, e, s, m, args, below, meth, c, D, cA, ad, A, Qc⟩ := X
  obtain ⟨hx, hb, hml, hown, hts, hret, hlk, hK, hA, hE⟩ := C
  intro H locs ls hP hD hS hl
  exact W.iret hx hb hret (fun t ht hW => hG H locs hP hD hS t ht hW) hS.2.2 hd hlk
theorem V_zret (C : Cx X d nL cc own (some .boolean)) {x : Int32} (hn : narrow .boolean (.int x) = .int x) (hG : Gd Λ X (some (.int x)) mh) (hd : decode cc pc = .ok (.ireturn, 1)) : Vw Λ X d nL pc lv [.int x] mh := by
  obtain ⟨p, l, e, s, m, args, below, meth, c, D, cA, ad, A, Qc⟩ := X
  obtain ⟨hx, hb, hml, hown, hts, hret, hlk, hK, hA, hE⟩ := C
  intro H locs ls hP hD hS hl
  exact W.zret hx hb hret hn (fun t ht hW => hG H locs hP hD hS t ht hW) hS.2.2 hd hlk
theorem V_lret (C : Cx X d nL cc own (some .long)) {x : Int64} (hG : Gd Λ X (some (.long x)) mh) (hd : decode cc pc = .ok (.lreturn, 1)) : Vw Λ X d nL pc lv [.long x] mh := by
  obtain ⟨p, l, e, s, m, args, below, meth, c, D, cA, ad, A, Qc⟩ := X
  obtain ⟨hx, hb, hml, hown, hts, hret, hlk, hK, hA, hE⟩ := C
  intro H locs ls hP hD hS hl
  exact W.lret hx hb hret (fun t ht hW => hG H locs hP hD hS t ht hW) hS.2.2 hd hlk
theorem V_putL (C : Cx X d nL cc own ret) (F : CF ci Cn T N ty) (L : FL own idx T k) (O : LO Λ r ci fc) {x : Int64} (hk : k < N) (hc : fc[k]? = some 1) (hf : (T k).2.2.2 = false) (hty : ty k = .long) (hu : ∀ (cA : ClassId × ClassId) (ad : Nat → Nat) (mh : vMH) (x : Int64), (v_ws Λ cA ad mh).set r (ad r, .inr (ci, (v_fs ad mh r fc).set k (.long x))) = v_ws Λ cA ad (v_ul mh x)) (hd : decode cc pc = .ok (.putfield idx, 3)) (kk : Vw Λ X d nL (pc + 3) lv st (v_ul mh x)) : Vw Λ X d nL pc lv (.long x :: .ref r :: st) mh := by
  obtain ⟨p, l, e, s, m, args, below, meth, c, D, cA, ad, A, Qc⟩ := X
  obtain ⟨hx, hb, hml, hown, hts, hret, hlk, hK, hA, hE⟩ := C
  intro H locs ls hP hD hS hl
  refine va_put hx hb hts F.2.1 ty F.2.2.1 F.2.2.2 hown hK hP hD hS r (v_ws_obj O.1 O.2) F.1 k hk (hts _ L) (fun _ h9 => h9) hf (ty := .long) (v := .long x) (by rw [← hty]; exact F.2.2.1 k hk) rfl rfl (by simp [v_fs]; exact (List.getElem?_eq_some_iff.mp hc).1) hd (fun H1 locs1 hP1 hD1 hS1 => ?_)
  rw [hu] at hP1 hD1
  exact kk H1 locs1 ls hP1 hD1 hS1 hl
theorem V_ldcS (C : Cx X d nL cc RX1 ret) {i : Nat} (hi : i < 12) (hidx : v_six.getD i 0 = idx) (hd : decode cc pc = .ok (.ldc idx, 2)) (kk : Vw Λ X d nL (pc + 2) lv (.ref (1000 + i) :: st) mh) : Vw Λ X d nL pc lv st mh := by
  subst hidx
  obtain ⟨p, l, e, s, m, args, below, meth, c, D, cA, ad, A, Qc⟩ := X
  obtain ⟨hx, hb, hml, hown, hts, hret, hlk, hK, hA, hE⟩ := C
  intro H locs ls hP hD hS hl
  exact va_ldcS hx hb hown (hE.2.2.2.1 i hi) hd (kk H locs ls hP hD hS hl)
theorem V_mask (bs : List Bool) {lv' : List (Option Value)} (hm : List.zipWith (fun (b : Bool) v => if b then v else none) bs lv = lv') (k : Vw Λ X d nL pc lv' st mh) : Vw Λ X d nL pc lv st mh := by
  obtain ⟨p, l, e, s, m, args, below, meth, c, D, cA, ad, A, Qc⟩ := X
  intro H locs ls hP hD hS hl
  refine k H locs ls hP hD hS (lv_mono hl (fun q hq => ?_))
  obtain ⟨j, v, h1, h2⟩ := (v_lv_mem _ 0 q).mp hq
  refine (v_lv_mem _ 0 q).mpr ⟨j, v, ?_, h2⟩
  rw [← hm, List.getElem?_zipWith] at h1
  cases hb : bs[j]? with
  | none => simp [hb] at h1
  | some b =>
    cases hv : lv[j]? with
    | none => simp [hb, hv] at h1
    | some w =>
      simp only [hb, hv] at h1
      cases b <;> simp_all
theorem rd_ne {r' j : Nat} {x : Int32} (h : r' ≠ r) : (v_up mh r j x).1 r' k = mh.1 r' k := by simp [v_up, v_row, h]
theorem rd_k {j : Nat} {x : Int32} (h : k ≠ j) : (v_up mh r j x).1 r k = mh.1 r k := by simp [v_up, v_row, upd, h]
theorem rd_eq {x : Int32} : (v_up mh r k x).1 r k = x := by simp [v_up, v_row, upd]
theorem lo_la {a n : Nat} {b : Bool} (O : LO Λ r ci fc) (A : LA Λ a b n) : r ≠ a := by
  rintro rfl
  have := O.2.symm.trans A.2
  cases this
theorem rd_oa {a n j : Nat} {b : Bool} {x : Int32} (O : LO Λ r ci fc) (A : LA Λ a b n) : (v_up mh a j x).1 r k = mh.1 r k := rd_ne (lo_la O A)
theorem rd_ao {a n j : Nat} {b : Bool} {x : Int32} (O : LO Λ r ci fc) (A : LA Λ a b n) : (v_up mh r j x).1 a k = mh.1 a k := rd_ne (Ne.symm (lo_la O A))
theorem rd_cp {a b sp dp n : Nat} (h : r ≠ b) : (v_cp mh a b sp dp n).1 r k = mh.1 r k := by simp [v_cp, v_row, h]
theorem rd_oc {a b sp dp n n1 : Nat} {b1 : Bool} (O : LO Λ r ci fc) (A : LA Λ b b1 n1) : (v_cp mh a b sp dp n).1 r k = mh.1 r k := rd_cp (lo_la O A)
end VROWS
end
section
/-! LAYER V: contracts, and calls by contract -/
def v_Pre (Λ : vLay) (D : va_G) (cA : ClassId × ClassId) (ad : Nat → Nat) (sz : Nat) (mh : vMH) (U : State) : Prop :=
  U.heap.size = sz ∧ va_P D v_cl (v_ws Λ cA ad mh) U.heap ∧ va_K D v_cl (v_tys cA) U ∧ va_D (fun _ => True) (v_ws Λ cA ad mh) ∧ v_Ext ad (va_A (v_ws Λ cA ad mh) sz) U U.heap
def v_Post (Λ : vLay) (D : va_G) (cA : ClassId × ClassId) (ad : Nat → Nat) (A : Nat → Prop) (u : vMH) (t : State) : Prop :=
  va_P D v_cl (v_ws Λ cA ad u) t.heap ∧ va_K D v_cl (v_tys cA) t ∧ va_D A (v_ws Λ cA ad u)
def v_Qc (Λ : vLay) (D : va_G) (cA : ClassId × ClassId) (ad : Nat → Nat) (A : Nat → Prop) (rv : Option Value) (u : vMH) : Array Value → State → Outcome → State → Prop :=
  fun _ st oc t => oc = .returned rv ∧ v_Post Λ D cA ad A u t ∧ va_F A st t
/-- the contract of a method: of these arguments in this world it answers rv, and the world is mh' -/
def MC (Λ : vLay) (d : Nat) (y : MethodName) (ycc : ByteArray) (ynL : Nat) (yret : Option FieldType) (av : List Value) (mh : vMH) (rv : Option Value) (mh' : vMH) : Prop :=
  ∀ (l : Launch) (D : va_G) (cA : ClassId × ClassId) (ad : Nat → Nat) (sz : Nat), Met l y (.code y ycc ynL yret :: gw) (v_rm d) (va_Pc (av.map (v_tr ad)) (v_Pre Λ D cA ad sz mh)) (v_Qc Λ D cA ad (va_A (v_ws Λ cA ad mh) sz) rv mh') 0 0 (va_A (v_ws Λ cA ad mh) sz)
theorem v_same {Λ : vLay} {cA : ClassId × ClassId} {ad : Nat → Nat} {mh mh' : vMH} {sz q : Nat} (h : va_A (v_ws Λ cA ad mh) sz q) : va_A (v_ws Λ cA ad mh') sz q := by
  rcases h with ⟨k, e, h⟩ | h
  · have hk : k < Λ.1 := by
      have := (List.getElem?_eq_some_iff.mp h).1
      simpa [v_ws] using this
    rw [v_ws_at hk] at h
    cases h
    exact Or.inl ⟨k, _, v_ws_at hk⟩
  · exact Or.inr h
theorem v_blind {Λ : vLay} {D : va_G} {cA : ClassId × ClassId} {ad : Nat → Nat} {sz : Nat} {mh : vMH} {av : List Value} : FrameBlind (va_Pc av (v_Pre Λ D cA ad sz mh)) := by
  intro a U g mk q
  obtain ⟨q0, q1, qP, qK, qD, qE⟩ := q
  exact ⟨q0, q1, qP, va_K.moved (u := U) (U := U.calling g mk a) (Vm.Alike.refl U.vm) qK, qD, v_Ext.same (u := U) (U := U.calling g mk a) rfl qE⟩
theorem v_cat8 {ad : Nat → Nat} {st : List Value} (h : (st.map fun v => v.category).sum ≤ 8) : ((st.map (v_tr ad)).map fun v => v.category).sum ≤ 8 := by
  rw [List.map_map]
  rw [show ((fun v : Value => v.category) ∘ v_tr ad) = fun v => v.category from funext (fun v => v_tr_cat ad v)]
  exact h
/-- a walk of the method's body gives its contract -/
theorem MC_of {Λ : vLay} {d : Nat} {y : MethodName} {ycc : ByteArray} {ynL : Nat} {yret : Option FieldType} {av : List Value} {mh : vMH} {rv : Option Value} {mh' : vMH} (k : Nat) (hp : plainName y.cls = true) (hlen : ((v_en av).length + k = ynL))
    (walk : ∀ X : vX, Cx X d ynL ycc y.cls yret → Gd Λ X rv mh' → Vw Λ X d ynL 0 (v_en av ++ List.replicate k none) [] mh) : MC Λ d y ycc ynL yret av mh rv mh' := by
  intro l D cA ad sz
  refine Met.ofW (cc := ycc) (maxL := ynL) (ret := yret) hp rfl ?_
  intro p e s m args below meth c s₁ B hml hv
  obtain ⟨rfl, hsz, hP, hK, hD0, hE⟩ := hv
  have hts := atoms_spec (ws := .code y ycc ynL yret :: gw) B.pre
  subst hsz
  have hD := hD0.self (sz := s.heap.size)
  have key := walk (p, l, e, s, m, _, below, meth, c, D, cA, ad, va_A (v_ws Λ cA ad mh) s.heap.size, v_Qc Λ D cA ad (va_A (v_ws Λ cA ad mh) s.heap.size) rv mh')
    ⟨B.exec, B.bytes, hml, findClass_of_methodNamed B.named, fun w hw => hts w (List.mem_cons_of_mem _ hw), B.returns, B.notSynchronized, hK, fun q h => Or.inr h, hE⟩
    (fun H locs hP2 hD2 hS2 t ht hW => ⟨rfl, ⟨by rw [ht]; exact hP2, va_K.moved hW.alike hK, hD2⟩, hS2.F ht⟩)
  have hl := lv_entry (av.map (v_tr ad)) (n := ynL) (by
    have e : ∀ vs : List Value, (lg_sl (vs.map (v_tr ad))).length = (v_en vs).length := by
      intro vs
      induction vs with
      | nil => rfl
      | cons v t ih =>
        simp only [lg_sl, List.map_cons, List.flatMap_cons, List.length_append, v_en, v_tr_cat] at ih ⊢
        rw [ih]
        split <;> simp <;> omega
    rw [e]; omega)
  rw [lg_entry_eq]
  exact key s.heap [] _ hP hD va_S.rf (by rw [v_lv_en]; exact hl)
section VCALLS
variable {Λ : vLay} {X : vX} {d d' nL pc : Nat} {cc : ByteArray} {own : String} {ret : Option FieldType} {lv : List (Option Value)} {st rest As : List Value} {mh mh' : vMH}
variable {y : MethodName} {ycc : ByteArray} {ynL idx n ci r : Nat} {yret : Option FieldType} {Cn : String} {fc : List Nat} {rv : Option Value}
theorem v_callg {p : Program} {l : Launch} {e : Env} {R : Room} {s : State} {m : MethodId} {args : Array Value} {below : List Frame} {meth : Method} {c : Code} {H : Heap} {locs : List Loc} {Q : State → Prop} {ls : Array Slot} {st0 rest : List Value} {a : Array Value} {A0 A1 : Nat → Prop} {D : va_G} {cA : ClassId × ClassId} {ad : Nat → Nat}
    (hr : va_Run p l e R s m args below meth c H locs 0 0 0 0 (F0 m pc ls st0) rest (v_Qc Λ D cA ad A1 rv mh' a) A1) (hS : va_S A0 s.heap H locs) (hf : ∀ q, A1 q → A0 q)
    (kk : ∀ (H1 : Heap) (locs1 : List Loc), va_P D v_cl (v_ws Λ cA ad mh') H1 → va_D A0 (v_ws Λ cA ad mh') → va_S A0 s.heap H1 locs1 → W p l e R s m args below meth c H1 locs1 0 0 Q (F0 m (pc + 3) ls (rv.toList ++ rest))) : W p l e R s m args below meth c H locs 0 0 Q (F0 m pc ls st0) := by
  intro T hT X
  obtain ⟨v, st₀, t, T', L, h0, X', hL, e1, e2, ⟨hv, ⟨hp, hk, hd⟩, hz, hk2⟩, st⟩ := hr T hT X
  cases hv
  rw [h0] at hz hk2
  obtain ⟨t2, a1, b1⟩ := kk T'.heap (locs ++ L) (by rw [e1]; exact hp) (hd.weaken (fun _ q _ h => hf q.1 h))
    ⟨Nat.le_trans hS.1 (by rw [e1]; exact hz), fun q h1 h2 => by rw [e1, hk2 q (Nat.lt_of_lt_of_le h1 hS.1) (fun z => h2 (hf q z))]; exact hS.2.1 q h1 h2, fun q hq => by
      rcases List.mem_append.mp hq with h | h
      · exact hS.2.2 q h
      · exact hf _ (hL q h)⟩ T' rfl X'
  exact ⟨t2, st t2 a1, b1⟩
theorem v_pre {p : Program} {s : State} {H : Heap} {locs : List Loc} {A : Nat → Prop} {D : va_G} {cA : ClassId × ClassId} {ad : Nat → Nat} {av : List Value} (hP : va_P D v_cl (v_ws Λ cA ad mh) H) (hD : va_D A (v_ws Λ cA ad mh)) (hS : va_S A s.heap H locs) (hK : va_K D v_cl (v_tys cA) s) (hA : ∀ q, s.heap.size ≤ q → A q) (hE : v_Ext ad A s s.heap) :
    ∀ U : State, U.heap = H → s.WarmedH U.vm → va_Pc av (v_Pre Λ D cA ad H.size mh) av.toArray U := by
  intro U hU hW
  refine ⟨rfl, by rw [hU], by rw [hU]; exact hP, va_K.moved hW.alike hK, hD.weaken (fun _ _ _ _ => trivial), ?_⟩
  rw [hU]
  refine v_Ext.narrow (A := A) (v_Ext.warm hW (hE.kept hS.2.1)) (fun q h => ?_)
  rcases h with ⟨k, e, h⟩ | h
  · exact hD.2 k _ h
  · exact hA q (Nat.le_trans hS.1 h)
theorem v_A0 {s : State} {H : Heap} {locs : List Loc} {A : Nat → Prop} {cA : ClassId × ClassId} {ad : Nat → Nat} (hD : va_D A (v_ws Λ cA ad mh)) (hS : va_S A s.heap H locs) (hA : ∀ q, s.heap.size ≤ q → A q) : ∀ q, va_A (v_ws Λ cA ad mh) H.size q → A q := by
  intro q h
  rcases h with ⟨k, e, h⟩ | h
  · exact hD.2 k _ h
  · exact hA q (Nat.le_trans hS.1 h)
theorem v_frames {R : Nat} (hdd : d' + 1 ≤ d) (hnl : ynL ≤ 45) : (v_rm d').frames + 1 ≤ (v_rm d).frames ∧ 8 + (ynL + 11) + (v_rm d').locals ≤ (v_rm d).locals := by
  simp only [v_rm]; omega
theorem V_callV (C : Cx X d nL cc own ret) (S : CSV own idx Cn y ycc ynL yret n) (hM : MC Λ d' y ycc ynL yret (.ref r :: As) mh rv mh') {T : u_T} {N : Nat} (hci : v_cl[ci]? = some (Cn, T, N)) (O : LO Λ r ci fc) (hdd : d' + 1 ≤ d) (hnl : ynL ≤ 45) (hn : As.length = n) (hst : st = As.reverse ++ .ref r :: rest) (hcat : (rest.map fun v => v.category).sum ≤ 8) (hd : decode cc pc = .ok (.invokevirtual idx, 3))
    (k : Vw Λ X d nL (pc + 3) lv (rv.toList ++ rest) mh') (hrv : ∀ a, rv.toList.map (v_tr a) = rv.toList) : Vw Λ X d nL pc lv st mh := by
  obtain ⟨p, l, e, s, m, args, below, meth, c, D, cA, ad, A, Qc⟩ := X
  obtain ⟨hx, hb, hml, hown, hts, hret, hlk, hK, hA, hE⟩ := C
  intro H locs ls hP hD hS hl
  refine v_callg (va_runV (As := As.map (v_tr ad)) (rest := rest.map (v_tr ad)) (b := ad r) ⟨hx, hb, hml, hown, hts⟩ (hM l D cA ad H.size) (cwV n hts S.1 rfl rfl rfl S.2 (v_frames (R := 0) hdd hnl)) ⟨v_blind, va_recv hK hP hci (v_ws_obj O.1 O.2), v_pre (p := p) hP hD hS hK hA hE⟩ rfl (by simp [hn]) hl.1 (by rw [hst]; simp [v_tr]) (lv_room (v_cat8 hcat)) hd ⟨Nat.le_refl _, Nat.le_refl _⟩) hS (v_A0 hD hS hA) (fun H1 locs1 hP1 hD1 hS1 => ?_)
  have := k H1 locs1 ls hP1 hD1 hS1 hl
  rw [List.map_append, hrv] at this
  exact this
theorem V_callS (C : Cx X d nL cc own ret) (S : CSS own idx y ycc ynL yret n) (hM : MC Λ d' y ycc ynL yret As mh rv mh') (hdd : d' + 1 ≤ d) (hnl : ynL ≤ 45) (hn : As.length = n) (hst : st = As.reverse ++ rest) (hcat : (rest.map fun v => v.category).sum ≤ 8) (hd : decode cc pc = .ok (.invokestatic idx, 3))
    (k : Vw Λ X d nL (pc + 3) lv (rv.toList ++ rest) mh') (hrv : ∀ a, rv.toList.map (v_tr a) = rv.toList) : Vw Λ X d nL pc lv st mh := by
  obtain ⟨p, l, e, s, m, args, below, meth, c, D, cA, ad, A, Qc⟩ := X
  obtain ⟨hx, hb, hml, hown, hts, hret, hlk, hK, hA, hE⟩ := C
  intro H locs ls hP hD hS hl
  refine v_callg (va_runS (As := As.map (v_tr ad)) (rest := rest.map (v_tr ad)) ⟨hx, hb, hml, hown, hts⟩ (hM l D cA ad H.size) (va_cwS n hts S.1 rfl rfl rfl S.2 (v_frames (R := 0) hdd hnl)) ⟨v_blind, v_pre (p := p) hP hD hS hK hA hE⟩ rfl (by simp [hn]) hl.1 (by rw [hst]; simp) (lv_room (v_cat8 hcat)) hd ⟨Nat.le_refl _, Nat.le_refl _⟩) hS (v_A0 hD hS hA) (fun H1 locs1 hP1 hD1 hS1 => ?_)
  have := k H1 locs1 ls hP1 hD1 hS1 hl
  rw [List.map_append, hrv] at this
  exact this
theorem V_callN (C : Cx X d nL cc own ret) (S : CSN own idx y ycc ynL yret n) (hM : MC Λ d' y ycc ynL yret As mh rv mh') (hdd : d' + 1 ≤ d) (hnl : ynL ≤ 45) (hn : As.length = n) (hst : st = As.reverse ++ rest) (hcat : (rest.map fun v => v.category).sum ≤ 8) (hd : decode cc pc = .ok (.invokestatic idx, 3))
    (k : Vw Λ X d nL (pc + 3) lv (rv.toList ++ rest) mh') (hrv : ∀ a, rv.toList.map (v_tr a) = rv.toList) : Vw Λ X d nL pc lv st mh := by
  obtain ⟨p, l, e, s, m, args, below, meth, c, D, cA, ad, A, Qc⟩ := X
  obtain ⟨hx, hb, hml, hown, hts, hret, hlk, hK, hA, hE⟩ := C
  intro H locs ls hP hD hS hl
  obtain ⟨⟨w1, w2, w3, w4⟩, w5⟩ := S
  refine v_callg (va_runSN (As := As.map (v_tr ad)) (rest := rest.map (v_tr ad)) ⟨hx, hb, hml, hown, hts⟩ (hM l D cA ad H.size) ⟨va_cnB n hts (gw_cons w4 gw_self) rfl rfl rfl (hE.1 _ w1) (hts _ w3) w5 (v_frames (R := 0) hdd hnl), hts _ w2, trivial⟩ ⟨v_blind, v_pre (p := p) hP hD hS hK hA hE⟩ rfl (by simp [hn]) hl.1 (by rw [hst]; simp) (lv_room (v_cat8 hcat)) hd ⟨Nat.le_refl _, Nat.le_refl _⟩) hS (v_A0 hD hS hA) (fun H1 locs1 hP1 hD1 hS1 => ?_)
  have := k H1 locs1 ls hP1 hD1 hS1 hl
  rw [List.map_append, hrv] at this
  exact this
theorem V_callVi (C : Cx X d nL cc own ret) {x : Int32} (S : CSV own idx Cn y ycc ynL yret n) (hM : MC Λ d' y ycc ynL yret (.ref r :: As) mh (some (.int x)) mh') {T : u_T} {N : Nat} (hci : v_cl[ci]? = some (Cn, T, N)) (O : LO Λ r ci fc) (hdd : d' + 1 ≤ d) (hnl : ynL ≤ 45) (hn : As.length = n) (hst : st = As.reverse ++ .ref r :: rest) (hcat : (rest.map fun v => v.category).sum ≤ 8) (hd : decode cc pc = .ok (.invokevirtual idx, 3)) (k : Vw Λ X d nL (pc + 3) lv (.int x :: rest) mh') : Vw Λ X d nL pc lv st mh := V_callV C S hM hci O hdd hnl hn hst hcat hd k (fun _ => rfl)
theorem V_callVl (C : Cx X d nL cc own ret) {x : Int64} (S : CSV own idx Cn y ycc ynL yret n) (hM : MC Λ d' y ycc ynL yret (.ref r :: As) mh (some (.long x)) mh') {T : u_T} {N : Nat} (hci : v_cl[ci]? = some (Cn, T, N)) (O : LO Λ r ci fc) (hdd : d' + 1 ≤ d) (hnl : ynL ≤ 45) (hn : As.length = n) (hst : st = As.reverse ++ .ref r :: rest) (hcat : (rest.map fun v => v.category).sum ≤ 8) (hd : decode cc pc = .ok (.invokevirtual idx, 3)) (k : Vw Λ X d nL (pc + 3) lv (.long x :: rest) mh') : Vw Λ X d nL pc lv st mh := V_callV C S hM hci O hdd hnl hn hst hcat hd k (fun _ => rfl)
theorem V_callVv (C : Cx X d nL cc own ret) (S : CSV own idx Cn y ycc ynL yret n) (hM : MC Λ d' y ycc ynL yret (.ref r :: As) mh none mh') {T : u_T} {N : Nat} (hci : v_cl[ci]? = some (Cn, T, N)) (O : LO Λ r ci fc) (hdd : d' + 1 ≤ d) (hnl : ynL ≤ 45) (hn : As.length = n) (hst : st = As.reverse ++ .ref r :: rest) (hcat : (rest.map fun v => v.category).sum ≤ 8) (hd : decode cc pc = .ok (.invokevirtual idx, 3)) (k : Vw Λ X d nL (pc + 3) lv (rest) mh') : Vw Λ X d nL pc lv st mh := V_callV C S hM hci O hdd hnl hn hst hcat hd k (fun _ => rfl)
theorem V_callSi (C : Cx X d nL cc own ret) {x : Int32} (S : CSS own idx y ycc ynL yret n) (hM : MC Λ d' y ycc ynL yret As mh (some (.int x)) mh') (hdd : d' + 1 ≤ d) (hnl : ynL ≤ 45) (hn : As.length = n) (hst : st = As.reverse ++ rest) (hcat : (rest.map fun v => v.category).sum ≤ 8) (hd : decode cc pc = .ok (.invokestatic idx, 3)) (k : Vw Λ X d nL (pc + 3) lv (.int x :: rest) mh') : Vw Λ X d nL pc lv st mh := V_callS C S hM hdd hnl hn hst hcat hd k (fun _ => rfl)
theorem V_callSl (C : Cx X d nL cc own ret) {x : Int64} (S : CSS own idx y ycc ynL yret n) (hM : MC Λ d' y ycc ynL yret As mh (some (.long x)) mh') (hdd : d' + 1 ≤ d) (hnl : ynL ≤ 45) (hn : As.length = n) (hst : st = As.reverse ++ rest) (hcat : (rest.map fun v => v.category).sum ≤ 8) (hd : decode cc pc = .ok (.invokestatic idx, 3)) (k : Vw Λ X d nL (pc + 3) lv (.long x :: rest) mh') : Vw Λ X d nL pc lv st mh := V_callS C S hM hdd hnl hn hst hcat hd k (fun _ => rfl)
theorem V_callSv (C : Cx X d nL cc own ret) (S : CSS own idx y ycc ynL yret n) (hM : MC Λ d' y ycc ynL yret As mh none mh') (hdd : d' + 1 ≤ d) (hnl : ynL ≤ 45) (hn : As.length = n) (hst : st = As.reverse ++ rest) (hcat : (rest.map fun v => v.category).sum ≤ 8) (hd : decode cc pc = .ok (.invokestatic idx, 3)) (k : Vw Λ X d nL (pc + 3) lv (rest) mh') : Vw Λ X d nL pc lv st mh := V_callS C S hM hdd hnl hn hst hcat hd k (fun _ => rfl)
theorem V_callNi (C : Cx X d nL cc own ret) {x : Int32} (S : CSN own idx y ycc ynL yret n) (hM : MC Λ d' y ycc ynL yret As mh (some (.int x)) mh') (hdd : d' + 1 ≤ d) (hnl : ynL ≤ 45) (hn : As.length = n) (hst : st = As.reverse ++ rest) (hcat : (rest.map fun v => v.category).sum ≤ 8) (hd : decode cc pc = .ok (.invokestatic idx, 3)) (k : Vw Λ X d nL (pc + 3) lv (.int x :: rest) mh') : Vw Λ X d nL pc lv st mh := V_callN C S hM hdd hnl hn hst hcat hd k (fun _ => rfl)
theorem V_callNl (C : Cx X d nL cc own ret) {x : Int64} (S : CSN own idx y ycc ynL yret n) (hM : MC Λ d' y ycc ynL yret As mh (some (.long x)) mh') (hdd : d' + 1 ≤ d) (hnl : ynL ≤ 45) (hn : As.length = n) (hst : st = As.reverse ++ rest) (hcat : (rest.map fun v => v.category).sum ≤ 8) (hd : decode cc pc = .ok (.invokestatic idx, 3)) (k : Vw Λ X d nL (pc + 3) lv (.long x :: rest) mh') : Vw Λ X d nL pc lv st mh := V_callN C S hM hdd hnl hn hst hcat hd k (fun _ => rfl)
theorem V_callNv (C : Cx X d nL cc own ret) (S : CSN own idx y ycc ynL yret n) (hM : MC Λ d' y ycc ynL yret As mh none mh') (hdd : d' + 1 ≤ d) (hnl : ynL ≤ 45) (hn : As.length = n) (hst : st = As.reverse ++ rest) (hcat : (rest.map fun v => v.category).sum ≤ 8) (hd : decode cc pc = .ok (.invokestatic idx, 3)) (k : Vw Λ X d nL (pc + 3) lv (rest) mh') : Vw Λ X d nL pc lv st mh := V_callN C S hM hdd hnl hn hst hcat hd k (fun _ => rfl)
end VCALLS
/-! the words of the printed functions: chk, joins, loops -/
def chk {ρ : Type} (c : Prop) [Decidable c] (k : Option ρ) : Option ρ := if c then k else none
theorem chk_ok {ρ : Type} {c : Prop} [Decidable c] {k : Option ρ} {r : ρ} (h : chk c k = some r) : c ∧ k = some r := by
  unfold chk at h
  split at h
  · exact ⟨by assumption, h⟩
  · cases h
theorem bnd_ok {α ρ : Type} {x : Option α} {f : α → Option ρ} {r : ρ} (h : x.bind f = some r) : ∃ a, x = some a ∧ f a = some r := by
  cases x with
  | none => cases h
  | some a => exact ⟨a, rfl, h⟩
theorem it_t {ρ : Type} {c : Prop} {i : Decidable c} {a b r : ρ} (h : (if c then a else b) = r) (hc : c) : a = r := by rw [if_pos hc] at h; exact h
theorem it_f {ρ : Type} {c : Prop} {i : Decidable c} {a b r : ρ} (h : (if c then a else b) = r) (hc : ¬ c) : b = r := by rw [if_neg hc] at h; exact h
theorem gdo {Λ : vLay} {X : vX} {mh : vMH} {x : Int32} {res : Int32} (h : some x = some res) (hG : Gd Λ X (some (.int res)) mh) : Gd Λ X (some (.int x)) mh := by cases h; exact hG
theorem gdt {Λ : vLay} {X : vX} {mh : vMH} {x : Int32} {res : Int32} (h : x = res) (hG : Gd Λ X (some (.int res)) mh) : Gd Λ X (some (.int x)) mh := by cases h; exact hG
theorem gdoL {Λ : vLay} {X : vX} {mh : vMH} {x : Int64} {res : Int64} (h : some x = some res) (hG : Gd Λ X (some (.long res)) mh) : Gd Λ X (some (.long x)) mh := by cases h; exact hG
theorem gdow {Λ : vLay} {X : vX} {mh : vMH} {x : Int32} {res : Int32 × vMH} (h : some (x, mh) = some res) (hG : Gd Λ X (some (.int res.1)) res.2) : Gd Λ X (some (.int x)) mh := by cases h; exact hG
theorem gdtw {Λ : vLay} {X : vX} {mh : vMH} {x : Int32} {res : Int32 × vMH} (h : (x, mh) = res) (hG : Gd Λ X (some (.int res.1)) res.2) : Gd Λ X (some (.int x)) mh := by cases h; exact hG
theorem gdoLw {Λ : vLay} {X : vX} {mh : vMH} {x : Int64} {res : Int64 × vMH} (h : some (x, mh) = some res) (hG : Gd Λ X (some (.long res.1)) res.2) : Gd Λ X (some (.long x)) mh := by cases h; exact hG
theorem gdov {Λ : vLay} {X : vX} {mh : vMH} {res : vMH} (h : some mh = some res) (hG : Gd Λ X none res) : Gd Λ X none mh := by cases h; exact hG
theorem gdtv {Λ : vLay} {X : vX} {mh : vMH} {res : vMH} (h : mh = res) (hG : Gd Λ X none res) : Gd Λ X none mh := by cases h; exact hG
def wj0 {ρ : Type} (F : ρ) (C : (ρ) → ρ) : ρ := C F
theorem wj0_ok {ρ : Type} {F : ρ} {C : (ρ) → ρ} {res : ρ} {G : Prop} (P : Prop) (h : wj0 F C = res) (hj : F  = res → P ) (k : ∀ J : ρ, (J  = res → P ) → C J = res → G) : G := k F hj h
def wj1 {A1 ρ : Type} (F : A1 → ρ) (C : (A1 → ρ) → ρ) : ρ := C F
theorem wj1_ok {A1 ρ : Type} {F : A1 → ρ} {C : (A1 → ρ) → ρ} {res : ρ} {G : Prop} (P : A1 → Prop) (h : wj1 F C = res) (hj : ∀ (a1 : A1), F a1 = res → P a1) (k : ∀ J : A1 → ρ, (∀ (a1 : A1), J a1 = res → P a1) → C J = res → G) : G := k F hj h
def lq1 {A1 ρ : Type} : Nat → ((A1 → Option ρ) → A1 → Option ρ) → A1 → Option ρ
  | 0, _ => fun _ => none
  | n + 1, F => F (lq1 n F)
theorem lq1_ok {A1 ρ : Type} {n : Nat} {F : (A1 → Option ρ) → A1 → Option ρ} {a1 : _} {res : ρ} (P : A1 → Prop) (h : lq1 n F a1 = some res) (hs : ∀ rec : A1 → Option ρ, (∀ (a1 : A1), rec a1 = some res → P a1) → ∀ (a1 : A1), F rec a1 = some res → P a1) : P a1 := by
  have key : ∀ (n : Nat) (a1 : A1), lq1 n F a1 = some res → P a1 := by
    intro n
    induction n with
    | zero => intro a1 h; cases h
    | succ n ih => intro a1 h; exact hs _ ih a1 h
  exact key n a1 h
def wj2 {A1 A2 ρ : Type} (F : A1 → A2 → ρ) (C : (A1 → A2 → ρ) → ρ) : ρ := C F
theorem wj2_ok {A1 A2 ρ : Type} {F : A1 → A2 → ρ} {C : (A1 → A2 → ρ) → ρ} {res : ρ} {G : Prop} (P : A1 → A2 → Prop) (h : wj2 F C = res) (hj : ∀ (a1 : A1) (a2 : A2), F a1 a2 = res → P a1 a2) (k : ∀ J : A1 → A2 → ρ, (∀ (a1 : A1) (a2 : A2), J a1 a2 = res → P a1 a2) → C J = res → G) : G := k F hj h
def lq2 {A1 A2 ρ : Type} : Nat → ((A1 → A2 → Option ρ) → A1 → A2 → Option ρ) → A1 → A2 → Option ρ
  | 0, _ => fun _ _ => none
  | n + 1, F => F (lq2 n F)
theorem lq2_ok {A1 A2 ρ : Type} {n : Nat} {F : (A1 → A2 → Option ρ) → A1 → A2 → Option ρ} {a1 a2 : _} {res : ρ} (P : A1 → A2 → Prop) (h : lq2 n F a1 a2 = some res) (hs : ∀ rec : A1 → A2 → Option ρ, (∀ (a1 : A1) (a2 : A2), rec a1 a2 = some res → P a1 a2) → ∀ (a1 : A1) (a2 : A2), F rec a1 a2 = some res → P a1 a2) : P a1 a2 := by
  have key : ∀ (n : Nat) (a1 : A1) (a2 : A2), lq2 n F a1 a2 = some res → P a1 a2 := by
    intro n
    induction n with
    | zero => intro a1 a2 h; cases h
    | succ n ih => intro a1 a2 h; exact hs _ ih a1 a2 h
  exact key n a1 a2 h
def wj3 {A1 A2 A3 ρ : Type} (F : A1 → A2 → A3 → ρ) (C : (A1 → A2 → A3 → ρ) → ρ) : ρ := C F
theorem wj3_ok {A1 A2 A3 ρ : Type} {F : A1 → A2 → A3 → ρ} {C : (A1 → A2 → A3 → ρ) → ρ} {res : ρ} {G : Prop} (P : A1 → A2 → A3 → Prop) (h : wj3 F C = res) (hj : ∀ (a1 : A1) (a2 : A2) (a3 : A3), F a1 a2 a3 = res → P a1 a2 a3) (k : ∀ J : A1 → A2 → A3 → ρ, (∀ (a1 : A1) (a2 : A2) (a3 : A3), J a1 a2 a3 = res → P a1 a2 a3) → C J = res → G) : G := k F hj h
def lq3 {A1 A2 A3 ρ : Type} : Nat → ((A1 → A2 → A3 → Option ρ) → A1 → A2 → A3 → Option ρ) → A1 → A2 → A3 → Option ρ
  | 0, _ => fun _ _ _ => none
  | n + 1, F => F (lq3 n F)
theorem lq3_ok {A1 A2 A3 ρ : Type} {n : Nat} {F : (A1 → A2 → A3 → Option ρ) → A1 → A2 → A3 → Option ρ} {a1 a2 a3 : _} {res : ρ} (P : A1 → A2 → A3 → Prop) (h : lq3 n F a1 a2 a3 = some res) (hs : ∀ rec : A1 → A2 → A3 → Option ρ, (∀ (a1 : A1) (a2 : A2) (a3 : A3), rec a1 a2 a3 = some res → P a1 a2 a3) → ∀ (a1 : A1) (a2 : A2) (a3 : A3), F rec a1 a2 a3 = some res → P a1 a2 a3) : P a1 a2 a3 := by
  have key : ∀ (n : Nat) (a1 : A1) (a2 : A2) (a3 : A3), lq3 n F a1 a2 a3 = some res → P a1 a2 a3 := by
    intro n
    induction n with
    | zero => intro a1 a2 a3 h; cases h
    | succ n ih => intro a1 a2 a3 h; exact hs _ ih a1 a2 a3 h
  exact key n a1 a2 a3 h
def wj4 {A1 A2 A3 A4 ρ : Type} (F : A1 → A2 → A3 → A4 → ρ) (C : (A1 → A2 → A3 → A4 → ρ) → ρ) : ρ := C F
theorem wj4_ok {A1 A2 A3 A4 ρ : Type} {F : A1 → A2 → A3 → A4 → ρ} {C : (A1 → A2 → A3 → A4 → ρ) → ρ} {res : ρ} {G : Prop} (P : A1 → A2 → A3 → A4 → Prop) (h : wj4 F C = res) (hj : ∀ (a1 : A1) (a2 : A2) (a3 : A3) (a4 : A4), F a1 a2 a3 a4 = res → P a1 a2 a3 a4) (k : ∀ J : A1 → A2 → A3 → A4 → ρ, (∀ (a1 : A1) (a2 : A2) (a3 : A3) (a4 : A4), J a1 a2 a3 a4 = res → P a1 a2 a3 a4) → C J = res → G) : G := k F hj h
def lq4 {A1 A2 A3 A4 ρ : Type} : Nat → ((A1 → A2 → A3 → A4 → Option ρ) → A1 → A2 → A3 → A4 → Option ρ) → A1 → A2 → A3 → A4 → Option ρ
  | 0, _ => fun _ _ _ _ => none
  | n + 1, F => F (lq4 n F)
theorem lq4_ok {A1 A2 A3 A4 ρ : Type} {n : Nat} {F : (A1 → A2 → A3 → A4 → Option ρ) → A1 → A2 → A3 → A4 → Option ρ} {a1 a2 a3 a4 : _} {res : ρ} (P : A1 → A2 → A3 → A4 → Prop) (h : lq4 n F a1 a2 a3 a4 = some res) (hs : ∀ rec : A1 → A2 → A3 → A4 → Option ρ, (∀ (a1 : A1) (a2 : A2) (a3 : A3) (a4 : A4), rec a1 a2 a3 a4 = some res → P a1 a2 a3 a4) → ∀ (a1 : A1) (a2 : A2) (a3 : A3) (a4 : A4), F rec a1 a2 a3 a4 = some res → P a1 a2 a3 a4) : P a1 a2 a3 a4 := by
  have key : ∀ (n : Nat) (a1 : A1) (a2 : A2) (a3 : A3) (a4 : A4), lq4 n F a1 a2 a3 a4 = some res → P a1 a2 a3 a4 := by
    intro n
    induction n with
    | zero => intro a1 a2 a3 a4 h; cases h
    | succ n ih => intro a1 a2 a3 a4 h; exact hs _ ih a1 a2 a3 a4 h
  exact key n a1 a2 a3 a4 h
def wj5 {A1 A2 A3 A4 A5 ρ : Type} (F : A1 → A2 → A3 → A4 → A5 → ρ) (C : (A1 → A2 → A3 → A4 → A5 → ρ) → ρ) : ρ := C F
theorem wj5_ok {A1 A2 A3 A4 A5 ρ : Type} {F : A1 → A2 → A3 → A4 → A5 → ρ} {C : (A1 → A2 → A3 → A4 → A5 → ρ) → ρ} {res : ρ} {G : Prop} (P : A1 → A2 → A3 → A4 → A5 → Prop) (h : wj5 F C = res) (hj : ∀ (a1 : A1) (a2 : A2) (a3 : A3) (a4 : A4) (a5 : A5), F a1 a2 a3 a4 a5 = res → P a1 a2 a3 a4 a5) (k : ∀ J : A1 → A2 → A3 → A4 → A5 → ρ, (∀ (a1 : A1) (a2 : A2) (a3 : A3) (a4 : A4) (a5 : A5), J a1 a2 a3 a4 a5 = res → P a1 a2 a3 a4 a5) → C J = res → G) : G := k F hj h
def lq5 {A1 A2 A3 A4 A5 ρ : Type} : Nat → ((A1 → A2 → A3 → A4 → A5 → Option ρ) → A1 → A2 → A3 → A4 → A5 → Option ρ) → A1 → A2 → A3 → A4 → A5 → Option ρ
  | 0, _ => fun _ _ _ _ _ => none
  | n + 1, F => F (lq5 n F)
theorem lq5_ok {A1 A2 A3 A4 A5 ρ : Type} {n : Nat} {F : (A1 → A2 → A3 → A4 → A5 → Option ρ) → A1 → A2 → A3 → A4 → A5 → Option ρ} {a1 a2 a3 a4 a5 : _} {res : ρ} (P : A1 → A2 → A3 → A4 → A5 → Prop) (h : lq5 n F a1 a2 a3 a4 a5 = some res) (hs : ∀ rec : A1 → A2 → A3 → A4 → A5 → Option ρ, (∀ (a1 : A1) (a2 : A2) (a3 : A3) (a4 : A4) (a5 : A5), rec a1 a2 a3 a4 a5 = some res → P a1 a2 a3 a4 a5) → ∀ (a1 : A1) (a2 : A2) (a3 : A3) (a4 : A4) (a5 : A5), F rec a1 a2 a3 a4 a5 = some res → P a1 a2 a3 a4 a5) : P a1 a2 a3 a4 a5 := by
  have key : ∀ (n : Nat) (a1 : A1) (a2 : A2) (a3 : A3) (a4 : A4) (a5 : A5), lq5 n F a1 a2 a3 a4 a5 = some res → P a1 a2 a3 a4 a5 := by
    intro n
    induction n with
    | zero => intro a1 a2 a3 a4 a5 h; cases h
    | succ n ih => intro a1 a2 a3 a4 a5 h; exact hs _ ih a1 a2 a3 a4 a5 h
  exact key n a1 a2 a3 a4 a5 h
def wj6 {A1 A2 A3 A4 A5 A6 ρ : Type} (F : A1 → A2 → A3 → A4 → A5 → A6 → ρ) (C : (A1 → A2 → A3 → A4 → A5 → A6 → ρ) → ρ) : ρ := C F
theorem wj6_ok {A1 A2 A3 A4 A5 A6 ρ : Type} {F : A1 → A2 → A3 → A4 → A5 → A6 → ρ} {C : (A1 → A2 → A3 → A4 → A5 → A6 → ρ) → ρ} {res : ρ} {G : Prop} (P : A1 → A2 → A3 → A4 → A5 → A6 → Prop) (h : wj6 F C = res) (hj : ∀ (a1 : A1) (a2 : A2) (a3 : A3) (a4 : A4) (a5 : A5) (a6 : A6), F a1 a2 a3 a4 a5 a6 = res → P a1 a2 a3 a4 a5 a6) (k : ∀ J : A1 → A2 → A3 → A4 → A5 → A6 → ρ, (∀ (a1 : A1) (a2 : A2) (a3 : A3) (a4 : A4) (a5 : A5) (a6 : A6), J a1 a2 a3 a4 a5 a6 = res → P a1 a2 a3 a4 a5 a6) → C J = res → G) : G := k F hj h
def lq6 {A1 A2 A3 A4 A5 A6 ρ : Type} : Nat → ((A1 → A2 → A3 → A4 → A5 → A6 → Option ρ) → A1 → A2 → A3 → A4 → A5 → A6 → Option ρ) → A1 → A2 → A3 → A4 → A5 → A6 → Option ρ
  | 0, _ => fun _ _ _ _ _ _ => none
  | n + 1, F => F (lq6 n F)
theorem lq6_ok {A1 A2 A3 A4 A5 A6 ρ : Type} {n : Nat} {F : (A1 → A2 → A3 → A4 → A5 → A6 → Option ρ) → A1 → A2 → A3 → A4 → A5 → A6 → Option ρ} {a1 a2 a3 a4 a5 a6 : _} {res : ρ} (P : A1 → A2 → A3 → A4 → A5 → A6 → Prop) (h : lq6 n F a1 a2 a3 a4 a5 a6 = some res) (hs : ∀ rec : A1 → A2 → A3 → A4 → A5 → A6 → Option ρ, (∀ (a1 : A1) (a2 : A2) (a3 : A3) (a4 : A4) (a5 : A5) (a6 : A6), rec a1 a2 a3 a4 a5 a6 = some res → P a1 a2 a3 a4 a5 a6) → ∀ (a1 : A1) (a2 : A2) (a3 : A3) (a4 : A4) (a5 : A5) (a6 : A6), F rec a1 a2 a3 a4 a5 a6 = some res → P a1 a2 a3 a4 a5 a6) : P a1 a2 a3 a4 a5 a6 := by
  have key : ∀ (n : Nat) (a1 : A1) (a2 : A2) (a3 : A3) (a4 : A4) (a5 : A5) (a6 : A6), lq6 n F a1 a2 a3 a4 a5 a6 = some res → P a1 a2 a3 a4 a5 a6 := by
    intro n
    induction n with
    | zero => intro a1 a2 a3 a4 a5 a6 h; cases h
    | succ n ih => intro a1 a2 a3 a4 a5 a6 h; exact hs _ ih a1 a2 a3 a4 a5 a6 h
  exact key n a1 a2 a3 a4 a5 a6 h
def wj7 {A1 A2 A3 A4 A5 A6 A7 ρ : Type} (F : A1 → A2 → A3 → A4 → A5 → A6 → A7 → ρ) (C : (A1 → A2 → A3 → A4 → A5 → A6 → A7 → ρ) → ρ) : ρ := C F
theorem wj7_ok {A1 A2 A3 A4 A5 A6 A7 ρ : Type} {F : A1 → A2 → A3 → A4 → A5 → A6 → A7 → ρ} {C : (A1 → A2 → A3 → A4 → A5 → A6 → A7 → ρ) → ρ} {res : ρ} {G : Prop} (P : A1 → A2 → A3 → A4 → A5 → A6 → A7 → Prop) (h : wj7 F C = res) (hj : ∀ (a1 : A1) (a2 : A2) (a3 : A3) (a4 : A4) (a5 : A5) (a6 : A6) (a7 : A7), F a1 a2 a3 a4 a5 a6 a7 = res → P a1 a2 a3 a4 a5 a6 a7) (k : ∀ J : A1 → A2 → A3 → A4 → A5 → A6 → A7 → ρ, (∀ (a1 : A1) (a2 : A2) (a3 : A3) (a4 : A4) (a5 : A5) (a6 : A6) (a7 : A7), J a1 a2 a3 a4 a5 a6 a7 = res → P a1 a2 a3 a4 a5 a6 a7) → C J = res → G) : G := k F hj h
def lq7 {A1 A2 A3 A4 A5 A6 A7 ρ : Type} : Nat → ((A1 → A2 → A3 → A4 → A5 → A6 → A7 → Option ρ) → A1 → A2 → A3 → A4 → A5 → A6 → A7 → Option ρ) → A1 → A2 → A3 → A4 → A5 → A6 → A7 → Option ρ
  | 0, _ => fun _ _ _ _ _ _ _ => none
  | n + 1, F => F (lq7 n F)
theorem lq7_ok {A1 A2 A3 A4 A5 A6 A7 ρ : Type} {n : Nat} {F : (A1 → A2 → A3 → A4 → A5 → A6 → A7 → Option ρ) → A1 → A2 → A3 → A4 → A5 → A6 → A7 → Option ρ} {a1 a2 a3 a4 a5 a6 a7 : _} {res : ρ} (P : A1 → A2 → A3 → A4 → A5 → A6 → A7 → Prop) (h : lq7 n F a1 a2 a3 a4 a5 a6 a7 = some res) (hs : ∀ rec : A1 → A2 → A3 → A4 → A5 → A6 → A7 → Option ρ, (∀ (a1 : A1) (a2 : A2) (a3 : A3) (a4 : A4) (a5 : A5) (a6 : A6) (a7 : A7), rec a1 a2 a3 a4 a5 a6 a7 = some res → P a1 a2 a3 a4 a5 a6 a7) → ∀ (a1 : A1) (a2 : A2) (a3 : A3) (a4 : A4) (a5 : A5) (a6 : A6) (a7 : A7), F rec a1 a2 a3 a4 a5 a6 a7 = some res → P a1 a2 a3 a4 a5 a6 a7) : P a1 a2 a3 a4 a5 a6 a7 := by
  have key : ∀ (n : Nat) (a1 : A1) (a2 : A2) (a3 : A3) (a4 : A4) (a5 : A5) (a6 : A6) (a7 : A7), lq7 n F a1 a2 a3 a4 a5 a6 a7 = some res → P a1 a2 a3 a4 a5 a6 a7 := by
    intro n
    induction n with
    | zero => intro a1 a2 a3 a4 a5 a6 a7 h; cases h
    | succ n ih => intro a1 a2 a3 a4 a5 a6 a7 h; exact hs _ ih a1 a2 a3 a4 a5 a6 a7 h
  exact key n a1 a2 a3 a4 a5 a6 a7 h
end
section
theorem v_fs_setL {ad : Nat → Nat} {mh : vMH} {r k : Nat} {fc : List Nat} {x : Int64} (h1 : fc[k]? = some 1) (hu : ∀ j, j < fc.length → fc[j]? = some 1 → j = k) : v_fs ad (v_ul mh x) r fc = (v_fs ad mh r fc).set k (.long x) := by
  apply List.ext_getElem?
  intro j
  have hl : k < fc.length := (List.getElem?_eq_some_iff.mp h1).1
  by_cases hj : j = k
  · subst hj
    rw [List.getElem?_set_self (by simp [v_fs, hl])]
    simp [v_fs, List.getElem?_mapIdx, h1, v_fv, v_ul]
  · rw [List.getElem?_set_ne (Ne.symm hj)]
    simp only [v_fs, List.getElem?_mapIdx]
    cases hc : fc[j]? with
    | none => rfl
    | some c =>
      match c, hc with
      | 0, hc => rfl
      | 1, hc => exact absurd (hu j (List.getElem?_eq_some_iff.mp hc).1 hc) hj
      | _ + 2, hc => rfl
theorem lm6_arr {r : Nat} (h : r ≠ 0) : ∃ q, lm6 r = .inl q := by
  unfold lm6
  split
  · exact absurd rfl h
  all_goals exact ⟨_, rfl⟩
theorem ulM (cA : ClassId × ClassId) (ad : Nat → Nat) (mh : vMH) (x : Int64) : (v_ws LM cA ad mh).set 0 (ad 0, .inr (6, (v_fs ad mh 0 fc6).set 28 (.long x))) = v_ws LM cA ad (v_ul mh x) := by
  apply List.ext_getElem?
  intro k
  by_cases hk : k = 0
  · subst hk
    rw [List.getElem?_set_self (by simp [v_ws, LM]), v_ws_at (by decide)]
    show _ = some (ad 0, Sum.inr (6, v_fs ad (v_ul mh x) 0 fc6))
    rw [v_fs_setL (k := 28) rfl (by decide)]
  · rw [List.getElem?_set_ne (Ne.symm hk)]
    by_cases hl : k < LM.1
    · rw [v_ws_at hl, v_ws_at hl]
      obtain ⟨q, hq⟩ := lm6_arr hk
      rw [show LM.2 k = lm6 k from rfl, hq]
      rfl
    · simp [v_ws, Nat.not_lt.mp hl]
end
section
/-! the text constants: String.length, String.charAt, walked -/
section VSTR
variable {Λ : vLay} {X : vX} {d d' nL pc idx n i : Nat} {cc : ByteArray} {own : String} {ret : Option FieldType} {lv : List (Option Value)} {st rest As : List Value} {mh mh' : vMH} {y : MethodName} {ycc : ByteArray} {ynL : Nat} {yret : Option FieldType}
def sch (i k : Nat) : Int32 := (v_sbyt.getD i []).getD k 0
def sln (i : Nat) : Nat := v_slen.getD i 0
theorem V_cstr (C : Cx X d nL cc own ret) (L : Cond.fieldLink own idx "java/lang/String" "COMPACT_STRINGS" "Z" ∈ gw) (hd : decode cc pc = .ok (.getstatic idx, 3)) (kk : Vw Λ X d nL (pc + 3) lv (.int 1 :: st) mh) : Vw Λ X d nL pc lv st mh := by
  obtain ⟨p, l, e, s, m, args, below, meth, c, D, cA, ad, A, Qc⟩ := X
  obtain ⟨hx, hb, hml, hown, hts, hret, hlk, hK, hA, hE⟩ := C
  intro H locs ls hP hD hS hl
  exact va_gets hx hb hE.2.2.2.2.2.1 hS hown (hts _ L) (fun _ h9 => h9) hd (kk H locs ls hP hD hS hl)
theorem V_sio (C : Cx X d nL cc own ret) (L : Cond.fieldLink own idx "jdk/internal/util/Preconditions" "SIOOBE_FORMATTER" "Ljava/util/function/BiFunction;" ∈ gw) (hd : decode cc pc = .ok (.getstatic idx, 3)) (kk : ∀ v : Value, v = .null ∨ v = .ref 3000 → Vw Λ X d nL (pc + 3) lv (v :: st) mh) : Vw Λ X d nL pc lv st mh := by
  obtain ⟨p, l, e, s, m, args, below, meth, c, D, cA, ad, A, Qc⟩ := X
  obtain ⟨hx, hb, hml, hown, hts, hret, hlk, hK, hA, hE⟩ := C
  intro H locs ls hP hD hS hl
  rcases hE.2.2.2.2.2.2 with hz | hz
  · exact va_gets hx hb hz hS hown (hts _ L) (fun _ h9 => h9) hd (kk .null (Or.inl rfl) H locs ls hP hD hS hl)
  · exact va_gets hx hb hz hS hown (hts _ L) (fun _ h9 => h9) hd (kk (.ref 3000) (Or.inr rfl) H locs ls hP hD hS hl)
theorem V_strC (C : Cx X d nL cc own ret) (hi : i < 12) (L : Cond.fieldLink own idx "java/lang/String" "coder" "B" ∈ gw) (hd : decode cc pc = .ok (.getfield idx, 3)) (kk : Vw Λ X d nL (pc + 3) lv (.int 0 :: st) mh) : Vw Λ X d nL pc lv (.ref (1000 + i) :: st) mh := by
  obtain ⟨p, l, e, s, m, args, below, meth, c, D, cA, ad, A, Qc⟩ := X
  obtain ⟨hx, hb, hml, hown, hts, hret, hlk, hK, hA, hE⟩ := C
  intro H locs ls hP hD hS hl
  exact vk_getf hx hb (hE.2.2.2.2.1.1 i hi).2.1 hS hown (hts _ L) (fun _ h9 => h9) hd (kk H locs ls hP hD hS hl)
theorem V_strV (C : Cx X d nL cc own ret) (hi : i < 12) (L : Cond.fieldLink own idx "java/lang/String" "value" "[B" ∈ gw) (hd : decode cc pc = .ok (.getfield idx, 3)) (kk : Vw Λ X d nL (pc + 3) lv (.ref (2000 + i) :: st) mh) : Vw Λ X d nL pc lv (.ref (1000 + i) :: st) mh := by
  obtain ⟨p, l, e, s, m, args, below, meth, c, D, cA, ad, A, Qc⟩ := X
  obtain ⟨hx, hb, hml, hown, hts, hret, hlk, hK, hA, hE⟩ := C
  intro H locs ls hP hD hS hl
  exact vk_getf hx hb (hE.2.2.2.2.1.1 i hi).2.2.1 hS hown (hts _ L) (fun _ h9 => h9) hd (kk H locs ls hP hD hS hl)
theorem V_strLen (C : Cx X d nL cc own ret) (hi : i < 12) (hd : decode cc pc = .ok (.arraylength, 1)) (kk : Vw Λ X d nL (pc + 1) lv (.int (Int32.ofNat (sln i)) :: st) mh) : Vw Λ X d nL pc lv (.ref (2000 + i) :: st) mh := by
  obtain ⟨p, l, e, s, m, args, below, meth, c, D, cA, ad, A, Qc⟩ := X
  obtain ⟨hx, hb, hml, hown, hts, hret, hlk, hK, hA, hE⟩ := C
  intro H locs ls hP hD hS hl
  exact va_tlen hx hb (hE.2.2.2.2.1.1 i hi).2.2.2 hS (v := Int32.ofNat (sln i)) rfl hd (kk H locs ls hP hD hS hl)
theorem V_strAt (C : Cx X d nL cc own ret) (hi : i < 12) {k : Int32} (hk : inb k (sln i)) (hd : decode cc pc = .ok (.baload, 1)) (kk : Vw Λ X d nL (pc + 1) lv (.int (sch i (jn k)) :: st) mh) : Vw Λ X d nL pc lv (.int k :: .ref (2000 + i) :: st) mh := by
  obtain ⟨p, l, e, s, m, args, below, meth, c, D, cA, ad, A, Qc⟩ := X
  obtain ⟨hx, hb, hml, hown, hts, hret, hlk, hK, hA, hE⟩ := C
  intro H locs ls hP hD hS hl
  exact va_tb hx hb (hE.2.2.2.2.1.1 i hi).2.2.2 hS hk (v := .int (sch i (jn k))) rfl hd (kk H locs ls hP hD hS hl)
theorem V_i2c (C : Cx X d nL cc own ret) {x v : Int32} (hv : (x.toUInt32 % 65536).toInt32 = v) (hd : decode cc pc = .ok (.i2c, 1)) (kk : Vw Λ X d nL (pc + 1) lv (.int v :: st) mh) : Vw Λ X d nL pc lv (.int x :: st) mh := by
  obtain ⟨p, l, e, s, m, args, below, meth, c, D, cA, ad, A, Qc⟩ := X
  obtain ⟨hx, hb, hml, hown, hts, hret, hlk, hK, hA, hE⟩ := C
  intro H locs ls hP hD hS hl
  exact lv_i2c hx hb hd hv (kk H locs ls hP hD hS hl)
theorem V_tret {ty : FieldType} (C : Cx X d nL cc own (some ty)) {x : Int32} (hn : narrow ty (.int x) = .int x) (hG : Gd Λ X (some (.int x)) mh) (hd : decode cc pc = .ok (.ireturn, 1)) : Vw Λ X d nL pc lv [.int x] mh := by
  obtain ⟨p, l, e, s, m, args, below, meth, c, D, cA, ad, A, Qc⟩ := X
  obtain ⟨hx, hb, hml, hown, hts, hret, hlk, hK, hA, hE⟩ := C
  intro H locs ls hP hD hS hl
  exact W.zret hx hb hret hn (fun t ht hW => hG H locs hP hD hS t ht hW) hS.2.2 hd hlk
theorem V_callTi (C : Cx X d nL cc own ret) {x : Int32} (hi : i < 12) (S : CSV own idx "java/lang/String" y ycc ynL yret n) (hM : MC Λ d' y ycc ynL yret (.ref (1000 + i) :: As) mh (some (.int x)) mh') (hdd : d' + 1 ≤ d) (hnl : ynL ≤ 45) (hn : As.length = n) (hst : st = As.reverse ++ .ref (1000 + i) :: rest) (hcat : (rest.map fun v => v.category).sum ≤ 8) (hd : decode cc pc = .ok (.invokevirtual idx, 3))
    (k : Vw Λ X d nL (pc + 3) lv (.int x :: rest) mh') : Vw Λ X d nL pc lv st mh := by
  obtain ⟨p, l, e, s, m, args, below, meth, c, D, cA, ad, A, Qc⟩ := X
  obtain ⟨hx, hb, hml, hown, hts, hret, hlk, hK, hA, hE⟩ := C
  intro H locs ls hP hD hS hl
  exact v_callg (va_runV (As := As.map (v_tr ad)) (rest := rest.map (v_tr ad)) (b := ad (1000 + i)) ⟨hx, hb, hml, hown, hts⟩ (hM l D cA ad H.size) (cwV n hts S.1 rfl rfl rfl S.2 (v_frames (R := 0) hdd hnl)) ⟨v_blind, vk_recv (adK := fun i => ad (1000 + i)) (i := i) hE.2.2.2.2.1 hi hS, v_pre (p := p) hP hD hS hK hA hE⟩ rfl (by simp [hn]) hl.1 (by rw [hst]; simp [v_tr]) (lv_room (v_cat8 hcat)) hd ⟨Nat.le_refl _, Nat.le_refl _⟩) hS (v_A0 hD hS hA) (fun H1 locs1 hP1 hD1 hS1 => k H1 locs1 ls hP1 hD1 hS1 hl)
end VSTR
theorem fs_J0_38 : Cond.fieldLink RJ0 38 "java/lang/String" "COMPACT_STRINGS" "Z" ∈ gw := inG 391 (by decide +kernel)
theorem fs_J0_1053 : Cond.fieldLink RJ0 1053 "jdk/internal/util/Preconditions" "SIOOBE_FORMATTER" "Ljava/util/function/BiFunction;" ∈ gw := inG 407 (by decide +kernel)
theorem fs_J0_9 : Cond.fieldLink RJ0 9 "java/lang/String" "value" "[B" ∈ gw := inG 1205 (by decide +kernel)
theorem fs_J0_15 : Cond.fieldLink RJ0 15 "java/lang/String" "coder" "B" ∈ gw := inG 1206 (by decide +kernel)
theorem c_coder (d : Nat) {i : Nat} (hi : i < 12) (mh : vMH) : MC LC (d + 0) yJ0_coder_7d493 cJ0_coder_7d493 1 (some .byte) [.ref (1000 + i)] mh (some (.int 0)) mh := by
  refine MC_of 0 (by decide) rfl (fun X C hG => ?_)
  replace C : Cx X (d + 0) 1 cJ0_coder_7d493 RJ0 (some .byte) := C
  show Vw LC X (d + 0) 1 0 [some (.ref (1000 + i))] [] mh
  refine V_cstr (pc := 0) C fs_J0_38 dJ0_coder_7d493_0 ?_
  refine V_ifeq (pc := 3) (tgt := 13) C dJ0_coder_7d493_3 (by decide) (fun h => absurd h (by decide)) (fun _ => ?_)
  refine V_aload_n (pc := 6) C dJ0_coder_7d493_6 rfl rfl ?_
  refine V_strC (pc := 7) C hi fs_J0_15 dJ0_coder_7d493_7 ?_
  refine V_goto (pc := 10) (tgt := 14) C dJ0_coder_7d493_10 (by decide) ?_
  exact V_tret (pc := 14) C rfl hG dJ0_coder_7d493_14
theorem c_isLatin1 (d : Nat) {i : Nat} (hi : i < 12) (mh : vMH) : MC LC (d + 0) yJ0_isLatin1_aae02 cJ0_isLatin1_aae02 1 (some .boolean) [.ref (1000 + i)] mh (some (.int 1)) mh := by
  refine MC_of 0 (by decide) rfl (fun X C hG => ?_)
  replace C : Cx X (d + 0) 1 cJ0_isLatin1_aae02 RJ0 (some .boolean) := C
  show Vw LC X (d + 0) 1 0 [some (.ref (1000 + i))] [] mh
  refine V_cstr (pc := 0) C fs_J0_38 dJ0_isLatin1_aae02_0 ?_
  refine V_ifeq (pc := 3) (tgt := 17) C dJ0_isLatin1_aae02_3 (by decide) (fun h => absurd h (by decide)) (fun _ => ?_)
  refine V_aload_n (pc := 6) C dJ0_isLatin1_aae02_6 rfl rfl ?_
  refine V_strC (pc := 7) C hi fs_J0_15 dJ0_isLatin1_aae02_7 ?_
  refine V_ifne (pc := 10) (tgt := 17) C dJ0_isLatin1_aae02_10 (by decide) (fun h => absurd rfl h) (fun _ => ?_)
  refine V_iconst (pc := 13) C (v := 1) dJ0_isLatin1_aae02_13 (by decide) ?_
  refine V_goto (pc := 14) (tgt := 18) C dJ0_isLatin1_aae02_14 (by decide) ?_
  exact V_zret (pc := 18) C rfl hG dJ0_isLatin1_aae02_18
theorem sln_lt {i : Nat} (hi : i < 12) : 1 ≤ sln i ∧ sln i ≤ 5 := by
  have : ∀ i, i < 12 → 1 ≤ sln i ∧ sln i ≤ 5 := by decide
  exact this i hi
theorem c_length (d : Nat) {i : Nat} (hi : i < 12) (mh : vMH) : MC LC (d + 1) yJ0_length_8abf5 cJ0_length_8abf5 1 (some .int) [.ref (1000 + i)] mh (some (.int (Int32.ofNat (sln i)))) mh := by
  refine MC_of 0 (by decide) rfl (fun X C hG => ?_)
  replace C : Cx X (d + 1) 1 cJ0_length_8abf5 RJ0 (some .int) := C
  show Vw LC X (d + 1) 1 0 [some (.ref (1000 + i))] [] mh
  refine V_aload_n (pc := 0) C dJ0_length_8abf5_0 rfl rfl ?_
  refine V_strV (pc := 1) C hi fs_J0_9 dJ0_length_8abf5_1 ?_
  refine V_strLen (pc := 4) C hi dJ0_length_8abf5_4 ?_
  refine V_aload_n (pc := 5) C dJ0_length_8abf5_5 rfl rfl ?_
  refine V_callTi (pc := 6) (rest := [.int (Int32.ofNat (sln i))]) C hi cs_J0_335 (c_coder (d + 0) hi mh) (by omega) (by decide) rfl rfl (Nat.le_of_ble_eq_true rfl) dJ0_length_8abf5_6 ?_
  refine V_ishr (pc := 9) C dJ0_length_8abf5_9 ?_
  have e : js (Int32.ofNat (sln i)) 0 = Int32.ofNat (sln i) := by
    have : ∀ i, i < 12 → js (Int32.ofNat (sln i)) 0 = Int32.ofNat (sln i) := by decide
    exact this i hi
  rw [e]
  exact V_iret (pc := 10) C hG dJ0_length_8abf5_10
theorem c_chk3 (d : Nat) (k n : Int32) (v : Value) (hv : v = .null ∨ v = .ref 3000) (mh : vMH) (h1 : ¬ k < 0) (h2 : k < n) : MC LC (d + 0) yJ3_checkIndex_8e157 cJ3_checkIndex_8e157 3 (some .int) [.int k, .int n, v] mh (some (.int k)) mh := by
  have key : ∀ X : vX, Cx X (d + 0) 3 cJ3_checkIndex_8e157 RJ3 (some .int) → Gd LC X (some (.int k)) mh → Vw LC X (d + 0) 3 0 [some (.int k), some (.int n), some v] [] mh := by
    intro X C hG
    refine V_iload_n (pc := 0) C dJ3_checkIndex_8e157_0 rfl rfl ?_
    refine V_iflt (pc := 1) (tgt := 9) C dJ3_checkIndex_8e157_1 (by decide) (fun h => absurd h h1) (fun _ => ?_)
    refine V_iload_n (pc := 4) C dJ3_checkIndex_8e157_4 rfl rfl ?_
    refine V_iload_n (pc := 5) C dJ3_checkIndex_8e157_5 rfl rfl ?_
    refine V_icmplt (pc := 6) (tgt := 16) C dJ3_checkIndex_8e157_6 (by decide) (fun _ => ?_) (fun h => absurd h2 h)
    refine V_iload_n (pc := 16) C dJ3_checkIndex_8e157_16 rfl rfl ?_
    exact V_iret (pc := 17) C hG dJ3_checkIndex_8e157_17
  rcases hv with rfl | rfl
  · exact MC_of 0 (by decide) rfl (fun X C hG => key X C hG)
  · exact MC_of 0 (by decide) rfl (fun X C hG => key X C hG)
theorem c_chk0 (d : Nat) (k n : Int32) (mh : vMH) (h1 : ¬ k < 0) (h2 : k < n) : MC LC (d + 1) yJ0_checkIndex_df160 cJ0_checkIndex_df160 2 none [.int k, .int n] mh none mh := by
  refine MC_of 0 (by decide) rfl (fun X C hG => ?_)
  replace C : Cx X (d + 1) 2 cJ0_checkIndex_df160 RJ0 none := C
  show Vw LC X (d + 1) 2 0 [some (.int k), some (.int n)] [] mh
  refine V_iload_n (pc := 0) C dJ0_checkIndex_df160_0 rfl rfl ?_
  refine V_iload_n (pc := 1) C dJ0_checkIndex_df160_1 rfl rfl ?_
  refine V_sio (pc := 2) C fs_J0_1053 dJ0_checkIndex_df160_2 (fun v hv => ?_)
  have e : ([v, .int n, .int k] : List Value) = ([.int k, .int n, v] : List Value).reverse ++ [] := rfl
  refine V_callSi (pc := 5) (rest := []) C cs_J0_1059 (c_chk3 (d + 0) k n v hv mh h1 h2) (by omega) (by decide) rfl e (Nat.le_of_ble_eq_true rfl) dJ0_checkIndex_df160_5 ?_
  refine V_pop (pc := 8) C dJ0_checkIndex_df160_8 rfl ?_
  exact V_ret0 (pc := 9) C hG dJ0_checkIndex_df160_9
theorem sch_c {i k : Nat} (hi : i < 12) (hk : k < sln i) : ((sch i k &&& 255).toUInt32 % 65536).toInt32 = sch i k ∧ narrow .char (.int (sch i k)) = .int (sch i k) := by
  have h5 : k < 5 := Nat.lt_of_lt_of_le hk (sln_lt hi).2
  have : ∀ i, i < 12 → ∀ k, k < 5 → (((sch i k &&& 255).toUInt32 % 65536).toInt32 = sch i k ∧ narrow .char (.int (sch i k)) = .int (sch i k)) := by decide +kernel
  exact this i hi k h5
theorem c_charAt1 (d : Nat) {i : Nat} (hi : i < 12) (k : Int32) (mh : vMH) (hk : inb k (sln i)) : MC LC (d + 2) yJ1_charAt_3b067 cJ1_charAt_3b067 2 (some .char) [.ref (2000 + i), .int k] mh (some (.int (sch i (jn k)))) mh := by
  have hk1 : ¬ k < 0 := fun z => hk (Or.inl z)
  have hkn : jn k < sln i := Nat.not_le.mp (fun z => hk (Or.inr z))
  have hk2 : k < Int32.ofNat (sln i) := by
    obtain ⟨j, hj, e⟩ := vp_in_of (x := k) (n := sln i) hk (by have := (sln_lt hi).2; omega)
    rw [e]
    exact nI_lt hj (by have := (sln_lt hi).2; omega)
  refine MC_of 0 (by decide) rfl (fun X C hG => ?_)
  replace C : Cx X (d + 2) 2 cJ1_charAt_3b067 RJ1 (some .char) := C
  show Vw LC X (d + 2) 2 0 [some (.ref (2000 + i)), some (.int k)] [] mh
  refine V_iload_n (pc := 0) C dJ1_charAt_3b067_0 rfl rfl ?_
  refine V_aload_n (pc := 1) C dJ1_charAt_3b067_1 rfl rfl ?_
  refine V_strLen (pc := 2) C hi dJ1_charAt_3b067_2 ?_
  refine V_callSv (pc := 3) (rest := []) C cs_J1_9 (c_chk0 (d + 0) k _ mh hk1 hk2) (by omega) (by decide) rfl rfl (Nat.le_of_ble_eq_true rfl) dJ1_charAt_3b067_3 ?_
  refine V_aload_n (pc := 6) C dJ1_charAt_3b067_6 rfl rfl ?_
  refine V_iload_n (pc := 7) C dJ1_charAt_3b067_7 rfl rfl ?_
  refine V_strAt (pc := 8) C hi hk dJ1_charAt_3b067_8 ?_
  refine V_sipush (pc := 9) C (v := 255) dJ1_charAt_3b067_9 (by decide) ?_
  refine V_iand (pc := 12) C dJ1_charAt_3b067_12 ?_
  refine V_i2c (pc := 13) C (sch_c hi hkn).1 dJ1_charAt_3b067_13 ?_
  exact V_tret (pc := 14) C (sch_c hi hkn).2 hG dJ1_charAt_3b067_14
theorem c_charAt (d : Nat) {i : Nat} (hi : i < 12) (k : Int32) (mh : vMH) (hk : inb k (sln i)) : MC LC (d + 3) yJ0_charAt_5068e cJ0_charAt_5068e 2 (some .char) [.ref (1000 + i), .int k] mh (some (.int (sch i (jn k)))) mh := by
  have hkn : jn k < sln i := Nat.not_le.mp (fun z => hk (Or.inr z))
  refine MC_of 0 (by decide) rfl (fun X C hG => ?_)
  replace C : Cx X (d + 3) 2 cJ0_charAt_5068e RJ0 (some .char) := C
  show Vw LC X (d + 3) 2 0 [some (.ref (1000 + i)), some (.int k)] [] mh
  refine V_aload_n (pc := 0) C dJ0_charAt_5068e_0 rfl rfl ?_
  refine V_callTi (pc := 1) (rest := []) C hi cs_J0_492 (c_isLatin1 (d + 2) hi mh) (by omega) (by decide) rfl rfl (Nat.le_of_ble_eq_true rfl) dJ0_charAt_5068e_1 ?_
  refine V_ifeq (pc := 4) (tgt := 16) C dJ0_charAt_5068e_4 (by decide) (fun h => absurd h (by decide)) (fun _ => ?_)
  refine V_aload_n (pc := 7) C dJ0_charAt_5068e_7 rfl rfl ?_
  refine V_strV (pc := 8) C hi fs_J0_9 dJ0_charAt_5068e_8 ?_
  refine V_iload_n (pc := 11) C dJ0_charAt_5068e_11 rfl rfl ?_
  refine V_callSi (pc := 12) (rest := []) C cs_J0_495 (c_charAt1 (d + 0) hi k mh hk) (by omega) (by decide) rfl rfl (Nat.le_of_ble_eq_true rfl) dJ0_charAt_5068e_12 ?_
  exact V_tret (pc := 15) C (sch_c hi hkn).2 hG dJ0_charAt_5068e_15
end
