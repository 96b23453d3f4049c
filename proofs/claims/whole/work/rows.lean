section
-- ===== PART A: goes FIRST, ahead of the names: the tables' words, and 'selects' of the private methods out of them =====
/-- a private method of a class that the tables say can be made, by its rows of tables_1 -/
def lw_okq (q : MethodName × Nat) : Prop := (q.1.cls ≠ "java/lang/invoke/MethodHandle" ∧ q.1.cls ≠ "java/lang/invoke/VarHandle") ∧ Cond.instantiable q.1.cls q.2 ∈ tables_1 ∧ Cond.privateMethod q.1 ∈ tables_1 ∧ Cond.instanceMethod q.1 ∈ tables_1
theorem lw_p0 : lw_okq (⟨"ShoulderHeirs", "layText", "()I"⟩, 18) := ⟨⟨by decide +kernel, by decide +kernel⟩, List.mem_of_getElem? (i := 19) (by decide +kernel), List.mem_of_getElem? (i := 374) (by decide +kernel), List.mem_of_getElem? (i := 375) (by decide +kernel)⟩
theorem lw_p1 : lw_okq (⟨"ShoulderHeirs$Reader", "readNumbers", "([CIII)I"⟩, 3) := ⟨⟨by decide +kernel, by decide +kernel⟩, List.mem_of_getElem? (i := 27) (by decide +kernel), List.mem_of_getElem? (i := 389) (by decide +kernel), List.mem_of_getElem? (i := 390) (by decide +kernel)⟩
theorem lw_p2 : lw_okq (⟨"ShoulderHeirs$Reader", "take", "(I)Z"⟩, 3) := ⟨⟨by decide +kernel, by decide +kernel⟩, List.mem_of_getElem? (i := 27) (by decide +kernel), List.mem_of_getElem? (i := 396) (by decide +kernel), List.mem_of_getElem? (i := 397) (by decide +kernel)⟩
theorem lw_p3 : lw_okq (⟨"ShoulderHeirs$Funeral", "markYards", "()V"⟩, 11) := ⟨⟨by decide +kernel, by decide +kernel⟩, List.mem_of_getElem? (i := 33) (by decide +kernel), List.mem_of_getElem? (i := 444) (by decide +kernel), List.mem_of_getElem? (i := 445) (by decide +kernel)⟩
theorem lw_p4 : lw_okq (⟨"ShoulderHeirs", "settle", "()V"⟩, 18) := ⟨⟨by decide +kernel, by decide +kernel⟩, List.mem_of_getElem? (i := 19) (by decide +kernel), List.mem_of_getElem? (i := 453) (by decide +kernel), List.mem_of_getElem? (i := 454) (by decide +kernel)⟩
theorem lw_p5 : lw_okq (⟨"ShoulderHeirs$Walk", "drawnAt", "(I)I"⟩, 12) := ⟨⟨by decide +kernel, by decide +kernel⟩, List.mem_of_getElem? (i := 155) (by decide +kernel), List.mem_of_getElem? (i := 484) (by decide +kernel), List.mem_of_getElem? (i := 485) (by decide +kernel)⟩
theorem lw_p6 : lw_okq (⟨"ShoulderHeirs$Walk", "setCosts", "(II)V"⟩, 12) := ⟨⟨by decide +kernel, by decide +kernel⟩, List.mem_of_getElem? (i := 155) (by decide +kernel), List.mem_of_getElem? (i := 492) (by decide +kernel), List.mem_of_getElem? (i := 493) (by decide +kernel)⟩
theorem lw_p7 : lw_okq (⟨"ShoulderHeirs$Walk", "stumbling", "(II)I"⟩, 12) := ⟨⟨by decide +kernel, by decide +kernel⟩, List.mem_of_getElem? (i := 155) (by decide +kernel), List.mem_of_getElem? (i := 506) (by decide +kernel), List.mem_of_getElem? (i := 507) (by decide +kernel)⟩
theorem lw_p8 : lw_okq (⟨"ShoulderHeirs$Walk", "bringUp", "(II)V"⟩, 12) := ⟨⟨by decide +kernel, by decide +kernel⟩, List.mem_of_getElem? (i := 155) (by decide +kernel), List.mem_of_getElem? (i := 514) (by decide +kernel), List.mem_of_getElem? (i := 515) (by decide +kernel)⟩
theorem lw_p9 : lw_okq (⟨"ShoulderHeirs$Pile", "dropOldest", "()V"⟩, 2) := ⟨⟨by decide +kernel, by decide +kernel⟩, List.mem_of_getElem? (i := 138) (by decide +kernel), List.mem_of_getElem? (i := 649) (by decide +kernel), List.mem_of_getElem? (i := 650) (by decide +kernel)⟩
theorem lw_p10 : lw_okq (⟨"ShoulderHeirs$TurnSearch", "lookAhead", "()V"⟩, 12) := ⟨⟨by decide +kernel, by decide +kernel⟩, List.mem_of_getElem? (i := 206) (by decide +kernel), List.mem_of_getElem? (i := 679) (by decide +kernel), List.mem_of_getElem? (i := 680) (by decide +kernel)⟩
theorem lw_p11 : lw_okq (⟨"ShoulderHeirs$TurnSearch", "isOpen", "(LShoulderHeirs$Walk;)Z"⟩, 12) := ⟨⟨by decide +kernel, by decide +kernel⟩, List.mem_of_getElem? (i := 206) (by decide +kernel), List.mem_of_getElem? (i := 686) (by decide +kernel), List.mem_of_getElem? (i := 687) (by decide +kernel)⟩
theorem lw_p12 : lw_okq (⟨"ShoulderHeirs$TurnSearch", "seekFrom", "(I)V"⟩, 12) := ⟨⟨by decide +kernel, by decide +kernel⟩, List.mem_of_getElem? (i := 206) (by decide +kernel), List.mem_of_getElem? (i := 691) (by decide +kernel), List.mem_of_getElem? (i := 692) (by decide +kernel)⟩
theorem lw_p13 : lw_okq (⟨"ShoulderHeirs$TurnSearch", "weigh", "(II)V"⟩, 12) := ⟨⟨by decide +kernel, by decide +kernel⟩, List.mem_of_getElem? (i := 206) (by decide +kernel), List.mem_of_getElem? (i := 701) (by decide +kernel), List.mem_of_getElem? (i := 702) (by decide +kernel)⟩
theorem lw_p14 : lw_okq (⟨"ShoulderHeirs", "walkWithout", "(I)V"⟩, 18) := ⟨⟨by decide +kernel, by decide +kernel⟩, List.mem_of_getElem? (i := 19) (by decide +kernel), List.mem_of_getElem? (i := 710) (by decide +kernel), List.mem_of_getElem? (i := 711) (by decide +kernel)⟩
theorem lw_p15 : lw_okq (⟨"ShoulderHeirs", "bearUpAlone", "(I)Z"⟩, 18) := ⟨⟨by decide +kernel, by decide +kernel⟩, List.mem_of_getElem? (i := 19) (by decide +kernel), List.mem_of_getElem? (i := 719) (by decide +kernel), List.mem_of_getElem? (i := 720) (by decide +kernel)⟩
def lw_privs_1 : List (MethodName × Nat) := [(⟨"ShoulderHeirs", "layText", "()I"⟩, 18), (⟨"ShoulderHeirs$Reader", "readNumbers", "([CIII)I"⟩, 3), (⟨"ShoulderHeirs$Reader", "take", "(I)Z"⟩, 3), (⟨"ShoulderHeirs$Funeral", "markYards", "()V"⟩, 11), (⟨"ShoulderHeirs", "settle", "()V"⟩, 18), (⟨"ShoulderHeirs$Walk", "drawnAt", "(I)I"⟩, 12), (⟨"ShoulderHeirs$Walk", "setCosts", "(II)V"⟩, 12), (⟨"ShoulderHeirs$Walk", "stumbling", "(II)I"⟩, 12), (⟨"ShoulderHeirs$Walk", "bringUp", "(II)V"⟩, 12), (⟨"ShoulderHeirs$Pile", "dropOldest", "()V"⟩, 2), (⟨"ShoulderHeirs$TurnSearch", "lookAhead", "()V"⟩, 12), (⟨"ShoulderHeirs$TurnSearch", "isOpen", "(LShoulderHeirs$Walk;)Z"⟩, 12), (⟨"ShoulderHeirs$TurnSearch", "seekFrom", "(I)V"⟩, 12), (⟨"ShoulderHeirs$TurnSearch", "weigh", "(II)V"⟩, 12), (⟨"ShoulderHeirs", "walkWithout", "(I)V"⟩, 18), (⟨"ShoulderHeirs", "bearUpAlone", "(I)Z"⟩, 18)]
theorem lw_r1 : ∀ q ∈ lw_privs_1, lw_okq q := List.forall_mem_cons.mpr ⟨lw_p0, List.forall_mem_cons.mpr ⟨lw_p1, List.forall_mem_cons.mpr ⟨lw_p2, List.forall_mem_cons.mpr ⟨lw_p3, List.forall_mem_cons.mpr ⟨lw_p4, List.forall_mem_cons.mpr ⟨lw_p5, List.forall_mem_cons.mpr ⟨lw_p6, List.forall_mem_cons.mpr ⟨lw_p7, List.forall_mem_cons.mpr ⟨lw_p8, List.forall_mem_cons.mpr ⟨lw_p9, List.forall_mem_cons.mpr ⟨lw_p10, List.forall_mem_cons.mpr ⟨lw_p11, List.forall_mem_cons.mpr ⟨lw_p12, List.forall_mem_cons.mpr ⟨lw_p13, List.forall_mem_cons.mpr ⟨lw_p14, List.forall_mem_cons.mpr ⟨lw_p15, fun _ h => absurd h List.not_mem_nil⟩⟩⟩⟩⟩⟩⟩⟩⟩⟩⟩⟩⟩⟩⟩⟩
theorem lw_p16 : lw_okq (⟨"ShoulderHeirs$OrderSearch", "note", "(I)V"⟩, 6) := ⟨⟨by decide +kernel, by decide +kernel⟩, List.mem_of_getElem? (i := 254) (by decide +kernel), List.mem_of_getElem? (i := 734) (by decide +kernel), List.mem_of_getElem? (i := 735) (by decide +kernel)⟩
theorem lw_p17 : lw_okq (⟨"ShoulderHeirs$OrderSearch", "goAlone", "(II)I"⟩, 6) := ⟨⟨by decide +kernel, by decide +kernel⟩, List.mem_of_getElem? (i := 254) (by decide +kernel), List.mem_of_getElem? (i := 740) (by decide +kernel), List.mem_of_getElem? (i := 741) (by decide +kernel)⟩
theorem lw_p18 : lw_okq (⟨"ShoulderHeirs$Walk", "merit", "(II)I"⟩, 12) := ⟨⟨by decide +kernel, by decide +kernel⟩, List.mem_of_getElem? (i := 155) (by decide +kernel), List.mem_of_getElem? (i := 767) (by decide +kernel), List.mem_of_getElem? (i := 768) (by decide +kernel)⟩
theorem lw_p19 : lw_okq (⟨"ShoulderHeirs$Choices", "fill", "(II)V"⟩, 10) := ⟨⟨by decide +kernel, by decide +kernel⟩, List.mem_of_getElem? (i := 281) (by decide +kernel), List.mem_of_getElem? (i := 780) (by decide +kernel), List.mem_of_getElem? (i := 781) (by decide +kernel)⟩
theorem lw_p20 : lw_okq (⟨"ShoulderHeirs$Choices", "bearStretch", "(IIIII)V"⟩, 10) := ⟨⟨by decide +kernel, by decide +kernel⟩, List.mem_of_getElem? (i := 281) (by decide +kernel), List.mem_of_getElem? (i := 784) (by decide +kernel), List.mem_of_getElem? (i := 785) (by decide +kernel)⟩
theorem lw_p21 : lw_okq (⟨"ShoulderHeirs$Choices", "isRest", "(II)Z"⟩, 10) := ⟨⟨by decide +kernel, by decide +kernel⟩, List.mem_of_getElem? (i := 281) (by decide +kernel), List.mem_of_getElem? (i := 792) (by decide +kernel), List.mem_of_getElem? (i := 793) (by decide +kernel)⟩
theorem lw_p22 : lw_okq (⟨"ShoulderHeirs$Choices", "ofFirst", "(II)I"⟩, 10) := ⟨⟨by decide +kernel, by decide +kernel⟩, List.mem_of_getElem? (i := 281) (by decide +kernel), List.mem_of_getElem? (i := 796) (by decide +kernel), List.mem_of_getElem? (i := 797) (by decide +kernel)⟩
theorem lw_p23 : lw_okq (⟨"ShoulderHeirs$Choices", "ofOther", "(II)I"⟩, 10) := ⟨⟨by decide +kernel, by decide +kernel⟩, List.mem_of_getElem? (i := 281) (by decide +kernel), List.mem_of_getElem? (i := 800) (by decide +kernel), List.mem_of_getElem? (i := 801) (by decide +kernel)⟩
theorem lw_p24 : lw_okq (⟨"ShoulderHeirs", "printsAreSo", "(LShoulderHeirs$Walk;)Z"⟩, 18) := ⟨⟨by decide +kernel, by decide +kernel⟩, List.mem_of_getElem? (i := 19) (by decide +kernel), List.mem_of_getElem? (i := 816) (by decide +kernel), List.mem_of_getElem? (i := 817) (by decide +kernel)⟩
theorem lw_p25 : lw_okq (⟨"ShoulderHeirs", "neverStandsWithout", "(I)Z"⟩, 18) := ⟨⟨by decide +kernel, by decide +kernel⟩, List.mem_of_getElem? (i := 19) (by decide +kernel), List.mem_of_getElem? (i := 827) (by decide +kernel), List.mem_of_getElem? (i := 828) (by decide +kernel)⟩
theorem lw_p26 : lw_okq (⟨"ShoulderHeirsModel", "clean", "()V"⟩, 28) := ⟨⟨by decide +kernel, by decide +kernel⟩, List.mem_of_getElem? (i := 848) (by decide +kernel), List.mem_of_getElem? (i := 854) (by decide +kernel), List.mem_of_getElem? (i := 855) (by decide +kernel)⟩
theorem lw_p27 : lw_okq (⟨"ShoulderHeirsModel", "stretch", "(II)V"⟩, 28) := ⟨⟨by decide +kernel, by decide +kernel⟩, List.mem_of_getElem? (i := 848) (by decide +kernel), List.mem_of_getElem? (i := 858) (by decide +kernel), List.mem_of_getElem? (i := 859) (by decide +kernel)⟩
theorem lw_p28 : lw_okq (⟨"ShoulderHeirsModel", "comes", "(II)V"⟩, 28) := ⟨⟨by decide +kernel, by decide +kernel⟩, List.mem_of_getElem? (i := 848) (by decide +kernel), List.mem_of_getElem? (i := 862) (by decide +kernel), List.mem_of_getElem? (i := 863) (by decide +kernel)⟩
theorem lw_p29 : lw_okq (⟨"ShoulderHeirsModel", "takesTurn", "(III)V"⟩, 28) := ⟨⟨by decide +kernel, by decide +kernel⟩, List.mem_of_getElem? (i := 848) (by decide +kernel), List.mem_of_getElem? (i := 866) (by decide +kernel), List.mem_of_getElem? (i := 867) (by decide +kernel)⟩
theorem lw_p30 : lw_okq (⟨"ShoulderHeirsModel", "begins", "()V"⟩, 28) := ⟨⟨by decide +kernel, by decide +kernel⟩, List.mem_of_getElem? (i := 848) (by decide +kernel), List.mem_of_getElem? (i := 870) (by decide +kernel), List.mem_of_getElem? (i := 871) (by decide +kernel)⟩
theorem lw_p31 : lw_okq (⟨"ShoulderHeirsModel", "takesItem", "()Z"⟩, 28) := ⟨⟨by decide +kernel, by decide +kernel⟩, List.mem_of_getElem? (i := 848) (by decide +kernel), List.mem_of_getElem? (i := 976) (by decide +kernel), List.mem_of_getElem? (i := 977) (by decide +kernel)⟩
def lw_privs_2 : List (MethodName × Nat) := [(⟨"ShoulderHeirs$OrderSearch", "note", "(I)V"⟩, 6), (⟨"ShoulderHeirs$OrderSearch", "goAlone", "(II)I"⟩, 6), (⟨"ShoulderHeirs$Walk", "merit", "(II)I"⟩, 12), (⟨"ShoulderHeirs$Choices", "fill", "(II)V"⟩, 10), (⟨"ShoulderHeirs$Choices", "bearStretch", "(IIIII)V"⟩, 10), (⟨"ShoulderHeirs$Choices", "isRest", "(II)Z"⟩, 10), (⟨"ShoulderHeirs$Choices", "ofFirst", "(II)I"⟩, 10), (⟨"ShoulderHeirs$Choices", "ofOther", "(II)I"⟩, 10), (⟨"ShoulderHeirs", "printsAreSo", "(LShoulderHeirs$Walk;)Z"⟩, 18), (⟨"ShoulderHeirs", "neverStandsWithout", "(I)Z"⟩, 18), (⟨"ShoulderHeirsModel", "clean", "()V"⟩, 28), (⟨"ShoulderHeirsModel", "stretch", "(II)V"⟩, 28), (⟨"ShoulderHeirsModel", "comes", "(II)V"⟩, 28), (⟨"ShoulderHeirsModel", "takesTurn", "(III)V"⟩, 28), (⟨"ShoulderHeirsModel", "begins", "()V"⟩, 28), (⟨"ShoulderHeirsModel", "takesItem", "()Z"⟩, 28)]
theorem lw_r2 : ∀ q ∈ lw_privs_2, lw_okq q := List.forall_mem_cons.mpr ⟨lw_p16, List.forall_mem_cons.mpr ⟨lw_p17, List.forall_mem_cons.mpr ⟨lw_p18, List.forall_mem_cons.mpr ⟨lw_p19, List.forall_mem_cons.mpr ⟨lw_p20, List.forall_mem_cons.mpr ⟨lw_p21, List.forall_mem_cons.mpr ⟨lw_p22, List.forall_mem_cons.mpr ⟨lw_p23, List.forall_mem_cons.mpr ⟨lw_p24, List.forall_mem_cons.mpr ⟨lw_p25, List.forall_mem_cons.mpr ⟨lw_p26, List.forall_mem_cons.mpr ⟨lw_p27, List.forall_mem_cons.mpr ⟨lw_p28, List.forall_mem_cons.mpr ⟨lw_p29, List.forall_mem_cons.mpr ⟨lw_p30, List.forall_mem_cons.mpr ⟨lw_p31, fun _ h => absurd h List.not_mem_nil⟩⟩⟩⟩⟩⟩⟩⟩⟩⟩⟩⟩⟩⟩⟩⟩
theorem lw_p32 : lw_okq (⟨"ShoulderHeirsModel", "takesStretch", "()Z"⟩, 28) := ⟨⟨by decide +kernel, by decide +kernel⟩, List.mem_of_getElem? (i := 848) (by decide +kernel), List.mem_of_getElem? (i := 980) (by decide +kernel), List.mem_of_getElem? (i := 981) (by decide +kernel)⟩
theorem lw_p33 : lw_okq (⟨"ShoulderHeirsModel", "takes", "(I)Z"⟩, 28) := ⟨⟨by decide +kernel, by decide +kernel⟩, List.mem_of_getElem? (i := 848) (by decide +kernel), List.mem_of_getElem? (i := 984) (by decide +kernel), List.mem_of_getElem? (i := 985) (by decide +kernel)⟩
theorem lw_p34 : lw_okq (⟨"ShoulderHeirsModel", "is", "(III)Z"⟩, 28) := ⟨⟨by decide +kernel, by decide +kernel⟩, List.mem_of_getElem? (i := 848) (by decide +kernel), List.mem_of_getElem? (i := 991) (by decide +kernel), List.mem_of_getElem? (i := 992) (by decide +kernel)⟩
theorem lw_p35 : lw_okq (⟨"ShoulderHeirsModel", "takesBearer", "()Z"⟩, 28) := ⟨⟨by decide +kernel, by decide +kernel⟩, List.mem_of_getElem? (i := 848) (by decide +kernel), List.mem_of_getElem? (i := 998) (by decide +kernel), List.mem_of_getElem? (i := 999) (by decide +kernel)⟩
theorem lw_p36 : lw_okq (⟨"ShoulderHeirsModel", "takesOne", "(III)Z"⟩, 28) := ⟨⟨by decide +kernel, by decide +kernel⟩, List.mem_of_getElem? (i := 848) (by decide +kernel), List.mem_of_getElem? (i := 1002) (by decide +kernel), List.mem_of_getElem? (i := 1003) (by decide +kernel)⟩
theorem lw_p37 : lw_okq (⟨"ShoulderHeirsModel", "takesTurns", "()Z"⟩, 28) := ⟨⟨by decide +kernel, by decide +kernel⟩, List.mem_of_getElem? (i := 848) (by decide +kernel), List.mem_of_getElem? (i := 1006) (by decide +kernel), List.mem_of_getElem? (i := 1007) (by decide +kernel)⟩
theorem lw_p38 : lw_okq (⟨"ShoulderHeirsModel", "takesPrice", "()Z"⟩, 28) := ⟨⟨by decide +kernel, by decide +kernel⟩, List.mem_of_getElem? (i := 848) (by decide +kernel), List.mem_of_getElem? (i := 1010) (by decide +kernel), List.mem_of_getElem? (i := 1011) (by decide +kernel)⟩
theorem lw_p39 : lw_okq (⟨"ShoulderHeirsModel", "isYard", "(I)Z"⟩, 28) := ⟨⟨by decide +kernel, by decide +kernel⟩, List.mem_of_getElem? (i := 848) (by decide +kernel), List.mem_of_getElem? (i := 1023) (by decide +kernel), List.mem_of_getElem? (i := 1024) (by decide +kernel)⟩
theorem lw_p40 : lw_okq (⟨"ShoulderHeirsModel", "asItIs", "()V"⟩, 28) := ⟨⟨by decide +kernel, by decide +kernel⟩, List.mem_of_getElem? (i := 848) (by decide +kernel), List.mem_of_getElem? (i := 1031) (by decide +kernel), List.mem_of_getElem? (i := 1032) (by decide +kernel)⟩
theorem lw_p41 : lw_okq (⟨"ShoulderHeirsModel", "tolds", "(I)I"⟩, 28) := ⟨⟨by decide +kernel, by decide +kernel⟩, List.mem_of_getElem? (i := 848) (by decide +kernel), List.mem_of_getElem? (i := 1035) (by decide +kernel), List.mem_of_getElem? (i := 1036) (by decide +kernel)⟩
theorem lw_p42 : lw_okq (⟨"ShoulderHeirsModel", "goesUp", "()V"⟩, 28) := ⟨⟨by decide +kernel, by decide +kernel⟩, List.mem_of_getElem? (i := 848) (by decide +kernel), List.mem_of_getElem? (i := 1039) (by decide +kernel), List.mem_of_getElem? (i := 1040) (by decide +kernel)⟩
theorem lw_p43 : lw_okq (⟨"ShoulderHeirsModel", "startsUp", "()V"⟩, 28) := ⟨⟨by decide +kernel, by decide +kernel⟩, List.mem_of_getElem? (i := 848) (by decide +kernel), List.mem_of_getElem? (i := 1043) (by decide +kernel), List.mem_of_getElem? (i := 1044) (by decide +kernel)⟩
theorem lw_p44 : lw_okq (⟨"ShoulderHeirsModel", "rainAt", "(I)I"⟩, 28) := ⟨⟨by decide +kernel, by decide +kernel⟩, List.mem_of_getElem? (i := 848) (by decide +kernel), List.mem_of_getElem? (i := 1047) (by decide +kernel), List.mem_of_getElem? (i := 1048) (by decide +kernel)⟩
theorem lw_p45 : lw_okq (⟨"ShoulderHeirsModel", "unfallen", "(I)I"⟩, 28) := ⟨⟨by decide +kernel, by decide +kernel⟩, List.mem_of_getElem? (i := 848) (by decide +kernel), List.mem_of_getElem? (i := 1055) (by decide +kernel), List.mem_of_getElem? (i := 1056) (by decide +kernel)⟩
theorem lw_p46 : lw_okq (⟨"ShoulderHeirsModel", "bears", "(III)I"⟩, 28) := ⟨⟨by decide +kernel, by decide +kernel⟩, List.mem_of_getElem? (i := 848) (by decide +kernel), List.mem_of_getElem? (i := 1062) (by decide +kernel), List.mem_of_getElem? (i := 1063) (by decide +kernel)⟩
theorem lw_p47 : lw_okq (⟨"ShoulderHeirsModel", "pays", "(IIII)V"⟩, 28) := ⟨⟨by decide +kernel, by decide +kernel⟩, List.mem_of_getElem? (i := 848) (by decide +kernel), List.mem_of_getElem? (i := 1075) (by decide +kernel), List.mem_of_getElem? (i := 1076) (by decide +kernel)⟩
def lw_privs_3 : List (MethodName × Nat) := [(⟨"ShoulderHeirsModel", "takesStretch", "()Z"⟩, 28), (⟨"ShoulderHeirsModel", "takes", "(I)Z"⟩, 28), (⟨"ShoulderHeirsModel", "is", "(III)Z"⟩, 28), (⟨"ShoulderHeirsModel", "takesBearer", "()Z"⟩, 28), (⟨"ShoulderHeirsModel", "takesOne", "(III)Z"⟩, 28), (⟨"ShoulderHeirsModel", "takesTurns", "()Z"⟩, 28), (⟨"ShoulderHeirsModel", "takesPrice", "()Z"⟩, 28), (⟨"ShoulderHeirsModel", "isYard", "(I)Z"⟩, 28), (⟨"ShoulderHeirsModel", "asItIs", "()V"⟩, 28), (⟨"ShoulderHeirsModel", "tolds", "(I)I"⟩, 28), (⟨"ShoulderHeirsModel", "goesUp", "()V"⟩, 28), (⟨"ShoulderHeirsModel", "startsUp", "()V"⟩, 28), (⟨"ShoulderHeirsModel", "rainAt", "(I)I"⟩, 28), (⟨"ShoulderHeirsModel", "unfallen", "(I)I"⟩, 28), (⟨"ShoulderHeirsModel", "bears", "(III)I"⟩, 28), (⟨"ShoulderHeirsModel", "pays", "(IIII)V"⟩, 28)]
theorem lw_r3 : ∀ q ∈ lw_privs_3, lw_okq q := List.forall_mem_cons.mpr ⟨lw_p32, List.forall_mem_cons.mpr ⟨lw_p33, List.forall_mem_cons.mpr ⟨lw_p34, List.forall_mem_cons.mpr ⟨lw_p35, List.forall_mem_cons.mpr ⟨lw_p36, List.forall_mem_cons.mpr ⟨lw_p37, List.forall_mem_cons.mpr ⟨lw_p38, List.forall_mem_cons.mpr ⟨lw_p39, List.forall_mem_cons.mpr ⟨lw_p40, List.forall_mem_cons.mpr ⟨lw_p41, List.forall_mem_cons.mpr ⟨lw_p42, List.forall_mem_cons.mpr ⟨lw_p43, List.forall_mem_cons.mpr ⟨lw_p44, List.forall_mem_cons.mpr ⟨lw_p45, List.forall_mem_cons.mpr ⟨lw_p46, List.forall_mem_cons.mpr ⟨lw_p47, fun _ h => absurd h List.not_mem_nil⟩⟩⟩⟩⟩⟩⟩⟩⟩⟩⟩⟩⟩⟩⟩⟩
theorem lw_p48 : lw_okq (⟨"ShoulderHeirsModel", "isBearer", "(I)Z"⟩, 28) := ⟨⟨by decide +kernel, by decide +kernel⟩, List.mem_of_getElem? (i := 848) (by decide +kernel), List.mem_of_getElem? (i := 1083) (by decide +kernel), List.mem_of_getElem? (i := 1084) (by decide +kernel)⟩
theorem lw_p49 : lw_okq (⟨"ShoulderHeirsModel", "isTurn", "(I)Z"⟩, 28) := ⟨⟨by decide +kernel, by decide +kernel⟩, List.mem_of_getElem? (i := 848) (by decide +kernel), List.mem_of_getElem? (i := 1106) (by decide +kernel), List.mem_of_getElem? (i := 1107) (by decide +kernel)⟩
theorem lw_p50 : lw_okq (⟨"ShoulderHeirsModel", "remember", "()V"⟩, 28) := ⟨⟨by decide +kernel, by decide +kernel⟩, List.mem_of_getElem? (i := 848) (by decide +kernel), List.mem_of_getElem? (i := 1115) (by decide +kernel), List.mem_of_getElem? (i := 1116) (by decide +kernel)⟩
theorem lw_p51 : lw_okq (⟨"ShoulderHeirsModel", "layFarthest", "(II)I"⟩, 28) := ⟨⟨by decide +kernel, by decide +kernel⟩, List.mem_of_getElem? (i := 848) (by decide +kernel), List.mem_of_getElem? (i := 1150) (by decide +kernel), List.mem_of_getElem? (i := 1151) (by decide +kernel)⟩
theorem lw_p52 : lw_okq (⟨"ShoulderHeirsModel", "layOrder", "(I)Z"⟩, 28) := ⟨⟨by decide +kernel, by decide +kernel⟩, List.mem_of_getElem? (i := 848) (by decide +kernel), List.mem_of_getElem? (i := 1154) (by decide +kernel), List.mem_of_getElem? (i := 1155) (by decide +kernel)⟩
theorem lw_p53 : lw_okq (⟨"ShoulderHeirsModel", "comesTo", "(II)I"⟩, 28) := ⟨⟨by decide +kernel, by decide +kernel⟩, List.mem_of_getElem? (i := 848) (by decide +kernel), List.mem_of_getElem? (i := 1158) (by decide +kernel), List.mem_of_getElem? (i := 1159) (by decide +kernel)⟩
theorem lw_p54 : lw_okq (⟨"ShoulderHeirsModel", "heirBy", "(I)I"⟩, 28) := ⟨⟨by decide +kernel, by decide +kernel⟩, List.mem_of_getElem? (i := 848) (by decide +kernel), List.mem_of_getElem? (i := 1177) (by decide +kernel), List.mem_of_getElem? (i := 1178) (by decide +kernel)⟩
theorem lw_p55 : lw_okq (⟨"ShoulderHeirsModel", "layChoice", "(IIII)V"⟩, 28) := ⟨⟨by decide +kernel, by decide +kernel⟩, List.mem_of_getElem? (i := 848) (by decide +kernel), List.mem_of_getElem? (i := 1185) (by decide +kernel), List.mem_of_getElem? (i := 1186) (by decide +kernel)⟩
theorem lw_p56 : lw_okq (⟨"ShoulderHeirsModel", "areSo", "(I)Z"⟩, 28) := ⟨⟨by decide +kernel, by decide +kernel⟩, List.mem_of_getElem? (i := 848) (by decide +kernel), List.mem_of_getElem? (i := 1202) (by decide +kernel), List.mem_of_getElem? (i := 1203) (by decide +kernel)⟩
def lw_privs_4 : List (MethodName × Nat) := [(⟨"ShoulderHeirsModel", "isBearer", "(I)Z"⟩, 28), (⟨"ShoulderHeirsModel", "isTurn", "(I)Z"⟩, 28), (⟨"ShoulderHeirsModel", "remember", "()V"⟩, 28), (⟨"ShoulderHeirsModel", "layFarthest", "(II)I"⟩, 28), (⟨"ShoulderHeirsModel", "layOrder", "(I)Z"⟩, 28), (⟨"ShoulderHeirsModel", "comesTo", "(II)I"⟩, 28), (⟨"ShoulderHeirsModel", "heirBy", "(I)I"⟩, 28), (⟨"ShoulderHeirsModel", "layChoice", "(IIII)V"⟩, 28), (⟨"ShoulderHeirsModel", "areSo", "(I)Z"⟩, 28)]
theorem lw_r4 : ∀ q ∈ lw_privs_4, lw_okq q := List.forall_mem_cons.mpr ⟨lw_p48, List.forall_mem_cons.mpr ⟨lw_p49, List.forall_mem_cons.mpr ⟨lw_p50, List.forall_mem_cons.mpr ⟨lw_p51, List.forall_mem_cons.mpr ⟨lw_p52, List.forall_mem_cons.mpr ⟨lw_p53, List.forall_mem_cons.mpr ⟨lw_p54, List.forall_mem_cons.mpr ⟨lw_p55, List.forall_mem_cons.mpr ⟨lw_p56, fun _ h => absurd h List.not_mem_nil⟩⟩⟩⟩⟩⟩⟩⟩⟩
def lw_privs : List (MethodName × Nat) := lw_privs_1 ++ (lw_privs_2 ++ (lw_privs_3 ++ (lw_privs_4)))
def lw_tbl : List Cond := k2_sels lw_privs ++ tables_1
theorem lw_privs_ok : ∀ q ∈ lw_privs, lw_okq q := by
  show ∀ q ∈ lw_privs_1 ++ (lw_privs_2 ++ (lw_privs_3 ++ (lw_privs_4))), lw_okq q
  exact List.forall_mem_append.mpr ⟨lw_r1, List.forall_mem_append.mpr ⟨lw_r2, List.forall_mem_append.mpr ⟨lw_r3, lw_r4⟩⟩⟩
end
section
def RX0 : String := "ShoulderHeirs$Choices"
def TX0 : u_T := fun k => match k with
  | 0 => ("ShoulderHeirs$Choices", "restsFound", "I", false)
  | 1 => ("ShoulderHeirs$Choices", "firstRest", "I", false)
  | 2 => ("ShoulderHeirs$Choices", "funeral", "LShoulderHeirs$Funeral;", true)
  | 3 => ("ShoulderHeirs$Choices", "walk", "LShoulderHeirs$Walk;", true)
  | 4 => ("ShoulderHeirs$Choices", "firstAlone", "[I", true)
  | 5 => ("ShoulderHeirs$Choices", "firstBoth", "[I", true)
  | 6 => ("ShoulderHeirs$Choices", "otherAlone", "[I", true)
  | 7 => ("ShoulderHeirs$Choices", "otherBoth", "[I", true)
  | 8 => ("ShoulderHeirs$Choices", "firstHas", "I", false)
  | _ => ("ShoulderHeirs$Choices", "otherHas", "I", false)
def tyX0 : Nat → FieldType := fun k => match k with
  | 0 => .int
  | 1 => .int
  | 2 => .object "ShoulderHeirs$Funeral"
  | 3 => .object "ShoulderHeirs$Walk"
  | 4 => .array .int
  | 5 => .array .int
  | 6 => .array .int
  | 7 => .array .int
  | 8 => .int
  | _ => .int
abbrev wsX00 : List Cond := u_ws RX0 TX0 10
theorem nmX0 : ∀ a, a < 10 → ∀ b, b < 10 → a ≠ b → (TX0 a).2.1 ≠ (TX0 b).2.1 := by decide +kernel
theorem tyX0_ok : ∀ k, k < 10 → parseFieldDescriptor (TX0 k).2.2.1 = some (tyX0 k) := by decide +kernel
abbrev cX0_init : ByteArray := prog_2_method_1_code
def yX0_init : MethodName := ⟨RX0, "<init>", "(LShoulderHeirs$Funeral;)V"⟩
abbrev cX0_weigh : ByteArray := prog_2_method_2_code
def yX0_weigh : MethodName := ⟨RX0, "weigh", "(II)V"⟩
abbrev cX0_fill : ByteArray := prog_2_method_3_code
def yX0_fill : MethodName := ⟨RX0, "fill", "(II)V"⟩
abbrev cX0_bearStretch : ByteArray := prog_2_method_4_code
def yX0_bearStretch : MethodName := ⟨RX0, "bearStretch", "(IIIII)V"⟩
abbrev cX0_isRest : ByteArray := prog_2_method_5_code
def yX0_isRest : MethodName := ⟨RX0, "isRest", "(II)Z"⟩
abbrev cX0_ofFirst : ByteArray := prog_2_method_6_code
def yX0_ofFirst : MethodName := ⟨RX0, "ofFirst", "(II)I"⟩
abbrev cX0_ofOther : ByteArray := prog_2_method_7_code
def yX0_ofOther : MethodName := ⟨RX0, "ofOther", "(II)I"⟩
def RX1 : String := "ShoulderHeirs$Funeral"
def TX1 : u_T := fun k => match k with
  | 0 => ("ShoulderHeirs$Funeral", "stretches", "I", false)
  | 1 => ("ShoulderHeirs$Funeral", "yards", "I", false)
  | 2 => ("ShoulderHeirs$Funeral", "bearers", "I", false)
  | 3 => ("ShoulderHeirs$Funeral", "must", "I", false)
  | 4 => ("ShoulderHeirs$Funeral", "wet", "I", false)
  | 5 => ("ShoulderHeirs$Funeral", "length", "[I", true)
  | 6 => ("ShoulderHeirs$Funeral", "slope", "[I", true)
  | 7 => ("ShoulderHeirs$Funeral", "price", "[I", true)
  | 8 => ("ShoulderHeirs$Funeral", "strength", "[I", true)
  | 9 => ("ShoulderHeirs$Funeral", "kind", "[I", true)
  | _ => ("ShoulderHeirs$Funeral", "stretchAt", "[I", true)
def tyX1 : Nat → FieldType := fun k => match k with
  | 0 => .int
  | 1 => .int
  | 2 => .int
  | 3 => .int
  | 4 => .int
  | 5 => .array .int
  | 6 => .array .int
  | 7 => .array .int
  | 8 => .array .int
  | 9 => .array .int
  | _ => .array .int
abbrev wsX10 : List Cond := u_ws RX1 TX1 11
theorem nmX1 : ∀ a, a < 11 → ∀ b, b < 11 → a ≠ b → (TX1 a).2.1 ≠ (TX1 b).2.1 := by decide +kernel
theorem tyX1_ok : ∀ k, k < 11 → parseFieldDescriptor (TX1 k).2.2.1 = some (tyX1 k) := by decide +kernel
abbrev cX1_init : ByteArray := prog_3_method_1_code
def yX1_init : MethodName := ⟨RX1, "<init>", "()V"⟩
abbrev cX1_clear : ByteArray := prog_3_method_2_code
def yX1_clear : MethodName := ⟨RX1, "clear", "()V"⟩
abbrev cX1_addStretch : ByteArray := prog_3_method_3_code
def yX1_addStretch : MethodName := ⟨RX1, "addStretch", "(II)Z"⟩
abbrev cX1_addBearer : ByteArray := prog_3_method_4_code
def yX1_addBearer : MethodName := ⟨RX1, "addBearer", "(II)Z"⟩
abbrev cX1_setMust : ByteArray := prog_3_method_5_code
def yX1_setMust : MethodName := ⟨RX1, "setMust", "(I)Z"⟩
abbrev cX1_setWet : ByteArray := prog_3_method_6_code
def yX1_setWet : MethodName := ⟨RX1, "setWet", "(I)Z"⟩
abbrev cX1_setPrice : ByteArray := prog_3_method_7_code
def yX1_setPrice : MethodName := ⟨RX1, "setPrice", "(II)Z"⟩
abbrev cX1_copy : ByteArray := prog_3_method_8_code
def yX1_copy : MethodName := ⟨RX1, "copy", "(LShoulderHeirs$Funeral;)V"⟩
abbrev cX1_moveBorder : ByteArray := prog_3_method_9_code
def yX1_moveBorder : MethodName := ⟨RX1, "moveBorder", "(II)Z"⟩
abbrev cX1_markYards : ByteArray := prog_3_method_10_code
def yX1_markYards : MethodName := ⟨RX1, "markYards", "()V"⟩
abbrev cX1_hasStretch : ByteArray := prog_3_method_11_code
def yX1_hasStretch : MethodName := ⟨RX1, "hasStretch", "(I)Z"⟩
abbrev cX1_hasYard : ByteArray := prog_3_method_12_code
def yX1_hasYard : MethodName := ⟨RX1, "hasYard", "(I)Z"⟩
abbrev cX1_hasBearer : ByteArray := prog_3_method_13_code
def yX1_hasBearer : MethodName := ⟨RX1, "hasBearer", "(I)Z"⟩
abbrev cX1_slopeAt : ByteArray := prog_3_method_14_code
def yX1_slopeAt : MethodName := ⟨RX1, "slopeAt", "(I)I"⟩
abbrev cX1_priceAt : ByteArray := prog_3_method_15_code
def yX1_priceAt : MethodName := ⟨RX1, "priceAt", "(I)I"⟩
abbrev cX1_twins : ByteArray := prog_3_method_16_code
def yX1_twins : MethodName := ⟨RX1, "twins", "()I"⟩
def RX2 : String := "ShoulderHeirs$OrderSearch"
def TX2 : u_T := fun k => match k with
  | 0 => ("ShoulderHeirs$OrderSearch", "reach", "I", false)
  | 1 => ("ShoulderHeirs$OrderSearch", "order", "[I", true)
  | 2 => ("ShoulderHeirs$OrderSearch", "tried", "[I", true)
  | 3 => ("ShoulderHeirs$OrderSearch", "funeral", "LShoulderHeirs$Funeral;", true)
  | 4 => ("ShoulderHeirs$OrderSearch", "stronger", "I", false)
  | _ => ("ShoulderHeirs$OrderSearch", "more", "I", false)
def tyX2 : Nat → FieldType := fun k => match k with
  | 0 => .int
  | 1 => .array .int
  | 2 => .array .int
  | 3 => .object "ShoulderHeirs$Funeral"
  | 4 => .int
  | _ => .int
abbrev wsX20 : List Cond := u_ws RX2 TX2 6
theorem nmX2 : ∀ a, a < 6 → ∀ b, b < 6 → a ≠ b → (TX2 a).2.1 ≠ (TX2 b).2.1 := by decide +kernel
theorem tyX2_ok : ∀ k, k < 6 → parseFieldDescriptor (TX2 k).2.2.1 = some (tyX2 k) := by decide +kernel
abbrev cX2_init : ByteArray := prog_4_method_1_code
def yX2_init : MethodName := ⟨RX2, "<init>", "(LShoulderHeirs$Funeral;)V"⟩
abbrev cX2_seek : ByteArray := prog_4_method_2_code
def yX2_seek : MethodName := ⟨RX2, "seek", "(II)V"⟩
abbrev cX2_tryNext : ByteArray := prog_4_method_3_code
def yX2_tryNext : MethodName := ⟨RX2, "tryNext", "(LShoulderHeirs$OrderSearch;III)V"⟩
abbrev cX2_note : ByteArray := prog_4_method_4_code
def yX2_note : MethodName := ⟨RX2, "note", "(I)V"⟩
abbrev cX2_goAlone : ByteArray := prog_4_method_5_code
def yX2_goAlone : MethodName := ⟨RX2, "goAlone", "(II)I"⟩
def RX3 : String := "ShoulderHeirs$Pile"
def TX3 : u_T := fun k => match k with
  | 0 => ("ShoulderHeirs$Pile", "row", "[LShoulderHeirs$Turns;", true)
  | _ => ("ShoulderHeirs$Pile", "size", "I", false)
def tyX3 : Nat → FieldType := fun k => match k with
  | 0 => .array (.object "ShoulderHeirs$Turns")
  | _ => .int
abbrev wsX30 : List Cond := u_ws RX3 TX3 2
theorem nmX3 : ∀ a, a < 2 → ∀ b, b < 2 → a ≠ b → (TX3 a).2.1 ≠ (TX3 b).2.1 := by decide +kernel
theorem tyX3_ok : ∀ k, k < 2 → parseFieldDescriptor (TX3 k).2.2.1 = some (tyX3 k) := by decide +kernel
abbrev cX3_init : ByteArray := prog_5_method_1_code
def yX3_init : MethodName := ⟨RX3, "<init>", "(I)V"⟩
abbrev cX3_isFull : ByteArray := prog_5_method_2_code
def yX3_isFull : MethodName := ⟨RX3, "isFull", "()Z"⟩
abbrev cX3_push : ByteArray := prog_5_method_3_code
def yX3_push : MethodName := ⟨RX3, "push", "(LShoulderHeirs$Turns;)V"⟩
abbrev cX3_dropOldest : ByteArray := prog_5_method_4_code
def yX3_dropOldest : MethodName := ⟨RX3, "dropOldest", "()V"⟩
abbrev cX3_popInto : ByteArray := prog_5_method_5_code
def yX3_popInto : MethodName := ⟨RX3, "popInto", "(LShoulderHeirs$Turns;)Z"⟩
def RX4 : String := "ShoulderHeirs$Reader"
def TX4 : u_T := fun k => match k with
  | 0 => ("ShoulderHeirs$Reader", "funeral", "LShoulderHeirs$Funeral;", true)
  | 1 => ("ShoulderHeirs$Reader", "turns", "LShoulderHeirs$Turns;", true)
  | _ => ("ShoulderHeirs$Reader", "number", "[I", true)
def tyX4 : Nat → FieldType := fun k => match k with
  | 0 => .object "ShoulderHeirs$Funeral"
  | 1 => .object "ShoulderHeirs$Turns"
  | _ => .array .int
abbrev wsX40 : List Cond := u_ws RX4 TX4 3
theorem nmX4 : ∀ a, a < 3 → ∀ b, b < 3 → a ≠ b → (TX4 a).2.1 ≠ (TX4 b).2.1 := by decide +kernel
theorem tyX4_ok : ∀ k, k < 3 → parseFieldDescriptor (TX4 k).2.2.1 = some (tyX4 k) := by decide +kernel
abbrev cX4_init : ByteArray := prog_6_method_1_code
def yX4_init : MethodName := ⟨RX4, "<init>", "()V"⟩
abbrev cX4_firstFault : ByteArray := prog_6_method_2_code
def yX4_firstFault : MethodName := ⟨RX4, "firstFault", "([CI)I"⟩
abbrev cX4_numbersOf : ByteArray := prog_6_method_3_code
def yX4_numbersOf : MethodName := ⟨RX4, "numbersOf", "(I)I"⟩
abbrev cX4_readNumbers : ByteArray := prog_6_method_4_code
def yX4_readNumbers : MethodName := ⟨RX4, "readNumbers", "([CIII)I"⟩
abbrev cX4_take : ByteArray := prog_6_method_5_code
def yX4_take : MethodName := ⟨RX4, "take", "(I)Z"⟩
def RX5 : String := "ShoulderHeirs$TurnSearch"
def TX5 : u_T := fun k => match k with
  | 0 => ("ShoulderHeirs$TurnSearch", "acres", "I", false)
  | 1 => ("ShoulderHeirs$TurnSearch", "from", "I", false)
  | 2 => ("ShoulderHeirs$TurnSearch", "to", "I", false)
  | 3 => ("ShoulderHeirs$TurnSearch", "who", "I", false)
  | 4 => ("ShoulderHeirs$TurnSearch", "lastOfHis", "I", false)
  | 5 => ("ShoulderHeirs$TurnSearch", "found", "Z", false)
  | 6 => ("ShoulderHeirs$TurnSearch", "funeral", "LShoulderHeirs$Funeral;", true)
  | 7 => ("ShoulderHeirs$TurnSearch", "duty", "[I", true)
  | 8 => ("ShoulderHeirs$TurnSearch", "head", "LShoulderHeirs$Walk;", true)
  | 9 => ("ShoulderHeirs$TurnSearch", "middle", "LShoulderHeirs$Walk;", true)
  | 10 => ("ShoulderHeirs$TurnSearch", "tail", "LShoulderHeirs$Walk;", true)
  | _ => ("ShoulderHeirs$TurnSearch", "mostBehind", "[I", true)
def tyX5 : Nat → FieldType := fun k => match k with
  | 0 => .int
  | 1 => .int
  | 2 => .int
  | 3 => .int
  | 4 => .int
  | 5 => .boolean
  | 6 => .object "ShoulderHeirs$Funeral"
  | 7 => .array .int
  | 8 => .object "ShoulderHeirs$Walk"
  | 9 => .object "ShoulderHeirs$Walk"
  | 10 => .object "ShoulderHeirs$Walk"
  | _ => .array .int
abbrev wsX50 : List Cond := u_ws RX5 TX5 12
theorem nmX5 : ∀ a, a < 12 → ∀ b, b < 12 → a ≠ b → (TX5 a).2.1 ≠ (TX5 b).2.1 := by decide +kernel
theorem tyX5_ok : ∀ k, k < 12 → parseFieldDescriptor (TX5 k).2.2.1 = some (tyX5 k) := by decide +kernel
abbrev cX5_init : ByteArray := prog_7_method_1_code
def yX5_init : MethodName := ⟨RX5, "<init>", "(LShoulderHeirs$Funeral;[I)V"⟩
abbrev cX5_seek : ByteArray := prog_7_method_2_code
def yX5_seek : MethodName := ⟨RX5, "seek", "(II)Z"⟩
abbrev cX5_lookAhead : ByteArray := prog_7_method_3_code
def yX5_lookAhead : MethodName := ⟨RX5, "lookAhead", "()V"⟩
abbrev cX5_isOpen : ByteArray := prog_7_method_4_code
def yX5_isOpen : MethodName := ⟨RX5, "isOpen", "(LShoulderHeirs$Walk;)Z"⟩
abbrev cX5_seekFrom : ByteArray := prog_7_method_5_code
def yX5_seekFrom : MethodName := ⟨RX5, "seekFrom", "(I)V"⟩
abbrev cX5_weigh : ByteArray := prog_7_method_6_code
def yX5_weigh : MethodName := ⟨RX5, "weigh", "(II)V"⟩
def RX6 : String := "ShoulderHeirs$Turns"
def TX6 : u_T := fun k => match k with
  | 0 => ("ShoulderHeirs$Turns", "size", "I", false)
  | 1 => ("ShoulderHeirs$Turns", "who", "[I", true)
  | 2 => ("ShoulderHeirs$Turns", "from", "[I", true)
  | _ => ("ShoulderHeirs$Turns", "to", "[I", true)
def tyX6 : Nat → FieldType := fun k => match k with
  | 0 => .int
  | 1 => .array .int
  | 2 => .array .int
  | _ => .array .int
abbrev wsX60 : List Cond := u_ws RX6 TX6 4
theorem nmX6 : ∀ a, a < 4 → ∀ b, b < 4 → a ≠ b → (TX6 a).2.1 ≠ (TX6 b).2.1 := by decide +kernel
theorem tyX6_ok : ∀ k, k < 4 → parseFieldDescriptor (TX6 k).2.2.1 = some (tyX6 k) := by decide +kernel
abbrev cX6_init : ByteArray := prog_8_method_1_code
def yX6_init : MethodName := ⟨RX6, "<init>", "()V"⟩
abbrev cX6_has : ByteArray := prog_8_method_2_code
def yX6_has : MethodName := ⟨RX6, "has", "(I)Z"⟩
abbrev cX6_isFull : ByteArray := prog_8_method_3_code
def yX6_isFull : MethodName := ⟨RX6, "isFull", "()Z"⟩
abbrev cX6_add : ByteArray := prog_8_method_4_code
def yX6_add : MethodName := ⟨RX6, "add", "(III)Z"⟩
abbrev cX6_drop : ByteArray := prog_8_method_5_code
def yX6_drop : MethodName := ⟨RX6, "drop", "(I)V"⟩
abbrev cX6_copy : ByteArray := prog_8_method_6_code
def yX6_copy : MethodName := ⟨RX6, "copy", "(LShoulderHeirs$Turns;)V"⟩
abbrev cX6_tellDuty : ByteArray := prog_8_method_7_code
def yX6_tellDuty : MethodName := ⟨RX6, "tellDuty", "(II[I)V"⟩
def RX7 : String := "ShoulderHeirs$Walk"
def TX7 : u_T := fun k => match k with
  | 0 => ("ShoulderHeirs$Walk", "funeral", "LShoulderHeirs$Funeral;", false)
  | 1 => ("ShoulderHeirs$Walk", "must", "I", false)
  | 2 => ("ShoulderHeirs$Walk", "day", "I", false)
  | 3 => ("ShoulderHeirs$Walk", "standsAt", "I", false)
  | 4 => ("ShoulderHeirs$Walk", "stumbled", "I", false)
  | 5 => ("ShoulderHeirs$Walk", "twins", "I", false)
  | 6 => ("ShoulderHeirs$Walk", "left", "[I", true)
  | 7 => ("ShoulderHeirs$Walk", "stumbledAt", "[I", true)
  | 8 => ("ShoulderHeirs$Walk", "borne", "[I", true)
  | 9 => ("ShoulderHeirs$Walk", "gained", "[I", true)
  | 10 => ("ShoulderHeirs$Walk", "bore", "[I", true)
  | _ => ("ShoulderHeirs$Walk", "cost", "[I", true)
def tyX7 : Nat → FieldType := fun k => match k with
  | 0 => .object "ShoulderHeirs$Funeral"
  | 1 => .int
  | 2 => .int
  | 3 => .int
  | 4 => .int
  | 5 => .int
  | 6 => .array .int
  | 7 => .array .int
  | 8 => .array .int
  | 9 => .array .int
  | 10 => .array .int
  | _ => .array .int
abbrev wsX70 : List Cond := u_ws RX7 TX7 12
theorem nmX7 : ∀ a, a < 12 → ∀ b, b < 12 → a ≠ b → (TX7 a).2.1 ≠ (TX7 b).2.1 := by decide +kernel
theorem tyX7_ok : ∀ k, k < 12 → parseFieldDescriptor (TX7 k).2.2.1 = some (tyX7 k) := by decide +kernel
abbrev cX7_init : ByteArray := prog_9_method_1_code
def yX7_init : MethodName := ⟨RX7, "<init>", "(LShoulderHeirs$Funeral;)V"⟩
abbrev cX7_begin : ByteArray := prog_9_method_2_code
def yX7_begin : MethodName := ⟨RX7, "begin", "(LShoulderHeirs$Funeral;)V"⟩
abbrev cX7_follow : ByteArray := prog_9_method_3_code
def yX7_follow : MethodName := ⟨RX7, "follow", "(LShoulderHeirs$Walk;)V"⟩
abbrev cX7_go : ByteArray := prog_9_method_4_code
def yX7_go : MethodName := ⟨RX7, "go", "([I)V"⟩
abbrev cX7_step : ByteArray := prog_9_method_5_code
def yX7_step : MethodName := ⟨RX7, "step", "(II)I"⟩
abbrev cX7_setCosts : ByteArray := prog_9_method_6_code
def yX7_setCosts : MethodName := ⟨RX7, "setCosts", "(II)V"⟩
abbrev cX7_stumbling : ByteArray := prog_9_method_7_code
def yX7_stumbling : MethodName := ⟨RX7, "stumbling", "(II)I"⟩
abbrev cX7_bringUp : ByteArray := prog_9_method_8_code
def yX7_bringUp : MethodName := ⟨RX7, "bringUp", "(II)V"⟩
abbrev cX7_drawnAt : ByteArray := prog_9_method_9_code
def yX7_drawnAt : MethodName := ⟨RX7, "drawnAt", "(I)I"⟩
abbrev cX7_hasStumbled : ByteArray := prog_9_method_10_code
def yX7_hasStumbled : MethodName := ⟨RX7, "hasStumbled", "(I)Z"⟩
abbrev cX7_acres : ByteArray := prog_9_method_11_code
def yX7_acres : MethodName := ⟨RX7, "acres", "(I)I"⟩
abbrev cX7_first : ByteArray := prog_9_method_12_code
def yX7_first : MethodName := ⟨RX7, "first", "(I)I"⟩
abbrev cX7_merit : ByteArray := prog_9_method_13_code
def yX7_merit : MethodName := ⟨RX7, "merit", "(II)I"⟩
def RX8 : String := "ShoulderHeirs"
def TX8 : u_T := fun k => match k with
  | 0 => ("ShoulderHeirs", "letters", "[C", true)
  | 1 => ("ShoulderHeirs", "length", "I", false)
  | 2 => ("ShoulderHeirs", "reader", "LShoulderHeirs$Reader;", true)
  | 3 => ("ShoulderHeirs", "funeral", "LShoulderHeirs$Funeral;", true)
  | 4 => ("ShoulderHeirs", "moved", "LShoulderHeirs$Funeral;", true)
  | 5 => ("ShoulderHeirs", "turns", "LShoulderHeirs$Turns;", true)
  | 6 => ("ShoulderHeirs", "undone", "LShoulderHeirs$Pile;", true)
  | 7 => ("ShoulderHeirs", "kept", "LShoulderHeirs$Pile;", true)
  | 8 => ("ShoulderHeirs", "printYard", "[I", true)
  | 9 => ("ShoulderHeirs", "printBearers", "[I", true)
  | 10 => ("ShoulderHeirs", "prints", "I", false)
  | 11 => ("ShoulderHeirs", "duty", "[I", true)
  | 12 => ("ShoulderHeirs", "otherDuty", "[I", true)
  | 13 => ("ShoulderHeirs", "now", "LShoulderHeirs$Walk;", true)
  | 14 => ("ShoulderHeirs", "trial", "LShoulderHeirs$Walk;", true)
  | 15 => ("ShoulderHeirs", "turnSearch", "LShoulderHeirs$TurnSearch;", true)
  | 16 => ("ShoulderHeirs", "orderSearch", "LShoulderHeirs$OrderSearch;", true)
  | _ => ("ShoulderHeirs", "choices", "LShoulderHeirs$Choices;", true)
def tyX8 : Nat → FieldType := fun k => match k with
  | 0 => .array .char
  | 1 => .int
  | 2 => .object "ShoulderHeirs$Reader"
  | 3 => .object "ShoulderHeirs$Funeral"
  | 4 => .object "ShoulderHeirs$Funeral"
  | 5 => .object "ShoulderHeirs$Turns"
  | 6 => .object "ShoulderHeirs$Pile"
  | 7 => .object "ShoulderHeirs$Pile"
  | 8 => .array .int
  | 9 => .array .int
  | 10 => .int
  | 11 => .array .int
  | 12 => .array .int
  | 13 => .object "ShoulderHeirs$Walk"
  | 14 => .object "ShoulderHeirs$Walk"
  | 15 => .object "ShoulderHeirs$TurnSearch"
  | 16 => .object "ShoulderHeirs$OrderSearch"
  | _ => .object "ShoulderHeirs$Choices"
abbrev wsX80 : List Cond := u_ws RX8 TX8 18
theorem nmX8 : ∀ a, a < 18 → ∀ b, b < 18 → a ≠ b → (TX8 a).2.1 ≠ (TX8 b).2.1 := by decide +kernel
theorem tyX8_ok : ∀ k, k < 18 → parseFieldDescriptor (TX8 k).2.2.1 = some (tyX8 k) := by decide +kernel
abbrev cX8_init : ByteArray := prog_1_method_1_code
def yX8_init : MethodName := ⟨RX8, "<init>", "()V"⟩
abbrev cX8_write : ByteArray := prog_1_method_2_code
def yX8_write : MethodName := ⟨RX8, "write", "(I)I"⟩
abbrev cX8_wipe : ByteArray := prog_1_method_3_code
def yX8_wipe : MethodName := ⟨RX8, "wipe", "()I"⟩
abbrev cX8_fault : ByteArray := prog_1_method_4_code
def yX8_fault : MethodName := ⟨RX8, "fault", "()I"⟩
abbrev cX8_lay : ByteArray := prog_1_method_5_code
def yX8_lay : MethodName := ⟨RX8, "lay", "()I"⟩
abbrev cX8_yard : ByteArray := prog_1_method_6_code
def yX8_yard : MethodName := ⟨RX8, "yard", "(II)I"⟩
abbrev cX8_bearer : ByteArray := prog_1_method_7_code
def yX8_bearer : MethodName := ⟨RX8, "bearer", "(II)I"⟩
abbrev cX8_stands : ByteArray := prog_1_method_8_code
def yX8_stands : MethodName := ⟨RX8, "stands", "()I"⟩
abbrev cX8_share : ByteArray := prog_1_method_9_code
def yX8_share : MethodName := ⟨RX8, "share", "(II)I"⟩
abbrev cX8_turn : ByteArray := prog_1_method_10_code
def yX8_turn : MethodName := ⟨RX8, "turn", "(II)I"⟩
abbrev cX8_bear : ByteArray := prog_1_method_11_code
def yX8_bear : MethodName := ⟨RX8, "bear", "(III)I"⟩
abbrev cX8_leave : ByteArray := prog_1_method_12_code
def yX8_leave : MethodName := ⟨RX8, "leave", "(I)I"⟩
abbrev cX8_undo : ByteArray := prog_1_method_13_code
def yX8_undo : MethodName := ⟨RX8, "undo", "()I"⟩
abbrev cX8_best : ByteArray := prog_1_method_14_code
def yX8_best : MethodName := ⟨RX8, "best", "(II)I"⟩
abbrev cX8_safe : ByteArray := prog_1_method_15_code
def yX8_safe : MethodName := ⟨RX8, "safe", "()I"⟩
abbrev cX8_needed : ByteArray := prog_1_method_16_code
def yX8_needed : MethodName := ⟨RX8, "needed", "()I"⟩
abbrev cX8_far : ByteArray := prog_1_method_17_code
def yX8_far : MethodName := ⟨RX8, "far", "(I)I"⟩
abbrev cX8_son : ByteArray := prog_1_method_18_code
def yX8_son : MethodName := ⟨RX8, "son", "(II)I"⟩
abbrev cX8_cairn : ByteArray := prog_1_method_19_code
def yX8_cairn : MethodName := ⟨RX8, "cairn", "(III)I"⟩
abbrev cX8_heir : ByteArray := prog_1_method_20_code
def yX8_heir : MethodName := ⟨RX8, "heir", "(I)I"⟩
abbrev cX8_rests : ByteArray := prog_1_method_21_code
def yX8_rests : MethodName := ⟨RX8, "rests", "(III)I"⟩
abbrev cX8_print : ByteArray := prog_1_method_22_code
def yX8_print : MethodName := ⟨RX8, "print", "(II)I"⟩
abbrev cX8_forget : ByteArray := prog_1_method_23_code
def yX8_forget : MethodName := ⟨RX8, "forget", "()I"⟩
abbrev cX8_failed : ByteArray := prog_1_method_24_code
def yX8_failed : MethodName := ⟨RX8, "failed", "()I"⟩
abbrev cX8_odds : ByteArray := prog_1_method_25_code
def yX8_odds : MethodName := ⟨RX8, "odds", "(III)I"⟩
abbrev cX8_rain : ByteArray := prog_1_method_26_code
def yX8_rain : MethodName := ⟨RX8, "rain", "(II)I"⟩
abbrev cX8_keep : ByteArray := prog_1_method_27_code
def yX8_keep : MethodName := ⟨RX8, "keep", "()I"⟩
abbrev cX8_back : ByteArray := prog_1_method_28_code
def yX8_back : MethodName := ⟨RX8, "back", "()I"⟩
abbrev cX8_count : ByteArray := prog_1_method_29_code
def yX8_count : MethodName := ⟨RX8, "count", "(I)I"⟩
abbrev cX8_layText : ByteArray := prog_1_method_30_code
def yX8_layText : MethodName := ⟨RX8, "layText", "()I"⟩
abbrev cX8_settle : ByteArray := prog_1_method_31_code
def yX8_settle : MethodName := ⟨RX8, "settle", "()V"⟩
abbrev cX8_walkWithout : ByteArray := prog_1_method_32_code
def yX8_walkWithout : MethodName := ⟨RX8, "walkWithout", "(I)V"⟩
abbrev cX8_bearUpAlone : ByteArray := prog_1_method_33_code
def yX8_bearUpAlone : MethodName := ⟨RX8, "bearUpAlone", "(I)Z"⟩
abbrev cX8_neverStandsWithout : ByteArray := prog_1_method_34_code
def yX8_neverStandsWithout : MethodName := ⟨RX8, "neverStandsWithout", "(I)Z"⟩
abbrev cX8_printsAreSo : ByteArray := prog_1_method_35_code
def yX8_printsAreSo : MethodName := ⟨RX8, "printsAreSo", "(LShoulderHeirs$Walk;)Z"⟩
abbrev cX8_within : ByteArray := prog_1_method_36_code
def yX8_within : MethodName := ⟨RX8, "within", "(III)Z"⟩
abbrev cX8_isIn : ByteArray := prog_1_method_37_code
def yX8_isIn : MethodName := ⟨RX8, "isIn", "(II)Z"⟩
abbrev cX8_power : ByteArray := prog_1_method_38_code
def yX8_power : MethodName := ⟨RX8, "power", "(II)I"⟩
abbrev cX8_lowestTerms : ByteArray := prog_1_method_39_code
def yX8_lowestTerms : MethodName := ⟨RX8, "lowestTerms", "(III)I"⟩
abbrev cX8_commonDivisor : ByteArray := prog_1_method_40_code
def yX8_commonDivisor : MethodName := ⟨RX8, "commonDivisor", "(II)I"⟩
abbrev cX8_toll : ByteArray := prog_1_method_41_code
def yX8_toll : MethodName := ⟨RX8, "toll", "(IIII)I"⟩
def RX9 : String := "ShoulderHeirsModel"
def TX9 : u_T := fun k => match k with
  | 0 => ("ShoulderHeirsModel", "hill", "[I", true)
  | 1 => ("ShoulderHeirsModel", "read", "[I", true)
  | 2 => ("ShoulderHeirsModel", "turns", "[I", true)
  | 3 => ("ShoulderHeirsModel", "readTurns", "[I", true)
  | 4 => ("ShoulderHeirsModel", "past", "[I", true)
  | 5 => ("ShoulderHeirsModel", "undos", "I", false)
  | 6 => ("ShoulderHeirsModel", "kept", "[I", true)
  | 7 => ("ShoulderHeirsModel", "keptMany", "I", false)
  | 8 => ("ShoulderHeirsModel", "text", "[I", true)
  | 9 => ("ShoulderHeirsModel", "size", "I", false)
  | 10 => ("ShoulderHeirsModel", "prints", "[I", true)
  | 11 => ("ShoulderHeirsModel", "printMany", "I", false)
  | 12 => ("ShoulderHeirsModel", "at", "I", false)
  | 13 => ("ShoulderHeirsModel", "numbers", "[I", true)
  | 14 => ("ShoulderHeirsModel", "up", "[I", true)
  | 15 => ("ShoulderHeirsModel", "by", "[I", true)
  | 16 => ("ShoulderHeirsModel", "failing", "I", false)
  | 17 => ("ShoulderHeirsModel", "draws", "I", false)
  | 18 => ("ShoulderHeirsModel", "left", "[I", true)
  | 19 => ("ShoulderHeirsModel", "acres", "[I", true)
  | 20 => ("ShoulderHeirsModel", "fell", "[I", true)
  | 21 => ("ShoulderHeirsModel", "bore", "[I", true)
  | 22 => ("ShoulderHeirsModel", "borneBy", "[I", true)
  | 23 => ("ShoulderHeirsModel", "stood", "I", false)
  | 24 => ("ShoulderHeirsModel", "order", "[I", true)
  | 25 => ("ShoulderHeirsModel", "farthest", "[I", true)
  | 26 => ("ShoulderHeirsModel", "own", "[I", true)
  | _ => ("ShoulderHeirsModel", "others", "[I", true)
def tyX9 : Nat → FieldType := fun k => match k with
  | 0 => .array .int
  | 1 => .array .int
  | 2 => .array .int
  | 3 => .array .int
  | 4 => .array .int
  | 5 => .int
  | 6 => .array .int
  | 7 => .int
  | 8 => .array .int
  | 9 => .int
  | 10 => .array .int
  | 11 => .int
  | 12 => .int
  | 13 => .array .int
  | 14 => .array .int
  | 15 => .array .int
  | 16 => .int
  | 17 => .int
  | 18 => .array .int
  | 19 => .array .int
  | 20 => .array .int
  | 21 => .array .int
  | 22 => .array .int
  | 23 => .int
  | 24 => .array .int
  | 25 => .array .int
  | 26 => .array .int
  | _ => .array .int
abbrev wsX90 : List Cond := u_ws RX9 TX9 28
theorem nmX9 : ∀ a, a < 28 → ∀ b, b < 28 → a ≠ b → (TX9 a).2.1 ≠ (TX9 b).2.1 := by decide +kernel
theorem tyX9_ok : ∀ k, k < 28 → parseFieldDescriptor (TX9 k).2.2.1 = some (tyX9 k) := by decide +kernel
abbrev cX9_init : ByteArray := prog_11_method_1_code
def yX9_init : MethodName := ⟨RX9, "<init>", "()V"⟩
abbrev cX9_in : ByteArray := prog_11_method_3_code
def yX9_in : MethodName := ⟨RX9, "in", "(JJJ)Z"⟩
abbrev cX9_isTwo : ByteArray := prog_11_method_4_code
def yX9_isTwo : MethodName := ⟨RX9, "isTwo", "(I)Z"⟩
abbrev cX9_has : ByteArray := prog_11_method_5_code
def yX9_has : MethodName := ⟨RX9, "has", "(II)Z"⟩
abbrev cX9_bits : ByteArray := prog_11_method_6_code
def yX9_bits : MethodName := ⟨RX9, "bits", "(I)I"⟩
abbrev cX9_write : ByteArray := prog_11_method_7_code
def yX9_write : MethodName := ⟨RX9, "write", "(I)I"⟩
abbrev cX9_wipe : ByteArray := prog_11_method_8_code
def yX9_wipe : MethodName := ⟨RX9, "wipe", "()I"⟩
abbrev cX9_clean : ByteArray := prog_11_method_9_code
def yX9_clean : MethodName := ⟨RX9, "clean", "()V"⟩
abbrev cX9_stretch : ByteArray := prog_11_method_10_code
def yX9_stretch : MethodName := ⟨RX9, "stretch", "(II)V"⟩
abbrev cX9_comes : ByteArray := prog_11_method_11_code
def yX9_comes : MethodName := ⟨RX9, "comes", "(II)V"⟩
abbrev cX9_takesTurn : ByteArray := prog_11_method_12_code
def yX9_takesTurn : MethodName := ⟨RX9, "takesTurn", "(III)V"⟩
abbrev cX9_yardsOf : ByteArray := prog_11_method_13_code
def yX9_yardsOf : MethodName := ⟨RX9, "yardsOf", "([I)I"⟩
abbrev cX9_takes : ByteArray := prog_11_method_14_code
def yX9_takes : MethodName := ⟨RX9, "takes", "(I)Z"⟩
abbrev cX9_is : ByteArray := prog_11_method_15_code
def yX9_is : MethodName := ⟨RX9, "is", "(III)Z"⟩
abbrev cX9_takesStretch : ByteArray := prog_11_method_16_code
def yX9_takesStretch : MethodName := ⟨RX9, "takesStretch", "()Z"⟩
abbrev cX9_takesBearer : ByteArray := prog_11_method_17_code
def yX9_takesBearer : MethodName := ⟨RX9, "takesBearer", "()Z"⟩
abbrev cX9_takesOne : ByteArray := prog_11_method_18_code
def yX9_takesOne : MethodName := ⟨RX9, "takesOne", "(III)Z"⟩
abbrev cX9_takesTurns : ByteArray := prog_11_method_19_code
def yX9_takesTurns : MethodName := ⟨RX9, "takesTurns", "()Z"⟩
abbrev cX9_takesPrice : ByteArray := prog_11_method_20_code
def yX9_takesPrice : MethodName := ⟨RX9, "takesPrice", "()Z"⟩
abbrev cX9_takesItem : ByteArray := prog_11_method_21_code
def yX9_takesItem : MethodName := ⟨RX9, "takesItem", "()Z"⟩
abbrev cX9_fault : ByteArray := prog_11_method_22_code
def yX9_fault : MethodName := ⟨RX9, "fault", "()I"⟩
abbrev cX9_begins : ByteArray := prog_11_method_23_code
def yX9_begins : MethodName := ⟨RX9, "begins", "()V"⟩
abbrev cX9_lay : ByteArray := prog_11_method_24_code
def yX9_lay : MethodName := ⟨RX9, "lay", "()I"⟩
abbrev cX9_isBearer : ByteArray := prog_11_method_25_code
def yX9_isBearer : MethodName := ⟨RX9, "isBearer", "(I)Z"⟩
abbrev cX9_isYard : ByteArray := prog_11_method_26_code
def yX9_isYard : MethodName := ⟨RX9, "isYard", "(I)Z"⟩
abbrev cX9_stretchAt : ByteArray := prog_11_method_27_code
def yX9_stretchAt : MethodName := ⟨RX9, "stretchAt", "([II)I"⟩
abbrev cX9_asItIs : ByteArray := prog_11_method_28_code
def yX9_asItIs : MethodName := ⟨RX9, "asItIs", "()V"⟩
abbrev cX9_tolds : ByteArray := prog_11_method_29_code
def yX9_tolds : MethodName := ⟨RX9, "tolds", "(I)I"⟩
abbrev cX9_rainAt : ByteArray := prog_11_method_30_code
def yX9_rainAt : MethodName := ⟨RX9, "rainAt", "(I)I"⟩
abbrev cX9_isTwin : ByteArray := prog_11_method_31_code
def yX9_isTwin : MethodName := ⟨RX9, "isTwin", "([III)Z"⟩
abbrev cX9_cost : ByteArray := prog_11_method_32_code
def yX9_cost : MethodName := ⟨RX9, "cost", "([IIII)I"⟩
abbrev cX9_bears : ByteArray := prog_11_method_33_code
def yX9_bears : MethodName := ⟨RX9, "bears", "(III)I"⟩
abbrev cX9_unfallen : ByteArray := prog_11_method_34_code
def yX9_unfallen : MethodName := ⟨RX9, "unfallen", "(I)I"⟩
abbrev cX9_startsUp : ByteArray := prog_11_method_35_code
def yX9_startsUp : MethodName := ⟨RX9, "startsUp", "()V"⟩
abbrev cX9_goesUp : ByteArray := prog_11_method_36_code
def yX9_goesUp : MethodName := ⟨RX9, "goesUp", "()V"⟩
abbrev cX9_pays : ByteArray := prog_11_method_37_code
def yX9_pays : MethodName := ⟨RX9, "pays", "(IIII)V"⟩
abbrev cX9_yard : ByteArray := prog_11_method_38_code
def yX9_yard : MethodName := ⟨RX9, "yard", "(II)I"⟩
abbrev cX9_bearer : ByteArray := prog_11_method_39_code
def yX9_bearer : MethodName := ⟨RX9, "bearer", "(II)I"⟩
abbrev cX9_stands : ByteArray := prog_11_method_40_code
def yX9_stands : MethodName := ⟨RX9, "stands", "()I"⟩
abbrev cX9_fraction : ByteArray := prog_11_method_41_code
def yX9_fraction : MethodName := ⟨RX9, "fraction", "(JJI)I"⟩
abbrev cX9_share : ByteArray := prog_11_method_42_code
def yX9_share : MethodName := ⟨RX9, "share", "(II)I"⟩
abbrev cX9_copies : ByteArray := prog_11_method_43_code
def yX9_copies : MethodName := ⟨RX9, "copies", "([II[II)V"⟩
abbrev cX9_isTurn : ByteArray := prog_11_method_44_code
def yX9_isTurn : MethodName := ⟨RX9, "isTurn", "(I)Z"⟩
abbrev cX9_turn : ByteArray := prog_11_method_45_code
def yX9_turn : MethodName := ⟨RX9, "turn", "(II)I"⟩
abbrev cX9_remember : ByteArray := prog_11_method_46_code
def yX9_remember : MethodName := ⟨RX9, "remember", "()V"⟩
abbrev cX9_adds : ByteArray := prog_11_method_47_code
def yX9_adds : MethodName := ⟨RX9, "adds", "([IIII)V"⟩
abbrev cX9_bear : ByteArray := prog_11_method_48_code
def yX9_bear : MethodName := ⟨RX9, "bear", "(III)I"⟩
abbrev cX9_leave : ByteArray := prog_11_method_49_code
def yX9_leave : MethodName := ⟨RX9, "leave", "(I)I"⟩
abbrev cX9_undo : ByteArray := prog_11_method_50_code
def yX9_undo : MethodName := ⟨RX9, "undo", "()I"⟩
abbrev cX9_best : ByteArray := prog_11_method_51_code
def yX9_best : MethodName := ⟨RX9, "best", "(II)I"⟩
abbrev cX9_safe : ByteArray := prog_11_method_52_code
def yX9_safe : MethodName := ⟨RX9, "safe", "()I"⟩
abbrev cX9_needed : ByteArray := prog_11_method_53_code
def yX9_needed : MethodName := ⟨RX9, "needed", "()I"⟩
abbrev cX9_layOrder : ByteArray := prog_11_method_54_code
def yX9_layOrder : MethodName := ⟨RX9, "layOrder", "(I)Z"⟩
abbrev cX9_comesTo : ByteArray := prog_11_method_55_code
def yX9_comesTo : MethodName := ⟨RX9, "comesTo", "(II)I"⟩
abbrev cX9_layFarthest : ByteArray := prog_11_method_56_code
def yX9_layFarthest : MethodName := ⟨RX9, "layFarthest", "(II)I"⟩
abbrev cX9_far : ByteArray := prog_11_method_57_code
def yX9_far : MethodName := ⟨RX9, "far", "(I)I"⟩
abbrev cX9_son : ByteArray := prog_11_method_58_code
def yX9_son : MethodName := ⟨RX9, "son", "(II)I"⟩
abbrev cX9_cairn : ByteArray := prog_11_method_59_code
def yX9_cairn : MethodName := ⟨RX9, "cairn", "(III)I"⟩
abbrev cX9_heirBy : ByteArray := prog_11_method_60_code
def yX9_heirBy : MethodName := ⟨RX9, "heirBy", "(I)I"⟩
abbrev cX9_heir : ByteArray := prog_11_method_61_code
def yX9_heir : MethodName := ⟨RX9, "heir", "(I)I"⟩
abbrev cX9_layChoice : ByteArray := prog_11_method_62_code
def yX9_layChoice : MethodName := ⟨RX9, "layChoice", "(IIII)V"⟩
abbrev cX9_rests : ByteArray := prog_11_method_63_code
def yX9_rests : MethodName := ⟨RX9, "rests", "(III)I"⟩
abbrev cX9_print : ByteArray := prog_11_method_64_code
def yX9_print : MethodName := ⟨RX9, "print", "(II)I"⟩
abbrev cX9_forget : ByteArray := prog_11_method_65_code
def yX9_forget : MethodName := ⟨RX9, "forget", "()I"⟩
abbrev cX9_areSo : ByteArray := prog_11_method_66_code
def yX9_areSo : MethodName := ⟨RX9, "areSo", "(I)Z"⟩
abbrev cX9_failed : ByteArray := prog_11_method_67_code
def yX9_failed : MethodName := ⟨RX9, "failed", "()I"⟩
abbrev cX9_odds : ByteArray := prog_11_method_68_code
def yX9_odds : MethodName := ⟨RX9, "odds", "(III)I"⟩
abbrev cX9_rain : ByteArray := prog_11_method_69_code
def yX9_rain : MethodName := ⟨RX9, "rain", "(II)I"⟩
abbrev cX9_keep : ByteArray := prog_11_method_70_code
def yX9_keep : MethodName := ⟨RX9, "keep", "()I"⟩
abbrev cX9_back : ByteArray := prog_11_method_71_code
def yX9_back : MethodName := ⟨RX9, "back", "()I"⟩
abbrev cX9_count : ByteArray := prog_11_method_72_code
def yX9_count : MethodName := ⟨RX9, "count", "(I)I"⟩
def RJ6 : String := "java/lang/Integer"
def TJ6 : u_T := fun k => match k with
  | _ => ("", "", "", false)
def tyJ6 : Nat → FieldType := fun k => match k with
  | _ => .int
abbrev wsJ60 : List Cond := u_ws RJ6 TJ6 0
theorem nmJ6 : ∀ a, a < 0 → ∀ b, b < 0 → a ≠ b → (TJ6 a).2.1 ≠ (TJ6 b).2.1 := by decide +kernel
theorem tyJ6_ok : ∀ k, k < 0 → parseFieldDescriptor (TJ6 k).2.2.1 = some (tyJ6 k) := by decide +kernel
abbrev cJ6_bitCount_0f7a4 : ByteArray := prog_12_method_49_code
def yJ6_bitCount_0f7a4 : MethodName := ⟨RJ6, "bitCount", "(I)I"⟩
def RJ9 : String := "java/lang/Math"
def TJ9 : u_T := fun k => match k with
  | _ => ("", "", "", false)
def tyJ9 : Nat → FieldType := fun k => match k with
  | _ => .int
abbrev wsJ90 : List Cond := u_ws RJ9 TJ9 0
theorem nmJ9 : ∀ a, a < 0 → ∀ b, b < 0 → a ≠ b → (TJ9 a).2.1 ≠ (TJ9 b).2.1 := by decide +kernel
theorem tyJ9_ok : ∀ k, k < 0 → parseFieldDescriptor (TJ9 k).2.2.1 = some (tyJ9 k) := by decide +kernel
abbrev cJ9_min_7cf53 : ByteArray := prog_13_method_69_code
def yJ9_min_7cf53 : MethodName := ⟨RJ9, "min", "(II)I"⟩
def RJ0 : String := "java/lang/String"
def TJ0 : u_T := fun k => match k with
  | _ => ("", "", "", false)
def tyJ0 : Nat → FieldType := fun k => match k with
  | _ => .int
abbrev wsJ00 : List Cond := u_ws RJ0 TJ0 0
theorem nmJ0 : ∀ a, a < 0 → ∀ b, b < 0 → a ≠ b → (TJ0 a).2.1 ≠ (TJ0 b).2.1 := by decide +kernel
theorem tyJ0_ok : ∀ k, k < 0 → parseFieldDescriptor (TJ0 k).2.2.1 = some (tyJ0 k) := by decide +kernel
abbrev cJ0_length_8abf5 : ByteArray := prog_14_method_54_code
def yJ0_length_8abf5 : MethodName := ⟨RJ0, "length", "()I"⟩
abbrev cJ0_charAt_5068e : ByteArray := prog_14_method_56_code
def yJ0_charAt_5068e : MethodName := ⟨RJ0, "charAt", "(I)C"⟩
abbrev cJ0_coder_7d493 : ByteArray := prog_14_method_152_code
def yJ0_coder_7d493 : MethodName := ⟨RJ0, "coder", "()B"⟩
abbrev cJ0_isLatin1_aae02 : ByteArray := prog_14_method_154_code
def yJ0_isLatin1_aae02 : MethodName := ⟨RJ0, "isLatin1", "()Z"⟩
abbrev cJ0_checkIndex_df160 : ByteArray := prog_14_method_155_code
def yJ0_checkIndex_df160 : MethodName := ⟨RJ0, "checkIndex", "(II)V"⟩
def RJ1 : String := "java/lang/StringLatin1"
def TJ1 : u_T := fun k => match k with
  | _ => ("", "", "", false)
def tyJ1 : Nat → FieldType := fun k => match k with
  | _ => .int
abbrev wsJ10 : List Cond := u_ws RJ1 TJ1 0
theorem nmJ1 : ∀ a, a < 0 → ∀ b, b < 0 → a ≠ b → (TJ1 a).2.1 ≠ (TJ1 b).2.1 := by decide +kernel
theorem tyJ1_ok : ∀ k, k < 0 → parseFieldDescriptor (TJ1 k).2.2.1 = some (tyJ1 k) := by decide +kernel
abbrev cJ1_charAt_3b067 : ByteArray := prog_15_method_2_code
def yJ1_charAt_3b067 : MethodName := ⟨RJ1, "charAt", "([BI)C"⟩
def RJ2 : String := "java/lang/StringUTF16"
def TJ2 : u_T := fun k => match k with
  | _ => ("", "", "", false)
def tyJ2 : Nat → FieldType := fun k => match k with
  | _ => .int
abbrev wsJ20 : List Cond := u_ws RJ2 TJ2 0
theorem nmJ2 : ∀ a, a < 0 → ∀ b, b < 0 → a ≠ b → (TJ2 a).2.1 ≠ (TJ2 b).2.1 := by decide +kernel
theorem tyJ2_ok : ∀ k, k < 0 → parseFieldDescriptor (TJ2 k).2.2.1 = some (tyJ2 k) := by decide +kernel
abbrev cJ2_getChar_3b067 : ByteArray := prog_16_method_5_code
def yJ2_getChar_3b067 : MethodName := ⟨RJ2, "getChar", "([BI)C"⟩
abbrev cJ2_length_9d52b : ByteArray := prog_16_method_6_code
def yJ2_length_9d52b : MethodName := ⟨RJ2, "length", "([B)I"⟩
abbrev cJ2_charAt_3b067 : ByteArray := prog_16_method_83_code
def yJ2_charAt_3b067 : MethodName := ⟨RJ2, "charAt", "([BI)C"⟩
abbrev cJ2_checkIndex_2214a : ByteArray := prog_16_method_91_code
def yJ2_checkIndex_2214a : MethodName := ⟨RJ2, "checkIndex", "(I[B)V"⟩
def RJ10 : String := "java/lang/System"
def TJ10 : u_T := fun k => match k with
  | _ => ("", "", "", false)
def tyJ10 : Nat → FieldType := fun k => match k with
  | _ => .int
abbrev wsJ100 : List Cond := u_ws RJ10 TJ10 0
theorem nmJ10 : ∀ a, a < 0 → ∀ b, b < 0 → a ≠ b → (TJ10 a).2.1 ≠ (TJ10 b).2.1 := by decide +kernel
theorem tyJ10_ok : ∀ k, k < 0 → parseFieldDescriptor (TJ10 k).2.2.1 = some (tyJ10 k) := by decide +kernel
def RJ3 : String := "jdk/internal/util/Preconditions"
def TJ3 : u_T := fun k => match k with
  | _ => ("", "", "", false)
def tyJ3 : Nat → FieldType := fun k => match k with
  | _ => .int
abbrev wsJ30 : List Cond := u_ws RJ3 TJ3 0
theorem nmJ3 : ∀ a, a < 0 → ∀ b, b < 0 → a ≠ b → (TJ3 a).2.1 ≠ (TJ3 b).2.1 := by decide +kernel
theorem tyJ3_ok : ∀ k, k < 0 → parseFieldDescriptor (TJ3 k).2.2.1 = some (tyJ3 k) := by decide +kernel
abbrev cJ3_checkIndex_8e157 : ByteArray := prog_18_method_11_code
def yJ3_checkIndex_8e157 : MethodName := ⟨RJ3, "checkIndex", "(IILjava/util/function/BiFunction;)I"⟩
def RL : String := "ShoulderHeirsLaw"
abbrev cL_law : ByteArray := code
def yL_law : MethodName := ⟨RL, "law", "([I)Z"⟩
abbrev vwCl : List vw_C := [(RX0, TX0, 10), (RX1, TX1, 11), (RX2, TX2, 6), (RX3, TX3, 2), (RX4, TX4, 3), (RX5, TX5, 12), (RX6, TX6, 4), (RX7, TX7, 12), (RX8, TX8, 18), (RX9, TX9, 28)]
end
section
theorem k_0 : (Jvm.Cond.initialized "ShoulderHeirsLaw") ∈ lw_tbl := List.mem_append_right _ (List.mem_of_getElem? (i := 0) (by decide +kernel))
theorem k_1 : (Jvm.Cond.initialized "ShoulderHeirs") ∈ lw_tbl := List.mem_append_right _ (List.mem_of_getElem? (i := 1) (by decide +kernel))
theorem k_2 : (Jvm.Cond.initialized "ShoulderHeirs$Reader") ∈ lw_tbl := List.mem_append_right _ (List.mem_of_getElem? (i := 2) (by decide +kernel))
theorem k_3 : (Jvm.Cond.initialized "ShoulderHeirs$Funeral") ∈ lw_tbl := List.mem_append_right _ (List.mem_of_getElem? (i := 3) (by decide +kernel))
theorem k_4 : (Jvm.Cond.initialized "ShoulderHeirs$Turns") ∈ lw_tbl := List.mem_append_right _ (List.mem_of_getElem? (i := 4) (by decide +kernel))
theorem k_5 : (Jvm.Cond.initialized "ShoulderHeirs$Pile") ∈ lw_tbl := List.mem_append_right _ (List.mem_of_getElem? (i := 5) (by decide +kernel))
theorem k_6 : (Jvm.Cond.initialized "ShoulderHeirs$Walk") ∈ lw_tbl := List.mem_append_right _ (List.mem_of_getElem? (i := 6) (by decide +kernel))
theorem k_7 : (Jvm.Cond.initialized "ShoulderHeirs$TurnSearch") ∈ lw_tbl := List.mem_append_right _ (List.mem_of_getElem? (i := 7) (by decide +kernel))
theorem k_8 : (Jvm.Cond.initialized "ShoulderHeirs$OrderSearch") ∈ lw_tbl := List.mem_append_right _ (List.mem_of_getElem? (i := 8) (by decide +kernel))
theorem k_9 : (Jvm.Cond.initialized "ShoulderHeirs$Choices") ∈ lw_tbl := List.mem_append_right _ (List.mem_of_getElem? (i := 9) (by decide +kernel))
theorem k_10 : (Jvm.Cond.initialized "java/lang/String") ∈ lw_tbl := List.mem_append_right _ (List.mem_of_getElem? (i := 10) (by decide +kernel))
theorem k_11 : (Jvm.Cond.initialized "java/lang/Math") ∈ lw_tbl := List.mem_append_right _ (List.mem_of_getElem? (i := 11) (by decide +kernel))
theorem k_12 : (Jvm.Cond.initialized "java/lang/StringLatin1") ∈ lw_tbl := List.mem_append_right _ (List.mem_of_getElem? (i := 12) (by decide +kernel))
theorem k_13 : (Jvm.Cond.initialized "jdk/internal/util/Preconditions") ∈ lw_tbl := List.mem_append_right _ (List.mem_of_getElem? (i := 13) (by decide +kernel))
theorem k_14 : (Jvm.Cond.initialized "java/lang/StringUTF16") ∈ lw_tbl := List.mem_append_right _ (List.mem_of_getElem? (i := 14) (by decide +kernel))
theorem k_15 : (Jvm.Cond.initialized "java/lang/System") ∈ lw_tbl := List.mem_append_right _ (List.mem_of_getElem? (i := 15) (by decide +kernel))
theorem k_16 : (Jvm.Cond.initialized "java/lang/Integer") ∈ lw_tbl := List.mem_append_right _ (List.mem_of_getElem? (i := 16) (by decide +kernel))
theorem k_17 : (Jvm.Cond.initialized "ShoulderHeirsModel") ∈ lw_tbl := List.mem_append_right _ (List.mem_of_getElem? (i := 17) (by decide +kernel))
theorem k_18 : (Jvm.Cond.classLink "ShoulderHeirsLaw" (7 : Nat) "ShoulderHeirs") ∈ lw_tbl := List.mem_append_right _ (List.mem_of_getElem? (i := 18) (by decide +kernel))
theorem k_19 : (Jvm.Cond.instantiable "ShoulderHeirs" (18 : Nat)) ∈ lw_tbl := List.mem_append_right _ (List.mem_of_getElem? (i := 19) (by decide +kernel))
theorem k_20 : (Jvm.Cond.methodLink "ShoulderHeirsLaw" (9 : Nat) ({ cls := "ShoulderHeirs", name := "<init>", desc := "()V" } : Jvm.MethodName)) ∈ lw_tbl := List.mem_append_right _ (List.mem_of_getElem? (i := 20) (by decide +kernel))
theorem k_21 : (Jvm.Cond.instanceMethod ({ cls := "ShoulderHeirs", name := "<init>", desc := "()V" } : Jvm.MethodName)) ∈ lw_tbl := List.mem_append_right _ (List.mem_of_getElem? (i := 21) (by decide +kernel))
theorem k_22 : (Jvm.Cond.code ({ cls := "ShoulderHeirs", name := "<init>", desc := "()V" } : Jvm.MethodName) prog_1_method_1_code (3 : Nat) (Option.none : Option Jvm.ClassFile.FieldType)) ∈ lw_tbl := List.mem_append_right _ (List.mem_of_getElem? (i := 22) (by decide +kernel))
theorem k_23 : (Jvm.Cond.methodLink "ShoulderHeirs" (1 : Nat) ({ cls := "java/lang/Object", name := "<init>", desc := "()V" } : Jvm.MethodName)) ∈ lw_tbl := List.mem_append_right _ (List.mem_of_getElem? (i := 23) (by decide +kernel))
theorem k_24 : (Jvm.Cond.instanceMethod ({ cls := "java/lang/Object", name := "<init>", desc := "()V" } : Jvm.MethodName)) ∈ lw_tbl := List.mem_append_right _ (List.mem_of_getElem? (i := 24) (by decide +kernel))
theorem k_25 : (Jvm.Cond.code ({ cls := "java/lang/Object", name := "<init>", desc := "()V" } : Jvm.MethodName) object_method_1_code (1 : Nat) (Option.none : Option Jvm.ClassFile.FieldType)) ∈ lw_tbl := List.mem_append_right _ (List.mem_of_getElem? (i := 25) (by decide +kernel))
theorem k_26 : (Jvm.Cond.classLink "ShoulderHeirs" (13 : Nat) "ShoulderHeirs$Reader") ∈ lw_tbl := List.mem_append_right _ (List.mem_of_getElem? (i := 26) (by decide +kernel))
theorem k_27 : (Jvm.Cond.instantiable "ShoulderHeirs$Reader" (3 : Nat)) ∈ lw_tbl := List.mem_append_right _ (List.mem_of_getElem? (i := 27) (by decide +kernel))
theorem k_28 : (Jvm.Cond.methodLinkNest "ShoulderHeirs" (15 : Nat) ({ cls := "ShoulderHeirs$Reader", name := "<init>", desc := "()V" } : Jvm.MethodName) "ShoulderHeirs") ∈ lw_tbl := List.mem_append_right _ (List.mem_of_getElem? (i := 28) (by decide +kernel))
theorem k_29 : (Jvm.Cond.instanceMethod ({ cls := "ShoulderHeirs$Reader", name := "<init>", desc := "()V" } : Jvm.MethodName)) ∈ lw_tbl := List.mem_append_right _ (List.mem_of_getElem? (i := 29) (by decide +kernel))
theorem k_30 : (Jvm.Cond.code ({ cls := "ShoulderHeirs$Reader", name := "<init>", desc := "()V" } : Jvm.MethodName) prog_6_method_1_code (1 : Nat) (Option.none : Option Jvm.ClassFile.FieldType)) ∈ lw_tbl := List.mem_append_right _ (List.mem_of_getElem? (i := 30) (by decide +kernel))
theorem k_31 : (Jvm.Cond.methodLink "ShoulderHeirs$Reader" (3 : Nat) ({ cls := "java/lang/Object", name := "<init>", desc := "()V" } : Jvm.MethodName)) ∈ lw_tbl := List.mem_append_right _ (List.mem_of_getElem? (i := 31) (by decide +kernel))
theorem k_32 : (Jvm.Cond.classLink "ShoulderHeirs$Reader" (9 : Nat) "ShoulderHeirs$Funeral") ∈ lw_tbl := List.mem_append_right _ (List.mem_of_getElem? (i := 32) (by decide +kernel))
theorem k_33 : (Jvm.Cond.instantiable "ShoulderHeirs$Funeral" (11 : Nat)) ∈ lw_tbl := List.mem_append_right _ (List.mem_of_getElem? (i := 33) (by decide +kernel))
theorem k_34 : (Jvm.Cond.methodLinkNest "ShoulderHeirs$Reader" (11 : Nat) ({ cls := "ShoulderHeirs$Funeral", name := "<init>", desc := "()V" } : Jvm.MethodName) "ShoulderHeirs") ∈ lw_tbl := List.mem_append_right _ (List.mem_of_getElem? (i := 34) (by decide +kernel))
theorem k_35 : (Jvm.Cond.instanceMethod ({ cls := "ShoulderHeirs$Funeral", name := "<init>", desc := "()V" } : Jvm.MethodName)) ∈ lw_tbl := List.mem_append_right _ (List.mem_of_getElem? (i := 35) (by decide +kernel))
theorem k_36 : (Jvm.Cond.code ({ cls := "ShoulderHeirs$Funeral", name := "<init>", desc := "()V" } : Jvm.MethodName) prog_3_method_1_code (1 : Nat) (Option.none : Option Jvm.ClassFile.FieldType)) ∈ lw_tbl := List.mem_append_right _ (List.mem_of_getElem? (i := 36) (by decide +kernel))
theorem k_37 : (Jvm.Cond.methodLink "ShoulderHeirs$Funeral" (3 : Nat) ({ cls := "java/lang/Object", name := "<init>", desc := "()V" } : Jvm.MethodName)) ∈ lw_tbl := List.mem_append_right _ (List.mem_of_getElem? (i := 37) (by decide +kernel))
theorem k_38 : (Jvm.Cond.fieldLink "ShoulderHeirs$Funeral" (30 : Nat) "ShoulderHeirs$Funeral" "stretches" "I") ∈ lw_tbl := List.mem_append_right _ (List.mem_of_getElem? (i := 38) (by decide +kernel))
theorem k_39 : (Jvm.Cond.fieldLink "ShoulderHeirs$Choices" (48 : Nat) "ShoulderHeirs$Funeral" "stretches" "I") ∈ lw_tbl := List.mem_append_right _ (List.mem_of_getElem? (i := 39) (by decide +kernel))
theorem k_40 : (Jvm.Cond.fieldLink "ShoulderHeirs" (289 : Nat) "ShoulderHeirs$Funeral" "stretches" "I") ∈ lw_tbl := List.mem_append_right _ (List.mem_of_getElem? (i := 40) (by decide +kernel))
theorem k_41 : (Jvm.Cond.fieldLink "ShoulderHeirs$Funeral" (34 : Nat) "ShoulderHeirs$Funeral" "yards" "I") ∈ lw_tbl := List.mem_append_right _ (List.mem_of_getElem? (i := 41) (by decide +kernel))
theorem k_42 : (Jvm.Cond.fieldLink "ShoulderHeirs$TurnSearch" (59 : Nat) "ShoulderHeirs$Funeral" "yards" "I") ∈ lw_tbl := List.mem_append_right _ (List.mem_of_getElem? (i := 42) (by decide +kernel))
theorem k_43 : (Jvm.Cond.fieldLink "ShoulderHeirs$OrderSearch" (45 : Nat) "ShoulderHeirs$Funeral" "yards" "I") ∈ lw_tbl := List.mem_append_right _ (List.mem_of_getElem? (i := 43) (by decide +kernel))
theorem k_44 : (Jvm.Cond.fieldLink "ShoulderHeirs$Walk" (65 : Nat) "ShoulderHeirs$Funeral" "yards" "I") ∈ lw_tbl := List.mem_append_right _ (List.mem_of_getElem? (i := 44) (by decide +kernel))
theorem k_45 : (Jvm.Cond.fieldLink "ShoulderHeirs" (292 : Nat) "ShoulderHeirs$Funeral" "yards" "I") ∈ lw_tbl := List.mem_append_right _ (List.mem_of_getElem? (i := 45) (by decide +kernel))
theorem k_46 : (Jvm.Cond.fieldLink "ShoulderHeirs$Funeral" (37 : Nat) "ShoulderHeirs$Funeral" "bearers" "I") ∈ lw_tbl := List.mem_append_right _ (List.mem_of_getElem? (i := 46) (by decide +kernel))
theorem k_47 : (Jvm.Cond.fieldLink "ShoulderHeirs$OrderSearch" (36 : Nat) "ShoulderHeirs$Funeral" "bearers" "I") ∈ lw_tbl := List.mem_append_right _ (List.mem_of_getElem? (i := 47) (by decide +kernel))
theorem k_48 : (Jvm.Cond.fieldLink "ShoulderHeirs$Walk" (100 : Nat) "ShoulderHeirs$Funeral" "bearers" "I") ∈ lw_tbl := List.mem_append_right _ (List.mem_of_getElem? (i := 48) (by decide +kernel))
theorem k_49 : (Jvm.Cond.fieldLink "ShoulderHeirs" (170 : Nat) "ShoulderHeirs$Funeral" "bearers" "I") ∈ lw_tbl := List.mem_append_right _ (List.mem_of_getElem? (i := 49) (by decide +kernel))
theorem k_50 : (Jvm.Cond.fieldLink "ShoulderHeirs$Walk" (34 : Nat) "ShoulderHeirs$Funeral" "must" "I") ∈ lw_tbl := List.mem_append_right _ (List.mem_of_getElem? (i := 50) (by decide +kernel))
theorem k_51 : (Jvm.Cond.fieldLink "ShoulderHeirs$Funeral" (40 : Nat) "ShoulderHeirs$Funeral" "must" "I") ∈ lw_tbl := List.mem_append_right _ (List.mem_of_getElem? (i := 51) (by decide +kernel))
theorem k_52 : (Jvm.Cond.fieldLink "ShoulderHeirs" (295 : Nat) "ShoulderHeirs$Funeral" "must" "I") ∈ lw_tbl := List.mem_append_right _ (List.mem_of_getElem? (i := 52) (by decide +kernel))
theorem k_53 : (Jvm.Cond.fieldLink "ShoulderHeirs$Funeral" (43 : Nat) "ShoulderHeirs$Funeral" "wet" "I") ∈ lw_tbl := List.mem_append_right _ (List.mem_of_getElem? (i := 53) (by decide +kernel))
theorem k_54 : (Jvm.Cond.fieldLink "ShoulderHeirs$Walk" (76 : Nat) "ShoulderHeirs$Funeral" "wet" "I") ∈ lw_tbl := List.mem_append_right _ (List.mem_of_getElem? (i := 54) (by decide +kernel))
theorem k_55 : (Jvm.Cond.fieldLink "ShoulderHeirs$OrderSearch" (69 : Nat) "ShoulderHeirs$Funeral" "wet" "I") ∈ lw_tbl := List.mem_append_right _ (List.mem_of_getElem? (i := 55) (by decide +kernel))
theorem k_56 : (Jvm.Cond.fieldLink "ShoulderHeirs" (298 : Nat) "ShoulderHeirs$Funeral" "wet" "I") ∈ lw_tbl := List.mem_append_right _ (List.mem_of_getElem? (i := 56) (by decide +kernel))
theorem k_57 : (Jvm.Cond.fieldLink "ShoulderHeirs$Funeral" (9 : Nat) "ShoulderHeirs$Funeral" "length" "[I") ∈ lw_tbl := List.mem_append_right _ (List.mem_of_getElem? (i := 57) (by decide +kernel))
theorem k_58 : (Jvm.Cond.fieldLink "ShoulderHeirs$Choices" (57 : Nat) "ShoulderHeirs$Funeral" "length" "[I") ∈ lw_tbl := List.mem_append_right _ (List.mem_of_getElem? (i := 58) (by decide +kernel))
theorem k_59 : (Jvm.Cond.fieldLink "ShoulderHeirs$Funeral" (15 : Nat) "ShoulderHeirs$Funeral" "slope" "[I") ∈ lw_tbl := List.mem_append_right _ (List.mem_of_getElem? (i := 59) (by decide +kernel))
theorem k_60 : (Jvm.Cond.fieldLink "ShoulderHeirs$Funeral" (18 : Nat) "ShoulderHeirs$Funeral" "price" "[I") ∈ lw_tbl := List.mem_append_right _ (List.mem_of_getElem? (i := 60) (by decide +kernel))
theorem k_61 : (Jvm.Cond.fieldLink "ShoulderHeirs$Funeral" (21 : Nat) "ShoulderHeirs$Funeral" "strength" "[I") ∈ lw_tbl := List.mem_append_right _ (List.mem_of_getElem? (i := 61) (by decide +kernel))
theorem k_62 : (Jvm.Cond.fieldLink "ShoulderHeirs$Walk" (56 : Nat) "ShoulderHeirs$Funeral" "strength" "[I") ∈ lw_tbl := List.mem_append_right _ (List.mem_of_getElem? (i := 62) (by decide +kernel))
theorem k_63 : (Jvm.Cond.fieldLink "ShoulderHeirs$OrderSearch" (62 : Nat) "ShoulderHeirs$Funeral" "strength" "[I") ∈ lw_tbl := List.mem_append_right _ (List.mem_of_getElem? (i := 63) (by decide +kernel))
theorem k_64 : (Jvm.Cond.fieldLink "ShoulderHeirs" (149 : Nat) "ShoulderHeirs$Funeral" "strength" "[I") ∈ lw_tbl := List.mem_append_right _ (List.mem_of_getElem? (i := 64) (by decide +kernel))
theorem k_65 : (Jvm.Cond.fieldLink "ShoulderHeirs$Funeral" (24 : Nat) "ShoulderHeirs$Funeral" "kind" "[I") ∈ lw_tbl := List.mem_append_right _ (List.mem_of_getElem? (i := 65) (by decide +kernel))
theorem k_66 : (Jvm.Cond.fieldLink "ShoulderHeirs$TurnSearch" (48 : Nat) "ShoulderHeirs$Funeral" "kind" "[I") ∈ lw_tbl := List.mem_append_right _ (List.mem_of_getElem? (i := 66) (by decide +kernel))
theorem k_67 : (Jvm.Cond.fieldLink "ShoulderHeirs$OrderSearch" (72 : Nat) "ShoulderHeirs$Funeral" "kind" "[I") ∈ lw_tbl := List.mem_append_right _ (List.mem_of_getElem? (i := 67) (by decide +kernel))
theorem k_68 : (Jvm.Cond.fieldLink "ShoulderHeirs$Walk" (107 : Nat) "ShoulderHeirs$Funeral" "kind" "[I") ∈ lw_tbl := List.mem_append_right _ (List.mem_of_getElem? (i := 68) (by decide +kernel))
theorem k_69 : (Jvm.Cond.fieldLink "ShoulderHeirs" (152 : Nat) "ShoulderHeirs$Funeral" "kind" "[I") ∈ lw_tbl := List.mem_append_right _ (List.mem_of_getElem? (i := 69) (by decide +kernel))
theorem k_70 : (Jvm.Cond.fieldLink "ShoulderHeirs$Funeral" (27 : Nat) "ShoulderHeirs$Funeral" "stretchAt" "[I") ∈ lw_tbl := List.mem_append_right _ (List.mem_of_getElem? (i := 70) (by decide +kernel))
theorem k_71 : (Jvm.Cond.fieldLink "ShoulderHeirs" (133 : Nat) "ShoulderHeirs$Funeral" "stretchAt" "[I") ∈ lw_tbl := List.mem_append_right _ (List.mem_of_getElem? (i := 71) (by decide +kernel))
theorem k_72 : (Jvm.Cond.lays "ShoulderHeirs$Funeral" "ShoulderHeirs$Funeral" "stretches" "I") ∈ lw_tbl := List.mem_append_right _ (List.mem_of_getElem? (i := 72) (by decide +kernel))
theorem k_73 : (Jvm.Cond.soleField "ShoulderHeirs$Funeral" "stretches") ∈ lw_tbl := List.mem_append_right _ (List.mem_of_getElem? (i := 73) (by decide +kernel))
theorem k_74 : (Jvm.Cond.lays "ShoulderHeirs$Funeral" "ShoulderHeirs$Funeral" "yards" "I") ∈ lw_tbl := List.mem_append_right _ (List.mem_of_getElem? (i := 74) (by decide +kernel))
theorem k_75 : (Jvm.Cond.soleField "ShoulderHeirs$Funeral" "yards") ∈ lw_tbl := List.mem_append_right _ (List.mem_of_getElem? (i := 75) (by decide +kernel))
theorem k_76 : (Jvm.Cond.lays "ShoulderHeirs$Funeral" "ShoulderHeirs$Funeral" "bearers" "I") ∈ lw_tbl := List.mem_append_right _ (List.mem_of_getElem? (i := 76) (by decide +kernel))
theorem k_77 : (Jvm.Cond.soleField "ShoulderHeirs$Funeral" "bearers") ∈ lw_tbl := List.mem_append_right _ (List.mem_of_getElem? (i := 77) (by decide +kernel))
theorem k_78 : (Jvm.Cond.lays "ShoulderHeirs$Funeral" "ShoulderHeirs$Funeral" "must" "I") ∈ lw_tbl := List.mem_append_right _ (List.mem_of_getElem? (i := 78) (by decide +kernel))
theorem k_79 : (Jvm.Cond.soleField "ShoulderHeirs$Funeral" "must") ∈ lw_tbl := List.mem_append_right _ (List.mem_of_getElem? (i := 79) (by decide +kernel))
theorem k_80 : (Jvm.Cond.lays "ShoulderHeirs$Funeral" "ShoulderHeirs$Funeral" "wet" "I") ∈ lw_tbl := List.mem_append_right _ (List.mem_of_getElem? (i := 80) (by decide +kernel))
theorem k_81 : (Jvm.Cond.soleField "ShoulderHeirs$Funeral" "wet") ∈ lw_tbl := List.mem_append_right _ (List.mem_of_getElem? (i := 81) (by decide +kernel))
theorem k_82 : (Jvm.Cond.laysFinal "ShoulderHeirs$Funeral" "ShoulderHeirs$Funeral" "length" "[I") ∈ lw_tbl := List.mem_append_right _ (List.mem_of_getElem? (i := 82) (by decide +kernel))
theorem k_83 : (Jvm.Cond.soleField "ShoulderHeirs$Funeral" "length") ∈ lw_tbl := List.mem_append_right _ (List.mem_of_getElem? (i := 83) (by decide +kernel))
theorem k_84 : (Jvm.Cond.laysFinal "ShoulderHeirs$Funeral" "ShoulderHeirs$Funeral" "slope" "[I") ∈ lw_tbl := List.mem_append_right _ (List.mem_of_getElem? (i := 84) (by decide +kernel))
theorem k_85 : (Jvm.Cond.soleField "ShoulderHeirs$Funeral" "slope") ∈ lw_tbl := List.mem_append_right _ (List.mem_of_getElem? (i := 85) (by decide +kernel))
theorem k_86 : (Jvm.Cond.laysFinal "ShoulderHeirs$Funeral" "ShoulderHeirs$Funeral" "price" "[I") ∈ lw_tbl := List.mem_append_right _ (List.mem_of_getElem? (i := 86) (by decide +kernel))
theorem k_87 : (Jvm.Cond.soleField "ShoulderHeirs$Funeral" "price") ∈ lw_tbl := List.mem_append_right _ (List.mem_of_getElem? (i := 87) (by decide +kernel))
theorem k_88 : (Jvm.Cond.laysFinal "ShoulderHeirs$Funeral" "ShoulderHeirs$Funeral" "strength" "[I") ∈ lw_tbl := List.mem_append_right _ (List.mem_of_getElem? (i := 88) (by decide +kernel))
theorem k_89 : (Jvm.Cond.soleField "ShoulderHeirs$Funeral" "strength") ∈ lw_tbl := List.mem_append_right _ (List.mem_of_getElem? (i := 89) (by decide +kernel))
theorem k_90 : (Jvm.Cond.laysFinal "ShoulderHeirs$Funeral" "ShoulderHeirs$Funeral" "kind" "[I") ∈ lw_tbl := List.mem_append_right _ (List.mem_of_getElem? (i := 90) (by decide +kernel))
theorem k_91 : (Jvm.Cond.soleField "ShoulderHeirs$Funeral" "kind") ∈ lw_tbl := List.mem_append_right _ (List.mem_of_getElem? (i := 91) (by decide +kernel))
theorem k_92 : (Jvm.Cond.laysFinal "ShoulderHeirs$Funeral" "ShoulderHeirs$Funeral" "stretchAt" "[I") ∈ lw_tbl := List.mem_append_right _ (List.mem_of_getElem? (i := 92) (by decide +kernel))
theorem k_93 : (Jvm.Cond.soleField "ShoulderHeirs$Funeral" "stretchAt") ∈ lw_tbl := List.mem_append_right _ (List.mem_of_getElem? (i := 93) (by decide +kernel))
theorem k_94 : (Jvm.Cond.superclass "ShoulderHeirs$Funeral" "java/lang/Object") ∈ lw_tbl := List.mem_append_right _ (List.mem_of_getElem? (i := 94) (by decide +kernel))
theorem k_95 : (Jvm.Cond.arrayClass Jvm.ClassFile.FieldType.char) ∈ lw_tbl := List.mem_append_right _ (List.mem_of_getElem? (i := 95) (by decide +kernel))
theorem k_96 : (Jvm.Cond.arrayClass Jvm.ClassFile.FieldType.int) ∈ lw_tbl := List.mem_append_right _ (List.mem_of_getElem? (i := 96) (by decide +kernel))
theorem k_97 : (Jvm.Cond.classLink "ShoulderHeirs$Reader" (18 : Nat) "ShoulderHeirs$Turns") ∈ lw_tbl := List.mem_append_right _ (List.mem_of_getElem? (i := 97) (by decide +kernel))
theorem k_98 : (Jvm.Cond.instantiable "ShoulderHeirs$Turns" (4 : Nat)) ∈ lw_tbl := List.mem_append_right _ (List.mem_of_getElem? (i := 98) (by decide +kernel))
theorem k_99 : (Jvm.Cond.methodLinkNest "ShoulderHeirs$Reader" (20 : Nat) ({ cls := "ShoulderHeirs$Turns", name := "<init>", desc := "()V" } : Jvm.MethodName) "ShoulderHeirs") ∈ lw_tbl := List.mem_append_right _ (List.mem_of_getElem? (i := 99) (by decide +kernel))
theorem k_100 : (Jvm.Cond.instanceMethod ({ cls := "ShoulderHeirs$Turns", name := "<init>", desc := "()V" } : Jvm.MethodName)) ∈ lw_tbl := List.mem_append_right _ (List.mem_of_getElem? (i := 100) (by decide +kernel))
theorem k_101 : (Jvm.Cond.code ({ cls := "ShoulderHeirs$Turns", name := "<init>", desc := "()V" } : Jvm.MethodName) prog_8_method_1_code (1 : Nat) (Option.none : Option Jvm.ClassFile.FieldType)) ∈ lw_tbl := List.mem_append_right _ (List.mem_of_getElem? (i := 101) (by decide +kernel))
theorem k_102 : (Jvm.Cond.methodLink "ShoulderHeirs$Turns" (3 : Nat) ({ cls := "java/lang/Object", name := "<init>", desc := "()V" } : Jvm.MethodName)) ∈ lw_tbl := List.mem_append_right _ (List.mem_of_getElem? (i := 102) (by decide +kernel))
theorem k_103 : (Jvm.Cond.fieldLink "ShoulderHeirs$Turns" (21 : Nat) "ShoulderHeirs$Turns" "size" "I") ∈ lw_tbl := List.mem_append_right _ (List.mem_of_getElem? (i := 103) (by decide +kernel))
theorem k_104 : (Jvm.Cond.fieldLink "ShoulderHeirs$Reader" (32 : Nat) "ShoulderHeirs$Turns" "size" "I") ∈ lw_tbl := List.mem_append_right _ (List.mem_of_getElem? (i := 104) (by decide +kernel))
theorem k_105 : (Jvm.Cond.fieldLink "ShoulderHeirs" (203 : Nat) "ShoulderHeirs$Turns" "size" "I") ∈ lw_tbl := List.mem_append_right _ (List.mem_of_getElem? (i := 105) (by decide +kernel))
theorem k_106 : (Jvm.Cond.fieldLink "ShoulderHeirs$Turns" (9 : Nat) "ShoulderHeirs$Turns" "who" "[I") ∈ lw_tbl := List.mem_append_right _ (List.mem_of_getElem? (i := 106) (by decide +kernel))
theorem k_107 : (Jvm.Cond.fieldLink "ShoulderHeirs" (180 : Nat) "ShoulderHeirs$Turns" "who" "[I") ∈ lw_tbl := List.mem_append_right _ (List.mem_of_getElem? (i := 107) (by decide +kernel))
theorem k_108 : (Jvm.Cond.fieldLink "ShoulderHeirs$Turns" (15 : Nat) "ShoulderHeirs$Turns" "from" "[I") ∈ lw_tbl := List.mem_append_right _ (List.mem_of_getElem? (i := 108) (by decide +kernel))
theorem k_109 : (Jvm.Cond.fieldLink "ShoulderHeirs" (183 : Nat) "ShoulderHeirs$Turns" "from" "[I") ∈ lw_tbl := List.mem_append_right _ (List.mem_of_getElem? (i := 109) (by decide +kernel))
theorem k_110 : (Jvm.Cond.fieldLink "ShoulderHeirs$Turns" (18 : Nat) "ShoulderHeirs$Turns" "to" "[I") ∈ lw_tbl := List.mem_append_right _ (List.mem_of_getElem? (i := 110) (by decide +kernel))
theorem k_111 : (Jvm.Cond.fieldLink "ShoulderHeirs" (186 : Nat) "ShoulderHeirs$Turns" "to" "[I") ∈ lw_tbl := List.mem_append_right _ (List.mem_of_getElem? (i := 111) (by decide +kernel))
theorem k_112 : (Jvm.Cond.lays "ShoulderHeirs$Turns" "ShoulderHeirs$Turns" "size" "I") ∈ lw_tbl := List.mem_append_right _ (List.mem_of_getElem? (i := 112) (by decide +kernel))
theorem k_113 : (Jvm.Cond.soleField "ShoulderHeirs$Turns" "size") ∈ lw_tbl := List.mem_append_right _ (List.mem_of_getElem? (i := 113) (by decide +kernel))
theorem k_114 : (Jvm.Cond.laysFinal "ShoulderHeirs$Turns" "ShoulderHeirs$Turns" "who" "[I") ∈ lw_tbl := List.mem_append_right _ (List.mem_of_getElem? (i := 114) (by decide +kernel))
theorem k_115 : (Jvm.Cond.soleField "ShoulderHeirs$Turns" "who") ∈ lw_tbl := List.mem_append_right _ (List.mem_of_getElem? (i := 115) (by decide +kernel))
theorem k_116 : (Jvm.Cond.laysFinal "ShoulderHeirs$Turns" "ShoulderHeirs$Turns" "from" "[I") ∈ lw_tbl := List.mem_append_right _ (List.mem_of_getElem? (i := 116) (by decide +kernel))
theorem k_117 : (Jvm.Cond.soleField "ShoulderHeirs$Turns" "from") ∈ lw_tbl := List.mem_append_right _ (List.mem_of_getElem? (i := 117) (by decide +kernel))
theorem k_118 : (Jvm.Cond.laysFinal "ShoulderHeirs$Turns" "ShoulderHeirs$Turns" "to" "[I") ∈ lw_tbl := List.mem_append_right _ (List.mem_of_getElem? (i := 118) (by decide +kernel))
theorem k_119 : (Jvm.Cond.soleField "ShoulderHeirs$Turns" "to") ∈ lw_tbl := List.mem_append_right _ (List.mem_of_getElem? (i := 119) (by decide +kernel))
theorem k_120 : (Jvm.Cond.superclass "ShoulderHeirs$Turns" "java/lang/Object") ∈ lw_tbl := List.mem_append_right _ (List.mem_of_getElem? (i := 120) (by decide +kernel))
theorem k_121 : (Jvm.Cond.fieldLink "ShoulderHeirs$Reader" (12 : Nat) "ShoulderHeirs$Reader" "funeral" "LShoulderHeirs$Funeral;") ∈ lw_tbl := List.mem_append_right _ (List.mem_of_getElem? (i := 121) (by decide +kernel))
theorem k_122 : (Jvm.Cond.fieldLink "ShoulderHeirs" (301 : Nat) "ShoulderHeirs$Reader" "funeral" "LShoulderHeirs$Funeral;") ∈ lw_tbl := List.mem_append_right _ (List.mem_of_getElem? (i := 122) (by decide +kernel))
theorem k_123 : (Jvm.Cond.fieldLink "ShoulderHeirs$Reader" (21 : Nat) "ShoulderHeirs$Reader" "turns" "LShoulderHeirs$Turns;") ∈ lw_tbl := List.mem_append_right _ (List.mem_of_getElem? (i := 123) (by decide +kernel))
theorem k_124 : (Jvm.Cond.fieldLink "ShoulderHeirs" (302 : Nat) "ShoulderHeirs$Reader" "turns" "LShoulderHeirs$Turns;") ∈ lw_tbl := List.mem_append_right _ (List.mem_of_getElem? (i := 124) (by decide +kernel))
theorem k_125 : (Jvm.Cond.fieldLink "ShoulderHeirs$Reader" (25 : Nat) "ShoulderHeirs$Reader" "number" "[I") ∈ lw_tbl := List.mem_append_right _ (List.mem_of_getElem? (i := 125) (by decide +kernel))
theorem k_126 : (Jvm.Cond.laysFinal "ShoulderHeirs$Reader" "ShoulderHeirs$Reader" "funeral" "LShoulderHeirs$Funeral;") ∈ lw_tbl := List.mem_append_right _ (List.mem_of_getElem? (i := 126) (by decide +kernel))
theorem k_127 : (Jvm.Cond.soleField "ShoulderHeirs$Reader" "funeral") ∈ lw_tbl := List.mem_append_right _ (List.mem_of_getElem? (i := 127) (by decide +kernel))
theorem k_128 : (Jvm.Cond.laysFinal "ShoulderHeirs$Reader" "ShoulderHeirs$Reader" "turns" "LShoulderHeirs$Turns;") ∈ lw_tbl := List.mem_append_right _ (List.mem_of_getElem? (i := 128) (by decide +kernel))
theorem k_129 : (Jvm.Cond.soleField "ShoulderHeirs$Reader" "turns") ∈ lw_tbl := List.mem_append_right _ (List.mem_of_getElem? (i := 129) (by decide +kernel))
theorem k_130 : (Jvm.Cond.laysFinal "ShoulderHeirs$Reader" "ShoulderHeirs$Reader" "number" "[I") ∈ lw_tbl := List.mem_append_right _ (List.mem_of_getElem? (i := 130) (by decide +kernel))
theorem k_131 : (Jvm.Cond.soleField "ShoulderHeirs$Reader" "number") ∈ lw_tbl := List.mem_append_right _ (List.mem_of_getElem? (i := 131) (by decide +kernel))
theorem k_132 : (Jvm.Cond.superclass "ShoulderHeirs$Reader" "java/lang/Object") ∈ lw_tbl := List.mem_append_right _ (List.mem_of_getElem? (i := 132) (by decide +kernel))
theorem k_133 : (Jvm.Cond.classLink "ShoulderHeirs" (20 : Nat) "ShoulderHeirs$Funeral") ∈ lw_tbl := List.mem_append_right _ (List.mem_of_getElem? (i := 133) (by decide +kernel))
theorem k_134 : (Jvm.Cond.methodLinkNest "ShoulderHeirs" (22 : Nat) ({ cls := "ShoulderHeirs$Funeral", name := "<init>", desc := "()V" } : Jvm.MethodName) "ShoulderHeirs") ∈ lw_tbl := List.mem_append_right _ (List.mem_of_getElem? (i := 134) (by decide +kernel))
theorem k_135 : (Jvm.Cond.classLink "ShoulderHeirs" (30 : Nat) "ShoulderHeirs$Turns") ∈ lw_tbl := List.mem_append_right _ (List.mem_of_getElem? (i := 135) (by decide +kernel))
theorem k_136 : (Jvm.Cond.methodLinkNest "ShoulderHeirs" (32 : Nat) ({ cls := "ShoulderHeirs$Turns", name := "<init>", desc := "()V" } : Jvm.MethodName) "ShoulderHeirs") ∈ lw_tbl := List.mem_append_right _ (List.mem_of_getElem? (i := 136) (by decide +kernel))
theorem k_137 : (Jvm.Cond.classLink "ShoulderHeirs" (37 : Nat) "ShoulderHeirs$Pile") ∈ lw_tbl := List.mem_append_right _ (List.mem_of_getElem? (i := 137) (by decide +kernel))
theorem k_138 : (Jvm.Cond.instantiable "ShoulderHeirs$Pile" (2 : Nat)) ∈ lw_tbl := List.mem_append_right _ (List.mem_of_getElem? (i := 138) (by decide +kernel))
theorem k_139 : (Jvm.Cond.methodLink "ShoulderHeirs" (39 : Nat) ({ cls := "ShoulderHeirs$Pile", name := "<init>", desc := "(I)V" } : Jvm.MethodName)) ∈ lw_tbl := List.mem_append_right _ (List.mem_of_getElem? (i := 139) (by decide +kernel))
theorem k_140 : (Jvm.Cond.instanceMethod ({ cls := "ShoulderHeirs$Pile", name := "<init>", desc := "(I)V" } : Jvm.MethodName)) ∈ lw_tbl := List.mem_append_right _ (List.mem_of_getElem? (i := 140) (by decide +kernel))
theorem k_141 : (Jvm.Cond.code ({ cls := "ShoulderHeirs$Pile", name := "<init>", desc := "(I)V" } : Jvm.MethodName) prog_5_method_1_code (3 : Nat) (Option.none : Option Jvm.ClassFile.FieldType)) ∈ lw_tbl := List.mem_append_right _ (List.mem_of_getElem? (i := 141) (by decide +kernel))
theorem k_142 : (Jvm.Cond.methodLink "ShoulderHeirs$Pile" (1 : Nat) ({ cls := "java/lang/Object", name := "<init>", desc := "()V" } : Jvm.MethodName)) ∈ lw_tbl := List.mem_append_right _ (List.mem_of_getElem? (i := 142) (by decide +kernel))
theorem k_143 : (Jvm.Cond.classLink "ShoulderHeirs$Pile" (7 : Nat) "ShoulderHeirs$Turns") ∈ lw_tbl := List.mem_append_right _ (List.mem_of_getElem? (i := 143) (by decide +kernel))
theorem k_144 : (Jvm.Cond.arrayOver (Jvm.ClassFile.FieldType.object "ShoulderHeirs$Turns")) ∈ lw_tbl := List.mem_append_right _ (List.mem_of_getElem? (i := 144) (by decide +kernel))
theorem k_145 : (Jvm.Cond.methodLinkNest "ShoulderHeirs$Pile" (15 : Nat) ({ cls := "ShoulderHeirs$Turns", name := "<init>", desc := "()V" } : Jvm.MethodName) "ShoulderHeirs") ∈ lw_tbl := List.mem_append_right _ (List.mem_of_getElem? (i := 145) (by decide +kernel))
theorem k_146 : (Jvm.Cond.fieldLink "ShoulderHeirs$Pile" (9 : Nat) "ShoulderHeirs$Pile" "row" "[LShoulderHeirs$Turns;") ∈ lw_tbl := List.mem_append_right _ (List.mem_of_getElem? (i := 146) (by decide +kernel))
theorem k_147 : (Jvm.Cond.fieldLink "ShoulderHeirs$Pile" (16 : Nat) "ShoulderHeirs$Pile" "size" "I") ∈ lw_tbl := List.mem_append_right _ (List.mem_of_getElem? (i := 147) (by decide +kernel))
theorem k_148 : (Jvm.Cond.fieldLink "ShoulderHeirs" (213 : Nat) "ShoulderHeirs$Pile" "size" "I") ∈ lw_tbl := List.mem_append_right _ (List.mem_of_getElem? (i := 148) (by decide +kernel))
theorem k_149 : (Jvm.Cond.laysFinal "ShoulderHeirs$Pile" "ShoulderHeirs$Pile" "row" "[LShoulderHeirs$Turns;") ∈ lw_tbl := List.mem_append_right _ (List.mem_of_getElem? (i := 149) (by decide +kernel))
theorem k_150 : (Jvm.Cond.soleField "ShoulderHeirs$Pile" "row") ∈ lw_tbl := List.mem_append_right _ (List.mem_of_getElem? (i := 150) (by decide +kernel))
theorem k_151 : (Jvm.Cond.lays "ShoulderHeirs$Pile" "ShoulderHeirs$Pile" "size" "I") ∈ lw_tbl := List.mem_append_right _ (List.mem_of_getElem? (i := 151) (by decide +kernel))
theorem k_152 : (Jvm.Cond.soleField "ShoulderHeirs$Pile" "size") ∈ lw_tbl := List.mem_append_right _ (List.mem_of_getElem? (i := 152) (by decide +kernel))
theorem k_153 : (Jvm.Cond.superclass "ShoulderHeirs$Pile" "java/lang/Object") ∈ lw_tbl := List.mem_append_right _ (List.mem_of_getElem? (i := 153) (by decide +kernel))
theorem k_154 : (Jvm.Cond.classLink "ShoulderHeirs" (62 : Nat) "ShoulderHeirs$Walk") ∈ lw_tbl := List.mem_append_right _ (List.mem_of_getElem? (i := 154) (by decide +kernel))
theorem k_155 : (Jvm.Cond.instantiable "ShoulderHeirs$Walk" (12 : Nat)) ∈ lw_tbl := List.mem_append_right _ (List.mem_of_getElem? (i := 155) (by decide +kernel))
theorem k_156 : (Jvm.Cond.methodLink "ShoulderHeirs" (64 : Nat) ({ cls := "ShoulderHeirs$Walk", name := "<init>", desc := "(LShoulderHeirs$Funeral;)V" } : Jvm.MethodName)) ∈ lw_tbl := List.mem_append_right _ (List.mem_of_getElem? (i := 156) (by decide +kernel))
theorem k_157 : (Jvm.Cond.instanceMethod ({ cls := "ShoulderHeirs$Walk", name := "<init>", desc := "(LShoulderHeirs$Funeral;)V" } : Jvm.MethodName)) ∈ lw_tbl := List.mem_append_right _ (List.mem_of_getElem? (i := 157) (by decide +kernel))
theorem k_158 : (Jvm.Cond.code ({ cls := "ShoulderHeirs$Walk", name := "<init>", desc := "(LShoulderHeirs$Funeral;)V" } : Jvm.MethodName) prog_9_method_1_code (2 : Nat) (Option.none : Option Jvm.ClassFile.FieldType)) ∈ lw_tbl := List.mem_append_right _ (List.mem_of_getElem? (i := 158) (by decide +kernel))
theorem k_159 : (Jvm.Cond.methodLink "ShoulderHeirs$Walk" (3 : Nat) ({ cls := "java/lang/Object", name := "<init>", desc := "()V" } : Jvm.MethodName)) ∈ lw_tbl := List.mem_append_right _ (List.mem_of_getElem? (i := 159) (by decide +kernel))
theorem k_160 : (Jvm.Cond.fieldLink "ShoulderHeirs$Walk" (30 : Nat) "ShoulderHeirs$Walk" "funeral" "LShoulderHeirs$Funeral;") ∈ lw_tbl := List.mem_append_right _ (List.mem_of_getElem? (i := 160) (by decide +kernel))
theorem k_161 : (Jvm.Cond.fieldLink "ShoulderHeirs$Walk" (40 : Nat) "ShoulderHeirs$Walk" "must" "I") ∈ lw_tbl := List.mem_append_right _ (List.mem_of_getElem? (i := 161) (by decide +kernel))
theorem k_162 : (Jvm.Cond.fieldLink "ShoulderHeirs$Choices" (73 : Nat) "ShoulderHeirs$Walk" "must" "I") ∈ lw_tbl := List.mem_append_right _ (List.mem_of_getElem? (i := 162) (by decide +kernel))
theorem k_163 : (Jvm.Cond.fieldLink "ShoulderHeirs$Walk" (41 : Nat) "ShoulderHeirs$Walk" "day" "I") ∈ lw_tbl := List.mem_append_right _ (List.mem_of_getElem? (i := 163) (by decide +kernel))
theorem k_164 : (Jvm.Cond.fieldLink "ShoulderHeirs" (285 : Nat) "ShoulderHeirs$Walk" "day" "I") ∈ lw_tbl := List.mem_append_right _ (List.mem_of_getElem? (i := 164) (by decide +kernel))
theorem k_165 : (Jvm.Cond.fieldLink "ShoulderHeirs$Walk" (44 : Nat) "ShoulderHeirs$Walk" "standsAt" "I") ∈ lw_tbl := List.mem_append_right _ (List.mem_of_getElem? (i := 165) (by decide +kernel))
theorem k_166 : (Jvm.Cond.fieldLink "ShoulderHeirs$TurnSearch" (85 : Nat) "ShoulderHeirs$Walk" "standsAt" "I") ∈ lw_tbl := List.mem_append_right _ (List.mem_of_getElem? (i := 166) (by decide +kernel))
theorem k_167 : (Jvm.Cond.fieldLink "ShoulderHeirs" (167 : Nat) "ShoulderHeirs$Walk" "standsAt" "I") ∈ lw_tbl := List.mem_append_right _ (List.mem_of_getElem? (i := 167) (by decide +kernel))
theorem k_168 : (Jvm.Cond.fieldLink "ShoulderHeirs$Walk" (47 : Nat) "ShoulderHeirs$Walk" "stumbled" "I") ∈ lw_tbl := List.mem_append_right _ (List.mem_of_getElem? (i := 168) (by decide +kernel))
theorem k_169 : (Jvm.Cond.fieldLink "ShoulderHeirs$Walk" (54 : Nat) "ShoulderHeirs$Walk" "twins" "I") ∈ lw_tbl := List.mem_append_right _ (List.mem_of_getElem? (i := 169) (by decide +kernel))
theorem k_170 : (Jvm.Cond.fieldLink "ShoulderHeirs$Walk" (9 : Nat) "ShoulderHeirs$Walk" "left" "[I") ∈ lw_tbl := List.mem_append_right _ (List.mem_of_getElem? (i := 170) (by decide +kernel))
theorem k_171 : (Jvm.Cond.fieldLink "ShoulderHeirs" (155 : Nat) "ShoulderHeirs$Walk" "left" "[I") ∈ lw_tbl := List.mem_append_right _ (List.mem_of_getElem? (i := 171) (by decide +kernel))
theorem k_172 : (Jvm.Cond.fieldLink "ShoulderHeirs$Walk" (15 : Nat) "ShoulderHeirs$Walk" "stumbledAt" "[I") ∈ lw_tbl := List.mem_append_right _ (List.mem_of_getElem? (i := 172) (by decide +kernel))
theorem k_173 : (Jvm.Cond.fieldLink "ShoulderHeirs" (161 : Nat) "ShoulderHeirs$Walk" "stumbledAt" "[I") ∈ lw_tbl := List.mem_append_right _ (List.mem_of_getElem? (i := 173) (by decide +kernel))
theorem k_174 : (Jvm.Cond.fieldLink "ShoulderHeirs$Walk" (18 : Nat) "ShoulderHeirs$Walk" "borne" "[I") ∈ lw_tbl := List.mem_append_right _ (List.mem_of_getElem? (i := 174) (by decide +kernel))
theorem k_175 : (Jvm.Cond.fieldLink "ShoulderHeirs" (164 : Nat) "ShoulderHeirs$Walk" "borne" "[I") ∈ lw_tbl := List.mem_append_right _ (List.mem_of_getElem? (i := 175) (by decide +kernel))
theorem k_176 : (Jvm.Cond.fieldLink "ShoulderHeirs$Walk" (21 : Nat) "ShoulderHeirs$Walk" "gained" "[I") ∈ lw_tbl := List.mem_append_right _ (List.mem_of_getElem? (i := 176) (by decide +kernel))
theorem k_177 : (Jvm.Cond.fieldLink "ShoulderHeirs$Walk" (24 : Nat) "ShoulderHeirs$Walk" "bore" "[I") ∈ lw_tbl := List.mem_append_right _ (List.mem_of_getElem? (i := 177) (by decide +kernel))
theorem k_178 : (Jvm.Cond.fieldLink "ShoulderHeirs" (143 : Nat) "ShoulderHeirs$Walk" "bore" "[I") ∈ lw_tbl := List.mem_append_right _ (List.mem_of_getElem? (i := 178) (by decide +kernel))
theorem k_179 : (Jvm.Cond.fieldLink "ShoulderHeirs$Walk" (27 : Nat) "ShoulderHeirs$Walk" "cost" "[I") ∈ lw_tbl := List.mem_append_right _ (List.mem_of_getElem? (i := 179) (by decide +kernel))
theorem k_180 : (Jvm.Cond.lays "ShoulderHeirs$Walk" "ShoulderHeirs$Walk" "funeral" "LShoulderHeirs$Funeral;") ∈ lw_tbl := List.mem_append_right _ (List.mem_of_getElem? (i := 180) (by decide +kernel))
theorem k_181 : (Jvm.Cond.soleField "ShoulderHeirs$Walk" "funeral") ∈ lw_tbl := List.mem_append_right _ (List.mem_of_getElem? (i := 181) (by decide +kernel))
theorem k_182 : (Jvm.Cond.lays "ShoulderHeirs$Walk" "ShoulderHeirs$Walk" "must" "I") ∈ lw_tbl := List.mem_append_right _ (List.mem_of_getElem? (i := 182) (by decide +kernel))
theorem k_183 : (Jvm.Cond.soleField "ShoulderHeirs$Walk" "must") ∈ lw_tbl := List.mem_append_right _ (List.mem_of_getElem? (i := 183) (by decide +kernel))
theorem k_184 : (Jvm.Cond.lays "ShoulderHeirs$Walk" "ShoulderHeirs$Walk" "day" "I") ∈ lw_tbl := List.mem_append_right _ (List.mem_of_getElem? (i := 184) (by decide +kernel))
theorem k_185 : (Jvm.Cond.soleField "ShoulderHeirs$Walk" "day") ∈ lw_tbl := List.mem_append_right _ (List.mem_of_getElem? (i := 185) (by decide +kernel))
theorem k_186 : (Jvm.Cond.lays "ShoulderHeirs$Walk" "ShoulderHeirs$Walk" "standsAt" "I") ∈ lw_tbl := List.mem_append_right _ (List.mem_of_getElem? (i := 186) (by decide +kernel))
theorem k_187 : (Jvm.Cond.soleField "ShoulderHeirs$Walk" "standsAt") ∈ lw_tbl := List.mem_append_right _ (List.mem_of_getElem? (i := 187) (by decide +kernel))
theorem k_188 : (Jvm.Cond.lays "ShoulderHeirs$Walk" "ShoulderHeirs$Walk" "stumbled" "I") ∈ lw_tbl := List.mem_append_right _ (List.mem_of_getElem? (i := 188) (by decide +kernel))
theorem k_189 : (Jvm.Cond.soleField "ShoulderHeirs$Walk" "stumbled") ∈ lw_tbl := List.mem_append_right _ (List.mem_of_getElem? (i := 189) (by decide +kernel))
theorem k_190 : (Jvm.Cond.lays "ShoulderHeirs$Walk" "ShoulderHeirs$Walk" "twins" "I") ∈ lw_tbl := List.mem_append_right _ (List.mem_of_getElem? (i := 190) (by decide +kernel))
theorem k_191 : (Jvm.Cond.soleField "ShoulderHeirs$Walk" "twins") ∈ lw_tbl := List.mem_append_right _ (List.mem_of_getElem? (i := 191) (by decide +kernel))
theorem k_192 : (Jvm.Cond.laysFinal "ShoulderHeirs$Walk" "ShoulderHeirs$Walk" "left" "[I") ∈ lw_tbl := List.mem_append_right _ (List.mem_of_getElem? (i := 192) (by decide +kernel))
theorem k_193 : (Jvm.Cond.soleField "ShoulderHeirs$Walk" "left") ∈ lw_tbl := List.mem_append_right _ (List.mem_of_getElem? (i := 193) (by decide +kernel))
theorem k_194 : (Jvm.Cond.laysFinal "ShoulderHeirs$Walk" "ShoulderHeirs$Walk" "stumbledAt" "[I") ∈ lw_tbl := List.mem_append_right _ (List.mem_of_getElem? (i := 194) (by decide +kernel))
theorem k_195 : (Jvm.Cond.soleField "ShoulderHeirs$Walk" "stumbledAt") ∈ lw_tbl := List.mem_append_right _ (List.mem_of_getElem? (i := 195) (by decide +kernel))
theorem k_196 : (Jvm.Cond.laysFinal "ShoulderHeirs$Walk" "ShoulderHeirs$Walk" "borne" "[I") ∈ lw_tbl := List.mem_append_right _ (List.mem_of_getElem? (i := 196) (by decide +kernel))
theorem k_197 : (Jvm.Cond.soleField "ShoulderHeirs$Walk" "borne") ∈ lw_tbl := List.mem_append_right _ (List.mem_of_getElem? (i := 197) (by decide +kernel))
theorem k_198 : (Jvm.Cond.laysFinal "ShoulderHeirs$Walk" "ShoulderHeirs$Walk" "gained" "[I") ∈ lw_tbl := List.mem_append_right _ (List.mem_of_getElem? (i := 198) (by decide +kernel))
theorem k_199 : (Jvm.Cond.soleField "ShoulderHeirs$Walk" "gained") ∈ lw_tbl := List.mem_append_right _ (List.mem_of_getElem? (i := 199) (by decide +kernel))
theorem k_200 : (Jvm.Cond.laysFinal "ShoulderHeirs$Walk" "ShoulderHeirs$Walk" "bore" "[I") ∈ lw_tbl := List.mem_append_right _ (List.mem_of_getElem? (i := 200) (by decide +kernel))
theorem k_201 : (Jvm.Cond.soleField "ShoulderHeirs$Walk" "bore") ∈ lw_tbl := List.mem_append_right _ (List.mem_of_getElem? (i := 201) (by decide +kernel))
theorem k_202 : (Jvm.Cond.laysFinal "ShoulderHeirs$Walk" "ShoulderHeirs$Walk" "cost" "[I") ∈ lw_tbl := List.mem_append_right _ (List.mem_of_getElem? (i := 202) (by decide +kernel))
theorem k_203 : (Jvm.Cond.soleField "ShoulderHeirs$Walk" "cost") ∈ lw_tbl := List.mem_append_right _ (List.mem_of_getElem? (i := 203) (by decide +kernel))
theorem k_204 : (Jvm.Cond.superclass "ShoulderHeirs$Walk" "java/lang/Object") ∈ lw_tbl := List.mem_append_right _ (List.mem_of_getElem? (i := 204) (by decide +kernel))
theorem k_205 : (Jvm.Cond.classLink "ShoulderHeirs" (74 : Nat) "ShoulderHeirs$TurnSearch") ∈ lw_tbl := List.mem_append_right _ (List.mem_of_getElem? (i := 205) (by decide +kernel))
theorem k_206 : (Jvm.Cond.instantiable "ShoulderHeirs$TurnSearch" (12 : Nat)) ∈ lw_tbl := List.mem_append_right _ (List.mem_of_getElem? (i := 206) (by decide +kernel))
theorem k_207 : (Jvm.Cond.methodLink "ShoulderHeirs" (76 : Nat) ({ cls := "ShoulderHeirs$TurnSearch", name := "<init>", desc := "(LShoulderHeirs$Funeral;[I)V" } : Jvm.MethodName)) ∈ lw_tbl := List.mem_append_right _ (List.mem_of_getElem? (i := 207) (by decide +kernel))
theorem k_208 : (Jvm.Cond.instanceMethod ({ cls := "ShoulderHeirs$TurnSearch", name := "<init>", desc := "(LShoulderHeirs$Funeral;[I)V" } : Jvm.MethodName)) ∈ lw_tbl := List.mem_append_right _ (List.mem_of_getElem? (i := 208) (by decide +kernel))
theorem k_209 : (Jvm.Cond.code ({ cls := "ShoulderHeirs$TurnSearch", name := "<init>", desc := "(LShoulderHeirs$Funeral;[I)V" } : Jvm.MethodName) prog_7_method_1_code (3 : Nat) (Option.none : Option Jvm.ClassFile.FieldType)) ∈ lw_tbl := List.mem_append_right _ (List.mem_of_getElem? (i := 209) (by decide +kernel))
theorem k_210 : (Jvm.Cond.methodLink "ShoulderHeirs$TurnSearch" (3 : Nat) ({ cls := "java/lang/Object", name := "<init>", desc := "()V" } : Jvm.MethodName)) ∈ lw_tbl := List.mem_append_right _ (List.mem_of_getElem? (i := 210) (by decide +kernel))
theorem k_211 : (Jvm.Cond.classLink "ShoulderHeirs$TurnSearch" (22 : Nat) "ShoulderHeirs$Walk") ∈ lw_tbl := List.mem_append_right _ (List.mem_of_getElem? (i := 211) (by decide +kernel))
theorem k_212 : (Jvm.Cond.methodLink "ShoulderHeirs$TurnSearch" (24 : Nat) ({ cls := "ShoulderHeirs$Walk", name := "<init>", desc := "(LShoulderHeirs$Funeral;)V" } : Jvm.MethodName)) ∈ lw_tbl := List.mem_append_right _ (List.mem_of_getElem? (i := 212) (by decide +kernel))
theorem k_213 : (Jvm.Cond.fieldLink "ShoulderHeirs$TurnSearch" (37 : Nat) "ShoulderHeirs$TurnSearch" "acres" "I") ∈ lw_tbl := List.mem_append_right _ (List.mem_of_getElem? (i := 213) (by decide +kernel))
theorem k_214 : (Jvm.Cond.fieldLink "ShoulderHeirs" (222 : Nat) "ShoulderHeirs$TurnSearch" "acres" "I") ∈ lw_tbl := List.mem_append_right _ (List.mem_of_getElem? (i := 214) (by decide +kernel))
theorem k_215 : (Jvm.Cond.fieldLink "ShoulderHeirs$TurnSearch" (102 : Nat) "ShoulderHeirs$TurnSearch" "from" "I") ∈ lw_tbl := List.mem_append_right _ (List.mem_of_getElem? (i := 215) (by decide +kernel))
theorem k_216 : (Jvm.Cond.fieldLink "ShoulderHeirs" (218 : Nat) "ShoulderHeirs$TurnSearch" "from" "I") ∈ lw_tbl := List.mem_append_right _ (List.mem_of_getElem? (i := 216) (by decide +kernel))
theorem k_217 : (Jvm.Cond.fieldLink "ShoulderHeirs$TurnSearch" (105 : Nat) "ShoulderHeirs$TurnSearch" "to" "I") ∈ lw_tbl := List.mem_append_right _ (List.mem_of_getElem? (i := 217) (by decide +kernel))
theorem k_218 : (Jvm.Cond.fieldLink "ShoulderHeirs" (220 : Nat) "ShoulderHeirs$TurnSearch" "to" "I") ∈ lw_tbl := List.mem_append_right _ (List.mem_of_getElem? (i := 218) (by decide +kernel))
theorem k_219 : (Jvm.Cond.fieldLink "ShoulderHeirs$TurnSearch" (41 : Nat) "ShoulderHeirs$TurnSearch" "who" "I") ∈ lw_tbl := List.mem_append_right _ (List.mem_of_getElem? (i := 219) (by decide +kernel))
theorem k_220 : (Jvm.Cond.fieldLink "ShoulderHeirs$TurnSearch" (78 : Nat) "ShoulderHeirs$TurnSearch" "lastOfHis" "I") ∈ lw_tbl := List.mem_append_right _ (List.mem_of_getElem? (i := 220) (by decide +kernel))
theorem k_221 : (Jvm.Cond.fieldLink "ShoulderHeirs$TurnSearch" (44 : Nat) "ShoulderHeirs$TurnSearch" "found" "Z") ∈ lw_tbl := List.mem_append_right _ (List.mem_of_getElem? (i := 221) (by decide +kernel))
theorem k_222 : (Jvm.Cond.fieldLink "ShoulderHeirs$TurnSearch" (15 : Nat) "ShoulderHeirs$TurnSearch" "funeral" "LShoulderHeirs$Funeral;") ∈ lw_tbl := List.mem_append_right _ (List.mem_of_getElem? (i := 222) (by decide +kernel))
theorem k_223 : (Jvm.Cond.fieldLink "ShoulderHeirs$TurnSearch" (19 : Nat) "ShoulderHeirs$TurnSearch" "duty" "[I") ∈ lw_tbl := List.mem_append_right _ (List.mem_of_getElem? (i := 223) (by decide +kernel))
theorem k_224 : (Jvm.Cond.fieldLink "ShoulderHeirs$TurnSearch" (27 : Nat) "ShoulderHeirs$TurnSearch" "head" "LShoulderHeirs$Walk;") ∈ lw_tbl := List.mem_append_right _ (List.mem_of_getElem? (i := 224) (by decide +kernel))
theorem k_225 : (Jvm.Cond.fieldLink "ShoulderHeirs$TurnSearch" (31 : Nat) "ShoulderHeirs$TurnSearch" "middle" "LShoulderHeirs$Walk;") ∈ lw_tbl := List.mem_append_right _ (List.mem_of_getElem? (i := 225) (by decide +kernel))
theorem k_226 : (Jvm.Cond.fieldLink "ShoulderHeirs$TurnSearch" (34 : Nat) "ShoulderHeirs$TurnSearch" "tail" "LShoulderHeirs$Walk;") ∈ lw_tbl := List.mem_append_right _ (List.mem_of_getElem? (i := 226) (by decide +kernel))
theorem k_227 : (Jvm.Cond.fieldLink "ShoulderHeirs$TurnSearch" (9 : Nat) "ShoulderHeirs$TurnSearch" "mostBehind" "[I") ∈ lw_tbl := List.mem_append_right _ (List.mem_of_getElem? (i := 227) (by decide +kernel))
theorem k_228 : (Jvm.Cond.lays "ShoulderHeirs$TurnSearch" "ShoulderHeirs$TurnSearch" "acres" "I") ∈ lw_tbl := List.mem_append_right _ (List.mem_of_getElem? (i := 228) (by decide +kernel))
theorem k_229 : (Jvm.Cond.soleField "ShoulderHeirs$TurnSearch" "acres") ∈ lw_tbl := List.mem_append_right _ (List.mem_of_getElem? (i := 229) (by decide +kernel))
theorem k_230 : (Jvm.Cond.lays "ShoulderHeirs$TurnSearch" "ShoulderHeirs$TurnSearch" "from" "I") ∈ lw_tbl := List.mem_append_right _ (List.mem_of_getElem? (i := 230) (by decide +kernel))
theorem k_231 : (Jvm.Cond.soleField "ShoulderHeirs$TurnSearch" "from") ∈ lw_tbl := List.mem_append_right _ (List.mem_of_getElem? (i := 231) (by decide +kernel))
theorem k_232 : (Jvm.Cond.lays "ShoulderHeirs$TurnSearch" "ShoulderHeirs$TurnSearch" "to" "I") ∈ lw_tbl := List.mem_append_right _ (List.mem_of_getElem? (i := 232) (by decide +kernel))
theorem k_233 : (Jvm.Cond.soleField "ShoulderHeirs$TurnSearch" "to") ∈ lw_tbl := List.mem_append_right _ (List.mem_of_getElem? (i := 233) (by decide +kernel))
theorem k_234 : (Jvm.Cond.lays "ShoulderHeirs$TurnSearch" "ShoulderHeirs$TurnSearch" "who" "I") ∈ lw_tbl := List.mem_append_right _ (List.mem_of_getElem? (i := 234) (by decide +kernel))
theorem k_235 : (Jvm.Cond.soleField "ShoulderHeirs$TurnSearch" "who") ∈ lw_tbl := List.mem_append_right _ (List.mem_of_getElem? (i := 235) (by decide +kernel))
theorem k_236 : (Jvm.Cond.lays "ShoulderHeirs$TurnSearch" "ShoulderHeirs$TurnSearch" "lastOfHis" "I") ∈ lw_tbl := List.mem_append_right _ (List.mem_of_getElem? (i := 236) (by decide +kernel))
theorem k_237 : (Jvm.Cond.soleField "ShoulderHeirs$TurnSearch" "lastOfHis") ∈ lw_tbl := List.mem_append_right _ (List.mem_of_getElem? (i := 237) (by decide +kernel))
theorem k_238 : (Jvm.Cond.lays "ShoulderHeirs$TurnSearch" "ShoulderHeirs$TurnSearch" "found" "Z") ∈ lw_tbl := List.mem_append_right _ (List.mem_of_getElem? (i := 238) (by decide +kernel))
theorem k_239 : (Jvm.Cond.soleField "ShoulderHeirs$TurnSearch" "found") ∈ lw_tbl := List.mem_append_right _ (List.mem_of_getElem? (i := 239) (by decide +kernel))
theorem k_240 : (Jvm.Cond.laysFinal "ShoulderHeirs$TurnSearch" "ShoulderHeirs$TurnSearch" "funeral" "LShoulderHeirs$Funeral;") ∈ lw_tbl := List.mem_append_right _ (List.mem_of_getElem? (i := 240) (by decide +kernel))
theorem k_241 : (Jvm.Cond.soleField "ShoulderHeirs$TurnSearch" "funeral") ∈ lw_tbl := List.mem_append_right _ (List.mem_of_getElem? (i := 241) (by decide +kernel))
theorem k_242 : (Jvm.Cond.laysFinal "ShoulderHeirs$TurnSearch" "ShoulderHeirs$TurnSearch" "duty" "[I") ∈ lw_tbl := List.mem_append_right _ (List.mem_of_getElem? (i := 242) (by decide +kernel))
theorem k_243 : (Jvm.Cond.soleField "ShoulderHeirs$TurnSearch" "duty") ∈ lw_tbl := List.mem_append_right _ (List.mem_of_getElem? (i := 243) (by decide +kernel))
theorem k_244 : (Jvm.Cond.laysFinal "ShoulderHeirs$TurnSearch" "ShoulderHeirs$TurnSearch" "head" "LShoulderHeirs$Walk;") ∈ lw_tbl := List.mem_append_right _ (List.mem_of_getElem? (i := 244) (by decide +kernel))
theorem k_245 : (Jvm.Cond.soleField "ShoulderHeirs$TurnSearch" "head") ∈ lw_tbl := List.mem_append_right _ (List.mem_of_getElem? (i := 245) (by decide +kernel))
theorem k_246 : (Jvm.Cond.laysFinal "ShoulderHeirs$TurnSearch" "ShoulderHeirs$TurnSearch" "middle" "LShoulderHeirs$Walk;") ∈ lw_tbl := List.mem_append_right _ (List.mem_of_getElem? (i := 246) (by decide +kernel))
theorem k_247 : (Jvm.Cond.soleField "ShoulderHeirs$TurnSearch" "middle") ∈ lw_tbl := List.mem_append_right _ (List.mem_of_getElem? (i := 247) (by decide +kernel))
theorem k_248 : (Jvm.Cond.laysFinal "ShoulderHeirs$TurnSearch" "ShoulderHeirs$TurnSearch" "tail" "LShoulderHeirs$Walk;") ∈ lw_tbl := List.mem_append_right _ (List.mem_of_getElem? (i := 248) (by decide +kernel))
theorem k_249 : (Jvm.Cond.soleField "ShoulderHeirs$TurnSearch" "tail") ∈ lw_tbl := List.mem_append_right _ (List.mem_of_getElem? (i := 249) (by decide +kernel))
theorem k_250 : (Jvm.Cond.laysFinal "ShoulderHeirs$TurnSearch" "ShoulderHeirs$TurnSearch" "mostBehind" "[I") ∈ lw_tbl := List.mem_append_right _ (List.mem_of_getElem? (i := 250) (by decide +kernel))
theorem k_251 : (Jvm.Cond.soleField "ShoulderHeirs$TurnSearch" "mostBehind") ∈ lw_tbl := List.mem_append_right _ (List.mem_of_getElem? (i := 251) (by decide +kernel))
theorem k_252 : (Jvm.Cond.superclass "ShoulderHeirs$TurnSearch" "java/lang/Object") ∈ lw_tbl := List.mem_append_right _ (List.mem_of_getElem? (i := 252) (by decide +kernel))
theorem k_253 : (Jvm.Cond.classLink "ShoulderHeirs" (83 : Nat) "ShoulderHeirs$OrderSearch") ∈ lw_tbl := List.mem_append_right _ (List.mem_of_getElem? (i := 253) (by decide +kernel))
theorem k_254 : (Jvm.Cond.instantiable "ShoulderHeirs$OrderSearch" (6 : Nat)) ∈ lw_tbl := List.mem_append_right _ (List.mem_of_getElem? (i := 254) (by decide +kernel))
theorem k_255 : (Jvm.Cond.methodLink "ShoulderHeirs" (85 : Nat) ({ cls := "ShoulderHeirs$OrderSearch", name := "<init>", desc := "(LShoulderHeirs$Funeral;)V" } : Jvm.MethodName)) ∈ lw_tbl := List.mem_append_right _ (List.mem_of_getElem? (i := 255) (by decide +kernel))
theorem k_256 : (Jvm.Cond.instanceMethod ({ cls := "ShoulderHeirs$OrderSearch", name := "<init>", desc := "(LShoulderHeirs$Funeral;)V" } : Jvm.MethodName)) ∈ lw_tbl := List.mem_append_right _ (List.mem_of_getElem? (i := 256) (by decide +kernel))
theorem k_257 : (Jvm.Cond.code ({ cls := "ShoulderHeirs$OrderSearch", name := "<init>", desc := "(LShoulderHeirs$Funeral;)V" } : Jvm.MethodName) prog_4_method_1_code (2 : Nat) (Option.none : Option Jvm.ClassFile.FieldType)) ∈ lw_tbl := List.mem_append_right _ (List.mem_of_getElem? (i := 257) (by decide +kernel))
theorem k_258 : (Jvm.Cond.methodLink "ShoulderHeirs$OrderSearch" (3 : Nat) ({ cls := "java/lang/Object", name := "<init>", desc := "()V" } : Jvm.MethodName)) ∈ lw_tbl := List.mem_append_right _ (List.mem_of_getElem? (i := 258) (by decide +kernel))
theorem k_259 : (Jvm.Cond.fieldLink "ShoulderHeirs$OrderSearch" (29 : Nat) "ShoulderHeirs$OrderSearch" "reach" "I") ∈ lw_tbl := List.mem_append_right _ (List.mem_of_getElem? (i := 259) (by decide +kernel))
theorem k_260 : (Jvm.Cond.fieldLink "ShoulderHeirs" (238 : Nat) "ShoulderHeirs$OrderSearch" "reach" "I") ∈ lw_tbl := List.mem_append_right _ (List.mem_of_getElem? (i := 260) (by decide +kernel))
theorem k_261 : (Jvm.Cond.fieldLink "ShoulderHeirs$OrderSearch" (9 : Nat) "ShoulderHeirs$OrderSearch" "order" "[I") ∈ lw_tbl := List.mem_append_right _ (List.mem_of_getElem? (i := 261) (by decide +kernel))
theorem k_262 : (Jvm.Cond.fieldLink "ShoulderHeirs" (241 : Nat) "ShoulderHeirs$OrderSearch" "order" "[I") ∈ lw_tbl := List.mem_append_right _ (List.mem_of_getElem? (i := 262) (by decide +kernel))
theorem k_263 : (Jvm.Cond.fieldLink "ShoulderHeirs$OrderSearch" (15 : Nat) "ShoulderHeirs$OrderSearch" "tried" "[I") ∈ lw_tbl := List.mem_append_right _ (List.mem_of_getElem? (i := 263) (by decide +kernel))
theorem k_264 : (Jvm.Cond.fieldLink "ShoulderHeirs$OrderSearch" (18 : Nat) "ShoulderHeirs$OrderSearch" "funeral" "LShoulderHeirs$Funeral;") ∈ lw_tbl := List.mem_append_right _ (List.mem_of_getElem? (i := 264) (by decide +kernel))
theorem k_265 : (Jvm.Cond.fieldLink "ShoulderHeirs$OrderSearch" (22 : Nat) "ShoulderHeirs$OrderSearch" "stronger" "I") ∈ lw_tbl := List.mem_append_right _ (List.mem_of_getElem? (i := 265) (by decide +kernel))
theorem k_266 : (Jvm.Cond.fieldLink "ShoulderHeirs$OrderSearch" (26 : Nat) "ShoulderHeirs$OrderSearch" "more" "I") ∈ lw_tbl := List.mem_append_right _ (List.mem_of_getElem? (i := 266) (by decide +kernel))
theorem k_267 : (Jvm.Cond.lays "ShoulderHeirs$OrderSearch" "ShoulderHeirs$OrderSearch" "reach" "I") ∈ lw_tbl := List.mem_append_right _ (List.mem_of_getElem? (i := 267) (by decide +kernel))
theorem k_268 : (Jvm.Cond.soleField "ShoulderHeirs$OrderSearch" "reach") ∈ lw_tbl := List.mem_append_right _ (List.mem_of_getElem? (i := 268) (by decide +kernel))
theorem k_269 : (Jvm.Cond.laysFinal "ShoulderHeirs$OrderSearch" "ShoulderHeirs$OrderSearch" "order" "[I") ∈ lw_tbl := List.mem_append_right _ (List.mem_of_getElem? (i := 269) (by decide +kernel))
theorem k_270 : (Jvm.Cond.soleField "ShoulderHeirs$OrderSearch" "order") ∈ lw_tbl := List.mem_append_right _ (List.mem_of_getElem? (i := 270) (by decide +kernel))
theorem k_271 : (Jvm.Cond.laysFinal "ShoulderHeirs$OrderSearch" "ShoulderHeirs$OrderSearch" "tried" "[I") ∈ lw_tbl := List.mem_append_right _ (List.mem_of_getElem? (i := 271) (by decide +kernel))
theorem k_272 : (Jvm.Cond.soleField "ShoulderHeirs$OrderSearch" "tried") ∈ lw_tbl := List.mem_append_right _ (List.mem_of_getElem? (i := 272) (by decide +kernel))
theorem k_273 : (Jvm.Cond.laysFinal "ShoulderHeirs$OrderSearch" "ShoulderHeirs$OrderSearch" "funeral" "LShoulderHeirs$Funeral;") ∈ lw_tbl := List.mem_append_right _ (List.mem_of_getElem? (i := 273) (by decide +kernel))
theorem k_274 : (Jvm.Cond.soleField "ShoulderHeirs$OrderSearch" "funeral") ∈ lw_tbl := List.mem_append_right _ (List.mem_of_getElem? (i := 274) (by decide +kernel))
theorem k_275 : (Jvm.Cond.lays "ShoulderHeirs$OrderSearch" "ShoulderHeirs$OrderSearch" "stronger" "I") ∈ lw_tbl := List.mem_append_right _ (List.mem_of_getElem? (i := 275) (by decide +kernel))
theorem k_276 : (Jvm.Cond.soleField "ShoulderHeirs$OrderSearch" "stronger") ∈ lw_tbl := List.mem_append_right _ (List.mem_of_getElem? (i := 276) (by decide +kernel))
theorem k_277 : (Jvm.Cond.lays "ShoulderHeirs$OrderSearch" "ShoulderHeirs$OrderSearch" "more" "I") ∈ lw_tbl := List.mem_append_right _ (List.mem_of_getElem? (i := 277) (by decide +kernel))
theorem k_278 : (Jvm.Cond.soleField "ShoulderHeirs$OrderSearch" "more") ∈ lw_tbl := List.mem_append_right _ (List.mem_of_getElem? (i := 278) (by decide +kernel))
theorem k_279 : (Jvm.Cond.superclass "ShoulderHeirs$OrderSearch" "java/lang/Object") ∈ lw_tbl := List.mem_append_right _ (List.mem_of_getElem? (i := 279) (by decide +kernel))
theorem k_280 : (Jvm.Cond.classLink "ShoulderHeirs" (90 : Nat) "ShoulderHeirs$Choices") ∈ lw_tbl := List.mem_append_right _ (List.mem_of_getElem? (i := 280) (by decide +kernel))
theorem k_281 : (Jvm.Cond.instantiable "ShoulderHeirs$Choices" (10 : Nat)) ∈ lw_tbl := List.mem_append_right _ (List.mem_of_getElem? (i := 281) (by decide +kernel))
theorem k_282 : (Jvm.Cond.methodLink "ShoulderHeirs" (92 : Nat) ({ cls := "ShoulderHeirs$Choices", name := "<init>", desc := "(LShoulderHeirs$Funeral;)V" } : Jvm.MethodName)) ∈ lw_tbl := List.mem_append_right _ (List.mem_of_getElem? (i := 282) (by decide +kernel))
theorem k_283 : (Jvm.Cond.instanceMethod ({ cls := "ShoulderHeirs$Choices", name := "<init>", desc := "(LShoulderHeirs$Funeral;)V" } : Jvm.MethodName)) ∈ lw_tbl := List.mem_append_right _ (List.mem_of_getElem? (i := 283) (by decide +kernel))
theorem k_284 : (Jvm.Cond.code ({ cls := "ShoulderHeirs$Choices", name := "<init>", desc := "(LShoulderHeirs$Funeral;)V" } : Jvm.MethodName) prog_2_method_1_code (2 : Nat) (Option.none : Option Jvm.ClassFile.FieldType)) ∈ lw_tbl := List.mem_append_right _ (List.mem_of_getElem? (i := 284) (by decide +kernel))
theorem k_285 : (Jvm.Cond.methodLink "ShoulderHeirs$Choices" (3 : Nat) ({ cls := "java/lang/Object", name := "<init>", desc := "()V" } : Jvm.MethodName)) ∈ lw_tbl := List.mem_append_right _ (List.mem_of_getElem? (i := 285) (by decide +kernel))
theorem k_286 : (Jvm.Cond.classLink "ShoulderHeirs$Choices" (28 : Nat) "ShoulderHeirs$Walk") ∈ lw_tbl := List.mem_append_right _ (List.mem_of_getElem? (i := 286) (by decide +kernel))
theorem k_287 : (Jvm.Cond.methodLink "ShoulderHeirs$Choices" (30 : Nat) ({ cls := "ShoulderHeirs$Walk", name := "<init>", desc := "(LShoulderHeirs$Funeral;)V" } : Jvm.MethodName)) ∈ lw_tbl := List.mem_append_right _ (List.mem_of_getElem? (i := 287) (by decide +kernel))
theorem k_288 : (Jvm.Cond.fieldLink "ShoulderHeirs$Choices" (41 : Nat) "ShoulderHeirs$Choices" "restsFound" "I") ∈ lw_tbl := List.mem_append_right _ (List.mem_of_getElem? (i := 288) (by decide +kernel))
theorem k_289 : (Jvm.Cond.fieldLink "ShoulderHeirs" (266 : Nat) "ShoulderHeirs$Choices" "restsFound" "I") ∈ lw_tbl := List.mem_append_right _ (List.mem_of_getElem? (i := 289) (by decide +kernel))
theorem k_290 : (Jvm.Cond.fieldLink "ShoulderHeirs$Choices" (45 : Nat) "ShoulderHeirs$Choices" "firstRest" "I") ∈ lw_tbl := List.mem_append_right _ (List.mem_of_getElem? (i := 290) (by decide +kernel))
theorem k_291 : (Jvm.Cond.fieldLink "ShoulderHeirs" (269 : Nat) "ShoulderHeirs$Choices" "firstRest" "I") ∈ lw_tbl := List.mem_append_right _ (List.mem_of_getElem? (i := 291) (by decide +kernel))
theorem k_292 : (Jvm.Cond.fieldLink "ShoulderHeirs$Choices" (24 : Nat) "ShoulderHeirs$Choices" "funeral" "LShoulderHeirs$Funeral;") ∈ lw_tbl := List.mem_append_right _ (List.mem_of_getElem? (i := 292) (by decide +kernel))
theorem k_293 : (Jvm.Cond.fieldLink "ShoulderHeirs$Choices" (33 : Nat) "ShoulderHeirs$Choices" "walk" "LShoulderHeirs$Walk;") ∈ lw_tbl := List.mem_append_right _ (List.mem_of_getElem? (i := 293) (by decide +kernel))
theorem k_294 : (Jvm.Cond.fieldLink "ShoulderHeirs$Choices" (9 : Nat) "ShoulderHeirs$Choices" "firstAlone" "[I") ∈ lw_tbl := List.mem_append_right _ (List.mem_of_getElem? (i := 294) (by decide +kernel))
theorem k_295 : (Jvm.Cond.fieldLink "ShoulderHeirs$Choices" (15 : Nat) "ShoulderHeirs$Choices" "firstBoth" "[I") ∈ lw_tbl := List.mem_append_right _ (List.mem_of_getElem? (i := 295) (by decide +kernel))
theorem k_296 : (Jvm.Cond.fieldLink "ShoulderHeirs$Choices" (18 : Nat) "ShoulderHeirs$Choices" "otherAlone" "[I") ∈ lw_tbl := List.mem_append_right _ (List.mem_of_getElem? (i := 296) (by decide +kernel))
theorem k_297 : (Jvm.Cond.fieldLink "ShoulderHeirs$Choices" (21 : Nat) "ShoulderHeirs$Choices" "otherBoth" "[I") ∈ lw_tbl := List.mem_append_right _ (List.mem_of_getElem? (i := 297) (by decide +kernel))
theorem k_298 : (Jvm.Cond.fieldLink "ShoulderHeirs$Choices" (64 : Nat) "ShoulderHeirs$Choices" "firstHas" "I") ∈ lw_tbl := List.mem_append_right _ (List.mem_of_getElem? (i := 298) (by decide +kernel))
theorem k_299 : (Jvm.Cond.fieldLink "ShoulderHeirs$Choices" (67 : Nat) "ShoulderHeirs$Choices" "otherHas" "I") ∈ lw_tbl := List.mem_append_right _ (List.mem_of_getElem? (i := 299) (by decide +kernel))
theorem k_300 : (Jvm.Cond.lays "ShoulderHeirs$Choices" "ShoulderHeirs$Choices" "restsFound" "I") ∈ lw_tbl := List.mem_append_right _ (List.mem_of_getElem? (i := 300) (by decide +kernel))
theorem k_301 : (Jvm.Cond.soleField "ShoulderHeirs$Choices" "restsFound") ∈ lw_tbl := List.mem_append_right _ (List.mem_of_getElem? (i := 301) (by decide +kernel))
theorem k_302 : (Jvm.Cond.lays "ShoulderHeirs$Choices" "ShoulderHeirs$Choices" "firstRest" "I") ∈ lw_tbl := List.mem_append_right _ (List.mem_of_getElem? (i := 302) (by decide +kernel))
theorem k_303 : (Jvm.Cond.soleField "ShoulderHeirs$Choices" "firstRest") ∈ lw_tbl := List.mem_append_right _ (List.mem_of_getElem? (i := 303) (by decide +kernel))
theorem k_304 : (Jvm.Cond.laysFinal "ShoulderHeirs$Choices" "ShoulderHeirs$Choices" "funeral" "LShoulderHeirs$Funeral;") ∈ lw_tbl := List.mem_append_right _ (List.mem_of_getElem? (i := 304) (by decide +kernel))
theorem k_305 : (Jvm.Cond.soleField "ShoulderHeirs$Choices" "funeral") ∈ lw_tbl := List.mem_append_right _ (List.mem_of_getElem? (i := 305) (by decide +kernel))
theorem k_306 : (Jvm.Cond.laysFinal "ShoulderHeirs$Choices" "ShoulderHeirs$Choices" "walk" "LShoulderHeirs$Walk;") ∈ lw_tbl := List.mem_append_right _ (List.mem_of_getElem? (i := 306) (by decide +kernel))
theorem k_307 : (Jvm.Cond.soleField "ShoulderHeirs$Choices" "walk") ∈ lw_tbl := List.mem_append_right _ (List.mem_of_getElem? (i := 307) (by decide +kernel))
theorem k_308 : (Jvm.Cond.laysFinal "ShoulderHeirs$Choices" "ShoulderHeirs$Choices" "firstAlone" "[I") ∈ lw_tbl := List.mem_append_right _ (List.mem_of_getElem? (i := 308) (by decide +kernel))
theorem k_309 : (Jvm.Cond.soleField "ShoulderHeirs$Choices" "firstAlone") ∈ lw_tbl := List.mem_append_right _ (List.mem_of_getElem? (i := 309) (by decide +kernel))
theorem k_310 : (Jvm.Cond.laysFinal "ShoulderHeirs$Choices" "ShoulderHeirs$Choices" "firstBoth" "[I") ∈ lw_tbl := List.mem_append_right _ (List.mem_of_getElem? (i := 310) (by decide +kernel))
theorem k_311 : (Jvm.Cond.soleField "ShoulderHeirs$Choices" "firstBoth") ∈ lw_tbl := List.mem_append_right _ (List.mem_of_getElem? (i := 311) (by decide +kernel))
theorem k_312 : (Jvm.Cond.laysFinal "ShoulderHeirs$Choices" "ShoulderHeirs$Choices" "otherAlone" "[I") ∈ lw_tbl := List.mem_append_right _ (List.mem_of_getElem? (i := 312) (by decide +kernel))
theorem k_313 : (Jvm.Cond.soleField "ShoulderHeirs$Choices" "otherAlone") ∈ lw_tbl := List.mem_append_right _ (List.mem_of_getElem? (i := 313) (by decide +kernel))
theorem k_314 : (Jvm.Cond.laysFinal "ShoulderHeirs$Choices" "ShoulderHeirs$Choices" "otherBoth" "[I") ∈ lw_tbl := List.mem_append_right _ (List.mem_of_getElem? (i := 314) (by decide +kernel))
theorem k_315 : (Jvm.Cond.soleField "ShoulderHeirs$Choices" "otherBoth") ∈ lw_tbl := List.mem_append_right _ (List.mem_of_getElem? (i := 315) (by decide +kernel))
theorem k_316 : (Jvm.Cond.lays "ShoulderHeirs$Choices" "ShoulderHeirs$Choices" "firstHas" "I") ∈ lw_tbl := List.mem_append_right _ (List.mem_of_getElem? (i := 316) (by decide +kernel))
theorem k_317 : (Jvm.Cond.soleField "ShoulderHeirs$Choices" "firstHas") ∈ lw_tbl := List.mem_append_right _ (List.mem_of_getElem? (i := 317) (by decide +kernel))
theorem k_318 : (Jvm.Cond.lays "ShoulderHeirs$Choices" "ShoulderHeirs$Choices" "otherHas" "I") ∈ lw_tbl := List.mem_append_right _ (List.mem_of_getElem? (i := 318) (by decide +kernel))
theorem k_319 : (Jvm.Cond.soleField "ShoulderHeirs$Choices" "otherHas") ∈ lw_tbl := List.mem_append_right _ (List.mem_of_getElem? (i := 319) (by decide +kernel))
theorem k_320 : (Jvm.Cond.superclass "ShoulderHeirs$Choices" "java/lang/Object") ∈ lw_tbl := List.mem_append_right _ (List.mem_of_getElem? (i := 320) (by decide +kernel))
theorem k_321 : (Jvm.Cond.stringRef "ShoulderHeirs" (97 : Nat) "s10,0;s8,3;s12,1;b6,0;b3,1;b9,2;b4,3;b4,3;m1;t0,0,9;t1,4,12;t2,10,20;t3,18,29;t4,18,29;x1,2;") ∈ lw_tbl := List.mem_append_right _ (List.mem_of_getElem? (i := 321) (by decide +kernel))
theorem k_322 : (Jvm.Cond.methodLink "ShoulderHeirs" (99 : Nat) ({ cls := "java/lang/String", name := "length", desc := "()I" } : Jvm.MethodName)) ∈ lw_tbl := List.mem_append_right _ (List.mem_of_getElem? (i := 322) (by decide +kernel))
theorem k_323 : (Jvm.Cond.instanceMethod ({ cls := "java/lang/String", name := "length", desc := "()I" } : Jvm.MethodName)) ∈ lw_tbl := List.mem_append_right _ (List.mem_of_getElem? (i := 323) (by decide +kernel))
theorem k_324 : (Jvm.Cond.selects "java/lang/String" ({ cls := "java/lang/String", name := "length", desc := "()I" } : Jvm.MethodName) ({ cls := "java/lang/String", name := "length", desc := "()I" } : Jvm.MethodName)) ∈ lw_tbl := List.mem_append_right _ (List.mem_of_getElem? (i := 324) (by decide +kernel))
theorem k_325 : (Jvm.Cond.code ({ cls := "java/lang/String", name := "length", desc := "()I" } : Jvm.MethodName) prog_14_method_54_code (1 : Nat) (Option.some Jvm.ClassFile.FieldType.int)) ∈ lw_tbl := List.mem_append_right _ (List.mem_of_getElem? (i := 325) (by decide +kernel))
theorem k_326 : (Jvm.Cond.methodLink "java/lang/String" (335 : Nat) ({ cls := "java/lang/String", name := "coder", desc := "()B" } : Jvm.MethodName)) ∈ lw_tbl := List.mem_append_right _ (List.mem_of_getElem? (i := 326) (by decide +kernel))
theorem k_327 : (Jvm.Cond.instanceMethod ({ cls := "java/lang/String", name := "coder", desc := "()B" } : Jvm.MethodName)) ∈ lw_tbl := List.mem_append_right _ (List.mem_of_getElem? (i := 327) (by decide +kernel))
theorem k_328 : (Jvm.Cond.selects "java/lang/String" ({ cls := "java/lang/String", name := "coder", desc := "()B" } : Jvm.MethodName) ({ cls := "java/lang/String", name := "coder", desc := "()B" } : Jvm.MethodName)) ∈ lw_tbl := List.mem_append_right _ (List.mem_of_getElem? (i := 328) (by decide +kernel))
theorem k_329 : (Jvm.Cond.code ({ cls := "java/lang/String", name := "coder", desc := "()B" } : Jvm.MethodName) prog_14_method_152_code (1 : Nat) (Option.some Jvm.ClassFile.FieldType.byte)) ∈ lw_tbl := List.mem_append_right _ (List.mem_of_getElem? (i := 329) (by decide +kernel))
theorem k_330 : (Jvm.Cond.fieldLink "java/lang/String" (38 : Nat) "java/lang/String" "COMPACT_STRINGS" "Z") ∈ lw_tbl := List.mem_append_right _ (List.mem_of_getElem? (i := 330) (by decide +kernel))
theorem k_331 : (Jvm.Cond.laysStatic "java/lang/String" "COMPACT_STRINGS" "Z") ∈ lw_tbl := List.mem_append_right _ (List.mem_of_getElem? (i := 331) (by decide +kernel))
theorem k_332 : (Jvm.Cond.methodLink "ShoulderHeirs" (105 : Nat) ({ cls := "java/lang/Math", name := "min", desc := "(II)I" } : Jvm.MethodName)) ∈ lw_tbl := List.mem_append_right _ (List.mem_of_getElem? (i := 332) (by decide +kernel))
theorem k_333 : (Jvm.Cond.static ({ cls := "java/lang/Math", name := "min", desc := "(II)I" } : Jvm.MethodName)) ∈ lw_tbl := List.mem_append_right _ (List.mem_of_getElem? (i := 333) (by decide +kernel))
theorem k_334 : (Jvm.Cond.code ({ cls := "java/lang/Math", name := "min", desc := "(II)I" } : Jvm.MethodName) prog_13_method_69_code (2 : Nat) (Option.some Jvm.ClassFile.FieldType.int)) ∈ lw_tbl := List.mem_append_right _ (List.mem_of_getElem? (i := 334) (by decide +kernel))
theorem k_335 : (Jvm.Cond.methodLink "ShoulderHeirs" (111 : Nat) ({ cls := "java/lang/String", name := "charAt", desc := "(I)C" } : Jvm.MethodName)) ∈ lw_tbl := List.mem_append_right _ (List.mem_of_getElem? (i := 335) (by decide +kernel))
theorem k_336 : (Jvm.Cond.instanceMethod ({ cls := "java/lang/String", name := "charAt", desc := "(I)C" } : Jvm.MethodName)) ∈ lw_tbl := List.mem_append_right _ (List.mem_of_getElem? (i := 336) (by decide +kernel))
theorem k_337 : (Jvm.Cond.selects "java/lang/String" ({ cls := "java/lang/String", name := "charAt", desc := "(I)C" } : Jvm.MethodName) ({ cls := "java/lang/String", name := "charAt", desc := "(I)C" } : Jvm.MethodName)) ∈ lw_tbl := List.mem_append_right _ (List.mem_of_getElem? (i := 337) (by decide +kernel))
theorem k_338 : (Jvm.Cond.code ({ cls := "java/lang/String", name := "charAt", desc := "(I)C" } : Jvm.MethodName) prog_14_method_56_code (2 : Nat) (Option.some Jvm.ClassFile.FieldType.char)) ∈ lw_tbl := List.mem_append_right _ (List.mem_of_getElem? (i := 338) (by decide +kernel))
theorem k_339 : (Jvm.Cond.methodLink "java/lang/String" (492 : Nat) ({ cls := "java/lang/String", name := "isLatin1", desc := "()Z" } : Jvm.MethodName)) ∈ lw_tbl := List.mem_append_right _ (List.mem_of_getElem? (i := 339) (by decide +kernel))
theorem k_340 : (Jvm.Cond.instanceMethod ({ cls := "java/lang/String", name := "isLatin1", desc := "()Z" } : Jvm.MethodName)) ∈ lw_tbl := List.mem_append_right _ (List.mem_of_getElem? (i := 340) (by decide +kernel))
theorem k_341 : (Jvm.Cond.selects "java/lang/String" ({ cls := "java/lang/String", name := "isLatin1", desc := "()Z" } : Jvm.MethodName) ({ cls := "java/lang/String", name := "isLatin1", desc := "()Z" } : Jvm.MethodName)) ∈ lw_tbl := List.mem_append_right _ (List.mem_of_getElem? (i := 341) (by decide +kernel))
theorem k_342 : (Jvm.Cond.code ({ cls := "java/lang/String", name := "isLatin1", desc := "()Z" } : Jvm.MethodName) prog_14_method_154_code (1 : Nat) (Option.some Jvm.ClassFile.FieldType.boolean)) ∈ lw_tbl := List.mem_append_right _ (List.mem_of_getElem? (i := 342) (by decide +kernel))
theorem k_343 : (Jvm.Cond.methodLink "java/lang/String" (495 : Nat) ({ cls := "java/lang/StringLatin1", name := "charAt", desc := "([BI)C" } : Jvm.MethodName)) ∈ lw_tbl := List.mem_append_right _ (List.mem_of_getElem? (i := 343) (by decide +kernel))
theorem k_344 : (Jvm.Cond.static ({ cls := "java/lang/StringLatin1", name := "charAt", desc := "([BI)C" } : Jvm.MethodName)) ∈ lw_tbl := List.mem_append_right _ (List.mem_of_getElem? (i := 344) (by decide +kernel))
theorem k_345 : (Jvm.Cond.code ({ cls := "java/lang/StringLatin1", name := "charAt", desc := "([BI)C" } : Jvm.MethodName) prog_15_method_2_code (2 : Nat) (Option.some Jvm.ClassFile.FieldType.char)) ∈ lw_tbl := List.mem_append_right _ (List.mem_of_getElem? (i := 345) (by decide +kernel))
theorem k_346 : (Jvm.Cond.methodLink "java/lang/StringLatin1" (9 : Nat) ({ cls := "java/lang/String", name := "checkIndex", desc := "(II)V" } : Jvm.MethodName)) ∈ lw_tbl := List.mem_append_right _ (List.mem_of_getElem? (i := 346) (by decide +kernel))
theorem k_347 : (Jvm.Cond.static ({ cls := "java/lang/String", name := "checkIndex", desc := "(II)V" } : Jvm.MethodName)) ∈ lw_tbl := List.mem_append_right _ (List.mem_of_getElem? (i := 347) (by decide +kernel))
theorem k_348 : (Jvm.Cond.code ({ cls := "java/lang/String", name := "checkIndex", desc := "(II)V" } : Jvm.MethodName) prog_14_method_155_code (2 : Nat) (Option.none : Option Jvm.ClassFile.FieldType)) ∈ lw_tbl := List.mem_append_right _ (List.mem_of_getElem? (i := 348) (by decide +kernel))
theorem k_349 : (Jvm.Cond.fieldLink "java/lang/String" (1053 : Nat) "jdk/internal/util/Preconditions" "SIOOBE_FORMATTER" "Ljava/util/function/BiFunction;") ∈ lw_tbl := List.mem_append_right _ (List.mem_of_getElem? (i := 349) (by decide +kernel))
theorem k_350 : (Jvm.Cond.laysStatic "jdk/internal/util/Preconditions" "SIOOBE_FORMATTER" "Ljava/util/function/BiFunction;") ∈ lw_tbl := List.mem_append_right _ (List.mem_of_getElem? (i := 350) (by decide +kernel))
theorem k_351 : (Jvm.Cond.methodLink "java/lang/String" (1059 : Nat) ({ cls := "jdk/internal/util/Preconditions", name := "checkIndex", desc := "(IILjava/util/function/BiFunction;)I" } : Jvm.MethodName)) ∈ lw_tbl := List.mem_append_right _ (List.mem_of_getElem? (i := 351) (by decide +kernel))
theorem k_352 : (Jvm.Cond.static ({ cls := "jdk/internal/util/Preconditions", name := "checkIndex", desc := "(IILjava/util/function/BiFunction;)I" } : Jvm.MethodName)) ∈ lw_tbl := List.mem_append_right _ (List.mem_of_getElem? (i := 352) (by decide +kernel))
theorem k_353 : (Jvm.Cond.code ({ cls := "jdk/internal/util/Preconditions", name := "checkIndex", desc := "(IILjava/util/function/BiFunction;)I" } : Jvm.MethodName) prog_18_method_11_code (3 : Nat) (Option.some Jvm.ClassFile.FieldType.int)) ∈ lw_tbl := List.mem_append_right _ (List.mem_of_getElem? (i := 353) (by decide +kernel))
theorem k_354 : (Jvm.Cond.methodLink "java/lang/String" (498 : Nat) ({ cls := "java/lang/StringUTF16", name := "charAt", desc := "([BI)C" } : Jvm.MethodName)) ∈ lw_tbl := List.mem_append_right _ (List.mem_of_getElem? (i := 354) (by decide +kernel))
theorem k_355 : (Jvm.Cond.static ({ cls := "java/lang/StringUTF16", name := "charAt", desc := "([BI)C" } : Jvm.MethodName)) ∈ lw_tbl := List.mem_append_right _ (List.mem_of_getElem? (i := 355) (by decide +kernel))
theorem k_356 : (Jvm.Cond.code ({ cls := "java/lang/StringUTF16", name := "charAt", desc := "([BI)C" } : Jvm.MethodName) prog_16_method_83_code (2 : Nat) (Option.some Jvm.ClassFile.FieldType.char)) ∈ lw_tbl := List.mem_append_right _ (List.mem_of_getElem? (i := 356) (by decide +kernel))
theorem k_357 : (Jvm.Cond.methodLink "java/lang/StringUTF16" (67 : Nat) ({ cls := "java/lang/StringUTF16", name := "checkIndex", desc := "(I[B)V" } : Jvm.MethodName)) ∈ lw_tbl := List.mem_append_right _ (List.mem_of_getElem? (i := 357) (by decide +kernel))
theorem k_358 : (Jvm.Cond.static ({ cls := "java/lang/StringUTF16", name := "checkIndex", desc := "(I[B)V" } : Jvm.MethodName)) ∈ lw_tbl := List.mem_append_right _ (List.mem_of_getElem? (i := 358) (by decide +kernel))
theorem k_359 : (Jvm.Cond.code ({ cls := "java/lang/StringUTF16", name := "checkIndex", desc := "(I[B)V" } : Jvm.MethodName) prog_16_method_91_code (2 : Nat) (Option.none : Option Jvm.ClassFile.FieldType)) ∈ lw_tbl := List.mem_append_right _ (List.mem_of_getElem? (i := 359) (by decide +kernel))
theorem k_360 : (Jvm.Cond.methodLink "java/lang/StringUTF16" (48 : Nat) ({ cls := "java/lang/StringUTF16", name := "length", desc := "([B)I" } : Jvm.MethodName)) ∈ lw_tbl := List.mem_append_right _ (List.mem_of_getElem? (i := 360) (by decide +kernel))
theorem k_361 : (Jvm.Cond.static ({ cls := "java/lang/StringUTF16", name := "length", desc := "([B)I" } : Jvm.MethodName)) ∈ lw_tbl := List.mem_append_right _ (List.mem_of_getElem? (i := 361) (by decide +kernel))
theorem k_362 : (Jvm.Cond.code ({ cls := "java/lang/StringUTF16", name := "length", desc := "([B)I" } : Jvm.MethodName) prog_16_method_6_code (1 : Nat) (Option.some Jvm.ClassFile.FieldType.int)) ∈ lw_tbl := List.mem_append_right _ (List.mem_of_getElem? (i := 362) (by decide +kernel))
theorem k_363 : (Jvm.Cond.methodLink "java/lang/StringUTF16" (414 : Nat) ({ cls := "java/lang/String", name := "checkIndex", desc := "(II)V" } : Jvm.MethodName)) ∈ lw_tbl := List.mem_append_right _ (List.mem_of_getElem? (i := 363) (by decide +kernel))
theorem k_364 : (Jvm.Cond.methodLink "java/lang/StringUTF16" (71 : Nat) ({ cls := "java/lang/StringUTF16", name := "getChar", desc := "([BI)C" } : Jvm.MethodName)) ∈ lw_tbl := List.mem_append_right _ (List.mem_of_getElem? (i := 364) (by decide +kernel))
theorem k_365 : (Jvm.Cond.static ({ cls := "java/lang/StringUTF16", name := "getChar", desc := "([BI)C" } : Jvm.MethodName)) ∈ lw_tbl := List.mem_append_right _ (List.mem_of_getElem? (i := 365) (by decide +kernel))
theorem k_366 : (Jvm.Cond.code ({ cls := "java/lang/StringUTF16", name := "getChar", desc := "([BI)C" } : Jvm.MethodName) prog_16_method_5_code (2 : Nat) (Option.some Jvm.ClassFile.FieldType.char)) ∈ lw_tbl := List.mem_append_right _ (List.mem_of_getElem? (i := 366) (by decide +kernel))
theorem k_367 : (Jvm.Cond.fieldLink "java/lang/StringUTF16" (44 : Nat) "java/lang/StringUTF16" "$assertionsDisabled" "Z") ∈ lw_tbl := List.mem_append_right _ (List.mem_of_getElem? (i := 367) (by decide +kernel))
theorem k_368 : (Jvm.Cond.laysStatic "java/lang/StringUTF16" "$assertionsDisabled" "Z") ∈ lw_tbl := List.mem_append_right _ (List.mem_of_getElem? (i := 368) (by decide +kernel))
theorem k_369 : (Jvm.Cond.fieldLink "java/lang/StringUTF16" (59 : Nat) "java/lang/StringUTF16" "HI_BYTE_SHIFT" "I") ∈ lw_tbl := List.mem_append_right _ (List.mem_of_getElem? (i := 369) (by decide +kernel))
theorem k_370 : (Jvm.Cond.laysStatic "java/lang/StringUTF16" "HI_BYTE_SHIFT" "I") ∈ lw_tbl := List.mem_append_right _ (List.mem_of_getElem? (i := 370) (by decide +kernel))
theorem k_371 : (Jvm.Cond.fieldLink "java/lang/StringUTF16" (63 : Nat) "java/lang/StringUTF16" "LO_BYTE_SHIFT" "I") ∈ lw_tbl := List.mem_append_right _ (List.mem_of_getElem? (i := 371) (by decide +kernel))
theorem k_372 : (Jvm.Cond.laysStatic "java/lang/StringUTF16" "LO_BYTE_SHIFT" "I") ∈ lw_tbl := List.mem_append_right _ (List.mem_of_getElem? (i := 372) (by decide +kernel))
theorem k_373 : (Jvm.Cond.methodLink "ShoulderHeirs" (118 : Nat) ({ cls := "ShoulderHeirs", name := "layText", desc := "()I" } : Jvm.MethodName)) ∈ lw_tbl := List.mem_append_right _ (List.mem_of_getElem? (i := 373) (by decide +kernel))
theorem k_374 : (Jvm.Cond.privateMethod ({ cls := "ShoulderHeirs", name := "layText", desc := "()I" } : Jvm.MethodName)) ∈ lw_tbl := List.mem_append_right _ (List.mem_of_getElem? (i := 374) (by decide +kernel))
theorem k_375 : (Jvm.Cond.instanceMethod ({ cls := "ShoulderHeirs", name := "layText", desc := "()I" } : Jvm.MethodName)) ∈ lw_tbl := List.mem_append_right _ (List.mem_of_getElem? (i := 375) (by decide +kernel))
theorem k_376 : (Jvm.Cond.code ({ cls := "ShoulderHeirs", name := "layText", desc := "()I" } : Jvm.MethodName) prog_1_method_30_code (1 : Nat) (Option.some Jvm.ClassFile.FieldType.int)) ∈ lw_tbl := List.mem_append_right _ (List.mem_of_getElem? (i := 376) (by decide +kernel))
theorem k_377 : (Jvm.Cond.methodLink "ShoulderHeirs" (125 : Nat) ({ cls := "ShoulderHeirs$Reader", name := "firstFault", desc := "([CI)I" } : Jvm.MethodName)) ∈ lw_tbl := List.mem_append_right _ (List.mem_of_getElem? (i := 377) (by decide +kernel))
theorem k_378 : (Jvm.Cond.instanceMethod ({ cls := "ShoulderHeirs$Reader", name := "firstFault", desc := "([CI)I" } : Jvm.MethodName)) ∈ lw_tbl := List.mem_append_right _ (List.mem_of_getElem? (i := 378) (by decide +kernel))
theorem k_379 : (Jvm.Cond.selects "ShoulderHeirs$Reader" ({ cls := "ShoulderHeirs$Reader", name := "firstFault", desc := "([CI)I" } : Jvm.MethodName) ({ cls := "ShoulderHeirs$Reader", name := "firstFault", desc := "([CI)I" } : Jvm.MethodName)) ∈ lw_tbl := List.mem_append_right _ (List.mem_of_getElem? (i := 379) (by decide +kernel))
theorem k_380 : (Jvm.Cond.code ({ cls := "ShoulderHeirs$Reader", name := "firstFault", desc := "([CI)I" } : Jvm.MethodName) prog_6_method_2_code (6 : Nat) (Option.some Jvm.ClassFile.FieldType.int)) ∈ lw_tbl := List.mem_append_right _ (List.mem_of_getElem? (i := 380) (by decide +kernel))
theorem k_381 : (Jvm.Cond.methodLink "ShoulderHeirs$Reader" (29 : Nat) ({ cls := "ShoulderHeirs$Funeral", name := "clear", desc := "()V" } : Jvm.MethodName)) ∈ lw_tbl := List.mem_append_right _ (List.mem_of_getElem? (i := 381) (by decide +kernel))
theorem k_382 : (Jvm.Cond.instanceMethod ({ cls := "ShoulderHeirs$Funeral", name := "clear", desc := "()V" } : Jvm.MethodName)) ∈ lw_tbl := List.mem_append_right _ (List.mem_of_getElem? (i := 382) (by decide +kernel))
theorem k_383 : (Jvm.Cond.selects "ShoulderHeirs$Funeral" ({ cls := "ShoulderHeirs$Funeral", name := "clear", desc := "()V" } : Jvm.MethodName) ({ cls := "ShoulderHeirs$Funeral", name := "clear", desc := "()V" } : Jvm.MethodName)) ∈ lw_tbl := List.mem_append_right _ (List.mem_of_getElem? (i := 383) (by decide +kernel))
theorem k_384 : (Jvm.Cond.code ({ cls := "ShoulderHeirs$Funeral", name := "clear", desc := "()V" } : Jvm.MethodName) prog_3_method_2_code (1 : Nat) (Option.none : Option Jvm.ClassFile.FieldType)) ∈ lw_tbl := List.mem_append_right _ (List.mem_of_getElem? (i := 384) (by decide +kernel))
theorem k_385 : (Jvm.Cond.methodLink "ShoulderHeirs$Reader" (36 : Nat) ({ cls := "ShoulderHeirs$Reader", name := "numbersOf", desc := "(I)I" } : Jvm.MethodName)) ∈ lw_tbl := List.mem_append_right _ (List.mem_of_getElem? (i := 385) (by decide +kernel))
theorem k_386 : (Jvm.Cond.static ({ cls := "ShoulderHeirs$Reader", name := "numbersOf", desc := "(I)I" } : Jvm.MethodName)) ∈ lw_tbl := List.mem_append_right _ (List.mem_of_getElem? (i := 386) (by decide +kernel))
theorem k_387 : (Jvm.Cond.code ({ cls := "ShoulderHeirs$Reader", name := "numbersOf", desc := "(I)I" } : Jvm.MethodName) prog_6_method_3_code (1 : Nat) (Option.some Jvm.ClassFile.FieldType.int)) ∈ lw_tbl := List.mem_append_right _ (List.mem_of_getElem? (i := 387) (by decide +kernel))
theorem k_388 : (Jvm.Cond.methodLink "ShoulderHeirs$Reader" (40 : Nat) ({ cls := "ShoulderHeirs$Reader", name := "readNumbers", desc := "([CIII)I" } : Jvm.MethodName)) ∈ lw_tbl := List.mem_append_right _ (List.mem_of_getElem? (i := 388) (by decide +kernel))
theorem k_389 : (Jvm.Cond.privateMethod ({ cls := "ShoulderHeirs$Reader", name := "readNumbers", desc := "([CIII)I" } : Jvm.MethodName)) ∈ lw_tbl := List.mem_append_right _ (List.mem_of_getElem? (i := 389) (by decide +kernel))
theorem k_390 : (Jvm.Cond.instanceMethod ({ cls := "ShoulderHeirs$Reader", name := "readNumbers", desc := "([CIII)I" } : Jvm.MethodName)) ∈ lw_tbl := List.mem_append_right _ (List.mem_of_getElem? (i := 390) (by decide +kernel))
theorem k_391 : (Jvm.Cond.code ({ cls := "ShoulderHeirs$Reader", name := "readNumbers", desc := "([CIII)I" } : Jvm.MethodName) prog_6_method_4_code (9 : Nat) (Option.some Jvm.ClassFile.FieldType.int)) ∈ lw_tbl := List.mem_append_right _ (List.mem_of_getElem? (i := 391) (by decide +kernel))
theorem k_392 : (Jvm.Cond.methodLinkNest "ShoulderHeirs$Reader" (48 : Nat) ({ cls := "ShoulderHeirs", name := "within", desc := "(III)Z" } : Jvm.MethodName) "ShoulderHeirs") ∈ lw_tbl := List.mem_append_right _ (List.mem_of_getElem? (i := 392) (by decide +kernel))
theorem k_393 : (Jvm.Cond.static ({ cls := "ShoulderHeirs", name := "within", desc := "(III)Z" } : Jvm.MethodName)) ∈ lw_tbl := List.mem_append_right _ (List.mem_of_getElem? (i := 393) (by decide +kernel))
theorem k_394 : (Jvm.Cond.code ({ cls := "ShoulderHeirs", name := "within", desc := "(III)Z" } : Jvm.MethodName) prog_1_method_36_code (3 : Nat) (Option.some Jvm.ClassFile.FieldType.boolean)) ∈ lw_tbl := List.mem_append_right _ (List.mem_of_getElem? (i := 394) (by decide +kernel))
theorem k_395 : (Jvm.Cond.methodLink "ShoulderHeirs$Reader" (44 : Nat) ({ cls := "ShoulderHeirs$Reader", name := "take", desc := "(I)Z" } : Jvm.MethodName)) ∈ lw_tbl := List.mem_append_right _ (List.mem_of_getElem? (i := 395) (by decide +kernel))
theorem k_396 : (Jvm.Cond.privateMethod ({ cls := "ShoulderHeirs$Reader", name := "take", desc := "(I)Z" } : Jvm.MethodName)) ∈ lw_tbl := List.mem_append_right _ (List.mem_of_getElem? (i := 396) (by decide +kernel))
theorem k_397 : (Jvm.Cond.instanceMethod ({ cls := "ShoulderHeirs$Reader", name := "take", desc := "(I)Z" } : Jvm.MethodName)) ∈ lw_tbl := List.mem_append_right _ (List.mem_of_getElem? (i := 397) (by decide +kernel))
theorem k_398 : (Jvm.Cond.code ({ cls := "ShoulderHeirs$Reader", name := "take", desc := "(I)Z" } : Jvm.MethodName) prog_6_method_5_code (2 : Nat) (Option.some Jvm.ClassFile.FieldType.boolean)) ∈ lw_tbl := List.mem_append_right _ (List.mem_of_getElem? (i := 398) (by decide +kernel))
theorem k_399 : (Jvm.Cond.methodLink "ShoulderHeirs$Reader" (52 : Nat) ({ cls := "ShoulderHeirs$Funeral", name := "addStretch", desc := "(II)Z" } : Jvm.MethodName)) ∈ lw_tbl := List.mem_append_right _ (List.mem_of_getElem? (i := 399) (by decide +kernel))
theorem k_400 : (Jvm.Cond.instanceMethod ({ cls := "ShoulderHeirs$Funeral", name := "addStretch", desc := "(II)Z" } : Jvm.MethodName)) ∈ lw_tbl := List.mem_append_right _ (List.mem_of_getElem? (i := 400) (by decide +kernel))
theorem k_401 : (Jvm.Cond.selects "ShoulderHeirs$Funeral" ({ cls := "ShoulderHeirs$Funeral", name := "addStretch", desc := "(II)Z" } : Jvm.MethodName) ({ cls := "ShoulderHeirs$Funeral", name := "addStretch", desc := "(II)Z" } : Jvm.MethodName)) ∈ lw_tbl := List.mem_append_right _ (List.mem_of_getElem? (i := 401) (by decide +kernel))
theorem k_402 : (Jvm.Cond.code ({ cls := "ShoulderHeirs$Funeral", name := "addStretch", desc := "(II)Z" } : Jvm.MethodName) prog_3_method_3_code (3 : Nat) (Option.some Jvm.ClassFile.FieldType.boolean)) ∈ lw_tbl := List.mem_append_right _ (List.mem_of_getElem? (i := 402) (by decide +kernel))
theorem k_403 : (Jvm.Cond.methodLinkNest "ShoulderHeirs$Funeral" (46 : Nat) ({ cls := "ShoulderHeirs", name := "within", desc := "(III)Z" } : Jvm.MethodName) "ShoulderHeirs") ∈ lw_tbl := List.mem_append_right _ (List.mem_of_getElem? (i := 403) (by decide +kernel))
theorem k_404 : (Jvm.Cond.methodLink "ShoulderHeirs$Reader" (56 : Nat) ({ cls := "ShoulderHeirs$Funeral", name := "addBearer", desc := "(II)Z" } : Jvm.MethodName)) ∈ lw_tbl := List.mem_append_right _ (List.mem_of_getElem? (i := 404) (by decide +kernel))
theorem k_405 : (Jvm.Cond.instanceMethod ({ cls := "ShoulderHeirs$Funeral", name := "addBearer", desc := "(II)Z" } : Jvm.MethodName)) ∈ lw_tbl := List.mem_append_right _ (List.mem_of_getElem? (i := 405) (by decide +kernel))
theorem k_406 : (Jvm.Cond.selects "ShoulderHeirs$Funeral" ({ cls := "ShoulderHeirs$Funeral", name := "addBearer", desc := "(II)Z" } : Jvm.MethodName) ({ cls := "ShoulderHeirs$Funeral", name := "addBearer", desc := "(II)Z" } : Jvm.MethodName)) ∈ lw_tbl := List.mem_append_right _ (List.mem_of_getElem? (i := 406) (by decide +kernel))
theorem k_407 : (Jvm.Cond.code ({ cls := "ShoulderHeirs$Funeral", name := "addBearer", desc := "(II)Z" } : Jvm.MethodName) prog_3_method_4_code (3 : Nat) (Option.some Jvm.ClassFile.FieldType.boolean)) ∈ lw_tbl := List.mem_append_right _ (List.mem_of_getElem? (i := 407) (by decide +kernel))
theorem k_408 : (Jvm.Cond.methodLink "ShoulderHeirs$Reader" (59 : Nat) ({ cls := "ShoulderHeirs$Funeral", name := "setMust", desc := "(I)Z" } : Jvm.MethodName)) ∈ lw_tbl := List.mem_append_right _ (List.mem_of_getElem? (i := 408) (by decide +kernel))
theorem k_409 : (Jvm.Cond.instanceMethod ({ cls := "ShoulderHeirs$Funeral", name := "setMust", desc := "(I)Z" } : Jvm.MethodName)) ∈ lw_tbl := List.mem_append_right _ (List.mem_of_getElem? (i := 409) (by decide +kernel))
theorem k_410 : (Jvm.Cond.selects "ShoulderHeirs$Funeral" ({ cls := "ShoulderHeirs$Funeral", name := "setMust", desc := "(I)Z" } : Jvm.MethodName) ({ cls := "ShoulderHeirs$Funeral", name := "setMust", desc := "(I)Z" } : Jvm.MethodName)) ∈ lw_tbl := List.mem_append_right _ (List.mem_of_getElem? (i := 410) (by decide +kernel))
theorem k_411 : (Jvm.Cond.code ({ cls := "ShoulderHeirs$Funeral", name := "setMust", desc := "(I)Z" } : Jvm.MethodName) prog_3_method_5_code (2 : Nat) (Option.some Jvm.ClassFile.FieldType.boolean)) ∈ lw_tbl := List.mem_append_right _ (List.mem_of_getElem? (i := 411) (by decide +kernel))
theorem k_412 : (Jvm.Cond.methodLink "ShoulderHeirs$Reader" (62 : Nat) ({ cls := "ShoulderHeirs$Funeral", name := "setWet", desc := "(I)Z" } : Jvm.MethodName)) ∈ lw_tbl := List.mem_append_right _ (List.mem_of_getElem? (i := 412) (by decide +kernel))
theorem k_413 : (Jvm.Cond.instanceMethod ({ cls := "ShoulderHeirs$Funeral", name := "setWet", desc := "(I)Z" } : Jvm.MethodName)) ∈ lw_tbl := List.mem_append_right _ (List.mem_of_getElem? (i := 413) (by decide +kernel))
theorem k_414 : (Jvm.Cond.selects "ShoulderHeirs$Funeral" ({ cls := "ShoulderHeirs$Funeral", name := "setWet", desc := "(I)Z" } : Jvm.MethodName) ({ cls := "ShoulderHeirs$Funeral", name := "setWet", desc := "(I)Z" } : Jvm.MethodName)) ∈ lw_tbl := List.mem_append_right _ (List.mem_of_getElem? (i := 414) (by decide +kernel))
theorem k_415 : (Jvm.Cond.code ({ cls := "ShoulderHeirs$Funeral", name := "setWet", desc := "(I)Z" } : Jvm.MethodName) prog_3_method_6_code (2 : Nat) (Option.some Jvm.ClassFile.FieldType.boolean)) ∈ lw_tbl := List.mem_append_right _ (List.mem_of_getElem? (i := 415) (by decide +kernel))
theorem k_416 : (Jvm.Cond.methodLink "ShoulderHeirs$Reader" (65 : Nat) ({ cls := "ShoulderHeirs$Funeral", name := "hasBearer", desc := "(I)Z" } : Jvm.MethodName)) ∈ lw_tbl := List.mem_append_right _ (List.mem_of_getElem? (i := 416) (by decide +kernel))
theorem k_417 : (Jvm.Cond.instanceMethod ({ cls := "ShoulderHeirs$Funeral", name := "hasBearer", desc := "(I)Z" } : Jvm.MethodName)) ∈ lw_tbl := List.mem_append_right _ (List.mem_of_getElem? (i := 417) (by decide +kernel))
theorem k_418 : (Jvm.Cond.selects "ShoulderHeirs$Funeral" ({ cls := "ShoulderHeirs$Funeral", name := "hasBearer", desc := "(I)Z" } : Jvm.MethodName) ({ cls := "ShoulderHeirs$Funeral", name := "hasBearer", desc := "(I)Z" } : Jvm.MethodName)) ∈ lw_tbl := List.mem_append_right _ (List.mem_of_getElem? (i := 418) (by decide +kernel))
theorem k_419 : (Jvm.Cond.code ({ cls := "ShoulderHeirs$Funeral", name := "hasBearer", desc := "(I)Z" } : Jvm.MethodName) prog_3_method_13_code (2 : Nat) (Option.some Jvm.ClassFile.FieldType.boolean)) ∈ lw_tbl := List.mem_append_right _ (List.mem_of_getElem? (i := 419) (by decide +kernel))
theorem k_420 : (Jvm.Cond.methodLink "ShoulderHeirs$Reader" (68 : Nat) ({ cls := "ShoulderHeirs$Turns", name := "add", desc := "(III)Z" } : Jvm.MethodName)) ∈ lw_tbl := List.mem_append_right _ (List.mem_of_getElem? (i := 420) (by decide +kernel))
theorem k_421 : (Jvm.Cond.instanceMethod ({ cls := "ShoulderHeirs$Turns", name := "add", desc := "(III)Z" } : Jvm.MethodName)) ∈ lw_tbl := List.mem_append_right _ (List.mem_of_getElem? (i := 421) (by decide +kernel))
theorem k_422 : (Jvm.Cond.selects "ShoulderHeirs$Turns" ({ cls := "ShoulderHeirs$Turns", name := "add", desc := "(III)Z" } : Jvm.MethodName) ({ cls := "ShoulderHeirs$Turns", name := "add", desc := "(III)Z" } : Jvm.MethodName)) ∈ lw_tbl := List.mem_append_right _ (List.mem_of_getElem? (i := 422) (by decide +kernel))
theorem k_423 : (Jvm.Cond.code ({ cls := "ShoulderHeirs$Turns", name := "add", desc := "(III)Z" } : Jvm.MethodName) prog_8_method_4_code (4 : Nat) (Option.some Jvm.ClassFile.FieldType.boolean)) ∈ lw_tbl := List.mem_append_right _ (List.mem_of_getElem? (i := 423) (by decide +kernel))
theorem k_424 : (Jvm.Cond.methodLink "ShoulderHeirs$Turns" (25 : Nat) ({ cls := "ShoulderHeirs$Turns", name := "isFull", desc := "()Z" } : Jvm.MethodName)) ∈ lw_tbl := List.mem_append_right _ (List.mem_of_getElem? (i := 424) (by decide +kernel))
theorem k_425 : (Jvm.Cond.instanceMethod ({ cls := "ShoulderHeirs$Turns", name := "isFull", desc := "()Z" } : Jvm.MethodName)) ∈ lw_tbl := List.mem_append_right _ (List.mem_of_getElem? (i := 425) (by decide +kernel))
theorem k_426 : (Jvm.Cond.selects "ShoulderHeirs$Turns" ({ cls := "ShoulderHeirs$Turns", name := "isFull", desc := "()Z" } : Jvm.MethodName) ({ cls := "ShoulderHeirs$Turns", name := "isFull", desc := "()Z" } : Jvm.MethodName)) ∈ lw_tbl := List.mem_append_right _ (List.mem_of_getElem? (i := 426) (by decide +kernel))
theorem k_427 : (Jvm.Cond.code ({ cls := "ShoulderHeirs$Turns", name := "isFull", desc := "()Z" } : Jvm.MethodName) prog_8_method_3_code (1 : Nat) (Option.some Jvm.ClassFile.FieldType.boolean)) ∈ lw_tbl := List.mem_append_right _ (List.mem_of_getElem? (i := 427) (by decide +kernel))
theorem k_428 : (Jvm.Cond.methodLink "ShoulderHeirs$Reader" (71 : Nat) ({ cls := "ShoulderHeirs$Funeral", name := "setPrice", desc := "(II)Z" } : Jvm.MethodName)) ∈ lw_tbl := List.mem_append_right _ (List.mem_of_getElem? (i := 428) (by decide +kernel))
theorem k_429 : (Jvm.Cond.instanceMethod ({ cls := "ShoulderHeirs$Funeral", name := "setPrice", desc := "(II)Z" } : Jvm.MethodName)) ∈ lw_tbl := List.mem_append_right _ (List.mem_of_getElem? (i := 429) (by decide +kernel))
theorem k_430 : (Jvm.Cond.selects "ShoulderHeirs$Funeral" ({ cls := "ShoulderHeirs$Funeral", name := "setPrice", desc := "(II)Z" } : Jvm.MethodName) ({ cls := "ShoulderHeirs$Funeral", name := "setPrice", desc := "(II)Z" } : Jvm.MethodName)) ∈ lw_tbl := List.mem_append_right _ (List.mem_of_getElem? (i := 430) (by decide +kernel))
theorem k_431 : (Jvm.Cond.code ({ cls := "ShoulderHeirs$Funeral", name := "setPrice", desc := "(II)Z" } : Jvm.MethodName) prog_3_method_7_code (3 : Nat) (Option.some Jvm.ClassFile.FieldType.boolean)) ∈ lw_tbl := List.mem_append_right _ (List.mem_of_getElem? (i := 431) (by decide +kernel))
theorem k_432 : (Jvm.Cond.methodLink "ShoulderHeirs$Funeral" (50 : Nat) ({ cls := "ShoulderHeirs$Funeral", name := "hasStretch", desc := "(I)Z" } : Jvm.MethodName)) ∈ lw_tbl := List.mem_append_right _ (List.mem_of_getElem? (i := 432) (by decide +kernel))
theorem k_433 : (Jvm.Cond.instanceMethod ({ cls := "ShoulderHeirs$Funeral", name := "hasStretch", desc := "(I)Z" } : Jvm.MethodName)) ∈ lw_tbl := List.mem_append_right _ (List.mem_of_getElem? (i := 433) (by decide +kernel))
theorem k_434 : (Jvm.Cond.selects "ShoulderHeirs$Funeral" ({ cls := "ShoulderHeirs$Funeral", name := "hasStretch", desc := "(I)Z" } : Jvm.MethodName) ({ cls := "ShoulderHeirs$Funeral", name := "hasStretch", desc := "(I)Z" } : Jvm.MethodName)) ∈ lw_tbl := List.mem_append_right _ (List.mem_of_getElem? (i := 434) (by decide +kernel))
theorem k_435 : (Jvm.Cond.code ({ cls := "ShoulderHeirs$Funeral", name := "hasStretch", desc := "(I)Z" } : Jvm.MethodName) prog_3_method_11_code (2 : Nat) (Option.some Jvm.ClassFile.FieldType.boolean)) ∈ lw_tbl := List.mem_append_right _ (List.mem_of_getElem? (i := 435) (by decide +kernel))
theorem k_436 : (Jvm.Cond.methodLink "ShoulderHeirs" (247 : Nat) ({ cls := "ShoulderHeirs$Funeral", name := "copy", desc := "(LShoulderHeirs$Funeral;)V" } : Jvm.MethodName)) ∈ lw_tbl := List.mem_append_right _ (List.mem_of_getElem? (i := 436) (by decide +kernel))
theorem k_437 : (Jvm.Cond.instanceMethod ({ cls := "ShoulderHeirs$Funeral", name := "copy", desc := "(LShoulderHeirs$Funeral;)V" } : Jvm.MethodName)) ∈ lw_tbl := List.mem_append_right _ (List.mem_of_getElem? (i := 437) (by decide +kernel))
theorem k_438 : (Jvm.Cond.selects "ShoulderHeirs$Funeral" ({ cls := "ShoulderHeirs$Funeral", name := "copy", desc := "(LShoulderHeirs$Funeral;)V" } : Jvm.MethodName) ({ cls := "ShoulderHeirs$Funeral", name := "copy", desc := "(LShoulderHeirs$Funeral;)V" } : Jvm.MethodName)) ∈ lw_tbl := List.mem_append_right _ (List.mem_of_getElem? (i := 438) (by decide +kernel))
theorem k_439 : (Jvm.Cond.code ({ cls := "ShoulderHeirs$Funeral", name := "copy", desc := "(LShoulderHeirs$Funeral;)V" } : Jvm.MethodName) prog_3_method_8_code (2 : Nat) (Option.none : Option Jvm.ClassFile.FieldType)) ∈ lw_tbl := List.mem_append_right _ (List.mem_of_getElem? (i := 439) (by decide +kernel))
theorem k_440 : (Jvm.Cond.methodLink "ShoulderHeirs$Funeral" (54 : Nat) ({ cls := "java/lang/System", name := "arraycopy", desc := "(Ljava/lang/Object;ILjava/lang/Object;II)V" } : Jvm.MethodName)) ∈ lw_tbl := List.mem_append_right _ (List.mem_of_getElem? (i := 440) (by decide +kernel))
theorem k_441 : (Jvm.Cond.static ({ cls := "java/lang/System", name := "arraycopy", desc := "(Ljava/lang/Object;ILjava/lang/Object;II)V" } : Jvm.MethodName)) ∈ lw_tbl := List.mem_append_right _ (List.mem_of_getElem? (i := 441) (by decide +kernel))
theorem k_442 : (Jvm.Cond.native ({ cls := "java/lang/System", name := "arraycopy", desc := "(Ljava/lang/Object;ILjava/lang/Object;II)V" } : Jvm.MethodName)) ∈ lw_tbl := List.mem_append_right _ (List.mem_of_getElem? (i := 442) (by decide +kernel))
theorem k_443 : (Jvm.Cond.methodLink "ShoulderHeirs$Funeral" (60 : Nat) ({ cls := "ShoulderHeirs$Funeral", name := "markYards", desc := "()V" } : Jvm.MethodName)) ∈ lw_tbl := List.mem_append_right _ (List.mem_of_getElem? (i := 443) (by decide +kernel))
theorem k_444 : (Jvm.Cond.privateMethod ({ cls := "ShoulderHeirs$Funeral", name := "markYards", desc := "()V" } : Jvm.MethodName)) ∈ lw_tbl := List.mem_append_right _ (List.mem_of_getElem? (i := 444) (by decide +kernel))
theorem k_445 : (Jvm.Cond.instanceMethod ({ cls := "ShoulderHeirs$Funeral", name := "markYards", desc := "()V" } : Jvm.MethodName)) ∈ lw_tbl := List.mem_append_right _ (List.mem_of_getElem? (i := 445) (by decide +kernel))
theorem k_446 : (Jvm.Cond.code ({ cls := "ShoulderHeirs$Funeral", name := "markYards", desc := "()V" } : Jvm.MethodName) prog_3_method_10_code (4 : Nat) (Option.none : Option Jvm.ClassFile.FieldType)) ∈ lw_tbl := List.mem_append_right _ (List.mem_of_getElem? (i := 446) (by decide +kernel))
theorem k_447 : (Jvm.Cond.methodLink "ShoulderHeirs" (303 : Nat) ({ cls := "ShoulderHeirs$Turns", name := "copy", desc := "(LShoulderHeirs$Turns;)V" } : Jvm.MethodName)) ∈ lw_tbl := List.mem_append_right _ (List.mem_of_getElem? (i := 447) (by decide +kernel))
theorem k_448 : (Jvm.Cond.instanceMethod ({ cls := "ShoulderHeirs$Turns", name := "copy", desc := "(LShoulderHeirs$Turns;)V" } : Jvm.MethodName)) ∈ lw_tbl := List.mem_append_right _ (List.mem_of_getElem? (i := 448) (by decide +kernel))
theorem k_449 : (Jvm.Cond.selects "ShoulderHeirs$Turns" ({ cls := "ShoulderHeirs$Turns", name := "copy", desc := "(LShoulderHeirs$Turns;)V" } : Jvm.MethodName) ({ cls := "ShoulderHeirs$Turns", name := "copy", desc := "(LShoulderHeirs$Turns;)V" } : Jvm.MethodName)) ∈ lw_tbl := List.mem_append_right _ (List.mem_of_getElem? (i := 449) (by decide +kernel))
theorem k_450 : (Jvm.Cond.code ({ cls := "ShoulderHeirs$Turns", name := "copy", desc := "(LShoulderHeirs$Turns;)V" } : Jvm.MethodName) prog_8_method_6_code (2 : Nat) (Option.none : Option Jvm.ClassFile.FieldType)) ∈ lw_tbl := List.mem_append_right _ (List.mem_of_getElem? (i := 450) (by decide +kernel))
theorem k_451 : (Jvm.Cond.methodLink "ShoulderHeirs$Turns" (29 : Nat) ({ cls := "java/lang/System", name := "arraycopy", desc := "(Ljava/lang/Object;ILjava/lang/Object;II)V" } : Jvm.MethodName)) ∈ lw_tbl := List.mem_append_right _ (List.mem_of_getElem? (i := 451) (by decide +kernel))
theorem k_452 : (Jvm.Cond.methodLink "ShoulderHeirs" (200 : Nat) ({ cls := "ShoulderHeirs", name := "settle", desc := "()V" } : Jvm.MethodName)) ∈ lw_tbl := List.mem_append_right _ (List.mem_of_getElem? (i := 452) (by decide +kernel))
theorem k_453 : (Jvm.Cond.privateMethod ({ cls := "ShoulderHeirs", name := "settle", desc := "()V" } : Jvm.MethodName)) ∈ lw_tbl := List.mem_append_right _ (List.mem_of_getElem? (i := 453) (by decide +kernel))
theorem k_454 : (Jvm.Cond.instanceMethod ({ cls := "ShoulderHeirs", name := "settle", desc := "()V" } : Jvm.MethodName)) ∈ lw_tbl := List.mem_append_right _ (List.mem_of_getElem? (i := 454) (by decide +kernel))
theorem k_455 : (Jvm.Cond.code ({ cls := "ShoulderHeirs", name := "settle", desc := "()V" } : Jvm.MethodName) prog_1_method_31_code (1 : Nat) (Option.none : Option Jvm.ClassFile.FieldType)) ∈ lw_tbl := List.mem_append_right _ (List.mem_of_getElem? (i := 455) (by decide +kernel))
theorem k_456 : (Jvm.Cond.methodLink "ShoulderHeirs" (305 : Nat) ({ cls := "ShoulderHeirs$Turns", name := "tellDuty", desc := "(II[I)V" } : Jvm.MethodName)) ∈ lw_tbl := List.mem_append_right _ (List.mem_of_getElem? (i := 456) (by decide +kernel))
theorem k_457 : (Jvm.Cond.instanceMethod ({ cls := "ShoulderHeirs$Turns", name := "tellDuty", desc := "(II[I)V" } : Jvm.MethodName)) ∈ lw_tbl := List.mem_append_right _ (List.mem_of_getElem? (i := 457) (by decide +kernel))
theorem k_458 : (Jvm.Cond.selects "ShoulderHeirs$Turns" ({ cls := "ShoulderHeirs$Turns", name := "tellDuty", desc := "(II[I)V" } : Jvm.MethodName) ({ cls := "ShoulderHeirs$Turns", name := "tellDuty", desc := "(II[I)V" } : Jvm.MethodName)) ∈ lw_tbl := List.mem_append_right _ (List.mem_of_getElem? (i := 458) (by decide +kernel))
theorem k_459 : (Jvm.Cond.code ({ cls := "ShoulderHeirs$Turns", name := "tellDuty", desc := "(II[I)V" } : Jvm.MethodName) prog_8_method_7_code (6 : Nat) (Option.none : Option Jvm.ClassFile.FieldType)) ∈ lw_tbl := List.mem_append_right _ (List.mem_of_getElem? (i := 459) (by decide +kernel))
theorem k_460 : (Jvm.Cond.methodLinkNest "ShoulderHeirs$Turns" (35 : Nat) ({ cls := "ShoulderHeirs", name := "isIn", desc := "(II)Z" } : Jvm.MethodName) "ShoulderHeirs") ∈ lw_tbl := List.mem_append_right _ (List.mem_of_getElem? (i := 460) (by decide +kernel))
theorem k_461 : (Jvm.Cond.static ({ cls := "ShoulderHeirs", name := "isIn", desc := "(II)Z" } : Jvm.MethodName)) ∈ lw_tbl := List.mem_append_right _ (List.mem_of_getElem? (i := 461) (by decide +kernel))
theorem k_462 : (Jvm.Cond.code ({ cls := "ShoulderHeirs", name := "isIn", desc := "(II)Z" } : Jvm.MethodName) prog_1_method_37_code (2 : Nat) (Option.some Jvm.ClassFile.FieldType.boolean)) ∈ lw_tbl := List.mem_append_right _ (List.mem_of_getElem? (i := 462) (by decide +kernel))
theorem k_463 : (Jvm.Cond.methodLink "ShoulderHeirs" (253 : Nat) ({ cls := "ShoulderHeirs$Walk", name := "begin", desc := "(LShoulderHeirs$Funeral;)V" } : Jvm.MethodName)) ∈ lw_tbl := List.mem_append_right _ (List.mem_of_getElem? (i := 463) (by decide +kernel))
theorem k_464 : (Jvm.Cond.instanceMethod ({ cls := "ShoulderHeirs$Walk", name := "begin", desc := "(LShoulderHeirs$Funeral;)V" } : Jvm.MethodName)) ∈ lw_tbl := List.mem_append_right _ (List.mem_of_getElem? (i := 464) (by decide +kernel))
theorem k_465 : (Jvm.Cond.selects "ShoulderHeirs$Walk" ({ cls := "ShoulderHeirs$Walk", name := "begin", desc := "(LShoulderHeirs$Funeral;)V" } : Jvm.MethodName) ({ cls := "ShoulderHeirs$Walk", name := "begin", desc := "(LShoulderHeirs$Funeral;)V" } : Jvm.MethodName)) ∈ lw_tbl := List.mem_append_right _ (List.mem_of_getElem? (i := 465) (by decide +kernel))
theorem k_466 : (Jvm.Cond.code ({ cls := "ShoulderHeirs$Walk", name := "begin", desc := "(LShoulderHeirs$Funeral;)V" } : Jvm.MethodName) prog_9_method_2_code (3 : Nat) (Option.none : Option Jvm.ClassFile.FieldType)) ∈ lw_tbl := List.mem_append_right _ (List.mem_of_getElem? (i := 466) (by decide +kernel))
theorem k_467 : (Jvm.Cond.methodLink "ShoulderHeirs$Walk" (50 : Nat) ({ cls := "ShoulderHeirs$Funeral", name := "twins", desc := "()I" } : Jvm.MethodName)) ∈ lw_tbl := List.mem_append_right _ (List.mem_of_getElem? (i := 467) (by decide +kernel))
theorem k_468 : (Jvm.Cond.instanceMethod ({ cls := "ShoulderHeirs$Funeral", name := "twins", desc := "()I" } : Jvm.MethodName)) ∈ lw_tbl := List.mem_append_right _ (List.mem_of_getElem? (i := 468) (by decide +kernel))
theorem k_469 : (Jvm.Cond.selects "ShoulderHeirs$Funeral" ({ cls := "ShoulderHeirs$Funeral", name := "twins", desc := "()I" } : Jvm.MethodName) ({ cls := "ShoulderHeirs$Funeral", name := "twins", desc := "()I" } : Jvm.MethodName)) ∈ lw_tbl := List.mem_append_right _ (List.mem_of_getElem? (i := 469) (by decide +kernel))
theorem k_470 : (Jvm.Cond.code ({ cls := "ShoulderHeirs$Funeral", name := "twins", desc := "()I" } : Jvm.MethodName) prog_3_method_16_code (3 : Nat) (Option.some Jvm.ClassFile.FieldType.int)) ∈ lw_tbl := List.mem_append_right _ (List.mem_of_getElem? (i := 470) (by decide +kernel))
theorem k_471 : (Jvm.Cond.methodLink "ShoulderHeirs" (256 : Nat) ({ cls := "ShoulderHeirs$Walk", name := "go", desc := "([I)V" } : Jvm.MethodName)) ∈ lw_tbl := List.mem_append_right _ (List.mem_of_getElem? (i := 471) (by decide +kernel))
theorem k_472 : (Jvm.Cond.instanceMethod ({ cls := "ShoulderHeirs$Walk", name := "go", desc := "([I)V" } : Jvm.MethodName)) ∈ lw_tbl := List.mem_append_right _ (List.mem_of_getElem? (i := 472) (by decide +kernel))
theorem k_473 : (Jvm.Cond.selects "ShoulderHeirs$Walk" ({ cls := "ShoulderHeirs$Walk", name := "go", desc := "([I)V" } : Jvm.MethodName) ({ cls := "ShoulderHeirs$Walk", name := "go", desc := "([I)V" } : Jvm.MethodName)) ∈ lw_tbl := List.mem_append_right _ (List.mem_of_getElem? (i := 473) (by decide +kernel))
theorem k_474 : (Jvm.Cond.code ({ cls := "ShoulderHeirs$Walk", name := "go", desc := "([I)V" } : Jvm.MethodName) prog_9_method_4_code (3 : Nat) (Option.none : Option Jvm.ClassFile.FieldType)) ∈ lw_tbl := List.mem_append_right _ (List.mem_of_getElem? (i := 474) (by decide +kernel))
theorem k_475 : (Jvm.Cond.methodLink "ShoulderHeirs$Walk" (68 : Nat) ({ cls := "ShoulderHeirs$Walk", name := "step", desc := "(II)I" } : Jvm.MethodName)) ∈ lw_tbl := List.mem_append_right _ (List.mem_of_getElem? (i := 475) (by decide +kernel))
theorem k_476 : (Jvm.Cond.instanceMethod ({ cls := "ShoulderHeirs$Walk", name := "step", desc := "(II)I" } : Jvm.MethodName)) ∈ lw_tbl := List.mem_append_right _ (List.mem_of_getElem? (i := 476) (by decide +kernel))
theorem k_477 : (Jvm.Cond.selects "ShoulderHeirs$Walk" ({ cls := "ShoulderHeirs$Walk", name := "step", desc := "(II)I" } : Jvm.MethodName) ({ cls := "ShoulderHeirs$Walk", name := "step", desc := "(II)I" } : Jvm.MethodName)) ∈ lw_tbl := List.mem_append_right _ (List.mem_of_getElem? (i := 477) (by decide +kernel))
theorem k_478 : (Jvm.Cond.code ({ cls := "ShoulderHeirs$Walk", name := "step", desc := "(II)I" } : Jvm.MethodName) prog_9_method_5_code (5 : Nat) (Option.some Jvm.ClassFile.FieldType.int)) ∈ lw_tbl := List.mem_append_right _ (List.mem_of_getElem? (i := 478) (by decide +kernel))
theorem k_479 : (Jvm.Cond.methodLink "ShoulderHeirs$Walk" (72 : Nat) ({ cls := "ShoulderHeirs$Funeral", name := "slopeAt", desc := "(I)I" } : Jvm.MethodName)) ∈ lw_tbl := List.mem_append_right _ (List.mem_of_getElem? (i := 479) (by decide +kernel))
theorem k_480 : (Jvm.Cond.instanceMethod ({ cls := "ShoulderHeirs$Funeral", name := "slopeAt", desc := "(I)I" } : Jvm.MethodName)) ∈ lw_tbl := List.mem_append_right _ (List.mem_of_getElem? (i := 480) (by decide +kernel))
theorem k_481 : (Jvm.Cond.selects "ShoulderHeirs$Funeral" ({ cls := "ShoulderHeirs$Funeral", name := "slopeAt", desc := "(I)I" } : Jvm.MethodName) ({ cls := "ShoulderHeirs$Funeral", name := "slopeAt", desc := "(I)I" } : Jvm.MethodName)) ∈ lw_tbl := List.mem_append_right _ (List.mem_of_getElem? (i := 481) (by decide +kernel))
theorem k_482 : (Jvm.Cond.code ({ cls := "ShoulderHeirs$Funeral", name := "slopeAt", desc := "(I)I" } : Jvm.MethodName) prog_3_method_14_code (2 : Nat) (Option.some Jvm.ClassFile.FieldType.int)) ∈ lw_tbl := List.mem_append_right _ (List.mem_of_getElem? (i := 482) (by decide +kernel))
theorem k_483 : (Jvm.Cond.methodLink "ShoulderHeirs$Walk" (79 : Nat) ({ cls := "ShoulderHeirs$Walk", name := "drawnAt", desc := "(I)I" } : Jvm.MethodName)) ∈ lw_tbl := List.mem_append_right _ (List.mem_of_getElem? (i := 483) (by decide +kernel))
theorem k_484 : (Jvm.Cond.privateMethod ({ cls := "ShoulderHeirs$Walk", name := "drawnAt", desc := "(I)I" } : Jvm.MethodName)) ∈ lw_tbl := List.mem_append_right _ (List.mem_of_getElem? (i := 484) (by decide +kernel))
theorem k_485 : (Jvm.Cond.instanceMethod ({ cls := "ShoulderHeirs$Walk", name := "drawnAt", desc := "(I)I" } : Jvm.MethodName)) ∈ lw_tbl := List.mem_append_right _ (List.mem_of_getElem? (i := 485) (by decide +kernel))
theorem k_486 : (Jvm.Cond.code ({ cls := "ShoulderHeirs$Walk", name := "drawnAt", desc := "(I)I" } : Jvm.MethodName) prog_9_method_9_code (4 : Nat) (Option.some Jvm.ClassFile.FieldType.int)) ∈ lw_tbl := List.mem_append_right _ (List.mem_of_getElem? (i := 486) (by decide +kernel))
theorem k_487 : (Jvm.Cond.constantLong "ShoulderHeirs$Walk" (114 : Nat) (7919 : Int64)) ∈ lw_tbl := List.mem_append_right _ (List.mem_of_getElem? (i := 487) (by decide +kernel))
theorem k_488 : (Jvm.Cond.constantLong "ShoulderHeirs$Walk" (116 : Nat) (6151 : Int64)) ∈ lw_tbl := List.mem_append_right _ (List.mem_of_getElem? (i := 488) (by decide +kernel))
theorem k_489 : (Jvm.Cond.constantLong "ShoulderHeirs$Walk" (118 : Nat) (65521 : Int64)) ∈ lw_tbl := List.mem_append_right _ (List.mem_of_getElem? (i := 489) (by decide +kernel))
theorem k_490 : (Jvm.Cond.constantLong "ShoulderHeirs$Walk" (120 : Nat) (3 : Int64)) ∈ lw_tbl := List.mem_append_right _ (List.mem_of_getElem? (i := 490) (by decide +kernel))
theorem k_491 : (Jvm.Cond.methodLink "ShoulderHeirs$Walk" (82 : Nat) ({ cls := "ShoulderHeirs$Walk", name := "setCosts", desc := "(II)V" } : Jvm.MethodName)) ∈ lw_tbl := List.mem_append_right _ (List.mem_of_getElem? (i := 491) (by decide +kernel))
theorem k_492 : (Jvm.Cond.privateMethod ({ cls := "ShoulderHeirs$Walk", name := "setCosts", desc := "(II)V" } : Jvm.MethodName)) ∈ lw_tbl := List.mem_append_right _ (List.mem_of_getElem? (i := 492) (by decide +kernel))
theorem k_493 : (Jvm.Cond.instanceMethod ({ cls := "ShoulderHeirs$Walk", name := "setCosts", desc := "(II)V" } : Jvm.MethodName)) ∈ lw_tbl := List.mem_append_right _ (List.mem_of_getElem? (i := 493) (by decide +kernel))
theorem k_494 : (Jvm.Cond.code ({ cls := "ShoulderHeirs$Walk", name := "setCosts", desc := "(II)V" } : Jvm.MethodName) prog_9_method_6_code (6 : Nat) (Option.none : Option Jvm.ClassFile.FieldType)) ∈ lw_tbl := List.mem_append_right _ (List.mem_of_getElem? (i := 494) (by decide +kernel))
theorem k_495 : (Jvm.Cond.methodLink "ShoulderHeirs$Walk" (89 : Nat) ({ cls := "java/lang/Integer", name := "bitCount", desc := "(I)I" } : Jvm.MethodName)) ∈ lw_tbl := List.mem_append_right _ (List.mem_of_getElem? (i := 495) (by decide +kernel))
theorem k_496 : (Jvm.Cond.static ({ cls := "java/lang/Integer", name := "bitCount", desc := "(I)I" } : Jvm.MethodName)) ∈ lw_tbl := List.mem_append_right _ (List.mem_of_getElem? (i := 496) (by decide +kernel))
theorem k_497 : (Jvm.Cond.code ({ cls := "java/lang/Integer", name := "bitCount", desc := "(I)I" } : Jvm.MethodName) prog_12_method_49_code (1 : Nat) (Option.some Jvm.ClassFile.FieldType.int)) ∈ lw_tbl := List.mem_append_right _ (List.mem_of_getElem? (i := 497) (by decide +kernel))
theorem k_498 : (Jvm.Cond.constant "java/lang/Integer" (265 : Nat) (1431655765 : Int32)) ∈ lw_tbl := List.mem_append_right _ (List.mem_of_getElem? (i := 498) (by decide +kernel))
theorem k_499 : (Jvm.Cond.constant "java/lang/Integer" (266 : Nat) (858993459 : Int32)) ∈ lw_tbl := List.mem_append_right _ (List.mem_of_getElem? (i := 499) (by decide +kernel))
theorem k_500 : (Jvm.Cond.constant "java/lang/Integer" (267 : Nat) (252645135 : Int32)) ∈ lw_tbl := List.mem_append_right _ (List.mem_of_getElem? (i := 500) (by decide +kernel))
theorem k_501 : (Jvm.Cond.methodLinkNest "ShoulderHeirs$Walk" (103 : Nat) ({ cls := "ShoulderHeirs", name := "isIn", desc := "(II)Z" } : Jvm.MethodName) "ShoulderHeirs") ∈ lw_tbl := List.mem_append_right _ (List.mem_of_getElem? (i := 501) (by decide +kernel))
theorem k_502 : (Jvm.Cond.methodLinkNest "ShoulderHeirs$Walk" (110 : Nat) ({ cls := "ShoulderHeirs", name := "toll", desc := "(IIII)I" } : Jvm.MethodName) "ShoulderHeirs") ∈ lw_tbl := List.mem_append_right _ (List.mem_of_getElem? (i := 502) (by decide +kernel))
theorem k_503 : (Jvm.Cond.static ({ cls := "ShoulderHeirs", name := "toll", desc := "(IIII)I" } : Jvm.MethodName)) ∈ lw_tbl := List.mem_append_right _ (List.mem_of_getElem? (i := 503) (by decide +kernel))
theorem k_504 : (Jvm.Cond.code ({ cls := "ShoulderHeirs", name := "toll", desc := "(IIII)I" } : Jvm.MethodName) prog_1_method_41_code (6 : Nat) (Option.some Jvm.ClassFile.FieldType.int)) ∈ lw_tbl := List.mem_append_right _ (List.mem_of_getElem? (i := 504) (by decide +kernel))
theorem k_505 : (Jvm.Cond.methodLink "ShoulderHeirs$Walk" (86 : Nat) ({ cls := "ShoulderHeirs$Walk", name := "stumbling", desc := "(II)I" } : Jvm.MethodName)) ∈ lw_tbl := List.mem_append_right _ (List.mem_of_getElem? (i := 505) (by decide +kernel))
theorem k_506 : (Jvm.Cond.privateMethod ({ cls := "ShoulderHeirs$Walk", name := "stumbling", desc := "(II)I" } : Jvm.MethodName)) ∈ lw_tbl := List.mem_append_right _ (List.mem_of_getElem? (i := 506) (by decide +kernel))
theorem k_507 : (Jvm.Cond.instanceMethod ({ cls := "ShoulderHeirs$Walk", name := "stumbling", desc := "(II)I" } : Jvm.MethodName)) ∈ lw_tbl := List.mem_append_right _ (List.mem_of_getElem? (i := 507) (by decide +kernel))
theorem k_508 : (Jvm.Cond.code ({ cls := "ShoulderHeirs$Walk", name := "stumbling", desc := "(II)I" } : Jvm.MethodName) prog_9_method_7_code (5 : Nat) (Option.some Jvm.ClassFile.FieldType.int)) ∈ lw_tbl := List.mem_append_right _ (List.mem_of_getElem? (i := 508) (by decide +kernel))
theorem k_509 : (Jvm.Cond.methodLink "ShoulderHeirs$Walk" (94 : Nat) ({ cls := "ShoulderHeirs$Funeral", name := "priceAt", desc := "(I)I" } : Jvm.MethodName)) ∈ lw_tbl := List.mem_append_right _ (List.mem_of_getElem? (i := 509) (by decide +kernel))
theorem k_510 : (Jvm.Cond.instanceMethod ({ cls := "ShoulderHeirs$Funeral", name := "priceAt", desc := "(I)I" } : Jvm.MethodName)) ∈ lw_tbl := List.mem_append_right _ (List.mem_of_getElem? (i := 510) (by decide +kernel))
theorem k_511 : (Jvm.Cond.selects "ShoulderHeirs$Funeral" ({ cls := "ShoulderHeirs$Funeral", name := "priceAt", desc := "(I)I" } : Jvm.MethodName) ({ cls := "ShoulderHeirs$Funeral", name := "priceAt", desc := "(I)I" } : Jvm.MethodName)) ∈ lw_tbl := List.mem_append_right _ (List.mem_of_getElem? (i := 511) (by decide +kernel))
theorem k_512 : (Jvm.Cond.code ({ cls := "ShoulderHeirs$Funeral", name := "priceAt", desc := "(I)I" } : Jvm.MethodName) prog_3_method_15_code (2 : Nat) (Option.some Jvm.ClassFile.FieldType.int)) ∈ lw_tbl := List.mem_append_right _ (List.mem_of_getElem? (i := 512) (by decide +kernel))
theorem k_513 : (Jvm.Cond.methodLink "ShoulderHeirs$Walk" (97 : Nat) ({ cls := "ShoulderHeirs$Walk", name := "bringUp", desc := "(II)V" } : Jvm.MethodName)) ∈ lw_tbl := List.mem_append_right _ (List.mem_of_getElem? (i := 513) (by decide +kernel))
theorem k_514 : (Jvm.Cond.privateMethod ({ cls := "ShoulderHeirs$Walk", name := "bringUp", desc := "(II)V" } : Jvm.MethodName)) ∈ lw_tbl := List.mem_append_right _ (List.mem_of_getElem? (i := 514) (by decide +kernel))
theorem k_515 : (Jvm.Cond.instanceMethod ({ cls := "ShoulderHeirs$Walk", name := "bringUp", desc := "(II)V" } : Jvm.MethodName)) ∈ lw_tbl := List.mem_append_right _ (List.mem_of_getElem? (i := 515) (by decide +kernel))
theorem k_516 : (Jvm.Cond.code ({ cls := "ShoulderHeirs$Walk", name := "bringUp", desc := "(II)V" } : Jvm.MethodName) prog_9_method_8_code (6 : Nat) (Option.none : Option Jvm.ClassFile.FieldType)) ∈ lw_tbl := List.mem_append_right _ (List.mem_of_getElem? (i := 516) (by decide +kernel))
theorem k_517 : (Jvm.Cond.fieldLink "ShoulderHeirs" (9 : Nat) "ShoulderHeirs" "letters" "[C") ∈ lw_tbl := List.mem_append_right _ (List.mem_of_getElem? (i := 517) (by decide +kernel))
theorem k_518 : (Jvm.Cond.fieldLink "ShoulderHeirs" (115 : Nat) "ShoulderHeirs" "length" "I") ∈ lw_tbl := List.mem_append_right _ (List.mem_of_getElem? (i := 518) (by decide +kernel))
theorem k_519 : (Jvm.Cond.fieldLink "ShoulderHeirs" (16 : Nat) "ShoulderHeirs" "reader" "LShoulderHeirs$Reader;") ∈ lw_tbl := List.mem_append_right _ (List.mem_of_getElem? (i := 519) (by decide +kernel))
theorem k_520 : (Jvm.Cond.fieldLink "ShoulderHeirs" (23 : Nat) "ShoulderHeirs" "funeral" "LShoulderHeirs$Funeral;") ∈ lw_tbl := List.mem_append_right _ (List.mem_of_getElem? (i := 520) (by decide +kernel))
theorem k_521 : (Jvm.Cond.fieldLink "ShoulderHeirs" (27 : Nat) "ShoulderHeirs" "moved" "LShoulderHeirs$Funeral;") ∈ lw_tbl := List.mem_append_right _ (List.mem_of_getElem? (i := 521) (by decide +kernel))
theorem k_522 : (Jvm.Cond.fieldLink "ShoulderHeirs" (33 : Nat) "ShoulderHeirs" "turns" "LShoulderHeirs$Turns;") ∈ lw_tbl := List.mem_append_right _ (List.mem_of_getElem? (i := 522) (by decide +kernel))
theorem k_523 : (Jvm.Cond.fieldLink "ShoulderHeirs" (42 : Nat) "ShoulderHeirs" "undone" "LShoulderHeirs$Pile;") ∈ lw_tbl := List.mem_append_right _ (List.mem_of_getElem? (i := 523) (by decide +kernel))
theorem k_524 : (Jvm.Cond.fieldLink "ShoulderHeirs" (46 : Nat) "ShoulderHeirs" "kept" "LShoulderHeirs$Pile;") ∈ lw_tbl := List.mem_append_right _ (List.mem_of_getElem? (i := 524) (by decide +kernel))
theorem k_525 : (Jvm.Cond.fieldLink "ShoulderHeirs" (49 : Nat) "ShoulderHeirs" "printYard" "[I") ∈ lw_tbl := List.mem_append_right _ (List.mem_of_getElem? (i := 525) (by decide +kernel))
theorem k_526 : (Jvm.Cond.fieldLink "ShoulderHeirs" (53 : Nat) "ShoulderHeirs" "printBearers" "[I") ∈ lw_tbl := List.mem_append_right _ (List.mem_of_getElem? (i := 526) (by decide +kernel))
theorem k_527 : (Jvm.Cond.fieldLink "ShoulderHeirs" (272 : Nat) "ShoulderHeirs" "prints" "I") ∈ lw_tbl := List.mem_append_right _ (List.mem_of_getElem? (i := 527) (by decide +kernel))
theorem k_528 : (Jvm.Cond.fieldLink "ShoulderHeirs" (56 : Nat) "ShoulderHeirs" "duty" "[I") ∈ lw_tbl := List.mem_append_right _ (List.mem_of_getElem? (i := 528) (by decide +kernel))
theorem k_529 : (Jvm.Cond.fieldLink "ShoulderHeirs" (59 : Nat) "ShoulderHeirs" "otherDuty" "[I") ∈ lw_tbl := List.mem_append_right _ (List.mem_of_getElem? (i := 529) (by decide +kernel))
theorem k_530 : (Jvm.Cond.fieldLink "ShoulderHeirs" (67 : Nat) "ShoulderHeirs" "now" "LShoulderHeirs$Walk;") ∈ lw_tbl := List.mem_append_right _ (List.mem_of_getElem? (i := 530) (by decide +kernel))
theorem k_531 : (Jvm.Cond.fieldLink "ShoulderHeirs" (71 : Nat) "ShoulderHeirs" "trial" "LShoulderHeirs$Walk;") ∈ lw_tbl := List.mem_append_right _ (List.mem_of_getElem? (i := 531) (by decide +kernel))
theorem k_532 : (Jvm.Cond.fieldLink "ShoulderHeirs" (79 : Nat) "ShoulderHeirs" "turnSearch" "LShoulderHeirs$TurnSearch;") ∈ lw_tbl := List.mem_append_right _ (List.mem_of_getElem? (i := 532) (by decide +kernel))
theorem k_533 : (Jvm.Cond.fieldLink "ShoulderHeirs" (86 : Nat) "ShoulderHeirs" "orderSearch" "LShoulderHeirs$OrderSearch;") ∈ lw_tbl := List.mem_append_right _ (List.mem_of_getElem? (i := 533) (by decide +kernel))
theorem k_534 : (Jvm.Cond.fieldLink "ShoulderHeirs" (93 : Nat) "ShoulderHeirs" "choices" "LShoulderHeirs$Choices;") ∈ lw_tbl := List.mem_append_right _ (List.mem_of_getElem? (i := 534) (by decide +kernel))
theorem k_535 : (Jvm.Cond.laysFinal "ShoulderHeirs" "ShoulderHeirs" "letters" "[C") ∈ lw_tbl := List.mem_append_right _ (List.mem_of_getElem? (i := 535) (by decide +kernel))
theorem k_536 : (Jvm.Cond.soleField "ShoulderHeirs" "letters") ∈ lw_tbl := List.mem_append_right _ (List.mem_of_getElem? (i := 536) (by decide +kernel))
theorem k_537 : (Jvm.Cond.lays "ShoulderHeirs" "ShoulderHeirs" "length" "I") ∈ lw_tbl := List.mem_append_right _ (List.mem_of_getElem? (i := 537) (by decide +kernel))
theorem k_538 : (Jvm.Cond.soleField "ShoulderHeirs" "length") ∈ lw_tbl := List.mem_append_right _ (List.mem_of_getElem? (i := 538) (by decide +kernel))
theorem k_539 : (Jvm.Cond.laysFinal "ShoulderHeirs" "ShoulderHeirs" "reader" "LShoulderHeirs$Reader;") ∈ lw_tbl := List.mem_append_right _ (List.mem_of_getElem? (i := 539) (by decide +kernel))
theorem k_540 : (Jvm.Cond.soleField "ShoulderHeirs" "reader") ∈ lw_tbl := List.mem_append_right _ (List.mem_of_getElem? (i := 540) (by decide +kernel))
theorem k_541 : (Jvm.Cond.laysFinal "ShoulderHeirs" "ShoulderHeirs" "funeral" "LShoulderHeirs$Funeral;") ∈ lw_tbl := List.mem_append_right _ (List.mem_of_getElem? (i := 541) (by decide +kernel))
theorem k_542 : (Jvm.Cond.soleField "ShoulderHeirs" "funeral") ∈ lw_tbl := List.mem_append_right _ (List.mem_of_getElem? (i := 542) (by decide +kernel))
theorem k_543 : (Jvm.Cond.laysFinal "ShoulderHeirs" "ShoulderHeirs" "moved" "LShoulderHeirs$Funeral;") ∈ lw_tbl := List.mem_append_right _ (List.mem_of_getElem? (i := 543) (by decide +kernel))
theorem k_544 : (Jvm.Cond.soleField "ShoulderHeirs" "moved") ∈ lw_tbl := List.mem_append_right _ (List.mem_of_getElem? (i := 544) (by decide +kernel))
theorem k_545 : (Jvm.Cond.laysFinal "ShoulderHeirs" "ShoulderHeirs" "turns" "LShoulderHeirs$Turns;") ∈ lw_tbl := List.mem_append_right _ (List.mem_of_getElem? (i := 545) (by decide +kernel))
theorem k_546 : (Jvm.Cond.soleField "ShoulderHeirs" "turns") ∈ lw_tbl := List.mem_append_right _ (List.mem_of_getElem? (i := 546) (by decide +kernel))
theorem k_547 : (Jvm.Cond.laysFinal "ShoulderHeirs" "ShoulderHeirs" "undone" "LShoulderHeirs$Pile;") ∈ lw_tbl := List.mem_append_right _ (List.mem_of_getElem? (i := 547) (by decide +kernel))
theorem k_548 : (Jvm.Cond.soleField "ShoulderHeirs" "undone") ∈ lw_tbl := List.mem_append_right _ (List.mem_of_getElem? (i := 548) (by decide +kernel))
theorem k_549 : (Jvm.Cond.laysFinal "ShoulderHeirs" "ShoulderHeirs" "kept" "LShoulderHeirs$Pile;") ∈ lw_tbl := List.mem_append_right _ (List.mem_of_getElem? (i := 549) (by decide +kernel))
theorem k_550 : (Jvm.Cond.soleField "ShoulderHeirs" "kept") ∈ lw_tbl := List.mem_append_right _ (List.mem_of_getElem? (i := 550) (by decide +kernel))
theorem k_551 : (Jvm.Cond.laysFinal "ShoulderHeirs" "ShoulderHeirs" "printYard" "[I") ∈ lw_tbl := List.mem_append_right _ (List.mem_of_getElem? (i := 551) (by decide +kernel))
theorem k_552 : (Jvm.Cond.soleField "ShoulderHeirs" "printYard") ∈ lw_tbl := List.mem_append_right _ (List.mem_of_getElem? (i := 552) (by decide +kernel))
theorem k_553 : (Jvm.Cond.laysFinal "ShoulderHeirs" "ShoulderHeirs" "printBearers" "[I") ∈ lw_tbl := List.mem_append_right _ (List.mem_of_getElem? (i := 553) (by decide +kernel))
theorem k_554 : (Jvm.Cond.soleField "ShoulderHeirs" "printBearers") ∈ lw_tbl := List.mem_append_right _ (List.mem_of_getElem? (i := 554) (by decide +kernel))
theorem k_555 : (Jvm.Cond.lays "ShoulderHeirs" "ShoulderHeirs" "prints" "I") ∈ lw_tbl := List.mem_append_right _ (List.mem_of_getElem? (i := 555) (by decide +kernel))
theorem k_556 : (Jvm.Cond.soleField "ShoulderHeirs" "prints") ∈ lw_tbl := List.mem_append_right _ (List.mem_of_getElem? (i := 556) (by decide +kernel))
theorem k_557 : (Jvm.Cond.laysFinal "ShoulderHeirs" "ShoulderHeirs" "duty" "[I") ∈ lw_tbl := List.mem_append_right _ (List.mem_of_getElem? (i := 557) (by decide +kernel))
theorem k_558 : (Jvm.Cond.soleField "ShoulderHeirs" "duty") ∈ lw_tbl := List.mem_append_right _ (List.mem_of_getElem? (i := 558) (by decide +kernel))
theorem k_559 : (Jvm.Cond.laysFinal "ShoulderHeirs" "ShoulderHeirs" "otherDuty" "[I") ∈ lw_tbl := List.mem_append_right _ (List.mem_of_getElem? (i := 559) (by decide +kernel))
theorem k_560 : (Jvm.Cond.soleField "ShoulderHeirs" "otherDuty") ∈ lw_tbl := List.mem_append_right _ (List.mem_of_getElem? (i := 560) (by decide +kernel))
theorem k_561 : (Jvm.Cond.laysFinal "ShoulderHeirs" "ShoulderHeirs" "now" "LShoulderHeirs$Walk;") ∈ lw_tbl := List.mem_append_right _ (List.mem_of_getElem? (i := 561) (by decide +kernel))
theorem k_562 : (Jvm.Cond.soleField "ShoulderHeirs" "now") ∈ lw_tbl := List.mem_append_right _ (List.mem_of_getElem? (i := 562) (by decide +kernel))
theorem k_563 : (Jvm.Cond.laysFinal "ShoulderHeirs" "ShoulderHeirs" "trial" "LShoulderHeirs$Walk;") ∈ lw_tbl := List.mem_append_right _ (List.mem_of_getElem? (i := 563) (by decide +kernel))
theorem k_564 : (Jvm.Cond.soleField "ShoulderHeirs" "trial") ∈ lw_tbl := List.mem_append_right _ (List.mem_of_getElem? (i := 564) (by decide +kernel))
theorem k_565 : (Jvm.Cond.laysFinal "ShoulderHeirs" "ShoulderHeirs" "turnSearch" "LShoulderHeirs$TurnSearch;") ∈ lw_tbl := List.mem_append_right _ (List.mem_of_getElem? (i := 565) (by decide +kernel))
theorem k_566 : (Jvm.Cond.soleField "ShoulderHeirs" "turnSearch") ∈ lw_tbl := List.mem_append_right _ (List.mem_of_getElem? (i := 566) (by decide +kernel))
theorem k_567 : (Jvm.Cond.laysFinal "ShoulderHeirs" "ShoulderHeirs" "orderSearch" "LShoulderHeirs$OrderSearch;") ∈ lw_tbl := List.mem_append_right _ (List.mem_of_getElem? (i := 567) (by decide +kernel))
theorem k_568 : (Jvm.Cond.soleField "ShoulderHeirs" "orderSearch") ∈ lw_tbl := List.mem_append_right _ (List.mem_of_getElem? (i := 568) (by decide +kernel))
theorem k_569 : (Jvm.Cond.laysFinal "ShoulderHeirs" "ShoulderHeirs" "choices" "LShoulderHeirs$Choices;") ∈ lw_tbl := List.mem_append_right _ (List.mem_of_getElem? (i := 569) (by decide +kernel))
theorem k_570 : (Jvm.Cond.soleField "ShoulderHeirs" "choices") ∈ lw_tbl := List.mem_append_right _ (List.mem_of_getElem? (i := 570) (by decide +kernel))
theorem k_571 : (Jvm.Cond.superclass "ShoulderHeirs" "java/lang/Object") ∈ lw_tbl := List.mem_append_right _ (List.mem_of_getElem? (i := 571) (by decide +kernel))
theorem k_572 : (Jvm.Cond.arrayClass Jvm.ClassFile.FieldType.byte) ∈ lw_tbl := List.mem_append_right _ (List.mem_of_getElem? (i := 572) (by decide +kernel))
theorem k_573 : (Jvm.Cond.methodLink "ShoulderHeirsLaw" (13 : Nat) ({ cls := "ShoulderHeirs", name := "write", desc := "(I)I" } : Jvm.MethodName)) ∈ lw_tbl := List.mem_append_right _ (List.mem_of_getElem? (i := 573) (by decide +kernel))
theorem k_574 : (Jvm.Cond.instanceMethod ({ cls := "ShoulderHeirs", name := "write", desc := "(I)I" } : Jvm.MethodName)) ∈ lw_tbl := List.mem_append_right _ (List.mem_of_getElem? (i := 574) (by decide +kernel))
theorem k_575 : (Jvm.Cond.selects "ShoulderHeirs" ({ cls := "ShoulderHeirs", name := "write", desc := "(I)I" } : Jvm.MethodName) ({ cls := "ShoulderHeirs", name := "write", desc := "(I)I" } : Jvm.MethodName)) ∈ lw_tbl := List.mem_append_right _ (List.mem_of_getElem? (i := 575) (by decide +kernel))
theorem k_576 : (Jvm.Cond.code ({ cls := "ShoulderHeirs", name := "write", desc := "(I)I" } : Jvm.MethodName) prog_1_method_2_code (2 : Nat) (Option.some Jvm.ClassFile.FieldType.int)) ∈ lw_tbl := List.mem_append_right _ (List.mem_of_getElem? (i := 576) (by decide +kernel))
theorem k_577 : (Jvm.Cond.methodLink "ShoulderHeirs" (121 : Nat) ({ cls := "ShoulderHeirs", name := "within", desc := "(III)Z" } : Jvm.MethodName)) ∈ lw_tbl := List.mem_append_right _ (List.mem_of_getElem? (i := 577) (by decide +kernel))
theorem k_578 : (Jvm.Cond.methodLink "ShoulderHeirsLaw" (18 : Nat) ({ cls := "ShoulderHeirs", name := "wipe", desc := "()I" } : Jvm.MethodName)) ∈ lw_tbl := List.mem_append_right _ (List.mem_of_getElem? (i := 578) (by decide +kernel))
theorem k_579 : (Jvm.Cond.instanceMethod ({ cls := "ShoulderHeirs", name := "wipe", desc := "()I" } : Jvm.MethodName)) ∈ lw_tbl := List.mem_append_right _ (List.mem_of_getElem? (i := 579) (by decide +kernel))
theorem k_580 : (Jvm.Cond.selects "ShoulderHeirs" ({ cls := "ShoulderHeirs", name := "wipe", desc := "()I" } : Jvm.MethodName) ({ cls := "ShoulderHeirs", name := "wipe", desc := "()I" } : Jvm.MethodName)) ∈ lw_tbl := List.mem_append_right _ (List.mem_of_getElem? (i := 580) (by decide +kernel))
theorem k_581 : (Jvm.Cond.code ({ cls := "ShoulderHeirs", name := "wipe", desc := "()I" } : Jvm.MethodName) prog_1_method_3_code (2 : Nat) (Option.some Jvm.ClassFile.FieldType.int)) ∈ lw_tbl := List.mem_append_right _ (List.mem_of_getElem? (i := 581) (by decide +kernel))
theorem k_582 : (Jvm.Cond.methodLink "ShoulderHeirsLaw" (23 : Nat) ({ cls := "ShoulderHeirs", name := "fault", desc := "()I" } : Jvm.MethodName)) ∈ lw_tbl := List.mem_append_right _ (List.mem_of_getElem? (i := 582) (by decide +kernel))
theorem k_583 : (Jvm.Cond.instanceMethod ({ cls := "ShoulderHeirs", name := "fault", desc := "()I" } : Jvm.MethodName)) ∈ lw_tbl := List.mem_append_right _ (List.mem_of_getElem? (i := 583) (by decide +kernel))
theorem k_584 : (Jvm.Cond.selects "ShoulderHeirs" ({ cls := "ShoulderHeirs", name := "fault", desc := "()I" } : Jvm.MethodName) ({ cls := "ShoulderHeirs", name := "fault", desc := "()I" } : Jvm.MethodName)) ∈ lw_tbl := List.mem_append_right _ (List.mem_of_getElem? (i := 584) (by decide +kernel))
theorem k_585 : (Jvm.Cond.code ({ cls := "ShoulderHeirs", name := "fault", desc := "()I" } : Jvm.MethodName) prog_1_method_4_code (1 : Nat) (Option.some Jvm.ClassFile.FieldType.int)) ∈ lw_tbl := List.mem_append_right _ (List.mem_of_getElem? (i := 585) (by decide +kernel))
theorem k_586 : (Jvm.Cond.methodLink "ShoulderHeirsLaw" (27 : Nat) ({ cls := "ShoulderHeirs", name := "lay", desc := "()I" } : Jvm.MethodName)) ∈ lw_tbl := List.mem_append_right _ (List.mem_of_getElem? (i := 586) (by decide +kernel))
theorem k_587 : (Jvm.Cond.instanceMethod ({ cls := "ShoulderHeirs", name := "lay", desc := "()I" } : Jvm.MethodName)) ∈ lw_tbl := List.mem_append_right _ (List.mem_of_getElem? (i := 587) (by decide +kernel))
theorem k_588 : (Jvm.Cond.selects "ShoulderHeirs" ({ cls := "ShoulderHeirs", name := "lay", desc := "()I" } : Jvm.MethodName) ({ cls := "ShoulderHeirs", name := "lay", desc := "()I" } : Jvm.MethodName)) ∈ lw_tbl := List.mem_append_right _ (List.mem_of_getElem? (i := 588) (by decide +kernel))
theorem k_589 : (Jvm.Cond.code ({ cls := "ShoulderHeirs", name := "lay", desc := "()I" } : Jvm.MethodName) prog_1_method_5_code (1 : Nat) (Option.some Jvm.ClassFile.FieldType.int)) ∈ lw_tbl := List.mem_append_right _ (List.mem_of_getElem? (i := 589) (by decide +kernel))
theorem k_590 : (Jvm.Cond.methodLink "ShoulderHeirsLaw" (31 : Nat) ({ cls := "ShoulderHeirs", name := "yard", desc := "(II)I" } : Jvm.MethodName)) ∈ lw_tbl := List.mem_append_right _ (List.mem_of_getElem? (i := 590) (by decide +kernel))
theorem k_591 : (Jvm.Cond.instanceMethod ({ cls := "ShoulderHeirs", name := "yard", desc := "(II)I" } : Jvm.MethodName)) ∈ lw_tbl := List.mem_append_right _ (List.mem_of_getElem? (i := 591) (by decide +kernel))
theorem k_592 : (Jvm.Cond.selects "ShoulderHeirs" ({ cls := "ShoulderHeirs", name := "yard", desc := "(II)I" } : Jvm.MethodName) ({ cls := "ShoulderHeirs", name := "yard", desc := "(II)I" } : Jvm.MethodName)) ∈ lw_tbl := List.mem_append_right _ (List.mem_of_getElem? (i := 592) (by decide +kernel))
theorem k_593 : (Jvm.Cond.code ({ cls := "ShoulderHeirs", name := "yard", desc := "(II)I" } : Jvm.MethodName) prog_1_method_6_code (3 : Nat) (Option.some Jvm.ClassFile.FieldType.int)) ∈ lw_tbl := List.mem_append_right _ (List.mem_of_getElem? (i := 593) (by decide +kernel))
theorem k_594 : (Jvm.Cond.methodLink "ShoulderHeirs" (129 : Nat) ({ cls := "ShoulderHeirs$Funeral", name := "hasYard", desc := "(I)Z" } : Jvm.MethodName)) ∈ lw_tbl := List.mem_append_right _ (List.mem_of_getElem? (i := 594) (by decide +kernel))
theorem k_595 : (Jvm.Cond.instanceMethod ({ cls := "ShoulderHeirs$Funeral", name := "hasYard", desc := "(I)Z" } : Jvm.MethodName)) ∈ lw_tbl := List.mem_append_right _ (List.mem_of_getElem? (i := 595) (by decide +kernel))
theorem k_596 : (Jvm.Cond.selects "ShoulderHeirs$Funeral" ({ cls := "ShoulderHeirs$Funeral", name := "hasYard", desc := "(I)Z" } : Jvm.MethodName) ({ cls := "ShoulderHeirs$Funeral", name := "hasYard", desc := "(I)Z" } : Jvm.MethodName)) ∈ lw_tbl := List.mem_append_right _ (List.mem_of_getElem? (i := 596) (by decide +kernel))
theorem k_597 : (Jvm.Cond.code ({ cls := "ShoulderHeirs$Funeral", name := "hasYard", desc := "(I)Z" } : Jvm.MethodName) prog_3_method_12_code (2 : Nat) (Option.some Jvm.ClassFile.FieldType.boolean)) ∈ lw_tbl := List.mem_append_right _ (List.mem_of_getElem? (i := 597) (by decide +kernel))
theorem k_598 : (Jvm.Cond.methodLink "ShoulderHeirs" (136 : Nat) ({ cls := "ShoulderHeirs$Funeral", name := "slopeAt", desc := "(I)I" } : Jvm.MethodName)) ∈ lw_tbl := List.mem_append_right _ (List.mem_of_getElem? (i := 598) (by decide +kernel))
theorem k_599 : (Jvm.Cond.methodLink "ShoulderHeirs" (140 : Nat) ({ cls := "ShoulderHeirs$Funeral", name := "priceAt", desc := "(I)I" } : Jvm.MethodName)) ∈ lw_tbl := List.mem_append_right _ (List.mem_of_getElem? (i := 599) (by decide +kernel))
theorem k_600 : (Jvm.Cond.methodLink "ShoulderHeirsLaw" (36 : Nat) ({ cls := "ShoulderHeirs", name := "bearer", desc := "(II)I" } : Jvm.MethodName)) ∈ lw_tbl := List.mem_append_right _ (List.mem_of_getElem? (i := 600) (by decide +kernel))
theorem k_601 : (Jvm.Cond.instanceMethod ({ cls := "ShoulderHeirs", name := "bearer", desc := "(II)I" } : Jvm.MethodName)) ∈ lw_tbl := List.mem_append_right _ (List.mem_of_getElem? (i := 601) (by decide +kernel))
theorem k_602 : (Jvm.Cond.selects "ShoulderHeirs" ({ cls := "ShoulderHeirs", name := "bearer", desc := "(II)I" } : Jvm.MethodName) ({ cls := "ShoulderHeirs", name := "bearer", desc := "(II)I" } : Jvm.MethodName)) ∈ lw_tbl := List.mem_append_right _ (List.mem_of_getElem? (i := 602) (by decide +kernel))
theorem k_603 : (Jvm.Cond.code ({ cls := "ShoulderHeirs", name := "bearer", desc := "(II)I" } : Jvm.MethodName) prog_1_method_7_code (3 : Nat) (Option.some Jvm.ClassFile.FieldType.int)) ∈ lw_tbl := List.mem_append_right _ (List.mem_of_getElem? (i := 603) (by decide +kernel))
theorem k_604 : (Jvm.Cond.methodLink "ShoulderHeirs" (146 : Nat) ({ cls := "ShoulderHeirs$Funeral", name := "hasBearer", desc := "(I)Z" } : Jvm.MethodName)) ∈ lw_tbl := List.mem_append_right _ (List.mem_of_getElem? (i := 604) (by decide +kernel))
theorem k_605 : (Jvm.Cond.methodLink "ShoulderHeirs" (158 : Nat) ({ cls := "ShoulderHeirs$Walk", name := "acres", desc := "(I)I" } : Jvm.MethodName)) ∈ lw_tbl := List.mem_append_right _ (List.mem_of_getElem? (i := 605) (by decide +kernel))
theorem k_606 : (Jvm.Cond.instanceMethod ({ cls := "ShoulderHeirs$Walk", name := "acres", desc := "(I)I" } : Jvm.MethodName)) ∈ lw_tbl := List.mem_append_right _ (List.mem_of_getElem? (i := 606) (by decide +kernel))
theorem k_607 : (Jvm.Cond.selects "ShoulderHeirs$Walk" ({ cls := "ShoulderHeirs$Walk", name := "acres", desc := "(I)I" } : Jvm.MethodName) ({ cls := "ShoulderHeirs$Walk", name := "acres", desc := "(I)I" } : Jvm.MethodName)) ∈ lw_tbl := List.mem_append_right _ (List.mem_of_getElem? (i := 607) (by decide +kernel))
theorem k_608 : (Jvm.Cond.code ({ cls := "ShoulderHeirs$Walk", name := "acres", desc := "(I)I" } : Jvm.MethodName) prog_9_method_11_code (2 : Nat) (Option.some Jvm.ClassFile.FieldType.int)) ∈ lw_tbl := List.mem_append_right _ (List.mem_of_getElem? (i := 608) (by decide +kernel))
theorem k_609 : (Jvm.Cond.methodLink "ShoulderHeirs$Walk" (122 : Nat) ({ cls := "ShoulderHeirs$Walk", name := "hasStumbled", desc := "(I)Z" } : Jvm.MethodName)) ∈ lw_tbl := List.mem_append_right _ (List.mem_of_getElem? (i := 609) (by decide +kernel))
theorem k_610 : (Jvm.Cond.instanceMethod ({ cls := "ShoulderHeirs$Walk", name := "hasStumbled", desc := "(I)Z" } : Jvm.MethodName)) ∈ lw_tbl := List.mem_append_right _ (List.mem_of_getElem? (i := 610) (by decide +kernel))
theorem k_611 : (Jvm.Cond.selects "ShoulderHeirs$Walk" ({ cls := "ShoulderHeirs$Walk", name := "hasStumbled", desc := "(I)Z" } : Jvm.MethodName) ({ cls := "ShoulderHeirs$Walk", name := "hasStumbled", desc := "(I)Z" } : Jvm.MethodName)) ∈ lw_tbl := List.mem_append_right _ (List.mem_of_getElem? (i := 611) (by decide +kernel))
theorem k_612 : (Jvm.Cond.code ({ cls := "ShoulderHeirs$Walk", name := "hasStumbled", desc := "(I)Z" } : Jvm.MethodName) prog_9_method_10_code (2 : Nat) (Option.some Jvm.ClassFile.FieldType.boolean)) ∈ lw_tbl := List.mem_append_right _ (List.mem_of_getElem? (i := 612) (by decide +kernel))
theorem k_613 : (Jvm.Cond.methodLink "ShoulderHeirsLaw" (40 : Nat) ({ cls := "ShoulderHeirs", name := "stands", desc := "()I" } : Jvm.MethodName)) ∈ lw_tbl := List.mem_append_right _ (List.mem_of_getElem? (i := 613) (by decide +kernel))
theorem k_614 : (Jvm.Cond.instanceMethod ({ cls := "ShoulderHeirs", name := "stands", desc := "()I" } : Jvm.MethodName)) ∈ lw_tbl := List.mem_append_right _ (List.mem_of_getElem? (i := 614) (by decide +kernel))
theorem k_615 : (Jvm.Cond.selects "ShoulderHeirs" ({ cls := "ShoulderHeirs", name := "stands", desc := "()I" } : Jvm.MethodName) ({ cls := "ShoulderHeirs", name := "stands", desc := "()I" } : Jvm.MethodName)) ∈ lw_tbl := List.mem_append_right _ (List.mem_of_getElem? (i := 615) (by decide +kernel))
theorem k_616 : (Jvm.Cond.code ({ cls := "ShoulderHeirs", name := "stands", desc := "()I" } : Jvm.MethodName) prog_1_method_8_code (1 : Nat) (Option.some Jvm.ClassFile.FieldType.int)) ∈ lw_tbl := List.mem_append_right _ (List.mem_of_getElem? (i := 616) (by decide +kernel))
theorem k_617 : (Jvm.Cond.methodLink "ShoulderHeirsLaw" (44 : Nat) ({ cls := "ShoulderHeirs", name := "share", desc := "(II)I" } : Jvm.MethodName)) ∈ lw_tbl := List.mem_append_right _ (List.mem_of_getElem? (i := 617) (by decide +kernel))
theorem k_618 : (Jvm.Cond.instanceMethod ({ cls := "ShoulderHeirs", name := "share", desc := "(II)I" } : Jvm.MethodName)) ∈ lw_tbl := List.mem_append_right _ (List.mem_of_getElem? (i := 618) (by decide +kernel))
theorem k_619 : (Jvm.Cond.selects "ShoulderHeirs" ({ cls := "ShoulderHeirs", name := "share", desc := "(II)I" } : Jvm.MethodName) ({ cls := "ShoulderHeirs", name := "share", desc := "(II)I" } : Jvm.MethodName)) ∈ lw_tbl := List.mem_append_right _ (List.mem_of_getElem? (i := 619) (by decide +kernel))
theorem k_620 : (Jvm.Cond.code ({ cls := "ShoulderHeirs", name := "share", desc := "(II)I" } : Jvm.MethodName) prog_1_method_9_code (5 : Nat) (Option.some Jvm.ClassFile.FieldType.int)) ∈ lw_tbl := List.mem_append_right _ (List.mem_of_getElem? (i := 620) (by decide +kernel))
theorem k_621 : (Jvm.Cond.methodLink "ShoulderHeirs" (173 : Nat) ({ cls := "ShoulderHeirs", name := "lowestTerms", desc := "(III)I" } : Jvm.MethodName)) ∈ lw_tbl := List.mem_append_right _ (List.mem_of_getElem? (i := 621) (by decide +kernel))
theorem k_622 : (Jvm.Cond.static ({ cls := "ShoulderHeirs", name := "lowestTerms", desc := "(III)I" } : Jvm.MethodName)) ∈ lw_tbl := List.mem_append_right _ (List.mem_of_getElem? (i := 622) (by decide +kernel))
theorem k_623 : (Jvm.Cond.code ({ cls := "ShoulderHeirs", name := "lowestTerms", desc := "(III)I" } : Jvm.MethodName) prog_1_method_39_code (4 : Nat) (Option.some Jvm.ClassFile.FieldType.int)) ∈ lw_tbl := List.mem_append_right _ (List.mem_of_getElem? (i := 623) (by decide +kernel))
theorem k_624 : (Jvm.Cond.methodLink "ShoulderHeirs" (309 : Nat) ({ cls := "ShoulderHeirs", name := "commonDivisor", desc := "(II)I" } : Jvm.MethodName)) ∈ lw_tbl := List.mem_append_right _ (List.mem_of_getElem? (i := 624) (by decide +kernel))
theorem k_625 : (Jvm.Cond.static ({ cls := "ShoulderHeirs", name := "commonDivisor", desc := "(II)I" } : Jvm.MethodName)) ∈ lw_tbl := List.mem_append_right _ (List.mem_of_getElem? (i := 625) (by decide +kernel))
theorem k_626 : (Jvm.Cond.code ({ cls := "ShoulderHeirs", name := "commonDivisor", desc := "(II)I" } : Jvm.MethodName) prog_1_method_40_code (6 : Nat) (Option.some Jvm.ClassFile.FieldType.int)) ∈ lw_tbl := List.mem_append_right _ (List.mem_of_getElem? (i := 626) (by decide +kernel))
theorem k_627 : (Jvm.Cond.methodLink "ShoulderHeirsLaw" (48 : Nat) ({ cls := "ShoulderHeirs", name := "turn", desc := "(II)I" } : Jvm.MethodName)) ∈ lw_tbl := List.mem_append_right _ (List.mem_of_getElem? (i := 627) (by decide +kernel))
theorem k_628 : (Jvm.Cond.instanceMethod ({ cls := "ShoulderHeirs", name := "turn", desc := "(II)I" } : Jvm.MethodName)) ∈ lw_tbl := List.mem_append_right _ (List.mem_of_getElem? (i := 628) (by decide +kernel))
theorem k_629 : (Jvm.Cond.selects "ShoulderHeirs" ({ cls := "ShoulderHeirs", name := "turn", desc := "(II)I" } : Jvm.MethodName) ({ cls := "ShoulderHeirs", name := "turn", desc := "(II)I" } : Jvm.MethodName)) ∈ lw_tbl := List.mem_append_right _ (List.mem_of_getElem? (i := 629) (by decide +kernel))
theorem k_630 : (Jvm.Cond.code ({ cls := "ShoulderHeirs", name := "turn", desc := "(II)I" } : Jvm.MethodName) prog_1_method_10_code (3 : Nat) (Option.some Jvm.ClassFile.FieldType.int)) ∈ lw_tbl := List.mem_append_right _ (List.mem_of_getElem? (i := 630) (by decide +kernel))
theorem k_631 : (Jvm.Cond.methodLink "ShoulderHeirs" (177 : Nat) ({ cls := "ShoulderHeirs$Turns", name := "has", desc := "(I)Z" } : Jvm.MethodName)) ∈ lw_tbl := List.mem_append_right _ (List.mem_of_getElem? (i := 631) (by decide +kernel))
theorem k_632 : (Jvm.Cond.instanceMethod ({ cls := "ShoulderHeirs$Turns", name := "has", desc := "(I)Z" } : Jvm.MethodName)) ∈ lw_tbl := List.mem_append_right _ (List.mem_of_getElem? (i := 632) (by decide +kernel))
theorem k_633 : (Jvm.Cond.selects "ShoulderHeirs$Turns" ({ cls := "ShoulderHeirs$Turns", name := "has", desc := "(I)Z" } : Jvm.MethodName) ({ cls := "ShoulderHeirs$Turns", name := "has", desc := "(I)Z" } : Jvm.MethodName)) ∈ lw_tbl := List.mem_append_right _ (List.mem_of_getElem? (i := 633) (by decide +kernel))
theorem k_634 : (Jvm.Cond.code ({ cls := "ShoulderHeirs$Turns", name := "has", desc := "(I)Z" } : Jvm.MethodName) prog_8_method_2_code (2 : Nat) (Option.some Jvm.ClassFile.FieldType.boolean)) ∈ lw_tbl := List.mem_append_right _ (List.mem_of_getElem? (i := 634) (by decide +kernel))
theorem k_635 : (Jvm.Cond.methodLink "ShoulderHeirsLaw" (52 : Nat) ({ cls := "ShoulderHeirs", name := "bear", desc := "(III)I" } : Jvm.MethodName)) ∈ lw_tbl := List.mem_append_right _ (List.mem_of_getElem? (i := 635) (by decide +kernel))
theorem k_636 : (Jvm.Cond.instanceMethod ({ cls := "ShoulderHeirs", name := "bear", desc := "(III)I" } : Jvm.MethodName)) ∈ lw_tbl := List.mem_append_right _ (List.mem_of_getElem? (i := 636) (by decide +kernel))
theorem k_637 : (Jvm.Cond.selects "ShoulderHeirs" ({ cls := "ShoulderHeirs", name := "bear", desc := "(III)I" } : Jvm.MethodName) ({ cls := "ShoulderHeirs", name := "bear", desc := "(III)I" } : Jvm.MethodName)) ∈ lw_tbl := List.mem_append_right _ (List.mem_of_getElem? (i := 637) (by decide +kernel))
theorem k_638 : (Jvm.Cond.code ({ cls := "ShoulderHeirs", name := "bear", desc := "(III)I" } : Jvm.MethodName) prog_1_method_11_code (4 : Nat) (Option.some Jvm.ClassFile.FieldType.int)) ∈ lw_tbl := List.mem_append_right _ (List.mem_of_getElem? (i := 638) (by decide +kernel))
theorem k_639 : (Jvm.Cond.methodLink "ShoulderHeirs" (189 : Nat) ({ cls := "ShoulderHeirs$Turns", name := "isFull", desc := "()Z" } : Jvm.MethodName)) ∈ lw_tbl := List.mem_append_right _ (List.mem_of_getElem? (i := 639) (by decide +kernel))
theorem k_640 : (Jvm.Cond.methodLink "ShoulderHeirs" (193 : Nat) ({ cls := "ShoulderHeirs$Pile", name := "push", desc := "(LShoulderHeirs$Turns;)V" } : Jvm.MethodName)) ∈ lw_tbl := List.mem_append_right _ (List.mem_of_getElem? (i := 640) (by decide +kernel))
theorem k_641 : (Jvm.Cond.instanceMethod ({ cls := "ShoulderHeirs$Pile", name := "push", desc := "(LShoulderHeirs$Turns;)V" } : Jvm.MethodName)) ∈ lw_tbl := List.mem_append_right _ (List.mem_of_getElem? (i := 641) (by decide +kernel))
theorem k_642 : (Jvm.Cond.selects "ShoulderHeirs$Pile" ({ cls := "ShoulderHeirs$Pile", name := "push", desc := "(LShoulderHeirs$Turns;)V" } : Jvm.MethodName) ({ cls := "ShoulderHeirs$Pile", name := "push", desc := "(LShoulderHeirs$Turns;)V" } : Jvm.MethodName)) ∈ lw_tbl := List.mem_append_right _ (List.mem_of_getElem? (i := 642) (by decide +kernel))
theorem k_643 : (Jvm.Cond.code ({ cls := "ShoulderHeirs$Pile", name := "push", desc := "(LShoulderHeirs$Turns;)V" } : Jvm.MethodName) prog_5_method_3_code (2 : Nat) (Option.none : Option Jvm.ClassFile.FieldType)) ∈ lw_tbl := List.mem_append_right _ (List.mem_of_getElem? (i := 643) (by decide +kernel))
theorem k_644 : (Jvm.Cond.methodLink "ShoulderHeirs$Pile" (20 : Nat) ({ cls := "ShoulderHeirs$Pile", name := "isFull", desc := "()Z" } : Jvm.MethodName)) ∈ lw_tbl := List.mem_append_right _ (List.mem_of_getElem? (i := 644) (by decide +kernel))
theorem k_645 : (Jvm.Cond.instanceMethod ({ cls := "ShoulderHeirs$Pile", name := "isFull", desc := "()Z" } : Jvm.MethodName)) ∈ lw_tbl := List.mem_append_right _ (List.mem_of_getElem? (i := 645) (by decide +kernel))
theorem k_646 : (Jvm.Cond.selects "ShoulderHeirs$Pile" ({ cls := "ShoulderHeirs$Pile", name := "isFull", desc := "()Z" } : Jvm.MethodName) ({ cls := "ShoulderHeirs$Pile", name := "isFull", desc := "()Z" } : Jvm.MethodName)) ∈ lw_tbl := List.mem_append_right _ (List.mem_of_getElem? (i := 646) (by decide +kernel))
theorem k_647 : (Jvm.Cond.code ({ cls := "ShoulderHeirs$Pile", name := "isFull", desc := "()Z" } : Jvm.MethodName) prog_5_method_2_code (1 : Nat) (Option.some Jvm.ClassFile.FieldType.boolean)) ∈ lw_tbl := List.mem_append_right _ (List.mem_of_getElem? (i := 647) (by decide +kernel))
theorem k_648 : (Jvm.Cond.methodLink "ShoulderHeirs$Pile" (24 : Nat) ({ cls := "ShoulderHeirs$Pile", name := "dropOldest", desc := "()V" } : Jvm.MethodName)) ∈ lw_tbl := List.mem_append_right _ (List.mem_of_getElem? (i := 648) (by decide +kernel))
theorem k_649 : (Jvm.Cond.privateMethod ({ cls := "ShoulderHeirs$Pile", name := "dropOldest", desc := "()V" } : Jvm.MethodName)) ∈ lw_tbl := List.mem_append_right _ (List.mem_of_getElem? (i := 649) (by decide +kernel))
theorem k_650 : (Jvm.Cond.instanceMethod ({ cls := "ShoulderHeirs$Pile", name := "dropOldest", desc := "()V" } : Jvm.MethodName)) ∈ lw_tbl := List.mem_append_right _ (List.mem_of_getElem? (i := 650) (by decide +kernel))
theorem k_651 : (Jvm.Cond.code ({ cls := "ShoulderHeirs$Pile", name := "dropOldest", desc := "()V" } : Jvm.MethodName) prog_5_method_4_code (3 : Nat) (Option.none : Option Jvm.ClassFile.FieldType)) ∈ lw_tbl := List.mem_append_right _ (List.mem_of_getElem? (i := 651) (by decide +kernel))
theorem k_652 : (Jvm.Cond.methodLink "ShoulderHeirs$Pile" (27 : Nat) ({ cls := "ShoulderHeirs$Turns", name := "copy", desc := "(LShoulderHeirs$Turns;)V" } : Jvm.MethodName)) ∈ lw_tbl := List.mem_append_right _ (List.mem_of_getElem? (i := 652) (by decide +kernel))
theorem k_653 : (Jvm.Cond.methodLink "ShoulderHeirs" (197 : Nat) ({ cls := "ShoulderHeirs$Turns", name := "add", desc := "(III)Z" } : Jvm.MethodName)) ∈ lw_tbl := List.mem_append_right _ (List.mem_of_getElem? (i := 653) (by decide +kernel))
theorem k_654 : (Jvm.Cond.methodLink "ShoulderHeirsLaw" (57 : Nat) ({ cls := "ShoulderHeirs", name := "leave", desc := "(I)I" } : Jvm.MethodName)) ∈ lw_tbl := List.mem_append_right _ (List.mem_of_getElem? (i := 654) (by decide +kernel))
theorem k_655 : (Jvm.Cond.instanceMethod ({ cls := "ShoulderHeirs", name := "leave", desc := "(I)I" } : Jvm.MethodName)) ∈ lw_tbl := List.mem_append_right _ (List.mem_of_getElem? (i := 655) (by decide +kernel))
theorem k_656 : (Jvm.Cond.selects "ShoulderHeirs" ({ cls := "ShoulderHeirs", name := "leave", desc := "(I)I" } : Jvm.MethodName) ({ cls := "ShoulderHeirs", name := "leave", desc := "(I)I" } : Jvm.MethodName)) ∈ lw_tbl := List.mem_append_right _ (List.mem_of_getElem? (i := 656) (by decide +kernel))
theorem k_657 : (Jvm.Cond.code ({ cls := "ShoulderHeirs", name := "leave", desc := "(I)I" } : Jvm.MethodName) prog_1_method_12_code (2 : Nat) (Option.some Jvm.ClassFile.FieldType.int)) ∈ lw_tbl := List.mem_append_right _ (List.mem_of_getElem? (i := 657) (by decide +kernel))
theorem k_658 : (Jvm.Cond.methodLink "ShoulderHeirs" (206 : Nat) ({ cls := "ShoulderHeirs$Turns", name := "drop", desc := "(I)V" } : Jvm.MethodName)) ∈ lw_tbl := List.mem_append_right _ (List.mem_of_getElem? (i := 658) (by decide +kernel))
theorem k_659 : (Jvm.Cond.instanceMethod ({ cls := "ShoulderHeirs$Turns", name := "drop", desc := "(I)V" } : Jvm.MethodName)) ∈ lw_tbl := List.mem_append_right _ (List.mem_of_getElem? (i := 659) (by decide +kernel))
theorem k_660 : (Jvm.Cond.selects "ShoulderHeirs$Turns" ({ cls := "ShoulderHeirs$Turns", name := "drop", desc := "(I)V" } : Jvm.MethodName) ({ cls := "ShoulderHeirs$Turns", name := "drop", desc := "(I)V" } : Jvm.MethodName)) ∈ lw_tbl := List.mem_append_right _ (List.mem_of_getElem? (i := 660) (by decide +kernel))
theorem k_661 : (Jvm.Cond.code ({ cls := "ShoulderHeirs$Turns", name := "drop", desc := "(I)V" } : Jvm.MethodName) prog_8_method_5_code (3 : Nat) (Option.none : Option Jvm.ClassFile.FieldType)) ∈ lw_tbl := List.mem_append_right _ (List.mem_of_getElem? (i := 661) (by decide +kernel))
theorem k_662 : (Jvm.Cond.methodLink "ShoulderHeirsLaw" (61 : Nat) ({ cls := "ShoulderHeirs", name := "undo", desc := "()I" } : Jvm.MethodName)) ∈ lw_tbl := List.mem_append_right _ (List.mem_of_getElem? (i := 662) (by decide +kernel))
theorem k_663 : (Jvm.Cond.instanceMethod ({ cls := "ShoulderHeirs", name := "undo", desc := "()I" } : Jvm.MethodName)) ∈ lw_tbl := List.mem_append_right _ (List.mem_of_getElem? (i := 663) (by decide +kernel))
theorem k_664 : (Jvm.Cond.selects "ShoulderHeirs" ({ cls := "ShoulderHeirs", name := "undo", desc := "()I" } : Jvm.MethodName) ({ cls := "ShoulderHeirs", name := "undo", desc := "()I" } : Jvm.MethodName)) ∈ lw_tbl := List.mem_append_right _ (List.mem_of_getElem? (i := 664) (by decide +kernel))
theorem k_665 : (Jvm.Cond.code ({ cls := "ShoulderHeirs", name := "undo", desc := "()I" } : Jvm.MethodName) prog_1_method_13_code (1 : Nat) (Option.some Jvm.ClassFile.FieldType.int)) ∈ lw_tbl := List.mem_append_right _ (List.mem_of_getElem? (i := 665) (by decide +kernel))
theorem k_666 : (Jvm.Cond.methodLink "ShoulderHeirs" (209 : Nat) ({ cls := "ShoulderHeirs$Pile", name := "popInto", desc := "(LShoulderHeirs$Turns;)Z" } : Jvm.MethodName)) ∈ lw_tbl := List.mem_append_right _ (List.mem_of_getElem? (i := 666) (by decide +kernel))
theorem k_667 : (Jvm.Cond.instanceMethod ({ cls := "ShoulderHeirs$Pile", name := "popInto", desc := "(LShoulderHeirs$Turns;)Z" } : Jvm.MethodName)) ∈ lw_tbl := List.mem_append_right _ (List.mem_of_getElem? (i := 667) (by decide +kernel))
theorem k_668 : (Jvm.Cond.selects "ShoulderHeirs$Pile" ({ cls := "ShoulderHeirs$Pile", name := "popInto", desc := "(LShoulderHeirs$Turns;)Z" } : Jvm.MethodName) ({ cls := "ShoulderHeirs$Pile", name := "popInto", desc := "(LShoulderHeirs$Turns;)Z" } : Jvm.MethodName)) ∈ lw_tbl := List.mem_append_right _ (List.mem_of_getElem? (i := 668) (by decide +kernel))
theorem k_669 : (Jvm.Cond.code ({ cls := "ShoulderHeirs$Pile", name := "popInto", desc := "(LShoulderHeirs$Turns;)Z" } : Jvm.MethodName) prog_5_method_5_code (2 : Nat) (Option.some Jvm.ClassFile.FieldType.boolean)) ∈ lw_tbl := List.mem_append_right _ (List.mem_of_getElem? (i := 669) (by decide +kernel))
theorem k_670 : (Jvm.Cond.methodLink "ShoulderHeirsLaw" (65 : Nat) ({ cls := "ShoulderHeirs", name := "best", desc := "(II)I" } : Jvm.MethodName)) ∈ lw_tbl := List.mem_append_right _ (List.mem_of_getElem? (i := 670) (by decide +kernel))
theorem k_671 : (Jvm.Cond.instanceMethod ({ cls := "ShoulderHeirs", name := "best", desc := "(II)I" } : Jvm.MethodName)) ∈ lw_tbl := List.mem_append_right _ (List.mem_of_getElem? (i := 671) (by decide +kernel))
theorem k_672 : (Jvm.Cond.selects "ShoulderHeirs" ({ cls := "ShoulderHeirs", name := "best", desc := "(II)I" } : Jvm.MethodName) ({ cls := "ShoulderHeirs", name := "best", desc := "(II)I" } : Jvm.MethodName)) ∈ lw_tbl := List.mem_append_right _ (List.mem_of_getElem? (i := 672) (by decide +kernel))
theorem k_673 : (Jvm.Cond.code ({ cls := "ShoulderHeirs", name := "best", desc := "(II)I" } : Jvm.MethodName) prog_1_method_14_code (3 : Nat) (Option.some Jvm.ClassFile.FieldType.int)) ∈ lw_tbl := List.mem_append_right _ (List.mem_of_getElem? (i := 673) (by decide +kernel))
theorem k_674 : (Jvm.Cond.methodLink "ShoulderHeirs" (214 : Nat) ({ cls := "ShoulderHeirs$TurnSearch", name := "seek", desc := "(II)Z" } : Jvm.MethodName)) ∈ lw_tbl := List.mem_append_right _ (List.mem_of_getElem? (i := 674) (by decide +kernel))
theorem k_675 : (Jvm.Cond.instanceMethod ({ cls := "ShoulderHeirs$TurnSearch", name := "seek", desc := "(II)Z" } : Jvm.MethodName)) ∈ lw_tbl := List.mem_append_right _ (List.mem_of_getElem? (i := 675) (by decide +kernel))
theorem k_676 : (Jvm.Cond.selects "ShoulderHeirs$TurnSearch" ({ cls := "ShoulderHeirs$TurnSearch", name := "seek", desc := "(II)Z" } : Jvm.MethodName) ({ cls := "ShoulderHeirs$TurnSearch", name := "seek", desc := "(II)Z" } : Jvm.MethodName)) ∈ lw_tbl := List.mem_append_right _ (List.mem_of_getElem? (i := 676) (by decide +kernel))
theorem k_677 : (Jvm.Cond.code ({ cls := "ShoulderHeirs$TurnSearch", name := "seek", desc := "(II)Z" } : Jvm.MethodName) prog_7_method_2_code (4 : Nat) (Option.some Jvm.ClassFile.FieldType.boolean)) ∈ lw_tbl := List.mem_append_right _ (List.mem_of_getElem? (i := 677) (by decide +kernel))
theorem k_678 : (Jvm.Cond.methodLink "ShoulderHeirs$TurnSearch" (53 : Nat) ({ cls := "ShoulderHeirs$TurnSearch", name := "lookAhead", desc := "()V" } : Jvm.MethodName)) ∈ lw_tbl := List.mem_append_right _ (List.mem_of_getElem? (i := 678) (by decide +kernel))
theorem k_679 : (Jvm.Cond.privateMethod ({ cls := "ShoulderHeirs$TurnSearch", name := "lookAhead", desc := "()V" } : Jvm.MethodName)) ∈ lw_tbl := List.mem_append_right _ (List.mem_of_getElem? (i := 679) (by decide +kernel))
theorem k_680 : (Jvm.Cond.instanceMethod ({ cls := "ShoulderHeirs$TurnSearch", name := "lookAhead", desc := "()V" } : Jvm.MethodName)) ∈ lw_tbl := List.mem_append_right _ (List.mem_of_getElem? (i := 680) (by decide +kernel))
theorem k_681 : (Jvm.Cond.code ({ cls := "ShoulderHeirs$TurnSearch", name := "lookAhead", desc := "()V" } : Jvm.MethodName) prog_7_method_3_code (3 : Nat) (Option.none : Option Jvm.ClassFile.FieldType)) ∈ lw_tbl := List.mem_append_right _ (List.mem_of_getElem? (i := 681) (by decide +kernel))
theorem k_682 : (Jvm.Cond.methodLinkNest "ShoulderHeirs$TurnSearch" (66 : Nat) ({ cls := "ShoulderHeirs", name := "isIn", desc := "(II)Z" } : Jvm.MethodName) "ShoulderHeirs") ∈ lw_tbl := List.mem_append_right _ (List.mem_of_getElem? (i := 682) (by decide +kernel))
theorem k_683 : (Jvm.Cond.methodLink "ShoulderHeirs$TurnSearch" (81 : Nat) ({ cls := "ShoulderHeirs$Funeral", name := "priceAt", desc := "(I)I" } : Jvm.MethodName)) ∈ lw_tbl := List.mem_append_right _ (List.mem_of_getElem? (i := 683) (by decide +kernel))
theorem k_684 : (Jvm.Cond.methodLink "ShoulderHeirs$TurnSearch" (56 : Nat) ({ cls := "ShoulderHeirs$Walk", name := "begin", desc := "(LShoulderHeirs$Funeral;)V" } : Jvm.MethodName)) ∈ lw_tbl := List.mem_append_right _ (List.mem_of_getElem? (i := 684) (by decide +kernel))
theorem k_685 : (Jvm.Cond.methodLink "ShoulderHeirs$TurnSearch" (62 : Nat) ({ cls := "ShoulderHeirs$TurnSearch", name := "isOpen", desc := "(LShoulderHeirs$Walk;)Z" } : Jvm.MethodName)) ∈ lw_tbl := List.mem_append_right _ (List.mem_of_getElem? (i := 685) (by decide +kernel))
theorem k_686 : (Jvm.Cond.privateMethod ({ cls := "ShoulderHeirs$TurnSearch", name := "isOpen", desc := "(LShoulderHeirs$Walk;)Z" } : Jvm.MethodName)) ∈ lw_tbl := List.mem_append_right _ (List.mem_of_getElem? (i := 686) (by decide +kernel))
theorem k_687 : (Jvm.Cond.instanceMethod ({ cls := "ShoulderHeirs$TurnSearch", name := "isOpen", desc := "(LShoulderHeirs$Walk;)Z" } : Jvm.MethodName)) ∈ lw_tbl := List.mem_append_right _ (List.mem_of_getElem? (i := 687) (by decide +kernel))
theorem k_688 : (Jvm.Cond.code ({ cls := "ShoulderHeirs$TurnSearch", name := "isOpen", desc := "(LShoulderHeirs$Walk;)Z" } : Jvm.MethodName) prog_7_method_4_code (2 : Nat) (Option.some Jvm.ClassFile.FieldType.boolean)) ∈ lw_tbl := List.mem_append_right _ (List.mem_of_getElem? (i := 688) (by decide +kernel))
theorem k_689 : (Jvm.Cond.methodLink "ShoulderHeirs$TurnSearch" (88 : Nat) ({ cls := "ShoulderHeirs$Walk", name := "hasStumbled", desc := "(I)Z" } : Jvm.MethodName)) ∈ lw_tbl := List.mem_append_right _ (List.mem_of_getElem? (i := 689) (by decide +kernel))
theorem k_690 : (Jvm.Cond.methodLink "ShoulderHeirs$TurnSearch" (70 : Nat) ({ cls := "ShoulderHeirs$TurnSearch", name := "seekFrom", desc := "(I)V" } : Jvm.MethodName)) ∈ lw_tbl := List.mem_append_right _ (List.mem_of_getElem? (i := 690) (by decide +kernel))
theorem k_691 : (Jvm.Cond.privateMethod ({ cls := "ShoulderHeirs$TurnSearch", name := "seekFrom", desc := "(I)V" } : Jvm.MethodName)) ∈ lw_tbl := List.mem_append_right _ (List.mem_of_getElem? (i := 691) (by decide +kernel))
theorem k_692 : (Jvm.Cond.instanceMethod ({ cls := "ShoulderHeirs$TurnSearch", name := "seekFrom", desc := "(I)V" } : Jvm.MethodName)) ∈ lw_tbl := List.mem_append_right _ (List.mem_of_getElem? (i := 692) (by decide +kernel))
theorem k_693 : (Jvm.Cond.code ({ cls := "ShoulderHeirs$TurnSearch", name := "seekFrom", desc := "(I)V" } : Jvm.MethodName) prog_7_method_5_code (3 : Nat) (Option.none : Option Jvm.ClassFile.FieldType)) ∈ lw_tbl := List.mem_append_right _ (List.mem_of_getElem? (i := 693) (by decide +kernel))
theorem k_694 : (Jvm.Cond.methodLink "ShoulderHeirs$TurnSearch" (92 : Nat) ({ cls := "ShoulderHeirs$Walk", name := "follow", desc := "(LShoulderHeirs$Walk;)V" } : Jvm.MethodName)) ∈ lw_tbl := List.mem_append_right _ (List.mem_of_getElem? (i := 694) (by decide +kernel))
theorem k_695 : (Jvm.Cond.instanceMethod ({ cls := "ShoulderHeirs$Walk", name := "follow", desc := "(LShoulderHeirs$Walk;)V" } : Jvm.MethodName)) ∈ lw_tbl := List.mem_append_right _ (List.mem_of_getElem? (i := 695) (by decide +kernel))
theorem k_696 : (Jvm.Cond.selects "ShoulderHeirs$Walk" ({ cls := "ShoulderHeirs$Walk", name := "follow", desc := "(LShoulderHeirs$Walk;)V" } : Jvm.MethodName) ({ cls := "ShoulderHeirs$Walk", name := "follow", desc := "(LShoulderHeirs$Walk;)V" } : Jvm.MethodName)) ∈ lw_tbl := List.mem_append_right _ (List.mem_of_getElem? (i := 696) (by decide +kernel))
theorem k_697 : (Jvm.Cond.code ({ cls := "ShoulderHeirs$Walk", name := "follow", desc := "(LShoulderHeirs$Walk;)V" } : Jvm.MethodName) prog_9_method_3_code (2 : Nat) (Option.none : Option Jvm.ClassFile.FieldType)) ∈ lw_tbl := List.mem_append_right _ (List.mem_of_getElem? (i := 697) (by decide +kernel))
theorem k_698 : (Jvm.Cond.methodLink "ShoulderHeirs$Walk" (59 : Nat) ({ cls := "java/lang/System", name := "arraycopy", desc := "(Ljava/lang/Object;ILjava/lang/Object;II)V" } : Jvm.MethodName)) ∈ lw_tbl := List.mem_append_right _ (List.mem_of_getElem? (i := 698) (by decide +kernel))
theorem k_699 : (Jvm.Cond.methodLink "ShoulderHeirs$TurnSearch" (74 : Nat) ({ cls := "ShoulderHeirs$Walk", name := "step", desc := "(II)I" } : Jvm.MethodName)) ∈ lw_tbl := List.mem_append_right _ (List.mem_of_getElem? (i := 699) (by decide +kernel))
theorem k_700 : (Jvm.Cond.methodLink "ShoulderHeirs$TurnSearch" (96 : Nat) ({ cls := "ShoulderHeirs$TurnSearch", name := "weigh", desc := "(II)V" } : Jvm.MethodName)) ∈ lw_tbl := List.mem_append_right _ (List.mem_of_getElem? (i := 700) (by decide +kernel))
theorem k_701 : (Jvm.Cond.privateMethod ({ cls := "ShoulderHeirs$TurnSearch", name := "weigh", desc := "(II)V" } : Jvm.MethodName)) ∈ lw_tbl := List.mem_append_right _ (List.mem_of_getElem? (i := 701) (by decide +kernel))
theorem k_702 : (Jvm.Cond.instanceMethod ({ cls := "ShoulderHeirs$TurnSearch", name := "weigh", desc := "(II)V" } : Jvm.MethodName)) ∈ lw_tbl := List.mem_append_right _ (List.mem_of_getElem? (i := 702) (by decide +kernel))
theorem k_703 : (Jvm.Cond.code ({ cls := "ShoulderHeirs$TurnSearch", name := "weigh", desc := "(II)V" } : Jvm.MethodName) prog_7_method_6_code (4 : Nat) (Option.none : Option Jvm.ClassFile.FieldType)) ∈ lw_tbl := List.mem_append_right _ (List.mem_of_getElem? (i := 703) (by decide +kernel))
theorem k_704 : (Jvm.Cond.methodLink "ShoulderHeirs$TurnSearch" (100 : Nat) ({ cls := "ShoulderHeirs$Walk", name := "acres", desc := "(I)I" } : Jvm.MethodName)) ∈ lw_tbl := List.mem_append_right _ (List.mem_of_getElem? (i := 704) (by decide +kernel))
theorem k_705 : (Jvm.Cond.methodLink "ShoulderHeirsLaw" (69 : Nat) ({ cls := "ShoulderHeirs", name := "safe", desc := "()I" } : Jvm.MethodName)) ∈ lw_tbl := List.mem_append_right _ (List.mem_of_getElem? (i := 705) (by decide +kernel))
theorem k_706 : (Jvm.Cond.instanceMethod ({ cls := "ShoulderHeirs", name := "safe", desc := "()I" } : Jvm.MethodName)) ∈ lw_tbl := List.mem_append_right _ (List.mem_of_getElem? (i := 706) (by decide +kernel))
theorem k_707 : (Jvm.Cond.selects "ShoulderHeirs" ({ cls := "ShoulderHeirs", name := "safe", desc := "()I" } : Jvm.MethodName) ({ cls := "ShoulderHeirs", name := "safe", desc := "()I" } : Jvm.MethodName)) ∈ lw_tbl := List.mem_append_right _ (List.mem_of_getElem? (i := 707) (by decide +kernel))
theorem k_708 : (Jvm.Cond.code ({ cls := "ShoulderHeirs", name := "safe", desc := "()I" } : Jvm.MethodName) prog_1_method_15_code (2 : Nat) (Option.some Jvm.ClassFile.FieldType.int)) ∈ lw_tbl := List.mem_append_right _ (List.mem_of_getElem? (i := 708) (by decide +kernel))
theorem k_709 : (Jvm.Cond.methodLink "ShoulderHeirs" (224 : Nat) ({ cls := "ShoulderHeirs", name := "walkWithout", desc := "(I)V" } : Jvm.MethodName)) ∈ lw_tbl := List.mem_append_right _ (List.mem_of_getElem? (i := 709) (by decide +kernel))
theorem k_710 : (Jvm.Cond.privateMethod ({ cls := "ShoulderHeirs", name := "walkWithout", desc := "(I)V" } : Jvm.MethodName)) ∈ lw_tbl := List.mem_append_right _ (List.mem_of_getElem? (i := 710) (by decide +kernel))
theorem k_711 : (Jvm.Cond.instanceMethod ({ cls := "ShoulderHeirs", name := "walkWithout", desc := "(I)V" } : Jvm.MethodName)) ∈ lw_tbl := List.mem_append_right _ (List.mem_of_getElem? (i := 711) (by decide +kernel))
theorem k_712 : (Jvm.Cond.code ({ cls := "ShoulderHeirs", name := "walkWithout", desc := "(I)V" } : Jvm.MethodName) prog_1_method_32_code (2 : Nat) (Option.none : Option Jvm.ClassFile.FieldType)) ∈ lw_tbl := List.mem_append_right _ (List.mem_of_getElem? (i := 712) (by decide +kernel))
theorem k_713 : (Jvm.Cond.methodLink "ShoulderHeirsLaw" (73 : Nat) ({ cls := "ShoulderHeirs", name := "needed", desc := "()I" } : Jvm.MethodName)) ∈ lw_tbl := List.mem_append_right _ (List.mem_of_getElem? (i := 713) (by decide +kernel))
theorem k_714 : (Jvm.Cond.instanceMethod ({ cls := "ShoulderHeirs", name := "needed", desc := "()I" } : Jvm.MethodName)) ∈ lw_tbl := List.mem_append_right _ (List.mem_of_getElem? (i := 714) (by decide +kernel))
theorem k_715 : (Jvm.Cond.selects "ShoulderHeirs" ({ cls := "ShoulderHeirs", name := "needed", desc := "()I" } : Jvm.MethodName) ({ cls := "ShoulderHeirs", name := "needed", desc := "()I" } : Jvm.MethodName)) ∈ lw_tbl := List.mem_append_right _ (List.mem_of_getElem? (i := 715) (by decide +kernel))
theorem k_716 : (Jvm.Cond.code ({ cls := "ShoulderHeirs", name := "needed", desc := "()I" } : Jvm.MethodName) prog_1_method_16_code (4 : Nat) (Option.some Jvm.ClassFile.FieldType.int)) ∈ lw_tbl := List.mem_append_right _ (List.mem_of_getElem? (i := 716) (by decide +kernel))
theorem k_717 : (Jvm.Cond.methodLink "ShoulderHeirs" (227 : Nat) ({ cls := "java/lang/Integer", name := "bitCount", desc := "(I)I" } : Jvm.MethodName)) ∈ lw_tbl := List.mem_append_right _ (List.mem_of_getElem? (i := 717) (by decide +kernel))
theorem k_718 : (Jvm.Cond.methodLink "ShoulderHeirs" (232 : Nat) ({ cls := "ShoulderHeirs", name := "bearUpAlone", desc := "(I)Z" } : Jvm.MethodName)) ∈ lw_tbl := List.mem_append_right _ (List.mem_of_getElem? (i := 718) (by decide +kernel))
theorem k_719 : (Jvm.Cond.privateMethod ({ cls := "ShoulderHeirs", name := "bearUpAlone", desc := "(I)Z" } : Jvm.MethodName)) ∈ lw_tbl := List.mem_append_right _ (List.mem_of_getElem? (i := 719) (by decide +kernel))
theorem k_720 : (Jvm.Cond.instanceMethod ({ cls := "ShoulderHeirs", name := "bearUpAlone", desc := "(I)Z" } : Jvm.MethodName)) ∈ lw_tbl := List.mem_append_right _ (List.mem_of_getElem? (i := 720) (by decide +kernel))
theorem k_721 : (Jvm.Cond.code ({ cls := "ShoulderHeirs", name := "bearUpAlone", desc := "(I)Z" } : Jvm.MethodName) prog_1_method_33_code (3 : Nat) (Option.some Jvm.ClassFile.FieldType.boolean)) ∈ lw_tbl := List.mem_append_right _ (List.mem_of_getElem? (i := 721) (by decide +kernel))
theorem k_722 : (Jvm.Cond.methodLink "ShoulderHeirsLaw" (77 : Nat) ({ cls := "ShoulderHeirs", name := "far", desc := "(I)I" } : Jvm.MethodName)) ∈ lw_tbl := List.mem_append_right _ (List.mem_of_getElem? (i := 722) (by decide +kernel))
theorem k_723 : (Jvm.Cond.instanceMethod ({ cls := "ShoulderHeirs", name := "far", desc := "(I)I" } : Jvm.MethodName)) ∈ lw_tbl := List.mem_append_right _ (List.mem_of_getElem? (i := 723) (by decide +kernel))
theorem k_724 : (Jvm.Cond.selects "ShoulderHeirs" ({ cls := "ShoulderHeirs", name := "far", desc := "(I)I" } : Jvm.MethodName) ({ cls := "ShoulderHeirs", name := "far", desc := "(I)I" } : Jvm.MethodName)) ∈ lw_tbl := List.mem_append_right _ (List.mem_of_getElem? (i := 724) (by decide +kernel))
theorem k_725 : (Jvm.Cond.code ({ cls := "ShoulderHeirs", name := "far", desc := "(I)I" } : Jvm.MethodName) prog_1_method_17_code (2 : Nat) (Option.some Jvm.ClassFile.FieldType.int)) ∈ lw_tbl := List.mem_append_right _ (List.mem_of_getElem? (i := 725) (by decide +kernel))
theorem k_726 : (Jvm.Cond.methodLink "ShoulderHeirs" (235 : Nat) ({ cls := "ShoulderHeirs$OrderSearch", name := "seek", desc := "(II)V" } : Jvm.MethodName)) ∈ lw_tbl := List.mem_append_right _ (List.mem_of_getElem? (i := 726) (by decide +kernel))
theorem k_727 : (Jvm.Cond.instanceMethod ({ cls := "ShoulderHeirs$OrderSearch", name := "seek", desc := "(II)V" } : Jvm.MethodName)) ∈ lw_tbl := List.mem_append_right _ (List.mem_of_getElem? (i := 727) (by decide +kernel))
theorem k_728 : (Jvm.Cond.selects "ShoulderHeirs$OrderSearch" ({ cls := "ShoulderHeirs$OrderSearch", name := "seek", desc := "(II)V" } : Jvm.MethodName) ({ cls := "ShoulderHeirs$OrderSearch", name := "seek", desc := "(II)V" } : Jvm.MethodName)) ∈ lw_tbl := List.mem_append_right _ (List.mem_of_getElem? (i := 728) (by decide +kernel))
theorem k_729 : (Jvm.Cond.code ({ cls := "ShoulderHeirs$OrderSearch", name := "seek", desc := "(II)V" } : Jvm.MethodName) prog_4_method_2_code (3 : Nat) (Option.none : Option Jvm.ClassFile.FieldType)) ∈ lw_tbl := List.mem_append_right _ (List.mem_of_getElem? (i := 729) (by decide +kernel))
theorem k_730 : (Jvm.Cond.methodLink "ShoulderHeirs$OrderSearch" (32 : Nat) ({ cls := "ShoulderHeirs$OrderSearch", name := "tryNext", desc := "(LShoulderHeirs$OrderSearch;III)V" } : Jvm.MethodName)) ∈ lw_tbl := List.mem_append_right _ (List.mem_of_getElem? (i := 730) (by decide +kernel))
theorem k_731 : (Jvm.Cond.static ({ cls := "ShoulderHeirs$OrderSearch", name := "tryNext", desc := "(LShoulderHeirs$OrderSearch;III)V" } : Jvm.MethodName)) ∈ lw_tbl := List.mem_append_right _ (List.mem_of_getElem? (i := 731) (by decide +kernel))
theorem k_732 : (Jvm.Cond.code ({ cls := "ShoulderHeirs$OrderSearch", name := "tryNext", desc := "(LShoulderHeirs$OrderSearch;III)V" } : Jvm.MethodName) prog_4_method_3_code (5 : Nat) (Option.none : Option Jvm.ClassFile.FieldType)) ∈ lw_tbl := List.mem_append_right _ (List.mem_of_getElem? (i := 732) (by decide +kernel))
theorem k_733 : (Jvm.Cond.methodLink "ShoulderHeirs$OrderSearch" (41 : Nat) ({ cls := "ShoulderHeirs$OrderSearch", name := "note", desc := "(I)V" } : Jvm.MethodName)) ∈ lw_tbl := List.mem_append_right _ (List.mem_of_getElem? (i := 733) (by decide +kernel))
theorem k_734 : (Jvm.Cond.privateMethod ({ cls := "ShoulderHeirs$OrderSearch", name := "note", desc := "(I)V" } : Jvm.MethodName)) ∈ lw_tbl := List.mem_append_right _ (List.mem_of_getElem? (i := 734) (by decide +kernel))
theorem k_735 : (Jvm.Cond.instanceMethod ({ cls := "ShoulderHeirs$OrderSearch", name := "note", desc := "(I)V" } : Jvm.MethodName)) ∈ lw_tbl := List.mem_append_right _ (List.mem_of_getElem? (i := 735) (by decide +kernel))
theorem k_736 : (Jvm.Cond.code ({ cls := "ShoulderHeirs$OrderSearch", name := "note", desc := "(I)V" } : Jvm.MethodName) prog_4_method_4_code (2 : Nat) (Option.none : Option Jvm.ClassFile.FieldType)) ∈ lw_tbl := List.mem_append_right _ (List.mem_of_getElem? (i := 736) (by decide +kernel))
theorem k_737 : (Jvm.Cond.methodLink "ShoulderHeirs$OrderSearch" (56 : Nat) ({ cls := "java/lang/System", name := "arraycopy", desc := "(Ljava/lang/Object;ILjava/lang/Object;II)V" } : Jvm.MethodName)) ∈ lw_tbl := List.mem_append_right _ (List.mem_of_getElem? (i := 737) (by decide +kernel))
theorem k_738 : (Jvm.Cond.methodLinkNest "ShoulderHeirs$OrderSearch" (48 : Nat) ({ cls := "ShoulderHeirs", name := "isIn", desc := "(II)Z" } : Jvm.MethodName) "ShoulderHeirs") ∈ lw_tbl := List.mem_append_right _ (List.mem_of_getElem? (i := 738) (by decide +kernel))
theorem k_739 : (Jvm.Cond.methodLink "ShoulderHeirs$OrderSearch" (52 : Nat) ({ cls := "ShoulderHeirs$OrderSearch", name := "goAlone", desc := "(II)I" } : Jvm.MethodName)) ∈ lw_tbl := List.mem_append_right _ (List.mem_of_getElem? (i := 739) (by decide +kernel))
theorem k_740 : (Jvm.Cond.privateMethod ({ cls := "ShoulderHeirs$OrderSearch", name := "goAlone", desc := "(II)I" } : Jvm.MethodName)) ∈ lw_tbl := List.mem_append_right _ (List.mem_of_getElem? (i := 740) (by decide +kernel))
theorem k_741 : (Jvm.Cond.instanceMethod ({ cls := "ShoulderHeirs$OrderSearch", name := "goAlone", desc := "(II)I" } : Jvm.MethodName)) ∈ lw_tbl := List.mem_append_right _ (List.mem_of_getElem? (i := 741) (by decide +kernel))
theorem k_742 : (Jvm.Cond.code ({ cls := "ShoulderHeirs$OrderSearch", name := "goAlone", desc := "(II)I" } : Jvm.MethodName) prog_4_method_5_code (5 : Nat) (Option.some Jvm.ClassFile.FieldType.int)) ∈ lw_tbl := List.mem_append_right _ (List.mem_of_getElem? (i := 742) (by decide +kernel))
theorem k_743 : (Jvm.Cond.methodLink "ShoulderHeirs$OrderSearch" (65 : Nat) ({ cls := "ShoulderHeirs$Funeral", name := "slopeAt", desc := "(I)I" } : Jvm.MethodName)) ∈ lw_tbl := List.mem_append_right _ (List.mem_of_getElem? (i := 743) (by decide +kernel))
theorem k_744 : (Jvm.Cond.methodLinkNest "ShoulderHeirs$OrderSearch" (75 : Nat) ({ cls := "ShoulderHeirs", name := "toll", desc := "(IIII)I" } : Jvm.MethodName) "ShoulderHeirs") ∈ lw_tbl := List.mem_append_right _ (List.mem_of_getElem? (i := 744) (by decide +kernel))
theorem k_745 : (Jvm.Cond.methodLink "ShoulderHeirsLaw" (81 : Nat) ({ cls := "ShoulderHeirs", name := "son", desc := "(II)I" } : Jvm.MethodName)) ∈ lw_tbl := List.mem_append_right _ (List.mem_of_getElem? (i := 745) (by decide +kernel))
theorem k_746 : (Jvm.Cond.instanceMethod ({ cls := "ShoulderHeirs", name := "son", desc := "(II)I" } : Jvm.MethodName)) ∈ lw_tbl := List.mem_append_right _ (List.mem_of_getElem? (i := 746) (by decide +kernel))
theorem k_747 : (Jvm.Cond.selects "ShoulderHeirs" ({ cls := "ShoulderHeirs", name := "son", desc := "(II)I" } : Jvm.MethodName) ({ cls := "ShoulderHeirs", name := "son", desc := "(II)I" } : Jvm.MethodName)) ∈ lw_tbl := List.mem_append_right _ (List.mem_of_getElem? (i := 747) (by decide +kernel))
theorem k_748 : (Jvm.Cond.code ({ cls := "ShoulderHeirs", name := "son", desc := "(II)I" } : Jvm.MethodName) prog_1_method_18_code (4 : Nat) (Option.some Jvm.ClassFile.FieldType.int)) ∈ lw_tbl := List.mem_append_right _ (List.mem_of_getElem? (i := 748) (by decide +kernel))
theorem k_749 : (Jvm.Cond.methodLink "ShoulderHeirsLaw" (85 : Nat) ({ cls := "ShoulderHeirs", name := "cairn", desc := "(III)I" } : Jvm.MethodName)) ∈ lw_tbl := List.mem_append_right _ (List.mem_of_getElem? (i := 749) (by decide +kernel))
theorem k_750 : (Jvm.Cond.instanceMethod ({ cls := "ShoulderHeirs", name := "cairn", desc := "(III)I" } : Jvm.MethodName)) ∈ lw_tbl := List.mem_append_right _ (List.mem_of_getElem? (i := 750) (by decide +kernel))
theorem k_751 : (Jvm.Cond.selects "ShoulderHeirs" ({ cls := "ShoulderHeirs", name := "cairn", desc := "(III)I" } : Jvm.MethodName) ({ cls := "ShoulderHeirs", name := "cairn", desc := "(III)I" } : Jvm.MethodName)) ∈ lw_tbl := List.mem_append_right _ (List.mem_of_getElem? (i := 751) (by decide +kernel))
theorem k_752 : (Jvm.Cond.code ({ cls := "ShoulderHeirs", name := "cairn", desc := "(III)I" } : Jvm.MethodName) prog_1_method_19_code (4 : Nat) (Option.some Jvm.ClassFile.FieldType.int)) ∈ lw_tbl := List.mem_append_right _ (List.mem_of_getElem? (i := 752) (by decide +kernel))
theorem k_753 : (Jvm.Cond.methodLink "ShoulderHeirs" (244 : Nat) ({ cls := "ShoulderHeirs$Funeral", name := "hasStretch", desc := "(I)Z" } : Jvm.MethodName)) ∈ lw_tbl := List.mem_append_right _ (List.mem_of_getElem? (i := 753) (by decide +kernel))
theorem k_754 : (Jvm.Cond.methodLink "ShoulderHeirs" (250 : Nat) ({ cls := "ShoulderHeirs$Funeral", name := "moveBorder", desc := "(II)Z" } : Jvm.MethodName)) ∈ lw_tbl := List.mem_append_right _ (List.mem_of_getElem? (i := 754) (by decide +kernel))
theorem k_755 : (Jvm.Cond.instanceMethod ({ cls := "ShoulderHeirs$Funeral", name := "moveBorder", desc := "(II)Z" } : Jvm.MethodName)) ∈ lw_tbl := List.mem_append_right _ (List.mem_of_getElem? (i := 755) (by decide +kernel))
theorem k_756 : (Jvm.Cond.selects "ShoulderHeirs$Funeral" ({ cls := "ShoulderHeirs$Funeral", name := "moveBorder", desc := "(II)Z" } : Jvm.MethodName) ({ cls := "ShoulderHeirs$Funeral", name := "moveBorder", desc := "(II)Z" } : Jvm.MethodName)) ∈ lw_tbl := List.mem_append_right _ (List.mem_of_getElem? (i := 756) (by decide +kernel))
theorem k_757 : (Jvm.Cond.code ({ cls := "ShoulderHeirs$Funeral", name := "moveBorder", desc := "(II)Z" } : Jvm.MethodName) prog_3_method_9_code (3 : Nat) (Option.some Jvm.ClassFile.FieldType.boolean)) ∈ lw_tbl := List.mem_append_right _ (List.mem_of_getElem? (i := 757) (by decide +kernel))
theorem k_758 : (Jvm.Cond.methodLink "ShoulderHeirsLaw" (89 : Nat) ({ cls := "ShoulderHeirs", name := "heir", desc := "(I)I" } : Jvm.MethodName)) ∈ lw_tbl := List.mem_append_right _ (List.mem_of_getElem? (i := 758) (by decide +kernel))
theorem k_759 : (Jvm.Cond.instanceMethod ({ cls := "ShoulderHeirs", name := "heir", desc := "(I)I" } : Jvm.MethodName)) ∈ lw_tbl := List.mem_append_right _ (List.mem_of_getElem? (i := 759) (by decide +kernel))
theorem k_760 : (Jvm.Cond.selects "ShoulderHeirs" ({ cls := "ShoulderHeirs", name := "heir", desc := "(I)I" } : Jvm.MethodName) ({ cls := "ShoulderHeirs", name := "heir", desc := "(I)I" } : Jvm.MethodName)) ∈ lw_tbl := List.mem_append_right _ (List.mem_of_getElem? (i := 760) (by decide +kernel))
theorem k_761 : (Jvm.Cond.code ({ cls := "ShoulderHeirs", name := "heir", desc := "(I)I" } : Jvm.MethodName) prog_1_method_20_code (2 : Nat) (Option.some Jvm.ClassFile.FieldType.int)) ∈ lw_tbl := List.mem_append_right _ (List.mem_of_getElem? (i := 761) (by decide +kernel))
theorem k_762 : (Jvm.Cond.methodLink "ShoulderHeirs" (260 : Nat) ({ cls := "ShoulderHeirs$Walk", name := "first", desc := "(I)I" } : Jvm.MethodName)) ∈ lw_tbl := List.mem_append_right _ (List.mem_of_getElem? (i := 762) (by decide +kernel))
theorem k_763 : (Jvm.Cond.instanceMethod ({ cls := "ShoulderHeirs$Walk", name := "first", desc := "(I)I" } : Jvm.MethodName)) ∈ lw_tbl := List.mem_append_right _ (List.mem_of_getElem? (i := 763) (by decide +kernel))
theorem k_764 : (Jvm.Cond.selects "ShoulderHeirs$Walk" ({ cls := "ShoulderHeirs$Walk", name := "first", desc := "(I)I" } : Jvm.MethodName) ({ cls := "ShoulderHeirs$Walk", name := "first", desc := "(I)I" } : Jvm.MethodName)) ∈ lw_tbl := List.mem_append_right _ (List.mem_of_getElem? (i := 764) (by decide +kernel))
theorem k_765 : (Jvm.Cond.code ({ cls := "ShoulderHeirs$Walk", name := "first", desc := "(I)I" } : Jvm.MethodName) prog_9_method_12_code (4 : Nat) (Option.some Jvm.ClassFile.FieldType.int)) ∈ lw_tbl := List.mem_append_right _ (List.mem_of_getElem? (i := 765) (by decide +kernel))
theorem k_766 : (Jvm.Cond.methodLink "ShoulderHeirs$Walk" (126 : Nat) ({ cls := "ShoulderHeirs$Walk", name := "merit", desc := "(II)I" } : Jvm.MethodName)) ∈ lw_tbl := List.mem_append_right _ (List.mem_of_getElem? (i := 766) (by decide +kernel))
theorem k_767 : (Jvm.Cond.privateMethod ({ cls := "ShoulderHeirs$Walk", name := "merit", desc := "(II)I" } : Jvm.MethodName)) ∈ lw_tbl := List.mem_append_right _ (List.mem_of_getElem? (i := 767) (by decide +kernel))
theorem k_768 : (Jvm.Cond.instanceMethod ({ cls := "ShoulderHeirs$Walk", name := "merit", desc := "(II)I" } : Jvm.MethodName)) ∈ lw_tbl := List.mem_append_right _ (List.mem_of_getElem? (i := 768) (by decide +kernel))
theorem k_769 : (Jvm.Cond.code ({ cls := "ShoulderHeirs$Walk", name := "merit", desc := "(II)I" } : Jvm.MethodName) prog_9_method_13_code (3 : Nat) (Option.some Jvm.ClassFile.FieldType.int)) ∈ lw_tbl := List.mem_append_right _ (List.mem_of_getElem? (i := 769) (by decide +kernel))
theorem k_770 : (Jvm.Cond.methodLink "ShoulderHeirs$Walk" (129 : Nat) ({ cls := "ShoulderHeirs$Walk", name := "acres", desc := "(I)I" } : Jvm.MethodName)) ∈ lw_tbl := List.mem_append_right _ (List.mem_of_getElem? (i := 770) (by decide +kernel))
theorem k_771 : (Jvm.Cond.methodLink "ShoulderHeirsLaw" (93 : Nat) ({ cls := "ShoulderHeirs", name := "rests", desc := "(III)I" } : Jvm.MethodName)) ∈ lw_tbl := List.mem_append_right _ (List.mem_of_getElem? (i := 771) (by decide +kernel))
theorem k_772 : (Jvm.Cond.instanceMethod ({ cls := "ShoulderHeirs", name := "rests", desc := "(III)I" } : Jvm.MethodName)) ∈ lw_tbl := List.mem_append_right _ (List.mem_of_getElem? (i := 772) (by decide +kernel))
theorem k_773 : (Jvm.Cond.selects "ShoulderHeirs" ({ cls := "ShoulderHeirs", name := "rests", desc := "(III)I" } : Jvm.MethodName) ({ cls := "ShoulderHeirs", name := "rests", desc := "(III)I" } : Jvm.MethodName)) ∈ lw_tbl := List.mem_append_right _ (List.mem_of_getElem? (i := 773) (by decide +kernel))
theorem k_774 : (Jvm.Cond.code ({ cls := "ShoulderHeirs", name := "rests", desc := "(III)I" } : Jvm.MethodName) prog_1_method_21_code (4 : Nat) (Option.some Jvm.ClassFile.FieldType.int)) ∈ lw_tbl := List.mem_append_right _ (List.mem_of_getElem? (i := 774) (by decide +kernel))
theorem k_775 : (Jvm.Cond.methodLink "ShoulderHeirs" (263 : Nat) ({ cls := "ShoulderHeirs$Choices", name := "weigh", desc := "(II)V" } : Jvm.MethodName)) ∈ lw_tbl := List.mem_append_right _ (List.mem_of_getElem? (i := 775) (by decide +kernel))
theorem k_776 : (Jvm.Cond.instanceMethod ({ cls := "ShoulderHeirs$Choices", name := "weigh", desc := "(II)V" } : Jvm.MethodName)) ∈ lw_tbl := List.mem_append_right _ (List.mem_of_getElem? (i := 776) (by decide +kernel))
theorem k_777 : (Jvm.Cond.selects "ShoulderHeirs$Choices" ({ cls := "ShoulderHeirs$Choices", name := "weigh", desc := "(II)V" } : Jvm.MethodName) ({ cls := "ShoulderHeirs$Choices", name := "weigh", desc := "(II)V" } : Jvm.MethodName)) ∈ lw_tbl := List.mem_append_right _ (List.mem_of_getElem? (i := 777) (by decide +kernel))
theorem k_778 : (Jvm.Cond.code ({ cls := "ShoulderHeirs$Choices", name := "weigh", desc := "(II)V" } : Jvm.MethodName) prog_2_method_2_code (5 : Nat) (Option.none : Option Jvm.ClassFile.FieldType)) ∈ lw_tbl := List.mem_append_right _ (List.mem_of_getElem? (i := 778) (by decide +kernel))
theorem k_779 : (Jvm.Cond.methodLink "ShoulderHeirs$Choices" (37 : Nat) ({ cls := "ShoulderHeirs$Choices", name := "fill", desc := "(II)V" } : Jvm.MethodName)) ∈ lw_tbl := List.mem_append_right _ (List.mem_of_getElem? (i := 779) (by decide +kernel))
theorem k_780 : (Jvm.Cond.privateMethod ({ cls := "ShoulderHeirs$Choices", name := "fill", desc := "(II)V" } : Jvm.MethodName)) ∈ lw_tbl := List.mem_append_right _ (List.mem_of_getElem? (i := 780) (by decide +kernel))
theorem k_781 : (Jvm.Cond.instanceMethod ({ cls := "ShoulderHeirs$Choices", name := "fill", desc := "(II)V" } : Jvm.MethodName)) ∈ lw_tbl := List.mem_append_right _ (List.mem_of_getElem? (i := 781) (by decide +kernel))
theorem k_782 : (Jvm.Cond.code ({ cls := "ShoulderHeirs$Choices", name := "fill", desc := "(II)V" } : Jvm.MethodName) prog_2_method_3_code (6 : Nat) (Option.none : Option Jvm.ClassFile.FieldType)) ∈ lw_tbl := List.mem_append_right _ (List.mem_of_getElem? (i := 782) (by decide +kernel))
theorem k_783 : (Jvm.Cond.methodLink "ShoulderHeirs$Choices" (60 : Nat) ({ cls := "ShoulderHeirs$Choices", name := "bearStretch", desc := "(IIIII)V" } : Jvm.MethodName)) ∈ lw_tbl := List.mem_append_right _ (List.mem_of_getElem? (i := 783) (by decide +kernel))
theorem k_784 : (Jvm.Cond.privateMethod ({ cls := "ShoulderHeirs$Choices", name := "bearStretch", desc := "(IIIII)V" } : Jvm.MethodName)) ∈ lw_tbl := List.mem_append_right _ (List.mem_of_getElem? (i := 784) (by decide +kernel))
theorem k_785 : (Jvm.Cond.instanceMethod ({ cls := "ShoulderHeirs$Choices", name := "bearStretch", desc := "(IIIII)V" } : Jvm.MethodName)) ∈ lw_tbl := List.mem_append_right _ (List.mem_of_getElem? (i := 785) (by decide +kernel))
theorem k_786 : (Jvm.Cond.code ({ cls := "ShoulderHeirs$Choices", name := "bearStretch", desc := "(IIIII)V" } : Jvm.MethodName) prog_2_method_4_code (9 : Nat) (Option.none : Option Jvm.ClassFile.FieldType)) ∈ lw_tbl := List.mem_append_right _ (List.mem_of_getElem? (i := 786) (by decide +kernel))
theorem k_787 : (Jvm.Cond.methodLink "ShoulderHeirs$Choices" (70 : Nat) ({ cls := "ShoulderHeirs$Walk", name := "begin", desc := "(LShoulderHeirs$Funeral;)V" } : Jvm.MethodName)) ∈ lw_tbl := List.mem_append_right _ (List.mem_of_getElem? (i := 787) (by decide +kernel))
theorem k_788 : (Jvm.Cond.methodLink "ShoulderHeirs$Choices" (76 : Nat) ({ cls := "ShoulderHeirs$Walk", name := "step", desc := "(II)I" } : Jvm.MethodName)) ∈ lw_tbl := List.mem_append_right _ (List.mem_of_getElem? (i := 788) (by decide +kernel))
theorem k_789 : (Jvm.Cond.methodLink "ShoulderHeirs$Choices" (80 : Nat) ({ cls := "java/lang/Integer", name := "bitCount", desc := "(I)I" } : Jvm.MethodName)) ∈ lw_tbl := List.mem_append_right _ (List.mem_of_getElem? (i := 789) (by decide +kernel))
theorem k_790 : (Jvm.Cond.methodLinkNest "ShoulderHeirs$Choices" (86 : Nat) ({ cls := "ShoulderHeirs", name := "isIn", desc := "(II)Z" } : Jvm.MethodName) "ShoulderHeirs") ∈ lw_tbl := List.mem_append_right _ (List.mem_of_getElem? (i := 790) (by decide +kernel))
theorem k_791 : (Jvm.Cond.methodLink "ShoulderHeirs$Choices" (53 : Nat) ({ cls := "ShoulderHeirs$Choices", name := "isRest", desc := "(II)Z" } : Jvm.MethodName)) ∈ lw_tbl := List.mem_append_right _ (List.mem_of_getElem? (i := 791) (by decide +kernel))
theorem k_792 : (Jvm.Cond.privateMethod ({ cls := "ShoulderHeirs$Choices", name := "isRest", desc := "(II)Z" } : Jvm.MethodName)) ∈ lw_tbl := List.mem_append_right _ (List.mem_of_getElem? (i := 792) (by decide +kernel))
theorem k_793 : (Jvm.Cond.instanceMethod ({ cls := "ShoulderHeirs$Choices", name := "isRest", desc := "(II)Z" } : Jvm.MethodName)) ∈ lw_tbl := List.mem_append_right _ (List.mem_of_getElem? (i := 793) (by decide +kernel))
theorem k_794 : (Jvm.Cond.code ({ cls := "ShoulderHeirs$Choices", name := "isRest", desc := "(II)Z" } : Jvm.MethodName) prog_2_method_5_code (4 : Nat) (Option.some Jvm.ClassFile.FieldType.boolean)) ∈ lw_tbl := List.mem_append_right _ (List.mem_of_getElem? (i := 794) (by decide +kernel))
theorem k_795 : (Jvm.Cond.methodLink "ShoulderHeirs$Choices" (89 : Nat) ({ cls := "ShoulderHeirs$Choices", name := "ofFirst", desc := "(II)I" } : Jvm.MethodName)) ∈ lw_tbl := List.mem_append_right _ (List.mem_of_getElem? (i := 795) (by decide +kernel))
theorem k_796 : (Jvm.Cond.privateMethod ({ cls := "ShoulderHeirs$Choices", name := "ofFirst", desc := "(II)I" } : Jvm.MethodName)) ∈ lw_tbl := List.mem_append_right _ (List.mem_of_getElem? (i := 796) (by decide +kernel))
theorem k_797 : (Jvm.Cond.instanceMethod ({ cls := "ShoulderHeirs$Choices", name := "ofFirst", desc := "(II)I" } : Jvm.MethodName)) ∈ lw_tbl := List.mem_append_right _ (List.mem_of_getElem? (i := 797) (by decide +kernel))
theorem k_798 : (Jvm.Cond.code ({ cls := "ShoulderHeirs$Choices", name := "ofFirst", desc := "(II)I" } : Jvm.MethodName) prog_2_method_6_code (3 : Nat) (Option.some Jvm.ClassFile.FieldType.int)) ∈ lw_tbl := List.mem_append_right _ (List.mem_of_getElem? (i := 798) (by decide +kernel))
theorem k_799 : (Jvm.Cond.methodLink "ShoulderHeirs$Choices" (92 : Nat) ({ cls := "ShoulderHeirs$Choices", name := "ofOther", desc := "(II)I" } : Jvm.MethodName)) ∈ lw_tbl := List.mem_append_right _ (List.mem_of_getElem? (i := 799) (by decide +kernel))
theorem k_800 : (Jvm.Cond.privateMethod ({ cls := "ShoulderHeirs$Choices", name := "ofOther", desc := "(II)I" } : Jvm.MethodName)) ∈ lw_tbl := List.mem_append_right _ (List.mem_of_getElem? (i := 800) (by decide +kernel))
theorem k_801 : (Jvm.Cond.instanceMethod ({ cls := "ShoulderHeirs$Choices", name := "ofOther", desc := "(II)I" } : Jvm.MethodName)) ∈ lw_tbl := List.mem_append_right _ (List.mem_of_getElem? (i := 801) (by decide +kernel))
theorem k_802 : (Jvm.Cond.code ({ cls := "ShoulderHeirs$Choices", name := "ofOther", desc := "(II)I" } : Jvm.MethodName) prog_2_method_7_code (3 : Nat) (Option.some Jvm.ClassFile.FieldType.int)) ∈ lw_tbl := List.mem_append_right _ (List.mem_of_getElem? (i := 802) (by decide +kernel))
theorem k_803 : (Jvm.Cond.methodLink "ShoulderHeirsLaw" (97 : Nat) ({ cls := "ShoulderHeirs", name := "print", desc := "(II)I" } : Jvm.MethodName)) ∈ lw_tbl := List.mem_append_right _ (List.mem_of_getElem? (i := 803) (by decide +kernel))
theorem k_804 : (Jvm.Cond.instanceMethod ({ cls := "ShoulderHeirs", name := "print", desc := "(II)I" } : Jvm.MethodName)) ∈ lw_tbl := List.mem_append_right _ (List.mem_of_getElem? (i := 804) (by decide +kernel))
theorem k_805 : (Jvm.Cond.selects "ShoulderHeirs" ({ cls := "ShoulderHeirs", name := "print", desc := "(II)I" } : Jvm.MethodName) ({ cls := "ShoulderHeirs", name := "print", desc := "(II)I" } : Jvm.MethodName)) ∈ lw_tbl := List.mem_append_right _ (List.mem_of_getElem? (i := 805) (by decide +kernel))
theorem k_806 : (Jvm.Cond.code ({ cls := "ShoulderHeirs", name := "print", desc := "(II)I" } : Jvm.MethodName) prog_1_method_22_code (3 : Nat) (Option.some Jvm.ClassFile.FieldType.int)) ∈ lw_tbl := List.mem_append_right _ (List.mem_of_getElem? (i := 806) (by decide +kernel))
theorem k_807 : (Jvm.Cond.methodLink "ShoulderHeirsLaw" (101 : Nat) ({ cls := "ShoulderHeirs", name := "forget", desc := "()I" } : Jvm.MethodName)) ∈ lw_tbl := List.mem_append_right _ (List.mem_of_getElem? (i := 807) (by decide +kernel))
theorem k_808 : (Jvm.Cond.instanceMethod ({ cls := "ShoulderHeirs", name := "forget", desc := "()I" } : Jvm.MethodName)) ∈ lw_tbl := List.mem_append_right _ (List.mem_of_getElem? (i := 808) (by decide +kernel))
theorem k_809 : (Jvm.Cond.selects "ShoulderHeirs" ({ cls := "ShoulderHeirs", name := "forget", desc := "()I" } : Jvm.MethodName) ({ cls := "ShoulderHeirs", name := "forget", desc := "()I" } : Jvm.MethodName)) ∈ lw_tbl := List.mem_append_right _ (List.mem_of_getElem? (i := 809) (by decide +kernel))
theorem k_810 : (Jvm.Cond.code ({ cls := "ShoulderHeirs", name := "forget", desc := "()I" } : Jvm.MethodName) prog_1_method_23_code (2 : Nat) (Option.some Jvm.ClassFile.FieldType.int)) ∈ lw_tbl := List.mem_append_right _ (List.mem_of_getElem? (i := 810) (by decide +kernel))
theorem k_811 : (Jvm.Cond.methodLink "ShoulderHeirsLaw" (105 : Nat) ({ cls := "ShoulderHeirs", name := "failed", desc := "()I" } : Jvm.MethodName)) ∈ lw_tbl := List.mem_append_right _ (List.mem_of_getElem? (i := 811) (by decide +kernel))
theorem k_812 : (Jvm.Cond.instanceMethod ({ cls := "ShoulderHeirs", name := "failed", desc := "()I" } : Jvm.MethodName)) ∈ lw_tbl := List.mem_append_right _ (List.mem_of_getElem? (i := 812) (by decide +kernel))
theorem k_813 : (Jvm.Cond.selects "ShoulderHeirs" ({ cls := "ShoulderHeirs", name := "failed", desc := "()I" } : Jvm.MethodName) ({ cls := "ShoulderHeirs", name := "failed", desc := "()I" } : Jvm.MethodName)) ∈ lw_tbl := List.mem_append_right _ (List.mem_of_getElem? (i := 813) (by decide +kernel))
theorem k_814 : (Jvm.Cond.code ({ cls := "ShoulderHeirs", name := "failed", desc := "()I" } : Jvm.MethodName) prog_1_method_24_code (3 : Nat) (Option.some Jvm.ClassFile.FieldType.int)) ∈ lw_tbl := List.mem_append_right _ (List.mem_of_getElem? (i := 814) (by decide +kernel))
theorem k_815 : (Jvm.Cond.methodLink "ShoulderHeirs" (275 : Nat) ({ cls := "ShoulderHeirs", name := "printsAreSo", desc := "(LShoulderHeirs$Walk;)Z" } : Jvm.MethodName)) ∈ lw_tbl := List.mem_append_right _ (List.mem_of_getElem? (i := 815) (by decide +kernel))
theorem k_816 : (Jvm.Cond.privateMethod ({ cls := "ShoulderHeirs", name := "printsAreSo", desc := "(LShoulderHeirs$Walk;)Z" } : Jvm.MethodName)) ∈ lw_tbl := List.mem_append_right _ (List.mem_of_getElem? (i := 816) (by decide +kernel))
theorem k_817 : (Jvm.Cond.instanceMethod ({ cls := "ShoulderHeirs", name := "printsAreSo", desc := "(LShoulderHeirs$Walk;)Z" } : Jvm.MethodName)) ∈ lw_tbl := List.mem_append_right _ (List.mem_of_getElem? (i := 817) (by decide +kernel))
theorem k_818 : (Jvm.Cond.code ({ cls := "ShoulderHeirs", name := "printsAreSo", desc := "(LShoulderHeirs$Walk;)Z" } : Jvm.MethodName) prog_1_method_35_code (3 : Nat) (Option.some Jvm.ClassFile.FieldType.boolean)) ∈ lw_tbl := List.mem_append_right _ (List.mem_of_getElem? (i := 818) (by decide +kernel))
theorem k_819 : (Jvm.Cond.methodLink "ShoulderHeirsLaw" (109 : Nat) ({ cls := "ShoulderHeirs", name := "odds", desc := "(III)I" } : Jvm.MethodName)) ∈ lw_tbl := List.mem_append_right _ (List.mem_of_getElem? (i := 819) (by decide +kernel))
theorem k_820 : (Jvm.Cond.instanceMethod ({ cls := "ShoulderHeirs", name := "odds", desc := "(III)I" } : Jvm.MethodName)) ∈ lw_tbl := List.mem_append_right _ (List.mem_of_getElem? (i := 820) (by decide +kernel))
theorem k_821 : (Jvm.Cond.selects "ShoulderHeirs" ({ cls := "ShoulderHeirs", name := "odds", desc := "(III)I" } : Jvm.MethodName) ({ cls := "ShoulderHeirs", name := "odds", desc := "(III)I" } : Jvm.MethodName)) ∈ lw_tbl := List.mem_append_right _ (List.mem_of_getElem? (i := 821) (by decide +kernel))
theorem k_822 : (Jvm.Cond.code ({ cls := "ShoulderHeirs", name := "odds", desc := "(III)I" } : Jvm.MethodName) prog_1_method_25_code (10 : Nat) (Option.some Jvm.ClassFile.FieldType.int)) ∈ lw_tbl := List.mem_append_right _ (List.mem_of_getElem? (i := 822) (by decide +kernel))
theorem k_823 : (Jvm.Cond.methodLink "ShoulderHeirs" (279 : Nat) ({ cls := "ShoulderHeirs", name := "power", desc := "(II)I" } : Jvm.MethodName)) ∈ lw_tbl := List.mem_append_right _ (List.mem_of_getElem? (i := 823) (by decide +kernel))
theorem k_824 : (Jvm.Cond.static ({ cls := "ShoulderHeirs", name := "power", desc := "(II)I" } : Jvm.MethodName)) ∈ lw_tbl := List.mem_append_right _ (List.mem_of_getElem? (i := 824) (by decide +kernel))
theorem k_825 : (Jvm.Cond.code ({ cls := "ShoulderHeirs", name := "power", desc := "(II)I" } : Jvm.MethodName) prog_1_method_38_code (4 : Nat) (Option.some Jvm.ClassFile.FieldType.int)) ∈ lw_tbl := List.mem_append_right _ (List.mem_of_getElem? (i := 825) (by decide +kernel))
theorem k_826 : (Jvm.Cond.methodLink "ShoulderHeirs" (282 : Nat) ({ cls := "ShoulderHeirs", name := "neverStandsWithout", desc := "(I)Z" } : Jvm.MethodName)) ∈ lw_tbl := List.mem_append_right _ (List.mem_of_getElem? (i := 826) (by decide +kernel))
theorem k_827 : (Jvm.Cond.privateMethod ({ cls := "ShoulderHeirs", name := "neverStandsWithout", desc := "(I)Z" } : Jvm.MethodName)) ∈ lw_tbl := List.mem_append_right _ (List.mem_of_getElem? (i := 827) (by decide +kernel))
theorem k_828 : (Jvm.Cond.instanceMethod ({ cls := "ShoulderHeirs", name := "neverStandsWithout", desc := "(I)Z" } : Jvm.MethodName)) ∈ lw_tbl := List.mem_append_right _ (List.mem_of_getElem? (i := 828) (by decide +kernel))
theorem k_829 : (Jvm.Cond.code ({ cls := "ShoulderHeirs", name := "neverStandsWithout", desc := "(I)Z" } : Jvm.MethodName) prog_1_method_34_code (2 : Nat) (Option.some Jvm.ClassFile.FieldType.boolean)) ∈ lw_tbl := List.mem_append_right _ (List.mem_of_getElem? (i := 829) (by decide +kernel))
theorem k_830 : (Jvm.Cond.methodLink "ShoulderHeirsLaw" (113 : Nat) ({ cls := "ShoulderHeirs", name := "rain", desc := "(II)I" } : Jvm.MethodName)) ∈ lw_tbl := List.mem_append_right _ (List.mem_of_getElem? (i := 830) (by decide +kernel))
theorem k_831 : (Jvm.Cond.instanceMethod ({ cls := "ShoulderHeirs", name := "rain", desc := "(II)I" } : Jvm.MethodName)) ∈ lw_tbl := List.mem_append_right _ (List.mem_of_getElem? (i := 831) (by decide +kernel))
theorem k_832 : (Jvm.Cond.selects "ShoulderHeirs" ({ cls := "ShoulderHeirs", name := "rain", desc := "(II)I" } : Jvm.MethodName) ({ cls := "ShoulderHeirs", name := "rain", desc := "(II)I" } : Jvm.MethodName)) ∈ lw_tbl := List.mem_append_right _ (List.mem_of_getElem? (i := 832) (by decide +kernel))
theorem k_833 : (Jvm.Cond.code ({ cls := "ShoulderHeirs", name := "rain", desc := "(II)I" } : Jvm.MethodName) prog_1_method_26_code (3 : Nat) (Option.some Jvm.ClassFile.FieldType.int)) ∈ lw_tbl := List.mem_append_right _ (List.mem_of_getElem? (i := 833) (by decide +kernel))
theorem k_834 : (Jvm.Cond.methodLink "ShoulderHeirsLaw" (117 : Nat) ({ cls := "ShoulderHeirs", name := "keep", desc := "()I" } : Jvm.MethodName)) ∈ lw_tbl := List.mem_append_right _ (List.mem_of_getElem? (i := 834) (by decide +kernel))
theorem k_835 : (Jvm.Cond.instanceMethod ({ cls := "ShoulderHeirs", name := "keep", desc := "()I" } : Jvm.MethodName)) ∈ lw_tbl := List.mem_append_right _ (List.mem_of_getElem? (i := 835) (by decide +kernel))
theorem k_836 : (Jvm.Cond.selects "ShoulderHeirs" ({ cls := "ShoulderHeirs", name := "keep", desc := "()I" } : Jvm.MethodName) ({ cls := "ShoulderHeirs", name := "keep", desc := "()I" } : Jvm.MethodName)) ∈ lw_tbl := List.mem_append_right _ (List.mem_of_getElem? (i := 836) (by decide +kernel))
theorem k_837 : (Jvm.Cond.code ({ cls := "ShoulderHeirs", name := "keep", desc := "()I" } : Jvm.MethodName) prog_1_method_27_code (1 : Nat) (Option.some Jvm.ClassFile.FieldType.int)) ∈ lw_tbl := List.mem_append_right _ (List.mem_of_getElem? (i := 837) (by decide +kernel))
theorem k_838 : (Jvm.Cond.methodLink "ShoulderHeirs" (288 : Nat) ({ cls := "ShoulderHeirs$Pile", name := "isFull", desc := "()Z" } : Jvm.MethodName)) ∈ lw_tbl := List.mem_append_right _ (List.mem_of_getElem? (i := 838) (by decide +kernel))
theorem k_839 : (Jvm.Cond.methodLink "ShoulderHeirsLaw" (121 : Nat) ({ cls := "ShoulderHeirs", name := "back", desc := "()I" } : Jvm.MethodName)) ∈ lw_tbl := List.mem_append_right _ (List.mem_of_getElem? (i := 839) (by decide +kernel))
theorem k_840 : (Jvm.Cond.instanceMethod ({ cls := "ShoulderHeirs", name := "back", desc := "()I" } : Jvm.MethodName)) ∈ lw_tbl := List.mem_append_right _ (List.mem_of_getElem? (i := 840) (by decide +kernel))
theorem k_841 : (Jvm.Cond.selects "ShoulderHeirs" ({ cls := "ShoulderHeirs", name := "back", desc := "()I" } : Jvm.MethodName) ({ cls := "ShoulderHeirs", name := "back", desc := "()I" } : Jvm.MethodName)) ∈ lw_tbl := List.mem_append_right _ (List.mem_of_getElem? (i := 841) (by decide +kernel))
theorem k_842 : (Jvm.Cond.code ({ cls := "ShoulderHeirs", name := "back", desc := "()I" } : Jvm.MethodName) prog_1_method_28_code (1 : Nat) (Option.some Jvm.ClassFile.FieldType.int)) ∈ lw_tbl := List.mem_append_right _ (List.mem_of_getElem? (i := 842) (by decide +kernel))
theorem k_843 : (Jvm.Cond.methodLink "ShoulderHeirsLaw" (125 : Nat) ({ cls := "ShoulderHeirs", name := "count", desc := "(I)I" } : Jvm.MethodName)) ∈ lw_tbl := List.mem_append_right _ (List.mem_of_getElem? (i := 843) (by decide +kernel))
theorem k_844 : (Jvm.Cond.instanceMethod ({ cls := "ShoulderHeirs", name := "count", desc := "(I)I" } : Jvm.MethodName)) ∈ lw_tbl := List.mem_append_right _ (List.mem_of_getElem? (i := 844) (by decide +kernel))
theorem k_845 : (Jvm.Cond.selects "ShoulderHeirs" ({ cls := "ShoulderHeirs", name := "count", desc := "(I)I" } : Jvm.MethodName) ({ cls := "ShoulderHeirs", name := "count", desc := "(I)I" } : Jvm.MethodName)) ∈ lw_tbl := List.mem_append_right _ (List.mem_of_getElem? (i := 845) (by decide +kernel))
theorem k_846 : (Jvm.Cond.code ({ cls := "ShoulderHeirs", name := "count", desc := "(I)I" } : Jvm.MethodName) prog_1_method_29_code (2 : Nat) (Option.some Jvm.ClassFile.FieldType.int)) ∈ lw_tbl := List.mem_append_right _ (List.mem_of_getElem? (i := 846) (by decide +kernel))
theorem k_847 : (Jvm.Cond.classLink "ShoulderHeirsLaw" (10 : Nat) "ShoulderHeirsModel") ∈ lw_tbl := List.mem_append_right _ (List.mem_of_getElem? (i := 847) (by decide +kernel))
theorem k_848 : (Jvm.Cond.instantiable "ShoulderHeirsModel" (28 : Nat)) ∈ lw_tbl := List.mem_append_right _ (List.mem_of_getElem? (i := 848) (by decide +kernel))
theorem k_849 : (Jvm.Cond.methodLink "ShoulderHeirsLaw" (12 : Nat) ({ cls := "ShoulderHeirsModel", name := "<init>", desc := "()V" } : Jvm.MethodName)) ∈ lw_tbl := List.mem_append_right _ (List.mem_of_getElem? (i := 849) (by decide +kernel))
theorem k_850 : (Jvm.Cond.instanceMethod ({ cls := "ShoulderHeirsModel", name := "<init>", desc := "()V" } : Jvm.MethodName)) ∈ lw_tbl := List.mem_append_right _ (List.mem_of_getElem? (i := 850) (by decide +kernel))
theorem k_851 : (Jvm.Cond.code ({ cls := "ShoulderHeirsModel", name := "<init>", desc := "()V" } : Jvm.MethodName) prog_11_method_1_code (1 : Nat) (Option.none : Option Jvm.ClassFile.FieldType)) ∈ lw_tbl := List.mem_append_right _ (List.mem_of_getElem? (i := 851) (by decide +kernel))
theorem k_852 : (Jvm.Cond.methodLink "ShoulderHeirsModel" (1 : Nat) ({ cls := "java/lang/Object", name := "<init>", desc := "()V" } : Jvm.MethodName)) ∈ lw_tbl := List.mem_append_right _ (List.mem_of_getElem? (i := 852) (by decide +kernel))
theorem k_853 : (Jvm.Cond.methodLink "ShoulderHeirsModel" (70 : Nat) ({ cls := "ShoulderHeirsModel", name := "clean", desc := "()V" } : Jvm.MethodName)) ∈ lw_tbl := List.mem_append_right _ (List.mem_of_getElem? (i := 853) (by decide +kernel))
theorem k_854 : (Jvm.Cond.privateMethod ({ cls := "ShoulderHeirsModel", name := "clean", desc := "()V" } : Jvm.MethodName)) ∈ lw_tbl := List.mem_append_right _ (List.mem_of_getElem? (i := 854) (by decide +kernel))
theorem k_855 : (Jvm.Cond.instanceMethod ({ cls := "ShoulderHeirsModel", name := "clean", desc := "()V" } : Jvm.MethodName)) ∈ lw_tbl := List.mem_append_right _ (List.mem_of_getElem? (i := 855) (by decide +kernel))
theorem k_856 : (Jvm.Cond.code ({ cls := "ShoulderHeirsModel", name := "clean", desc := "()V" } : Jvm.MethodName) prog_11_method_9_code (2 : Nat) (Option.none : Option Jvm.ClassFile.FieldType)) ∈ lw_tbl := List.mem_append_right _ (List.mem_of_getElem? (i := 856) (by decide +kernel))
theorem k_857 : (Jvm.Cond.methodLink "ShoulderHeirsModel" (73 : Nat) ({ cls := "ShoulderHeirsModel", name := "stretch", desc := "(II)V" } : Jvm.MethodName)) ∈ lw_tbl := List.mem_append_right _ (List.mem_of_getElem? (i := 857) (by decide +kernel))
theorem k_858 : (Jvm.Cond.privateMethod ({ cls := "ShoulderHeirsModel", name := "stretch", desc := "(II)V" } : Jvm.MethodName)) ∈ lw_tbl := List.mem_append_right _ (List.mem_of_getElem? (i := 858) (by decide +kernel))
theorem k_859 : (Jvm.Cond.instanceMethod ({ cls := "ShoulderHeirsModel", name := "stretch", desc := "(II)V" } : Jvm.MethodName)) ∈ lw_tbl := List.mem_append_right _ (List.mem_of_getElem? (i := 859) (by decide +kernel))
theorem k_860 : (Jvm.Cond.code ({ cls := "ShoulderHeirsModel", name := "stretch", desc := "(II)V" } : Jvm.MethodName) prog_11_method_10_code (4 : Nat) (Option.none : Option Jvm.ClassFile.FieldType)) ∈ lw_tbl := List.mem_append_right _ (List.mem_of_getElem? (i := 860) (by decide +kernel))
theorem k_861 : (Jvm.Cond.methodLink "ShoulderHeirsModel" (77 : Nat) ({ cls := "ShoulderHeirsModel", name := "comes", desc := "(II)V" } : Jvm.MethodName)) ∈ lw_tbl := List.mem_append_right _ (List.mem_of_getElem? (i := 861) (by decide +kernel))
theorem k_862 : (Jvm.Cond.privateMethod ({ cls := "ShoulderHeirsModel", name := "comes", desc := "(II)V" } : Jvm.MethodName)) ∈ lw_tbl := List.mem_append_right _ (List.mem_of_getElem? (i := 862) (by decide +kernel))
theorem k_863 : (Jvm.Cond.instanceMethod ({ cls := "ShoulderHeirsModel", name := "comes", desc := "(II)V" } : Jvm.MethodName)) ∈ lw_tbl := List.mem_append_right _ (List.mem_of_getElem? (i := 863) (by decide +kernel))
theorem k_864 : (Jvm.Cond.code ({ cls := "ShoulderHeirsModel", name := "comes", desc := "(II)V" } : Jvm.MethodName) prog_11_method_11_code (4 : Nat) (Option.none : Option Jvm.ClassFile.FieldType)) ∈ lw_tbl := List.mem_append_right _ (List.mem_of_getElem? (i := 864) (by decide +kernel))
theorem k_865 : (Jvm.Cond.methodLink "ShoulderHeirsModel" (80 : Nat) ({ cls := "ShoulderHeirsModel", name := "takesTurn", desc := "(III)V" } : Jvm.MethodName)) ∈ lw_tbl := List.mem_append_right _ (List.mem_of_getElem? (i := 865) (by decide +kernel))
theorem k_866 : (Jvm.Cond.privateMethod ({ cls := "ShoulderHeirsModel", name := "takesTurn", desc := "(III)V" } : Jvm.MethodName)) ∈ lw_tbl := List.mem_append_right _ (List.mem_of_getElem? (i := 866) (by decide +kernel))
theorem k_867 : (Jvm.Cond.instanceMethod ({ cls := "ShoulderHeirsModel", name := "takesTurn", desc := "(III)V" } : Jvm.MethodName)) ∈ lw_tbl := List.mem_append_right _ (List.mem_of_getElem? (i := 867) (by decide +kernel))
theorem k_868 : (Jvm.Cond.code ({ cls := "ShoulderHeirsModel", name := "takesTurn", desc := "(III)V" } : Jvm.MethodName) prog_11_method_12_code (5 : Nat) (Option.none : Option Jvm.ClassFile.FieldType)) ∈ lw_tbl := List.mem_append_right _ (List.mem_of_getElem? (i := 868) (by decide +kernel))
theorem k_869 : (Jvm.Cond.methodLink "ShoulderHeirsModel" (84 : Nat) ({ cls := "ShoulderHeirsModel", name := "begins", desc := "()V" } : Jvm.MethodName)) ∈ lw_tbl := List.mem_append_right _ (List.mem_of_getElem? (i := 869) (by decide +kernel))
theorem k_870 : (Jvm.Cond.privateMethod ({ cls := "ShoulderHeirsModel", name := "begins", desc := "()V" } : Jvm.MethodName)) ∈ lw_tbl := List.mem_append_right _ (List.mem_of_getElem? (i := 870) (by decide +kernel))
theorem k_871 : (Jvm.Cond.instanceMethod ({ cls := "ShoulderHeirsModel", name := "begins", desc := "()V" } : Jvm.MethodName)) ∈ lw_tbl := List.mem_append_right _ (List.mem_of_getElem? (i := 871) (by decide +kernel))
theorem k_872 : (Jvm.Cond.code ({ cls := "ShoulderHeirsModel", name := "begins", desc := "()V" } : Jvm.MethodName) prog_11_method_23_code (2 : Nat) (Option.none : Option Jvm.ClassFile.FieldType)) ∈ lw_tbl := List.mem_append_right _ (List.mem_of_getElem? (i := 872) (by decide +kernel))
theorem k_873 : (Jvm.Cond.fieldLink "ShoulderHeirsModel" (7 : Nat) "ShoulderHeirsModel" "hill" "[I") ∈ lw_tbl := List.mem_append_right _ (List.mem_of_getElem? (i := 873) (by decide +kernel))
theorem k_874 : (Jvm.Cond.fieldLink "ShoulderHeirsModel" (13 : Nat) "ShoulderHeirsModel" "read" "[I") ∈ lw_tbl := List.mem_append_right _ (List.mem_of_getElem? (i := 874) (by decide +kernel))
theorem k_875 : (Jvm.Cond.fieldLink "ShoulderHeirsModel" (16 : Nat) "ShoulderHeirsModel" "turns" "[I") ∈ lw_tbl := List.mem_append_right _ (List.mem_of_getElem? (i := 875) (by decide +kernel))
theorem k_876 : (Jvm.Cond.fieldLink "ShoulderHeirsModel" (19 : Nat) "ShoulderHeirsModel" "readTurns" "[I") ∈ lw_tbl := List.mem_append_right _ (List.mem_of_getElem? (i := 876) (by decide +kernel))
theorem k_877 : (Jvm.Cond.fieldLink "ShoulderHeirsModel" (22 : Nat) "ShoulderHeirsModel" "past" "[I") ∈ lw_tbl := List.mem_append_right _ (List.mem_of_getElem? (i := 877) (by decide +kernel))
theorem k_878 : (Jvm.Cond.fieldLink "ShoulderHeirsModel" (142 : Nat) "ShoulderHeirsModel" "undos" "I") ∈ lw_tbl := List.mem_append_right _ (List.mem_of_getElem? (i := 878) (by decide +kernel))
theorem k_879 : (Jvm.Cond.fieldLink "ShoulderHeirsModel" (25 : Nat) "ShoulderHeirsModel" "kept" "[I") ∈ lw_tbl := List.mem_append_right _ (List.mem_of_getElem? (i := 879) (by decide +kernel))
theorem k_880 : (Jvm.Cond.fieldLink "ShoulderHeirsModel" (145 : Nat) "ShoulderHeirsModel" "keptMany" "I") ∈ lw_tbl := List.mem_append_right _ (List.mem_of_getElem? (i := 880) (by decide +kernel))
theorem k_881 : (Jvm.Cond.fieldLink "ShoulderHeirsModel" (28 : Nat) "ShoulderHeirsModel" "text" "[I") ∈ lw_tbl := List.mem_append_right _ (List.mem_of_getElem? (i := 881) (by decide +kernel))
theorem k_882 : (Jvm.Cond.fieldLink "ShoulderHeirsModel" (95 : Nat) "ShoulderHeirsModel" "size" "I") ∈ lw_tbl := List.mem_append_right _ (List.mem_of_getElem? (i := 882) (by decide +kernel))
theorem k_883 : (Jvm.Cond.fieldLink "ShoulderHeirsModel" (31 : Nat) "ShoulderHeirsModel" "prints" "[I") ∈ lw_tbl := List.mem_append_right _ (List.mem_of_getElem? (i := 883) (by decide +kernel))
theorem k_884 : (Jvm.Cond.fieldLink "ShoulderHeirsModel" (139 : Nat) "ShoulderHeirsModel" "printMany" "I") ∈ lw_tbl := List.mem_append_right _ (List.mem_of_getElem? (i := 884) (by decide +kernel))
theorem k_885 : (Jvm.Cond.fieldLink "ShoulderHeirsModel" (99 : Nat) "ShoulderHeirsModel" "at" "I") ∈ lw_tbl := List.mem_append_right _ (List.mem_of_getElem? (i := 885) (by decide +kernel))
theorem k_886 : (Jvm.Cond.fieldLink "ShoulderHeirsModel" (34 : Nat) "ShoulderHeirsModel" "numbers" "[I") ∈ lw_tbl := List.mem_append_right _ (List.mem_of_getElem? (i := 886) (by decide +kernel))
theorem k_887 : (Jvm.Cond.fieldLink "ShoulderHeirsModel" (37 : Nat) "ShoulderHeirsModel" "up" "[I") ∈ lw_tbl := List.mem_append_right _ (List.mem_of_getElem? (i := 887) (by decide +kernel))
theorem k_888 : (Jvm.Cond.fieldLink "ShoulderHeirsModel" (40 : Nat) "ShoulderHeirsModel" "by" "[I") ∈ lw_tbl := List.mem_append_right _ (List.mem_of_getElem? (i := 888) (by decide +kernel))
theorem k_889 : (Jvm.Cond.fieldLink "ShoulderHeirsModel" (152 : Nat) "ShoulderHeirsModel" "failing" "I") ∈ lw_tbl := List.mem_append_right _ (List.mem_of_getElem? (i := 889) (by decide +kernel))
theorem k_890 : (Jvm.Cond.fieldLink "ShoulderHeirsModel" (155 : Nat) "ShoulderHeirsModel" "draws" "I") ∈ lw_tbl := List.mem_append_right _ (List.mem_of_getElem? (i := 890) (by decide +kernel))
theorem k_891 : (Jvm.Cond.fieldLink "ShoulderHeirsModel" (43 : Nat) "ShoulderHeirsModel" "left" "[I") ∈ lw_tbl := List.mem_append_right _ (List.mem_of_getElem? (i := 891) (by decide +kernel))
theorem k_892 : (Jvm.Cond.fieldLink "ShoulderHeirsModel" (46 : Nat) "ShoulderHeirsModel" "acres" "[I") ∈ lw_tbl := List.mem_append_right _ (List.mem_of_getElem? (i := 892) (by decide +kernel))
theorem k_893 : (Jvm.Cond.fieldLink "ShoulderHeirsModel" (49 : Nat) "ShoulderHeirsModel" "fell" "[I") ∈ lw_tbl := List.mem_append_right _ (List.mem_of_getElem? (i := 893) (by decide +kernel))
theorem k_894 : (Jvm.Cond.fieldLink "ShoulderHeirsModel" (52 : Nat) "ShoulderHeirsModel" "bore" "[I") ∈ lw_tbl := List.mem_append_right _ (List.mem_of_getElem? (i := 894) (by decide +kernel))
theorem k_895 : (Jvm.Cond.fieldLink "ShoulderHeirsModel" (55 : Nat) "ShoulderHeirsModel" "borneBy" "[I") ∈ lw_tbl := List.mem_append_right _ (List.mem_of_getElem? (i := 895) (by decide +kernel))
theorem k_896 : (Jvm.Cond.fieldLink "ShoulderHeirsModel" (182 : Nat) "ShoulderHeirsModel" "stood" "I") ∈ lw_tbl := List.mem_append_right _ (List.mem_of_getElem? (i := 896) (by decide +kernel))
theorem k_897 : (Jvm.Cond.fieldLink "ShoulderHeirsModel" (58 : Nat) "ShoulderHeirsModel" "order" "[I") ∈ lw_tbl := List.mem_append_right _ (List.mem_of_getElem? (i := 897) (by decide +kernel))
theorem k_898 : (Jvm.Cond.fieldLink "ShoulderHeirsModel" (61 : Nat) "ShoulderHeirsModel" "farthest" "[I") ∈ lw_tbl := List.mem_append_right _ (List.mem_of_getElem? (i := 898) (by decide +kernel))
theorem k_899 : (Jvm.Cond.fieldLink "ShoulderHeirsModel" (64 : Nat) "ShoulderHeirsModel" "own" "[I") ∈ lw_tbl := List.mem_append_right _ (List.mem_of_getElem? (i := 899) (by decide +kernel))
theorem k_900 : (Jvm.Cond.fieldLink "ShoulderHeirsModel" (67 : Nat) "ShoulderHeirsModel" "others" "[I") ∈ lw_tbl := List.mem_append_right _ (List.mem_of_getElem? (i := 900) (by decide +kernel))
theorem k_901 : (Jvm.Cond.laysFinal "ShoulderHeirsModel" "ShoulderHeirsModel" "hill" "[I") ∈ lw_tbl := List.mem_append_right _ (List.mem_of_getElem? (i := 901) (by decide +kernel))
theorem k_902 : (Jvm.Cond.soleField "ShoulderHeirsModel" "hill") ∈ lw_tbl := List.mem_append_right _ (List.mem_of_getElem? (i := 902) (by decide +kernel))
theorem k_903 : (Jvm.Cond.laysFinal "ShoulderHeirsModel" "ShoulderHeirsModel" "read" "[I") ∈ lw_tbl := List.mem_append_right _ (List.mem_of_getElem? (i := 903) (by decide +kernel))
theorem k_904 : (Jvm.Cond.soleField "ShoulderHeirsModel" "read") ∈ lw_tbl := List.mem_append_right _ (List.mem_of_getElem? (i := 904) (by decide +kernel))
theorem k_905 : (Jvm.Cond.laysFinal "ShoulderHeirsModel" "ShoulderHeirsModel" "turns" "[I") ∈ lw_tbl := List.mem_append_right _ (List.mem_of_getElem? (i := 905) (by decide +kernel))
theorem k_906 : (Jvm.Cond.soleField "ShoulderHeirsModel" "turns") ∈ lw_tbl := List.mem_append_right _ (List.mem_of_getElem? (i := 906) (by decide +kernel))
theorem k_907 : (Jvm.Cond.laysFinal "ShoulderHeirsModel" "ShoulderHeirsModel" "readTurns" "[I") ∈ lw_tbl := List.mem_append_right _ (List.mem_of_getElem? (i := 907) (by decide +kernel))
theorem k_908 : (Jvm.Cond.soleField "ShoulderHeirsModel" "readTurns") ∈ lw_tbl := List.mem_append_right _ (List.mem_of_getElem? (i := 908) (by decide +kernel))
theorem k_909 : (Jvm.Cond.laysFinal "ShoulderHeirsModel" "ShoulderHeirsModel" "past" "[I") ∈ lw_tbl := List.mem_append_right _ (List.mem_of_getElem? (i := 909) (by decide +kernel))
theorem k_910 : (Jvm.Cond.soleField "ShoulderHeirsModel" "past") ∈ lw_tbl := List.mem_append_right _ (List.mem_of_getElem? (i := 910) (by decide +kernel))
theorem k_911 : (Jvm.Cond.lays "ShoulderHeirsModel" "ShoulderHeirsModel" "undos" "I") ∈ lw_tbl := List.mem_append_right _ (List.mem_of_getElem? (i := 911) (by decide +kernel))
theorem k_912 : (Jvm.Cond.soleField "ShoulderHeirsModel" "undos") ∈ lw_tbl := List.mem_append_right _ (List.mem_of_getElem? (i := 912) (by decide +kernel))
theorem k_913 : (Jvm.Cond.laysFinal "ShoulderHeirsModel" "ShoulderHeirsModel" "kept" "[I") ∈ lw_tbl := List.mem_append_right _ (List.mem_of_getElem? (i := 913) (by decide +kernel))
theorem k_914 : (Jvm.Cond.soleField "ShoulderHeirsModel" "kept") ∈ lw_tbl := List.mem_append_right _ (List.mem_of_getElem? (i := 914) (by decide +kernel))
theorem k_915 : (Jvm.Cond.lays "ShoulderHeirsModel" "ShoulderHeirsModel" "keptMany" "I") ∈ lw_tbl := List.mem_append_right _ (List.mem_of_getElem? (i := 915) (by decide +kernel))
theorem k_916 : (Jvm.Cond.soleField "ShoulderHeirsModel" "keptMany") ∈ lw_tbl := List.mem_append_right _ (List.mem_of_getElem? (i := 916) (by decide +kernel))
theorem k_917 : (Jvm.Cond.laysFinal "ShoulderHeirsModel" "ShoulderHeirsModel" "text" "[I") ∈ lw_tbl := List.mem_append_right _ (List.mem_of_getElem? (i := 917) (by decide +kernel))
theorem k_918 : (Jvm.Cond.soleField "ShoulderHeirsModel" "text") ∈ lw_tbl := List.mem_append_right _ (List.mem_of_getElem? (i := 918) (by decide +kernel))
theorem k_919 : (Jvm.Cond.lays "ShoulderHeirsModel" "ShoulderHeirsModel" "size" "I") ∈ lw_tbl := List.mem_append_right _ (List.mem_of_getElem? (i := 919) (by decide +kernel))
theorem k_920 : (Jvm.Cond.soleField "ShoulderHeirsModel" "size") ∈ lw_tbl := List.mem_append_right _ (List.mem_of_getElem? (i := 920) (by decide +kernel))
theorem k_921 : (Jvm.Cond.laysFinal "ShoulderHeirsModel" "ShoulderHeirsModel" "prints" "[I") ∈ lw_tbl := List.mem_append_right _ (List.mem_of_getElem? (i := 921) (by decide +kernel))
theorem k_922 : (Jvm.Cond.soleField "ShoulderHeirsModel" "prints") ∈ lw_tbl := List.mem_append_right _ (List.mem_of_getElem? (i := 922) (by decide +kernel))
theorem k_923 : (Jvm.Cond.lays "ShoulderHeirsModel" "ShoulderHeirsModel" "printMany" "I") ∈ lw_tbl := List.mem_append_right _ (List.mem_of_getElem? (i := 923) (by decide +kernel))
theorem k_924 : (Jvm.Cond.soleField "ShoulderHeirsModel" "printMany") ∈ lw_tbl := List.mem_append_right _ (List.mem_of_getElem? (i := 924) (by decide +kernel))
theorem k_925 : (Jvm.Cond.lays "ShoulderHeirsModel" "ShoulderHeirsModel" "at" "I") ∈ lw_tbl := List.mem_append_right _ (List.mem_of_getElem? (i := 925) (by decide +kernel))
theorem k_926 : (Jvm.Cond.soleField "ShoulderHeirsModel" "at") ∈ lw_tbl := List.mem_append_right _ (List.mem_of_getElem? (i := 926) (by decide +kernel))
theorem k_927 : (Jvm.Cond.laysFinal "ShoulderHeirsModel" "ShoulderHeirsModel" "numbers" "[I") ∈ lw_tbl := List.mem_append_right _ (List.mem_of_getElem? (i := 927) (by decide +kernel))
theorem k_928 : (Jvm.Cond.soleField "ShoulderHeirsModel" "numbers") ∈ lw_tbl := List.mem_append_right _ (List.mem_of_getElem? (i := 928) (by decide +kernel))
theorem k_929 : (Jvm.Cond.laysFinal "ShoulderHeirsModel" "ShoulderHeirsModel" "up" "[I") ∈ lw_tbl := List.mem_append_right _ (List.mem_of_getElem? (i := 929) (by decide +kernel))
theorem k_930 : (Jvm.Cond.soleField "ShoulderHeirsModel" "up") ∈ lw_tbl := List.mem_append_right _ (List.mem_of_getElem? (i := 930) (by decide +kernel))
theorem k_931 : (Jvm.Cond.laysFinal "ShoulderHeirsModel" "ShoulderHeirsModel" "by" "[I") ∈ lw_tbl := List.mem_append_right _ (List.mem_of_getElem? (i := 931) (by decide +kernel))
theorem k_932 : (Jvm.Cond.soleField "ShoulderHeirsModel" "by") ∈ lw_tbl := List.mem_append_right _ (List.mem_of_getElem? (i := 932) (by decide +kernel))
theorem k_933 : (Jvm.Cond.lays "ShoulderHeirsModel" "ShoulderHeirsModel" "failing" "I") ∈ lw_tbl := List.mem_append_right _ (List.mem_of_getElem? (i := 933) (by decide +kernel))
theorem k_934 : (Jvm.Cond.soleField "ShoulderHeirsModel" "failing") ∈ lw_tbl := List.mem_append_right _ (List.mem_of_getElem? (i := 934) (by decide +kernel))
theorem k_935 : (Jvm.Cond.lays "ShoulderHeirsModel" "ShoulderHeirsModel" "draws" "I") ∈ lw_tbl := List.mem_append_right _ (List.mem_of_getElem? (i := 935) (by decide +kernel))
theorem k_936 : (Jvm.Cond.soleField "ShoulderHeirsModel" "draws") ∈ lw_tbl := List.mem_append_right _ (List.mem_of_getElem? (i := 936) (by decide +kernel))
theorem k_937 : (Jvm.Cond.laysFinal "ShoulderHeirsModel" "ShoulderHeirsModel" "left" "[I") ∈ lw_tbl := List.mem_append_right _ (List.mem_of_getElem? (i := 937) (by decide +kernel))
theorem k_938 : (Jvm.Cond.soleField "ShoulderHeirsModel" "left") ∈ lw_tbl := List.mem_append_right _ (List.mem_of_getElem? (i := 938) (by decide +kernel))
theorem k_939 : (Jvm.Cond.laysFinal "ShoulderHeirsModel" "ShoulderHeirsModel" "acres" "[I") ∈ lw_tbl := List.mem_append_right _ (List.mem_of_getElem? (i := 939) (by decide +kernel))
theorem k_940 : (Jvm.Cond.soleField "ShoulderHeirsModel" "acres") ∈ lw_tbl := List.mem_append_right _ (List.mem_of_getElem? (i := 940) (by decide +kernel))
theorem k_941 : (Jvm.Cond.laysFinal "ShoulderHeirsModel" "ShoulderHeirsModel" "fell" "[I") ∈ lw_tbl := List.mem_append_right _ (List.mem_of_getElem? (i := 941) (by decide +kernel))
theorem k_942 : (Jvm.Cond.soleField "ShoulderHeirsModel" "fell") ∈ lw_tbl := List.mem_append_right _ (List.mem_of_getElem? (i := 942) (by decide +kernel))
theorem k_943 : (Jvm.Cond.laysFinal "ShoulderHeirsModel" "ShoulderHeirsModel" "bore" "[I") ∈ lw_tbl := List.mem_append_right _ (List.mem_of_getElem? (i := 943) (by decide +kernel))
theorem k_944 : (Jvm.Cond.soleField "ShoulderHeirsModel" "bore") ∈ lw_tbl := List.mem_append_right _ (List.mem_of_getElem? (i := 944) (by decide +kernel))
theorem k_945 : (Jvm.Cond.laysFinal "ShoulderHeirsModel" "ShoulderHeirsModel" "borneBy" "[I") ∈ lw_tbl := List.mem_append_right _ (List.mem_of_getElem? (i := 945) (by decide +kernel))
theorem k_946 : (Jvm.Cond.soleField "ShoulderHeirsModel" "borneBy") ∈ lw_tbl := List.mem_append_right _ (List.mem_of_getElem? (i := 946) (by decide +kernel))
theorem k_947 : (Jvm.Cond.lays "ShoulderHeirsModel" "ShoulderHeirsModel" "stood" "I") ∈ lw_tbl := List.mem_append_right _ (List.mem_of_getElem? (i := 947) (by decide +kernel))
theorem k_948 : (Jvm.Cond.soleField "ShoulderHeirsModel" "stood") ∈ lw_tbl := List.mem_append_right _ (List.mem_of_getElem? (i := 948) (by decide +kernel))
theorem k_949 : (Jvm.Cond.laysFinal "ShoulderHeirsModel" "ShoulderHeirsModel" "order" "[I") ∈ lw_tbl := List.mem_append_right _ (List.mem_of_getElem? (i := 949) (by decide +kernel))
theorem k_950 : (Jvm.Cond.soleField "ShoulderHeirsModel" "order") ∈ lw_tbl := List.mem_append_right _ (List.mem_of_getElem? (i := 950) (by decide +kernel))
theorem k_951 : (Jvm.Cond.laysFinal "ShoulderHeirsModel" "ShoulderHeirsModel" "farthest" "[I") ∈ lw_tbl := List.mem_append_right _ (List.mem_of_getElem? (i := 951) (by decide +kernel))
theorem k_952 : (Jvm.Cond.soleField "ShoulderHeirsModel" "farthest") ∈ lw_tbl := List.mem_append_right _ (List.mem_of_getElem? (i := 952) (by decide +kernel))
theorem k_953 : (Jvm.Cond.laysFinal "ShoulderHeirsModel" "ShoulderHeirsModel" "own" "[I") ∈ lw_tbl := List.mem_append_right _ (List.mem_of_getElem? (i := 953) (by decide +kernel))
theorem k_954 : (Jvm.Cond.soleField "ShoulderHeirsModel" "own") ∈ lw_tbl := List.mem_append_right _ (List.mem_of_getElem? (i := 954) (by decide +kernel))
theorem k_955 : (Jvm.Cond.laysFinal "ShoulderHeirsModel" "ShoulderHeirsModel" "others" "[I") ∈ lw_tbl := List.mem_append_right _ (List.mem_of_getElem? (i := 955) (by decide +kernel))
theorem k_956 : (Jvm.Cond.soleField "ShoulderHeirsModel" "others") ∈ lw_tbl := List.mem_append_right _ (List.mem_of_getElem? (i := 956) (by decide +kernel))
theorem k_957 : (Jvm.Cond.superclass "ShoulderHeirsModel" "java/lang/Object") ∈ lw_tbl := List.mem_append_right _ (List.mem_of_getElem? (i := 957) (by decide +kernel))
theorem k_958 : (Jvm.Cond.methodLink "ShoulderHeirsLaw" (17 : Nat) ({ cls := "ShoulderHeirsModel", name := "write", desc := "(I)I" } : Jvm.MethodName)) ∈ lw_tbl := List.mem_append_right _ (List.mem_of_getElem? (i := 958) (by decide +kernel))
theorem k_959 : (Jvm.Cond.instanceMethod ({ cls := "ShoulderHeirsModel", name := "write", desc := "(I)I" } : Jvm.MethodName)) ∈ lw_tbl := List.mem_append_right _ (List.mem_of_getElem? (i := 959) (by decide +kernel))
theorem k_960 : (Jvm.Cond.selects "ShoulderHeirsModel" ({ cls := "ShoulderHeirsModel", name := "write", desc := "(I)I" } : Jvm.MethodName) ({ cls := "ShoulderHeirsModel", name := "write", desc := "(I)I" } : Jvm.MethodName)) ∈ lw_tbl := List.mem_append_right _ (List.mem_of_getElem? (i := 960) (by decide +kernel))
theorem k_961 : (Jvm.Cond.code ({ cls := "ShoulderHeirsModel", name := "write", desc := "(I)I" } : Jvm.MethodName) prog_11_method_7_code (2 : Nat) (Option.some Jvm.ClassFile.FieldType.int)) ∈ lw_tbl := List.mem_append_right _ (List.mem_of_getElem? (i := 961) (by decide +kernel))
theorem k_962 : (Jvm.Cond.constantLong "ShoulderHeirsModel" (91 : Nat) (32 : Int64)) ∈ lw_tbl := List.mem_append_right _ (List.mem_of_getElem? (i := 962) (by decide +kernel))
theorem k_963 : (Jvm.Cond.constantLong "ShoulderHeirsModel" (93 : Nat) (126 : Int64)) ∈ lw_tbl := List.mem_append_right _ (List.mem_of_getElem? (i := 963) (by decide +kernel))
theorem k_964 : (Jvm.Cond.methodLink "ShoulderHeirsModel" (87 : Nat) ({ cls := "ShoulderHeirsModel", name := "in", desc := "(JJJ)Z" } : Jvm.MethodName)) ∈ lw_tbl := List.mem_append_right _ (List.mem_of_getElem? (i := 964) (by decide +kernel))
theorem k_965 : (Jvm.Cond.static ({ cls := "ShoulderHeirsModel", name := "in", desc := "(JJJ)Z" } : Jvm.MethodName)) ∈ lw_tbl := List.mem_append_right _ (List.mem_of_getElem? (i := 965) (by decide +kernel))
theorem k_966 : (Jvm.Cond.code ({ cls := "ShoulderHeirsModel", name := "in", desc := "(JJJ)Z" } : Jvm.MethodName) prog_11_method_3_code (6 : Nat) (Option.some Jvm.ClassFile.FieldType.boolean)) ∈ lw_tbl := List.mem_append_right _ (List.mem_of_getElem? (i := 966) (by decide +kernel))
theorem k_967 : (Jvm.Cond.methodLink "ShoulderHeirsLaw" (22 : Nat) ({ cls := "ShoulderHeirsModel", name := "wipe", desc := "()I" } : Jvm.MethodName)) ∈ lw_tbl := List.mem_append_right _ (List.mem_of_getElem? (i := 967) (by decide +kernel))
theorem k_968 : (Jvm.Cond.instanceMethod ({ cls := "ShoulderHeirsModel", name := "wipe", desc := "()I" } : Jvm.MethodName)) ∈ lw_tbl := List.mem_append_right _ (List.mem_of_getElem? (i := 968) (by decide +kernel))
theorem k_969 : (Jvm.Cond.selects "ShoulderHeirsModel" ({ cls := "ShoulderHeirsModel", name := "wipe", desc := "()I" } : Jvm.MethodName) ({ cls := "ShoulderHeirsModel", name := "wipe", desc := "()I" } : Jvm.MethodName)) ∈ lw_tbl := List.mem_append_right _ (List.mem_of_getElem? (i := 969) (by decide +kernel))
theorem k_970 : (Jvm.Cond.code ({ cls := "ShoulderHeirsModel", name := "wipe", desc := "()I" } : Jvm.MethodName) prog_11_method_8_code (2 : Nat) (Option.some Jvm.ClassFile.FieldType.int)) ∈ lw_tbl := List.mem_append_right _ (List.mem_of_getElem? (i := 970) (by decide +kernel))
theorem k_971 : (Jvm.Cond.methodLink "ShoulderHeirsLaw" (26 : Nat) ({ cls := "ShoulderHeirsModel", name := "fault", desc := "()I" } : Jvm.MethodName)) ∈ lw_tbl := List.mem_append_right _ (List.mem_of_getElem? (i := 971) (by decide +kernel))
theorem k_972 : (Jvm.Cond.instanceMethod ({ cls := "ShoulderHeirsModel", name := "fault", desc := "()I" } : Jvm.MethodName)) ∈ lw_tbl := List.mem_append_right _ (List.mem_of_getElem? (i := 972) (by decide +kernel))
theorem k_973 : (Jvm.Cond.selects "ShoulderHeirsModel" ({ cls := "ShoulderHeirsModel", name := "fault", desc := "()I" } : Jvm.MethodName) ({ cls := "ShoulderHeirsModel", name := "fault", desc := "()I" } : Jvm.MethodName)) ∈ lw_tbl := List.mem_append_right _ (List.mem_of_getElem? (i := 973) (by decide +kernel))
theorem k_974 : (Jvm.Cond.code ({ cls := "ShoulderHeirsModel", name := "fault", desc := "()I" } : Jvm.MethodName) prog_11_method_22_code (2 : Nat) (Option.some Jvm.ClassFile.FieldType.int)) ∈ lw_tbl := List.mem_append_right _ (List.mem_of_getElem? (i := 974) (by decide +kernel))
theorem k_975 : (Jvm.Cond.methodLink "ShoulderHeirsModel" (136 : Nat) ({ cls := "ShoulderHeirsModel", name := "takesItem", desc := "()Z" } : Jvm.MethodName)) ∈ lw_tbl := List.mem_append_right _ (List.mem_of_getElem? (i := 975) (by decide +kernel))
theorem k_976 : (Jvm.Cond.privateMethod ({ cls := "ShoulderHeirsModel", name := "takesItem", desc := "()Z" } : Jvm.MethodName)) ∈ lw_tbl := List.mem_append_right _ (List.mem_of_getElem? (i := 976) (by decide +kernel))
theorem k_977 : (Jvm.Cond.instanceMethod ({ cls := "ShoulderHeirsModel", name := "takesItem", desc := "()Z" } : Jvm.MethodName)) ∈ lw_tbl := List.mem_append_right _ (List.mem_of_getElem? (i := 977) (by decide +kernel))
theorem k_978 : (Jvm.Cond.code ({ cls := "ShoulderHeirsModel", name := "takesItem", desc := "()Z" } : Jvm.MethodName) prog_11_method_21_code (2 : Nat) (Option.some Jvm.ClassFile.FieldType.boolean)) ∈ lw_tbl := List.mem_append_right _ (List.mem_of_getElem? (i := 978) (by decide +kernel))
theorem k_979 : (Jvm.Cond.methodLink "ShoulderHeirsModel" (120 : Nat) ({ cls := "ShoulderHeirsModel", name := "takesStretch", desc := "()Z" } : Jvm.MethodName)) ∈ lw_tbl := List.mem_append_right _ (List.mem_of_getElem? (i := 979) (by decide +kernel))
theorem k_980 : (Jvm.Cond.privateMethod ({ cls := "ShoulderHeirsModel", name := "takesStretch", desc := "()Z" } : Jvm.MethodName)) ∈ lw_tbl := List.mem_append_right _ (List.mem_of_getElem? (i := 980) (by decide +kernel))
theorem k_981 : (Jvm.Cond.instanceMethod ({ cls := "ShoulderHeirsModel", name := "takesStretch", desc := "()Z" } : Jvm.MethodName)) ∈ lw_tbl := List.mem_append_right _ (List.mem_of_getElem? (i := 981) (by decide +kernel))
theorem k_982 : (Jvm.Cond.code ({ cls := "ShoulderHeirsModel", name := "takesStretch", desc := "()Z" } : Jvm.MethodName) prog_11_method_16_code (1 : Nat) (Option.some Jvm.ClassFile.FieldType.boolean)) ∈ lw_tbl := List.mem_append_right _ (List.mem_of_getElem? (i := 982) (by decide +kernel))
theorem k_983 : (Jvm.Cond.methodLink "ShoulderHeirsModel" (108 : Nat) ({ cls := "ShoulderHeirsModel", name := "takes", desc := "(I)Z" } : Jvm.MethodName)) ∈ lw_tbl := List.mem_append_right _ (List.mem_of_getElem? (i := 983) (by decide +kernel))
theorem k_984 : (Jvm.Cond.privateMethod ({ cls := "ShoulderHeirsModel", name := "takes", desc := "(I)Z" } : Jvm.MethodName)) ∈ lw_tbl := List.mem_append_right _ (List.mem_of_getElem? (i := 984) (by decide +kernel))
theorem k_985 : (Jvm.Cond.instanceMethod ({ cls := "ShoulderHeirsModel", name := "takes", desc := "(I)Z" } : Jvm.MethodName)) ∈ lw_tbl := List.mem_append_right _ (List.mem_of_getElem? (i := 985) (by decide +kernel))
theorem k_986 : (Jvm.Cond.code ({ cls := "ShoulderHeirsModel", name := "takes", desc := "(I)Z" } : Jvm.MethodName) prog_11_method_14_code (6 : Nat) (Option.some Jvm.ClassFile.FieldType.boolean)) ∈ lw_tbl := List.mem_append_right _ (List.mem_of_getElem? (i := 986) (by decide +kernel))
theorem k_987 : (Jvm.Cond.constantLong "ShoulderHeirsModel" (102 : Nat) (48 : Int64)) ∈ lw_tbl := List.mem_append_right _ (List.mem_of_getElem? (i := 987) (by decide +kernel))
theorem k_988 : (Jvm.Cond.constantLong "ShoulderHeirsModel" (104 : Nat) (57 : Int64)) ∈ lw_tbl := List.mem_append_right _ (List.mem_of_getElem? (i := 988) (by decide +kernel))
theorem k_989 : (Jvm.Cond.constantLong "ShoulderHeirsModel" (106 : Nat) (2 : Int64)) ∈ lw_tbl := List.mem_append_right _ (List.mem_of_getElem? (i := 989) (by decide +kernel))
theorem k_990 : (Jvm.Cond.methodLink "ShoulderHeirsModel" (112 : Nat) ({ cls := "ShoulderHeirsModel", name := "is", desc := "(III)Z" } : Jvm.MethodName)) ∈ lw_tbl := List.mem_append_right _ (List.mem_of_getElem? (i := 990) (by decide +kernel))
theorem k_991 : (Jvm.Cond.privateMethod ({ cls := "ShoulderHeirsModel", name := "is", desc := "(III)Z" } : Jvm.MethodName)) ∈ lw_tbl := List.mem_append_right _ (List.mem_of_getElem? (i := 991) (by decide +kernel))
theorem k_992 : (Jvm.Cond.instanceMethod ({ cls := "ShoulderHeirsModel", name := "is", desc := "(III)Z" } : Jvm.MethodName)) ∈ lw_tbl := List.mem_append_right _ (List.mem_of_getElem? (i := 992) (by decide +kernel))
theorem k_993 : (Jvm.Cond.code ({ cls := "ShoulderHeirsModel", name := "is", desc := "(III)Z" } : Jvm.MethodName) prog_11_method_15_code (4 : Nat) (Option.some Jvm.ClassFile.FieldType.boolean)) ∈ lw_tbl := List.mem_append_right _ (List.mem_of_getElem? (i := 993) (by decide +kernel))
theorem k_994 : (Jvm.Cond.methodLink "ShoulderHeirsModel" (116 : Nat) ({ cls := "ShoulderHeirsModel", name := "yardsOf", desc := "([I)I" } : Jvm.MethodName)) ∈ lw_tbl := List.mem_append_right _ (List.mem_of_getElem? (i := 994) (by decide +kernel))
theorem k_995 : (Jvm.Cond.static ({ cls := "ShoulderHeirsModel", name := "yardsOf", desc := "([I)I" } : Jvm.MethodName)) ∈ lw_tbl := List.mem_append_right _ (List.mem_of_getElem? (i := 995) (by decide +kernel))
theorem k_996 : (Jvm.Cond.code ({ cls := "ShoulderHeirsModel", name := "yardsOf", desc := "([I)I" } : Jvm.MethodName) prog_11_method_13_code (3 : Nat) (Option.some Jvm.ClassFile.FieldType.int)) ∈ lw_tbl := List.mem_append_right _ (List.mem_of_getElem? (i := 996) (by decide +kernel))
theorem k_997 : (Jvm.Cond.methodLink "ShoulderHeirsModel" (124 : Nat) ({ cls := "ShoulderHeirsModel", name := "takesBearer", desc := "()Z" } : Jvm.MethodName)) ∈ lw_tbl := List.mem_append_right _ (List.mem_of_getElem? (i := 997) (by decide +kernel))
theorem k_998 : (Jvm.Cond.privateMethod ({ cls := "ShoulderHeirsModel", name := "takesBearer", desc := "()Z" } : Jvm.MethodName)) ∈ lw_tbl := List.mem_append_right _ (List.mem_of_getElem? (i := 998) (by decide +kernel))
theorem k_999 : (Jvm.Cond.instanceMethod ({ cls := "ShoulderHeirsModel", name := "takesBearer", desc := "()Z" } : Jvm.MethodName)) ∈ lw_tbl := List.mem_append_right _ (List.mem_of_getElem? (i := 999) (by decide +kernel))
theorem k_1000 : (Jvm.Cond.code ({ cls := "ShoulderHeirsModel", name := "takesBearer", desc := "()Z" } : Jvm.MethodName) prog_11_method_17_code (1 : Nat) (Option.some Jvm.ClassFile.FieldType.boolean)) ∈ lw_tbl := List.mem_append_right _ (List.mem_of_getElem? (i := 1000) (by decide +kernel))
theorem k_1001 : (Jvm.Cond.methodLink "ShoulderHeirsModel" (127 : Nat) ({ cls := "ShoulderHeirsModel", name := "takesOne", desc := "(III)Z" } : Jvm.MethodName)) ∈ lw_tbl := List.mem_append_right _ (List.mem_of_getElem? (i := 1001) (by decide +kernel))
theorem k_1002 : (Jvm.Cond.privateMethod ({ cls := "ShoulderHeirsModel", name := "takesOne", desc := "(III)Z" } : Jvm.MethodName)) ∈ lw_tbl := List.mem_append_right _ (List.mem_of_getElem? (i := 1002) (by decide +kernel))
theorem k_1003 : (Jvm.Cond.instanceMethod ({ cls := "ShoulderHeirsModel", name := "takesOne", desc := "(III)Z" } : Jvm.MethodName)) ∈ lw_tbl := List.mem_append_right _ (List.mem_of_getElem? (i := 1003) (by decide +kernel))
theorem k_1004 : (Jvm.Cond.code ({ cls := "ShoulderHeirsModel", name := "takesOne", desc := "(III)Z" } : Jvm.MethodName) prog_11_method_18_code (4 : Nat) (Option.some Jvm.ClassFile.FieldType.boolean)) ∈ lw_tbl := List.mem_append_right _ (List.mem_of_getElem? (i := 1004) (by decide +kernel))
theorem k_1005 : (Jvm.Cond.methodLink "ShoulderHeirsModel" (130 : Nat) ({ cls := "ShoulderHeirsModel", name := "takesTurns", desc := "()Z" } : Jvm.MethodName)) ∈ lw_tbl := List.mem_append_right _ (List.mem_of_getElem? (i := 1005) (by decide +kernel))
theorem k_1006 : (Jvm.Cond.privateMethod ({ cls := "ShoulderHeirsModel", name := "takesTurns", desc := "()Z" } : Jvm.MethodName)) ∈ lw_tbl := List.mem_append_right _ (List.mem_of_getElem? (i := 1006) (by decide +kernel))
theorem k_1007 : (Jvm.Cond.instanceMethod ({ cls := "ShoulderHeirsModel", name := "takesTurns", desc := "()Z" } : Jvm.MethodName)) ∈ lw_tbl := List.mem_append_right _ (List.mem_of_getElem? (i := 1007) (by decide +kernel))
theorem k_1008 : (Jvm.Cond.code ({ cls := "ShoulderHeirsModel", name := "takesTurns", desc := "()Z" } : Jvm.MethodName) prog_11_method_19_code (1 : Nat) (Option.some Jvm.ClassFile.FieldType.boolean)) ∈ lw_tbl := List.mem_append_right _ (List.mem_of_getElem? (i := 1008) (by decide +kernel))
theorem k_1009 : (Jvm.Cond.methodLink "ShoulderHeirsModel" (133 : Nat) ({ cls := "ShoulderHeirsModel", name := "takesPrice", desc := "()Z" } : Jvm.MethodName)) ∈ lw_tbl := List.mem_append_right _ (List.mem_of_getElem? (i := 1009) (by decide +kernel))
theorem k_1010 : (Jvm.Cond.privateMethod ({ cls := "ShoulderHeirsModel", name := "takesPrice", desc := "()Z" } : Jvm.MethodName)) ∈ lw_tbl := List.mem_append_right _ (List.mem_of_getElem? (i := 1010) (by decide +kernel))
theorem k_1011 : (Jvm.Cond.instanceMethod ({ cls := "ShoulderHeirsModel", name := "takesPrice", desc := "()Z" } : Jvm.MethodName)) ∈ lw_tbl := List.mem_append_right _ (List.mem_of_getElem? (i := 1011) (by decide +kernel))
theorem k_1012 : (Jvm.Cond.code ({ cls := "ShoulderHeirsModel", name := "takesPrice", desc := "()Z" } : Jvm.MethodName) prog_11_method_20_code (1 : Nat) (Option.some Jvm.ClassFile.FieldType.boolean)) ∈ lw_tbl := List.mem_append_right _ (List.mem_of_getElem? (i := 1012) (by decide +kernel))
theorem k_1013 : (Jvm.Cond.methodLink "ShoulderHeirsLaw" (30 : Nat) ({ cls := "ShoulderHeirsModel", name := "lay", desc := "()I" } : Jvm.MethodName)) ∈ lw_tbl := List.mem_append_right _ (List.mem_of_getElem? (i := 1013) (by decide +kernel))
theorem k_1014 : (Jvm.Cond.instanceMethod ({ cls := "ShoulderHeirsModel", name := "lay", desc := "()I" } : Jvm.MethodName)) ∈ lw_tbl := List.mem_append_right _ (List.mem_of_getElem? (i := 1014) (by decide +kernel))
theorem k_1015 : (Jvm.Cond.selects "ShoulderHeirsModel" ({ cls := "ShoulderHeirsModel", name := "lay", desc := "()I" } : Jvm.MethodName) ({ cls := "ShoulderHeirsModel", name := "lay", desc := "()I" } : Jvm.MethodName)) ∈ lw_tbl := List.mem_append_right _ (List.mem_of_getElem? (i := 1015) (by decide +kernel))
theorem k_1016 : (Jvm.Cond.code ({ cls := "ShoulderHeirsModel", name := "lay", desc := "()I" } : Jvm.MethodName) prog_11_method_24_code (1 : Nat) (Option.some Jvm.ClassFile.FieldType.int)) ∈ lw_tbl := List.mem_append_right _ (List.mem_of_getElem? (i := 1016) (by decide +kernel))
theorem k_1017 : (Jvm.Cond.methodLink "ShoulderHeirsModel" (148 : Nat) ({ cls := "ShoulderHeirsModel", name := "fault", desc := "()I" } : Jvm.MethodName)) ∈ lw_tbl := List.mem_append_right _ (List.mem_of_getElem? (i := 1017) (by decide +kernel))
theorem k_1018 : (Jvm.Cond.methodLink "ShoulderHeirsLaw" (35 : Nat) ({ cls := "ShoulderHeirsModel", name := "yard", desc := "(II)I" } : Jvm.MethodName)) ∈ lw_tbl := List.mem_append_right _ (List.mem_of_getElem? (i := 1018) (by decide +kernel))
theorem k_1019 : (Jvm.Cond.instanceMethod ({ cls := "ShoulderHeirsModel", name := "yard", desc := "(II)I" } : Jvm.MethodName)) ∈ lw_tbl := List.mem_append_right _ (List.mem_of_getElem? (i := 1019) (by decide +kernel))
theorem k_1020 : (Jvm.Cond.selects "ShoulderHeirsModel" ({ cls := "ShoulderHeirsModel", name := "yard", desc := "(II)I" } : Jvm.MethodName) ({ cls := "ShoulderHeirsModel", name := "yard", desc := "(II)I" } : Jvm.MethodName)) ∈ lw_tbl := List.mem_append_right _ (List.mem_of_getElem? (i := 1020) (by decide +kernel))
theorem k_1021 : (Jvm.Cond.code ({ cls := "ShoulderHeirsModel", name := "yard", desc := "(II)I" } : Jvm.MethodName) prog_11_method_38_code (4 : Nat) (Option.some Jvm.ClassFile.FieldType.int)) ∈ lw_tbl := List.mem_append_right _ (List.mem_of_getElem? (i := 1021) (by decide +kernel))
theorem k_1022 : (Jvm.Cond.methodLink "ShoulderHeirsModel" (209 : Nat) ({ cls := "ShoulderHeirsModel", name := "isYard", desc := "(I)Z" } : Jvm.MethodName)) ∈ lw_tbl := List.mem_append_right _ (List.mem_of_getElem? (i := 1022) (by decide +kernel))
theorem k_1023 : (Jvm.Cond.privateMethod ({ cls := "ShoulderHeirsModel", name := "isYard", desc := "(I)Z" } : Jvm.MethodName)) ∈ lw_tbl := List.mem_append_right _ (List.mem_of_getElem? (i := 1023) (by decide +kernel))
theorem k_1024 : (Jvm.Cond.instanceMethod ({ cls := "ShoulderHeirsModel", name := "isYard", desc := "(I)Z" } : Jvm.MethodName)) ∈ lw_tbl := List.mem_append_right _ (List.mem_of_getElem? (i := 1024) (by decide +kernel))
theorem k_1025 : (Jvm.Cond.code ({ cls := "ShoulderHeirsModel", name := "isYard", desc := "(I)Z" } : Jvm.MethodName) prog_11_method_26_code (2 : Nat) (Option.some Jvm.ClassFile.FieldType.boolean)) ∈ lw_tbl := List.mem_append_right _ (List.mem_of_getElem? (i := 1025) (by decide +kernel))
theorem k_1026 : (Jvm.Cond.constantLong "ShoulderHeirsModel" (212 : Nat) (4 : Int64)) ∈ lw_tbl := List.mem_append_right _ (List.mem_of_getElem? (i := 1026) (by decide +kernel))
theorem k_1027 : (Jvm.Cond.methodLink "ShoulderHeirsModel" (188 : Nat) ({ cls := "ShoulderHeirsModel", name := "stretchAt", desc := "([II)I" } : Jvm.MethodName)) ∈ lw_tbl := List.mem_append_right _ (List.mem_of_getElem? (i := 1027) (by decide +kernel))
theorem k_1028 : (Jvm.Cond.static ({ cls := "ShoulderHeirsModel", name := "stretchAt", desc := "([II)I" } : Jvm.MethodName)) ∈ lw_tbl := List.mem_append_right _ (List.mem_of_getElem? (i := 1028) (by decide +kernel))
theorem k_1029 : (Jvm.Cond.code ({ cls := "ShoulderHeirsModel", name := "stretchAt", desc := "([II)I" } : Jvm.MethodName) prog_11_method_27_code (4 : Nat) (Option.some Jvm.ClassFile.FieldType.int)) ∈ lw_tbl := List.mem_append_right _ (List.mem_of_getElem? (i := 1029) (by decide +kernel))
theorem k_1030 : (Jvm.Cond.methodLink "ShoulderHeirsModel" (214 : Nat) ({ cls := "ShoulderHeirsModel", name := "asItIs", desc := "()V" } : Jvm.MethodName)) ∈ lw_tbl := List.mem_append_right _ (List.mem_of_getElem? (i := 1030) (by decide +kernel))
theorem k_1031 : (Jvm.Cond.privateMethod ({ cls := "ShoulderHeirsModel", name := "asItIs", desc := "()V" } : Jvm.MethodName)) ∈ lw_tbl := List.mem_append_right _ (List.mem_of_getElem? (i := 1031) (by decide +kernel))
theorem k_1032 : (Jvm.Cond.instanceMethod ({ cls := "ShoulderHeirsModel", name := "asItIs", desc := "()V" } : Jvm.MethodName)) ∈ lw_tbl := List.mem_append_right _ (List.mem_of_getElem? (i := 1032) (by decide +kernel))
theorem k_1033 : (Jvm.Cond.code ({ cls := "ShoulderHeirsModel", name := "asItIs", desc := "()V" } : Jvm.MethodName) prog_11_method_28_code (2 : Nat) (Option.none : Option Jvm.ClassFile.FieldType)) ∈ lw_tbl := List.mem_append_right _ (List.mem_of_getElem? (i := 1033) (by decide +kernel))
theorem k_1034 : (Jvm.Cond.methodLink "ShoulderHeirsModel" (195 : Nat) ({ cls := "ShoulderHeirsModel", name := "tolds", desc := "(I)I" } : Jvm.MethodName)) ∈ lw_tbl := List.mem_append_right _ (List.mem_of_getElem? (i := 1034) (by decide +kernel))
theorem k_1035 : (Jvm.Cond.privateMethod ({ cls := "ShoulderHeirsModel", name := "tolds", desc := "(I)I" } : Jvm.MethodName)) ∈ lw_tbl := List.mem_append_right _ (List.mem_of_getElem? (i := 1035) (by decide +kernel))
theorem k_1036 : (Jvm.Cond.instanceMethod ({ cls := "ShoulderHeirsModel", name := "tolds", desc := "(I)I" } : Jvm.MethodName)) ∈ lw_tbl := List.mem_append_right _ (List.mem_of_getElem? (i := 1036) (by decide +kernel))
theorem k_1037 : (Jvm.Cond.code ({ cls := "ShoulderHeirsModel", name := "tolds", desc := "(I)I" } : Jvm.MethodName) prog_11_method_29_code (4 : Nat) (Option.some Jvm.ClassFile.FieldType.int)) ∈ lw_tbl := List.mem_append_right _ (List.mem_of_getElem? (i := 1037) (by decide +kernel))
theorem k_1038 : (Jvm.Cond.methodLink "ShoulderHeirsModel" (217 : Nat) ({ cls := "ShoulderHeirsModel", name := "goesUp", desc := "()V" } : Jvm.MethodName)) ∈ lw_tbl := List.mem_append_right _ (List.mem_of_getElem? (i := 1038) (by decide +kernel))
theorem k_1039 : (Jvm.Cond.privateMethod ({ cls := "ShoulderHeirsModel", name := "goesUp", desc := "()V" } : Jvm.MethodName)) ∈ lw_tbl := List.mem_append_right _ (List.mem_of_getElem? (i := 1039) (by decide +kernel))
theorem k_1040 : (Jvm.Cond.instanceMethod ({ cls := "ShoulderHeirsModel", name := "goesUp", desc := "()V" } : Jvm.MethodName)) ∈ lw_tbl := List.mem_append_right _ (List.mem_of_getElem? (i := 1040) (by decide +kernel))
theorem k_1041 : (Jvm.Cond.code ({ cls := "ShoulderHeirsModel", name := "goesUp", desc := "()V" } : Jvm.MethodName) prog_11_method_36_code (7 : Nat) (Option.none : Option Jvm.ClassFile.FieldType)) ∈ lw_tbl := List.mem_append_right _ (List.mem_of_getElem? (i := 1041) (by decide +kernel))
theorem k_1042 : (Jvm.Cond.methodLink "ShoulderHeirsModel" (185 : Nat) ({ cls := "ShoulderHeirsModel", name := "startsUp", desc := "()V" } : Jvm.MethodName)) ∈ lw_tbl := List.mem_append_right _ (List.mem_of_getElem? (i := 1042) (by decide +kernel))
theorem k_1043 : (Jvm.Cond.privateMethod ({ cls := "ShoulderHeirsModel", name := "startsUp", desc := "()V" } : Jvm.MethodName)) ∈ lw_tbl := List.mem_append_right _ (List.mem_of_getElem? (i := 1043) (by decide +kernel))
theorem k_1044 : (Jvm.Cond.instanceMethod ({ cls := "ShoulderHeirsModel", name := "startsUp", desc := "()V" } : Jvm.MethodName)) ∈ lw_tbl := List.mem_append_right _ (List.mem_of_getElem? (i := 1044) (by decide +kernel))
theorem k_1045 : (Jvm.Cond.code ({ cls := "ShoulderHeirsModel", name := "startsUp", desc := "()V" } : Jvm.MethodName) prog_11_method_35_code (2 : Nat) (Option.none : Option Jvm.ClassFile.FieldType)) ∈ lw_tbl := List.mem_append_right _ (List.mem_of_getElem? (i := 1045) (by decide +kernel))
theorem k_1046 : (Jvm.Cond.methodLink "ShoulderHeirsModel" (192 : Nat) ({ cls := "ShoulderHeirsModel", name := "rainAt", desc := "(I)I" } : Jvm.MethodName)) ∈ lw_tbl := List.mem_append_right _ (List.mem_of_getElem? (i := 1046) (by decide +kernel))
theorem k_1047 : (Jvm.Cond.privateMethod ({ cls := "ShoulderHeirsModel", name := "rainAt", desc := "(I)I" } : Jvm.MethodName)) ∈ lw_tbl := List.mem_append_right _ (List.mem_of_getElem? (i := 1047) (by decide +kernel))
theorem k_1048 : (Jvm.Cond.instanceMethod ({ cls := "ShoulderHeirsModel", name := "rainAt", desc := "(I)I" } : Jvm.MethodName)) ∈ lw_tbl := List.mem_append_right _ (List.mem_of_getElem? (i := 1048) (by decide +kernel))
theorem k_1049 : (Jvm.Cond.code ({ cls := "ShoulderHeirsModel", name := "rainAt", desc := "(I)I" } : Jvm.MethodName) prog_11_method_30_code (4 : Nat) (Option.some Jvm.ClassFile.FieldType.int)) ∈ lw_tbl := List.mem_append_right _ (List.mem_of_getElem? (i := 1049) (by decide +kernel))
theorem k_1050 : (Jvm.Cond.constantLong "ShoulderHeirsModel" (158 : Nat) (7919 : Int64)) ∈ lw_tbl := List.mem_append_right _ (List.mem_of_getElem? (i := 1050) (by decide +kernel))
theorem k_1051 : (Jvm.Cond.constantLong "ShoulderHeirsModel" (160 : Nat) (6151 : Int64)) ∈ lw_tbl := List.mem_append_right _ (List.mem_of_getElem? (i := 1051) (by decide +kernel))
theorem k_1052 : (Jvm.Cond.constantLong "ShoulderHeirsModel" (162 : Nat) (65521 : Int64)) ∈ lw_tbl := List.mem_append_right _ (List.mem_of_getElem? (i := 1052) (by decide +kernel))
theorem k_1053 : (Jvm.Cond.constantLong "ShoulderHeirsModel" (164 : Nat) (3 : Int64)) ∈ lw_tbl := List.mem_append_right _ (List.mem_of_getElem? (i := 1053) (by decide +kernel))
theorem k_1054 : (Jvm.Cond.methodLink "ShoulderHeirsModel" (198 : Nat) ({ cls := "ShoulderHeirsModel", name := "unfallen", desc := "(I)I" } : Jvm.MethodName)) ∈ lw_tbl := List.mem_append_right _ (List.mem_of_getElem? (i := 1054) (by decide +kernel))
theorem k_1055 : (Jvm.Cond.privateMethod ({ cls := "ShoulderHeirsModel", name := "unfallen", desc := "(I)I" } : Jvm.MethodName)) ∈ lw_tbl := List.mem_append_right _ (List.mem_of_getElem? (i := 1055) (by decide +kernel))
theorem k_1056 : (Jvm.Cond.instanceMethod ({ cls := "ShoulderHeirsModel", name := "unfallen", desc := "(I)I" } : Jvm.MethodName)) ∈ lw_tbl := List.mem_append_right _ (List.mem_of_getElem? (i := 1056) (by decide +kernel))
theorem k_1057 : (Jvm.Cond.code ({ cls := "ShoulderHeirsModel", name := "unfallen", desc := "(I)I" } : Jvm.MethodName) prog_11_method_34_code (4 : Nat) (Option.some Jvm.ClassFile.FieldType.int)) ∈ lw_tbl := List.mem_append_right _ (List.mem_of_getElem? (i := 1057) (by decide +kernel))
theorem k_1058 : (Jvm.Cond.methodLink "ShoulderHeirsModel" (166 : Nat) ({ cls := "ShoulderHeirsModel", name := "has", desc := "(II)Z" } : Jvm.MethodName)) ∈ lw_tbl := List.mem_append_right _ (List.mem_of_getElem? (i := 1058) (by decide +kernel))
theorem k_1059 : (Jvm.Cond.static ({ cls := "ShoulderHeirsModel", name := "has", desc := "(II)Z" } : Jvm.MethodName)) ∈ lw_tbl := List.mem_append_right _ (List.mem_of_getElem? (i := 1059) (by decide +kernel))
theorem k_1060 : (Jvm.Cond.code ({ cls := "ShoulderHeirsModel", name := "has", desc := "(II)Z" } : Jvm.MethodName) prog_11_method_5_code (2 : Nat) (Option.some Jvm.ClassFile.FieldType.boolean)) ∈ lw_tbl := List.mem_append_right _ (List.mem_of_getElem? (i := 1060) (by decide +kernel))
theorem k_1061 : (Jvm.Cond.methodLink "ShoulderHeirsModel" (201 : Nat) ({ cls := "ShoulderHeirsModel", name := "bears", desc := "(III)I" } : Jvm.MethodName)) ∈ lw_tbl := List.mem_append_right _ (List.mem_of_getElem? (i := 1061) (by decide +kernel))
theorem k_1062 : (Jvm.Cond.privateMethod ({ cls := "ShoulderHeirsModel", name := "bears", desc := "(III)I" } : Jvm.MethodName)) ∈ lw_tbl := List.mem_append_right _ (List.mem_of_getElem? (i := 1062) (by decide +kernel))
theorem k_1063 : (Jvm.Cond.instanceMethod ({ cls := "ShoulderHeirsModel", name := "bears", desc := "(III)I" } : Jvm.MethodName)) ∈ lw_tbl := List.mem_append_right _ (List.mem_of_getElem? (i := 1063) (by decide +kernel))
theorem k_1064 : (Jvm.Cond.code ({ cls := "ShoulderHeirsModel", name := "bears", desc := "(III)I" } : Jvm.MethodName) prog_11_method_33_code (7 : Nat) (Option.some Jvm.ClassFile.FieldType.int)) ∈ lw_tbl := List.mem_append_right _ (List.mem_of_getElem? (i := 1064) (by decide +kernel))
theorem k_1065 : (Jvm.Cond.methodLink "ShoulderHeirsModel" (178 : Nat) ({ cls := "ShoulderHeirsModel", name := "cost", desc := "([IIII)I" } : Jvm.MethodName)) ∈ lw_tbl := List.mem_append_right _ (List.mem_of_getElem? (i := 1065) (by decide +kernel))
theorem k_1066 : (Jvm.Cond.static ({ cls := "ShoulderHeirsModel", name := "cost", desc := "([IIII)I" } : Jvm.MethodName)) ∈ lw_tbl := List.mem_append_right _ (List.mem_of_getElem? (i := 1066) (by decide +kernel))
theorem k_1067 : (Jvm.Cond.code ({ cls := "ShoulderHeirsModel", name := "cost", desc := "([IIII)I" } : Jvm.MethodName) prog_11_method_32_code (6 : Nat) (Option.some Jvm.ClassFile.FieldType.int)) ∈ lw_tbl := List.mem_append_right _ (List.mem_of_getElem? (i := 1067) (by decide +kernel))
theorem k_1068 : (Jvm.Cond.methodLink "ShoulderHeirsModel" (170 : Nat) ({ cls := "ShoulderHeirsModel", name := "isTwin", desc := "([III)Z" } : Jvm.MethodName)) ∈ lw_tbl := List.mem_append_right _ (List.mem_of_getElem? (i := 1068) (by decide +kernel))
theorem k_1069 : (Jvm.Cond.static ({ cls := "ShoulderHeirsModel", name := "isTwin", desc := "([III)Z" } : Jvm.MethodName)) ∈ lw_tbl := List.mem_append_right _ (List.mem_of_getElem? (i := 1069) (by decide +kernel))
theorem k_1070 : (Jvm.Cond.code ({ cls := "ShoulderHeirsModel", name := "isTwin", desc := "([III)Z" } : Jvm.MethodName) prog_11_method_31_code (5 : Nat) (Option.some Jvm.ClassFile.FieldType.boolean)) ∈ lw_tbl := List.mem_append_right _ (List.mem_of_getElem? (i := 1070) (by decide +kernel))
theorem k_1071 : (Jvm.Cond.methodLink "ShoulderHeirsModel" (174 : Nat) ({ cls := "ShoulderHeirsModel", name := "bits", desc := "(I)I" } : Jvm.MethodName)) ∈ lw_tbl := List.mem_append_right _ (List.mem_of_getElem? (i := 1071) (by decide +kernel))
theorem k_1072 : (Jvm.Cond.static ({ cls := "ShoulderHeirsModel", name := "bits", desc := "(I)I" } : Jvm.MethodName)) ∈ lw_tbl := List.mem_append_right _ (List.mem_of_getElem? (i := 1072) (by decide +kernel))
theorem k_1073 : (Jvm.Cond.code ({ cls := "ShoulderHeirsModel", name := "bits", desc := "(I)I" } : Jvm.MethodName) prog_11_method_6_code (3 : Nat) (Option.some Jvm.ClassFile.FieldType.int)) ∈ lw_tbl := List.mem_append_right _ (List.mem_of_getElem? (i := 1073) (by decide +kernel))
theorem k_1074 : (Jvm.Cond.methodLink "ShoulderHeirsModel" (205 : Nat) ({ cls := "ShoulderHeirsModel", name := "pays", desc := "(IIII)V" } : Jvm.MethodName)) ∈ lw_tbl := List.mem_append_right _ (List.mem_of_getElem? (i := 1074) (by decide +kernel))
theorem k_1075 : (Jvm.Cond.privateMethod ({ cls := "ShoulderHeirsModel", name := "pays", desc := "(IIII)V" } : Jvm.MethodName)) ∈ lw_tbl := List.mem_append_right _ (List.mem_of_getElem? (i := 1075) (by decide +kernel))
theorem k_1076 : (Jvm.Cond.instanceMethod ({ cls := "ShoulderHeirsModel", name := "pays", desc := "(IIII)V" } : Jvm.MethodName)) ∈ lw_tbl := List.mem_append_right _ (List.mem_of_getElem? (i := 1076) (by decide +kernel))
theorem k_1077 : (Jvm.Cond.code ({ cls := "ShoulderHeirsModel", name := "pays", desc := "(IIII)V" } : Jvm.MethodName) prog_11_method_37_code (6 : Nat) (Option.none : Option Jvm.ClassFile.FieldType)) ∈ lw_tbl := List.mem_append_right _ (List.mem_of_getElem? (i := 1077) (by decide +kernel))
theorem k_1078 : (Jvm.Cond.methodLink "ShoulderHeirsLaw" (39 : Nat) ({ cls := "ShoulderHeirsModel", name := "bearer", desc := "(II)I" } : Jvm.MethodName)) ∈ lw_tbl := List.mem_append_right _ (List.mem_of_getElem? (i := 1078) (by decide +kernel))
theorem k_1079 : (Jvm.Cond.instanceMethod ({ cls := "ShoulderHeirsModel", name := "bearer", desc := "(II)I" } : Jvm.MethodName)) ∈ lw_tbl := List.mem_append_right _ (List.mem_of_getElem? (i := 1079) (by decide +kernel))
theorem k_1080 : (Jvm.Cond.selects "ShoulderHeirsModel" ({ cls := "ShoulderHeirsModel", name := "bearer", desc := "(II)I" } : Jvm.MethodName) ({ cls := "ShoulderHeirsModel", name := "bearer", desc := "(II)I" } : Jvm.MethodName)) ∈ lw_tbl := List.mem_append_right _ (List.mem_of_getElem? (i := 1080) (by decide +kernel))
theorem k_1081 : (Jvm.Cond.code ({ cls := "ShoulderHeirsModel", name := "bearer", desc := "(II)I" } : Jvm.MethodName) prog_11_method_39_code (3 : Nat) (Option.some Jvm.ClassFile.FieldType.int)) ∈ lw_tbl := List.mem_append_right _ (List.mem_of_getElem? (i := 1081) (by decide +kernel))
theorem k_1082 : (Jvm.Cond.methodLink "ShoulderHeirsModel" (220 : Nat) ({ cls := "ShoulderHeirsModel", name := "isBearer", desc := "(I)Z" } : Jvm.MethodName)) ∈ lw_tbl := List.mem_append_right _ (List.mem_of_getElem? (i := 1082) (by decide +kernel))
theorem k_1083 : (Jvm.Cond.privateMethod ({ cls := "ShoulderHeirsModel", name := "isBearer", desc := "(I)Z" } : Jvm.MethodName)) ∈ lw_tbl := List.mem_append_right _ (List.mem_of_getElem? (i := 1083) (by decide +kernel))
theorem k_1084 : (Jvm.Cond.instanceMethod ({ cls := "ShoulderHeirsModel", name := "isBearer", desc := "(I)Z" } : Jvm.MethodName)) ∈ lw_tbl := List.mem_append_right _ (List.mem_of_getElem? (i := 1084) (by decide +kernel))
theorem k_1085 : (Jvm.Cond.code ({ cls := "ShoulderHeirsModel", name := "isBearer", desc := "(I)Z" } : Jvm.MethodName) prog_11_method_25_code (2 : Nat) (Option.some Jvm.ClassFile.FieldType.boolean)) ∈ lw_tbl := List.mem_append_right _ (List.mem_of_getElem? (i := 1085) (by decide +kernel))
theorem k_1086 : (Jvm.Cond.constantLong "ShoulderHeirsModel" (223 : Nat) (5 : Int64)) ∈ lw_tbl := List.mem_append_right _ (List.mem_of_getElem? (i := 1086) (by decide +kernel))
theorem k_1087 : (Jvm.Cond.methodLink "ShoulderHeirsLaw" (43 : Nat) ({ cls := "ShoulderHeirsModel", name := "stands", desc := "()I" } : Jvm.MethodName)) ∈ lw_tbl := List.mem_append_right _ (List.mem_of_getElem? (i := 1087) (by decide +kernel))
theorem k_1088 : (Jvm.Cond.instanceMethod ({ cls := "ShoulderHeirsModel", name := "stands", desc := "()I" } : Jvm.MethodName)) ∈ lw_tbl := List.mem_append_right _ (List.mem_of_getElem? (i := 1088) (by decide +kernel))
theorem k_1089 : (Jvm.Cond.selects "ShoulderHeirsModel" ({ cls := "ShoulderHeirsModel", name := "stands", desc := "()I" } : Jvm.MethodName) ({ cls := "ShoulderHeirsModel", name := "stands", desc := "()I" } : Jvm.MethodName)) ∈ lw_tbl := List.mem_append_right _ (List.mem_of_getElem? (i := 1089) (by decide +kernel))
theorem k_1090 : (Jvm.Cond.code ({ cls := "ShoulderHeirsModel", name := "stands", desc := "()I" } : Jvm.MethodName) prog_11_method_40_code (1 : Nat) (Option.some Jvm.ClassFile.FieldType.int)) ∈ lw_tbl := List.mem_append_right _ (List.mem_of_getElem? (i := 1090) (by decide +kernel))
theorem k_1091 : (Jvm.Cond.methodLink "ShoulderHeirsLaw" (47 : Nat) ({ cls := "ShoulderHeirsModel", name := "share", desc := "(II)I" } : Jvm.MethodName)) ∈ lw_tbl := List.mem_append_right _ (List.mem_of_getElem? (i := 1091) (by decide +kernel))
theorem k_1092 : (Jvm.Cond.instanceMethod ({ cls := "ShoulderHeirsModel", name := "share", desc := "(II)I" } : Jvm.MethodName)) ∈ lw_tbl := List.mem_append_right _ (List.mem_of_getElem? (i := 1092) (by decide +kernel))
theorem k_1093 : (Jvm.Cond.selects "ShoulderHeirsModel" ({ cls := "ShoulderHeirsModel", name := "share", desc := "(II)I" } : Jvm.MethodName) ({ cls := "ShoulderHeirsModel", name := "share", desc := "(II)I" } : Jvm.MethodName)) ∈ lw_tbl := List.mem_append_right _ (List.mem_of_getElem? (i := 1093) (by decide +kernel))
theorem k_1094 : (Jvm.Cond.code ({ cls := "ShoulderHeirsModel", name := "share", desc := "(II)I" } : Jvm.MethodName) prog_11_method_42_code (5 : Nat) (Option.some Jvm.ClassFile.FieldType.int)) ∈ lw_tbl := List.mem_append_right _ (List.mem_of_getElem? (i := 1094) (by decide +kernel))
theorem k_1095 : (Jvm.Cond.methodLink "ShoulderHeirsModel" (225 : Nat) ({ cls := "ShoulderHeirsModel", name := "isTwo", desc := "(I)Z" } : Jvm.MethodName)) ∈ lw_tbl := List.mem_append_right _ (List.mem_of_getElem? (i := 1095) (by decide +kernel))
theorem k_1096 : (Jvm.Cond.static ({ cls := "ShoulderHeirsModel", name := "isTwo", desc := "(I)Z" } : Jvm.MethodName)) ∈ lw_tbl := List.mem_append_right _ (List.mem_of_getElem? (i := 1096) (by decide +kernel))
theorem k_1097 : (Jvm.Cond.code ({ cls := "ShoulderHeirsModel", name := "isTwo", desc := "(I)Z" } : Jvm.MethodName) prog_11_method_4_code (1 : Nat) (Option.some Jvm.ClassFile.FieldType.boolean)) ∈ lw_tbl := List.mem_append_right _ (List.mem_of_getElem? (i := 1097) (by decide +kernel))
theorem k_1098 : (Jvm.Cond.methodLink "ShoulderHeirsModel" (228 : Nat) ({ cls := "ShoulderHeirsModel", name := "fraction", desc := "(JJI)I" } : Jvm.MethodName)) ∈ lw_tbl := List.mem_append_right _ (List.mem_of_getElem? (i := 1098) (by decide +kernel))
theorem k_1099 : (Jvm.Cond.static ({ cls := "ShoulderHeirsModel", name := "fraction", desc := "(JJI)I" } : Jvm.MethodName)) ∈ lw_tbl := List.mem_append_right _ (List.mem_of_getElem? (i := 1099) (by decide +kernel))
theorem k_1100 : (Jvm.Cond.code ({ cls := "ShoulderHeirsModel", name := "fraction", desc := "(JJI)I" } : Jvm.MethodName) prog_11_method_41_code (11 : Nat) (Option.some Jvm.ClassFile.FieldType.int)) ∈ lw_tbl := List.mem_append_right _ (List.mem_of_getElem? (i := 1100) (by decide +kernel))
theorem k_1101 : (Jvm.Cond.methodLink "ShoulderHeirsLaw" (51 : Nat) ({ cls := "ShoulderHeirsModel", name := "turn", desc := "(II)I" } : Jvm.MethodName)) ∈ lw_tbl := List.mem_append_right _ (List.mem_of_getElem? (i := 1101) (by decide +kernel))
theorem k_1102 : (Jvm.Cond.instanceMethod ({ cls := "ShoulderHeirsModel", name := "turn", desc := "(II)I" } : Jvm.MethodName)) ∈ lw_tbl := List.mem_append_right _ (List.mem_of_getElem? (i := 1102) (by decide +kernel))
theorem k_1103 : (Jvm.Cond.selects "ShoulderHeirsModel" ({ cls := "ShoulderHeirsModel", name := "turn", desc := "(II)I" } : Jvm.MethodName) ({ cls := "ShoulderHeirsModel", name := "turn", desc := "(II)I" } : Jvm.MethodName)) ∈ lw_tbl := List.mem_append_right _ (List.mem_of_getElem? (i := 1103) (by decide +kernel))
theorem k_1104 : (Jvm.Cond.code ({ cls := "ShoulderHeirsModel", name := "turn", desc := "(II)I" } : Jvm.MethodName) prog_11_method_45_code (3 : Nat) (Option.some Jvm.ClassFile.FieldType.int)) ∈ lw_tbl := List.mem_append_right _ (List.mem_of_getElem? (i := 1104) (by decide +kernel))
theorem k_1105 : (Jvm.Cond.methodLink "ShoulderHeirsModel" (232 : Nat) ({ cls := "ShoulderHeirsModel", name := "isTurn", desc := "(I)Z" } : Jvm.MethodName)) ∈ lw_tbl := List.mem_append_right _ (List.mem_of_getElem? (i := 1105) (by decide +kernel))
theorem k_1106 : (Jvm.Cond.privateMethod ({ cls := "ShoulderHeirsModel", name := "isTurn", desc := "(I)Z" } : Jvm.MethodName)) ∈ lw_tbl := List.mem_append_right _ (List.mem_of_getElem? (i := 1106) (by decide +kernel))
theorem k_1107 : (Jvm.Cond.instanceMethod ({ cls := "ShoulderHeirsModel", name := "isTurn", desc := "(I)Z" } : Jvm.MethodName)) ∈ lw_tbl := List.mem_append_right _ (List.mem_of_getElem? (i := 1107) (by decide +kernel))
theorem k_1108 : (Jvm.Cond.code ({ cls := "ShoulderHeirsModel", name := "isTurn", desc := "(I)Z" } : Jvm.MethodName) prog_11_method_44_code (2 : Nat) (Option.some Jvm.ClassFile.FieldType.boolean)) ∈ lw_tbl := List.mem_append_right _ (List.mem_of_getElem? (i := 1108) (by decide +kernel))
theorem k_1109 : (Jvm.Cond.methodLink "ShoulderHeirsLaw" (56 : Nat) ({ cls := "ShoulderHeirsModel", name := "bear", desc := "(III)I" } : Jvm.MethodName)) ∈ lw_tbl := List.mem_append_right _ (List.mem_of_getElem? (i := 1109) (by decide +kernel))
theorem k_1110 : (Jvm.Cond.instanceMethod ({ cls := "ShoulderHeirsModel", name := "bear", desc := "(III)I" } : Jvm.MethodName)) ∈ lw_tbl := List.mem_append_right _ (List.mem_of_getElem? (i := 1110) (by decide +kernel))
theorem k_1111 : (Jvm.Cond.selects "ShoulderHeirsModel" ({ cls := "ShoulderHeirsModel", name := "bear", desc := "(III)I" } : Jvm.MethodName) ({ cls := "ShoulderHeirsModel", name := "bear", desc := "(III)I" } : Jvm.MethodName)) ∈ lw_tbl := List.mem_append_right _ (List.mem_of_getElem? (i := 1111) (by decide +kernel))
theorem k_1112 : (Jvm.Cond.code ({ cls := "ShoulderHeirsModel", name := "bear", desc := "(III)I" } : Jvm.MethodName) prog_11_method_48_code (4 : Nat) (Option.some Jvm.ClassFile.FieldType.int)) ∈ lw_tbl := List.mem_append_right _ (List.mem_of_getElem? (i := 1112) (by decide +kernel))
theorem k_1113 : (Jvm.Cond.constantLong "ShoulderHeirsModel" (239 : Nat) (119 : Int64)) ∈ lw_tbl := List.mem_append_right _ (List.mem_of_getElem? (i := 1113) (by decide +kernel))
theorem k_1114 : (Jvm.Cond.methodLink "ShoulderHeirsModel" (241 : Nat) ({ cls := "ShoulderHeirsModel", name := "remember", desc := "()V" } : Jvm.MethodName)) ∈ lw_tbl := List.mem_append_right _ (List.mem_of_getElem? (i := 1114) (by decide +kernel))
theorem k_1115 : (Jvm.Cond.privateMethod ({ cls := "ShoulderHeirsModel", name := "remember", desc := "()V" } : Jvm.MethodName)) ∈ lw_tbl := List.mem_append_right _ (List.mem_of_getElem? (i := 1115) (by decide +kernel))
theorem k_1116 : (Jvm.Cond.instanceMethod ({ cls := "ShoulderHeirsModel", name := "remember", desc := "()V" } : Jvm.MethodName)) ∈ lw_tbl := List.mem_append_right _ (List.mem_of_getElem? (i := 1116) (by decide +kernel))
theorem k_1117 : (Jvm.Cond.code ({ cls := "ShoulderHeirsModel", name := "remember", desc := "()V" } : Jvm.MethodName) prog_11_method_46_code (2 : Nat) (Option.none : Option Jvm.ClassFile.FieldType)) ∈ lw_tbl := List.mem_append_right _ (List.mem_of_getElem? (i := 1117) (by decide +kernel))
theorem k_1118 : (Jvm.Cond.methodLink "ShoulderHeirsModel" (235 : Nat) ({ cls := "ShoulderHeirsModel", name := "copies", desc := "([II[II)V" } : Jvm.MethodName)) ∈ lw_tbl := List.mem_append_right _ (List.mem_of_getElem? (i := 1118) (by decide +kernel))
theorem k_1119 : (Jvm.Cond.static ({ cls := "ShoulderHeirsModel", name := "copies", desc := "([II[II)V" } : Jvm.MethodName)) ∈ lw_tbl := List.mem_append_right _ (List.mem_of_getElem? (i := 1119) (by decide +kernel))
theorem k_1120 : (Jvm.Cond.code ({ cls := "ShoulderHeirsModel", name := "copies", desc := "([II[II)V" } : Jvm.MethodName) prog_11_method_43_code (5 : Nat) (Option.none : Option Jvm.ClassFile.FieldType)) ∈ lw_tbl := List.mem_append_right _ (List.mem_of_getElem? (i := 1120) (by decide +kernel))
theorem k_1121 : (Jvm.Cond.methodLink "ShoulderHeirsModel" (244 : Nat) ({ cls := "ShoulderHeirsModel", name := "adds", desc := "([IIII)V" } : Jvm.MethodName)) ∈ lw_tbl := List.mem_append_right _ (List.mem_of_getElem? (i := 1121) (by decide +kernel))
theorem k_1122 : (Jvm.Cond.static ({ cls := "ShoulderHeirsModel", name := "adds", desc := "([IIII)V" } : Jvm.MethodName)) ∈ lw_tbl := List.mem_append_right _ (List.mem_of_getElem? (i := 1122) (by decide +kernel))
theorem k_1123 : (Jvm.Cond.code ({ cls := "ShoulderHeirsModel", name := "adds", desc := "([IIII)V" } : Jvm.MethodName) prog_11_method_47_code (5 : Nat) (Option.none : Option Jvm.ClassFile.FieldType)) ∈ lw_tbl := List.mem_append_right _ (List.mem_of_getElem? (i := 1123) (by decide +kernel))
theorem k_1124 : (Jvm.Cond.methodLink "ShoulderHeirsLaw" (60 : Nat) ({ cls := "ShoulderHeirsModel", name := "leave", desc := "(I)I" } : Jvm.MethodName)) ∈ lw_tbl := List.mem_append_right _ (List.mem_of_getElem? (i := 1124) (by decide +kernel))
theorem k_1125 : (Jvm.Cond.instanceMethod ({ cls := "ShoulderHeirsModel", name := "leave", desc := "(I)I" } : Jvm.MethodName)) ∈ lw_tbl := List.mem_append_right _ (List.mem_of_getElem? (i := 1125) (by decide +kernel))
theorem k_1126 : (Jvm.Cond.selects "ShoulderHeirsModel" ({ cls := "ShoulderHeirsModel", name := "leave", desc := "(I)I" } : Jvm.MethodName) ({ cls := "ShoulderHeirsModel", name := "leave", desc := "(I)I" } : Jvm.MethodName)) ∈ lw_tbl := List.mem_append_right _ (List.mem_of_getElem? (i := 1126) (by decide +kernel))
theorem k_1127 : (Jvm.Cond.code ({ cls := "ShoulderHeirsModel", name := "leave", desc := "(I)I" } : Jvm.MethodName) prog_11_method_49_code (4 : Nat) (Option.some Jvm.ClassFile.FieldType.int)) ∈ lw_tbl := List.mem_append_right _ (List.mem_of_getElem? (i := 1127) (by decide +kernel))
theorem k_1128 : (Jvm.Cond.methodLink "ShoulderHeirsLaw" (64 : Nat) ({ cls := "ShoulderHeirsModel", name := "undo", desc := "()I" } : Jvm.MethodName)) ∈ lw_tbl := List.mem_append_right _ (List.mem_of_getElem? (i := 1128) (by decide +kernel))
theorem k_1129 : (Jvm.Cond.instanceMethod ({ cls := "ShoulderHeirsModel", name := "undo", desc := "()I" } : Jvm.MethodName)) ∈ lw_tbl := List.mem_append_right _ (List.mem_of_getElem? (i := 1129) (by decide +kernel))
theorem k_1130 : (Jvm.Cond.selects "ShoulderHeirsModel" ({ cls := "ShoulderHeirsModel", name := "undo", desc := "()I" } : Jvm.MethodName) ({ cls := "ShoulderHeirsModel", name := "undo", desc := "()I" } : Jvm.MethodName)) ∈ lw_tbl := List.mem_append_right _ (List.mem_of_getElem? (i := 1130) (by decide +kernel))
theorem k_1131 : (Jvm.Cond.code ({ cls := "ShoulderHeirsModel", name := "undo", desc := "()I" } : Jvm.MethodName) prog_11_method_50_code (1 : Nat) (Option.some Jvm.ClassFile.FieldType.int)) ∈ lw_tbl := List.mem_append_right _ (List.mem_of_getElem? (i := 1131) (by decide +kernel))
theorem k_1132 : (Jvm.Cond.methodLink "ShoulderHeirsLaw" (68 : Nat) ({ cls := "ShoulderHeirsModel", name := "best", desc := "(II)I" } : Jvm.MethodName)) ∈ lw_tbl := List.mem_append_right _ (List.mem_of_getElem? (i := 1132) (by decide +kernel))
theorem k_1133 : (Jvm.Cond.instanceMethod ({ cls := "ShoulderHeirsModel", name := "best", desc := "(II)I" } : Jvm.MethodName)) ∈ lw_tbl := List.mem_append_right _ (List.mem_of_getElem? (i := 1133) (by decide +kernel))
theorem k_1134 : (Jvm.Cond.selects "ShoulderHeirsModel" ({ cls := "ShoulderHeirsModel", name := "best", desc := "(II)I" } : Jvm.MethodName) ({ cls := "ShoulderHeirsModel", name := "best", desc := "(II)I" } : Jvm.MethodName)) ∈ lw_tbl := List.mem_append_right _ (List.mem_of_getElem? (i := 1134) (by decide +kernel))
theorem k_1135 : (Jvm.Cond.code ({ cls := "ShoulderHeirsModel", name := "best", desc := "(II)I" } : Jvm.MethodName) prog_11_method_51_code (8 : Nat) (Option.some Jvm.ClassFile.FieldType.int)) ∈ lw_tbl := List.mem_append_right _ (List.mem_of_getElem? (i := 1135) (by decide +kernel))
theorem k_1136 : (Jvm.Cond.methodLink "ShoulderHeirsLaw" (72 : Nat) ({ cls := "ShoulderHeirsModel", name := "safe", desc := "()I" } : Jvm.MethodName)) ∈ lw_tbl := List.mem_append_right _ (List.mem_of_getElem? (i := 1136) (by decide +kernel))
theorem k_1137 : (Jvm.Cond.instanceMethod ({ cls := "ShoulderHeirsModel", name := "safe", desc := "()I" } : Jvm.MethodName)) ∈ lw_tbl := List.mem_append_right _ (List.mem_of_getElem? (i := 1137) (by decide +kernel))
theorem k_1138 : (Jvm.Cond.selects "ShoulderHeirsModel" ({ cls := "ShoulderHeirsModel", name := "safe", desc := "()I" } : Jvm.MethodName) ({ cls := "ShoulderHeirsModel", name := "safe", desc := "()I" } : Jvm.MethodName)) ∈ lw_tbl := List.mem_append_right _ (List.mem_of_getElem? (i := 1138) (by decide +kernel))
theorem k_1139 : (Jvm.Cond.code ({ cls := "ShoulderHeirsModel", name := "safe", desc := "()I" } : Jvm.MethodName) prog_11_method_52_code (2 : Nat) (Option.some Jvm.ClassFile.FieldType.int)) ∈ lw_tbl := List.mem_append_right _ (List.mem_of_getElem? (i := 1139) (by decide +kernel))
theorem k_1140 : (Jvm.Cond.methodLink "ShoulderHeirsLaw" (76 : Nat) ({ cls := "ShoulderHeirsModel", name := "needed", desc := "()I" } : Jvm.MethodName)) ∈ lw_tbl := List.mem_append_right _ (List.mem_of_getElem? (i := 1140) (by decide +kernel))
theorem k_1141 : (Jvm.Cond.instanceMethod ({ cls := "ShoulderHeirsModel", name := "needed", desc := "()I" } : Jvm.MethodName)) ∈ lw_tbl := List.mem_append_right _ (List.mem_of_getElem? (i := 1141) (by decide +kernel))
theorem k_1142 : (Jvm.Cond.selects "ShoulderHeirsModel" ({ cls := "ShoulderHeirsModel", name := "needed", desc := "()I" } : Jvm.MethodName) ({ cls := "ShoulderHeirsModel", name := "needed", desc := "()I" } : Jvm.MethodName)) ∈ lw_tbl := List.mem_append_right _ (List.mem_of_getElem? (i := 1142) (by decide +kernel))
theorem k_1143 : (Jvm.Cond.code ({ cls := "ShoulderHeirsModel", name := "needed", desc := "()I" } : Jvm.MethodName) prog_11_method_53_code (4 : Nat) (Option.some Jvm.ClassFile.FieldType.int)) ∈ lw_tbl := List.mem_append_right _ (List.mem_of_getElem? (i := 1143) (by decide +kernel))
theorem k_1144 : (Jvm.Cond.methodLink "ShoulderHeirsLaw" (80 : Nat) ({ cls := "ShoulderHeirsModel", name := "far", desc := "(I)I" } : Jvm.MethodName)) ∈ lw_tbl := List.mem_append_right _ (List.mem_of_getElem? (i := 1144) (by decide +kernel))
theorem k_1145 : (Jvm.Cond.instanceMethod ({ cls := "ShoulderHeirsModel", name := "far", desc := "(I)I" } : Jvm.MethodName)) ∈ lw_tbl := List.mem_append_right _ (List.mem_of_getElem? (i := 1145) (by decide +kernel))
theorem k_1146 : (Jvm.Cond.selects "ShoulderHeirsModel" ({ cls := "ShoulderHeirsModel", name := "far", desc := "(I)I" } : Jvm.MethodName) ({ cls := "ShoulderHeirsModel", name := "far", desc := "(I)I" } : Jvm.MethodName)) ∈ lw_tbl := List.mem_append_right _ (List.mem_of_getElem? (i := 1146) (by decide +kernel))
theorem k_1147 : (Jvm.Cond.code ({ cls := "ShoulderHeirsModel", name := "far", desc := "(I)I" } : Jvm.MethodName) prog_11_method_57_code (3 : Nat) (Option.some Jvm.ClassFile.FieldType.int)) ∈ lw_tbl := List.mem_append_right _ (List.mem_of_getElem? (i := 1147) (by decide +kernel))
theorem k_1148 : (Jvm.Cond.constantLong "ShoulderHeirsModel" (255 : Nat) (-1 : Int64)) ∈ lw_tbl := List.mem_append_right _ (List.mem_of_getElem? (i := 1148) (by decide +kernel))
theorem k_1149 : (Jvm.Cond.methodLink "ShoulderHeirsModel" (257 : Nat) ({ cls := "ShoulderHeirsModel", name := "layFarthest", desc := "(II)I" } : Jvm.MethodName)) ∈ lw_tbl := List.mem_append_right _ (List.mem_of_getElem? (i := 1149) (by decide +kernel))
theorem k_1150 : (Jvm.Cond.privateMethod ({ cls := "ShoulderHeirsModel", name := "layFarthest", desc := "(II)I" } : Jvm.MethodName)) ∈ lw_tbl := List.mem_append_right _ (List.mem_of_getElem? (i := 1150) (by decide +kernel))
theorem k_1151 : (Jvm.Cond.instanceMethod ({ cls := "ShoulderHeirsModel", name := "layFarthest", desc := "(II)I" } : Jvm.MethodName)) ∈ lw_tbl := List.mem_append_right _ (List.mem_of_getElem? (i := 1151) (by decide +kernel))
theorem k_1152 : (Jvm.Cond.code ({ cls := "ShoulderHeirsModel", name := "layFarthest", desc := "(II)I" } : Jvm.MethodName) prog_11_method_56_code (8 : Nat) (Option.some Jvm.ClassFile.FieldType.int)) ∈ lw_tbl := List.mem_append_right _ (List.mem_of_getElem? (i := 1152) (by decide +kernel))
theorem k_1153 : (Jvm.Cond.methodLink "ShoulderHeirsModel" (248 : Nat) ({ cls := "ShoulderHeirsModel", name := "layOrder", desc := "(I)Z" } : Jvm.MethodName)) ∈ lw_tbl := List.mem_append_right _ (List.mem_of_getElem? (i := 1153) (by decide +kernel))
theorem k_1154 : (Jvm.Cond.privateMethod ({ cls := "ShoulderHeirsModel", name := "layOrder", desc := "(I)Z" } : Jvm.MethodName)) ∈ lw_tbl := List.mem_append_right _ (List.mem_of_getElem? (i := 1154) (by decide +kernel))
theorem k_1155 : (Jvm.Cond.instanceMethod ({ cls := "ShoulderHeirsModel", name := "layOrder", desc := "(I)Z" } : Jvm.MethodName)) ∈ lw_tbl := List.mem_append_right _ (List.mem_of_getElem? (i := 1155) (by decide +kernel))
theorem k_1156 : (Jvm.Cond.code ({ cls := "ShoulderHeirsModel", name := "layOrder", desc := "(I)Z" } : Jvm.MethodName) prog_11_method_54_code (6 : Nat) (Option.some Jvm.ClassFile.FieldType.boolean)) ∈ lw_tbl := List.mem_append_right _ (List.mem_of_getElem? (i := 1156) (by decide +kernel))
theorem k_1157 : (Jvm.Cond.methodLink "ShoulderHeirsModel" (251 : Nat) ({ cls := "ShoulderHeirsModel", name := "comesTo", desc := "(II)I" } : Jvm.MethodName)) ∈ lw_tbl := List.mem_append_right _ (List.mem_of_getElem? (i := 1157) (by decide +kernel))
theorem k_1158 : (Jvm.Cond.privateMethod ({ cls := "ShoulderHeirsModel", name := "comesTo", desc := "(II)I" } : Jvm.MethodName)) ∈ lw_tbl := List.mem_append_right _ (List.mem_of_getElem? (i := 1158) (by decide +kernel))
theorem k_1159 : (Jvm.Cond.instanceMethod ({ cls := "ShoulderHeirsModel", name := "comesTo", desc := "(II)I" } : Jvm.MethodName)) ∈ lw_tbl := List.mem_append_right _ (List.mem_of_getElem? (i := 1159) (by decide +kernel))
theorem k_1160 : (Jvm.Cond.code ({ cls := "ShoulderHeirsModel", name := "comesTo", desc := "(II)I" } : Jvm.MethodName) prog_11_method_55_code (10 : Nat) (Option.some Jvm.ClassFile.FieldType.int)) ∈ lw_tbl := List.mem_append_right _ (List.mem_of_getElem? (i := 1160) (by decide +kernel))
theorem k_1161 : (Jvm.Cond.methodLink "ShoulderHeirsLaw" (84 : Nat) ({ cls := "ShoulderHeirsModel", name := "son", desc := "(II)I" } : Jvm.MethodName)) ∈ lw_tbl := List.mem_append_right _ (List.mem_of_getElem? (i := 1161) (by decide +kernel))
theorem k_1162 : (Jvm.Cond.instanceMethod ({ cls := "ShoulderHeirsModel", name := "son", desc := "(II)I" } : Jvm.MethodName)) ∈ lw_tbl := List.mem_append_right _ (List.mem_of_getElem? (i := 1162) (by decide +kernel))
theorem k_1163 : (Jvm.Cond.selects "ShoulderHeirsModel" ({ cls := "ShoulderHeirsModel", name := "son", desc := "(II)I" } : Jvm.MethodName) ({ cls := "ShoulderHeirsModel", name := "son", desc := "(II)I" } : Jvm.MethodName)) ∈ lw_tbl := List.mem_append_right _ (List.mem_of_getElem? (i := 1163) (by decide +kernel))
theorem k_1164 : (Jvm.Cond.code ({ cls := "ShoulderHeirsModel", name := "son", desc := "(II)I" } : Jvm.MethodName) prog_11_method_58_code (3 : Nat) (Option.some Jvm.ClassFile.FieldType.int)) ∈ lw_tbl := List.mem_append_right _ (List.mem_of_getElem? (i := 1164) (by decide +kernel))
theorem k_1165 : (Jvm.Cond.constantLong "ShoulderHeirsModel" (260 : Nat) (99 : Int64)) ∈ lw_tbl := List.mem_append_right _ (List.mem_of_getElem? (i := 1165) (by decide +kernel))
theorem k_1166 : (Jvm.Cond.methodLink "ShoulderHeirsLaw" (88 : Nat) ({ cls := "ShoulderHeirsModel", name := "cairn", desc := "(III)I" } : Jvm.MethodName)) ∈ lw_tbl := List.mem_append_right _ (List.mem_of_getElem? (i := 1166) (by decide +kernel))
theorem k_1167 : (Jvm.Cond.instanceMethod ({ cls := "ShoulderHeirsModel", name := "cairn", desc := "(III)I" } : Jvm.MethodName)) ∈ lw_tbl := List.mem_append_right _ (List.mem_of_getElem? (i := 1167) (by decide +kernel))
theorem k_1168 : (Jvm.Cond.selects "ShoulderHeirsModel" ({ cls := "ShoulderHeirsModel", name := "cairn", desc := "(III)I" } : Jvm.MethodName) ({ cls := "ShoulderHeirsModel", name := "cairn", desc := "(III)I" } : Jvm.MethodName)) ∈ lw_tbl := List.mem_append_right _ (List.mem_of_getElem? (i := 1168) (by decide +kernel))
theorem k_1169 : (Jvm.Cond.code ({ cls := "ShoulderHeirsModel", name := "cairn", desc := "(III)I" } : Jvm.MethodName) prog_11_method_59_code (5 : Nat) (Option.some Jvm.ClassFile.FieldType.int)) ∈ lw_tbl := List.mem_append_right _ (List.mem_of_getElem? (i := 1169) (by decide +kernel))
theorem k_1170 : (Jvm.Cond.constantLong "ShoulderHeirsModel" (262 : Nat) (-9 : Int64)) ∈ lw_tbl := List.mem_append_right _ (List.mem_of_getElem? (i := 1170) (by decide +kernel))
theorem k_1171 : (Jvm.Cond.constantLong "ShoulderHeirsModel" (264 : Nat) (9 : Int64)) ∈ lw_tbl := List.mem_append_right _ (List.mem_of_getElem? (i := 1171) (by decide +kernel))
theorem k_1172 : (Jvm.Cond.methodLink "ShoulderHeirsLaw" (92 : Nat) ({ cls := "ShoulderHeirsModel", name := "heir", desc := "(I)I" } : Jvm.MethodName)) ∈ lw_tbl := List.mem_append_right _ (List.mem_of_getElem? (i := 1172) (by decide +kernel))
theorem k_1173 : (Jvm.Cond.instanceMethod ({ cls := "ShoulderHeirsModel", name := "heir", desc := "(I)I" } : Jvm.MethodName)) ∈ lw_tbl := List.mem_append_right _ (List.mem_of_getElem? (i := 1173) (by decide +kernel))
theorem k_1174 : (Jvm.Cond.selects "ShoulderHeirsModel" ({ cls := "ShoulderHeirsModel", name := "heir", desc := "(I)I" } : Jvm.MethodName) ({ cls := "ShoulderHeirsModel", name := "heir", desc := "(I)I" } : Jvm.MethodName)) ∈ lw_tbl := List.mem_append_right _ (List.mem_of_getElem? (i := 1174) (by decide +kernel))
theorem k_1175 : (Jvm.Cond.code ({ cls := "ShoulderHeirsModel", name := "heir", desc := "(I)I" } : Jvm.MethodName) prog_11_method_61_code (2 : Nat) (Option.some Jvm.ClassFile.FieldType.int)) ∈ lw_tbl := List.mem_append_right _ (List.mem_of_getElem? (i := 1175) (by decide +kernel))
theorem k_1176 : (Jvm.Cond.methodLink "ShoulderHeirsModel" (266 : Nat) ({ cls := "ShoulderHeirsModel", name := "heirBy", desc := "(I)I" } : Jvm.MethodName)) ∈ lw_tbl := List.mem_append_right _ (List.mem_of_getElem? (i := 1176) (by decide +kernel))
theorem k_1177 : (Jvm.Cond.privateMethod ({ cls := "ShoulderHeirsModel", name := "heirBy", desc := "(I)I" } : Jvm.MethodName)) ∈ lw_tbl := List.mem_append_right _ (List.mem_of_getElem? (i := 1177) (by decide +kernel))
theorem k_1178 : (Jvm.Cond.instanceMethod ({ cls := "ShoulderHeirsModel", name := "heirBy", desc := "(I)I" } : Jvm.MethodName)) ∈ lw_tbl := List.mem_append_right _ (List.mem_of_getElem? (i := 1178) (by decide +kernel))
theorem k_1179 : (Jvm.Cond.code ({ cls := "ShoulderHeirsModel", name := "heirBy", desc := "(I)I" } : Jvm.MethodName) prog_11_method_60_code (6 : Nat) (Option.some Jvm.ClassFile.FieldType.int)) ∈ lw_tbl := List.mem_append_right _ (List.mem_of_getElem? (i := 1179) (by decide +kernel))
theorem k_1180 : (Jvm.Cond.methodLink "ShoulderHeirsLaw" (96 : Nat) ({ cls := "ShoulderHeirsModel", name := "rests", desc := "(III)I" } : Jvm.MethodName)) ∈ lw_tbl := List.mem_append_right _ (List.mem_of_getElem? (i := 1180) (by decide +kernel))
theorem k_1181 : (Jvm.Cond.instanceMethod ({ cls := "ShoulderHeirsModel", name := "rests", desc := "(III)I" } : Jvm.MethodName)) ∈ lw_tbl := List.mem_append_right _ (List.mem_of_getElem? (i := 1181) (by decide +kernel))
theorem k_1182 : (Jvm.Cond.selects "ShoulderHeirsModel" ({ cls := "ShoulderHeirsModel", name := "rests", desc := "(III)I" } : Jvm.MethodName) ({ cls := "ShoulderHeirsModel", name := "rests", desc := "(III)I" } : Jvm.MethodName)) ∈ lw_tbl := List.mem_append_right _ (List.mem_of_getElem? (i := 1182) (by decide +kernel))
theorem k_1183 : (Jvm.Cond.code ({ cls := "ShoulderHeirsModel", name := "rests", desc := "(III)I" } : Jvm.MethodName) prog_11_method_63_code (11 : Nat) (Option.some Jvm.ClassFile.FieldType.int)) ∈ lw_tbl := List.mem_append_right _ (List.mem_of_getElem? (i := 1183) (by decide +kernel))
theorem k_1184 : (Jvm.Cond.methodLink "ShoulderHeirsModel" (269 : Nat) ({ cls := "ShoulderHeirsModel", name := "layChoice", desc := "(IIII)V" } : Jvm.MethodName)) ∈ lw_tbl := List.mem_append_right _ (List.mem_of_getElem? (i := 1184) (by decide +kernel))
theorem k_1185 : (Jvm.Cond.privateMethod ({ cls := "ShoulderHeirsModel", name := "layChoice", desc := "(IIII)V" } : Jvm.MethodName)) ∈ lw_tbl := List.mem_append_right _ (List.mem_of_getElem? (i := 1185) (by decide +kernel))
theorem k_1186 : (Jvm.Cond.instanceMethod ({ cls := "ShoulderHeirsModel", name := "layChoice", desc := "(IIII)V" } : Jvm.MethodName)) ∈ lw_tbl := List.mem_append_right _ (List.mem_of_getElem? (i := 1186) (by decide +kernel))
theorem k_1187 : (Jvm.Cond.code ({ cls := "ShoulderHeirsModel", name := "layChoice", desc := "(IIII)V" } : Jvm.MethodName) prog_11_method_62_code (14 : Nat) (Option.none : Option Jvm.ClassFile.FieldType)) ∈ lw_tbl := List.mem_append_right _ (List.mem_of_getElem? (i := 1187) (by decide +kernel))
theorem k_1188 : (Jvm.Cond.methodLink "ShoulderHeirsLaw" (100 : Nat) ({ cls := "ShoulderHeirsModel", name := "print", desc := "(II)I" } : Jvm.MethodName)) ∈ lw_tbl := List.mem_append_right _ (List.mem_of_getElem? (i := 1188) (by decide +kernel))
theorem k_1189 : (Jvm.Cond.instanceMethod ({ cls := "ShoulderHeirsModel", name := "print", desc := "(II)I" } : Jvm.MethodName)) ∈ lw_tbl := List.mem_append_right _ (List.mem_of_getElem? (i := 1189) (by decide +kernel))
theorem k_1190 : (Jvm.Cond.selects "ShoulderHeirsModel" ({ cls := "ShoulderHeirsModel", name := "print", desc := "(II)I" } : Jvm.MethodName) ({ cls := "ShoulderHeirsModel", name := "print", desc := "(II)I" } : Jvm.MethodName)) ∈ lw_tbl := List.mem_append_right _ (List.mem_of_getElem? (i := 1190) (by decide +kernel))
theorem k_1191 : (Jvm.Cond.code ({ cls := "ShoulderHeirsModel", name := "print", desc := "(II)I" } : Jvm.MethodName) prog_11_method_64_code (3 : Nat) (Option.some Jvm.ClassFile.FieldType.int)) ∈ lw_tbl := List.mem_append_right _ (List.mem_of_getElem? (i := 1191) (by decide +kernel))
theorem k_1192 : (Jvm.Cond.constantLong "ShoulderHeirsModel" (272 : Nat) (6 : Int64)) ∈ lw_tbl := List.mem_append_right _ (List.mem_of_getElem? (i := 1192) (by decide +kernel))
theorem k_1193 : (Jvm.Cond.methodLink "ShoulderHeirsLaw" (104 : Nat) ({ cls := "ShoulderHeirsModel", name := "forget", desc := "()I" } : Jvm.MethodName)) ∈ lw_tbl := List.mem_append_right _ (List.mem_of_getElem? (i := 1193) (by decide +kernel))
theorem k_1194 : (Jvm.Cond.instanceMethod ({ cls := "ShoulderHeirsModel", name := "forget", desc := "()I" } : Jvm.MethodName)) ∈ lw_tbl := List.mem_append_right _ (List.mem_of_getElem? (i := 1194) (by decide +kernel))
theorem k_1195 : (Jvm.Cond.selects "ShoulderHeirsModel" ({ cls := "ShoulderHeirsModel", name := "forget", desc := "()I" } : Jvm.MethodName) ({ cls := "ShoulderHeirsModel", name := "forget", desc := "()I" } : Jvm.MethodName)) ∈ lw_tbl := List.mem_append_right _ (List.mem_of_getElem? (i := 1195) (by decide +kernel))
theorem k_1196 : (Jvm.Cond.code ({ cls := "ShoulderHeirsModel", name := "forget", desc := "()I" } : Jvm.MethodName) prog_11_method_65_code (2 : Nat) (Option.some Jvm.ClassFile.FieldType.int)) ∈ lw_tbl := List.mem_append_right _ (List.mem_of_getElem? (i := 1196) (by decide +kernel))
theorem k_1197 : (Jvm.Cond.methodLink "ShoulderHeirsLaw" (108 : Nat) ({ cls := "ShoulderHeirsModel", name := "failed", desc := "()I" } : Jvm.MethodName)) ∈ lw_tbl := List.mem_append_right _ (List.mem_of_getElem? (i := 1197) (by decide +kernel))
theorem k_1198 : (Jvm.Cond.instanceMethod ({ cls := "ShoulderHeirsModel", name := "failed", desc := "()I" } : Jvm.MethodName)) ∈ lw_tbl := List.mem_append_right _ (List.mem_of_getElem? (i := 1198) (by decide +kernel))
theorem k_1199 : (Jvm.Cond.selects "ShoulderHeirsModel" ({ cls := "ShoulderHeirsModel", name := "failed", desc := "()I" } : Jvm.MethodName) ({ cls := "ShoulderHeirsModel", name := "failed", desc := "()I" } : Jvm.MethodName)) ∈ lw_tbl := List.mem_append_right _ (List.mem_of_getElem? (i := 1199) (by decide +kernel))
theorem k_1200 : (Jvm.Cond.code ({ cls := "ShoulderHeirsModel", name := "failed", desc := "()I" } : Jvm.MethodName) prog_11_method_67_code (3 : Nat) (Option.some Jvm.ClassFile.FieldType.int)) ∈ lw_tbl := List.mem_append_right _ (List.mem_of_getElem? (i := 1200) (by decide +kernel))
theorem k_1201 : (Jvm.Cond.methodLink "ShoulderHeirsModel" (274 : Nat) ({ cls := "ShoulderHeirsModel", name := "areSo", desc := "(I)Z" } : Jvm.MethodName)) ∈ lw_tbl := List.mem_append_right _ (List.mem_of_getElem? (i := 1201) (by decide +kernel))
theorem k_1202 : (Jvm.Cond.privateMethod ({ cls := "ShoulderHeirsModel", name := "areSo", desc := "(I)Z" } : Jvm.MethodName)) ∈ lw_tbl := List.mem_append_right _ (List.mem_of_getElem? (i := 1202) (by decide +kernel))
theorem k_1203 : (Jvm.Cond.instanceMethod ({ cls := "ShoulderHeirsModel", name := "areSo", desc := "(I)Z" } : Jvm.MethodName)) ∈ lw_tbl := List.mem_append_right _ (List.mem_of_getElem? (i := 1203) (by decide +kernel))
theorem k_1204 : (Jvm.Cond.code ({ cls := "ShoulderHeirsModel", name := "areSo", desc := "(I)Z" } : Jvm.MethodName) prog_11_method_66_code (4 : Nat) (Option.some Jvm.ClassFile.FieldType.boolean)) ∈ lw_tbl := List.mem_append_right _ (List.mem_of_getElem? (i := 1204) (by decide +kernel))
theorem k_1205 : (Jvm.Cond.methodLink "ShoulderHeirsLaw" (112 : Nat) ({ cls := "ShoulderHeirsModel", name := "odds", desc := "(III)I" } : Jvm.MethodName)) ∈ lw_tbl := List.mem_append_right _ (List.mem_of_getElem? (i := 1205) (by decide +kernel))
theorem k_1206 : (Jvm.Cond.instanceMethod ({ cls := "ShoulderHeirsModel", name := "odds", desc := "(III)I" } : Jvm.MethodName)) ∈ lw_tbl := List.mem_append_right _ (List.mem_of_getElem? (i := 1206) (by decide +kernel))
theorem k_1207 : (Jvm.Cond.selects "ShoulderHeirsModel" ({ cls := "ShoulderHeirsModel", name := "odds", desc := "(III)I" } : Jvm.MethodName) ({ cls := "ShoulderHeirsModel", name := "odds", desc := "(III)I" } : Jvm.MethodName)) ∈ lw_tbl := List.mem_append_right _ (List.mem_of_getElem? (i := 1207) (by decide +kernel))
theorem k_1208 : (Jvm.Cond.code ({ cls := "ShoulderHeirsModel", name := "odds", desc := "(III)I" } : Jvm.MethodName) prog_11_method_68_code (14 : Nat) (Option.some Jvm.ClassFile.FieldType.int)) ∈ lw_tbl := List.mem_append_right _ (List.mem_of_getElem? (i := 1208) (by decide +kernel))
theorem k_1209 : (Jvm.Cond.constantLong "ShoulderHeirsModel" (277 : Nat) (10 : Int64)) ∈ lw_tbl := List.mem_append_right _ (List.mem_of_getElem? (i := 1209) (by decide +kernel))
theorem k_1210 : (Jvm.Cond.methodLink "ShoulderHeirsLaw" (116 : Nat) ({ cls := "ShoulderHeirsModel", name := "rain", desc := "(II)I" } : Jvm.MethodName)) ∈ lw_tbl := List.mem_append_right _ (List.mem_of_getElem? (i := 1210) (by decide +kernel))
theorem k_1211 : (Jvm.Cond.instanceMethod ({ cls := "ShoulderHeirsModel", name := "rain", desc := "(II)I" } : Jvm.MethodName)) ∈ lw_tbl := List.mem_append_right _ (List.mem_of_getElem? (i := 1211) (by decide +kernel))
theorem k_1212 : (Jvm.Cond.selects "ShoulderHeirsModel" ({ cls := "ShoulderHeirsModel", name := "rain", desc := "(II)I" } : Jvm.MethodName) ({ cls := "ShoulderHeirsModel", name := "rain", desc := "(II)I" } : Jvm.MethodName)) ∈ lw_tbl := List.mem_append_right _ (List.mem_of_getElem? (i := 1212) (by decide +kernel))
theorem k_1213 : (Jvm.Cond.code ({ cls := "ShoulderHeirsModel", name := "rain", desc := "(II)I" } : Jvm.MethodName) prog_11_method_69_code (3 : Nat) (Option.some Jvm.ClassFile.FieldType.int)) ∈ lw_tbl := List.mem_append_right _ (List.mem_of_getElem? (i := 1213) (by decide +kernel))
theorem k_1214 : (Jvm.Cond.constantLong "ShoulderHeirsModel" (279 : Nat) (9999 : Int64)) ∈ lw_tbl := List.mem_append_right _ (List.mem_of_getElem? (i := 1214) (by decide +kernel))
theorem k_1215 : (Jvm.Cond.methodLink "ShoulderHeirsLaw" (120 : Nat) ({ cls := "ShoulderHeirsModel", name := "keep", desc := "()I" } : Jvm.MethodName)) ∈ lw_tbl := List.mem_append_right _ (List.mem_of_getElem? (i := 1215) (by decide +kernel))
theorem k_1216 : (Jvm.Cond.instanceMethod ({ cls := "ShoulderHeirsModel", name := "keep", desc := "()I" } : Jvm.MethodName)) ∈ lw_tbl := List.mem_append_right _ (List.mem_of_getElem? (i := 1216) (by decide +kernel))
theorem k_1217 : (Jvm.Cond.selects "ShoulderHeirsModel" ({ cls := "ShoulderHeirsModel", name := "keep", desc := "()I" } : Jvm.MethodName) ({ cls := "ShoulderHeirsModel", name := "keep", desc := "()I" } : Jvm.MethodName)) ∈ lw_tbl := List.mem_append_right _ (List.mem_of_getElem? (i := 1217) (by decide +kernel))
theorem k_1218 : (Jvm.Cond.code ({ cls := "ShoulderHeirsModel", name := "keep", desc := "()I" } : Jvm.MethodName) prog_11_method_70_code (1 : Nat) (Option.some Jvm.ClassFile.FieldType.int)) ∈ lw_tbl := List.mem_append_right _ (List.mem_of_getElem? (i := 1218) (by decide +kernel))
theorem k_1219 : (Jvm.Cond.methodLink "ShoulderHeirsLaw" (124 : Nat) ({ cls := "ShoulderHeirsModel", name := "back", desc := "()I" } : Jvm.MethodName)) ∈ lw_tbl := List.mem_append_right _ (List.mem_of_getElem? (i := 1219) (by decide +kernel))
theorem k_1220 : (Jvm.Cond.instanceMethod ({ cls := "ShoulderHeirsModel", name := "back", desc := "()I" } : Jvm.MethodName)) ∈ lw_tbl := List.mem_append_right _ (List.mem_of_getElem? (i := 1220) (by decide +kernel))
theorem k_1221 : (Jvm.Cond.selects "ShoulderHeirsModel" ({ cls := "ShoulderHeirsModel", name := "back", desc := "()I" } : Jvm.MethodName) ({ cls := "ShoulderHeirsModel", name := "back", desc := "()I" } : Jvm.MethodName)) ∈ lw_tbl := List.mem_append_right _ (List.mem_of_getElem? (i := 1221) (by decide +kernel))
theorem k_1222 : (Jvm.Cond.code ({ cls := "ShoulderHeirsModel", name := "back", desc := "()I" } : Jvm.MethodName) prog_11_method_71_code (1 : Nat) (Option.some Jvm.ClassFile.FieldType.int)) ∈ lw_tbl := List.mem_append_right _ (List.mem_of_getElem? (i := 1222) (by decide +kernel))
theorem k_1223 : (Jvm.Cond.methodLink "ShoulderHeirsLaw" (128 : Nat) ({ cls := "ShoulderHeirsModel", name := "count", desc := "(I)I" } : Jvm.MethodName)) ∈ lw_tbl := List.mem_append_right _ (List.mem_of_getElem? (i := 1223) (by decide +kernel))
theorem k_1224 : (Jvm.Cond.instanceMethod ({ cls := "ShoulderHeirsModel", name := "count", desc := "(I)I" } : Jvm.MethodName)) ∈ lw_tbl := List.mem_append_right _ (List.mem_of_getElem? (i := 1224) (by decide +kernel))
theorem k_1225 : (Jvm.Cond.selects "ShoulderHeirsModel" ({ cls := "ShoulderHeirsModel", name := "count", desc := "(I)I" } : Jvm.MethodName) ({ cls := "ShoulderHeirsModel", name := "count", desc := "(I)I" } : Jvm.MethodName)) ∈ lw_tbl := List.mem_append_right _ (List.mem_of_getElem? (i := 1225) (by decide +kernel))
theorem k_1226 : (Jvm.Cond.code ({ cls := "ShoulderHeirsModel", name := "count", desc := "(I)I" } : Jvm.MethodName) prog_11_method_72_code (2 : Nat) (Option.some Jvm.ClassFile.FieldType.int)) ∈ lw_tbl := List.mem_append_right _ (List.mem_of_getElem? (i := 1226) (by decide +kernel))
theorem k_1227 : (Jvm.Cond.fieldLink "java/lang/String" (9 : Nat) "java/lang/String" "value" "[B") ∈ lw_tbl := List.mem_append_right _ (List.mem_of_getElem? (i := 1227) (by decide +kernel))
theorem k_1228 : (Jvm.Cond.fieldLink "java/lang/String" (15 : Nat) "java/lang/String" "coder" "B") ∈ lw_tbl := List.mem_append_right _ (List.mem_of_getElem? (i := 1228) (by decide +kernel))
theorem ks_0 : Jvm.Cond.selects "ShoulderHeirs" (⟨"ShoulderHeirs", "layText", "()I"⟩ : MethodName) (⟨"ShoulderHeirs", "layText", "()I"⟩ : MethodName) ∈ lw_tbl := List.mem_append_left _ (List.mem_of_getElem? (i := 0) (by decide +kernel))
theorem ks_1 : Jvm.Cond.selects "ShoulderHeirs$Reader" (⟨"ShoulderHeirs$Reader", "readNumbers", "([CIII)I"⟩ : MethodName) (⟨"ShoulderHeirs$Reader", "readNumbers", "([CIII)I"⟩ : MethodName) ∈ lw_tbl := List.mem_append_left _ (List.mem_of_getElem? (i := 1) (by decide +kernel))
theorem ks_2 : Jvm.Cond.selects "ShoulderHeirs$Reader" (⟨"ShoulderHeirs$Reader", "take", "(I)Z"⟩ : MethodName) (⟨"ShoulderHeirs$Reader", "take", "(I)Z"⟩ : MethodName) ∈ lw_tbl := List.mem_append_left _ (List.mem_of_getElem? (i := 2) (by decide +kernel))
theorem ks_3 : Jvm.Cond.selects "ShoulderHeirs$Funeral" (⟨"ShoulderHeirs$Funeral", "markYards", "()V"⟩ : MethodName) (⟨"ShoulderHeirs$Funeral", "markYards", "()V"⟩ : MethodName) ∈ lw_tbl := List.mem_append_left _ (List.mem_of_getElem? (i := 3) (by decide +kernel))
theorem ks_4 : Jvm.Cond.selects "ShoulderHeirs" (⟨"ShoulderHeirs", "settle", "()V"⟩ : MethodName) (⟨"ShoulderHeirs", "settle", "()V"⟩ : MethodName) ∈ lw_tbl := List.mem_append_left _ (List.mem_of_getElem? (i := 4) (by decide +kernel))
theorem ks_5 : Jvm.Cond.selects "ShoulderHeirs$Walk" (⟨"ShoulderHeirs$Walk", "drawnAt", "(I)I"⟩ : MethodName) (⟨"ShoulderHeirs$Walk", "drawnAt", "(I)I"⟩ : MethodName) ∈ lw_tbl := List.mem_append_left _ (List.mem_of_getElem? (i := 5) (by decide +kernel))
theorem ks_6 : Jvm.Cond.selects "ShoulderHeirs$Walk" (⟨"ShoulderHeirs$Walk", "setCosts", "(II)V"⟩ : MethodName) (⟨"ShoulderHeirs$Walk", "setCosts", "(II)V"⟩ : MethodName) ∈ lw_tbl := List.mem_append_left _ (List.mem_of_getElem? (i := 6) (by decide +kernel))
theorem ks_7 : Jvm.Cond.selects "ShoulderHeirs$Walk" (⟨"ShoulderHeirs$Walk", "stumbling", "(II)I"⟩ : MethodName) (⟨"ShoulderHeirs$Walk", "stumbling", "(II)I"⟩ : MethodName) ∈ lw_tbl := List.mem_append_left _ (List.mem_of_getElem? (i := 7) (by decide +kernel))
theorem ks_8 : Jvm.Cond.selects "ShoulderHeirs$Walk" (⟨"ShoulderHeirs$Walk", "bringUp", "(II)V"⟩ : MethodName) (⟨"ShoulderHeirs$Walk", "bringUp", "(II)V"⟩ : MethodName) ∈ lw_tbl := List.mem_append_left _ (List.mem_of_getElem? (i := 8) (by decide +kernel))
theorem ks_9 : Jvm.Cond.selects "ShoulderHeirs$Pile" (⟨"ShoulderHeirs$Pile", "dropOldest", "()V"⟩ : MethodName) (⟨"ShoulderHeirs$Pile", "dropOldest", "()V"⟩ : MethodName) ∈ lw_tbl := List.mem_append_left _ (List.mem_of_getElem? (i := 9) (by decide +kernel))
theorem ks_10 : Jvm.Cond.selects "ShoulderHeirs$TurnSearch" (⟨"ShoulderHeirs$TurnSearch", "lookAhead", "()V"⟩ : MethodName) (⟨"ShoulderHeirs$TurnSearch", "lookAhead", "()V"⟩ : MethodName) ∈ lw_tbl := List.mem_append_left _ (List.mem_of_getElem? (i := 10) (by decide +kernel))
theorem ks_11 : Jvm.Cond.selects "ShoulderHeirs$TurnSearch" (⟨"ShoulderHeirs$TurnSearch", "isOpen", "(LShoulderHeirs$Walk;)Z"⟩ : MethodName) (⟨"ShoulderHeirs$TurnSearch", "isOpen", "(LShoulderHeirs$Walk;)Z"⟩ : MethodName) ∈ lw_tbl := List.mem_append_left _ (List.mem_of_getElem? (i := 11) (by decide +kernel))
theorem ks_12 : Jvm.Cond.selects "ShoulderHeirs$TurnSearch" (⟨"ShoulderHeirs$TurnSearch", "seekFrom", "(I)V"⟩ : MethodName) (⟨"ShoulderHeirs$TurnSearch", "seekFrom", "(I)V"⟩ : MethodName) ∈ lw_tbl := List.mem_append_left _ (List.mem_of_getElem? (i := 12) (by decide +kernel))
theorem ks_13 : Jvm.Cond.selects "ShoulderHeirs$TurnSearch" (⟨"ShoulderHeirs$TurnSearch", "weigh", "(II)V"⟩ : MethodName) (⟨"ShoulderHeirs$TurnSearch", "weigh", "(II)V"⟩ : MethodName) ∈ lw_tbl := List.mem_append_left _ (List.mem_of_getElem? (i := 13) (by decide +kernel))
theorem ks_14 : Jvm.Cond.selects "ShoulderHeirs" (⟨"ShoulderHeirs", "walkWithout", "(I)V"⟩ : MethodName) (⟨"ShoulderHeirs", "walkWithout", "(I)V"⟩ : MethodName) ∈ lw_tbl := List.mem_append_left _ (List.mem_of_getElem? (i := 14) (by decide +kernel))
theorem ks_15 : Jvm.Cond.selects "ShoulderHeirs" (⟨"ShoulderHeirs", "bearUpAlone", "(I)Z"⟩ : MethodName) (⟨"ShoulderHeirs", "bearUpAlone", "(I)Z"⟩ : MethodName) ∈ lw_tbl := List.mem_append_left _ (List.mem_of_getElem? (i := 15) (by decide +kernel))
theorem ks_16 : Jvm.Cond.selects "ShoulderHeirs$OrderSearch" (⟨"ShoulderHeirs$OrderSearch", "note", "(I)V"⟩ : MethodName) (⟨"ShoulderHeirs$OrderSearch", "note", "(I)V"⟩ : MethodName) ∈ lw_tbl := List.mem_append_left _ (List.mem_of_getElem? (i := 16) (by decide +kernel))
theorem ks_17 : Jvm.Cond.selects "ShoulderHeirs$OrderSearch" (⟨"ShoulderHeirs$OrderSearch", "goAlone", "(II)I"⟩ : MethodName) (⟨"ShoulderHeirs$OrderSearch", "goAlone", "(II)I"⟩ : MethodName) ∈ lw_tbl := List.mem_append_left _ (List.mem_of_getElem? (i := 17) (by decide +kernel))
theorem ks_18 : Jvm.Cond.selects "ShoulderHeirs$Walk" (⟨"ShoulderHeirs$Walk", "merit", "(II)I"⟩ : MethodName) (⟨"ShoulderHeirs$Walk", "merit", "(II)I"⟩ : MethodName) ∈ lw_tbl := List.mem_append_left _ (List.mem_of_getElem? (i := 18) (by decide +kernel))
theorem ks_19 : Jvm.Cond.selects "ShoulderHeirs$Choices" (⟨"ShoulderHeirs$Choices", "fill", "(II)V"⟩ : MethodName) (⟨"ShoulderHeirs$Choices", "fill", "(II)V"⟩ : MethodName) ∈ lw_tbl := List.mem_append_left _ (List.mem_of_getElem? (i := 19) (by decide +kernel))
theorem ks_20 : Jvm.Cond.selects "ShoulderHeirs$Choices" (⟨"ShoulderHeirs$Choices", "bearStretch", "(IIIII)V"⟩ : MethodName) (⟨"ShoulderHeirs$Choices", "bearStretch", "(IIIII)V"⟩ : MethodName) ∈ lw_tbl := List.mem_append_left _ (List.mem_of_getElem? (i := 20) (by decide +kernel))
theorem ks_21 : Jvm.Cond.selects "ShoulderHeirs$Choices" (⟨"ShoulderHeirs$Choices", "isRest", "(II)Z"⟩ : MethodName) (⟨"ShoulderHeirs$Choices", "isRest", "(II)Z"⟩ : MethodName) ∈ lw_tbl := List.mem_append_left _ (List.mem_of_getElem? (i := 21) (by decide +kernel))
theorem ks_22 : Jvm.Cond.selects "ShoulderHeirs$Choices" (⟨"ShoulderHeirs$Choices", "ofFirst", "(II)I"⟩ : MethodName) (⟨"ShoulderHeirs$Choices", "ofFirst", "(II)I"⟩ : MethodName) ∈ lw_tbl := List.mem_append_left _ (List.mem_of_getElem? (i := 22) (by decide +kernel))
theorem ks_23 : Jvm.Cond.selects "ShoulderHeirs$Choices" (⟨"ShoulderHeirs$Choices", "ofOther", "(II)I"⟩ : MethodName) (⟨"ShoulderHeirs$Choices", "ofOther", "(II)I"⟩ : MethodName) ∈ lw_tbl := List.mem_append_left _ (List.mem_of_getElem? (i := 23) (by decide +kernel))
theorem ks_24 : Jvm.Cond.selects "ShoulderHeirs" (⟨"ShoulderHeirs", "printsAreSo", "(LShoulderHeirs$Walk;)Z"⟩ : MethodName) (⟨"ShoulderHeirs", "printsAreSo", "(LShoulderHeirs$Walk;)Z"⟩ : MethodName) ∈ lw_tbl := List.mem_append_left _ (List.mem_of_getElem? (i := 24) (by decide +kernel))
theorem ks_25 : Jvm.Cond.selects "ShoulderHeirs" (⟨"ShoulderHeirs", "neverStandsWithout", "(I)Z"⟩ : MethodName) (⟨"ShoulderHeirs", "neverStandsWithout", "(I)Z"⟩ : MethodName) ∈ lw_tbl := List.mem_append_left _ (List.mem_of_getElem? (i := 25) (by decide +kernel))
theorem ks_26 : Jvm.Cond.selects "ShoulderHeirsModel" (⟨"ShoulderHeirsModel", "clean", "()V"⟩ : MethodName) (⟨"ShoulderHeirsModel", "clean", "()V"⟩ : MethodName) ∈ lw_tbl := List.mem_append_left _ (List.mem_of_getElem? (i := 26) (by decide +kernel))
theorem ks_27 : Jvm.Cond.selects "ShoulderHeirsModel" (⟨"ShoulderHeirsModel", "stretch", "(II)V"⟩ : MethodName) (⟨"ShoulderHeirsModel", "stretch", "(II)V"⟩ : MethodName) ∈ lw_tbl := List.mem_append_left _ (List.mem_of_getElem? (i := 27) (by decide +kernel))
theorem ks_28 : Jvm.Cond.selects "ShoulderHeirsModel" (⟨"ShoulderHeirsModel", "comes", "(II)V"⟩ : MethodName) (⟨"ShoulderHeirsModel", "comes", "(II)V"⟩ : MethodName) ∈ lw_tbl := List.mem_append_left _ (List.mem_of_getElem? (i := 28) (by decide +kernel))
theorem ks_29 : Jvm.Cond.selects "ShoulderHeirsModel" (⟨"ShoulderHeirsModel", "takesTurn", "(III)V"⟩ : MethodName) (⟨"ShoulderHeirsModel", "takesTurn", "(III)V"⟩ : MethodName) ∈ lw_tbl := List.mem_append_left _ (List.mem_of_getElem? (i := 29) (by decide +kernel))
theorem ks_30 : Jvm.Cond.selects "ShoulderHeirsModel" (⟨"ShoulderHeirsModel", "begins", "()V"⟩ : MethodName) (⟨"ShoulderHeirsModel", "begins", "()V"⟩ : MethodName) ∈ lw_tbl := List.mem_append_left _ (List.mem_of_getElem? (i := 30) (by decide +kernel))
theorem ks_31 : Jvm.Cond.selects "ShoulderHeirsModel" (⟨"ShoulderHeirsModel", "takesItem", "()Z"⟩ : MethodName) (⟨"ShoulderHeirsModel", "takesItem", "()Z"⟩ : MethodName) ∈ lw_tbl := List.mem_append_left _ (List.mem_of_getElem? (i := 31) (by decide +kernel))
theorem ks_32 : Jvm.Cond.selects "ShoulderHeirsModel" (⟨"ShoulderHeirsModel", "takesStretch", "()Z"⟩ : MethodName) (⟨"ShoulderHeirsModel", "takesStretch", "()Z"⟩ : MethodName) ∈ lw_tbl := List.mem_append_left _ (List.mem_of_getElem? (i := 32) (by decide +kernel))
theorem ks_33 : Jvm.Cond.selects "ShoulderHeirsModel" (⟨"ShoulderHeirsModel", "takes", "(I)Z"⟩ : MethodName) (⟨"ShoulderHeirsModel", "takes", "(I)Z"⟩ : MethodName) ∈ lw_tbl := List.mem_append_left _ (List.mem_of_getElem? (i := 33) (by decide +kernel))
theorem ks_34 : Jvm.Cond.selects "ShoulderHeirsModel" (⟨"ShoulderHeirsModel", "is", "(III)Z"⟩ : MethodName) (⟨"ShoulderHeirsModel", "is", "(III)Z"⟩ : MethodName) ∈ lw_tbl := List.mem_append_left _ (List.mem_of_getElem? (i := 34) (by decide +kernel))
theorem ks_35 : Jvm.Cond.selects "ShoulderHeirsModel" (⟨"ShoulderHeirsModel", "takesBearer", "()Z"⟩ : MethodName) (⟨"ShoulderHeirsModel", "takesBearer", "()Z"⟩ : MethodName) ∈ lw_tbl := List.mem_append_left _ (List.mem_of_getElem? (i := 35) (by decide +kernel))
theorem ks_36 : Jvm.Cond.selects "ShoulderHeirsModel" (⟨"ShoulderHeirsModel", "takesOne", "(III)Z"⟩ : MethodName) (⟨"ShoulderHeirsModel", "takesOne", "(III)Z"⟩ : MethodName) ∈ lw_tbl := List.mem_append_left _ (List.mem_of_getElem? (i := 36) (by decide +kernel))
theorem ks_37 : Jvm.Cond.selects "ShoulderHeirsModel" (⟨"ShoulderHeirsModel", "takesTurns", "()Z"⟩ : MethodName) (⟨"ShoulderHeirsModel", "takesTurns", "()Z"⟩ : MethodName) ∈ lw_tbl := List.mem_append_left _ (List.mem_of_getElem? (i := 37) (by decide +kernel))
theorem ks_38 : Jvm.Cond.selects "ShoulderHeirsModel" (⟨"ShoulderHeirsModel", "takesPrice", "()Z"⟩ : MethodName) (⟨"ShoulderHeirsModel", "takesPrice", "()Z"⟩ : MethodName) ∈ lw_tbl := List.mem_append_left _ (List.mem_of_getElem? (i := 38) (by decide +kernel))
theorem ks_39 : Jvm.Cond.selects "ShoulderHeirsModel" (⟨"ShoulderHeirsModel", "isYard", "(I)Z"⟩ : MethodName) (⟨"ShoulderHeirsModel", "isYard", "(I)Z"⟩ : MethodName) ∈ lw_tbl := List.mem_append_left _ (List.mem_of_getElem? (i := 39) (by decide +kernel))
theorem ks_40 : Jvm.Cond.selects "ShoulderHeirsModel" (⟨"ShoulderHeirsModel", "asItIs", "()V"⟩ : MethodName) (⟨"ShoulderHeirsModel", "asItIs", "()V"⟩ : MethodName) ∈ lw_tbl := List.mem_append_left _ (List.mem_of_getElem? (i := 40) (by decide +kernel))
theorem ks_41 : Jvm.Cond.selects "ShoulderHeirsModel" (⟨"ShoulderHeirsModel", "tolds", "(I)I"⟩ : MethodName) (⟨"ShoulderHeirsModel", "tolds", "(I)I"⟩ : MethodName) ∈ lw_tbl := List.mem_append_left _ (List.mem_of_getElem? (i := 41) (by decide +kernel))
theorem ks_42 : Jvm.Cond.selects "ShoulderHeirsModel" (⟨"ShoulderHeirsModel", "goesUp", "()V"⟩ : MethodName) (⟨"ShoulderHeirsModel", "goesUp", "()V"⟩ : MethodName) ∈ lw_tbl := List.mem_append_left _ (List.mem_of_getElem? (i := 42) (by decide +kernel))
theorem ks_43 : Jvm.Cond.selects "ShoulderHeirsModel" (⟨"ShoulderHeirsModel", "startsUp", "()V"⟩ : MethodName) (⟨"ShoulderHeirsModel", "startsUp", "()V"⟩ : MethodName) ∈ lw_tbl := List.mem_append_left _ (List.mem_of_getElem? (i := 43) (by decide +kernel))
theorem ks_44 : Jvm.Cond.selects "ShoulderHeirsModel" (⟨"ShoulderHeirsModel", "rainAt", "(I)I"⟩ : MethodName) (⟨"ShoulderHeirsModel", "rainAt", "(I)I"⟩ : MethodName) ∈ lw_tbl := List.mem_append_left _ (List.mem_of_getElem? (i := 44) (by decide +kernel))
theorem ks_45 : Jvm.Cond.selects "ShoulderHeirsModel" (⟨"ShoulderHeirsModel", "unfallen", "(I)I"⟩ : MethodName) (⟨"ShoulderHeirsModel", "unfallen", "(I)I"⟩ : MethodName) ∈ lw_tbl := List.mem_append_left _ (List.mem_of_getElem? (i := 45) (by decide +kernel))
theorem ks_46 : Jvm.Cond.selects "ShoulderHeirsModel" (⟨"ShoulderHeirsModel", "bears", "(III)I"⟩ : MethodName) (⟨"ShoulderHeirsModel", "bears", "(III)I"⟩ : MethodName) ∈ lw_tbl := List.mem_append_left _ (List.mem_of_getElem? (i := 46) (by decide +kernel))
theorem ks_47 : Jvm.Cond.selects "ShoulderHeirsModel" (⟨"ShoulderHeirsModel", "pays", "(IIII)V"⟩ : MethodName) (⟨"ShoulderHeirsModel", "pays", "(IIII)V"⟩ : MethodName) ∈ lw_tbl := List.mem_append_left _ (List.mem_of_getElem? (i := 47) (by decide +kernel))
theorem ks_48 : Jvm.Cond.selects "ShoulderHeirsModel" (⟨"ShoulderHeirsModel", "isBearer", "(I)Z"⟩ : MethodName) (⟨"ShoulderHeirsModel", "isBearer", "(I)Z"⟩ : MethodName) ∈ lw_tbl := List.mem_append_left _ (List.mem_of_getElem? (i := 48) (by decide +kernel))
theorem ks_49 : Jvm.Cond.selects "ShoulderHeirsModel" (⟨"ShoulderHeirsModel", "isTurn", "(I)Z"⟩ : MethodName) (⟨"ShoulderHeirsModel", "isTurn", "(I)Z"⟩ : MethodName) ∈ lw_tbl := List.mem_append_left _ (List.mem_of_getElem? (i := 49) (by decide +kernel))
theorem ks_50 : Jvm.Cond.selects "ShoulderHeirsModel" (⟨"ShoulderHeirsModel", "remember", "()V"⟩ : MethodName) (⟨"ShoulderHeirsModel", "remember", "()V"⟩ : MethodName) ∈ lw_tbl := List.mem_append_left _ (List.mem_of_getElem? (i := 50) (by decide +kernel))
theorem ks_51 : Jvm.Cond.selects "ShoulderHeirsModel" (⟨"ShoulderHeirsModel", "layFarthest", "(II)I"⟩ : MethodName) (⟨"ShoulderHeirsModel", "layFarthest", "(II)I"⟩ : MethodName) ∈ lw_tbl := List.mem_append_left _ (List.mem_of_getElem? (i := 51) (by decide +kernel))
theorem ks_52 : Jvm.Cond.selects "ShoulderHeirsModel" (⟨"ShoulderHeirsModel", "layOrder", "(I)Z"⟩ : MethodName) (⟨"ShoulderHeirsModel", "layOrder", "(I)Z"⟩ : MethodName) ∈ lw_tbl := List.mem_append_left _ (List.mem_of_getElem? (i := 52) (by decide +kernel))
theorem ks_53 : Jvm.Cond.selects "ShoulderHeirsModel" (⟨"ShoulderHeirsModel", "comesTo", "(II)I"⟩ : MethodName) (⟨"ShoulderHeirsModel", "comesTo", "(II)I"⟩ : MethodName) ∈ lw_tbl := List.mem_append_left _ (List.mem_of_getElem? (i := 53) (by decide +kernel))
theorem ks_54 : Jvm.Cond.selects "ShoulderHeirsModel" (⟨"ShoulderHeirsModel", "heirBy", "(I)I"⟩ : MethodName) (⟨"ShoulderHeirsModel", "heirBy", "(I)I"⟩ : MethodName) ∈ lw_tbl := List.mem_append_left _ (List.mem_of_getElem? (i := 54) (by decide +kernel))
theorem ks_55 : Jvm.Cond.selects "ShoulderHeirsModel" (⟨"ShoulderHeirsModel", "layChoice", "(IIII)V"⟩ : MethodName) (⟨"ShoulderHeirsModel", "layChoice", "(IIII)V"⟩ : MethodName) ∈ lw_tbl := List.mem_append_left _ (List.mem_of_getElem? (i := 55) (by decide +kernel))
theorem ks_56 : Jvm.Cond.selects "ShoulderHeirsModel" (⟨"ShoulderHeirsModel", "areSo", "(I)Z"⟩ : MethodName) (⟨"ShoulderHeirsModel", "areSo", "(I)Z"⟩ : MethodName) ∈ lw_tbl := List.mem_append_left _ (List.mem_of_getElem? (i := 56) (by decide +kernel))
end
section
theorem dJ0_charAt_5068e_0 : decode cJ0_charAt_5068e 0 = .ok (.aload_n 0, 1) := by decide +kernel
theorem dJ0_charAt_5068e_1 : decode cJ0_charAt_5068e 1 = .ok (.invokevirtual 492, 3) := by decide +kernel
theorem dJ0_charAt_5068e_4 : decode cJ0_charAt_5068e 4 = .ok (.ifCond .eq 12, 3) := by decide +kernel
theorem dJ0_charAt_5068e_7 : decode cJ0_charAt_5068e 7 = .ok (.aload_n 0, 1) := by decide +kernel
theorem dJ0_charAt_5068e_8 : decode cJ0_charAt_5068e 8 = .ok (.getfield 9, 3) := by decide +kernel
theorem dJ0_charAt_5068e_11 : decode cJ0_charAt_5068e 11 = .ok (.iload_n 1, 1) := by decide +kernel
theorem dJ0_charAt_5068e_12 : decode cJ0_charAt_5068e 12 = .ok (.invokestatic 495, 3) := by decide +kernel
theorem dJ0_charAt_5068e_15 : decode cJ0_charAt_5068e 15 = .ok (.ireturn, 1) := by decide +kernel
theorem dJ0_charAt_5068e_16 : decode cJ0_charAt_5068e 16 = .ok (.aload_n 0, 1) := by decide +kernel
theorem dJ0_charAt_5068e_17 : decode cJ0_charAt_5068e 17 = .ok (.getfield 9, 3) := by decide +kernel
theorem dJ0_charAt_5068e_20 : decode cJ0_charAt_5068e 20 = .ok (.iload_n 1, 1) := by decide +kernel
theorem dJ0_charAt_5068e_21 : decode cJ0_charAt_5068e 21 = .ok (.invokestatic 498, 3) := by decide +kernel
theorem dJ0_charAt_5068e_24 : decode cJ0_charAt_5068e 24 = .ok (.ireturn, 1) := by decide +kernel
theorem dJ0_checkIndex_df160_0 : decode cJ0_checkIndex_df160 0 = .ok (.iload_n 0, 1) := by decide +kernel
theorem dJ0_checkIndex_df160_1 : decode cJ0_checkIndex_df160 1 = .ok (.iload_n 1, 1) := by decide +kernel
theorem dJ0_checkIndex_df160_2 : decode cJ0_checkIndex_df160 2 = .ok (.getstatic 1053, 3) := by decide +kernel
theorem dJ0_checkIndex_df160_5 : decode cJ0_checkIndex_df160 5 = .ok (.invokestatic 1059, 3) := by decide +kernel
theorem dJ0_checkIndex_df160_8 : decode cJ0_checkIndex_df160 8 = .ok (.pop, 1) := by decide +kernel
theorem dJ0_checkIndex_df160_9 : decode cJ0_checkIndex_df160 9 = .ok (.return_, 1) := by decide +kernel
theorem dJ0_coder_7d493_0 : decode cJ0_coder_7d493 0 = .ok (.getstatic 38, 3) := by decide +kernel
theorem dJ0_coder_7d493_3 : decode cJ0_coder_7d493 3 = .ok (.ifCond .eq 10, 3) := by decide +kernel
theorem dJ0_coder_7d493_6 : decode cJ0_coder_7d493 6 = .ok (.aload_n 0, 1) := by decide +kernel
theorem dJ0_coder_7d493_7 : decode cJ0_coder_7d493 7 = .ok (.getfield 15, 3) := by decide +kernel
theorem dJ0_coder_7d493_10 : decode cJ0_coder_7d493 10 = .ok (.goto 4, 3) := by decide +kernel
theorem dJ0_coder_7d493_13 : decode cJ0_coder_7d493 13 = .ok (.iconst 1, 1) := by decide +kernel
theorem dJ0_coder_7d493_14 : decode cJ0_coder_7d493 14 = .ok (.ireturn, 1) := by decide +kernel
theorem dJ0_isLatin1_aae02_0 : decode cJ0_isLatin1_aae02 0 = .ok (.getstatic 38, 3) := by decide +kernel
theorem dJ0_isLatin1_aae02_3 : decode cJ0_isLatin1_aae02 3 = .ok (.ifCond .eq 14, 3) := by decide +kernel
theorem dJ0_isLatin1_aae02_6 : decode cJ0_isLatin1_aae02 6 = .ok (.aload_n 0, 1) := by decide +kernel
theorem dJ0_isLatin1_aae02_7 : decode cJ0_isLatin1_aae02 7 = .ok (.getfield 15, 3) := by decide +kernel
theorem dJ0_isLatin1_aae02_10 : decode cJ0_isLatin1_aae02 10 = .ok (.ifCond .ne 7, 3) := by decide +kernel
theorem dJ0_isLatin1_aae02_13 : decode cJ0_isLatin1_aae02 13 = .ok (.iconst 1, 1) := by decide +kernel
theorem dJ0_isLatin1_aae02_14 : decode cJ0_isLatin1_aae02 14 = .ok (.goto 4, 3) := by decide +kernel
theorem dJ0_isLatin1_aae02_17 : decode cJ0_isLatin1_aae02 17 = .ok (.iconst 0, 1) := by decide +kernel
theorem dJ0_isLatin1_aae02_18 : decode cJ0_isLatin1_aae02 18 = .ok (.ireturn, 1) := by decide +kernel
theorem dJ0_length_8abf5_0 : decode cJ0_length_8abf5 0 = .ok (.aload_n 0, 1) := by decide +kernel
theorem dJ0_length_8abf5_1 : decode cJ0_length_8abf5 1 = .ok (.getfield 9, 3) := by decide +kernel
theorem dJ0_length_8abf5_4 : decode cJ0_length_8abf5 4 = .ok (.arraylength, 1) := by decide +kernel
theorem dJ0_length_8abf5_5 : decode cJ0_length_8abf5 5 = .ok (.aload_n 0, 1) := by decide +kernel
theorem dJ0_length_8abf5_6 : decode cJ0_length_8abf5 6 = .ok (.invokevirtual 335, 3) := by decide +kernel
theorem dJ0_length_8abf5_9 : decode cJ0_length_8abf5 9 = .ok (.ishr, 1) := by decide +kernel
theorem dJ0_length_8abf5_10 : decode cJ0_length_8abf5 10 = .ok (.ireturn, 1) := by decide +kernel
theorem dJ1_charAt_3b067_0 : decode cJ1_charAt_3b067 0 = .ok (.iload_n 1, 1) := by decide +kernel
theorem dJ1_charAt_3b067_1 : decode cJ1_charAt_3b067 1 = .ok (.aload_n 0, 1) := by decide +kernel
theorem dJ1_charAt_3b067_2 : decode cJ1_charAt_3b067 2 = .ok (.arraylength, 1) := by decide +kernel
theorem dJ1_charAt_3b067_3 : decode cJ1_charAt_3b067 3 = .ok (.invokestatic 9, 3) := by decide +kernel
theorem dJ1_charAt_3b067_6 : decode cJ1_charAt_3b067 6 = .ok (.aload_n 0, 1) := by decide +kernel
theorem dJ1_charAt_3b067_7 : decode cJ1_charAt_3b067 7 = .ok (.iload_n 1, 1) := by decide +kernel
theorem dJ1_charAt_3b067_8 : decode cJ1_charAt_3b067 8 = .ok (.baload, 1) := by decide +kernel
theorem dJ1_charAt_3b067_9 : decode cJ1_charAt_3b067 9 = .ok (.sipush 255, 3) := by decide +kernel
theorem dJ1_charAt_3b067_12 : decode cJ1_charAt_3b067 12 = .ok (.iand, 1) := by decide +kernel
theorem dJ1_charAt_3b067_13 : decode cJ1_charAt_3b067 13 = .ok (.i2c, 1) := by decide +kernel
theorem dJ1_charAt_3b067_14 : decode cJ1_charAt_3b067 14 = .ok (.ireturn, 1) := by decide +kernel
theorem dJ2_charAt_3b067_0 : decode cJ2_charAt_3b067 0 = .ok (.iload_n 1, 1) := by decide +kernel
theorem dJ2_charAt_3b067_1 : decode cJ2_charAt_3b067 1 = .ok (.aload_n 0, 1) := by decide +kernel
theorem dJ2_charAt_3b067_2 : decode cJ2_charAt_3b067 2 = .ok (.invokestatic 67, 3) := by decide +kernel
theorem dJ2_charAt_3b067_5 : decode cJ2_charAt_3b067 5 = .ok (.aload_n 0, 1) := by decide +kernel
theorem dJ2_charAt_3b067_6 : decode cJ2_charAt_3b067 6 = .ok (.iload_n 1, 1) := by decide +kernel
theorem dJ2_charAt_3b067_7 : decode cJ2_charAt_3b067 7 = .ok (.invokestatic 71, 3) := by decide +kernel
theorem dJ2_charAt_3b067_10 : decode cJ2_charAt_3b067 10 = .ok (.ireturn, 1) := by decide +kernel
theorem dJ2_checkIndex_2214a_0 : decode cJ2_checkIndex_2214a 0 = .ok (.iload_n 0, 1) := by decide +kernel
theorem dJ2_checkIndex_2214a_1 : decode cJ2_checkIndex_2214a 1 = .ok (.aload_n 1, 1) := by decide +kernel
theorem dJ2_checkIndex_2214a_2 : decode cJ2_checkIndex_2214a 2 = .ok (.invokestatic 48, 3) := by decide +kernel
theorem dJ2_checkIndex_2214a_5 : decode cJ2_checkIndex_2214a 5 = .ok (.invokestatic 414, 3) := by decide +kernel
theorem dJ2_checkIndex_2214a_8 : decode cJ2_checkIndex_2214a 8 = .ok (.return_, 1) := by decide +kernel
theorem dJ2_getChar_3b067_0 : decode cJ2_getChar_3b067 0 = .ok (.getstatic 44, 3) := by decide +kernel
theorem dJ2_getChar_3b067_3 : decode cJ2_getChar_3b067 3 = .ok (.ifCond .ne 25, 3) := by decide +kernel
theorem dJ2_getChar_3b067_6 : decode cJ2_getChar_3b067 6 = .ok (.iload_n 1, 1) := by decide +kernel
theorem dJ2_getChar_3b067_7 : decode cJ2_getChar_3b067 7 = .ok (.ifCond .lt 11, 3) := by decide +kernel
theorem dJ2_getChar_3b067_10 : decode cJ2_getChar_3b067 10 = .ok (.iload_n 1, 1) := by decide +kernel
theorem dJ2_getChar_3b067_11 : decode cJ2_getChar_3b067 11 = .ok (.aload_n 0, 1) := by decide +kernel
theorem dJ2_getChar_3b067_12 : decode cJ2_getChar_3b067 12 = .ok (.invokestatic 48, 3) := by decide +kernel
theorem dJ2_getChar_3b067_15 : decode cJ2_getChar_3b067 15 = .ok (.if_icmp .lt 13, 3) := by decide +kernel
theorem dJ2_getChar_3b067_18 : decode cJ2_getChar_3b067 18 = .ok (.new 52, 3) := by decide +kernel
theorem dJ2_getChar_3b067_21 : decode cJ2_getChar_3b067 21 = .ok (.dup, 1) := by decide +kernel
theorem dJ2_getChar_3b067_22 : decode cJ2_getChar_3b067 22 = .ok (.ldc 54, 2) := by decide +kernel
theorem dJ2_getChar_3b067_24 : decode cJ2_getChar_3b067 24 = .ok (.invokespecial 56, 3) := by decide +kernel
theorem dJ2_getChar_3b067_27 : decode cJ2_getChar_3b067 27 = .ok (.athrow, 1) := by decide +kernel
theorem dJ2_getChar_3b067_28 : decode cJ2_getChar_3b067 28 = .ok (.iload_n 1, 1) := by decide +kernel
theorem dJ2_getChar_3b067_29 : decode cJ2_getChar_3b067 29 = .ok (.iconst 1, 1) := by decide +kernel
theorem dJ2_getChar_3b067_30 : decode cJ2_getChar_3b067 30 = .ok (.ishl, 1) := by decide +kernel
theorem dJ2_getChar_3b067_31 : decode cJ2_getChar_3b067 31 = .ok (.istore_n 1, 1) := by decide +kernel
theorem dJ2_getChar_3b067_32 : decode cJ2_getChar_3b067 32 = .ok (.aload_n 0, 1) := by decide +kernel
theorem dJ2_getChar_3b067_33 : decode cJ2_getChar_3b067 33 = .ok (.iload_n 1, 1) := by decide +kernel
theorem dJ2_getChar_3b067_34 : decode cJ2_getChar_3b067 34 = .ok (.iinc 1 1, 3) := by decide +kernel
theorem dJ2_getChar_3b067_37 : decode cJ2_getChar_3b067 37 = .ok (.baload, 1) := by decide +kernel
theorem dJ2_getChar_3b067_38 : decode cJ2_getChar_3b067 38 = .ok (.sipush 255, 3) := by decide +kernel
theorem dJ2_getChar_3b067_41 : decode cJ2_getChar_3b067 41 = .ok (.iand, 1) := by decide +kernel
theorem dJ2_getChar_3b067_42 : decode cJ2_getChar_3b067 42 = .ok (.getstatic 59, 3) := by decide +kernel
theorem dJ2_getChar_3b067_45 : decode cJ2_getChar_3b067 45 = .ok (.ishl, 1) := by decide +kernel
theorem dJ2_getChar_3b067_46 : decode cJ2_getChar_3b067 46 = .ok (.aload_n 0, 1) := by decide +kernel
theorem dJ2_getChar_3b067_47 : decode cJ2_getChar_3b067 47 = .ok (.iload_n 1, 1) := by decide +kernel
theorem dJ2_getChar_3b067_48 : decode cJ2_getChar_3b067 48 = .ok (.baload, 1) := by decide +kernel
theorem dJ2_getChar_3b067_49 : decode cJ2_getChar_3b067 49 = .ok (.sipush 255, 3) := by decide +kernel
theorem dJ2_getChar_3b067_52 : decode cJ2_getChar_3b067 52 = .ok (.iand, 1) := by decide +kernel
theorem dJ2_getChar_3b067_53 : decode cJ2_getChar_3b067 53 = .ok (.getstatic 63, 3) := by decide +kernel
theorem dJ2_getChar_3b067_56 : decode cJ2_getChar_3b067 56 = .ok (.ishl, 1) := by decide +kernel
theorem dJ2_getChar_3b067_57 : decode cJ2_getChar_3b067 57 = .ok (.ior, 1) := by decide +kernel
theorem dJ2_getChar_3b067_58 : decode cJ2_getChar_3b067 58 = .ok (.i2c, 1) := by decide +kernel
theorem dJ2_getChar_3b067_59 : decode cJ2_getChar_3b067 59 = .ok (.ireturn, 1) := by decide +kernel
theorem dJ2_length_9d52b_0 : decode cJ2_length_9d52b 0 = .ok (.aload_n 0, 1) := by decide +kernel
theorem dJ2_length_9d52b_1 : decode cJ2_length_9d52b 1 = .ok (.arraylength, 1) := by decide +kernel
theorem dJ2_length_9d52b_2 : decode cJ2_length_9d52b 2 = .ok (.iconst 1, 1) := by decide +kernel
theorem dJ2_length_9d52b_3 : decode cJ2_length_9d52b 3 = .ok (.ishr, 1) := by decide +kernel
theorem dJ2_length_9d52b_4 : decode cJ2_length_9d52b 4 = .ok (.ireturn, 1) := by decide +kernel
theorem dJ3_checkIndex_8e157_0 : decode cJ3_checkIndex_8e157 0 = .ok (.iload_n 0, 1) := by decide +kernel
theorem dJ3_checkIndex_8e157_1 : decode cJ3_checkIndex_8e157 1 = .ok (.ifCond .lt 8, 3) := by decide +kernel
theorem dJ3_checkIndex_8e157_4 : decode cJ3_checkIndex_8e157 4 = .ok (.iload_n 0, 1) := by decide +kernel
theorem dJ3_checkIndex_8e157_5 : decode cJ3_checkIndex_8e157 5 = .ok (.iload_n 1, 1) := by decide +kernel
theorem dJ3_checkIndex_8e157_6 : decode cJ3_checkIndex_8e157 6 = .ok (.if_icmp .lt 10, 3) := by decide +kernel
theorem dJ3_checkIndex_8e157_9 : decode cJ3_checkIndex_8e157 9 = .ok (.aload_n 2, 1) := by decide +kernel
theorem dJ3_checkIndex_8e157_10 : decode cJ3_checkIndex_8e157 10 = .ok (.iload_n 0, 1) := by decide +kernel
theorem dJ3_checkIndex_8e157_11 : decode cJ3_checkIndex_8e157 11 = .ok (.iload_n 1, 1) := by decide +kernel
theorem dJ3_checkIndex_8e157_12 : decode cJ3_checkIndex_8e157 12 = .ok (.invokestatic 95, 3) := by decide +kernel
theorem dJ3_checkIndex_8e157_15 : decode cJ3_checkIndex_8e157 15 = .ok (.athrow, 1) := by decide +kernel
theorem dJ3_checkIndex_8e157_16 : decode cJ3_checkIndex_8e157 16 = .ok (.iload_n 0, 1) := by decide +kernel
theorem dJ3_checkIndex_8e157_17 : decode cJ3_checkIndex_8e157 17 = .ok (.ireturn, 1) := by decide +kernel
theorem dJ6_bitCount_0f7a4_0 : decode cJ6_bitCount_0f7a4 0 = .ok (.iload_n 0, 1) := by decide +kernel
theorem dJ6_bitCount_0f7a4_1 : decode cJ6_bitCount_0f7a4 1 = .ok (.iload_n 0, 1) := by decide +kernel
theorem dJ6_bitCount_0f7a4_2 : decode cJ6_bitCount_0f7a4 2 = .ok (.iconst 1, 1) := by decide +kernel
theorem dJ6_bitCount_0f7a4_3 : decode cJ6_bitCount_0f7a4 3 = .ok (.iushr, 1) := by decide +kernel
theorem dJ6_bitCount_0f7a4_4 : decode cJ6_bitCount_0f7a4 4 = .ok (.ldc_w 265, 3) := by decide +kernel
theorem dJ6_bitCount_0f7a4_7 : decode cJ6_bitCount_0f7a4 7 = .ok (.iand, 1) := by decide +kernel
theorem dJ6_bitCount_0f7a4_8 : decode cJ6_bitCount_0f7a4 8 = .ok (.isub, 1) := by decide +kernel
theorem dJ6_bitCount_0f7a4_9 : decode cJ6_bitCount_0f7a4 9 = .ok (.istore_n 0, 1) := by decide +kernel
theorem dJ6_bitCount_0f7a4_10 : decode cJ6_bitCount_0f7a4 10 = .ok (.iload_n 0, 1) := by decide +kernel
theorem dJ6_bitCount_0f7a4_11 : decode cJ6_bitCount_0f7a4 11 = .ok (.ldc_w 266, 3) := by decide +kernel
theorem dJ6_bitCount_0f7a4_14 : decode cJ6_bitCount_0f7a4 14 = .ok (.iand, 1) := by decide +kernel
theorem dJ6_bitCount_0f7a4_15 : decode cJ6_bitCount_0f7a4 15 = .ok (.iload_n 0, 1) := by decide +kernel
theorem dJ6_bitCount_0f7a4_16 : decode cJ6_bitCount_0f7a4 16 = .ok (.iconst 2, 1) := by decide +kernel
theorem dJ6_bitCount_0f7a4_17 : decode cJ6_bitCount_0f7a4 17 = .ok (.iushr, 1) := by decide +kernel
theorem dJ6_bitCount_0f7a4_18 : decode cJ6_bitCount_0f7a4 18 = .ok (.ldc_w 266, 3) := by decide +kernel
theorem dJ6_bitCount_0f7a4_21 : decode cJ6_bitCount_0f7a4 21 = .ok (.iand, 1) := by decide +kernel
theorem dJ6_bitCount_0f7a4_22 : decode cJ6_bitCount_0f7a4 22 = .ok (.iadd, 1) := by decide +kernel
theorem dJ6_bitCount_0f7a4_23 : decode cJ6_bitCount_0f7a4 23 = .ok (.istore_n 0, 1) := by decide +kernel
theorem dJ6_bitCount_0f7a4_24 : decode cJ6_bitCount_0f7a4 24 = .ok (.iload_n 0, 1) := by decide +kernel
theorem dJ6_bitCount_0f7a4_25 : decode cJ6_bitCount_0f7a4 25 = .ok (.iload_n 0, 1) := by decide +kernel
theorem dJ6_bitCount_0f7a4_26 : decode cJ6_bitCount_0f7a4 26 = .ok (.iconst 4, 1) := by decide +kernel
theorem dJ6_bitCount_0f7a4_27 : decode cJ6_bitCount_0f7a4 27 = .ok (.iushr, 1) := by decide +kernel
theorem dJ6_bitCount_0f7a4_28 : decode cJ6_bitCount_0f7a4 28 = .ok (.iadd, 1) := by decide +kernel
theorem dJ6_bitCount_0f7a4_29 : decode cJ6_bitCount_0f7a4 29 = .ok (.ldc_w 267, 3) := by decide +kernel
theorem dJ6_bitCount_0f7a4_32 : decode cJ6_bitCount_0f7a4 32 = .ok (.iand, 1) := by decide +kernel
theorem dJ6_bitCount_0f7a4_33 : decode cJ6_bitCount_0f7a4 33 = .ok (.istore_n 0, 1) := by decide +kernel
theorem dJ6_bitCount_0f7a4_34 : decode cJ6_bitCount_0f7a4 34 = .ok (.iload_n 0, 1) := by decide +kernel
theorem dJ6_bitCount_0f7a4_35 : decode cJ6_bitCount_0f7a4 35 = .ok (.iload_n 0, 1) := by decide +kernel
theorem dJ6_bitCount_0f7a4_36 : decode cJ6_bitCount_0f7a4 36 = .ok (.bipush 8, 2) := by decide +kernel
theorem dJ6_bitCount_0f7a4_38 : decode cJ6_bitCount_0f7a4 38 = .ok (.iushr, 1) := by decide +kernel
theorem dJ6_bitCount_0f7a4_39 : decode cJ6_bitCount_0f7a4 39 = .ok (.iadd, 1) := by decide +kernel
theorem dJ6_bitCount_0f7a4_40 : decode cJ6_bitCount_0f7a4 40 = .ok (.istore_n 0, 1) := by decide +kernel
theorem dJ6_bitCount_0f7a4_41 : decode cJ6_bitCount_0f7a4 41 = .ok (.iload_n 0, 1) := by decide +kernel
theorem dJ6_bitCount_0f7a4_42 : decode cJ6_bitCount_0f7a4 42 = .ok (.iload_n 0, 1) := by decide +kernel
theorem dJ6_bitCount_0f7a4_43 : decode cJ6_bitCount_0f7a4 43 = .ok (.bipush 16, 2) := by decide +kernel
theorem dJ6_bitCount_0f7a4_45 : decode cJ6_bitCount_0f7a4 45 = .ok (.iushr, 1) := by decide +kernel
theorem dJ6_bitCount_0f7a4_46 : decode cJ6_bitCount_0f7a4 46 = .ok (.iadd, 1) := by decide +kernel
theorem dJ6_bitCount_0f7a4_47 : decode cJ6_bitCount_0f7a4 47 = .ok (.istore_n 0, 1) := by decide +kernel
theorem dJ6_bitCount_0f7a4_48 : decode cJ6_bitCount_0f7a4 48 = .ok (.iload_n 0, 1) := by decide +kernel
theorem dJ6_bitCount_0f7a4_49 : decode cJ6_bitCount_0f7a4 49 = .ok (.bipush 63, 2) := by decide +kernel
theorem dJ6_bitCount_0f7a4_51 : decode cJ6_bitCount_0f7a4 51 = .ok (.iand, 1) := by decide +kernel
theorem dJ6_bitCount_0f7a4_52 : decode cJ6_bitCount_0f7a4 52 = .ok (.ireturn, 1) := by decide +kernel
theorem dJ9_min_7cf53_0 : decode cJ9_min_7cf53 0 = .ok (.iload_n 0, 1) := by decide +kernel
theorem dJ9_min_7cf53_1 : decode cJ9_min_7cf53 1 = .ok (.iload_n 1, 1) := by decide +kernel
theorem dJ9_min_7cf53_2 : decode cJ9_min_7cf53 2 = .ok (.if_icmp .gt 7, 3) := by decide +kernel
theorem dJ9_min_7cf53_5 : decode cJ9_min_7cf53 5 = .ok (.iload_n 0, 1) := by decide +kernel
theorem dJ9_min_7cf53_6 : decode cJ9_min_7cf53 6 = .ok (.goto 4, 3) := by decide +kernel
theorem dJ9_min_7cf53_9 : decode cJ9_min_7cf53 9 = .ok (.iload_n 1, 1) := by decide +kernel
theorem dJ9_min_7cf53_10 : decode cJ9_min_7cf53 10 = .ok (.ireturn, 1) := by decide +kernel
theorem dL_law_0 : decode cL_law 0 = .ok (.new 7, 3) := by decide +kernel
theorem dL_law_3 : decode cL_law 3 = .ok (.dup, 1) := by decide +kernel
theorem dL_law_4 : decode cL_law 4 = .ok (.invokespecial 9, 3) := by decide +kernel
theorem dL_law_7 : decode cL_law 7 = .ok (.astore_n 1, 1) := by decide +kernel
theorem dL_law_8 : decode cL_law 8 = .ok (.new 10, 3) := by decide +kernel
theorem dL_law_11 : decode cL_law 11 = .ok (.dup, 1) := by decide +kernel
theorem dL_law_12 : decode cL_law 12 = .ok (.invokespecial 12, 3) := by decide +kernel
theorem dL_law_15 : decode cL_law 15 = .ok (.astore_n 2, 1) := by decide +kernel
theorem dL_law_16 : decode cL_law 16 = .ok (.iconst 0, 1) := by decide +kernel
theorem dL_law_17 : decode cL_law 17 = .ok (.istore_n 3, 1) := by decide +kernel
theorem dL_law_18 : decode cL_law 18 = .ok (.iload_n 3, 1) := by decide +kernel
theorem dL_law_19 : decode cL_law 19 = .ok (.aload_n 0, 1) := by decide +kernel
theorem dL_law_20 : decode cL_law 20 = .ok (.arraylength, 1) := by decide +kernel
theorem dL_law_21 : decode cL_law 21 = .ok (.iconst 4, 1) := by decide +kernel
theorem dL_law_22 : decode cL_law 22 = .ok (.isub, 1) := by decide +kernel
theorem dL_law_23 : decode cL_law 23 = .ok (.if_icmp .gt 837, 3) := by decide +kernel
theorem dL_law_26 : decode cL_law 26 = .ok (.aload_n 0, 1) := by decide +kernel
theorem dL_law_27 : decode cL_law 27 = .ok (.iload_n 3, 1) := by decide +kernel
theorem dL_law_28 : decode cL_law 28 = .ok (.iaload, 1) := by decide +kernel
theorem dL_law_29 : decode cL_law 29 = .ok (.bipush 31, 2) := by decide +kernel
theorem dL_law_31 : decode cL_law 31 = .ok (.iand, 1) := by decide +kernel
theorem dL_law_32 : decode cL_law 32 = .ok (.tableswitch 822 0 27 #[128, 151, 164, 177, 190, 223, 256, 269, 302, 335, 378, 401, 414, 447, 460, 473, 496, 529, 572, 595, 638, 671, 684, 697, 740, 773, 786, 799], 128) := by decide +kernel
theorem dL_law_160 : decode cL_law 160 = .ok (.aload_n 1, 1) := by decide +kernel
theorem dL_law_161 : decode cL_law 161 = .ok (.aload_n 0, 1) := by decide +kernel
theorem dL_law_162 : decode cL_law 162 = .ok (.iload_n 3, 1) := by decide +kernel
theorem dL_law_163 : decode cL_law 163 = .ok (.iconst 1, 1) := by decide +kernel
theorem dL_law_164 : decode cL_law 164 = .ok (.iadd, 1) := by decide +kernel
theorem dL_law_165 : decode cL_law 165 = .ok (.iaload, 1) := by decide +kernel
theorem dL_law_166 : decode cL_law 166 = .ok (.invokevirtual 13, 3) := by decide +kernel
theorem dL_law_169 : decode cL_law 169 = .ok (.aload_n 2, 1) := by decide +kernel
theorem dL_law_170 : decode cL_law 170 = .ok (.aload_n 0, 1) := by decide +kernel
theorem dL_law_171 : decode cL_law 171 = .ok (.iload_n 3, 1) := by decide +kernel
theorem dL_law_172 : decode cL_law 172 = .ok (.iconst 1, 1) := by decide +kernel
theorem dL_law_173 : decode cL_law 173 = .ok (.iadd, 1) := by decide +kernel
theorem dL_law_174 : decode cL_law 174 = .ok (.iaload, 1) := by decide +kernel
theorem dL_law_175 : decode cL_law 175 = .ok (.invokevirtual 17, 3) := by decide +kernel
theorem dL_law_178 : decode cL_law 178 = .ok (.if_icmp .eq 676, 3) := by decide +kernel
theorem dL_law_181 : decode cL_law 181 = .ok (.iconst 0, 1) := by decide +kernel
theorem dL_law_182 : decode cL_law 182 = .ok (.ireturn, 1) := by decide +kernel
theorem dL_law_183 : decode cL_law 183 = .ok (.aload_n 1, 1) := by decide +kernel
theorem dL_law_184 : decode cL_law 184 = .ok (.invokevirtual 18, 3) := by decide +kernel
theorem dL_law_187 : decode cL_law 187 = .ok (.aload_n 2, 1) := by decide +kernel
theorem dL_law_188 : decode cL_law 188 = .ok (.invokevirtual 22, 3) := by decide +kernel
theorem dL_law_191 : decode cL_law 191 = .ok (.if_icmp .eq 663, 3) := by decide +kernel
theorem dL_law_194 : decode cL_law 194 = .ok (.iconst 0, 1) := by decide +kernel
theorem dL_law_195 : decode cL_law 195 = .ok (.ireturn, 1) := by decide +kernel
theorem dL_law_196 : decode cL_law 196 = .ok (.aload_n 1, 1) := by decide +kernel
theorem dL_law_197 : decode cL_law 197 = .ok (.invokevirtual 23, 3) := by decide +kernel
theorem dL_law_200 : decode cL_law 200 = .ok (.aload_n 2, 1) := by decide +kernel
theorem dL_law_201 : decode cL_law 201 = .ok (.invokevirtual 26, 3) := by decide +kernel
theorem dL_law_204 : decode cL_law 204 = .ok (.if_icmp .eq 650, 3) := by decide +kernel
theorem dL_law_207 : decode cL_law 207 = .ok (.iconst 0, 1) := by decide +kernel
theorem dL_law_208 : decode cL_law 208 = .ok (.ireturn, 1) := by decide +kernel
theorem dL_law_209 : decode cL_law 209 = .ok (.aload_n 1, 1) := by decide +kernel
theorem dL_law_210 : decode cL_law 210 = .ok (.invokevirtual 27, 3) := by decide +kernel
theorem dL_law_213 : decode cL_law 213 = .ok (.aload_n 2, 1) := by decide +kernel
theorem dL_law_214 : decode cL_law 214 = .ok (.invokevirtual 30, 3) := by decide +kernel
theorem dL_law_217 : decode cL_law 217 = .ok (.if_icmp .eq 637, 3) := by decide +kernel
theorem dL_law_220 : decode cL_law 220 = .ok (.iconst 0, 1) := by decide +kernel
theorem dL_law_221 : decode cL_law 221 = .ok (.ireturn, 1) := by decide +kernel
theorem dL_law_222 : decode cL_law 222 = .ok (.aload_n 1, 1) := by decide +kernel
theorem dL_law_223 : decode cL_law 223 = .ok (.aload_n 0, 1) := by decide +kernel
theorem dL_law_224 : decode cL_law 224 = .ok (.iload_n 3, 1) := by decide +kernel
theorem dL_law_225 : decode cL_law 225 = .ok (.iconst 1, 1) := by decide +kernel
theorem dL_law_226 : decode cL_law 226 = .ok (.iadd, 1) := by decide +kernel
theorem dL_law_227 : decode cL_law 227 = .ok (.iaload, 1) := by decide +kernel
theorem dL_law_228 : decode cL_law 228 = .ok (.aload_n 0, 1) := by decide +kernel
theorem dL_law_229 : decode cL_law 229 = .ok (.iload_n 3, 1) := by decide +kernel
theorem dL_law_230 : decode cL_law 230 = .ok (.iconst 2, 1) := by decide +kernel
theorem dL_law_231 : decode cL_law 231 = .ok (.iadd, 1) := by decide +kernel
theorem dL_law_232 : decode cL_law 232 = .ok (.iaload, 1) := by decide +kernel
theorem dL_law_233 : decode cL_law 233 = .ok (.invokevirtual 31, 3) := by decide +kernel
theorem dL_law_236 : decode cL_law 236 = .ok (.aload_n 2, 1) := by decide +kernel
theorem dL_law_237 : decode cL_law 237 = .ok (.aload_n 0, 1) := by decide +kernel
theorem dL_law_238 : decode cL_law 238 = .ok (.iload_n 3, 1) := by decide +kernel
theorem dL_law_239 : decode cL_law 239 = .ok (.iconst 1, 1) := by decide +kernel
theorem dL_law_240 : decode cL_law 240 = .ok (.iadd, 1) := by decide +kernel
theorem dL_law_241 : decode cL_law 241 = .ok (.iaload, 1) := by decide +kernel
theorem dL_law_242 : decode cL_law 242 = .ok (.aload_n 0, 1) := by decide +kernel
theorem dL_law_243 : decode cL_law 243 = .ok (.iload_n 3, 1) := by decide +kernel
theorem dL_law_244 : decode cL_law 244 = .ok (.iconst 2, 1) := by decide +kernel
theorem dL_law_245 : decode cL_law 245 = .ok (.iadd, 1) := by decide +kernel
theorem dL_law_246 : decode cL_law 246 = .ok (.iaload, 1) := by decide +kernel
theorem dL_law_247 : decode cL_law 247 = .ok (.invokevirtual 35, 3) := by decide +kernel
theorem dL_law_250 : decode cL_law 250 = .ok (.if_icmp .eq 604, 3) := by decide +kernel
theorem dL_law_253 : decode cL_law 253 = .ok (.iconst 0, 1) := by decide +kernel
theorem dL_law_254 : decode cL_law 254 = .ok (.ireturn, 1) := by decide +kernel
theorem dL_law_255 : decode cL_law 255 = .ok (.aload_n 1, 1) := by decide +kernel
theorem dL_law_256 : decode cL_law 256 = .ok (.aload_n 0, 1) := by decide +kernel
theorem dL_law_257 : decode cL_law 257 = .ok (.iload_n 3, 1) := by decide +kernel
theorem dL_law_258 : decode cL_law 258 = .ok (.iconst 1, 1) := by decide +kernel
theorem dL_law_259 : decode cL_law 259 = .ok (.iadd, 1) := by decide +kernel
theorem dL_law_260 : decode cL_law 260 = .ok (.iaload, 1) := by decide +kernel
theorem dL_law_261 : decode cL_law 261 = .ok (.aload_n 0, 1) := by decide +kernel
theorem dL_law_262 : decode cL_law 262 = .ok (.iload_n 3, 1) := by decide +kernel
theorem dL_law_263 : decode cL_law 263 = .ok (.iconst 2, 1) := by decide +kernel
theorem dL_law_264 : decode cL_law 264 = .ok (.iadd, 1) := by decide +kernel
theorem dL_law_265 : decode cL_law 265 = .ok (.iaload, 1) := by decide +kernel
theorem dL_law_266 : decode cL_law 266 = .ok (.invokevirtual 36, 3) := by decide +kernel
theorem dL_law_269 : decode cL_law 269 = .ok (.aload_n 2, 1) := by decide +kernel
theorem dL_law_270 : decode cL_law 270 = .ok (.aload_n 0, 1) := by decide +kernel
theorem dL_law_271 : decode cL_law 271 = .ok (.iload_n 3, 1) := by decide +kernel
theorem dL_law_272 : decode cL_law 272 = .ok (.iconst 1, 1) := by decide +kernel
theorem dL_law_273 : decode cL_law 273 = .ok (.iadd, 1) := by decide +kernel
theorem dL_law_274 : decode cL_law 274 = .ok (.iaload, 1) := by decide +kernel
theorem dL_law_275 : decode cL_law 275 = .ok (.aload_n 0, 1) := by decide +kernel
theorem dL_law_276 : decode cL_law 276 = .ok (.iload_n 3, 1) := by decide +kernel
theorem dL_law_277 : decode cL_law 277 = .ok (.iconst 2, 1) := by decide +kernel
theorem dL_law_278 : decode cL_law 278 = .ok (.iadd, 1) := by decide +kernel
theorem dL_law_279 : decode cL_law 279 = .ok (.iaload, 1) := by decide +kernel
theorem dL_law_280 : decode cL_law 280 = .ok (.invokevirtual 39, 3) := by decide +kernel
theorem dL_law_283 : decode cL_law 283 = .ok (.if_icmp .eq 571, 3) := by decide +kernel
theorem dL_law_286 : decode cL_law 286 = .ok (.iconst 0, 1) := by decide +kernel
theorem dL_law_287 : decode cL_law 287 = .ok (.ireturn, 1) := by decide +kernel
theorem dL_law_288 : decode cL_law 288 = .ok (.aload_n 1, 1) := by decide +kernel
theorem dL_law_289 : decode cL_law 289 = .ok (.invokevirtual 40, 3) := by decide +kernel
theorem dL_law_292 : decode cL_law 292 = .ok (.aload_n 2, 1) := by decide +kernel
theorem dL_law_293 : decode cL_law 293 = .ok (.invokevirtual 43, 3) := by decide +kernel
theorem dL_law_296 : decode cL_law 296 = .ok (.if_icmp .eq 558, 3) := by decide +kernel
theorem dL_law_299 : decode cL_law 299 = .ok (.iconst 0, 1) := by decide +kernel
theorem dL_law_300 : decode cL_law 300 = .ok (.ireturn, 1) := by decide +kernel
theorem dL_law_301 : decode cL_law 301 = .ok (.aload_n 1, 1) := by decide +kernel
theorem dL_law_302 : decode cL_law 302 = .ok (.aload_n 0, 1) := by decide +kernel
theorem dL_law_303 : decode cL_law 303 = .ok (.iload_n 3, 1) := by decide +kernel
theorem dL_law_304 : decode cL_law 304 = .ok (.iconst 1, 1) := by decide +kernel
theorem dL_law_305 : decode cL_law 305 = .ok (.iadd, 1) := by decide +kernel
theorem dL_law_306 : decode cL_law 306 = .ok (.iaload, 1) := by decide +kernel
theorem dL_law_307 : decode cL_law 307 = .ok (.aload_n 0, 1) := by decide +kernel
theorem dL_law_308 : decode cL_law 308 = .ok (.iload_n 3, 1) := by decide +kernel
theorem dL_law_309 : decode cL_law 309 = .ok (.iconst 2, 1) := by decide +kernel
theorem dL_law_310 : decode cL_law 310 = .ok (.iadd, 1) := by decide +kernel
theorem dL_law_311 : decode cL_law 311 = .ok (.iaload, 1) := by decide +kernel
theorem dL_law_312 : decode cL_law 312 = .ok (.invokevirtual 44, 3) := by decide +kernel
theorem dL_law_315 : decode cL_law 315 = .ok (.aload_n 2, 1) := by decide +kernel
theorem dL_law_316 : decode cL_law 316 = .ok (.aload_n 0, 1) := by decide +kernel
theorem dL_law_317 : decode cL_law 317 = .ok (.iload_n 3, 1) := by decide +kernel
theorem dL_law_318 : decode cL_law 318 = .ok (.iconst 1, 1) := by decide +kernel
theorem dL_law_319 : decode cL_law 319 = .ok (.iadd, 1) := by decide +kernel
theorem dL_law_320 : decode cL_law 320 = .ok (.iaload, 1) := by decide +kernel
theorem dL_law_321 : decode cL_law 321 = .ok (.aload_n 0, 1) := by decide +kernel
theorem dL_law_322 : decode cL_law 322 = .ok (.iload_n 3, 1) := by decide +kernel
theorem dL_law_323 : decode cL_law 323 = .ok (.iconst 2, 1) := by decide +kernel
theorem dL_law_324 : decode cL_law 324 = .ok (.iadd, 1) := by decide +kernel
theorem dL_law_325 : decode cL_law 325 = .ok (.iaload, 1) := by decide +kernel
theorem dL_law_326 : decode cL_law 326 = .ok (.invokevirtual 47, 3) := by decide +kernel
theorem dL_law_329 : decode cL_law 329 = .ok (.if_icmp .eq 525, 3) := by decide +kernel
theorem dL_law_332 : decode cL_law 332 = .ok (.iconst 0, 1) := by decide +kernel
theorem dL_law_333 : decode cL_law 333 = .ok (.ireturn, 1) := by decide +kernel
theorem dL_law_334 : decode cL_law 334 = .ok (.aload_n 1, 1) := by decide +kernel
theorem dL_law_335 : decode cL_law 335 = .ok (.aload_n 0, 1) := by decide +kernel
theorem dL_law_336 : decode cL_law 336 = .ok (.iload_n 3, 1) := by decide +kernel
theorem dL_law_337 : decode cL_law 337 = .ok (.iconst 1, 1) := by decide +kernel
theorem dL_law_338 : decode cL_law 338 = .ok (.iadd, 1) := by decide +kernel
theorem dL_law_339 : decode cL_law 339 = .ok (.iaload, 1) := by decide +kernel
theorem dL_law_340 : decode cL_law 340 = .ok (.aload_n 0, 1) := by decide +kernel
theorem dL_law_341 : decode cL_law 341 = .ok (.iload_n 3, 1) := by decide +kernel
theorem dL_law_342 : decode cL_law 342 = .ok (.iconst 2, 1) := by decide +kernel
theorem dL_law_343 : decode cL_law 343 = .ok (.iadd, 1) := by decide +kernel
theorem dL_law_344 : decode cL_law 344 = .ok (.iaload, 1) := by decide +kernel
theorem dL_law_345 : decode cL_law 345 = .ok (.invokevirtual 48, 3) := by decide +kernel
theorem dL_law_348 : decode cL_law 348 = .ok (.aload_n 2, 1) := by decide +kernel
theorem dL_law_349 : decode cL_law 349 = .ok (.aload_n 0, 1) := by decide +kernel
theorem dL_law_350 : decode cL_law 350 = .ok (.iload_n 3, 1) := by decide +kernel
theorem dL_law_351 : decode cL_law 351 = .ok (.iconst 1, 1) := by decide +kernel
theorem dL_law_352 : decode cL_law 352 = .ok (.iadd, 1) := by decide +kernel
theorem dL_law_353 : decode cL_law 353 = .ok (.iaload, 1) := by decide +kernel
theorem dL_law_354 : decode cL_law 354 = .ok (.aload_n 0, 1) := by decide +kernel
theorem dL_law_355 : decode cL_law 355 = .ok (.iload_n 3, 1) := by decide +kernel
theorem dL_law_356 : decode cL_law 356 = .ok (.iconst 2, 1) := by decide +kernel
theorem dL_law_357 : decode cL_law 357 = .ok (.iadd, 1) := by decide +kernel
theorem dL_law_358 : decode cL_law 358 = .ok (.iaload, 1) := by decide +kernel
theorem dL_law_359 : decode cL_law 359 = .ok (.invokevirtual 51, 3) := by decide +kernel
theorem dL_law_362 : decode cL_law 362 = .ok (.if_icmp .eq 492, 3) := by decide +kernel
theorem dL_law_365 : decode cL_law 365 = .ok (.iconst 0, 1) := by decide +kernel
theorem dL_law_366 : decode cL_law 366 = .ok (.ireturn, 1) := by decide +kernel
theorem dL_law_367 : decode cL_law 367 = .ok (.aload_n 1, 1) := by decide +kernel
theorem dL_law_368 : decode cL_law 368 = .ok (.aload_n 0, 1) := by decide +kernel
theorem dL_law_369 : decode cL_law 369 = .ok (.iload_n 3, 1) := by decide +kernel
theorem dL_law_370 : decode cL_law 370 = .ok (.iconst 1, 1) := by decide +kernel
theorem dL_law_371 : decode cL_law 371 = .ok (.iadd, 1) := by decide +kernel
theorem dL_law_372 : decode cL_law 372 = .ok (.iaload, 1) := by decide +kernel
theorem dL_law_373 : decode cL_law 373 = .ok (.aload_n 0, 1) := by decide +kernel
theorem dL_law_374 : decode cL_law 374 = .ok (.iload_n 3, 1) := by decide +kernel
theorem dL_law_375 : decode cL_law 375 = .ok (.iconst 2, 1) := by decide +kernel
theorem dL_law_376 : decode cL_law 376 = .ok (.iadd, 1) := by decide +kernel
theorem dL_law_377 : decode cL_law 377 = .ok (.iaload, 1) := by decide +kernel
theorem dL_law_378 : decode cL_law 378 = .ok (.aload_n 0, 1) := by decide +kernel
theorem dL_law_379 : decode cL_law 379 = .ok (.iload_n 3, 1) := by decide +kernel
theorem dL_law_380 : decode cL_law 380 = .ok (.iconst 3, 1) := by decide +kernel
theorem dL_law_381 : decode cL_law 381 = .ok (.iadd, 1) := by decide +kernel
theorem dL_law_382 : decode cL_law 382 = .ok (.iaload, 1) := by decide +kernel
theorem dL_law_383 : decode cL_law 383 = .ok (.invokevirtual 52, 3) := by decide +kernel
theorem dL_law_386 : decode cL_law 386 = .ok (.aload_n 2, 1) := by decide +kernel
theorem dL_law_387 : decode cL_law 387 = .ok (.aload_n 0, 1) := by decide +kernel
theorem dL_law_388 : decode cL_law 388 = .ok (.iload_n 3, 1) := by decide +kernel
theorem dL_law_389 : decode cL_law 389 = .ok (.iconst 1, 1) := by decide +kernel
theorem dL_law_390 : decode cL_law 390 = .ok (.iadd, 1) := by decide +kernel
theorem dL_law_391 : decode cL_law 391 = .ok (.iaload, 1) := by decide +kernel
theorem dL_law_392 : decode cL_law 392 = .ok (.aload_n 0, 1) := by decide +kernel
theorem dL_law_393 : decode cL_law 393 = .ok (.iload_n 3, 1) := by decide +kernel
theorem dL_law_394 : decode cL_law 394 = .ok (.iconst 2, 1) := by decide +kernel
theorem dL_law_395 : decode cL_law 395 = .ok (.iadd, 1) := by decide +kernel
theorem dL_law_396 : decode cL_law 396 = .ok (.iaload, 1) := by decide +kernel
theorem dL_law_397 : decode cL_law 397 = .ok (.aload_n 0, 1) := by decide +kernel
theorem dL_law_398 : decode cL_law 398 = .ok (.iload_n 3, 1) := by decide +kernel
theorem dL_law_399 : decode cL_law 399 = .ok (.iconst 3, 1) := by decide +kernel
theorem dL_law_400 : decode cL_law 400 = .ok (.iadd, 1) := by decide +kernel
theorem dL_law_401 : decode cL_law 401 = .ok (.iaload, 1) := by decide +kernel
theorem dL_law_402 : decode cL_law 402 = .ok (.invokevirtual 56, 3) := by decide +kernel
theorem dL_law_405 : decode cL_law 405 = .ok (.if_icmp .eq 449, 3) := by decide +kernel
theorem dL_law_408 : decode cL_law 408 = .ok (.iconst 0, 1) := by decide +kernel
theorem dL_law_409 : decode cL_law 409 = .ok (.ireturn, 1) := by decide +kernel
theorem dL_law_410 : decode cL_law 410 = .ok (.aload_n 1, 1) := by decide +kernel
theorem dL_law_411 : decode cL_law 411 = .ok (.aload_n 0, 1) := by decide +kernel
theorem dL_law_412 : decode cL_law 412 = .ok (.iload_n 3, 1) := by decide +kernel
theorem dL_law_413 : decode cL_law 413 = .ok (.iconst 1, 1) := by decide +kernel
theorem dL_law_414 : decode cL_law 414 = .ok (.iadd, 1) := by decide +kernel
theorem dL_law_415 : decode cL_law 415 = .ok (.iaload, 1) := by decide +kernel
theorem dL_law_416 : decode cL_law 416 = .ok (.invokevirtual 57, 3) := by decide +kernel
theorem dL_law_419 : decode cL_law 419 = .ok (.aload_n 2, 1) := by decide +kernel
theorem dL_law_420 : decode cL_law 420 = .ok (.aload_n 0, 1) := by decide +kernel
theorem dL_law_421 : decode cL_law 421 = .ok (.iload_n 3, 1) := by decide +kernel
theorem dL_law_422 : decode cL_law 422 = .ok (.iconst 1, 1) := by decide +kernel
theorem dL_law_423 : decode cL_law 423 = .ok (.iadd, 1) := by decide +kernel
theorem dL_law_424 : decode cL_law 424 = .ok (.iaload, 1) := by decide +kernel
theorem dL_law_425 : decode cL_law 425 = .ok (.invokevirtual 60, 3) := by decide +kernel
theorem dL_law_428 : decode cL_law 428 = .ok (.if_icmp .eq 426, 3) := by decide +kernel
theorem dL_law_431 : decode cL_law 431 = .ok (.iconst 0, 1) := by decide +kernel
theorem dL_law_432 : decode cL_law 432 = .ok (.ireturn, 1) := by decide +kernel
theorem dL_law_433 : decode cL_law 433 = .ok (.aload_n 1, 1) := by decide +kernel
theorem dL_law_434 : decode cL_law 434 = .ok (.invokevirtual 61, 3) := by decide +kernel
theorem dL_law_437 : decode cL_law 437 = .ok (.aload_n 2, 1) := by decide +kernel
theorem dL_law_438 : decode cL_law 438 = .ok (.invokevirtual 64, 3) := by decide +kernel
theorem dL_law_441 : decode cL_law 441 = .ok (.if_icmp .eq 413, 3) := by decide +kernel
theorem dL_law_444 : decode cL_law 444 = .ok (.iconst 0, 1) := by decide +kernel
theorem dL_law_445 : decode cL_law 445 = .ok (.ireturn, 1) := by decide +kernel
theorem dL_law_446 : decode cL_law 446 = .ok (.aload_n 1, 1) := by decide +kernel
theorem dL_law_447 : decode cL_law 447 = .ok (.aload_n 0, 1) := by decide +kernel
theorem dL_law_448 : decode cL_law 448 = .ok (.iload_n 3, 1) := by decide +kernel
theorem dL_law_449 : decode cL_law 449 = .ok (.iconst 1, 1) := by decide +kernel
theorem dL_law_450 : decode cL_law 450 = .ok (.iadd, 1) := by decide +kernel
theorem dL_law_451 : decode cL_law 451 = .ok (.iaload, 1) := by decide +kernel
theorem dL_law_452 : decode cL_law 452 = .ok (.aload_n 0, 1) := by decide +kernel
theorem dL_law_453 : decode cL_law 453 = .ok (.iload_n 3, 1) := by decide +kernel
theorem dL_law_454 : decode cL_law 454 = .ok (.iconst 2, 1) := by decide +kernel
theorem dL_law_455 : decode cL_law 455 = .ok (.iadd, 1) := by decide +kernel
theorem dL_law_456 : decode cL_law 456 = .ok (.iaload, 1) := by decide +kernel
theorem dL_law_457 : decode cL_law 457 = .ok (.invokevirtual 65, 3) := by decide +kernel
theorem dL_law_460 : decode cL_law 460 = .ok (.aload_n 2, 1) := by decide +kernel
theorem dL_law_461 : decode cL_law 461 = .ok (.aload_n 0, 1) := by decide +kernel
theorem dL_law_462 : decode cL_law 462 = .ok (.iload_n 3, 1) := by decide +kernel
theorem dL_law_463 : decode cL_law 463 = .ok (.iconst 1, 1) := by decide +kernel
theorem dL_law_464 : decode cL_law 464 = .ok (.iadd, 1) := by decide +kernel
theorem dL_law_465 : decode cL_law 465 = .ok (.iaload, 1) := by decide +kernel
theorem dL_law_466 : decode cL_law 466 = .ok (.aload_n 0, 1) := by decide +kernel
theorem dL_law_467 : decode cL_law 467 = .ok (.iload_n 3, 1) := by decide +kernel
theorem dL_law_468 : decode cL_law 468 = .ok (.iconst 2, 1) := by decide +kernel
theorem dL_law_469 : decode cL_law 469 = .ok (.iadd, 1) := by decide +kernel
theorem dL_law_470 : decode cL_law 470 = .ok (.iaload, 1) := by decide +kernel
theorem dL_law_471 : decode cL_law 471 = .ok (.invokevirtual 68, 3) := by decide +kernel
theorem dL_law_474 : decode cL_law 474 = .ok (.if_icmp .eq 380, 3) := by decide +kernel
theorem dL_law_477 : decode cL_law 477 = .ok (.iconst 0, 1) := by decide +kernel
theorem dL_law_478 : decode cL_law 478 = .ok (.ireturn, 1) := by decide +kernel
theorem dL_law_479 : decode cL_law 479 = .ok (.aload_n 1, 1) := by decide +kernel
theorem dL_law_480 : decode cL_law 480 = .ok (.invokevirtual 69, 3) := by decide +kernel
theorem dL_law_483 : decode cL_law 483 = .ok (.aload_n 2, 1) := by decide +kernel
theorem dL_law_484 : decode cL_law 484 = .ok (.invokevirtual 72, 3) := by decide +kernel
theorem dL_law_487 : decode cL_law 487 = .ok (.if_icmp .eq 367, 3) := by decide +kernel
theorem dL_law_490 : decode cL_law 490 = .ok (.iconst 0, 1) := by decide +kernel
theorem dL_law_491 : decode cL_law 491 = .ok (.ireturn, 1) := by decide +kernel
theorem dL_law_492 : decode cL_law 492 = .ok (.aload_n 1, 1) := by decide +kernel
theorem dL_law_493 : decode cL_law 493 = .ok (.invokevirtual 73, 3) := by decide +kernel
theorem dL_law_496 : decode cL_law 496 = .ok (.aload_n 2, 1) := by decide +kernel
theorem dL_law_497 : decode cL_law 497 = .ok (.invokevirtual 76, 3) := by decide +kernel
theorem dL_law_500 : decode cL_law 500 = .ok (.if_icmp .eq 354, 3) := by decide +kernel
theorem dL_law_503 : decode cL_law 503 = .ok (.iconst 0, 1) := by decide +kernel
theorem dL_law_504 : decode cL_law 504 = .ok (.ireturn, 1) := by decide +kernel
theorem dL_law_505 : decode cL_law 505 = .ok (.aload_n 1, 1) := by decide +kernel
theorem dL_law_506 : decode cL_law 506 = .ok (.aload_n 0, 1) := by decide +kernel
theorem dL_law_507 : decode cL_law 507 = .ok (.iload_n 3, 1) := by decide +kernel
theorem dL_law_508 : decode cL_law 508 = .ok (.iconst 1, 1) := by decide +kernel
theorem dL_law_509 : decode cL_law 509 = .ok (.iadd, 1) := by decide +kernel
theorem dL_law_510 : decode cL_law 510 = .ok (.iaload, 1) := by decide +kernel
theorem dL_law_511 : decode cL_law 511 = .ok (.invokevirtual 77, 3) := by decide +kernel
theorem dL_law_514 : decode cL_law 514 = .ok (.aload_n 2, 1) := by decide +kernel
theorem dL_law_515 : decode cL_law 515 = .ok (.aload_n 0, 1) := by decide +kernel
theorem dL_law_516 : decode cL_law 516 = .ok (.iload_n 3, 1) := by decide +kernel
theorem dL_law_517 : decode cL_law 517 = .ok (.iconst 1, 1) := by decide +kernel
theorem dL_law_518 : decode cL_law 518 = .ok (.iadd, 1) := by decide +kernel
theorem dL_law_519 : decode cL_law 519 = .ok (.iaload, 1) := by decide +kernel
theorem dL_law_520 : decode cL_law 520 = .ok (.invokevirtual 80, 3) := by decide +kernel
theorem dL_law_523 : decode cL_law 523 = .ok (.if_icmp .eq 331, 3) := by decide +kernel
theorem dL_law_526 : decode cL_law 526 = .ok (.iconst 0, 1) := by decide +kernel
theorem dL_law_527 : decode cL_law 527 = .ok (.ireturn, 1) := by decide +kernel
theorem dL_law_528 : decode cL_law 528 = .ok (.aload_n 1, 1) := by decide +kernel
theorem dL_law_529 : decode cL_law 529 = .ok (.aload_n 0, 1) := by decide +kernel
theorem dL_law_530 : decode cL_law 530 = .ok (.iload_n 3, 1) := by decide +kernel
theorem dL_law_531 : decode cL_law 531 = .ok (.iconst 1, 1) := by decide +kernel
theorem dL_law_532 : decode cL_law 532 = .ok (.iadd, 1) := by decide +kernel
theorem dL_law_533 : decode cL_law 533 = .ok (.iaload, 1) := by decide +kernel
theorem dL_law_534 : decode cL_law 534 = .ok (.aload_n 0, 1) := by decide +kernel
theorem dL_law_535 : decode cL_law 535 = .ok (.iload_n 3, 1) := by decide +kernel
theorem dL_law_536 : decode cL_law 536 = .ok (.iconst 2, 1) := by decide +kernel
theorem dL_law_537 : decode cL_law 537 = .ok (.iadd, 1) := by decide +kernel
theorem dL_law_538 : decode cL_law 538 = .ok (.iaload, 1) := by decide +kernel
theorem dL_law_539 : decode cL_law 539 = .ok (.invokevirtual 81, 3) := by decide +kernel
theorem dL_law_542 : decode cL_law 542 = .ok (.aload_n 2, 1) := by decide +kernel
theorem dL_law_543 : decode cL_law 543 = .ok (.aload_n 0, 1) := by decide +kernel
theorem dL_law_544 : decode cL_law 544 = .ok (.iload_n 3, 1) := by decide +kernel
theorem dL_law_545 : decode cL_law 545 = .ok (.iconst 1, 1) := by decide +kernel
theorem dL_law_546 : decode cL_law 546 = .ok (.iadd, 1) := by decide +kernel
theorem dL_law_547 : decode cL_law 547 = .ok (.iaload, 1) := by decide +kernel
theorem dL_law_548 : decode cL_law 548 = .ok (.aload_n 0, 1) := by decide +kernel
theorem dL_law_549 : decode cL_law 549 = .ok (.iload_n 3, 1) := by decide +kernel
theorem dL_law_550 : decode cL_law 550 = .ok (.iconst 2, 1) := by decide +kernel
theorem dL_law_551 : decode cL_law 551 = .ok (.iadd, 1) := by decide +kernel
theorem dL_law_552 : decode cL_law 552 = .ok (.iaload, 1) := by decide +kernel
theorem dL_law_553 : decode cL_law 553 = .ok (.invokevirtual 84, 3) := by decide +kernel
theorem dL_law_556 : decode cL_law 556 = .ok (.if_icmp .eq 298, 3) := by decide +kernel
theorem dL_law_559 : decode cL_law 559 = .ok (.iconst 0, 1) := by decide +kernel
theorem dL_law_560 : decode cL_law 560 = .ok (.ireturn, 1) := by decide +kernel
theorem dL_law_561 : decode cL_law 561 = .ok (.aload_n 1, 1) := by decide +kernel
theorem dL_law_562 : decode cL_law 562 = .ok (.aload_n 0, 1) := by decide +kernel
theorem dL_law_563 : decode cL_law 563 = .ok (.iload_n 3, 1) := by decide +kernel
theorem dL_law_564 : decode cL_law 564 = .ok (.iconst 1, 1) := by decide +kernel
theorem dL_law_565 : decode cL_law 565 = .ok (.iadd, 1) := by decide +kernel
theorem dL_law_566 : decode cL_law 566 = .ok (.iaload, 1) := by decide +kernel
theorem dL_law_567 : decode cL_law 567 = .ok (.aload_n 0, 1) := by decide +kernel
theorem dL_law_568 : decode cL_law 568 = .ok (.iload_n 3, 1) := by decide +kernel
theorem dL_law_569 : decode cL_law 569 = .ok (.iconst 2, 1) := by decide +kernel
theorem dL_law_570 : decode cL_law 570 = .ok (.iadd, 1) := by decide +kernel
theorem dL_law_571 : decode cL_law 571 = .ok (.iaload, 1) := by decide +kernel
theorem dL_law_572 : decode cL_law 572 = .ok (.aload_n 0, 1) := by decide +kernel
theorem dL_law_573 : decode cL_law 573 = .ok (.iload_n 3, 1) := by decide +kernel
theorem dL_law_574 : decode cL_law 574 = .ok (.iconst 3, 1) := by decide +kernel
theorem dL_law_575 : decode cL_law 575 = .ok (.iadd, 1) := by decide +kernel
theorem dL_law_576 : decode cL_law 576 = .ok (.iaload, 1) := by decide +kernel
theorem dL_law_577 : decode cL_law 577 = .ok (.invokevirtual 85, 3) := by decide +kernel
theorem dL_law_580 : decode cL_law 580 = .ok (.aload_n 2, 1) := by decide +kernel
theorem dL_law_581 : decode cL_law 581 = .ok (.aload_n 0, 1) := by decide +kernel
theorem dL_law_582 : decode cL_law 582 = .ok (.iload_n 3, 1) := by decide +kernel
theorem dL_law_583 : decode cL_law 583 = .ok (.iconst 1, 1) := by decide +kernel
theorem dL_law_584 : decode cL_law 584 = .ok (.iadd, 1) := by decide +kernel
theorem dL_law_585 : decode cL_law 585 = .ok (.iaload, 1) := by decide +kernel
theorem dL_law_586 : decode cL_law 586 = .ok (.aload_n 0, 1) := by decide +kernel
theorem dL_law_587 : decode cL_law 587 = .ok (.iload_n 3, 1) := by decide +kernel
theorem dL_law_588 : decode cL_law 588 = .ok (.iconst 2, 1) := by decide +kernel
theorem dL_law_589 : decode cL_law 589 = .ok (.iadd, 1) := by decide +kernel
theorem dL_law_590 : decode cL_law 590 = .ok (.iaload, 1) := by decide +kernel
theorem dL_law_591 : decode cL_law 591 = .ok (.aload_n 0, 1) := by decide +kernel
theorem dL_law_592 : decode cL_law 592 = .ok (.iload_n 3, 1) := by decide +kernel
theorem dL_law_593 : decode cL_law 593 = .ok (.iconst 3, 1) := by decide +kernel
theorem dL_law_594 : decode cL_law 594 = .ok (.iadd, 1) := by decide +kernel
theorem dL_law_595 : decode cL_law 595 = .ok (.iaload, 1) := by decide +kernel
theorem dL_law_596 : decode cL_law 596 = .ok (.invokevirtual 88, 3) := by decide +kernel
theorem dL_law_599 : decode cL_law 599 = .ok (.if_icmp .eq 255, 3) := by decide +kernel
theorem dL_law_602 : decode cL_law 602 = .ok (.iconst 0, 1) := by decide +kernel
theorem dL_law_603 : decode cL_law 603 = .ok (.ireturn, 1) := by decide +kernel
theorem dL_law_604 : decode cL_law 604 = .ok (.aload_n 1, 1) := by decide +kernel
theorem dL_law_605 : decode cL_law 605 = .ok (.aload_n 0, 1) := by decide +kernel
theorem dL_law_606 : decode cL_law 606 = .ok (.iload_n 3, 1) := by decide +kernel
theorem dL_law_607 : decode cL_law 607 = .ok (.iconst 1, 1) := by decide +kernel
theorem dL_law_608 : decode cL_law 608 = .ok (.iadd, 1) := by decide +kernel
theorem dL_law_609 : decode cL_law 609 = .ok (.iaload, 1) := by decide +kernel
theorem dL_law_610 : decode cL_law 610 = .ok (.invokevirtual 89, 3) := by decide +kernel
theorem dL_law_613 : decode cL_law 613 = .ok (.aload_n 2, 1) := by decide +kernel
theorem dL_law_614 : decode cL_law 614 = .ok (.aload_n 0, 1) := by decide +kernel
theorem dL_law_615 : decode cL_law 615 = .ok (.iload_n 3, 1) := by decide +kernel
theorem dL_law_616 : decode cL_law 616 = .ok (.iconst 1, 1) := by decide +kernel
theorem dL_law_617 : decode cL_law 617 = .ok (.iadd, 1) := by decide +kernel
theorem dL_law_618 : decode cL_law 618 = .ok (.iaload, 1) := by decide +kernel
theorem dL_law_619 : decode cL_law 619 = .ok (.invokevirtual 92, 3) := by decide +kernel
theorem dL_law_622 : decode cL_law 622 = .ok (.if_icmp .eq 232, 3) := by decide +kernel
theorem dL_law_625 : decode cL_law 625 = .ok (.iconst 0, 1) := by decide +kernel
theorem dL_law_626 : decode cL_law 626 = .ok (.ireturn, 1) := by decide +kernel
theorem dL_law_627 : decode cL_law 627 = .ok (.aload_n 1, 1) := by decide +kernel
theorem dL_law_628 : decode cL_law 628 = .ok (.aload_n 0, 1) := by decide +kernel
theorem dL_law_629 : decode cL_law 629 = .ok (.iload_n 3, 1) := by decide +kernel
theorem dL_law_630 : decode cL_law 630 = .ok (.iconst 1, 1) := by decide +kernel
theorem dL_law_631 : decode cL_law 631 = .ok (.iadd, 1) := by decide +kernel
theorem dL_law_632 : decode cL_law 632 = .ok (.iaload, 1) := by decide +kernel
theorem dL_law_633 : decode cL_law 633 = .ok (.aload_n 0, 1) := by decide +kernel
theorem dL_law_634 : decode cL_law 634 = .ok (.iload_n 3, 1) := by decide +kernel
theorem dL_law_635 : decode cL_law 635 = .ok (.iconst 2, 1) := by decide +kernel
theorem dL_law_636 : decode cL_law 636 = .ok (.iadd, 1) := by decide +kernel
theorem dL_law_637 : decode cL_law 637 = .ok (.iaload, 1) := by decide +kernel
theorem dL_law_638 : decode cL_law 638 = .ok (.aload_n 0, 1) := by decide +kernel
theorem dL_law_639 : decode cL_law 639 = .ok (.iload_n 3, 1) := by decide +kernel
theorem dL_law_640 : decode cL_law 640 = .ok (.iconst 3, 1) := by decide +kernel
theorem dL_law_641 : decode cL_law 641 = .ok (.iadd, 1) := by decide +kernel
theorem dL_law_642 : decode cL_law 642 = .ok (.iaload, 1) := by decide +kernel
theorem dL_law_643 : decode cL_law 643 = .ok (.invokevirtual 93, 3) := by decide +kernel
theorem dL_law_646 : decode cL_law 646 = .ok (.aload_n 2, 1) := by decide +kernel
theorem dL_law_647 : decode cL_law 647 = .ok (.aload_n 0, 1) := by decide +kernel
theorem dL_law_648 : decode cL_law 648 = .ok (.iload_n 3, 1) := by decide +kernel
theorem dL_law_649 : decode cL_law 649 = .ok (.iconst 1, 1) := by decide +kernel
theorem dL_law_650 : decode cL_law 650 = .ok (.iadd, 1) := by decide +kernel
theorem dL_law_651 : decode cL_law 651 = .ok (.iaload, 1) := by decide +kernel
theorem dL_law_652 : decode cL_law 652 = .ok (.aload_n 0, 1) := by decide +kernel
theorem dL_law_653 : decode cL_law 653 = .ok (.iload_n 3, 1) := by decide +kernel
theorem dL_law_654 : decode cL_law 654 = .ok (.iconst 2, 1) := by decide +kernel
theorem dL_law_655 : decode cL_law 655 = .ok (.iadd, 1) := by decide +kernel
theorem dL_law_656 : decode cL_law 656 = .ok (.iaload, 1) := by decide +kernel
theorem dL_law_657 : decode cL_law 657 = .ok (.aload_n 0, 1) := by decide +kernel
theorem dL_law_658 : decode cL_law 658 = .ok (.iload_n 3, 1) := by decide +kernel
theorem dL_law_659 : decode cL_law 659 = .ok (.iconst 3, 1) := by decide +kernel
theorem dL_law_660 : decode cL_law 660 = .ok (.iadd, 1) := by decide +kernel
theorem dL_law_661 : decode cL_law 661 = .ok (.iaload, 1) := by decide +kernel
theorem dL_law_662 : decode cL_law 662 = .ok (.invokevirtual 96, 3) := by decide +kernel
theorem dL_law_665 : decode cL_law 665 = .ok (.if_icmp .eq 189, 3) := by decide +kernel
theorem dL_law_668 : decode cL_law 668 = .ok (.iconst 0, 1) := by decide +kernel
theorem dL_law_669 : decode cL_law 669 = .ok (.ireturn, 1) := by decide +kernel
theorem dL_law_670 : decode cL_law 670 = .ok (.aload_n 1, 1) := by decide +kernel
theorem dL_law_671 : decode cL_law 671 = .ok (.aload_n 0, 1) := by decide +kernel
theorem dL_law_672 : decode cL_law 672 = .ok (.iload_n 3, 1) := by decide +kernel
theorem dL_law_673 : decode cL_law 673 = .ok (.iconst 1, 1) := by decide +kernel
theorem dL_law_674 : decode cL_law 674 = .ok (.iadd, 1) := by decide +kernel
theorem dL_law_675 : decode cL_law 675 = .ok (.iaload, 1) := by decide +kernel
theorem dL_law_676 : decode cL_law 676 = .ok (.aload_n 0, 1) := by decide +kernel
theorem dL_law_677 : decode cL_law 677 = .ok (.iload_n 3, 1) := by decide +kernel
theorem dL_law_678 : decode cL_law 678 = .ok (.iconst 2, 1) := by decide +kernel
theorem dL_law_679 : decode cL_law 679 = .ok (.iadd, 1) := by decide +kernel
theorem dL_law_680 : decode cL_law 680 = .ok (.iaload, 1) := by decide +kernel
theorem dL_law_681 : decode cL_law 681 = .ok (.invokevirtual 97, 3) := by decide +kernel
theorem dL_law_684 : decode cL_law 684 = .ok (.aload_n 2, 1) := by decide +kernel
theorem dL_law_685 : decode cL_law 685 = .ok (.aload_n 0, 1) := by decide +kernel
theorem dL_law_686 : decode cL_law 686 = .ok (.iload_n 3, 1) := by decide +kernel
theorem dL_law_687 : decode cL_law 687 = .ok (.iconst 1, 1) := by decide +kernel
theorem dL_law_688 : decode cL_law 688 = .ok (.iadd, 1) := by decide +kernel
theorem dL_law_689 : decode cL_law 689 = .ok (.iaload, 1) := by decide +kernel
theorem dL_law_690 : decode cL_law 690 = .ok (.aload_n 0, 1) := by decide +kernel
theorem dL_law_691 : decode cL_law 691 = .ok (.iload_n 3, 1) := by decide +kernel
theorem dL_law_692 : decode cL_law 692 = .ok (.iconst 2, 1) := by decide +kernel
theorem dL_law_693 : decode cL_law 693 = .ok (.iadd, 1) := by decide +kernel
theorem dL_law_694 : decode cL_law 694 = .ok (.iaload, 1) := by decide +kernel
theorem dL_law_695 : decode cL_law 695 = .ok (.invokevirtual 100, 3) := by decide +kernel
theorem dL_law_698 : decode cL_law 698 = .ok (.if_icmp .eq 156, 3) := by decide +kernel
theorem dL_law_701 : decode cL_law 701 = .ok (.iconst 0, 1) := by decide +kernel
theorem dL_law_702 : decode cL_law 702 = .ok (.ireturn, 1) := by decide +kernel
theorem dL_law_703 : decode cL_law 703 = .ok (.aload_n 1, 1) := by decide +kernel
theorem dL_law_704 : decode cL_law 704 = .ok (.invokevirtual 101, 3) := by decide +kernel
theorem dL_law_707 : decode cL_law 707 = .ok (.aload_n 2, 1) := by decide +kernel
theorem dL_law_708 : decode cL_law 708 = .ok (.invokevirtual 104, 3) := by decide +kernel
theorem dL_law_711 : decode cL_law 711 = .ok (.if_icmp .eq 143, 3) := by decide +kernel
theorem dL_law_714 : decode cL_law 714 = .ok (.iconst 0, 1) := by decide +kernel
theorem dL_law_715 : decode cL_law 715 = .ok (.ireturn, 1) := by decide +kernel
theorem dL_law_716 : decode cL_law 716 = .ok (.aload_n 1, 1) := by decide +kernel
theorem dL_law_717 : decode cL_law 717 = .ok (.invokevirtual 105, 3) := by decide +kernel
theorem dL_law_720 : decode cL_law 720 = .ok (.aload_n 2, 1) := by decide +kernel
theorem dL_law_721 : decode cL_law 721 = .ok (.invokevirtual 108, 3) := by decide +kernel
theorem dL_law_724 : decode cL_law 724 = .ok (.if_icmp .eq 130, 3) := by decide +kernel
theorem dL_law_727 : decode cL_law 727 = .ok (.iconst 0, 1) := by decide +kernel
theorem dL_law_728 : decode cL_law 728 = .ok (.ireturn, 1) := by decide +kernel
theorem dL_law_729 : decode cL_law 729 = .ok (.aload_n 1, 1) := by decide +kernel
theorem dL_law_730 : decode cL_law 730 = .ok (.aload_n 0, 1) := by decide +kernel
theorem dL_law_731 : decode cL_law 731 = .ok (.iload_n 3, 1) := by decide +kernel
theorem dL_law_732 : decode cL_law 732 = .ok (.iconst 1, 1) := by decide +kernel
theorem dL_law_733 : decode cL_law 733 = .ok (.iadd, 1) := by decide +kernel
theorem dL_law_734 : decode cL_law 734 = .ok (.iaload, 1) := by decide +kernel
theorem dL_law_735 : decode cL_law 735 = .ok (.aload_n 0, 1) := by decide +kernel
theorem dL_law_736 : decode cL_law 736 = .ok (.iload_n 3, 1) := by decide +kernel
theorem dL_law_737 : decode cL_law 737 = .ok (.iconst 2, 1) := by decide +kernel
theorem dL_law_738 : decode cL_law 738 = .ok (.iadd, 1) := by decide +kernel
theorem dL_law_739 : decode cL_law 739 = .ok (.iaload, 1) := by decide +kernel
theorem dL_law_740 : decode cL_law 740 = .ok (.aload_n 0, 1) := by decide +kernel
theorem dL_law_741 : decode cL_law 741 = .ok (.iload_n 3, 1) := by decide +kernel
theorem dL_law_742 : decode cL_law 742 = .ok (.iconst 3, 1) := by decide +kernel
theorem dL_law_743 : decode cL_law 743 = .ok (.iadd, 1) := by decide +kernel
theorem dL_law_744 : decode cL_law 744 = .ok (.iaload, 1) := by decide +kernel
theorem dL_law_745 : decode cL_law 745 = .ok (.invokevirtual 109, 3) := by decide +kernel
theorem dL_law_748 : decode cL_law 748 = .ok (.aload_n 2, 1) := by decide +kernel
theorem dL_law_749 : decode cL_law 749 = .ok (.aload_n 0, 1) := by decide +kernel
theorem dL_law_750 : decode cL_law 750 = .ok (.iload_n 3, 1) := by decide +kernel
theorem dL_law_751 : decode cL_law 751 = .ok (.iconst 1, 1) := by decide +kernel
theorem dL_law_752 : decode cL_law 752 = .ok (.iadd, 1) := by decide +kernel
theorem dL_law_753 : decode cL_law 753 = .ok (.iaload, 1) := by decide +kernel
theorem dL_law_754 : decode cL_law 754 = .ok (.aload_n 0, 1) := by decide +kernel
theorem dL_law_755 : decode cL_law 755 = .ok (.iload_n 3, 1) := by decide +kernel
theorem dL_law_756 : decode cL_law 756 = .ok (.iconst 2, 1) := by decide +kernel
theorem dL_law_757 : decode cL_law 757 = .ok (.iadd, 1) := by decide +kernel
theorem dL_law_758 : decode cL_law 758 = .ok (.iaload, 1) := by decide +kernel
theorem dL_law_759 : decode cL_law 759 = .ok (.aload_n 0, 1) := by decide +kernel
theorem dL_law_760 : decode cL_law 760 = .ok (.iload_n 3, 1) := by decide +kernel
theorem dL_law_761 : decode cL_law 761 = .ok (.iconst 3, 1) := by decide +kernel
theorem dL_law_762 : decode cL_law 762 = .ok (.iadd, 1) := by decide +kernel
theorem dL_law_763 : decode cL_law 763 = .ok (.iaload, 1) := by decide +kernel
theorem dL_law_764 : decode cL_law 764 = .ok (.invokevirtual 112, 3) := by decide +kernel
theorem dL_law_767 : decode cL_law 767 = .ok (.if_icmp .eq 87, 3) := by decide +kernel
theorem dL_law_770 : decode cL_law 770 = .ok (.iconst 0, 1) := by decide +kernel
theorem dL_law_771 : decode cL_law 771 = .ok (.ireturn, 1) := by decide +kernel
theorem dL_law_772 : decode cL_law 772 = .ok (.aload_n 1, 1) := by decide +kernel
theorem dL_law_773 : decode cL_law 773 = .ok (.aload_n 0, 1) := by decide +kernel
theorem dL_law_774 : decode cL_law 774 = .ok (.iload_n 3, 1) := by decide +kernel
theorem dL_law_775 : decode cL_law 775 = .ok (.iconst 1, 1) := by decide +kernel
theorem dL_law_776 : decode cL_law 776 = .ok (.iadd, 1) := by decide +kernel
theorem dL_law_777 : decode cL_law 777 = .ok (.iaload, 1) := by decide +kernel
theorem dL_law_778 : decode cL_law 778 = .ok (.aload_n 0, 1) := by decide +kernel
theorem dL_law_779 : decode cL_law 779 = .ok (.iload_n 3, 1) := by decide +kernel
theorem dL_law_780 : decode cL_law 780 = .ok (.iconst 2, 1) := by decide +kernel
theorem dL_law_781 : decode cL_law 781 = .ok (.iadd, 1) := by decide +kernel
theorem dL_law_782 : decode cL_law 782 = .ok (.iaload, 1) := by decide +kernel
theorem dL_law_783 : decode cL_law 783 = .ok (.invokevirtual 113, 3) := by decide +kernel
theorem dL_law_786 : decode cL_law 786 = .ok (.aload_n 2, 1) := by decide +kernel
theorem dL_law_787 : decode cL_law 787 = .ok (.aload_n 0, 1) := by decide +kernel
theorem dL_law_788 : decode cL_law 788 = .ok (.iload_n 3, 1) := by decide +kernel
theorem dL_law_789 : decode cL_law 789 = .ok (.iconst 1, 1) := by decide +kernel
theorem dL_law_790 : decode cL_law 790 = .ok (.iadd, 1) := by decide +kernel
theorem dL_law_791 : decode cL_law 791 = .ok (.iaload, 1) := by decide +kernel
theorem dL_law_792 : decode cL_law 792 = .ok (.aload_n 0, 1) := by decide +kernel
theorem dL_law_793 : decode cL_law 793 = .ok (.iload_n 3, 1) := by decide +kernel
theorem dL_law_794 : decode cL_law 794 = .ok (.iconst 2, 1) := by decide +kernel
theorem dL_law_795 : decode cL_law 795 = .ok (.iadd, 1) := by decide +kernel
theorem dL_law_796 : decode cL_law 796 = .ok (.iaload, 1) := by decide +kernel
theorem dL_law_797 : decode cL_law 797 = .ok (.invokevirtual 116, 3) := by decide +kernel
theorem dL_law_800 : decode cL_law 800 = .ok (.if_icmp .eq 54, 3) := by decide +kernel
theorem dL_law_803 : decode cL_law 803 = .ok (.iconst 0, 1) := by decide +kernel
theorem dL_law_804 : decode cL_law 804 = .ok (.ireturn, 1) := by decide +kernel
theorem dL_law_805 : decode cL_law 805 = .ok (.aload_n 1, 1) := by decide +kernel
theorem dL_law_806 : decode cL_law 806 = .ok (.invokevirtual 117, 3) := by decide +kernel
theorem dL_law_809 : decode cL_law 809 = .ok (.aload_n 2, 1) := by decide +kernel
theorem dL_law_810 : decode cL_law 810 = .ok (.invokevirtual 120, 3) := by decide +kernel
theorem dL_law_813 : decode cL_law 813 = .ok (.if_icmp .eq 41, 3) := by decide +kernel
theorem dL_law_816 : decode cL_law 816 = .ok (.iconst 0, 1) := by decide +kernel
theorem dL_law_817 : decode cL_law 817 = .ok (.ireturn, 1) := by decide +kernel
theorem dL_law_818 : decode cL_law 818 = .ok (.aload_n 1, 1) := by decide +kernel
theorem dL_law_819 : decode cL_law 819 = .ok (.invokevirtual 121, 3) := by decide +kernel
theorem dL_law_822 : decode cL_law 822 = .ok (.aload_n 2, 1) := by decide +kernel
theorem dL_law_823 : decode cL_law 823 = .ok (.invokevirtual 124, 3) := by decide +kernel
theorem dL_law_826 : decode cL_law 826 = .ok (.if_icmp .eq 28, 3) := by decide +kernel
theorem dL_law_829 : decode cL_law 829 = .ok (.iconst 0, 1) := by decide +kernel
theorem dL_law_830 : decode cL_law 830 = .ok (.ireturn, 1) := by decide +kernel
theorem dL_law_831 : decode cL_law 831 = .ok (.aload_n 1, 1) := by decide +kernel
theorem dL_law_832 : decode cL_law 832 = .ok (.aload_n 0, 1) := by decide +kernel
theorem dL_law_833 : decode cL_law 833 = .ok (.iload_n 3, 1) := by decide +kernel
theorem dL_law_834 : decode cL_law 834 = .ok (.iconst 1, 1) := by decide +kernel
theorem dL_law_835 : decode cL_law 835 = .ok (.iadd, 1) := by decide +kernel
theorem dL_law_836 : decode cL_law 836 = .ok (.iaload, 1) := by decide +kernel
theorem dL_law_837 : decode cL_law 837 = .ok (.invokevirtual 125, 3) := by decide +kernel
theorem dL_law_840 : decode cL_law 840 = .ok (.aload_n 2, 1) := by decide +kernel
theorem dL_law_841 : decode cL_law 841 = .ok (.aload_n 0, 1) := by decide +kernel
theorem dL_law_842 : decode cL_law 842 = .ok (.iload_n 3, 1) := by decide +kernel
theorem dL_law_843 : decode cL_law 843 = .ok (.iconst 1, 1) := by decide +kernel
theorem dL_law_844 : decode cL_law 844 = .ok (.iadd, 1) := by decide +kernel
theorem dL_law_845 : decode cL_law 845 = .ok (.iaload, 1) := by decide +kernel
theorem dL_law_846 : decode cL_law 846 = .ok (.invokevirtual 128, 3) := by decide +kernel
theorem dL_law_849 : decode cL_law 849 = .ok (.if_icmp .eq 5, 3) := by decide +kernel
theorem dL_law_852 : decode cL_law 852 = .ok (.iconst 0, 1) := by decide +kernel
theorem dL_law_853 : decode cL_law 853 = .ok (.ireturn, 1) := by decide +kernel
theorem dL_law_854 : decode cL_law 854 = .ok (.iinc 3 4, 3) := by decide +kernel
theorem dL_law_857 : decode cL_law 857 = .ok (.goto (-839), 3) := by decide +kernel
theorem dL_law_860 : decode cL_law 860 = .ok (.iconst 1, 1) := by decide +kernel
theorem dL_law_861 : decode cL_law 861 = .ok (.ireturn, 1) := by decide +kernel
theorem dX0_bearStretch_0 : decode cX0_bearStretch 0 = .ok (.aload_n 0, 1) := by decide +kernel
theorem dX0_bearStretch_1 : decode cX0_bearStretch 1 = .ok (.getfield 33, 3) := by decide +kernel
theorem dX0_bearStretch_4 : decode cX0_bearStretch 4 = .ok (.aload_n 0, 1) := by decide +kernel
theorem dX0_bearStretch_5 : decode cX0_bearStretch 5 = .ok (.getfield 24, 3) := by decide +kernel
theorem dX0_bearStretch_8 : decode cX0_bearStretch 8 = .ok (.invokevirtual 70, 3) := by decide +kernel
theorem dX0_bearStretch_11 : decode cX0_bearStretch 11 = .ok (.aload_n 0, 1) := by decide +kernel
theorem dX0_bearStretch_12 : decode cX0_bearStretch 12 = .ok (.getfield 33, 3) := by decide +kernel
theorem dX0_bearStretch_15 : decode cX0_bearStretch 15 = .ok (.iconst 0, 1) := by decide +kernel
theorem dX0_bearStretch_16 : decode cX0_bearStretch 16 = .ok (.putfield 73, 3) := by decide +kernel
theorem dX0_bearStretch_19 : decode cX0_bearStretch 19 = .ok (.aload_n 0, 1) := by decide +kernel
theorem dX0_bearStretch_20 : decode cX0_bearStretch 20 = .ok (.iconst 0, 1) := by decide +kernel
theorem dX0_bearStretch_21 : decode cX0_bearStretch 21 = .ok (.putfield 64, 3) := by decide +kernel
theorem dX0_bearStretch_24 : decode cX0_bearStretch 24 = .ok (.aload_n 0, 1) := by decide +kernel
theorem dX0_bearStretch_25 : decode cX0_bearStretch 25 = .ok (.iconst 0, 1) := by decide +kernel
theorem dX0_bearStretch_26 : decode cX0_bearStretch 26 = .ok (.putfield 67, 3) := by decide +kernel
theorem dX0_bearStretch_29 : decode cX0_bearStretch 29 = .ok (.iload_n 1, 1) := by decide +kernel
theorem dX0_bearStretch_30 : decode cX0_bearStretch 30 = .ok (.istore 6, 2) := by decide +kernel
theorem dX0_bearStretch_32 : decode cX0_bearStretch 32 = .ok (.iload 6, 2) := by decide +kernel
theorem dX0_bearStretch_34 : decode cX0_bearStretch 34 = .ok (.iload_n 2, 1) := by decide +kernel
theorem dX0_bearStretch_35 : decode cX0_bearStretch 35 = .ok (.if_icmp .ge 89, 3) := by decide +kernel
theorem dX0_bearStretch_38 : decode cX0_bearStretch 38 = .ok (.aload_n 0, 1) := by decide +kernel
theorem dX0_bearStretch_39 : decode cX0_bearStretch 39 = .ok (.getfield 33, 3) := by decide +kernel
theorem dX0_bearStretch_42 : decode cX0_bearStretch 42 = .ok (.iload 6, 2) := by decide +kernel
theorem dX0_bearStretch_44 : decode cX0_bearStretch 44 = .ok (.iload 5, 2) := by decide +kernel
theorem dX0_bearStretch_46 : decode cX0_bearStretch 46 = .ok (.invokevirtual 76, 3) := by decide +kernel
theorem dX0_bearStretch_49 : decode cX0_bearStretch 49 = .ok (.istore 7, 2) := by decide +kernel
theorem dX0_bearStretch_51 : decode cX0_bearStretch 51 = .ok (.iload 7, 2) := by decide +kernel
theorem dX0_bearStretch_53 : decode cX0_bearStretch 53 = .ok (.invokestatic 80, 3) := by decide +kernel
theorem dX0_bearStretch_56 : decode cX0_bearStretch 56 = .ok (.iconst 1, 1) := by decide +kernel
theorem dX0_bearStretch_57 : decode cX0_bearStretch 57 = .ok (.if_icmp .le 8, 3) := by decide +kernel
theorem dX0_bearStretch_60 : decode cX0_bearStretch 60 = .ok (.bipush 30, 2) := by decide +kernel
theorem dX0_bearStretch_62 : decode cX0_bearStretch 62 = .ok (.goto 5, 3) := by decide +kernel
theorem dX0_bearStretch_65 : decode cX0_bearStretch 65 = .ok (.bipush 60, 2) := by decide +kernel
theorem dX0_bearStretch_67 : decode cX0_bearStretch 67 = .ok (.istore 8, 2) := by decide +kernel
theorem dX0_bearStretch_69 : decode cX0_bearStretch 69 = .ok (.aload_n 0, 1) := by decide +kernel
theorem dX0_bearStretch_70 : decode cX0_bearStretch 70 = .ok (.dup, 1) := by decide +kernel
theorem dX0_bearStretch_71 : decode cX0_bearStretch 71 = .ok (.getfield 64, 3) := by decide +kernel
theorem dX0_bearStretch_74 : decode cX0_bearStretch 74 = .ok (.iload_n 3, 1) := by decide +kernel
theorem dX0_bearStretch_75 : decode cX0_bearStretch 75 = .ok (.iload 7, 2) := by decide +kernel
theorem dX0_bearStretch_77 : decode cX0_bearStretch 77 = .ok (.invokestatic 86, 3) := by decide +kernel
theorem dX0_bearStretch_80 : decode cX0_bearStretch 80 = .ok (.ifCond .eq 8, 3) := by decide +kernel
theorem dX0_bearStretch_83 : decode cX0_bearStretch 83 = .ok (.iload 8, 2) := by decide +kernel
theorem dX0_bearStretch_85 : decode cX0_bearStretch 85 = .ok (.goto 4, 3) := by decide +kernel
theorem dX0_bearStretch_88 : decode cX0_bearStretch 88 = .ok (.iconst 0, 1) := by decide +kernel
theorem dX0_bearStretch_89 : decode cX0_bearStretch 89 = .ok (.iadd, 1) := by decide +kernel
theorem dX0_bearStretch_90 : decode cX0_bearStretch 90 = .ok (.putfield 64, 3) := by decide +kernel
theorem dX0_bearStretch_93 : decode cX0_bearStretch 93 = .ok (.aload_n 0, 1) := by decide +kernel
theorem dX0_bearStretch_94 : decode cX0_bearStretch 94 = .ok (.dup, 1) := by decide +kernel
theorem dX0_bearStretch_95 : decode cX0_bearStretch 95 = .ok (.getfield 67, 3) := by decide +kernel
theorem dX0_bearStretch_98 : decode cX0_bearStretch 98 = .ok (.iload 4, 2) := by decide +kernel
theorem dX0_bearStretch_100 : decode cX0_bearStretch 100 = .ok (.iload 7, 2) := by decide +kernel
theorem dX0_bearStretch_102 : decode cX0_bearStretch 102 = .ok (.invokestatic 86, 3) := by decide +kernel
theorem dX0_bearStretch_105 : decode cX0_bearStretch 105 = .ok (.ifCond .eq 8, 3) := by decide +kernel
theorem dX0_bearStretch_108 : decode cX0_bearStretch 108 = .ok (.iload 8, 2) := by decide +kernel
theorem dX0_bearStretch_110 : decode cX0_bearStretch 110 = .ok (.goto 4, 3) := by decide +kernel
theorem dX0_bearStretch_113 : decode cX0_bearStretch 113 = .ok (.iconst 0, 1) := by decide +kernel
theorem dX0_bearStretch_114 : decode cX0_bearStretch 114 = .ok (.iadd, 1) := by decide +kernel
theorem dX0_bearStretch_115 : decode cX0_bearStretch 115 = .ok (.putfield 67, 3) := by decide +kernel
theorem dX0_bearStretch_118 : decode cX0_bearStretch 118 = .ok (.iinc 6 1, 3) := by decide +kernel
theorem dX0_bearStretch_121 : decode cX0_bearStretch 121 = .ok (.goto (-89), 3) := by decide +kernel
theorem dX0_bearStretch_124 : decode cX0_bearStretch 124 = .ok (.return_, 1) := by decide +kernel
theorem dX0_fill_0 : decode cX0_fill 0 = .ok (.iconst 0, 1) := by decide +kernel
theorem dX0_fill_1 : decode cX0_fill 1 = .ok (.istore_n 3, 1) := by decide +kernel
theorem dX0_fill_2 : decode cX0_fill 2 = .ok (.iconst 0, 1) := by decide +kernel
theorem dX0_fill_3 : decode cX0_fill 3 = .ok (.istore 4, 2) := by decide +kernel
theorem dX0_fill_5 : decode cX0_fill 5 = .ok (.iload 4, 2) := by decide +kernel
theorem dX0_fill_7 : decode cX0_fill 7 = .ok (.aload_n 0, 1) := by decide +kernel
theorem dX0_fill_8 : decode cX0_fill 8 = .ok (.getfield 24, 3) := by decide +kernel
theorem dX0_fill_11 : decode cX0_fill 11 = .ok (.getfield 48, 3) := by decide +kernel
theorem dX0_fill_14 : decode cX0_fill 14 = .ok (.if_icmp .ge 110, 3) := by decide +kernel
theorem dX0_fill_17 : decode cX0_fill 17 = .ok (.iload_n 3, 1) := by decide +kernel
theorem dX0_fill_18 : decode cX0_fill 18 = .ok (.aload_n 0, 1) := by decide +kernel
theorem dX0_fill_19 : decode cX0_fill 19 = .ok (.getfield 24, 3) := by decide +kernel
theorem dX0_fill_22 : decode cX0_fill 22 = .ok (.getfield 57, 3) := by decide +kernel
theorem dX0_fill_25 : decode cX0_fill 25 = .ok (.iload 4, 2) := by decide +kernel
theorem dX0_fill_27 : decode cX0_fill 27 = .ok (.iaload, 1) := by decide +kernel
theorem dX0_fill_28 : decode cX0_fill 28 = .ok (.iadd, 1) := by decide +kernel
theorem dX0_fill_29 : decode cX0_fill 29 = .ok (.istore 5, 2) := by decide +kernel
theorem dX0_fill_31 : decode cX0_fill 31 = .ok (.aload_n 0, 1) := by decide +kernel
theorem dX0_fill_32 : decode cX0_fill 32 = .ok (.iload_n 3, 1) := by decide +kernel
theorem dX0_fill_33 : decode cX0_fill 33 = .ok (.iload 5, 2) := by decide +kernel
theorem dX0_fill_35 : decode cX0_fill 35 = .ok (.iload_n 1, 1) := by decide +kernel
theorem dX0_fill_36 : decode cX0_fill 36 = .ok (.iload_n 2, 1) := by decide +kernel
theorem dX0_fill_37 : decode cX0_fill 37 = .ok (.iconst 1, 1) := by decide +kernel
theorem dX0_fill_38 : decode cX0_fill 38 = .ok (.iload_n 1, 1) := by decide +kernel
theorem dX0_fill_39 : decode cX0_fill 39 = .ok (.ishl, 1) := by decide +kernel
theorem dX0_fill_40 : decode cX0_fill 40 = .ok (.invokevirtual 60, 3) := by decide +kernel
theorem dX0_fill_43 : decode cX0_fill 43 = .ok (.aload_n 0, 1) := by decide +kernel
theorem dX0_fill_44 : decode cX0_fill 44 = .ok (.getfield 9, 3) := by decide +kernel
theorem dX0_fill_47 : decode cX0_fill 47 = .ok (.iload 4, 2) := by decide +kernel
theorem dX0_fill_49 : decode cX0_fill 49 = .ok (.aload_n 0, 1) := by decide +kernel
theorem dX0_fill_50 : decode cX0_fill 50 = .ok (.getfield 64, 3) := by decide +kernel
theorem dX0_fill_53 : decode cX0_fill 53 = .ok (.iastore, 1) := by decide +kernel
theorem dX0_fill_54 : decode cX0_fill 54 = .ok (.aload_n 0, 1) := by decide +kernel
theorem dX0_fill_55 : decode cX0_fill 55 = .ok (.iload_n 3, 1) := by decide +kernel
theorem dX0_fill_56 : decode cX0_fill 56 = .ok (.iload 5, 2) := by decide +kernel
theorem dX0_fill_58 : decode cX0_fill 58 = .ok (.iload_n 1, 1) := by decide +kernel
theorem dX0_fill_59 : decode cX0_fill 59 = .ok (.iload_n 2, 1) := by decide +kernel
theorem dX0_fill_60 : decode cX0_fill 60 = .ok (.iconst 1, 1) := by decide +kernel
theorem dX0_fill_61 : decode cX0_fill 61 = .ok (.iload_n 2, 1) := by decide +kernel
theorem dX0_fill_62 : decode cX0_fill 62 = .ok (.ishl, 1) := by decide +kernel
theorem dX0_fill_63 : decode cX0_fill 63 = .ok (.invokevirtual 60, 3) := by decide +kernel
theorem dX0_fill_66 : decode cX0_fill 66 = .ok (.aload_n 0, 1) := by decide +kernel
theorem dX0_fill_67 : decode cX0_fill 67 = .ok (.getfield 18, 3) := by decide +kernel
theorem dX0_fill_70 : decode cX0_fill 70 = .ok (.iload 4, 2) := by decide +kernel
theorem dX0_fill_72 : decode cX0_fill 72 = .ok (.aload_n 0, 1) := by decide +kernel
theorem dX0_fill_73 : decode cX0_fill 73 = .ok (.getfield 67, 3) := by decide +kernel
theorem dX0_fill_76 : decode cX0_fill 76 = .ok (.iastore, 1) := by decide +kernel
theorem dX0_fill_77 : decode cX0_fill 77 = .ok (.aload_n 0, 1) := by decide +kernel
theorem dX0_fill_78 : decode cX0_fill 78 = .ok (.iload_n 3, 1) := by decide +kernel
theorem dX0_fill_79 : decode cX0_fill 79 = .ok (.iload 5, 2) := by decide +kernel
theorem dX0_fill_81 : decode cX0_fill 81 = .ok (.iload_n 1, 1) := by decide +kernel
theorem dX0_fill_82 : decode cX0_fill 82 = .ok (.iload_n 2, 1) := by decide +kernel
theorem dX0_fill_83 : decode cX0_fill 83 = .ok (.iconst 1, 1) := by decide +kernel
theorem dX0_fill_84 : decode cX0_fill 84 = .ok (.iload_n 1, 1) := by decide +kernel
theorem dX0_fill_85 : decode cX0_fill 85 = .ok (.ishl, 1) := by decide +kernel
theorem dX0_fill_86 : decode cX0_fill 86 = .ok (.iconst 1, 1) := by decide +kernel
theorem dX0_fill_87 : decode cX0_fill 87 = .ok (.iload_n 2, 1) := by decide +kernel
theorem dX0_fill_88 : decode cX0_fill 88 = .ok (.ishl, 1) := by decide +kernel
theorem dX0_fill_89 : decode cX0_fill 89 = .ok (.ior, 1) := by decide +kernel
theorem dX0_fill_90 : decode cX0_fill 90 = .ok (.invokevirtual 60, 3) := by decide +kernel
theorem dX0_fill_93 : decode cX0_fill 93 = .ok (.aload_n 0, 1) := by decide +kernel
theorem dX0_fill_94 : decode cX0_fill 94 = .ok (.getfield 15, 3) := by decide +kernel
theorem dX0_fill_97 : decode cX0_fill 97 = .ok (.iload 4, 2) := by decide +kernel
theorem dX0_fill_99 : decode cX0_fill 99 = .ok (.aload_n 0, 1) := by decide +kernel
theorem dX0_fill_100 : decode cX0_fill 100 = .ok (.getfield 64, 3) := by decide +kernel
theorem dX0_fill_103 : decode cX0_fill 103 = .ok (.iastore, 1) := by decide +kernel
theorem dX0_fill_104 : decode cX0_fill 104 = .ok (.aload_n 0, 1) := by decide +kernel
theorem dX0_fill_105 : decode cX0_fill 105 = .ok (.getfield 21, 3) := by decide +kernel
theorem dX0_fill_108 : decode cX0_fill 108 = .ok (.iload 4, 2) := by decide +kernel
theorem dX0_fill_110 : decode cX0_fill 110 = .ok (.aload_n 0, 1) := by decide +kernel
theorem dX0_fill_111 : decode cX0_fill 111 = .ok (.getfield 67, 3) := by decide +kernel
theorem dX0_fill_114 : decode cX0_fill 114 = .ok (.iastore, 1) := by decide +kernel
theorem dX0_fill_115 : decode cX0_fill 115 = .ok (.iload 5, 2) := by decide +kernel
theorem dX0_fill_117 : decode cX0_fill 117 = .ok (.istore_n 3, 1) := by decide +kernel
theorem dX0_fill_118 : decode cX0_fill 118 = .ok (.iinc 4 1, 3) := by decide +kernel
theorem dX0_fill_121 : decode cX0_fill 121 = .ok (.goto (-116), 3) := by decide +kernel
theorem dX0_fill_124 : decode cX0_fill 124 = .ok (.return_, 1) := by decide +kernel
theorem dX0_init_0 : decode cX0_init 0 = .ok (.aload_n 0, 1) := by decide +kernel
theorem dX0_init_1 : decode cX0_init 1 = .ok (.invokespecial 3, 3) := by decide +kernel
theorem dX0_init_4 : decode cX0_init 4 = .ok (.aload_n 0, 1) := by decide +kernel
theorem dX0_init_5 : decode cX0_init 5 = .ok (.bipush 6, 2) := by decide +kernel
theorem dX0_init_7 : decode cX0_init 7 = .ok (.newarray .int, 2) := by decide +kernel
theorem dX0_init_9 : decode cX0_init 9 = .ok (.putfield 9, 3) := by decide +kernel
theorem dX0_init_12 : decode cX0_init 12 = .ok (.aload_n 0, 1) := by decide +kernel
theorem dX0_init_13 : decode cX0_init 13 = .ok (.bipush 6, 2) := by decide +kernel
theorem dX0_init_15 : decode cX0_init 15 = .ok (.newarray .int, 2) := by decide +kernel
theorem dX0_init_17 : decode cX0_init 17 = .ok (.putfield 15, 3) := by decide +kernel
theorem dX0_init_20 : decode cX0_init 20 = .ok (.aload_n 0, 1) := by decide +kernel
theorem dX0_init_21 : decode cX0_init 21 = .ok (.bipush 6, 2) := by decide +kernel
theorem dX0_init_23 : decode cX0_init 23 = .ok (.newarray .int, 2) := by decide +kernel
theorem dX0_init_25 : decode cX0_init 25 = .ok (.putfield 18, 3) := by decide +kernel
theorem dX0_init_28 : decode cX0_init 28 = .ok (.aload_n 0, 1) := by decide +kernel
theorem dX0_init_29 : decode cX0_init 29 = .ok (.bipush 6, 2) := by decide +kernel
theorem dX0_init_31 : decode cX0_init 31 = .ok (.newarray .int, 2) := by decide +kernel
theorem dX0_init_33 : decode cX0_init 33 = .ok (.putfield 21, 3) := by decide +kernel
theorem dX0_init_36 : decode cX0_init 36 = .ok (.aload_n 0, 1) := by decide +kernel
theorem dX0_init_37 : decode cX0_init 37 = .ok (.aload_n 1, 1) := by decide +kernel
theorem dX0_init_38 : decode cX0_init 38 = .ok (.putfield 24, 3) := by decide +kernel
theorem dX0_init_41 : decode cX0_init 41 = .ok (.aload_n 0, 1) := by decide +kernel
theorem dX0_init_42 : decode cX0_init 42 = .ok (.new 28, 3) := by decide +kernel
theorem dX0_init_45 : decode cX0_init 45 = .ok (.dup, 1) := by decide +kernel
theorem dX0_init_46 : decode cX0_init 46 = .ok (.aload_n 1, 1) := by decide +kernel
theorem dX0_init_47 : decode cX0_init 47 = .ok (.invokespecial 30, 3) := by decide +kernel
theorem dX0_init_50 : decode cX0_init 50 = .ok (.putfield 33, 3) := by decide +kernel
theorem dX0_init_53 : decode cX0_init 53 = .ok (.return_, 1) := by decide +kernel
theorem dX0_isRest_0 : decode cX0_isRest 0 = .ok (.iconst 0, 1) := by decide +kernel
theorem dX0_isRest_1 : decode cX0_isRest 1 = .ok (.istore_n 3, 1) := by decide +kernel
theorem dX0_isRest_2 : decode cX0_isRest 2 = .ok (.iload_n 3, 1) := by decide +kernel
theorem dX0_isRest_3 : decode cX0_isRest 3 = .ok (.aload_n 0, 1) := by decide +kernel
theorem dX0_isRest_4 : decode cX0_isRest 4 = .ok (.getfield 24, 3) := by decide +kernel
theorem dX0_isRest_7 : decode cX0_isRest 7 = .ok (.getfield 48, 3) := by decide +kernel
theorem dX0_isRest_10 : decode cX0_isRest 10 = .ok (.if_icmp .ge 41, 3) := by decide +kernel
theorem dX0_isRest_13 : decode cX0_isRest 13 = .ok (.aload_n 0, 1) := by decide +kernel
theorem dX0_isRest_14 : decode cX0_isRest 14 = .ok (.iload_n 3, 1) := by decide +kernel
theorem dX0_isRest_15 : decode cX0_isRest 15 = .ok (.iload_n 2, 1) := by decide +kernel
theorem dX0_isRest_16 : decode cX0_isRest 16 = .ok (.invokevirtual 89, 3) := by decide +kernel
theorem dX0_isRest_19 : decode cX0_isRest 19 = .ok (.aload_n 0, 1) := by decide +kernel
theorem dX0_isRest_20 : decode cX0_isRest 20 = .ok (.iload_n 1, 1) := by decide +kernel
theorem dX0_isRest_21 : decode cX0_isRest 21 = .ok (.iload_n 2, 1) := by decide +kernel
theorem dX0_isRest_22 : decode cX0_isRest 22 = .ok (.invokevirtual 89, 3) := by decide +kernel
theorem dX0_isRest_25 : decode cX0_isRest 25 = .ok (.if_icmp .gt 18, 3) := by decide +kernel
theorem dX0_isRest_28 : decode cX0_isRest 28 = .ok (.aload_n 0, 1) := by decide +kernel
theorem dX0_isRest_29 : decode cX0_isRest 29 = .ok (.iload_n 1, 1) := by decide +kernel
theorem dX0_isRest_30 : decode cX0_isRest 30 = .ok (.iload_n 3, 1) := by decide +kernel
theorem dX0_isRest_31 : decode cX0_isRest 31 = .ok (.invokevirtual 92, 3) := by decide +kernel
theorem dX0_isRest_34 : decode cX0_isRest 34 = .ok (.aload_n 0, 1) := by decide +kernel
theorem dX0_isRest_35 : decode cX0_isRest 35 = .ok (.iload_n 1, 1) := by decide +kernel
theorem dX0_isRest_36 : decode cX0_isRest 36 = .ok (.iload_n 2, 1) := by decide +kernel
theorem dX0_isRest_37 : decode cX0_isRest 37 = .ok (.invokevirtual 92, 3) := by decide +kernel
theorem dX0_isRest_40 : decode cX0_isRest 40 = .ok (.if_icmp .le 5, 3) := by decide +kernel
theorem dX0_isRest_43 : decode cX0_isRest 43 = .ok (.iconst 0, 1) := by decide +kernel
theorem dX0_isRest_44 : decode cX0_isRest 44 = .ok (.ireturn, 1) := by decide +kernel
theorem dX0_isRest_45 : decode cX0_isRest 45 = .ok (.iinc 3 1, 3) := by decide +kernel
theorem dX0_isRest_48 : decode cX0_isRest 48 = .ok (.goto (-46), 3) := by decide +kernel
theorem dX0_isRest_51 : decode cX0_isRest 51 = .ok (.iconst 1, 1) := by decide +kernel
theorem dX0_isRest_52 : decode cX0_isRest 52 = .ok (.ireturn, 1) := by decide +kernel
end
section
theorem dX0_ofFirst_0 : decode cX0_ofFirst 0 = .ok (.iload_n 1, 1) := by decide +kernel
theorem dX0_ofFirst_1 : decode cX0_ofFirst 1 = .ok (.iload_n 2, 1) := by decide +kernel
theorem dX0_ofFirst_2 : decode cX0_ofFirst 2 = .ok (.if_icmp .ne 12, 3) := by decide +kernel
theorem dX0_ofFirst_5 : decode cX0_ofFirst 5 = .ok (.aload_n 0, 1) := by decide +kernel
theorem dX0_ofFirst_6 : decode cX0_ofFirst 6 = .ok (.getfield 15, 3) := by decide +kernel
theorem dX0_ofFirst_9 : decode cX0_ofFirst 9 = .ok (.iload_n 1, 1) := by decide +kernel
theorem dX0_ofFirst_10 : decode cX0_ofFirst 10 = .ok (.iaload, 1) := by decide +kernel
theorem dX0_ofFirst_11 : decode cX0_ofFirst 11 = .ok (.goto 9, 3) := by decide +kernel
theorem dX0_ofFirst_14 : decode cX0_ofFirst 14 = .ok (.aload_n 0, 1) := by decide +kernel
theorem dX0_ofFirst_15 : decode cX0_ofFirst 15 = .ok (.getfield 9, 3) := by decide +kernel
theorem dX0_ofFirst_18 : decode cX0_ofFirst 18 = .ok (.iload_n 1, 1) := by decide +kernel
theorem dX0_ofFirst_19 : decode cX0_ofFirst 19 = .ok (.iaload, 1) := by decide +kernel
theorem dX0_ofFirst_20 : decode cX0_ofFirst 20 = .ok (.ireturn, 1) := by decide +kernel
theorem dX0_ofOther_0 : decode cX0_ofOther 0 = .ok (.iload_n 1, 1) := by decide +kernel
theorem dX0_ofOther_1 : decode cX0_ofOther 1 = .ok (.iload_n 2, 1) := by decide +kernel
theorem dX0_ofOther_2 : decode cX0_ofOther 2 = .ok (.if_icmp .ne 12, 3) := by decide +kernel
theorem dX0_ofOther_5 : decode cX0_ofOther 5 = .ok (.aload_n 0, 1) := by decide +kernel
theorem dX0_ofOther_6 : decode cX0_ofOther 6 = .ok (.getfield 21, 3) := by decide +kernel
theorem dX0_ofOther_9 : decode cX0_ofOther 9 = .ok (.iload_n 2, 1) := by decide +kernel
theorem dX0_ofOther_10 : decode cX0_ofOther 10 = .ok (.iaload, 1) := by decide +kernel
theorem dX0_ofOther_11 : decode cX0_ofOther 11 = .ok (.goto 9, 3) := by decide +kernel
theorem dX0_ofOther_14 : decode cX0_ofOther 14 = .ok (.aload_n 0, 1) := by decide +kernel
theorem dX0_ofOther_15 : decode cX0_ofOther 15 = .ok (.getfield 18, 3) := by decide +kernel
theorem dX0_ofOther_18 : decode cX0_ofOther 18 = .ok (.iload_n 2, 1) := by decide +kernel
theorem dX0_ofOther_19 : decode cX0_ofOther 19 = .ok (.iaload, 1) := by decide +kernel
theorem dX0_ofOther_20 : decode cX0_ofOther 20 = .ok (.ireturn, 1) := by decide +kernel
theorem dX0_weigh_0 : decode cX0_weigh 0 = .ok (.aload_n 0, 1) := by decide +kernel
theorem dX0_weigh_1 : decode cX0_weigh 1 = .ok (.iload_n 1, 1) := by decide +kernel
theorem dX0_weigh_2 : decode cX0_weigh 2 = .ok (.iload_n 2, 1) := by decide +kernel
theorem dX0_weigh_3 : decode cX0_weigh 3 = .ok (.invokevirtual 37, 3) := by decide +kernel
theorem dX0_weigh_6 : decode cX0_weigh 6 = .ok (.aload_n 0, 1) := by decide +kernel
theorem dX0_weigh_7 : decode cX0_weigh 7 = .ok (.iconst 0, 1) := by decide +kernel
theorem dX0_weigh_8 : decode cX0_weigh 8 = .ok (.putfield 41, 3) := by decide +kernel
theorem dX0_weigh_11 : decode cX0_weigh 11 = .ok (.aload_n 0, 1) := by decide +kernel
theorem dX0_weigh_12 : decode cX0_weigh 12 = .ok (.bipush (-4), 2) := by decide +kernel
theorem dX0_weigh_14 : decode cX0_weigh 14 = .ok (.putfield 45, 3) := by decide +kernel
theorem dX0_weigh_17 : decode cX0_weigh 17 = .ok (.iconst 0, 1) := by decide +kernel
theorem dX0_weigh_18 : decode cX0_weigh 18 = .ok (.istore_n 3, 1) := by decide +kernel
theorem dX0_weigh_19 : decode cX0_weigh 19 = .ok (.iload_n 3, 1) := by decide +kernel
theorem dX0_weigh_20 : decode cX0_weigh 20 = .ok (.aload_n 0, 1) := by decide +kernel
theorem dX0_weigh_21 : decode cX0_weigh 21 = .ok (.getfield 24, 3) := by decide +kernel
theorem dX0_weigh_24 : decode cX0_weigh 24 = .ok (.getfield 48, 3) := by decide +kernel
theorem dX0_weigh_27 : decode cX0_weigh 27 = .ok (.if_icmp .ge 77, 3) := by decide +kernel
theorem dX0_weigh_30 : decode cX0_weigh 30 = .ok (.iconst 0, 1) := by decide +kernel
theorem dX0_weigh_31 : decode cX0_weigh 31 = .ok (.istore 4, 2) := by decide +kernel
theorem dX0_weigh_33 : decode cX0_weigh 33 = .ok (.iload 4, 2) := by decide +kernel
theorem dX0_weigh_35 : decode cX0_weigh 35 = .ok (.aload_n 0, 1) := by decide +kernel
theorem dX0_weigh_36 : decode cX0_weigh 36 = .ok (.getfield 24, 3) := by decide +kernel
theorem dX0_weigh_39 : decode cX0_weigh 39 = .ok (.getfield 48, 3) := by decide +kernel
theorem dX0_weigh_42 : decode cX0_weigh 42 = .ok (.if_icmp .ge 56, 3) := by decide +kernel
theorem dX0_weigh_45 : decode cX0_weigh 45 = .ok (.aload_n 0, 1) := by decide +kernel
theorem dX0_weigh_46 : decode cX0_weigh 46 = .ok (.iload_n 3, 1) := by decide +kernel
theorem dX0_weigh_47 : decode cX0_weigh 47 = .ok (.iload 4, 2) := by decide +kernel
theorem dX0_weigh_49 : decode cX0_weigh 49 = .ok (.invokevirtual 53, 3) := by decide +kernel
theorem dX0_weigh_52 : decode cX0_weigh 52 = .ok (.ifCond .eq 40, 3) := by decide +kernel
theorem dX0_weigh_55 : decode cX0_weigh 55 = .ok (.aload_n 0, 1) := by decide +kernel
theorem dX0_weigh_56 : decode cX0_weigh 56 = .ok (.dup, 1) := by decide +kernel
theorem dX0_weigh_57 : decode cX0_weigh 57 = .ok (.getfield 41, 3) := by decide +kernel
theorem dX0_weigh_60 : decode cX0_weigh 60 = .ok (.iconst 1, 1) := by decide +kernel
theorem dX0_weigh_61 : decode cX0_weigh 61 = .ok (.iadd, 1) := by decide +kernel
theorem dX0_weigh_62 : decode cX0_weigh 62 = .ok (.putfield 41, 3) := by decide +kernel
theorem dX0_weigh_65 : decode cX0_weigh 65 = .ok (.aload_n 0, 1) := by decide +kernel
theorem dX0_weigh_66 : decode cX0_weigh 66 = .ok (.aload_n 0, 1) := by decide +kernel
theorem dX0_weigh_67 : decode cX0_weigh 67 = .ok (.getfield 45, 3) := by decide +kernel
theorem dX0_weigh_70 : decode cX0_weigh 70 = .ok (.bipush (-4), 2) := by decide +kernel
theorem dX0_weigh_72 : decode cX0_weigh 72 = .ok (.if_icmp .ne 13, 3) := by decide +kernel
theorem dX0_weigh_75 : decode cX0_weigh 75 = .ok (.bipush 8, 2) := by decide +kernel
theorem dX0_weigh_77 : decode cX0_weigh 77 = .ok (.iload_n 3, 1) := by decide +kernel
theorem dX0_weigh_78 : decode cX0_weigh 78 = .ok (.imul, 1) := by decide +kernel
theorem dX0_weigh_79 : decode cX0_weigh 79 = .ok (.iload 4, 2) := by decide +kernel
theorem dX0_weigh_81 : decode cX0_weigh 81 = .ok (.iadd, 1) := by decide +kernel
theorem dX0_weigh_82 : decode cX0_weigh 82 = .ok (.goto 7, 3) := by decide +kernel
theorem dX0_weigh_85 : decode cX0_weigh 85 = .ok (.aload_n 0, 1) := by decide +kernel
theorem dX0_weigh_86 : decode cX0_weigh 86 = .ok (.getfield 45, 3) := by decide +kernel
theorem dX0_weigh_89 : decode cX0_weigh 89 = .ok (.putfield 45, 3) := by decide +kernel
theorem dX0_weigh_92 : decode cX0_weigh 92 = .ok (.iinc 4 1, 3) := by decide +kernel
theorem dX0_weigh_95 : decode cX0_weigh 95 = .ok (.goto (-62), 3) := by decide +kernel
theorem dX0_weigh_98 : decode cX0_weigh 98 = .ok (.iinc 3 1, 3) := by decide +kernel
theorem dX0_weigh_101 : decode cX0_weigh 101 = .ok (.goto (-82), 3) := by decide +kernel
theorem dX0_weigh_104 : decode cX0_weigh 104 = .ok (.return_, 1) := by decide +kernel
theorem dX1_addBearer_0 : decode cX1_addBearer 0 = .ok (.aload_n 0, 1) := by decide +kernel
theorem dX1_addBearer_1 : decode cX1_addBearer 1 = .ok (.getfield 37, 3) := by decide +kernel
theorem dX1_addBearer_4 : decode cX1_addBearer 4 = .ok (.bipush 6, 2) := by decide +kernel
theorem dX1_addBearer_6 : decode cX1_addBearer 6 = .ok (.if_icmp .ge 22, 3) := by decide +kernel
theorem dX1_addBearer_9 : decode cX1_addBearer 9 = .ok (.iload_n 1, 1) := by decide +kernel
theorem dX1_addBearer_10 : decode cX1_addBearer 10 = .ok (.iconst 1, 1) := by decide +kernel
theorem dX1_addBearer_11 : decode cX1_addBearer 11 = .ok (.bipush 60, 2) := by decide +kernel
theorem dX1_addBearer_13 : decode cX1_addBearer 13 = .ok (.invokestatic 46, 3) := by decide +kernel
theorem dX1_addBearer_16 : decode cX1_addBearer 16 = .ok (.ifCond .eq 12, 3) := by decide +kernel
theorem dX1_addBearer_19 : decode cX1_addBearer 19 = .ok (.iload_n 2, 1) := by decide +kernel
theorem dX1_addBearer_20 : decode cX1_addBearer 20 = .ok (.iconst 0, 1) := by decide +kernel
theorem dX1_addBearer_21 : decode cX1_addBearer 21 = .ok (.iconst 3, 1) := by decide +kernel
theorem dX1_addBearer_22 : decode cX1_addBearer 22 = .ok (.invokestatic 46, 3) := by decide +kernel
theorem dX1_addBearer_25 : decode cX1_addBearer 25 = .ok (.ifCond .ne 5, 3) := by decide +kernel
theorem dX1_addBearer_28 : decode cX1_addBearer 28 = .ok (.iconst 0, 1) := by decide +kernel
theorem dX1_addBearer_29 : decode cX1_addBearer 29 = .ok (.ireturn, 1) := by decide +kernel
theorem dX1_addBearer_30 : decode cX1_addBearer 30 = .ok (.aload_n 0, 1) := by decide +kernel
theorem dX1_addBearer_31 : decode cX1_addBearer 31 = .ok (.getfield 21, 3) := by decide +kernel
theorem dX1_addBearer_34 : decode cX1_addBearer 34 = .ok (.aload_n 0, 1) := by decide +kernel
theorem dX1_addBearer_35 : decode cX1_addBearer 35 = .ok (.getfield 37, 3) := by decide +kernel
theorem dX1_addBearer_38 : decode cX1_addBearer 38 = .ok (.bipush 10, 2) := by decide +kernel
theorem dX1_addBearer_40 : decode cX1_addBearer 40 = .ok (.iload_n 1, 1) := by decide +kernel
theorem dX1_addBearer_41 : decode cX1_addBearer 41 = .ok (.imul, 1) := by decide +kernel
theorem dX1_addBearer_42 : decode cX1_addBearer 42 = .ok (.iastore, 1) := by decide +kernel
theorem dX1_addBearer_43 : decode cX1_addBearer 43 = .ok (.aload_n 0, 1) := by decide +kernel
theorem dX1_addBearer_44 : decode cX1_addBearer 44 = .ok (.getfield 24, 3) := by decide +kernel
theorem dX1_addBearer_47 : decode cX1_addBearer 47 = .ok (.aload_n 0, 1) := by decide +kernel
theorem dX1_addBearer_48 : decode cX1_addBearer 48 = .ok (.getfield 37, 3) := by decide +kernel
theorem dX1_addBearer_51 : decode cX1_addBearer 51 = .ok (.iload_n 2, 1) := by decide +kernel
theorem dX1_addBearer_52 : decode cX1_addBearer 52 = .ok (.iastore, 1) := by decide +kernel
theorem dX1_addBearer_53 : decode cX1_addBearer 53 = .ok (.aload_n 0, 1) := by decide +kernel
theorem dX1_addBearer_54 : decode cX1_addBearer 54 = .ok (.dup, 1) := by decide +kernel
theorem dX1_addBearer_55 : decode cX1_addBearer 55 = .ok (.getfield 37, 3) := by decide +kernel
theorem dX1_addBearer_58 : decode cX1_addBearer 58 = .ok (.iconst 1, 1) := by decide +kernel
theorem dX1_addBearer_59 : decode cX1_addBearer 59 = .ok (.iadd, 1) := by decide +kernel
theorem dX1_addBearer_60 : decode cX1_addBearer 60 = .ok (.putfield 37, 3) := by decide +kernel
theorem dX1_addBearer_63 : decode cX1_addBearer 63 = .ok (.iconst 1, 1) := by decide +kernel
theorem dX1_addBearer_64 : decode cX1_addBearer 64 = .ok (.ireturn, 1) := by decide +kernel
theorem dX1_addStretch_0 : decode cX1_addStretch 0 = .ok (.aload_n 0, 1) := by decide +kernel
theorem dX1_addStretch_1 : decode cX1_addStretch 1 = .ok (.getfield 30, 3) := by decide +kernel
theorem dX1_addStretch_4 : decode cX1_addStretch 4 = .ok (.bipush 6, 2) := by decide +kernel
theorem dX1_addStretch_6 : decode cX1_addStretch 6 = .ok (.if_icmp .ge 33, 3) := by decide +kernel
theorem dX1_addStretch_9 : decode cX1_addStretch 9 = .ok (.iload_n 1, 1) := by decide +kernel
theorem dX1_addStretch_10 : decode cX1_addStretch 10 = .ok (.iconst 1, 1) := by decide +kernel
theorem dX1_addStretch_11 : decode cX1_addStretch 11 = .ok (.bipush 30, 2) := by decide +kernel
theorem dX1_addStretch_13 : decode cX1_addStretch 13 = .ok (.invokestatic 46, 3) := by decide +kernel
theorem dX1_addStretch_16 : decode cX1_addStretch 16 = .ok (.ifCond .eq 23, 3) := by decide +kernel
theorem dX1_addStretch_19 : decode cX1_addStretch 19 = .ok (.aload_n 0, 1) := by decide +kernel
theorem dX1_addStretch_20 : decode cX1_addStretch 20 = .ok (.getfield 34, 3) := by decide +kernel
theorem dX1_addStretch_23 : decode cX1_addStretch 23 = .ok (.iload_n 1, 1) := by decide +kernel
theorem dX1_addStretch_24 : decode cX1_addStretch 24 = .ok (.iadd, 1) := by decide +kernel
theorem dX1_addStretch_25 : decode cX1_addStretch 25 = .ok (.bipush 120, 2) := by decide +kernel
theorem dX1_addStretch_27 : decode cX1_addStretch 27 = .ok (.if_icmp .gt 12, 3) := by decide +kernel
theorem dX1_addStretch_30 : decode cX1_addStretch 30 = .ok (.iload_n 2, 1) := by decide +kernel
theorem dX1_addStretch_31 : decode cX1_addStretch 31 = .ok (.iconst 0, 1) := by decide +kernel
theorem dX1_addStretch_32 : decode cX1_addStretch 32 = .ok (.iconst 5, 1) := by decide +kernel
theorem dX1_addStretch_33 : decode cX1_addStretch 33 = .ok (.invokestatic 46, 3) := by decide +kernel
theorem dX1_addStretch_36 : decode cX1_addStretch 36 = .ok (.ifCond .ne 5, 3) := by decide +kernel
theorem dX1_addStretch_39 : decode cX1_addStretch 39 = .ok (.iconst 0, 1) := by decide +kernel
theorem dX1_addStretch_40 : decode cX1_addStretch 40 = .ok (.ireturn, 1) := by decide +kernel
theorem dX1_addStretch_41 : decode cX1_addStretch 41 = .ok (.aload_n 0, 1) := by decide +kernel
theorem dX1_addStretch_42 : decode cX1_addStretch 42 = .ok (.getfield 9, 3) := by decide +kernel
theorem dX1_addStretch_45 : decode cX1_addStretch 45 = .ok (.aload_n 0, 1) := by decide +kernel
theorem dX1_addStretch_46 : decode cX1_addStretch 46 = .ok (.getfield 30, 3) := by decide +kernel
theorem dX1_addStretch_49 : decode cX1_addStretch 49 = .ok (.iload_n 1, 1) := by decide +kernel
theorem dX1_addStretch_50 : decode cX1_addStretch 50 = .ok (.iastore, 1) := by decide +kernel
theorem dX1_addStretch_51 : decode cX1_addStretch 51 = .ok (.aload_n 0, 1) := by decide +kernel
theorem dX1_addStretch_52 : decode cX1_addStretch 52 = .ok (.getfield 15, 3) := by decide +kernel
theorem dX1_addStretch_55 : decode cX1_addStretch 55 = .ok (.aload_n 0, 1) := by decide +kernel
theorem dX1_addStretch_56 : decode cX1_addStretch 56 = .ok (.getfield 30, 3) := by decide +kernel
theorem dX1_addStretch_59 : decode cX1_addStretch 59 = .ok (.iload_n 2, 1) := by decide +kernel
theorem dX1_addStretch_60 : decode cX1_addStretch 60 = .ok (.iastore, 1) := by decide +kernel
theorem dX1_addStretch_61 : decode cX1_addStretch 61 = .ok (.aload_n 0, 1) := by decide +kernel
theorem dX1_addStretch_62 : decode cX1_addStretch 62 = .ok (.getfield 18, 3) := by decide +kernel
theorem dX1_addStretch_65 : decode cX1_addStretch 65 = .ok (.aload_n 0, 1) := by decide +kernel
theorem dX1_addStretch_66 : decode cX1_addStretch 66 = .ok (.getfield 30, 3) := by decide +kernel
theorem dX1_addStretch_69 : decode cX1_addStretch 69 = .ok (.iconst 1, 1) := by decide +kernel
theorem dX1_addStretch_70 : decode cX1_addStretch 70 = .ok (.iastore, 1) := by decide +kernel
theorem dX1_addStretch_71 : decode cX1_addStretch 71 = .ok (.aload_n 0, 1) := by decide +kernel
theorem dX1_addStretch_72 : decode cX1_addStretch 72 = .ok (.dup, 1) := by decide +kernel
theorem dX1_addStretch_73 : decode cX1_addStretch 73 = .ok (.getfield 30, 3) := by decide +kernel
theorem dX1_addStretch_76 : decode cX1_addStretch 76 = .ok (.iconst 1, 1) := by decide +kernel
theorem dX1_addStretch_77 : decode cX1_addStretch 77 = .ok (.iadd, 1) := by decide +kernel
theorem dX1_addStretch_78 : decode cX1_addStretch 78 = .ok (.putfield 30, 3) := by decide +kernel
theorem dX1_addStretch_81 : decode cX1_addStretch 81 = .ok (.aload_n 0, 1) := by decide +kernel
theorem dX1_addStretch_82 : decode cX1_addStretch 82 = .ok (.dup, 1) := by decide +kernel
theorem dX1_addStretch_83 : decode cX1_addStretch 83 = .ok (.getfield 34, 3) := by decide +kernel
theorem dX1_addStretch_86 : decode cX1_addStretch 86 = .ok (.iload_n 1, 1) := by decide +kernel
theorem dX1_addStretch_87 : decode cX1_addStretch 87 = .ok (.iadd, 1) := by decide +kernel
theorem dX1_addStretch_88 : decode cX1_addStretch 88 = .ok (.putfield 34, 3) := by decide +kernel
theorem dX1_addStretch_91 : decode cX1_addStretch 91 = .ok (.iconst 1, 1) := by decide +kernel
theorem dX1_addStretch_92 : decode cX1_addStretch 92 = .ok (.ireturn, 1) := by decide +kernel
theorem dX1_clear_0 : decode cX1_clear 0 = .ok (.aload_n 0, 1) := by decide +kernel
theorem dX1_clear_1 : decode cX1_clear 1 = .ok (.iconst 0, 1) := by decide +kernel
theorem dX1_clear_2 : decode cX1_clear 2 = .ok (.putfield 30, 3) := by decide +kernel
theorem dX1_clear_5 : decode cX1_clear 5 = .ok (.aload_n 0, 1) := by decide +kernel
theorem dX1_clear_6 : decode cX1_clear 6 = .ok (.iconst 0, 1) := by decide +kernel
theorem dX1_clear_7 : decode cX1_clear 7 = .ok (.putfield 34, 3) := by decide +kernel
theorem dX1_clear_10 : decode cX1_clear 10 = .ok (.aload_n 0, 1) := by decide +kernel
theorem dX1_clear_11 : decode cX1_clear 11 = .ok (.iconst 0, 1) := by decide +kernel
theorem dX1_clear_12 : decode cX1_clear 12 = .ok (.putfield 37, 3) := by decide +kernel
theorem dX1_clear_15 : decode cX1_clear 15 = .ok (.aload_n 0, 1) := by decide +kernel
theorem dX1_clear_16 : decode cX1_clear 16 = .ok (.iconst 1, 1) := by decide +kernel
theorem dX1_clear_17 : decode cX1_clear 17 = .ok (.putfield 40, 3) := by decide +kernel
theorem dX1_clear_20 : decode cX1_clear 20 = .ok (.aload_n 0, 1) := by decide +kernel
theorem dX1_clear_21 : decode cX1_clear 21 = .ok (.iconst 0, 1) := by decide +kernel
theorem dX1_clear_22 : decode cX1_clear 22 = .ok (.putfield 43, 3) := by decide +kernel
theorem dX1_clear_25 : decode cX1_clear 25 = .ok (.return_, 1) := by decide +kernel
theorem dX1_copy_0 : decode cX1_copy 0 = .ok (.aload_n 0, 1) := by decide +kernel
theorem dX1_copy_1 : decode cX1_copy 1 = .ok (.aload_n 1, 1) := by decide +kernel
theorem dX1_copy_2 : decode cX1_copy 2 = .ok (.getfield 30, 3) := by decide +kernel
theorem dX1_copy_5 : decode cX1_copy 5 = .ok (.putfield 30, 3) := by decide +kernel
theorem dX1_copy_8 : decode cX1_copy 8 = .ok (.aload_n 0, 1) := by decide +kernel
theorem dX1_copy_9 : decode cX1_copy 9 = .ok (.aload_n 1, 1) := by decide +kernel
theorem dX1_copy_10 : decode cX1_copy 10 = .ok (.getfield 34, 3) := by decide +kernel
theorem dX1_copy_13 : decode cX1_copy 13 = .ok (.putfield 34, 3) := by decide +kernel
theorem dX1_copy_16 : decode cX1_copy 16 = .ok (.aload_n 0, 1) := by decide +kernel
theorem dX1_copy_17 : decode cX1_copy 17 = .ok (.aload_n 1, 1) := by decide +kernel
theorem dX1_copy_18 : decode cX1_copy 18 = .ok (.getfield 37, 3) := by decide +kernel
theorem dX1_copy_21 : decode cX1_copy 21 = .ok (.putfield 37, 3) := by decide +kernel
theorem dX1_copy_24 : decode cX1_copy 24 = .ok (.aload_n 0, 1) := by decide +kernel
theorem dX1_copy_25 : decode cX1_copy 25 = .ok (.aload_n 1, 1) := by decide +kernel
theorem dX1_copy_26 : decode cX1_copy 26 = .ok (.getfield 40, 3) := by decide +kernel
theorem dX1_copy_29 : decode cX1_copy 29 = .ok (.putfield 40, 3) := by decide +kernel
theorem dX1_copy_32 : decode cX1_copy 32 = .ok (.aload_n 0, 1) := by decide +kernel
theorem dX1_copy_33 : decode cX1_copy 33 = .ok (.aload_n 1, 1) := by decide +kernel
theorem dX1_copy_34 : decode cX1_copy 34 = .ok (.getfield 43, 3) := by decide +kernel
theorem dX1_copy_37 : decode cX1_copy 37 = .ok (.putfield 43, 3) := by decide +kernel
theorem dX1_copy_40 : decode cX1_copy 40 = .ok (.aload_n 1, 1) := by decide +kernel
theorem dX1_copy_41 : decode cX1_copy 41 = .ok (.getfield 9, 3) := by decide +kernel
theorem dX1_copy_44 : decode cX1_copy 44 = .ok (.iconst 0, 1) := by decide +kernel
theorem dX1_copy_45 : decode cX1_copy 45 = .ok (.aload_n 0, 1) := by decide +kernel
theorem dX1_copy_46 : decode cX1_copy 46 = .ok (.getfield 9, 3) := by decide +kernel
theorem dX1_copy_49 : decode cX1_copy 49 = .ok (.iconst 0, 1) := by decide +kernel
theorem dX1_copy_50 : decode cX1_copy 50 = .ok (.bipush 6, 2) := by decide +kernel
theorem dX1_copy_52 : decode cX1_copy 52 = .ok (.invokestatic 54, 3) := by decide +kernel
theorem dX1_copy_55 : decode cX1_copy 55 = .ok (.aload_n 1, 1) := by decide +kernel
theorem dX1_copy_56 : decode cX1_copy 56 = .ok (.getfield 15, 3) := by decide +kernel
theorem dX1_copy_59 : decode cX1_copy 59 = .ok (.iconst 0, 1) := by decide +kernel
theorem dX1_copy_60 : decode cX1_copy 60 = .ok (.aload_n 0, 1) := by decide +kernel
theorem dX1_copy_61 : decode cX1_copy 61 = .ok (.getfield 15, 3) := by decide +kernel
theorem dX1_copy_64 : decode cX1_copy 64 = .ok (.iconst 0, 1) := by decide +kernel
theorem dX1_copy_65 : decode cX1_copy 65 = .ok (.bipush 6, 2) := by decide +kernel
theorem dX1_copy_67 : decode cX1_copy 67 = .ok (.invokestatic 54, 3) := by decide +kernel
theorem dX1_copy_70 : decode cX1_copy 70 = .ok (.aload_n 1, 1) := by decide +kernel
theorem dX1_copy_71 : decode cX1_copy 71 = .ok (.getfield 18, 3) := by decide +kernel
theorem dX1_copy_74 : decode cX1_copy 74 = .ok (.iconst 0, 1) := by decide +kernel
theorem dX1_copy_75 : decode cX1_copy 75 = .ok (.aload_n 0, 1) := by decide +kernel
theorem dX1_copy_76 : decode cX1_copy 76 = .ok (.getfield 18, 3) := by decide +kernel
theorem dX1_copy_79 : decode cX1_copy 79 = .ok (.iconst 0, 1) := by decide +kernel
theorem dX1_copy_80 : decode cX1_copy 80 = .ok (.bipush 6, 2) := by decide +kernel
theorem dX1_copy_82 : decode cX1_copy 82 = .ok (.invokestatic 54, 3) := by decide +kernel
theorem dX1_copy_85 : decode cX1_copy 85 = .ok (.aload_n 1, 1) := by decide +kernel
theorem dX1_copy_86 : decode cX1_copy 86 = .ok (.getfield 21, 3) := by decide +kernel
theorem dX1_copy_89 : decode cX1_copy 89 = .ok (.iconst 0, 1) := by decide +kernel
theorem dX1_copy_90 : decode cX1_copy 90 = .ok (.aload_n 0, 1) := by decide +kernel
theorem dX1_copy_91 : decode cX1_copy 91 = .ok (.getfield 21, 3) := by decide +kernel
theorem dX1_copy_94 : decode cX1_copy 94 = .ok (.iconst 0, 1) := by decide +kernel
theorem dX1_copy_95 : decode cX1_copy 95 = .ok (.bipush 6, 2) := by decide +kernel
theorem dX1_copy_97 : decode cX1_copy 97 = .ok (.invokestatic 54, 3) := by decide +kernel
theorem dX1_copy_100 : decode cX1_copy 100 = .ok (.aload_n 1, 1) := by decide +kernel
theorem dX1_copy_101 : decode cX1_copy 101 = .ok (.getfield 24, 3) := by decide +kernel
theorem dX1_copy_104 : decode cX1_copy 104 = .ok (.iconst 0, 1) := by decide +kernel
theorem dX1_copy_105 : decode cX1_copy 105 = .ok (.aload_n 0, 1) := by decide +kernel
theorem dX1_copy_106 : decode cX1_copy 106 = .ok (.getfield 24, 3) := by decide +kernel
theorem dX1_copy_109 : decode cX1_copy 109 = .ok (.iconst 0, 1) := by decide +kernel
theorem dX1_copy_110 : decode cX1_copy 110 = .ok (.bipush 6, 2) := by decide +kernel
theorem dX1_copy_112 : decode cX1_copy 112 = .ok (.invokestatic 54, 3) := by decide +kernel
theorem dX1_copy_115 : decode cX1_copy 115 = .ok (.aload_n 0, 1) := by decide +kernel
theorem dX1_copy_116 : decode cX1_copy 116 = .ok (.invokevirtual 60, 3) := by decide +kernel
theorem dX1_copy_119 : decode cX1_copy 119 = .ok (.return_, 1) := by decide +kernel
theorem dX1_hasBearer_0 : decode cX1_hasBearer 0 = .ok (.iload_n 1, 1) := by decide +kernel
theorem dX1_hasBearer_1 : decode cX1_hasBearer 1 = .ok (.ifCond .lt 15, 3) := by decide +kernel
theorem dX1_hasBearer_4 : decode cX1_hasBearer 4 = .ok (.iload_n 1, 1) := by decide +kernel
theorem dX1_hasBearer_5 : decode cX1_hasBearer 5 = .ok (.aload_n 0, 1) := by decide +kernel
theorem dX1_hasBearer_6 : decode cX1_hasBearer 6 = .ok (.getfield 37, 3) := by decide +kernel
theorem dX1_hasBearer_9 : decode cX1_hasBearer 9 = .ok (.if_icmp .ge 7, 3) := by decide +kernel
theorem dX1_hasBearer_12 : decode cX1_hasBearer 12 = .ok (.iconst 1, 1) := by decide +kernel
theorem dX1_hasBearer_13 : decode cX1_hasBearer 13 = .ok (.goto 4, 3) := by decide +kernel
theorem dX1_hasBearer_16 : decode cX1_hasBearer 16 = .ok (.iconst 0, 1) := by decide +kernel
theorem dX1_hasBearer_17 : decode cX1_hasBearer 17 = .ok (.ireturn, 1) := by decide +kernel
theorem dX1_hasStretch_0 : decode cX1_hasStretch 0 = .ok (.iload_n 1, 1) := by decide +kernel
theorem dX1_hasStretch_1 : decode cX1_hasStretch 1 = .ok (.ifCond .lt 15, 3) := by decide +kernel
theorem dX1_hasStretch_4 : decode cX1_hasStretch 4 = .ok (.iload_n 1, 1) := by decide +kernel
theorem dX1_hasStretch_5 : decode cX1_hasStretch 5 = .ok (.aload_n 0, 1) := by decide +kernel
theorem dX1_hasStretch_6 : decode cX1_hasStretch 6 = .ok (.getfield 30, 3) := by decide +kernel
theorem dX1_hasStretch_9 : decode cX1_hasStretch 9 = .ok (.if_icmp .ge 7, 3) := by decide +kernel
theorem dX1_hasStretch_12 : decode cX1_hasStretch 12 = .ok (.iconst 1, 1) := by decide +kernel
theorem dX1_hasStretch_13 : decode cX1_hasStretch 13 = .ok (.goto 4, 3) := by decide +kernel
theorem dX1_hasStretch_16 : decode cX1_hasStretch 16 = .ok (.iconst 0, 1) := by decide +kernel
theorem dX1_hasStretch_17 : decode cX1_hasStretch 17 = .ok (.ireturn, 1) := by decide +kernel
theorem dX1_hasYard_0 : decode cX1_hasYard 0 = .ok (.iload_n 1, 1) := by decide +kernel
theorem dX1_hasYard_1 : decode cX1_hasYard 1 = .ok (.ifCond .lt 15, 3) := by decide +kernel
theorem dX1_hasYard_4 : decode cX1_hasYard 4 = .ok (.iload_n 1, 1) := by decide +kernel
theorem dX1_hasYard_5 : decode cX1_hasYard 5 = .ok (.aload_n 0, 1) := by decide +kernel
theorem dX1_hasYard_6 : decode cX1_hasYard 6 = .ok (.getfield 34, 3) := by decide +kernel
theorem dX1_hasYard_9 : decode cX1_hasYard 9 = .ok (.if_icmp .ge 7, 3) := by decide +kernel
theorem dX1_hasYard_12 : decode cX1_hasYard 12 = .ok (.iconst 1, 1) := by decide +kernel
theorem dX1_hasYard_13 : decode cX1_hasYard 13 = .ok (.goto 4, 3) := by decide +kernel
theorem dX1_hasYard_16 : decode cX1_hasYard 16 = .ok (.iconst 0, 1) := by decide +kernel
theorem dX1_hasYard_17 : decode cX1_hasYard 17 = .ok (.ireturn, 1) := by decide +kernel
theorem dX1_init_0 : decode cX1_init 0 = .ok (.aload_n 0, 1) := by decide +kernel
theorem dX1_init_1 : decode cX1_init 1 = .ok (.invokespecial 3, 3) := by decide +kernel
theorem dX1_init_4 : decode cX1_init 4 = .ok (.aload_n 0, 1) := by decide +kernel
theorem dX1_init_5 : decode cX1_init 5 = .ok (.bipush 6, 2) := by decide +kernel
theorem dX1_init_7 : decode cX1_init 7 = .ok (.newarray .int, 2) := by decide +kernel
theorem dX1_init_9 : decode cX1_init 9 = .ok (.putfield 9, 3) := by decide +kernel
theorem dX1_init_12 : decode cX1_init 12 = .ok (.aload_n 0, 1) := by decide +kernel
theorem dX1_init_13 : decode cX1_init 13 = .ok (.bipush 6, 2) := by decide +kernel
theorem dX1_init_15 : decode cX1_init 15 = .ok (.newarray .int, 2) := by decide +kernel
theorem dX1_init_17 : decode cX1_init 17 = .ok (.putfield 15, 3) := by decide +kernel
theorem dX1_init_20 : decode cX1_init 20 = .ok (.aload_n 0, 1) := by decide +kernel
theorem dX1_init_21 : decode cX1_init 21 = .ok (.bipush 6, 2) := by decide +kernel
theorem dX1_init_23 : decode cX1_init 23 = .ok (.newarray .int, 2) := by decide +kernel
theorem dX1_init_25 : decode cX1_init 25 = .ok (.putfield 18, 3) := by decide +kernel
theorem dX1_init_28 : decode cX1_init 28 = .ok (.aload_n 0, 1) := by decide +kernel
theorem dX1_init_29 : decode cX1_init 29 = .ok (.bipush 6, 2) := by decide +kernel
theorem dX1_init_31 : decode cX1_init 31 = .ok (.newarray .int, 2) := by decide +kernel
theorem dX1_init_33 : decode cX1_init 33 = .ok (.putfield 21, 3) := by decide +kernel
theorem dX1_init_36 : decode cX1_init 36 = .ok (.aload_n 0, 1) := by decide +kernel
theorem dX1_init_37 : decode cX1_init 37 = .ok (.bipush 6, 2) := by decide +kernel
theorem dX1_init_39 : decode cX1_init 39 = .ok (.newarray .int, 2) := by decide +kernel
theorem dX1_init_41 : decode cX1_init 41 = .ok (.putfield 24, 3) := by decide +kernel
theorem dX1_init_44 : decode cX1_init 44 = .ok (.aload_n 0, 1) := by decide +kernel
theorem dX1_init_45 : decode cX1_init 45 = .ok (.bipush 120, 2) := by decide +kernel
theorem dX1_init_47 : decode cX1_init 47 = .ok (.newarray .int, 2) := by decide +kernel
theorem dX1_init_49 : decode cX1_init 49 = .ok (.putfield 27, 3) := by decide +kernel
theorem dX1_init_52 : decode cX1_init 52 = .ok (.return_, 1) := by decide +kernel
theorem dX1_markYards_0 : decode cX1_markYards 0 = .ok (.iconst 0, 1) := by decide +kernel
theorem dX1_markYards_1 : decode cX1_markYards 1 = .ok (.istore_n 1, 1) := by decide +kernel
theorem dX1_markYards_2 : decode cX1_markYards 2 = .ok (.iconst 0, 1) := by decide +kernel
theorem dX1_markYards_3 : decode cX1_markYards 3 = .ok (.istore_n 2, 1) := by decide +kernel
theorem dX1_markYards_4 : decode cX1_markYards 4 = .ok (.iload_n 2, 1) := by decide +kernel
theorem dX1_markYards_5 : decode cX1_markYards 5 = .ok (.aload_n 0, 1) := by decide +kernel
theorem dX1_markYards_6 : decode cX1_markYards 6 = .ok (.getfield 30, 3) := by decide +kernel
theorem dX1_markYards_9 : decode cX1_markYards 9 = .ok (.if_icmp .ge 43, 3) := by decide +kernel
theorem dX1_markYards_12 : decode cX1_markYards 12 = .ok (.iconst 0, 1) := by decide +kernel
theorem dX1_markYards_13 : decode cX1_markYards 13 = .ok (.istore_n 3, 1) := by decide +kernel
theorem dX1_markYards_14 : decode cX1_markYards 14 = .ok (.iload_n 3, 1) := by decide +kernel
theorem dX1_markYards_15 : decode cX1_markYards 15 = .ok (.aload_n 0, 1) := by decide +kernel
theorem dX1_markYards_16 : decode cX1_markYards 16 = .ok (.getfield 9, 3) := by decide +kernel
theorem dX1_markYards_19 : decode cX1_markYards 19 = .ok (.iload_n 2, 1) := by decide +kernel
theorem dX1_markYards_20 : decode cX1_markYards 20 = .ok (.iaload, 1) := by decide +kernel
theorem dX1_markYards_21 : decode cX1_markYards 21 = .ok (.if_icmp .ge 25, 3) := by decide +kernel
theorem dX1_markYards_24 : decode cX1_markYards 24 = .ok (.iload_n 1, 1) := by decide +kernel
theorem dX1_markYards_25 : decode cX1_markYards 25 = .ok (.bipush 120, 2) := by decide +kernel
theorem dX1_markYards_27 : decode cX1_markYards 27 = .ok (.if_icmp .ge 19, 3) := by decide +kernel
theorem dX1_markYards_30 : decode cX1_markYards 30 = .ok (.aload_n 0, 1) := by decide +kernel
theorem dX1_markYards_31 : decode cX1_markYards 31 = .ok (.getfield 27, 3) := by decide +kernel
theorem dX1_markYards_34 : decode cX1_markYards 34 = .ok (.iload_n 1, 1) := by decide +kernel
theorem dX1_markYards_35 : decode cX1_markYards 35 = .ok (.iload_n 2, 1) := by decide +kernel
theorem dX1_markYards_36 : decode cX1_markYards 36 = .ok (.iastore, 1) := by decide +kernel
theorem dX1_markYards_37 : decode cX1_markYards 37 = .ok (.iinc 1 1, 3) := by decide +kernel
theorem dX1_markYards_40 : decode cX1_markYards 40 = .ok (.iinc 3 1, 3) := by decide +kernel
theorem dX1_markYards_43 : decode cX1_markYards 43 = .ok (.goto (-29), 3) := by decide +kernel
theorem dX1_markYards_46 : decode cX1_markYards 46 = .ok (.iinc 2 1, 3) := by decide +kernel
theorem dX1_markYards_49 : decode cX1_markYards 49 = .ok (.goto (-45), 3) := by decide +kernel
theorem dX1_markYards_52 : decode cX1_markYards 52 = .ok (.return_, 1) := by decide +kernel
theorem dX1_moveBorder_0 : decode cX1_moveBorder 0 = .ok (.iload_n 1, 1) := by decide +kernel
theorem dX1_moveBorder_1 : decode cX1_moveBorder 1 = .ok (.ifCond .lt 39, 3) := by decide +kernel
theorem dX1_moveBorder_4 : decode cX1_moveBorder 4 = .ok (.iload_n 1, 1) := by decide +kernel
theorem dX1_moveBorder_5 : decode cX1_moveBorder 5 = .ok (.iconst 1, 1) := by decide +kernel
theorem dX1_moveBorder_6 : decode cX1_moveBorder 6 = .ok (.iadd, 1) := by decide +kernel
theorem dX1_moveBorder_7 : decode cX1_moveBorder 7 = .ok (.aload_n 0, 1) := by decide +kernel
theorem dX1_moveBorder_8 : decode cX1_moveBorder 8 = .ok (.getfield 30, 3) := by decide +kernel
theorem dX1_moveBorder_11 : decode cX1_moveBorder 11 = .ok (.if_icmp .ge 29, 3) := by decide +kernel
theorem dX1_moveBorder_14 : decode cX1_moveBorder 14 = .ok (.aload_n 0, 1) := by decide +kernel
theorem dX1_moveBorder_15 : decode cX1_moveBorder 15 = .ok (.getfield 9, 3) := by decide +kernel
theorem dX1_moveBorder_18 : decode cX1_moveBorder 18 = .ok (.iload_n 1, 1) := by decide +kernel
theorem dX1_moveBorder_19 : decode cX1_moveBorder 19 = .ok (.iaload, 1) := by decide +kernel
theorem dX1_moveBorder_20 : decode cX1_moveBorder 20 = .ok (.iload_n 2, 1) := by decide +kernel
theorem dX1_moveBorder_21 : decode cX1_moveBorder 21 = .ok (.iadd, 1) := by decide +kernel
theorem dX1_moveBorder_22 : decode cX1_moveBorder 22 = .ok (.iconst 1, 1) := by decide +kernel
theorem dX1_moveBorder_23 : decode cX1_moveBorder 23 = .ok (.if_icmp .lt 17, 3) := by decide +kernel
theorem dX1_moveBorder_26 : decode cX1_moveBorder 26 = .ok (.aload_n 0, 1) := by decide +kernel
theorem dX1_moveBorder_27 : decode cX1_moveBorder 27 = .ok (.getfield 9, 3) := by decide +kernel
theorem dX1_moveBorder_30 : decode cX1_moveBorder 30 = .ok (.iload_n 1, 1) := by decide +kernel
theorem dX1_moveBorder_31 : decode cX1_moveBorder 31 = .ok (.iconst 1, 1) := by decide +kernel
theorem dX1_moveBorder_32 : decode cX1_moveBorder 32 = .ok (.iadd, 1) := by decide +kernel
theorem dX1_moveBorder_33 : decode cX1_moveBorder 33 = .ok (.iaload, 1) := by decide +kernel
theorem dX1_moveBorder_34 : decode cX1_moveBorder 34 = .ok (.iload_n 2, 1) := by decide +kernel
theorem dX1_moveBorder_35 : decode cX1_moveBorder 35 = .ok (.isub, 1) := by decide +kernel
theorem dX1_moveBorder_36 : decode cX1_moveBorder 36 = .ok (.iconst 1, 1) := by decide +kernel
theorem dX1_moveBorder_37 : decode cX1_moveBorder 37 = .ok (.if_icmp .ge 5, 3) := by decide +kernel
theorem dX1_moveBorder_40 : decode cX1_moveBorder 40 = .ok (.iconst 0, 1) := by decide +kernel
theorem dX1_moveBorder_41 : decode cX1_moveBorder 41 = .ok (.ireturn, 1) := by decide +kernel
theorem dX1_moveBorder_42 : decode cX1_moveBorder 42 = .ok (.aload_n 0, 1) := by decide +kernel
theorem dX1_moveBorder_43 : decode cX1_moveBorder 43 = .ok (.getfield 9, 3) := by decide +kernel
theorem dX1_moveBorder_46 : decode cX1_moveBorder 46 = .ok (.iload_n 1, 1) := by decide +kernel
theorem dX1_moveBorder_47 : decode cX1_moveBorder 47 = .ok (.dup2, 1) := by decide +kernel
theorem dX1_moveBorder_48 : decode cX1_moveBorder 48 = .ok (.iaload, 1) := by decide +kernel
theorem dX1_moveBorder_49 : decode cX1_moveBorder 49 = .ok (.iload_n 2, 1) := by decide +kernel
theorem dX1_moveBorder_50 : decode cX1_moveBorder 50 = .ok (.iadd, 1) := by decide +kernel
theorem dX1_moveBorder_51 : decode cX1_moveBorder 51 = .ok (.iastore, 1) := by decide +kernel
theorem dX1_moveBorder_52 : decode cX1_moveBorder 52 = .ok (.aload_n 0, 1) := by decide +kernel
theorem dX1_moveBorder_53 : decode cX1_moveBorder 53 = .ok (.getfield 9, 3) := by decide +kernel
theorem dX1_moveBorder_56 : decode cX1_moveBorder 56 = .ok (.iload_n 1, 1) := by decide +kernel
theorem dX1_moveBorder_57 : decode cX1_moveBorder 57 = .ok (.iconst 1, 1) := by decide +kernel
theorem dX1_moveBorder_58 : decode cX1_moveBorder 58 = .ok (.iadd, 1) := by decide +kernel
theorem dX1_moveBorder_59 : decode cX1_moveBorder 59 = .ok (.dup2, 1) := by decide +kernel
theorem dX1_moveBorder_60 : decode cX1_moveBorder 60 = .ok (.iaload, 1) := by decide +kernel
theorem dX1_moveBorder_61 : decode cX1_moveBorder 61 = .ok (.iload_n 2, 1) := by decide +kernel
theorem dX1_moveBorder_62 : decode cX1_moveBorder 62 = .ok (.isub, 1) := by decide +kernel
theorem dX1_moveBorder_63 : decode cX1_moveBorder 63 = .ok (.iastore, 1) := by decide +kernel
theorem dX1_moveBorder_64 : decode cX1_moveBorder 64 = .ok (.aload_n 0, 1) := by decide +kernel
theorem dX1_moveBorder_65 : decode cX1_moveBorder 65 = .ok (.invokevirtual 60, 3) := by decide +kernel
theorem dX1_moveBorder_68 : decode cX1_moveBorder 68 = .ok (.iconst 1, 1) := by decide +kernel
theorem dX1_moveBorder_69 : decode cX1_moveBorder 69 = .ok (.ireturn, 1) := by decide +kernel
theorem dX1_priceAt_0 : decode cX1_priceAt 0 = .ok (.aload_n 0, 1) := by decide +kernel
theorem dX1_priceAt_1 : decode cX1_priceAt 1 = .ok (.getfield 18, 3) := by decide +kernel
theorem dX1_priceAt_4 : decode cX1_priceAt 4 = .ok (.aload_n 0, 1) := by decide +kernel
theorem dX1_priceAt_5 : decode cX1_priceAt 5 = .ok (.getfield 27, 3) := by decide +kernel
theorem dX1_priceAt_8 : decode cX1_priceAt 8 = .ok (.iload_n 1, 1) := by decide +kernel
theorem dX1_priceAt_9 : decode cX1_priceAt 9 = .ok (.iaload, 1) := by decide +kernel
theorem dX1_priceAt_10 : decode cX1_priceAt 10 = .ok (.iaload, 1) := by decide +kernel
theorem dX1_priceAt_11 : decode cX1_priceAt 11 = .ok (.ireturn, 1) := by decide +kernel
theorem dX1_setMust_0 : decode cX1_setMust 0 = .ok (.iload_n 1, 1) := by decide +kernel
theorem dX1_setMust_1 : decode cX1_setMust 1 = .ok (.iconst 1, 1) := by decide +kernel
theorem dX1_setMust_2 : decode cX1_setMust 2 = .ok (.iconst 3, 1) := by decide +kernel
theorem dX1_setMust_3 : decode cX1_setMust 3 = .ok (.invokestatic 46, 3) := by decide +kernel
theorem dX1_setMust_6 : decode cX1_setMust 6 = .ok (.ifCond .ne 5, 3) := by decide +kernel
theorem dX1_setMust_9 : decode cX1_setMust 9 = .ok (.iconst 0, 1) := by decide +kernel
theorem dX1_setMust_10 : decode cX1_setMust 10 = .ok (.ireturn, 1) := by decide +kernel
theorem dX1_setMust_11 : decode cX1_setMust 11 = .ok (.aload_n 0, 1) := by decide +kernel
theorem dX1_setMust_12 : decode cX1_setMust 12 = .ok (.iload_n 1, 1) := by decide +kernel
theorem dX1_setMust_13 : decode cX1_setMust 13 = .ok (.putfield 40, 3) := by decide +kernel
theorem dX1_setMust_16 : decode cX1_setMust 16 = .ok (.iconst 1, 1) := by decide +kernel
theorem dX1_setMust_17 : decode cX1_setMust 17 = .ok (.ireturn, 1) := by decide +kernel
theorem dX1_setPrice_0 : decode cX1_setPrice 0 = .ok (.aload_n 0, 1) := by decide +kernel
theorem dX1_setPrice_1 : decode cX1_setPrice 1 = .ok (.iload_n 1, 1) := by decide +kernel
theorem dX1_setPrice_2 : decode cX1_setPrice 2 = .ok (.invokevirtual 50, 3) := by decide +kernel
theorem dX1_setPrice_5 : decode cX1_setPrice 5 = .ok (.ifCond .eq 13, 3) := by decide +kernel
theorem dX1_setPrice_8 : decode cX1_setPrice 8 = .ok (.iload_n 2, 1) := by decide +kernel
theorem dX1_setPrice_9 : decode cX1_setPrice 9 = .ok (.iconst 1, 1) := by decide +kernel
theorem dX1_setPrice_10 : decode cX1_setPrice 10 = .ok (.bipush 9, 2) := by decide +kernel
theorem dX1_setPrice_12 : decode cX1_setPrice 12 = .ok (.invokestatic 46, 3) := by decide +kernel
theorem dX1_setPrice_15 : decode cX1_setPrice 15 = .ok (.ifCond .ne 5, 3) := by decide +kernel
theorem dX1_setPrice_18 : decode cX1_setPrice 18 = .ok (.iconst 0, 1) := by decide +kernel
theorem dX1_setPrice_19 : decode cX1_setPrice 19 = .ok (.ireturn, 1) := by decide +kernel
theorem dX1_setPrice_20 : decode cX1_setPrice 20 = .ok (.aload_n 0, 1) := by decide +kernel
theorem dX1_setPrice_21 : decode cX1_setPrice 21 = .ok (.getfield 18, 3) := by decide +kernel
theorem dX1_setPrice_24 : decode cX1_setPrice 24 = .ok (.iload_n 1, 1) := by decide +kernel
theorem dX1_setPrice_25 : decode cX1_setPrice 25 = .ok (.iload_n 2, 1) := by decide +kernel
theorem dX1_setPrice_26 : decode cX1_setPrice 26 = .ok (.iastore, 1) := by decide +kernel
theorem dX1_setPrice_27 : decode cX1_setPrice 27 = .ok (.iconst 1, 1) := by decide +kernel
theorem dX1_setPrice_28 : decode cX1_setPrice 28 = .ok (.ireturn, 1) := by decide +kernel
theorem dX1_setWet_0 : decode cX1_setWet 0 = .ok (.iload_n 1, 1) := by decide +kernel
theorem dX1_setWet_1 : decode cX1_setWet 1 = .ok (.iconst 0, 1) := by decide +kernel
theorem dX1_setWet_2 : decode cX1_setWet 2 = .ok (.iconst 3, 1) := by decide +kernel
theorem dX1_setWet_3 : decode cX1_setWet 3 = .ok (.invokestatic 46, 3) := by decide +kernel
theorem dX1_setWet_6 : decode cX1_setWet 6 = .ok (.ifCond .ne 5, 3) := by decide +kernel
theorem dX1_setWet_9 : decode cX1_setWet 9 = .ok (.iconst 0, 1) := by decide +kernel
theorem dX1_setWet_10 : decode cX1_setWet 10 = .ok (.ireturn, 1) := by decide +kernel
theorem dX1_setWet_11 : decode cX1_setWet 11 = .ok (.aload_n 0, 1) := by decide +kernel
theorem dX1_setWet_12 : decode cX1_setWet 12 = .ok (.iload_n 1, 1) := by decide +kernel
theorem dX1_setWet_13 : decode cX1_setWet 13 = .ok (.putfield 43, 3) := by decide +kernel
theorem dX1_setWet_16 : decode cX1_setWet 16 = .ok (.iconst 1, 1) := by decide +kernel
theorem dX1_setWet_17 : decode cX1_setWet 17 = .ok (.ireturn, 1) := by decide +kernel
theorem dX1_slopeAt_0 : decode cX1_slopeAt 0 = .ok (.aload_n 0, 1) := by decide +kernel
theorem dX1_slopeAt_1 : decode cX1_slopeAt 1 = .ok (.getfield 15, 3) := by decide +kernel
theorem dX1_slopeAt_4 : decode cX1_slopeAt 4 = .ok (.aload_n 0, 1) := by decide +kernel
theorem dX1_slopeAt_5 : decode cX1_slopeAt 5 = .ok (.getfield 27, 3) := by decide +kernel
theorem dX1_slopeAt_8 : decode cX1_slopeAt 8 = .ok (.iload_n 1, 1) := by decide +kernel
theorem dX1_slopeAt_9 : decode cX1_slopeAt 9 = .ok (.iaload, 1) := by decide +kernel
theorem dX1_slopeAt_10 : decode cX1_slopeAt 10 = .ok (.iaload, 1) := by decide +kernel
theorem dX1_slopeAt_11 : decode cX1_slopeAt 11 = .ok (.ireturn, 1) := by decide +kernel
theorem dX1_twins_0 : decode cX1_twins 0 = .ok (.iconst 0, 1) := by decide +kernel
theorem dX1_twins_1 : decode cX1_twins 1 = .ok (.istore_n 1, 1) := by decide +kernel
theorem dX1_twins_2 : decode cX1_twins 2 = .ok (.iconst 0, 1) := by decide +kernel
theorem dX1_twins_3 : decode cX1_twins 3 = .ok (.istore_n 2, 1) := by decide +kernel
theorem dX1_twins_4 : decode cX1_twins 4 = .ok (.iload_n 2, 1) := by decide +kernel
theorem dX1_twins_5 : decode cX1_twins 5 = .ok (.aload_n 0, 1) := by decide +kernel
theorem dX1_twins_6 : decode cX1_twins 6 = .ok (.getfield 37, 3) := by decide +kernel
theorem dX1_twins_9 : decode cX1_twins 9 = .ok (.if_icmp .ge 25, 3) := by decide +kernel
theorem dX1_twins_12 : decode cX1_twins 12 = .ok (.aload_n 0, 1) := by decide +kernel
theorem dX1_twins_13 : decode cX1_twins 13 = .ok (.getfield 24, 3) := by decide +kernel
theorem dX1_twins_16 : decode cX1_twins 16 = .ok (.iload_n 2, 1) := by decide +kernel
theorem dX1_twins_17 : decode cX1_twins 17 = .ok (.iaload, 1) := by decide +kernel
theorem dX1_twins_18 : decode cX1_twins 18 = .ok (.iconst 3, 1) := by decide +kernel
theorem dX1_twins_19 : decode cX1_twins 19 = .ok (.if_icmp .ne 9, 3) := by decide +kernel
theorem dX1_twins_22 : decode cX1_twins 22 = .ok (.iload_n 1, 1) := by decide +kernel
theorem dX1_twins_23 : decode cX1_twins 23 = .ok (.iconst 1, 1) := by decide +kernel
theorem dX1_twins_24 : decode cX1_twins 24 = .ok (.iload_n 2, 1) := by decide +kernel
theorem dX1_twins_25 : decode cX1_twins 25 = .ok (.ishl, 1) := by decide +kernel
theorem dX1_twins_26 : decode cX1_twins 26 = .ok (.ior, 1) := by decide +kernel
theorem dX1_twins_27 : decode cX1_twins 27 = .ok (.istore_n 1, 1) := by decide +kernel
theorem dX1_twins_28 : decode cX1_twins 28 = .ok (.iinc 2 1, 3) := by decide +kernel
theorem dX1_twins_31 : decode cX1_twins 31 = .ok (.goto (-27), 3) := by decide +kernel
theorem dX1_twins_34 : decode cX1_twins 34 = .ok (.iload_n 1, 1) := by decide +kernel
theorem dX1_twins_35 : decode cX1_twins 35 = .ok (.ireturn, 1) := by decide +kernel
theorem dX2_goAlone_0 : decode cX2_goAlone 0 = .ok (.aload_n 0, 1) := by decide +kernel
theorem dX2_goAlone_1 : decode cX2_goAlone 1 = .ok (.getfield 18, 3) := by decide +kernel
theorem dX2_goAlone_4 : decode cX2_goAlone 4 = .ok (.getfield 62, 3) := by decide +kernel
theorem dX2_goAlone_7 : decode cX2_goAlone 7 = .ok (.iload_n 1, 1) := by decide +kernel
theorem dX2_goAlone_8 : decode cX2_goAlone 8 = .ok (.iaload, 1) := by decide +kernel
theorem dX2_goAlone_9 : decode cX2_goAlone 9 = .ok (.iload_n 1, 1) := by decide +kernel
theorem dX2_goAlone_10 : decode cX2_goAlone 10 = .ok (.aload_n 0, 1) := by decide +kernel
theorem dX2_goAlone_11 : decode cX2_goAlone 11 = .ok (.getfield 22, 3) := by decide +kernel
theorem dX2_goAlone_14 : decode cX2_goAlone 14 = .ok (.if_icmp .ne 10, 3) := by decide +kernel
theorem dX2_goAlone_17 : decode cX2_goAlone 17 = .ok (.aload_n 0, 1) := by decide +kernel
theorem dX2_goAlone_18 : decode cX2_goAlone 18 = .ok (.getfield 26, 3) := by decide +kernel
theorem dX2_goAlone_21 : decode cX2_goAlone 21 = .ok (.goto 4, 3) := by decide +kernel
theorem dX2_goAlone_24 : decode cX2_goAlone 24 = .ok (.iconst 0, 1) := by decide +kernel
theorem dX2_goAlone_25 : decode cX2_goAlone 25 = .ok (.iadd, 1) := by decide +kernel
theorem dX2_goAlone_26 : decode cX2_goAlone 26 = .ok (.istore_n 3, 1) := by decide +kernel
theorem dX2_goAlone_27 : decode cX2_goAlone 27 = .ok (.iload_n 2, 1) := by decide +kernel
theorem dX2_goAlone_28 : decode cX2_goAlone 28 = .ok (.istore 4, 2) := by decide +kernel
theorem dX2_goAlone_30 : decode cX2_goAlone 30 = .ok (.iload 4, 2) := by decide +kernel
theorem dX2_goAlone_32 : decode cX2_goAlone 32 = .ok (.aload_n 0, 1) := by decide +kernel
theorem dX2_goAlone_33 : decode cX2_goAlone 33 = .ok (.getfield 18, 3) := by decide +kernel
theorem dX2_goAlone_36 : decode cX2_goAlone 36 = .ok (.getfield 45, 3) := by decide +kernel
theorem dX2_goAlone_39 : decode cX2_goAlone 39 = .ok (.if_icmp .ge 52, 3) := by decide +kernel
theorem dX2_goAlone_42 : decode cX2_goAlone 42 = .ok (.iload_n 3, 1) := by decide +kernel
theorem dX2_goAlone_43 : decode cX2_goAlone 43 = .ok (.iconst 1, 1) := by decide +kernel
theorem dX2_goAlone_44 : decode cX2_goAlone 44 = .ok (.aload_n 0, 1) := by decide +kernel
theorem dX2_goAlone_45 : decode cX2_goAlone 45 = .ok (.getfield 18, 3) := by decide +kernel
theorem dX2_goAlone_48 : decode cX2_goAlone 48 = .ok (.iload 4, 2) := by decide +kernel
theorem dX2_goAlone_50 : decode cX2_goAlone 50 = .ok (.invokevirtual 65, 3) := by decide +kernel
theorem dX2_goAlone_53 : decode cX2_goAlone 53 = .ok (.iadd, 1) := by decide +kernel
theorem dX2_goAlone_54 : decode cX2_goAlone 54 = .ok (.aload_n 0, 1) := by decide +kernel
theorem dX2_goAlone_55 : decode cX2_goAlone 55 = .ok (.getfield 18, 3) := by decide +kernel
theorem dX2_goAlone_58 : decode cX2_goAlone 58 = .ok (.getfield 69, 3) := by decide +kernel
theorem dX2_goAlone_61 : decode cX2_goAlone 61 = .ok (.iadd, 1) := by decide +kernel
theorem dX2_goAlone_62 : decode cX2_goAlone 62 = .ok (.aload_n 0, 1) := by decide +kernel
theorem dX2_goAlone_63 : decode cX2_goAlone 63 = .ok (.getfield 18, 3) := by decide +kernel
theorem dX2_goAlone_66 : decode cX2_goAlone 66 = .ok (.getfield 72, 3) := by decide +kernel
theorem dX2_goAlone_69 : decode cX2_goAlone 69 = .ok (.iload_n 1, 1) := by decide +kernel
theorem dX2_goAlone_70 : decode cX2_goAlone 70 = .ok (.iaload, 1) := by decide +kernel
theorem dX2_goAlone_71 : decode cX2_goAlone 71 = .ok (.iconst 1, 1) := by decide +kernel
theorem dX2_goAlone_72 : decode cX2_goAlone 72 = .ok (.iconst 1, 1) := by decide +kernel
theorem dX2_goAlone_73 : decode cX2_goAlone 73 = .ok (.invokestatic 75, 3) := by decide +kernel
theorem dX2_goAlone_76 : decode cX2_goAlone 76 = .ok (.isub, 1) := by decide +kernel
theorem dX2_goAlone_77 : decode cX2_goAlone 77 = .ok (.istore_n 3, 1) := by decide +kernel
theorem dX2_goAlone_78 : decode cX2_goAlone 78 = .ok (.iload_n 3, 1) := by decide +kernel
theorem dX2_goAlone_79 : decode cX2_goAlone 79 = .ok (.ifCond .ge 6, 3) := by decide +kernel
theorem dX2_goAlone_82 : decode cX2_goAlone 82 = .ok (.iload 4, 2) := by decide +kernel
theorem dX2_goAlone_84 : decode cX2_goAlone 84 = .ok (.ireturn, 1) := by decide +kernel
theorem dX2_goAlone_85 : decode cX2_goAlone 85 = .ok (.iinc 4 1, 3) := by decide +kernel
theorem dX2_goAlone_88 : decode cX2_goAlone 88 = .ok (.goto (-58), 3) := by decide +kernel
theorem dX2_goAlone_91 : decode cX2_goAlone 91 = .ok (.aload_n 0, 1) := by decide +kernel
theorem dX2_goAlone_92 : decode cX2_goAlone 92 = .ok (.getfield 18, 3) := by decide +kernel
theorem dX2_goAlone_95 : decode cX2_goAlone 95 = .ok (.getfield 45, 3) := by decide +kernel
theorem dX2_goAlone_98 : decode cX2_goAlone 98 = .ok (.ireturn, 1) := by decide +kernel
theorem dX2_init_0 : decode cX2_init 0 = .ok (.aload_n 0, 1) := by decide +kernel
theorem dX2_init_1 : decode cX2_init 1 = .ok (.invokespecial 3, 3) := by decide +kernel
theorem dX2_init_4 : decode cX2_init 4 = .ok (.aload_n 0, 1) := by decide +kernel
theorem dX2_init_5 : decode cX2_init 5 = .ok (.bipush 6, 2) := by decide +kernel
theorem dX2_init_7 : decode cX2_init 7 = .ok (.newarray .int, 2) := by decide +kernel
theorem dX2_init_9 : decode cX2_init 9 = .ok (.putfield 9, 3) := by decide +kernel
theorem dX2_init_12 : decode cX2_init 12 = .ok (.aload_n 0, 1) := by decide +kernel
theorem dX2_init_13 : decode cX2_init 13 = .ok (.bipush 6, 2) := by decide +kernel
theorem dX2_init_15 : decode cX2_init 15 = .ok (.newarray .int, 2) := by decide +kernel
theorem dX2_init_17 : decode cX2_init 17 = .ok (.putfield 15, 3) := by decide +kernel
theorem dX2_init_20 : decode cX2_init 20 = .ok (.aload_n 0, 1) := by decide +kernel
theorem dX2_init_21 : decode cX2_init 21 = .ok (.aload_n 1, 1) := by decide +kernel
theorem dX2_init_22 : decode cX2_init 22 = .ok (.putfield 18, 3) := by decide +kernel
theorem dX2_init_25 : decode cX2_init 25 = .ok (.return_, 1) := by decide +kernel
theorem dX2_note_0 : decode cX2_note 0 = .ok (.iload_n 1, 1) := by decide +kernel
theorem dX2_note_1 : decode cX2_note 1 = .ok (.aload_n 0, 1) := by decide +kernel
theorem dX2_note_2 : decode cX2_note 2 = .ok (.getfield 29, 3) := by decide +kernel
theorem dX2_note_5 : decode cX2_note 5 = .ok (.if_icmp .le 23, 3) := by decide +kernel
theorem dX2_note_8 : decode cX2_note 8 = .ok (.aload_n 0, 1) := by decide +kernel
theorem dX2_note_9 : decode cX2_note 9 = .ok (.iload_n 1, 1) := by decide +kernel
theorem dX2_note_10 : decode cX2_note 10 = .ok (.putfield 29, 3) := by decide +kernel
theorem dX2_note_13 : decode cX2_note 13 = .ok (.aload_n 0, 1) := by decide +kernel
theorem dX2_note_14 : decode cX2_note 14 = .ok (.getfield 15, 3) := by decide +kernel
theorem dX2_note_17 : decode cX2_note 17 = .ok (.iconst 0, 1) := by decide +kernel
theorem dX2_note_18 : decode cX2_note 18 = .ok (.aload_n 0, 1) := by decide +kernel
theorem dX2_note_19 : decode cX2_note 19 = .ok (.getfield 9, 3) := by decide +kernel
theorem dX2_note_22 : decode cX2_note 22 = .ok (.iconst 0, 1) := by decide +kernel
theorem dX2_note_23 : decode cX2_note 23 = .ok (.bipush 6, 2) := by decide +kernel
theorem dX2_note_25 : decode cX2_note 25 = .ok (.invokestatic 56, 3) := by decide +kernel
theorem dX2_note_28 : decode cX2_note 28 = .ok (.return_, 1) := by decide +kernel
theorem dX2_seek_0 : decode cX2_seek 0 = .ok (.aload_n 0, 1) := by decide +kernel
theorem dX2_seek_1 : decode cX2_seek 1 = .ok (.iload_n 1, 1) := by decide +kernel
theorem dX2_seek_2 : decode cX2_seek 2 = .ok (.putfield 22, 3) := by decide +kernel
theorem dX2_seek_5 : decode cX2_seek 5 = .ok (.aload_n 0, 1) := by decide +kernel
theorem dX2_seek_6 : decode cX2_seek 6 = .ok (.iload_n 2, 1) := by decide +kernel
theorem dX2_seek_7 : decode cX2_seek 7 = .ok (.putfield 26, 3) := by decide +kernel
theorem dX2_seek_10 : decode cX2_seek 10 = .ok (.aload_n 0, 1) := by decide +kernel
theorem dX2_seek_11 : decode cX2_seek 11 = .ok (.bipush (-4), 2) := by decide +kernel
theorem dX2_seek_13 : decode cX2_seek 13 = .ok (.putfield 29, 3) := by decide +kernel
theorem dX2_seek_16 : decode cX2_seek 16 = .ok (.aload_n 0, 1) := by decide +kernel
theorem dX2_seek_17 : decode cX2_seek 17 = .ok (.iconst 0, 1) := by decide +kernel
theorem dX2_seek_18 : decode cX2_seek 18 = .ok (.iconst 0, 1) := by decide +kernel
theorem dX2_seek_19 : decode cX2_seek 19 = .ok (.iconst 0, 1) := by decide +kernel
theorem dX2_seek_20 : decode cX2_seek 20 = .ok (.invokestatic 32, 3) := by decide +kernel
theorem dX2_seek_23 : decode cX2_seek 23 = .ok (.return_, 1) := by decide +kernel
theorem dX2_tryNext_0 : decode cX2_tryNext 0 = .ok (.iload_n 1, 1) := by decide +kernel
theorem dX2_tryNext_1 : decode cX2_tryNext 1 = .ok (.aload_n 0, 1) := by decide +kernel
theorem dX2_tryNext_2 : decode cX2_tryNext 2 = .ok (.getfield 18, 3) := by decide +kernel
theorem dX2_tryNext_5 : decode cX2_tryNext 5 = .ok (.getfield 36, 3) := by decide +kernel
theorem dX2_tryNext_8 : decode cX2_tryNext 8 = .ok (.if_icmp .ge 9, 3) := by decide +kernel
theorem dX2_tryNext_11 : decode cX2_tryNext 11 = .ok (.iload_n 1, 1) := by decide +kernel
theorem dX2_tryNext_12 : decode cX2_tryNext 12 = .ok (.bipush 6, 2) := by decide +kernel
theorem dX2_tryNext_14 : decode cX2_tryNext 14 = .ok (.if_icmp .lt 9, 3) := by decide +kernel
theorem dX2_tryNext_17 : decode cX2_tryNext 17 = .ok (.aload_n 0, 1) := by decide +kernel
theorem dX2_tryNext_18 : decode cX2_tryNext 18 = .ok (.iload_n 3, 1) := by decide +kernel
theorem dX2_tryNext_19 : decode cX2_tryNext 19 = .ok (.invokevirtual 41, 3) := by decide +kernel
theorem dX2_tryNext_22 : decode cX2_tryNext 22 = .ok (.return_, 1) := by decide +kernel
theorem dX2_tryNext_23 : decode cX2_tryNext 23 = .ok (.iconst 0, 1) := by decide +kernel
theorem dX2_tryNext_24 : decode cX2_tryNext 24 = .ok (.istore 4, 2) := by decide +kernel
theorem dX2_tryNext_26 : decode cX2_tryNext 26 = .ok (.iload 4, 2) := by decide +kernel
theorem dX2_tryNext_28 : decode cX2_tryNext 28 = .ok (.aload_n 0, 1) := by decide +kernel
theorem dX2_tryNext_29 : decode cX2_tryNext 29 = .ok (.getfield 18, 3) := by decide +kernel
theorem dX2_tryNext_32 : decode cX2_tryNext 32 = .ok (.getfield 36, 3) := by decide +kernel
theorem dX2_tryNext_35 : decode cX2_tryNext 35 = .ok (.if_icmp .ge 60, 3) := by decide +kernel
theorem dX2_tryNext_38 : decode cX2_tryNext 38 = .ok (.aload_n 0, 1) := by decide +kernel
theorem dX2_tryNext_39 : decode cX2_tryNext 39 = .ok (.getfield 29, 3) := by decide +kernel
theorem dX2_tryNext_42 : decode cX2_tryNext 42 = .ok (.aload_n 0, 1) := by decide +kernel
theorem dX2_tryNext_43 : decode cX2_tryNext 43 = .ok (.getfield 18, 3) := by decide +kernel
theorem dX2_tryNext_46 : decode cX2_tryNext 46 = .ok (.getfield 45, 3) := by decide +kernel
theorem dX2_tryNext_49 : decode cX2_tryNext 49 = .ok (.if_icmp .ge 46, 3) := by decide +kernel
theorem dX2_tryNext_52 : decode cX2_tryNext 52 = .ok (.iload 4, 2) := by decide +kernel
theorem dX2_tryNext_54 : decode cX2_tryNext 54 = .ok (.iload_n 2, 1) := by decide +kernel
theorem dX2_tryNext_55 : decode cX2_tryNext 55 = .ok (.invokestatic 48, 3) := by decide +kernel
theorem dX2_tryNext_58 : decode cX2_tryNext 58 = .ok (.ifCond .ne 31, 3) := by decide +kernel
theorem dX2_tryNext_61 : decode cX2_tryNext 61 = .ok (.aload_n 0, 1) := by decide +kernel
theorem dX2_tryNext_62 : decode cX2_tryNext 62 = .ok (.getfield 15, 3) := by decide +kernel
theorem dX2_tryNext_65 : decode cX2_tryNext 65 = .ok (.iload_n 1, 1) := by decide +kernel
theorem dX2_tryNext_66 : decode cX2_tryNext 66 = .ok (.iload 4, 2) := by decide +kernel
theorem dX2_tryNext_68 : decode cX2_tryNext 68 = .ok (.iastore, 1) := by decide +kernel
theorem dX2_tryNext_69 : decode cX2_tryNext 69 = .ok (.aload_n 0, 1) := by decide +kernel
theorem dX2_tryNext_70 : decode cX2_tryNext 70 = .ok (.iload_n 1, 1) := by decide +kernel
theorem dX2_tryNext_71 : decode cX2_tryNext 71 = .ok (.iconst 1, 1) := by decide +kernel
theorem dX2_tryNext_72 : decode cX2_tryNext 72 = .ok (.iadd, 1) := by decide +kernel
theorem dX2_tryNext_73 : decode cX2_tryNext 73 = .ok (.iload_n 2, 1) := by decide +kernel
theorem dX2_tryNext_74 : decode cX2_tryNext 74 = .ok (.iconst 1, 1) := by decide +kernel
theorem dX2_tryNext_75 : decode cX2_tryNext 75 = .ok (.iload 4, 2) := by decide +kernel
theorem dX2_tryNext_77 : decode cX2_tryNext 77 = .ok (.ishl, 1) := by decide +kernel
theorem dX2_tryNext_78 : decode cX2_tryNext 78 = .ok (.ior, 1) := by decide +kernel
theorem dX2_tryNext_79 : decode cX2_tryNext 79 = .ok (.aload_n 0, 1) := by decide +kernel
theorem dX2_tryNext_80 : decode cX2_tryNext 80 = .ok (.iload 4, 2) := by decide +kernel
theorem dX2_tryNext_82 : decode cX2_tryNext 82 = .ok (.iload_n 3, 1) := by decide +kernel
theorem dX2_tryNext_83 : decode cX2_tryNext 83 = .ok (.invokevirtual 52, 3) := by decide +kernel
theorem dX2_tryNext_86 : decode cX2_tryNext 86 = .ok (.invokestatic 32, 3) := by decide +kernel
theorem dX2_tryNext_89 : decode cX2_tryNext 89 = .ok (.iinc 4 1, 3) := by decide +kernel
theorem dX2_tryNext_92 : decode cX2_tryNext 92 = .ok (.goto (-66), 3) := by decide +kernel
theorem dX2_tryNext_95 : decode cX2_tryNext 95 = .ok (.return_, 1) := by decide +kernel
theorem dX3_dropOldest_0 : decode cX3_dropOldest 0 = .ok (.aload_n 0, 1) := by decide +kernel
theorem dX3_dropOldest_1 : decode cX3_dropOldest 1 = .ok (.getfield 9, 3) := by decide +kernel
theorem dX3_dropOldest_4 : decode cX3_dropOldest 4 = .ok (.iconst 0, 1) := by decide +kernel
theorem dX3_dropOldest_5 : decode cX3_dropOldest 5 = .ok (.aaload, 1) := by decide +kernel
theorem dX3_dropOldest_6 : decode cX3_dropOldest 6 = .ok (.astore_n 1, 1) := by decide +kernel
theorem dX3_dropOldest_7 : decode cX3_dropOldest 7 = .ok (.iconst 0, 1) := by decide +kernel
theorem dX3_dropOldest_8 : decode cX3_dropOldest 8 = .ok (.istore_n 2, 1) := by decide +kernel
theorem dX3_dropOldest_9 : decode cX3_dropOldest 9 = .ok (.iload_n 2, 1) := by decide +kernel
theorem dX3_dropOldest_10 : decode cX3_dropOldest 10 = .ok (.iconst 1, 1) := by decide +kernel
theorem dX3_dropOldest_11 : decode cX3_dropOldest 11 = .ok (.iadd, 1) := by decide +kernel
theorem dX3_dropOldest_12 : decode cX3_dropOldest 12 = .ok (.aload_n 0, 1) := by decide +kernel
theorem dX3_dropOldest_13 : decode cX3_dropOldest 13 = .ok (.getfield 9, 3) := by decide +kernel
theorem dX3_dropOldest_16 : decode cX3_dropOldest 16 = .ok (.arraylength, 1) := by decide +kernel
theorem dX3_dropOldest_17 : decode cX3_dropOldest 17 = .ok (.if_icmp .ge 23, 3) := by decide +kernel
theorem dX3_dropOldest_20 : decode cX3_dropOldest 20 = .ok (.aload_n 0, 1) := by decide +kernel
theorem dX3_dropOldest_21 : decode cX3_dropOldest 21 = .ok (.getfield 9, 3) := by decide +kernel
theorem dX3_dropOldest_24 : decode cX3_dropOldest 24 = .ok (.iload_n 2, 1) := by decide +kernel
theorem dX3_dropOldest_25 : decode cX3_dropOldest 25 = .ok (.aload_n 0, 1) := by decide +kernel
theorem dX3_dropOldest_26 : decode cX3_dropOldest 26 = .ok (.getfield 9, 3) := by decide +kernel
theorem dX3_dropOldest_29 : decode cX3_dropOldest 29 = .ok (.iload_n 2, 1) := by decide +kernel
theorem dX3_dropOldest_30 : decode cX3_dropOldest 30 = .ok (.iconst 1, 1) := by decide +kernel
theorem dX3_dropOldest_31 : decode cX3_dropOldest 31 = .ok (.iadd, 1) := by decide +kernel
theorem dX3_dropOldest_32 : decode cX3_dropOldest 32 = .ok (.aaload, 1) := by decide +kernel
theorem dX3_dropOldest_33 : decode cX3_dropOldest 33 = .ok (.aastore, 1) := by decide +kernel
theorem dX3_dropOldest_34 : decode cX3_dropOldest 34 = .ok (.iinc 2 1, 3) := by decide +kernel
theorem dX3_dropOldest_37 : decode cX3_dropOldest 37 = .ok (.goto (-28), 3) := by decide +kernel
theorem dX3_dropOldest_40 : decode cX3_dropOldest 40 = .ok (.aload_n 0, 1) := by decide +kernel
theorem dX3_dropOldest_41 : decode cX3_dropOldest 41 = .ok (.getfield 9, 3) := by decide +kernel
theorem dX3_dropOldest_44 : decode cX3_dropOldest 44 = .ok (.aload_n 0, 1) := by decide +kernel
theorem dX3_dropOldest_45 : decode cX3_dropOldest 45 = .ok (.getfield 9, 3) := by decide +kernel
theorem dX3_dropOldest_48 : decode cX3_dropOldest 48 = .ok (.arraylength, 1) := by decide +kernel
theorem dX3_dropOldest_49 : decode cX3_dropOldest 49 = .ok (.iconst 1, 1) := by decide +kernel
theorem dX3_dropOldest_50 : decode cX3_dropOldest 50 = .ok (.isub, 1) := by decide +kernel
theorem dX3_dropOldest_51 : decode cX3_dropOldest 51 = .ok (.aload_n 1, 1) := by decide +kernel
theorem dX3_dropOldest_52 : decode cX3_dropOldest 52 = .ok (.aastore, 1) := by decide +kernel
theorem dX3_dropOldest_53 : decode cX3_dropOldest 53 = .ok (.aload_n 0, 1) := by decide +kernel
theorem dX3_dropOldest_54 : decode cX3_dropOldest 54 = .ok (.dup, 1) := by decide +kernel
theorem dX3_dropOldest_55 : decode cX3_dropOldest 55 = .ok (.getfield 16, 3) := by decide +kernel
theorem dX3_dropOldest_58 : decode cX3_dropOldest 58 = .ok (.iconst 1, 1) := by decide +kernel
theorem dX3_dropOldest_59 : decode cX3_dropOldest 59 = .ok (.isub, 1) := by decide +kernel
theorem dX3_dropOldest_60 : decode cX3_dropOldest 60 = .ok (.putfield 16, 3) := by decide +kernel
theorem dX3_dropOldest_63 : decode cX3_dropOldest 63 = .ok (.return_, 1) := by decide +kernel
theorem dX3_init_0 : decode cX3_init 0 = .ok (.aload_n 0, 1) := by decide +kernel
theorem dX3_init_1 : decode cX3_init 1 = .ok (.invokespecial 1, 3) := by decide +kernel
theorem dX3_init_4 : decode cX3_init 4 = .ok (.aload_n 0, 1) := by decide +kernel
theorem dX3_init_5 : decode cX3_init 5 = .ok (.iload_n 1, 1) := by decide +kernel
theorem dX3_init_6 : decode cX3_init 6 = .ok (.anewarray 7, 3) := by decide +kernel
theorem dX3_init_9 : decode cX3_init 9 = .ok (.putfield 9, 3) := by decide +kernel
theorem dX3_init_12 : decode cX3_init 12 = .ok (.iconst 0, 1) := by decide +kernel
theorem dX3_init_13 : decode cX3_init 13 = .ok (.istore_n 2, 1) := by decide +kernel
theorem dX3_init_14 : decode cX3_init 14 = .ok (.iload_n 2, 1) := by decide +kernel
theorem dX3_init_15 : decode cX3_init 15 = .ok (.iload_n 1, 1) := by decide +kernel
theorem dX3_init_16 : decode cX3_init 16 = .ok (.if_icmp .ge 22, 3) := by decide +kernel
theorem dX3_init_19 : decode cX3_init 19 = .ok (.aload_n 0, 1) := by decide +kernel
theorem dX3_init_20 : decode cX3_init 20 = .ok (.getfield 9, 3) := by decide +kernel
theorem dX3_init_23 : decode cX3_init 23 = .ok (.iload_n 2, 1) := by decide +kernel
theorem dX3_init_24 : decode cX3_init 24 = .ok (.new 7, 3) := by decide +kernel
theorem dX3_init_27 : decode cX3_init 27 = .ok (.dup, 1) := by decide +kernel
theorem dX3_init_28 : decode cX3_init 28 = .ok (.invokespecial 15, 3) := by decide +kernel
theorem dX3_init_31 : decode cX3_init 31 = .ok (.aastore, 1) := by decide +kernel
theorem dX3_init_32 : decode cX3_init 32 = .ok (.iinc 2 1, 3) := by decide +kernel
theorem dX3_init_35 : decode cX3_init 35 = .ok (.goto (-21), 3) := by decide +kernel
theorem dX3_init_38 : decode cX3_init 38 = .ok (.return_, 1) := by decide +kernel
theorem dX3_isFull_0 : decode cX3_isFull 0 = .ok (.aload_n 0, 1) := by decide +kernel
theorem dX3_isFull_1 : decode cX3_isFull 1 = .ok (.getfield 16, 3) := by decide +kernel
theorem dX3_isFull_4 : decode cX3_isFull 4 = .ok (.aload_n 0, 1) := by decide +kernel
theorem dX3_isFull_5 : decode cX3_isFull 5 = .ok (.getfield 9, 3) := by decide +kernel
theorem dX3_isFull_8 : decode cX3_isFull 8 = .ok (.arraylength, 1) := by decide +kernel
theorem dX3_isFull_9 : decode cX3_isFull 9 = .ok (.if_icmp .lt 7, 3) := by decide +kernel
theorem dX3_isFull_12 : decode cX3_isFull 12 = .ok (.iconst 1, 1) := by decide +kernel
theorem dX3_isFull_13 : decode cX3_isFull 13 = .ok (.goto 4, 3) := by decide +kernel
theorem dX3_isFull_16 : decode cX3_isFull 16 = .ok (.iconst 0, 1) := by decide +kernel
theorem dX3_isFull_17 : decode cX3_isFull 17 = .ok (.ireturn, 1) := by decide +kernel
theorem dX3_popInto_0 : decode cX3_popInto 0 = .ok (.aload_n 0, 1) := by decide +kernel
theorem dX3_popInto_1 : decode cX3_popInto 1 = .ok (.getfield 16, 3) := by decide +kernel
theorem dX3_popInto_4 : decode cX3_popInto 4 = .ok (.ifCond .ne 5, 3) := by decide +kernel
theorem dX3_popInto_7 : decode cX3_popInto 7 = .ok (.iconst 0, 1) := by decide +kernel
theorem dX3_popInto_8 : decode cX3_popInto 8 = .ok (.ireturn, 1) := by decide +kernel
theorem dX3_popInto_9 : decode cX3_popInto 9 = .ok (.aload_n 0, 1) := by decide +kernel
theorem dX3_popInto_10 : decode cX3_popInto 10 = .ok (.dup, 1) := by decide +kernel
theorem dX3_popInto_11 : decode cX3_popInto 11 = .ok (.getfield 16, 3) := by decide +kernel
theorem dX3_popInto_14 : decode cX3_popInto 14 = .ok (.iconst 1, 1) := by decide +kernel
theorem dX3_popInto_15 : decode cX3_popInto 15 = .ok (.isub, 1) := by decide +kernel
theorem dX3_popInto_16 : decode cX3_popInto 16 = .ok (.putfield 16, 3) := by decide +kernel
theorem dX3_popInto_19 : decode cX3_popInto 19 = .ok (.aload_n 1, 1) := by decide +kernel
theorem dX3_popInto_20 : decode cX3_popInto 20 = .ok (.aload_n 0, 1) := by decide +kernel
theorem dX3_popInto_21 : decode cX3_popInto 21 = .ok (.getfield 9, 3) := by decide +kernel
theorem dX3_popInto_24 : decode cX3_popInto 24 = .ok (.aload_n 0, 1) := by decide +kernel
theorem dX3_popInto_25 : decode cX3_popInto 25 = .ok (.getfield 16, 3) := by decide +kernel
theorem dX3_popInto_28 : decode cX3_popInto 28 = .ok (.aaload, 1) := by decide +kernel
theorem dX3_popInto_29 : decode cX3_popInto 29 = .ok (.invokevirtual 27, 3) := by decide +kernel
theorem dX3_popInto_32 : decode cX3_popInto 32 = .ok (.iconst 1, 1) := by decide +kernel
theorem dX3_popInto_33 : decode cX3_popInto 33 = .ok (.ireturn, 1) := by decide +kernel
theorem dX3_push_0 : decode cX3_push 0 = .ok (.aload_n 0, 1) := by decide +kernel
theorem dX3_push_1 : decode cX3_push 1 = .ok (.invokevirtual 20, 3) := by decide +kernel
theorem dX3_push_4 : decode cX3_push 4 = .ok (.ifCond .eq 7, 3) := by decide +kernel
theorem dX3_push_7 : decode cX3_push 7 = .ok (.aload_n 0, 1) := by decide +kernel
theorem dX3_push_8 : decode cX3_push 8 = .ok (.invokevirtual 24, 3) := by decide +kernel
theorem dX3_push_11 : decode cX3_push 11 = .ok (.aload_n 0, 1) := by decide +kernel
theorem dX3_push_12 : decode cX3_push 12 = .ok (.getfield 9, 3) := by decide +kernel
theorem dX3_push_15 : decode cX3_push 15 = .ok (.aload_n 0, 1) := by decide +kernel
theorem dX3_push_16 : decode cX3_push 16 = .ok (.getfield 16, 3) := by decide +kernel
theorem dX3_push_19 : decode cX3_push 19 = .ok (.aaload, 1) := by decide +kernel
theorem dX3_push_20 : decode cX3_push 20 = .ok (.aload_n 1, 1) := by decide +kernel
theorem dX3_push_21 : decode cX3_push 21 = .ok (.invokevirtual 27, 3) := by decide +kernel
theorem dX3_push_24 : decode cX3_push 24 = .ok (.aload_n 0, 1) := by decide +kernel
theorem dX3_push_25 : decode cX3_push 25 = .ok (.dup, 1) := by decide +kernel
theorem dX3_push_26 : decode cX3_push 26 = .ok (.getfield 16, 3) := by decide +kernel
theorem dX3_push_29 : decode cX3_push 29 = .ok (.iconst 1, 1) := by decide +kernel
theorem dX3_push_30 : decode cX3_push 30 = .ok (.iadd, 1) := by decide +kernel
theorem dX3_push_31 : decode cX3_push 31 = .ok (.putfield 16, 3) := by decide +kernel
theorem dX3_push_34 : decode cX3_push 34 = .ok (.return_, 1) := by decide +kernel
theorem dX4_firstFault_0 : decode cX4_firstFault 0 = .ok (.aload_n 0, 1) := by decide +kernel
theorem dX4_firstFault_1 : decode cX4_firstFault 1 = .ok (.getfield 12, 3) := by decide +kernel
theorem dX4_firstFault_4 : decode cX4_firstFault 4 = .ok (.invokevirtual 29, 3) := by decide +kernel
theorem dX4_firstFault_7 : decode cX4_firstFault 7 = .ok (.aload_n 0, 1) := by decide +kernel
theorem dX4_firstFault_8 : decode cX4_firstFault 8 = .ok (.getfield 21, 3) := by decide +kernel
theorem dX4_firstFault_11 : decode cX4_firstFault 11 = .ok (.iconst 0, 1) := by decide +kernel
theorem dX4_firstFault_12 : decode cX4_firstFault 12 = .ok (.putfield 32, 3) := by decide +kernel
theorem dX4_firstFault_15 : decode cX4_firstFault 15 = .ok (.iconst 0, 1) := by decide +kernel
theorem dX4_firstFault_16 : decode cX4_firstFault 16 = .ok (.istore_n 3, 1) := by decide +kernel
theorem dX4_firstFault_17 : decode cX4_firstFault 17 = .ok (.iload_n 3, 1) := by decide +kernel
theorem dX4_firstFault_18 : decode cX4_firstFault 18 = .ok (.iload_n 2, 1) := by decide +kernel
theorem dX4_firstFault_19 : decode cX4_firstFault 19 = .ok (.if_icmp .ge 47, 3) := by decide +kernel
theorem dX4_firstFault_22 : decode cX4_firstFault 22 = .ok (.aload_n 1, 1) := by decide +kernel
theorem dX4_firstFault_23 : decode cX4_firstFault 23 = .ok (.iload_n 3, 1) := by decide +kernel
theorem dX4_firstFault_24 : decode cX4_firstFault 24 = .ok (.caload, 1) := by decide +kernel
theorem dX4_firstFault_25 : decode cX4_firstFault 25 = .ok (.istore 4, 2) := by decide +kernel
theorem dX4_firstFault_27 : decode cX4_firstFault 27 = .ok (.aload_n 0, 1) := by decide +kernel
theorem dX4_firstFault_28 : decode cX4_firstFault 28 = .ok (.aload_n 1, 1) := by decide +kernel
theorem dX4_firstFault_29 : decode cX4_firstFault 29 = .ok (.iload_n 3, 1) := by decide +kernel
theorem dX4_firstFault_30 : decode cX4_firstFault 30 = .ok (.iconst 1, 1) := by decide +kernel
theorem dX4_firstFault_31 : decode cX4_firstFault 31 = .ok (.iadd, 1) := by decide +kernel
theorem dX4_firstFault_32 : decode cX4_firstFault 32 = .ok (.iload_n 2, 1) := by decide +kernel
theorem dX4_firstFault_33 : decode cX4_firstFault 33 = .ok (.iload 4, 2) := by decide +kernel
theorem dX4_firstFault_35 : decode cX4_firstFault 35 = .ok (.invokestatic 36, 3) := by decide +kernel
theorem dX4_firstFault_38 : decode cX4_firstFault 38 = .ok (.invokevirtual 40, 3) := by decide +kernel
theorem dX4_firstFault_41 : decode cX4_firstFault 41 = .ok (.istore 5, 2) := by decide +kernel
theorem dX4_firstFault_43 : decode cX4_firstFault 43 = .ok (.iload 5, 2) := by decide +kernel
theorem dX4_firstFault_45 : decode cX4_firstFault 45 = .ok (.iload_n 3, 1) := by decide +kernel
theorem dX4_firstFault_46 : decode cX4_firstFault 46 = .ok (.if_icmp .le 12, 3) := by decide +kernel
theorem dX4_firstFault_49 : decode cX4_firstFault 49 = .ok (.aload_n 0, 1) := by decide +kernel
theorem dX4_firstFault_50 : decode cX4_firstFault 50 = .ok (.iload 4, 2) := by decide +kernel
theorem dX4_firstFault_52 : decode cX4_firstFault 52 = .ok (.invokevirtual 44, 3) := by decide +kernel
theorem dX4_firstFault_55 : decode cX4_firstFault 55 = .ok (.ifCond .ne 5, 3) := by decide +kernel
theorem dX4_firstFault_58 : decode cX4_firstFault 58 = .ok (.iload_n 3, 1) := by decide +kernel
theorem dX4_firstFault_59 : decode cX4_firstFault 59 = .ok (.ireturn, 1) := by decide +kernel
theorem dX4_firstFault_60 : decode cX4_firstFault 60 = .ok (.iload 5, 2) := by decide +kernel
theorem dX4_firstFault_62 : decode cX4_firstFault 62 = .ok (.istore_n 3, 1) := by decide +kernel
theorem dX4_firstFault_63 : decode cX4_firstFault 63 = .ok (.goto (-46), 3) := by decide +kernel
theorem dX4_firstFault_66 : decode cX4_firstFault 66 = .ok (.bipush (-4), 2) := by decide +kernel
theorem dX4_firstFault_68 : decode cX4_firstFault 68 = .ok (.ireturn, 1) := by decide +kernel
theorem dX4_init_0 : decode cX4_init 0 = .ok (.aload_n 0, 1) := by decide +kernel
theorem dX4_init_1 : decode cX4_init 1 = .ok (.invokespecial 3, 3) := by decide +kernel
theorem dX4_init_4 : decode cX4_init 4 = .ok (.aload_n 0, 1) := by decide +kernel
theorem dX4_init_5 : decode cX4_init 5 = .ok (.new 9, 3) := by decide +kernel
theorem dX4_init_8 : decode cX4_init 8 = .ok (.dup, 1) := by decide +kernel
theorem dX4_init_9 : decode cX4_init 9 = .ok (.invokespecial 11, 3) := by decide +kernel
theorem dX4_init_12 : decode cX4_init 12 = .ok (.putfield 12, 3) := by decide +kernel
theorem dX4_init_15 : decode cX4_init 15 = .ok (.aload_n 0, 1) := by decide +kernel
theorem dX4_init_16 : decode cX4_init 16 = .ok (.new 18, 3) := by decide +kernel
theorem dX4_init_19 : decode cX4_init 19 = .ok (.dup, 1) := by decide +kernel
theorem dX4_init_20 : decode cX4_init 20 = .ok (.invokespecial 20, 3) := by decide +kernel
theorem dX4_init_23 : decode cX4_init 23 = .ok (.putfield 21, 3) := by decide +kernel
theorem dX4_init_26 : decode cX4_init 26 = .ok (.aload_n 0, 1) := by decide +kernel
theorem dX4_init_27 : decode cX4_init 27 = .ok (.iconst 3, 1) := by decide +kernel
theorem dX4_init_28 : decode cX4_init 28 = .ok (.newarray .int, 2) := by decide +kernel
theorem dX4_init_30 : decode cX4_init 30 = .ok (.putfield 25, 3) := by decide +kernel
theorem dX4_init_33 : decode cX4_init 33 = .ok (.return_, 1) := by decide +kernel
theorem dX4_numbersOf_0 : decode cX4_numbersOf 0 = .ok (.iload_n 0, 1) := by decide +kernel
theorem dX4_numbersOf_1 : decode cX4_numbersOf 1 = .ok (.lookupswitch 65 #[(98, 61), (109, 59), (114, 59), (115, 61), (116, 63), (120, 61)], 59) := by decide +kernel
theorem dX4_numbersOf_60 : decode cX4_numbersOf 60 = .ok (.iconst 1, 1) := by decide +kernel
theorem dX4_numbersOf_61 : decode cX4_numbersOf 61 = .ok (.ireturn, 1) := by decide +kernel
theorem dX4_numbersOf_62 : decode cX4_numbersOf 62 = .ok (.iconst 2, 1) := by decide +kernel
theorem dX4_numbersOf_63 : decode cX4_numbersOf 63 = .ok (.ireturn, 1) := by decide +kernel
theorem dX4_numbersOf_64 : decode cX4_numbersOf 64 = .ok (.iconst 3, 1) := by decide +kernel
theorem dX4_numbersOf_65 : decode cX4_numbersOf 65 = .ok (.ireturn, 1) := by decide +kernel
theorem dX4_numbersOf_66 : decode cX4_numbersOf 66 = .ok (.iconst 0, 1) := by decide +kernel
theorem dX4_numbersOf_67 : decode cX4_numbersOf 67 = .ok (.ireturn, 1) := by decide +kernel
theorem dX4_readNumbers_0 : decode cX4_readNumbers 0 = .ok (.iload_n 2, 1) := by decide +kernel
theorem dX4_readNumbers_1 : decode cX4_readNumbers 1 = .ok (.istore 5, 2) := by decide +kernel
theorem dX4_readNumbers_3 : decode cX4_readNumbers 3 = .ok (.iconst 0, 1) := by decide +kernel
theorem dX4_readNumbers_4 : decode cX4_readNumbers 4 = .ok (.istore 6, 2) := by decide +kernel
theorem dX4_readNumbers_6 : decode cX4_readNumbers 6 = .ok (.iload 6, 2) := by decide +kernel
theorem dX4_readNumbers_8 : decode cX4_readNumbers 8 = .ok (.iload 4, 2) := by decide +kernel
theorem dX4_readNumbers_10 : decode cX4_readNumbers 10 = .ok (.if_icmp .ge 127, 3) := by decide +kernel
theorem dX4_readNumbers_13 : decode cX4_readNumbers 13 = .ok (.iload 5, 2) := by decide +kernel
theorem dX4_readNumbers_15 : decode cX4_readNumbers 15 = .ok (.istore 7, 2) := by decide +kernel
theorem dX4_readNumbers_17 : decode cX4_readNumbers 17 = .ok (.aload_n 0, 1) := by decide +kernel
theorem dX4_readNumbers_18 : decode cX4_readNumbers 18 = .ok (.getfield 25, 3) := by decide +kernel
theorem dX4_readNumbers_21 : decode cX4_readNumbers 21 = .ok (.iload 6, 2) := by decide +kernel
theorem dX4_readNumbers_23 : decode cX4_readNumbers 23 = .ok (.iconst 0, 1) := by decide +kernel
theorem dX4_readNumbers_24 : decode cX4_readNumbers 24 = .ok (.iastore, 1) := by decide +kernel
theorem dX4_readNumbers_25 : decode cX4_readNumbers 25 = .ok (.iload 5, 2) := by decide +kernel
theorem dX4_readNumbers_27 : decode cX4_readNumbers 27 = .ok (.iload_n 3, 1) := by decide +kernel
theorem dX4_readNumbers_28 : decode cX4_readNumbers 28 = .ok (.if_icmp .ge 57, 3) := by decide +kernel
theorem dX4_readNumbers_31 : decode cX4_readNumbers 31 = .ok (.iload 5, 2) := by decide +kernel
theorem dX4_readNumbers_33 : decode cX4_readNumbers 33 = .ok (.iload 7, 2) := by decide +kernel
theorem dX4_readNumbers_35 : decode cX4_readNumbers 35 = .ok (.iconst 2, 1) := by decide +kernel
theorem dX4_readNumbers_36 : decode cX4_readNumbers 36 = .ok (.iadd, 1) := by decide +kernel
theorem dX4_readNumbers_37 : decode cX4_readNumbers 37 = .ok (.if_icmp .ge 48, 3) := by decide +kernel
theorem dX4_readNumbers_40 : decode cX4_readNumbers 40 = .ok (.aload_n 1, 1) := by decide +kernel
theorem dX4_readNumbers_41 : decode cX4_readNumbers 41 = .ok (.iload 5, 2) := by decide +kernel
theorem dX4_readNumbers_43 : decode cX4_readNumbers 43 = .ok (.caload, 1) := by decide +kernel
theorem dX4_readNumbers_44 : decode cX4_readNumbers 44 = .ok (.bipush 48, 2) := by decide +kernel
theorem dX4_readNumbers_46 : decode cX4_readNumbers 46 = .ok (.bipush 57, 2) := by decide +kernel
theorem dX4_readNumbers_48 : decode cX4_readNumbers 48 = .ok (.invokestatic 48, 3) := by decide +kernel
theorem dX4_readNumbers_51 : decode cX4_readNumbers 51 = .ok (.ifCond .eq 34, 3) := by decide +kernel
theorem dX4_readNumbers_54 : decode cX4_readNumbers 54 = .ok (.aload_n 0, 1) := by decide +kernel
theorem dX4_readNumbers_55 : decode cX4_readNumbers 55 = .ok (.getfield 25, 3) := by decide +kernel
theorem dX4_readNumbers_58 : decode cX4_readNumbers 58 = .ok (.iload 6, 2) := by decide +kernel
theorem dX4_readNumbers_60 : decode cX4_readNumbers 60 = .ok (.bipush 10, 2) := by decide +kernel
theorem dX4_readNumbers_62 : decode cX4_readNumbers 62 = .ok (.aload_n 0, 1) := by decide +kernel
theorem dX4_readNumbers_63 : decode cX4_readNumbers 63 = .ok (.getfield 25, 3) := by decide +kernel
theorem dX4_readNumbers_66 : decode cX4_readNumbers 66 = .ok (.iload 6, 2) := by decide +kernel
theorem dX4_readNumbers_68 : decode cX4_readNumbers 68 = .ok (.iaload, 1) := by decide +kernel
theorem dX4_readNumbers_69 : decode cX4_readNumbers 69 = .ok (.imul, 1) := by decide +kernel
theorem dX4_readNumbers_70 : decode cX4_readNumbers 70 = .ok (.aload_n 1, 1) := by decide +kernel
theorem dX4_readNumbers_71 : decode cX4_readNumbers 71 = .ok (.iload 5, 2) := by decide +kernel
theorem dX4_readNumbers_73 : decode cX4_readNumbers 73 = .ok (.caload, 1) := by decide +kernel
theorem dX4_readNumbers_74 : decode cX4_readNumbers 74 = .ok (.iadd, 1) := by decide +kernel
theorem dX4_readNumbers_75 : decode cX4_readNumbers 75 = .ok (.bipush 48, 2) := by decide +kernel
theorem dX4_readNumbers_77 : decode cX4_readNumbers 77 = .ok (.isub, 1) := by decide +kernel
theorem dX4_readNumbers_78 : decode cX4_readNumbers 78 = .ok (.iastore, 1) := by decide +kernel
theorem dX4_readNumbers_79 : decode cX4_readNumbers 79 = .ok (.iinc 5 1, 3) := by decide +kernel
theorem dX4_readNumbers_82 : decode cX4_readNumbers 82 = .ok (.goto (-57), 3) := by decide +kernel
theorem dX4_readNumbers_85 : decode cX4_readNumbers 85 = .ok (.iload 6, 2) := by decide +kernel
theorem dX4_readNumbers_87 : decode cX4_readNumbers 87 = .ok (.iconst 1, 1) := by decide +kernel
theorem dX4_readNumbers_88 : decode cX4_readNumbers 88 = .ok (.iadd, 1) := by decide +kernel
theorem dX4_readNumbers_89 : decode cX4_readNumbers 89 = .ok (.iload 4, 2) := by decide +kernel
theorem dX4_readNumbers_91 : decode cX4_readNumbers 91 = .ok (.if_icmp .ge 8, 3) := by decide +kernel
theorem dX4_readNumbers_94 : decode cX4_readNumbers 94 = .ok (.bipush 44, 2) := by decide +kernel
theorem dX4_readNumbers_96 : decode cX4_readNumbers 96 = .ok (.goto 5, 3) := by decide +kernel
theorem dX4_readNumbers_99 : decode cX4_readNumbers 99 = .ok (.bipush 59, 2) := by decide +kernel
theorem dX4_readNumbers_101 : decode cX4_readNumbers 101 = .ok (.istore 8, 2) := by decide +kernel
theorem dX4_readNumbers_103 : decode cX4_readNumbers 103 = .ok (.iload 5, 2) := by decide +kernel
theorem dX4_readNumbers_105 : decode cX4_readNumbers 105 = .ok (.iload 7, 2) := by decide +kernel
theorem dX4_readNumbers_107 : decode cX4_readNumbers 107 = .ok (.if_icmp .eq 18, 3) := by decide +kernel
theorem dX4_readNumbers_110 : decode cX4_readNumbers 110 = .ok (.iload 5, 2) := by decide +kernel
theorem dX4_readNumbers_112 : decode cX4_readNumbers 112 = .ok (.iload_n 3, 1) := by decide +kernel
theorem dX4_readNumbers_113 : decode cX4_readNumbers 113 = .ok (.if_icmp .ge 12, 3) := by decide +kernel
theorem dX4_readNumbers_116 : decode cX4_readNumbers 116 = .ok (.aload_n 1, 1) := by decide +kernel
theorem dX4_readNumbers_117 : decode cX4_readNumbers 117 = .ok (.iload 5, 2) := by decide +kernel
theorem dX4_readNumbers_119 : decode cX4_readNumbers 119 = .ok (.caload, 1) := by decide +kernel
theorem dX4_readNumbers_120 : decode cX4_readNumbers 120 = .ok (.iload 8, 2) := by decide +kernel
theorem dX4_readNumbers_122 : decode cX4_readNumbers 122 = .ok (.if_icmp .eq 6, 3) := by decide +kernel
theorem dX4_readNumbers_125 : decode cX4_readNumbers 125 = .ok (.bipush (-4), 2) := by decide +kernel
theorem dX4_readNumbers_127 : decode cX4_readNumbers 127 = .ok (.ireturn, 1) := by decide +kernel
theorem dX4_readNumbers_128 : decode cX4_readNumbers 128 = .ok (.iinc 5 1, 3) := by decide +kernel
theorem dX4_readNumbers_131 : decode cX4_readNumbers 131 = .ok (.iinc 6 1, 3) := by decide +kernel
theorem dX4_readNumbers_134 : decode cX4_readNumbers 134 = .ok (.goto (-128), 3) := by decide +kernel
theorem dX4_readNumbers_137 : decode cX4_readNumbers 137 = .ok (.iload 4, 2) := by decide +kernel
theorem dX4_readNumbers_139 : decode cX4_readNumbers 139 = .ok (.ifCond .le 8, 3) := by decide +kernel
theorem dX4_readNumbers_142 : decode cX4_readNumbers 142 = .ok (.iload 5, 2) := by decide +kernel
theorem dX4_readNumbers_144 : decode cX4_readNumbers 144 = .ok (.goto 5, 3) := by decide +kernel
theorem dX4_readNumbers_147 : decode cX4_readNumbers 147 = .ok (.bipush (-4), 2) := by decide +kernel
theorem dX4_readNumbers_149 : decode cX4_readNumbers 149 = .ok (.ireturn, 1) := by decide +kernel
theorem dX4_take_0 : decode cX4_take 0 = .ok (.iload_n 1, 1) := by decide +kernel
theorem dX4_take_1 : decode cX4_take 1 = .ok (.lookupswitch 197 #[(98, 79), (109, 99), (114, 113), (115, 59), (116, 127), (120, 177)], 59) := by decide +kernel
theorem dX4_take_60 : decode cX4_take 60 = .ok (.aload_n 0, 1) := by decide +kernel
theorem dX4_take_61 : decode cX4_take 61 = .ok (.getfield 12, 3) := by decide +kernel
theorem dX4_take_64 : decode cX4_take 64 = .ok (.aload_n 0, 1) := by decide +kernel
theorem dX4_take_65 : decode cX4_take 65 = .ok (.getfield 25, 3) := by decide +kernel
theorem dX4_take_68 : decode cX4_take 68 = .ok (.iconst 0, 1) := by decide +kernel
theorem dX4_take_69 : decode cX4_take 69 = .ok (.iaload, 1) := by decide +kernel
theorem dX4_take_70 : decode cX4_take 70 = .ok (.aload_n 0, 1) := by decide +kernel
theorem dX4_take_71 : decode cX4_take 71 = .ok (.getfield 25, 3) := by decide +kernel
theorem dX4_take_74 : decode cX4_take 74 = .ok (.iconst 1, 1) := by decide +kernel
theorem dX4_take_75 : decode cX4_take 75 = .ok (.iaload, 1) := by decide +kernel
theorem dX4_take_76 : decode cX4_take 76 = .ok (.invokevirtual 52, 3) := by decide +kernel
theorem dX4_take_79 : decode cX4_take 79 = .ok (.ireturn, 1) := by decide +kernel
theorem dX4_take_80 : decode cX4_take 80 = .ok (.aload_n 0, 1) := by decide +kernel
theorem dX4_take_81 : decode cX4_take 81 = .ok (.getfield 12, 3) := by decide +kernel
theorem dX4_take_84 : decode cX4_take 84 = .ok (.aload_n 0, 1) := by decide +kernel
theorem dX4_take_85 : decode cX4_take 85 = .ok (.getfield 25, 3) := by decide +kernel
theorem dX4_take_88 : decode cX4_take 88 = .ok (.iconst 0, 1) := by decide +kernel
theorem dX4_take_89 : decode cX4_take 89 = .ok (.iaload, 1) := by decide +kernel
theorem dX4_take_90 : decode cX4_take 90 = .ok (.aload_n 0, 1) := by decide +kernel
theorem dX4_take_91 : decode cX4_take 91 = .ok (.getfield 25, 3) := by decide +kernel
theorem dX4_take_94 : decode cX4_take 94 = .ok (.iconst 1, 1) := by decide +kernel
theorem dX4_take_95 : decode cX4_take 95 = .ok (.iaload, 1) := by decide +kernel
theorem dX4_take_96 : decode cX4_take 96 = .ok (.invokevirtual 56, 3) := by decide +kernel
theorem dX4_take_99 : decode cX4_take 99 = .ok (.ireturn, 1) := by decide +kernel
theorem dX4_take_100 : decode cX4_take 100 = .ok (.aload_n 0, 1) := by decide +kernel
theorem dX4_take_101 : decode cX4_take 101 = .ok (.getfield 12, 3) := by decide +kernel
theorem dX4_take_104 : decode cX4_take 104 = .ok (.aload_n 0, 1) := by decide +kernel
theorem dX4_take_105 : decode cX4_take 105 = .ok (.getfield 25, 3) := by decide +kernel
theorem dX4_take_108 : decode cX4_take 108 = .ok (.iconst 0, 1) := by decide +kernel
theorem dX4_take_109 : decode cX4_take 109 = .ok (.iaload, 1) := by decide +kernel
theorem dX4_take_110 : decode cX4_take 110 = .ok (.invokevirtual 59, 3) := by decide +kernel
theorem dX4_take_113 : decode cX4_take 113 = .ok (.ireturn, 1) := by decide +kernel
theorem dX4_take_114 : decode cX4_take 114 = .ok (.aload_n 0, 1) := by decide +kernel
theorem dX4_take_115 : decode cX4_take 115 = .ok (.getfield 12, 3) := by decide +kernel
theorem dX4_take_118 : decode cX4_take 118 = .ok (.aload_n 0, 1) := by decide +kernel
theorem dX4_take_119 : decode cX4_take 119 = .ok (.getfield 25, 3) := by decide +kernel
theorem dX4_take_122 : decode cX4_take 122 = .ok (.iconst 0, 1) := by decide +kernel
theorem dX4_take_123 : decode cX4_take 123 = .ok (.iaload, 1) := by decide +kernel
theorem dX4_take_124 : decode cX4_take 124 = .ok (.invokevirtual 62, 3) := by decide +kernel
theorem dX4_take_127 : decode cX4_take 127 = .ok (.ireturn, 1) := by decide +kernel
theorem dX4_take_128 : decode cX4_take 128 = .ok (.aload_n 0, 1) := by decide +kernel
theorem dX4_take_129 : decode cX4_take 129 = .ok (.getfield 12, 3) := by decide +kernel
theorem dX4_take_132 : decode cX4_take 132 = .ok (.aload_n 0, 1) := by decide +kernel
theorem dX4_take_133 : decode cX4_take 133 = .ok (.getfield 25, 3) := by decide +kernel
theorem dX4_take_136 : decode cX4_take 136 = .ok (.iconst 0, 1) := by decide +kernel
theorem dX4_take_137 : decode cX4_take 137 = .ok (.iaload, 1) := by decide +kernel
theorem dX4_take_138 : decode cX4_take 138 = .ok (.invokevirtual 65, 3) := by decide +kernel
theorem dX4_take_141 : decode cX4_take 141 = .ok (.ifCond .eq 35, 3) := by decide +kernel
theorem dX4_take_144 : decode cX4_take 144 = .ok (.aload_n 0, 1) := by decide +kernel
theorem dX4_take_145 : decode cX4_take 145 = .ok (.getfield 21, 3) := by decide +kernel
theorem dX4_take_148 : decode cX4_take 148 = .ok (.aload_n 0, 1) := by decide +kernel
theorem dX4_take_149 : decode cX4_take 149 = .ok (.getfield 25, 3) := by decide +kernel
theorem dX4_take_152 : decode cX4_take 152 = .ok (.iconst 0, 1) := by decide +kernel
theorem dX4_take_153 : decode cX4_take 153 = .ok (.iaload, 1) := by decide +kernel
theorem dX4_take_154 : decode cX4_take 154 = .ok (.aload_n 0, 1) := by decide +kernel
theorem dX4_take_155 : decode cX4_take 155 = .ok (.getfield 25, 3) := by decide +kernel
theorem dX4_take_158 : decode cX4_take 158 = .ok (.iconst 1, 1) := by decide +kernel
theorem dX4_take_159 : decode cX4_take 159 = .ok (.iaload, 1) := by decide +kernel
theorem dX4_take_160 : decode cX4_take 160 = .ok (.aload_n 0, 1) := by decide +kernel
theorem dX4_take_161 : decode cX4_take 161 = .ok (.getfield 25, 3) := by decide +kernel
theorem dX4_take_164 : decode cX4_take 164 = .ok (.iconst 2, 1) := by decide +kernel
theorem dX4_take_165 : decode cX4_take 165 = .ok (.iaload, 1) := by decide +kernel
theorem dX4_take_166 : decode cX4_take 166 = .ok (.invokevirtual 68, 3) := by decide +kernel
theorem dX4_take_169 : decode cX4_take 169 = .ok (.ifCond .eq 7, 3) := by decide +kernel
theorem dX4_take_172 : decode cX4_take 172 = .ok (.iconst 1, 1) := by decide +kernel
theorem dX4_take_173 : decode cX4_take 173 = .ok (.goto 4, 3) := by decide +kernel
theorem dX4_take_176 : decode cX4_take 176 = .ok (.iconst 0, 1) := by decide +kernel
theorem dX4_take_177 : decode cX4_take 177 = .ok (.ireturn, 1) := by decide +kernel
theorem dX4_take_178 : decode cX4_take 178 = .ok (.aload_n 0, 1) := by decide +kernel
theorem dX4_take_179 : decode cX4_take 179 = .ok (.getfield 12, 3) := by decide +kernel
theorem dX4_take_182 : decode cX4_take 182 = .ok (.aload_n 0, 1) := by decide +kernel
theorem dX4_take_183 : decode cX4_take 183 = .ok (.getfield 25, 3) := by decide +kernel
theorem dX4_take_186 : decode cX4_take 186 = .ok (.iconst 0, 1) := by decide +kernel
theorem dX4_take_187 : decode cX4_take 187 = .ok (.iaload, 1) := by decide +kernel
theorem dX4_take_188 : decode cX4_take 188 = .ok (.aload_n 0, 1) := by decide +kernel
theorem dX4_take_189 : decode cX4_take 189 = .ok (.getfield 25, 3) := by decide +kernel
theorem dX4_take_192 : decode cX4_take 192 = .ok (.iconst 1, 1) := by decide +kernel
theorem dX4_take_193 : decode cX4_take 193 = .ok (.iaload, 1) := by decide +kernel
theorem dX4_take_194 : decode cX4_take 194 = .ok (.invokevirtual 71, 3) := by decide +kernel
theorem dX4_take_197 : decode cX4_take 197 = .ok (.ireturn, 1) := by decide +kernel
theorem dX4_take_198 : decode cX4_take 198 = .ok (.iconst 0, 1) := by decide +kernel
theorem dX4_take_199 : decode cX4_take 199 = .ok (.ireturn, 1) := by decide +kernel
end
section
theorem dX5_init_0 : decode cX5_init 0 = .ok (.aload_n 0, 1) := by decide +kernel
theorem dX5_init_1 : decode cX5_init 1 = .ok (.invokespecial 3, 3) := by decide +kernel
theorem dX5_init_4 : decode cX5_init 4 = .ok (.aload_n 0, 1) := by decide +kernel
theorem dX5_init_5 : decode cX5_init 5 = .ok (.bipush 121, 2) := by decide +kernel
theorem dX5_init_7 : decode cX5_init 7 = .ok (.newarray .int, 2) := by decide +kernel
theorem dX5_init_9 : decode cX5_init 9 = .ok (.putfield 9, 3) := by decide +kernel
theorem dX5_init_12 : decode cX5_init 12 = .ok (.aload_n 0, 1) := by decide +kernel
theorem dX5_init_13 : decode cX5_init 13 = .ok (.aload_n 1, 1) := by decide +kernel
theorem dX5_init_14 : decode cX5_init 14 = .ok (.putfield 15, 3) := by decide +kernel
theorem dX5_init_17 : decode cX5_init 17 = .ok (.aload_n 0, 1) := by decide +kernel
theorem dX5_init_18 : decode cX5_init 18 = .ok (.aload_n 2, 1) := by decide +kernel
theorem dX5_init_19 : decode cX5_init 19 = .ok (.putfield 19, 3) := by decide +kernel
theorem dX5_init_22 : decode cX5_init 22 = .ok (.aload_n 0, 1) := by decide +kernel
theorem dX5_init_23 : decode cX5_init 23 = .ok (.new 22, 3) := by decide +kernel
theorem dX5_init_26 : decode cX5_init 26 = .ok (.dup, 1) := by decide +kernel
theorem dX5_init_27 : decode cX5_init 27 = .ok (.aload_n 1, 1) := by decide +kernel
theorem dX5_init_28 : decode cX5_init 28 = .ok (.invokespecial 24, 3) := by decide +kernel
theorem dX5_init_31 : decode cX5_init 31 = .ok (.putfield 27, 3) := by decide +kernel
theorem dX5_init_34 : decode cX5_init 34 = .ok (.aload_n 0, 1) := by decide +kernel
theorem dX5_init_35 : decode cX5_init 35 = .ok (.new 22, 3) := by decide +kernel
theorem dX5_init_38 : decode cX5_init 38 = .ok (.dup, 1) := by decide +kernel
theorem dX5_init_39 : decode cX5_init 39 = .ok (.aload_n 1, 1) := by decide +kernel
theorem dX5_init_40 : decode cX5_init 40 = .ok (.invokespecial 24, 3) := by decide +kernel
theorem dX5_init_43 : decode cX5_init 43 = .ok (.putfield 31, 3) := by decide +kernel
theorem dX5_init_46 : decode cX5_init 46 = .ok (.aload_n 0, 1) := by decide +kernel
theorem dX5_init_47 : decode cX5_init 47 = .ok (.new 22, 3) := by decide +kernel
theorem dX5_init_50 : decode cX5_init 50 = .ok (.dup, 1) := by decide +kernel
theorem dX5_init_51 : decode cX5_init 51 = .ok (.aload_n 1, 1) := by decide +kernel
theorem dX5_init_52 : decode cX5_init 52 = .ok (.invokespecial 24, 3) := by decide +kernel
theorem dX5_init_55 : decode cX5_init 55 = .ok (.putfield 34, 3) := by decide +kernel
theorem dX5_init_58 : decode cX5_init 58 = .ok (.return_, 1) := by decide +kernel
theorem dX5_isOpen_0 : decode cX5_isOpen 0 = .ok (.aload_n 1, 1) := by decide +kernel
theorem dX5_isOpen_1 : decode cX5_isOpen 1 = .ok (.getfield 85, 3) := by decide +kernel
theorem dX5_isOpen_4 : decode cX5_isOpen 4 = .ok (.bipush (-4), 2) := by decide +kernel
theorem dX5_isOpen_6 : decode cX5_isOpen 6 = .ok (.if_icmp .ne 18, 3) := by decide +kernel
theorem dX5_isOpen_9 : decode cX5_isOpen 9 = .ok (.aload_n 1, 1) := by decide +kernel
theorem dX5_isOpen_10 : decode cX5_isOpen 10 = .ok (.aload_n 0, 1) := by decide +kernel
theorem dX5_isOpen_11 : decode cX5_isOpen 11 = .ok (.getfield 41, 3) := by decide +kernel
theorem dX5_isOpen_14 : decode cX5_isOpen 14 = .ok (.invokevirtual 88, 3) := by decide +kernel
theorem dX5_isOpen_17 : decode cX5_isOpen 17 = .ok (.ifCond .ne 7, 3) := by decide +kernel
theorem dX5_isOpen_20 : decode cX5_isOpen 20 = .ok (.iconst 1, 1) := by decide +kernel
theorem dX5_isOpen_21 : decode cX5_isOpen 21 = .ok (.goto 4, 3) := by decide +kernel
theorem dX5_isOpen_24 : decode cX5_isOpen 24 = .ok (.iconst 0, 1) := by decide +kernel
theorem dX5_isOpen_25 : decode cX5_isOpen 25 = .ok (.ireturn, 1) := by decide +kernel
theorem dX5_lookAhead_0 : decode cX5_lookAhead 0 = .ok (.aload_n 0, 1) := by decide +kernel
theorem dX5_lookAhead_1 : decode cX5_lookAhead 1 = .ok (.bipush (-4), 2) := by decide +kernel
theorem dX5_lookAhead_3 : decode cX5_lookAhead 3 = .ok (.putfield 78, 3) := by decide +kernel
theorem dX5_lookAhead_6 : decode cX5_lookAhead 6 = .ok (.aload_n 0, 1) := by decide +kernel
theorem dX5_lookAhead_7 : decode cX5_lookAhead 7 = .ok (.getfield 9, 3) := by decide +kernel
theorem dX5_lookAhead_10 : decode cX5_lookAhead 10 = .ok (.aload_n 0, 1) := by decide +kernel
theorem dX5_lookAhead_11 : decode cX5_lookAhead 11 = .ok (.getfield 15, 3) := by decide +kernel
theorem dX5_lookAhead_14 : decode cX5_lookAhead 14 = .ok (.getfield 59, 3) := by decide +kernel
theorem dX5_lookAhead_17 : decode cX5_lookAhead 17 = .ok (.iconst 0, 1) := by decide +kernel
theorem dX5_lookAhead_18 : decode cX5_lookAhead 18 = .ok (.iastore, 1) := by decide +kernel
theorem dX5_lookAhead_19 : decode cX5_lookAhead 19 = .ok (.aload_n 0, 1) := by decide +kernel
theorem dX5_lookAhead_20 : decode cX5_lookAhead 20 = .ok (.getfield 15, 3) := by decide +kernel
theorem dX5_lookAhead_23 : decode cX5_lookAhead 23 = .ok (.getfield 59, 3) := by decide +kernel
theorem dX5_lookAhead_26 : decode cX5_lookAhead 26 = .ok (.iconst 1, 1) := by decide +kernel
theorem dX5_lookAhead_27 : decode cX5_lookAhead 27 = .ok (.isub, 1) := by decide +kernel
theorem dX5_lookAhead_28 : decode cX5_lookAhead 28 = .ok (.istore_n 1, 1) := by decide +kernel
theorem dX5_lookAhead_29 : decode cX5_lookAhead 29 = .ok (.iload_n 1, 1) := by decide +kernel
theorem dX5_lookAhead_30 : decode cX5_lookAhead 30 = .ok (.ifCond .lt 75, 3) := by decide +kernel
theorem dX5_lookAhead_33 : decode cX5_lookAhead 33 = .ok (.aload_n 0, 1) := by decide +kernel
theorem dX5_lookAhead_34 : decode cX5_lookAhead 34 = .ok (.getfield 41, 3) := by decide +kernel
theorem dX5_lookAhead_37 : decode cX5_lookAhead 37 = .ok (.aload_n 0, 1) := by decide +kernel
theorem dX5_lookAhead_38 : decode cX5_lookAhead 38 = .ok (.getfield 19, 3) := by decide +kernel
theorem dX5_lookAhead_41 : decode cX5_lookAhead 41 = .ok (.iload_n 1, 1) := by decide +kernel
theorem dX5_lookAhead_42 : decode cX5_lookAhead 42 = .ok (.iaload, 1) := by decide +kernel
theorem dX5_lookAhead_43 : decode cX5_lookAhead 43 = .ok (.invokestatic 66, 3) := by decide +kernel
theorem dX5_lookAhead_46 : decode cX5_lookAhead 46 = .ok (.istore_n 2, 1) := by decide +kernel
theorem dX5_lookAhead_47 : decode cX5_lookAhead 47 = .ok (.aload_n 0, 1) := by decide +kernel
theorem dX5_lookAhead_48 : decode cX5_lookAhead 48 = .ok (.getfield 9, 3) := by decide +kernel
theorem dX5_lookAhead_51 : decode cX5_lookAhead 51 = .ok (.iload_n 1, 1) := by decide +kernel
theorem dX5_lookAhead_52 : decode cX5_lookAhead 52 = .ok (.aload_n 0, 1) := by decide +kernel
theorem dX5_lookAhead_53 : decode cX5_lookAhead 53 = .ok (.getfield 9, 3) := by decide +kernel
theorem dX5_lookAhead_56 : decode cX5_lookAhead 56 = .ok (.iload_n 1, 1) := by decide +kernel
theorem dX5_lookAhead_57 : decode cX5_lookAhead 57 = .ok (.iconst 1, 1) := by decide +kernel
theorem dX5_lookAhead_58 : decode cX5_lookAhead 58 = .ok (.iadd, 1) := by decide +kernel
theorem dX5_lookAhead_59 : decode cX5_lookAhead 59 = .ok (.iaload, 1) := by decide +kernel
theorem dX5_lookAhead_60 : decode cX5_lookAhead 60 = .ok (.iload_n 2, 1) := by decide +kernel
theorem dX5_lookAhead_61 : decode cX5_lookAhead 61 = .ok (.ifCond .eq 17, 3) := by decide +kernel
theorem dX5_lookAhead_64 : decode cX5_lookAhead 64 = .ok (.bipush 60, 2) := by decide +kernel
theorem dX5_lookAhead_66 : decode cX5_lookAhead 66 = .ok (.aload_n 0, 1) := by decide +kernel
theorem dX5_lookAhead_67 : decode cX5_lookAhead 67 = .ok (.getfield 15, 3) := by decide +kernel
theorem dX5_lookAhead_70 : decode cX5_lookAhead 70 = .ok (.iload_n 1, 1) := by decide +kernel
theorem dX5_lookAhead_71 : decode cX5_lookAhead 71 = .ok (.invokevirtual 81, 3) := by decide +kernel
theorem dX5_lookAhead_74 : decode cX5_lookAhead 74 = .ok (.imul, 1) := by decide +kernel
theorem dX5_lookAhead_75 : decode cX5_lookAhead 75 = .ok (.goto 4, 3) := by decide +kernel
theorem dX5_lookAhead_78 : decode cX5_lookAhead 78 = .ok (.iconst 0, 1) := by decide +kernel
theorem dX5_lookAhead_79 : decode cX5_lookAhead 79 = .ok (.iadd, 1) := by decide +kernel
theorem dX5_lookAhead_80 : decode cX5_lookAhead 80 = .ok (.iastore, 1) := by decide +kernel
theorem dX5_lookAhead_81 : decode cX5_lookAhead 81 = .ok (.iload_n 2, 1) := by decide +kernel
theorem dX5_lookAhead_82 : decode cX5_lookAhead 82 = .ok (.ifCond .eq 17, 3) := by decide +kernel
theorem dX5_lookAhead_85 : decode cX5_lookAhead 85 = .ok (.aload_n 0, 1) := by decide +kernel
theorem dX5_lookAhead_86 : decode cX5_lookAhead 86 = .ok (.getfield 78, 3) := by decide +kernel
theorem dX5_lookAhead_89 : decode cX5_lookAhead 89 = .ok (.bipush (-4), 2) := by decide +kernel
theorem dX5_lookAhead_91 : decode cX5_lookAhead 91 = .ok (.if_icmp .ne 8, 3) := by decide +kernel
theorem dX5_lookAhead_94 : decode cX5_lookAhead 94 = .ok (.aload_n 0, 1) := by decide +kernel
theorem dX5_lookAhead_95 : decode cX5_lookAhead 95 = .ok (.iload_n 1, 1) := by decide +kernel
theorem dX5_lookAhead_96 : decode cX5_lookAhead 96 = .ok (.putfield 78, 3) := by decide +kernel
theorem dX5_lookAhead_99 : decode cX5_lookAhead 99 = .ok (.iinc 1 (-1), 3) := by decide +kernel
theorem dX5_lookAhead_102 : decode cX5_lookAhead 102 = .ok (.goto (-73), 3) := by decide +kernel
theorem dX5_lookAhead_105 : decode cX5_lookAhead 105 = .ok (.return_, 1) := by decide +kernel
theorem dX5_seek_0 : decode cX5_seek 0 = .ok (.aload_n 0, 1) := by decide +kernel
theorem dX5_seek_1 : decode cX5_seek 1 = .ok (.iload_n 2, 1) := by decide +kernel
theorem dX5_seek_2 : decode cX5_seek 2 = .ok (.putfield 37, 3) := by decide +kernel
theorem dX5_seek_5 : decode cX5_seek 5 = .ok (.aload_n 0, 1) := by decide +kernel
theorem dX5_seek_6 : decode cX5_seek 6 = .ok (.iload_n 1, 1) := by decide +kernel
theorem dX5_seek_7 : decode cX5_seek 7 = .ok (.putfield 41, 3) := by decide +kernel
theorem dX5_seek_10 : decode cX5_seek 10 = .ok (.aload_n 0, 1) := by decide +kernel
theorem dX5_seek_11 : decode cX5_seek 11 = .ok (.iconst 0, 1) := by decide +kernel
theorem dX5_seek_12 : decode cX5_seek 12 = .ok (.putfield 44, 3) := by decide +kernel
theorem dX5_seek_15 : decode cX5_seek 15 = .ok (.aload_n 0, 1) := by decide +kernel
theorem dX5_seek_16 : decode cX5_seek 16 = .ok (.getfield 15, 3) := by decide +kernel
theorem dX5_seek_19 : decode cX5_seek 19 = .ok (.getfield 48, 3) := by decide +kernel
theorem dX5_seek_22 : decode cX5_seek 22 = .ok (.iload_n 1, 1) := by decide +kernel
theorem dX5_seek_23 : decode cX5_seek 23 = .ok (.iaload, 1) := by decide +kernel
theorem dX5_seek_24 : decode cX5_seek 24 = .ok (.iconst 2, 1) := by decide +kernel
theorem dX5_seek_25 : decode cX5_seek 25 = .ok (.if_icmp .ne 5, 3) := by decide +kernel
theorem dX5_seek_28 : decode cX5_seek 28 = .ok (.iconst 0, 1) := by decide +kernel
theorem dX5_seek_29 : decode cX5_seek 29 = .ok (.ireturn, 1) := by decide +kernel
theorem dX5_seek_30 : decode cX5_seek 30 = .ok (.aload_n 0, 1) := by decide +kernel
theorem dX5_seek_31 : decode cX5_seek 31 = .ok (.invokevirtual 53, 3) := by decide +kernel
theorem dX5_seek_34 : decode cX5_seek 34 = .ok (.aload_n 0, 1) := by decide +kernel
theorem dX5_seek_35 : decode cX5_seek 35 = .ok (.getfield 27, 3) := by decide +kernel
theorem dX5_seek_38 : decode cX5_seek 38 = .ok (.aload_n 0, 1) := by decide +kernel
theorem dX5_seek_39 : decode cX5_seek 39 = .ok (.getfield 15, 3) := by decide +kernel
theorem dX5_seek_42 : decode cX5_seek 42 = .ok (.invokevirtual 56, 3) := by decide +kernel
theorem dX5_seek_45 : decode cX5_seek 45 = .ok (.iconst 0, 1) := by decide +kernel
theorem dX5_seek_46 : decode cX5_seek 46 = .ok (.istore_n 3, 1) := by decide +kernel
theorem dX5_seek_47 : decode cX5_seek 47 = .ok (.iload_n 3, 1) := by decide +kernel
theorem dX5_seek_48 : decode cX5_seek 48 = .ok (.aload_n 0, 1) := by decide +kernel
theorem dX5_seek_49 : decode cX5_seek 49 = .ok (.getfield 15, 3) := by decide +kernel
theorem dX5_seek_52 : decode cX5_seek 52 = .ok (.getfield 59, 3) := by decide +kernel
theorem dX5_seek_55 : decode cX5_seek 55 = .ok (.if_icmp .ge 62, 3) := by decide +kernel
theorem dX5_seek_58 : decode cX5_seek 58 = .ok (.aload_n 0, 1) := by decide +kernel
theorem dX5_seek_59 : decode cX5_seek 59 = .ok (.aload_n 0, 1) := by decide +kernel
theorem dX5_seek_60 : decode cX5_seek 60 = .ok (.getfield 27, 3) := by decide +kernel
theorem dX5_seek_63 : decode cX5_seek 63 = .ok (.invokevirtual 62, 3) := by decide +kernel
theorem dX5_seek_66 : decode cX5_seek 66 = .ok (.ifCond .eq 51, 3) := by decide +kernel
theorem dX5_seek_69 : decode cX5_seek 69 = .ok (.iload_n 3, 1) := by decide +kernel
theorem dX5_seek_70 : decode cX5_seek 70 = .ok (.ifCond .eq 21, 3) := by decide +kernel
theorem dX5_seek_73 : decode cX5_seek 73 = .ok (.aload_n 0, 1) := by decide +kernel
theorem dX5_seek_74 : decode cX5_seek 74 = .ok (.getfield 41, 3) := by decide +kernel
theorem dX5_seek_77 : decode cX5_seek 77 = .ok (.aload_n 0, 1) := by decide +kernel
theorem dX5_seek_78 : decode cX5_seek 78 = .ok (.getfield 19, 3) := by decide +kernel
theorem dX5_seek_81 : decode cX5_seek 81 = .ok (.iload_n 3, 1) := by decide +kernel
theorem dX5_seek_82 : decode cX5_seek 82 = .ok (.iconst 1, 1) := by decide +kernel
theorem dX5_seek_83 : decode cX5_seek 83 = .ok (.isub, 1) := by decide +kernel
theorem dX5_seek_84 : decode cX5_seek 84 = .ok (.iaload, 1) := by decide +kernel
theorem dX5_seek_85 : decode cX5_seek 85 = .ok (.invokestatic 66, 3) := by decide +kernel
theorem dX5_seek_88 : decode cX5_seek 88 = .ok (.ifCond .ne 8, 3) := by decide +kernel
theorem dX5_seek_91 : decode cX5_seek 91 = .ok (.aload_n 0, 1) := by decide +kernel
theorem dX5_seek_92 : decode cX5_seek 92 = .ok (.iload_n 3, 1) := by decide +kernel
theorem dX5_seek_93 : decode cX5_seek 93 = .ok (.invokevirtual 70, 3) := by decide +kernel
theorem dX5_seek_96 : decode cX5_seek 96 = .ok (.aload_n 0, 1) := by decide +kernel
theorem dX5_seek_97 : decode cX5_seek 97 = .ok (.getfield 27, 3) := by decide +kernel
theorem dX5_seek_100 : decode cX5_seek 100 = .ok (.iload_n 3, 1) := by decide +kernel
theorem dX5_seek_101 : decode cX5_seek 101 = .ok (.aload_n 0, 1) := by decide +kernel
theorem dX5_seek_102 : decode cX5_seek 102 = .ok (.getfield 19, 3) := by decide +kernel
theorem dX5_seek_105 : decode cX5_seek 105 = .ok (.iload_n 3, 1) := by decide +kernel
theorem dX5_seek_106 : decode cX5_seek 106 = .ok (.iaload, 1) := by decide +kernel
theorem dX5_seek_107 : decode cX5_seek 107 = .ok (.invokevirtual 74, 3) := by decide +kernel
theorem dX5_seek_110 : decode cX5_seek 110 = .ok (.pop, 1) := by decide +kernel
theorem dX5_seek_111 : decode cX5_seek 111 = .ok (.iinc 3 1, 3) := by decide +kernel
theorem dX5_seek_114 : decode cX5_seek 114 = .ok (.goto (-67), 3) := by decide +kernel
theorem dX5_seek_117 : decode cX5_seek 117 = .ok (.aload_n 0, 1) := by decide +kernel
theorem dX5_seek_118 : decode cX5_seek 118 = .ok (.getfield 44, 3) := by decide +kernel
theorem dX5_seek_121 : decode cX5_seek 121 = .ok (.ireturn, 1) := by decide +kernel
theorem dX5_seekFrom_0 : decode cX5_seekFrom 0 = .ok (.aload_n 0, 1) := by decide +kernel
theorem dX5_seekFrom_1 : decode cX5_seekFrom 1 = .ok (.getfield 31, 3) := by decide +kernel
theorem dX5_seekFrom_4 : decode cX5_seekFrom 4 = .ok (.aload_n 0, 1) := by decide +kernel
theorem dX5_seekFrom_5 : decode cX5_seekFrom 5 = .ok (.getfield 27, 3) := by decide +kernel
theorem dX5_seekFrom_8 : decode cX5_seekFrom 8 = .ok (.invokevirtual 92, 3) := by decide +kernel
theorem dX5_seekFrom_11 : decode cX5_seekFrom 11 = .ok (.iload_n 1, 1) := by decide +kernel
theorem dX5_seekFrom_12 : decode cX5_seekFrom 12 = .ok (.istore_n 2, 1) := by decide +kernel
theorem dX5_seekFrom_13 : decode cX5_seekFrom 13 = .ok (.iload_n 2, 1) := by decide +kernel
theorem dX5_seekFrom_14 : decode cX5_seekFrom 14 = .ok (.aload_n 0, 1) := by decide +kernel
theorem dX5_seekFrom_15 : decode cX5_seekFrom 15 = .ok (.getfield 15, 3) := by decide +kernel
theorem dX5_seekFrom_18 : decode cX5_seekFrom 18 = .ok (.getfield 59, 3) := by decide +kernel
theorem dX5_seekFrom_21 : decode cX5_seekFrom 21 = .ok (.if_icmp .ge 64, 3) := by decide +kernel
theorem dX5_seekFrom_24 : decode cX5_seekFrom 24 = .ok (.aload_n 0, 1) := by decide +kernel
theorem dX5_seekFrom_25 : decode cX5_seekFrom 25 = .ok (.aload_n 0, 1) := by decide +kernel
theorem dX5_seekFrom_26 : decode cX5_seekFrom 26 = .ok (.getfield 31, 3) := by decide +kernel
theorem dX5_seekFrom_29 : decode cX5_seekFrom 29 = .ok (.invokevirtual 62, 3) := by decide +kernel
theorem dX5_seekFrom_32 : decode cX5_seekFrom 32 = .ok (.ifCond .eq 53, 3) := by decide +kernel
theorem dX5_seekFrom_35 : decode cX5_seekFrom 35 = .ok (.aload_n 0, 1) := by decide +kernel
theorem dX5_seekFrom_36 : decode cX5_seekFrom 36 = .ok (.getfield 31, 3) := by decide +kernel
theorem dX5_seekFrom_39 : decode cX5_seekFrom 39 = .ok (.iload_n 2, 1) := by decide +kernel
theorem dX5_seekFrom_40 : decode cX5_seekFrom 40 = .ok (.aload_n 0, 1) := by decide +kernel
theorem dX5_seekFrom_41 : decode cX5_seekFrom 41 = .ok (.getfield 19, 3) := by decide +kernel
theorem dX5_seekFrom_44 : decode cX5_seekFrom 44 = .ok (.iload_n 2, 1) := by decide +kernel
theorem dX5_seekFrom_45 : decode cX5_seekFrom 45 = .ok (.iaload, 1) := by decide +kernel
theorem dX5_seekFrom_46 : decode cX5_seekFrom 46 = .ok (.iconst 1, 1) := by decide +kernel
theorem dX5_seekFrom_47 : decode cX5_seekFrom 47 = .ok (.aload_n 0, 1) := by decide +kernel
theorem dX5_seekFrom_48 : decode cX5_seekFrom 48 = .ok (.getfield 41, 3) := by decide +kernel
theorem dX5_seekFrom_51 : decode cX5_seekFrom 51 = .ok (.ishl, 1) := by decide +kernel
theorem dX5_seekFrom_52 : decode cX5_seekFrom 52 = .ok (.ior, 1) := by decide +kernel
theorem dX5_seekFrom_53 : decode cX5_seekFrom 53 = .ok (.invokevirtual 74, 3) := by decide +kernel
theorem dX5_seekFrom_56 : decode cX5_seekFrom 56 = .ok (.pop, 1) := by decide +kernel
theorem dX5_seekFrom_57 : decode cX5_seekFrom 57 = .ok (.aload_n 0, 1) := by decide +kernel
theorem dX5_seekFrom_58 : decode cX5_seekFrom 58 = .ok (.getfield 41, 3) := by decide +kernel
theorem dX5_seekFrom_61 : decode cX5_seekFrom 61 = .ok (.aload_n 0, 1) := by decide +kernel
theorem dX5_seekFrom_62 : decode cX5_seekFrom 62 = .ok (.getfield 19, 3) := by decide +kernel
theorem dX5_seekFrom_65 : decode cX5_seekFrom 65 = .ok (.iload_n 2, 1) := by decide +kernel
theorem dX5_seekFrom_66 : decode cX5_seekFrom 66 = .ok (.iaload, 1) := by decide +kernel
theorem dX5_seekFrom_67 : decode cX5_seekFrom 67 = .ok (.invokestatic 66, 3) := by decide +kernel
theorem dX5_seekFrom_70 : decode cX5_seekFrom 70 = .ok (.ifCond .ne 9, 3) := by decide +kernel
theorem dX5_seekFrom_73 : decode cX5_seekFrom 73 = .ok (.aload_n 0, 1) := by decide +kernel
theorem dX5_seekFrom_74 : decode cX5_seekFrom 74 = .ok (.iload_n 1, 1) := by decide +kernel
theorem dX5_seekFrom_75 : decode cX5_seekFrom 75 = .ok (.iload_n 2, 1) := by decide +kernel
theorem dX5_seekFrom_76 : decode cX5_seekFrom 76 = .ok (.invokevirtual 96, 3) := by decide +kernel
theorem dX5_seekFrom_79 : decode cX5_seekFrom 79 = .ok (.iinc 2 1, 3) := by decide +kernel
theorem dX5_seekFrom_82 : decode cX5_seekFrom 82 = .ok (.goto (-69), 3) := by decide +kernel
theorem dX5_seekFrom_85 : decode cX5_seekFrom 85 = .ok (.return_, 1) := by decide +kernel
theorem dX5_weigh_0 : decode cX5_weigh 0 = .ok (.aload_n 0, 1) := by decide +kernel
theorem dX5_weigh_1 : decode cX5_weigh 1 = .ok (.getfield 31, 3) := by decide +kernel
theorem dX5_weigh_4 : decode cX5_weigh 4 = .ok (.aload_n 0, 1) := by decide +kernel
theorem dX5_weigh_5 : decode cX5_weigh 5 = .ok (.getfield 41, 3) := by decide +kernel
theorem dX5_weigh_8 : decode cX5_weigh 8 = .ok (.invokevirtual 100, 3) := by decide +kernel
theorem dX5_weigh_11 : decode cX5_weigh 11 = .ok (.aload_n 0, 1) := by decide +kernel
theorem dX5_weigh_12 : decode cX5_weigh 12 = .ok (.getfield 9, 3) := by decide +kernel
theorem dX5_weigh_15 : decode cX5_weigh 15 = .ok (.iload_n 2, 1) := by decide +kernel
theorem dX5_weigh_16 : decode cX5_weigh 16 = .ok (.iconst 1, 1) := by decide +kernel
theorem dX5_weigh_17 : decode cX5_weigh 17 = .ok (.iadd, 1) := by decide +kernel
theorem dX5_weigh_18 : decode cX5_weigh 18 = .ok (.iaload, 1) := by decide +kernel
theorem dX5_weigh_19 : decode cX5_weigh 19 = .ok (.iadd, 1) := by decide +kernel
theorem dX5_weigh_20 : decode cX5_weigh 20 = .ok (.aload_n 0, 1) := by decide +kernel
theorem dX5_weigh_21 : decode cX5_weigh 21 = .ok (.getfield 37, 3) := by decide +kernel
theorem dX5_weigh_24 : decode cX5_weigh 24 = .ok (.if_icmp .gt 4, 3) := by decide +kernel
theorem dX5_weigh_27 : decode cX5_weigh 27 = .ok (.return_, 1) := by decide +kernel
theorem dX5_weigh_28 : decode cX5_weigh 28 = .ok (.aload_n 0, 1) := by decide +kernel
theorem dX5_weigh_29 : decode cX5_weigh 29 = .ok (.getfield 34, 3) := by decide +kernel
theorem dX5_weigh_32 : decode cX5_weigh 32 = .ok (.aload_n 0, 1) := by decide +kernel
theorem dX5_weigh_33 : decode cX5_weigh 33 = .ok (.getfield 31, 3) := by decide +kernel
theorem dX5_weigh_36 : decode cX5_weigh 36 = .ok (.invokevirtual 92, 3) := by decide +kernel
theorem dX5_weigh_39 : decode cX5_weigh 39 = .ok (.iload_n 2, 1) := by decide +kernel
theorem dX5_weigh_40 : decode cX5_weigh 40 = .ok (.iconst 1, 1) := by decide +kernel
theorem dX5_weigh_41 : decode cX5_weigh 41 = .ok (.iadd, 1) := by decide +kernel
theorem dX5_weigh_42 : decode cX5_weigh 42 = .ok (.istore_n 3, 1) := by decide +kernel
theorem dX5_weigh_43 : decode cX5_weigh 43 = .ok (.iload_n 3, 1) := by decide +kernel
theorem dX5_weigh_44 : decode cX5_weigh 44 = .ok (.aload_n 0, 1) := by decide +kernel
theorem dX5_weigh_45 : decode cX5_weigh 45 = .ok (.getfield 78, 3) := by decide +kernel
theorem dX5_weigh_48 : decode cX5_weigh 48 = .ok (.if_icmp .gt 35, 3) := by decide +kernel
theorem dX5_weigh_51 : decode cX5_weigh 51 = .ok (.aload_n 0, 1) := by decide +kernel
theorem dX5_weigh_52 : decode cX5_weigh 52 = .ok (.aload_n 0, 1) := by decide +kernel
theorem dX5_weigh_53 : decode cX5_weigh 53 = .ok (.getfield 34, 3) := by decide +kernel
theorem dX5_weigh_56 : decode cX5_weigh 56 = .ok (.invokevirtual 62, 3) := by decide +kernel
theorem dX5_weigh_59 : decode cX5_weigh 59 = .ok (.ifCond .eq 24, 3) := by decide +kernel
theorem dX5_weigh_62 : decode cX5_weigh 62 = .ok (.aload_n 0, 1) := by decide +kernel
theorem dX5_weigh_63 : decode cX5_weigh 63 = .ok (.getfield 34, 3) := by decide +kernel
theorem dX5_weigh_66 : decode cX5_weigh 66 = .ok (.iload_n 3, 1) := by decide +kernel
theorem dX5_weigh_67 : decode cX5_weigh 67 = .ok (.aload_n 0, 1) := by decide +kernel
theorem dX5_weigh_68 : decode cX5_weigh 68 = .ok (.getfield 19, 3) := by decide +kernel
theorem dX5_weigh_71 : decode cX5_weigh 71 = .ok (.iload_n 3, 1) := by decide +kernel
theorem dX5_weigh_72 : decode cX5_weigh 72 = .ok (.iaload, 1) := by decide +kernel
theorem dX5_weigh_73 : decode cX5_weigh 73 = .ok (.invokevirtual 74, 3) := by decide +kernel
theorem dX5_weigh_76 : decode cX5_weigh 76 = .ok (.pop, 1) := by decide +kernel
theorem dX5_weigh_77 : decode cX5_weigh 77 = .ok (.iinc 3 1, 3) := by decide +kernel
theorem dX5_weigh_80 : decode cX5_weigh 80 = .ok (.goto (-37), 3) := by decide +kernel
theorem dX5_weigh_83 : decode cX5_weigh 83 = .ok (.aload_n 0, 1) := by decide +kernel
theorem dX5_weigh_84 : decode cX5_weigh 84 = .ok (.getfield 34, 3) := by decide +kernel
theorem dX5_weigh_87 : decode cX5_weigh 87 = .ok (.aload_n 0, 1) := by decide +kernel
theorem dX5_weigh_88 : decode cX5_weigh 88 = .ok (.getfield 41, 3) := by decide +kernel
theorem dX5_weigh_91 : decode cX5_weigh 91 = .ok (.invokevirtual 100, 3) := by decide +kernel
theorem dX5_weigh_94 : decode cX5_weigh 94 = .ok (.aload_n 0, 1) := by decide +kernel
theorem dX5_weigh_95 : decode cX5_weigh 95 = .ok (.getfield 37, 3) := by decide +kernel
theorem dX5_weigh_98 : decode cX5_weigh 98 = .ok (.if_icmp .le 33, 3) := by decide +kernel
theorem dX5_weigh_101 : decode cX5_weigh 101 = .ok (.aload_n 0, 1) := by decide +kernel
theorem dX5_weigh_102 : decode cX5_weigh 102 = .ok (.aload_n 0, 1) := by decide +kernel
theorem dX5_weigh_103 : decode cX5_weigh 103 = .ok (.getfield 34, 3) := by decide +kernel
theorem dX5_weigh_106 : decode cX5_weigh 106 = .ok (.aload_n 0, 1) := by decide +kernel
theorem dX5_weigh_107 : decode cX5_weigh 107 = .ok (.getfield 41, 3) := by decide +kernel
theorem dX5_weigh_110 : decode cX5_weigh 110 = .ok (.invokevirtual 100, 3) := by decide +kernel
theorem dX5_weigh_113 : decode cX5_weigh 113 = .ok (.putfield 37, 3) := by decide +kernel
theorem dX5_weigh_116 : decode cX5_weigh 116 = .ok (.aload_n 0, 1) := by decide +kernel
theorem dX5_weigh_117 : decode cX5_weigh 117 = .ok (.iload_n 1, 1) := by decide +kernel
theorem dX5_weigh_118 : decode cX5_weigh 118 = .ok (.putfield 102, 3) := by decide +kernel
theorem dX5_weigh_121 : decode cX5_weigh 121 = .ok (.aload_n 0, 1) := by decide +kernel
theorem dX5_weigh_122 : decode cX5_weigh 122 = .ok (.iload_n 2, 1) := by decide +kernel
theorem dX5_weigh_123 : decode cX5_weigh 123 = .ok (.putfield 105, 3) := by decide +kernel
theorem dX5_weigh_126 : decode cX5_weigh 126 = .ok (.aload_n 0, 1) := by decide +kernel
theorem dX5_weigh_127 : decode cX5_weigh 127 = .ok (.iconst 1, 1) := by decide +kernel
theorem dX5_weigh_128 : decode cX5_weigh 128 = .ok (.putfield 44, 3) := by decide +kernel
theorem dX5_weigh_131 : decode cX5_weigh 131 = .ok (.return_, 1) := by decide +kernel
theorem dX6_add_0 : decode cX6_add 0 = .ok (.aload_n 0, 1) := by decide +kernel
theorem dX6_add_1 : decode cX6_add 1 = .ok (.invokevirtual 25, 3) := by decide +kernel
theorem dX6_add_4 : decode cX6_add 4 = .ok (.ifCond .ne 8, 3) := by decide +kernel
theorem dX6_add_7 : decode cX6_add 7 = .ok (.iload_n 2, 1) := by decide +kernel
theorem dX6_add_8 : decode cX6_add 8 = .ok (.iload_n 3, 1) := by decide +kernel
theorem dX6_add_9 : decode cX6_add 9 = .ok (.if_icmp .le 5, 3) := by decide +kernel
theorem dX6_add_12 : decode cX6_add 12 = .ok (.iconst 0, 1) := by decide +kernel
theorem dX6_add_13 : decode cX6_add 13 = .ok (.ireturn, 1) := by decide +kernel
theorem dX6_add_14 : decode cX6_add 14 = .ok (.aload_n 0, 1) := by decide +kernel
theorem dX6_add_15 : decode cX6_add 15 = .ok (.getfield 9, 3) := by decide +kernel
theorem dX6_add_18 : decode cX6_add 18 = .ok (.aload_n 0, 1) := by decide +kernel
theorem dX6_add_19 : decode cX6_add 19 = .ok (.getfield 21, 3) := by decide +kernel
theorem dX6_add_22 : decode cX6_add 22 = .ok (.iload_n 1, 1) := by decide +kernel
theorem dX6_add_23 : decode cX6_add 23 = .ok (.iastore, 1) := by decide +kernel
theorem dX6_add_24 : decode cX6_add 24 = .ok (.aload_n 0, 1) := by decide +kernel
theorem dX6_add_25 : decode cX6_add 25 = .ok (.getfield 15, 3) := by decide +kernel
theorem dX6_add_28 : decode cX6_add 28 = .ok (.aload_n 0, 1) := by decide +kernel
theorem dX6_add_29 : decode cX6_add 29 = .ok (.getfield 21, 3) := by decide +kernel
theorem dX6_add_32 : decode cX6_add 32 = .ok (.iload_n 2, 1) := by decide +kernel
theorem dX6_add_33 : decode cX6_add 33 = .ok (.iastore, 1) := by decide +kernel
theorem dX6_add_34 : decode cX6_add 34 = .ok (.aload_n 0, 1) := by decide +kernel
theorem dX6_add_35 : decode cX6_add 35 = .ok (.getfield 18, 3) := by decide +kernel
theorem dX6_add_38 : decode cX6_add 38 = .ok (.aload_n 0, 1) := by decide +kernel
theorem dX6_add_39 : decode cX6_add 39 = .ok (.getfield 21, 3) := by decide +kernel
theorem dX6_add_42 : decode cX6_add 42 = .ok (.iload_n 3, 1) := by decide +kernel
theorem dX6_add_43 : decode cX6_add 43 = .ok (.iastore, 1) := by decide +kernel
theorem dX6_add_44 : decode cX6_add 44 = .ok (.aload_n 0, 1) := by decide +kernel
theorem dX6_add_45 : decode cX6_add 45 = .ok (.dup, 1) := by decide +kernel
theorem dX6_add_46 : decode cX6_add 46 = .ok (.getfield 21, 3) := by decide +kernel
theorem dX6_add_49 : decode cX6_add 49 = .ok (.iconst 1, 1) := by decide +kernel
theorem dX6_add_50 : decode cX6_add 50 = .ok (.iadd, 1) := by decide +kernel
theorem dX6_add_51 : decode cX6_add 51 = .ok (.putfield 21, 3) := by decide +kernel
theorem dX6_add_54 : decode cX6_add 54 = .ok (.iconst 1, 1) := by decide +kernel
theorem dX6_add_55 : decode cX6_add 55 = .ok (.ireturn, 1) := by decide +kernel
theorem dX6_copy_0 : decode cX6_copy 0 = .ok (.aload_n 0, 1) := by decide +kernel
theorem dX6_copy_1 : decode cX6_copy 1 = .ok (.aload_n 1, 1) := by decide +kernel
theorem dX6_copy_2 : decode cX6_copy 2 = .ok (.getfield 21, 3) := by decide +kernel
theorem dX6_copy_5 : decode cX6_copy 5 = .ok (.putfield 21, 3) := by decide +kernel
theorem dX6_copy_8 : decode cX6_copy 8 = .ok (.aload_n 1, 1) := by decide +kernel
theorem dX6_copy_9 : decode cX6_copy 9 = .ok (.getfield 9, 3) := by decide +kernel
theorem dX6_copy_12 : decode cX6_copy 12 = .ok (.iconst 0, 1) := by decide +kernel
theorem dX6_copy_13 : decode cX6_copy 13 = .ok (.aload_n 0, 1) := by decide +kernel
theorem dX6_copy_14 : decode cX6_copy 14 = .ok (.getfield 9, 3) := by decide +kernel
theorem dX6_copy_17 : decode cX6_copy 17 = .ok (.iconst 0, 1) := by decide +kernel
theorem dX6_copy_18 : decode cX6_copy 18 = .ok (.bipush 9, 2) := by decide +kernel
theorem dX6_copy_20 : decode cX6_copy 20 = .ok (.invokestatic 29, 3) := by decide +kernel
theorem dX6_copy_23 : decode cX6_copy 23 = .ok (.aload_n 1, 1) := by decide +kernel
theorem dX6_copy_24 : decode cX6_copy 24 = .ok (.getfield 15, 3) := by decide +kernel
theorem dX6_copy_27 : decode cX6_copy 27 = .ok (.iconst 0, 1) := by decide +kernel
theorem dX6_copy_28 : decode cX6_copy 28 = .ok (.aload_n 0, 1) := by decide +kernel
theorem dX6_copy_29 : decode cX6_copy 29 = .ok (.getfield 15, 3) := by decide +kernel
theorem dX6_copy_32 : decode cX6_copy 32 = .ok (.iconst 0, 1) := by decide +kernel
theorem dX6_copy_33 : decode cX6_copy 33 = .ok (.bipush 9, 2) := by decide +kernel
theorem dX6_copy_35 : decode cX6_copy 35 = .ok (.invokestatic 29, 3) := by decide +kernel
theorem dX6_copy_38 : decode cX6_copy 38 = .ok (.aload_n 1, 1) := by decide +kernel
theorem dX6_copy_39 : decode cX6_copy 39 = .ok (.getfield 18, 3) := by decide +kernel
theorem dX6_copy_42 : decode cX6_copy 42 = .ok (.iconst 0, 1) := by decide +kernel
theorem dX6_copy_43 : decode cX6_copy 43 = .ok (.aload_n 0, 1) := by decide +kernel
theorem dX6_copy_44 : decode cX6_copy 44 = .ok (.getfield 18, 3) := by decide +kernel
theorem dX6_copy_47 : decode cX6_copy 47 = .ok (.iconst 0, 1) := by decide +kernel
theorem dX6_copy_48 : decode cX6_copy 48 = .ok (.bipush 9, 2) := by decide +kernel
theorem dX6_copy_50 : decode cX6_copy 50 = .ok (.invokestatic 29, 3) := by decide +kernel
theorem dX6_copy_53 : decode cX6_copy 53 = .ok (.return_, 1) := by decide +kernel
theorem dX6_drop_0 : decode cX6_drop 0 = .ok (.iload_n 1, 1) := by decide +kernel
theorem dX6_drop_1 : decode cX6_drop 1 = .ok (.istore_n 2, 1) := by decide +kernel
theorem dX6_drop_2 : decode cX6_drop 2 = .ok (.iload_n 2, 1) := by decide +kernel
theorem dX6_drop_3 : decode cX6_drop 3 = .ok (.iconst 1, 1) := by decide +kernel
theorem dX6_drop_4 : decode cX6_drop 4 = .ok (.iadd, 1) := by decide +kernel
theorem dX6_drop_5 : decode cX6_drop 5 = .ok (.aload_n 0, 1) := by decide +kernel
theorem dX6_drop_6 : decode cX6_drop 6 = .ok (.getfield 21, 3) := by decide +kernel
theorem dX6_drop_9 : decode cX6_drop 9 = .ok (.if_icmp .ge 51, 3) := by decide +kernel
theorem dX6_drop_12 : decode cX6_drop 12 = .ok (.aload_n 0, 1) := by decide +kernel
theorem dX6_drop_13 : decode cX6_drop 13 = .ok (.getfield 9, 3) := by decide +kernel
theorem dX6_drop_16 : decode cX6_drop 16 = .ok (.iload_n 2, 1) := by decide +kernel
theorem dX6_drop_17 : decode cX6_drop 17 = .ok (.aload_n 0, 1) := by decide +kernel
theorem dX6_drop_18 : decode cX6_drop 18 = .ok (.getfield 9, 3) := by decide +kernel
theorem dX6_drop_21 : decode cX6_drop 21 = .ok (.iload_n 2, 1) := by decide +kernel
theorem dX6_drop_22 : decode cX6_drop 22 = .ok (.iconst 1, 1) := by decide +kernel
theorem dX6_drop_23 : decode cX6_drop 23 = .ok (.iadd, 1) := by decide +kernel
theorem dX6_drop_24 : decode cX6_drop 24 = .ok (.iaload, 1) := by decide +kernel
theorem dX6_drop_25 : decode cX6_drop 25 = .ok (.iastore, 1) := by decide +kernel
theorem dX6_drop_26 : decode cX6_drop 26 = .ok (.aload_n 0, 1) := by decide +kernel
theorem dX6_drop_27 : decode cX6_drop 27 = .ok (.getfield 15, 3) := by decide +kernel
theorem dX6_drop_30 : decode cX6_drop 30 = .ok (.iload_n 2, 1) := by decide +kernel
theorem dX6_drop_31 : decode cX6_drop 31 = .ok (.aload_n 0, 1) := by decide +kernel
theorem dX6_drop_32 : decode cX6_drop 32 = .ok (.getfield 15, 3) := by decide +kernel
theorem dX6_drop_35 : decode cX6_drop 35 = .ok (.iload_n 2, 1) := by decide +kernel
theorem dX6_drop_36 : decode cX6_drop 36 = .ok (.iconst 1, 1) := by decide +kernel
theorem dX6_drop_37 : decode cX6_drop 37 = .ok (.iadd, 1) := by decide +kernel
theorem dX6_drop_38 : decode cX6_drop 38 = .ok (.iaload, 1) := by decide +kernel
theorem dX6_drop_39 : decode cX6_drop 39 = .ok (.iastore, 1) := by decide +kernel
theorem dX6_drop_40 : decode cX6_drop 40 = .ok (.aload_n 0, 1) := by decide +kernel
theorem dX6_drop_41 : decode cX6_drop 41 = .ok (.getfield 18, 3) := by decide +kernel
theorem dX6_drop_44 : decode cX6_drop 44 = .ok (.iload_n 2, 1) := by decide +kernel
theorem dX6_drop_45 : decode cX6_drop 45 = .ok (.aload_n 0, 1) := by decide +kernel
theorem dX6_drop_46 : decode cX6_drop 46 = .ok (.getfield 18, 3) := by decide +kernel
theorem dX6_drop_49 : decode cX6_drop 49 = .ok (.iload_n 2, 1) := by decide +kernel
theorem dX6_drop_50 : decode cX6_drop 50 = .ok (.iconst 1, 1) := by decide +kernel
theorem dX6_drop_51 : decode cX6_drop 51 = .ok (.iadd, 1) := by decide +kernel
theorem dX6_drop_52 : decode cX6_drop 52 = .ok (.iaload, 1) := by decide +kernel
theorem dX6_drop_53 : decode cX6_drop 53 = .ok (.iastore, 1) := by decide +kernel
theorem dX6_drop_54 : decode cX6_drop 54 = .ok (.iinc 2 1, 3) := by decide +kernel
theorem dX6_drop_57 : decode cX6_drop 57 = .ok (.goto (-55), 3) := by decide +kernel
theorem dX6_drop_60 : decode cX6_drop 60 = .ok (.aload_n 0, 1) := by decide +kernel
theorem dX6_drop_61 : decode cX6_drop 61 = .ok (.dup, 1) := by decide +kernel
theorem dX6_drop_62 : decode cX6_drop 62 = .ok (.getfield 21, 3) := by decide +kernel
theorem dX6_drop_65 : decode cX6_drop 65 = .ok (.iconst 1, 1) := by decide +kernel
theorem dX6_drop_66 : decode cX6_drop 66 = .ok (.isub, 1) := by decide +kernel
theorem dX6_drop_67 : decode cX6_drop 67 = .ok (.putfield 21, 3) := by decide +kernel
theorem dX6_drop_70 : decode cX6_drop 70 = .ok (.return_, 1) := by decide +kernel
theorem dX6_has_0 : decode cX6_has 0 = .ok (.iload_n 1, 1) := by decide +kernel
theorem dX6_has_1 : decode cX6_has 1 = .ok (.ifCond .lt 15, 3) := by decide +kernel
theorem dX6_has_4 : decode cX6_has 4 = .ok (.iload_n 1, 1) := by decide +kernel
theorem dX6_has_5 : decode cX6_has 5 = .ok (.aload_n 0, 1) := by decide +kernel
theorem dX6_has_6 : decode cX6_has 6 = .ok (.getfield 21, 3) := by decide +kernel
theorem dX6_has_9 : decode cX6_has 9 = .ok (.if_icmp .ge 7, 3) := by decide +kernel
theorem dX6_has_12 : decode cX6_has 12 = .ok (.iconst 1, 1) := by decide +kernel
theorem dX6_has_13 : decode cX6_has 13 = .ok (.goto 4, 3) := by decide +kernel
theorem dX6_has_16 : decode cX6_has 16 = .ok (.iconst 0, 1) := by decide +kernel
theorem dX6_has_17 : decode cX6_has 17 = .ok (.ireturn, 1) := by decide +kernel
theorem dX6_init_0 : decode cX6_init 0 = .ok (.aload_n 0, 1) := by decide +kernel
theorem dX6_init_1 : decode cX6_init 1 = .ok (.invokespecial 3, 3) := by decide +kernel
theorem dX6_init_4 : decode cX6_init 4 = .ok (.aload_n 0, 1) := by decide +kernel
theorem dX6_init_5 : decode cX6_init 5 = .ok (.bipush 9, 2) := by decide +kernel
theorem dX6_init_7 : decode cX6_init 7 = .ok (.newarray .int, 2) := by decide +kernel
theorem dX6_init_9 : decode cX6_init 9 = .ok (.putfield 9, 3) := by decide +kernel
theorem dX6_init_12 : decode cX6_init 12 = .ok (.aload_n 0, 1) := by decide +kernel
theorem dX6_init_13 : decode cX6_init 13 = .ok (.bipush 9, 2) := by decide +kernel
theorem dX6_init_15 : decode cX6_init 15 = .ok (.newarray .int, 2) := by decide +kernel
theorem dX6_init_17 : decode cX6_init 17 = .ok (.putfield 15, 3) := by decide +kernel
theorem dX6_init_20 : decode cX6_init 20 = .ok (.aload_n 0, 1) := by decide +kernel
theorem dX6_init_21 : decode cX6_init 21 = .ok (.bipush 9, 2) := by decide +kernel
theorem dX6_init_23 : decode cX6_init 23 = .ok (.newarray .int, 2) := by decide +kernel
theorem dX6_init_25 : decode cX6_init 25 = .ok (.putfield 18, 3) := by decide +kernel
theorem dX6_init_28 : decode cX6_init 28 = .ok (.return_, 1) := by decide +kernel
theorem dX6_isFull_0 : decode cX6_isFull 0 = .ok (.aload_n 0, 1) := by decide +kernel
theorem dX6_isFull_1 : decode cX6_isFull 1 = .ok (.getfield 21, 3) := by decide +kernel
theorem dX6_isFull_4 : decode cX6_isFull 4 = .ok (.bipush 9, 2) := by decide +kernel
theorem dX6_isFull_6 : decode cX6_isFull 6 = .ok (.if_icmp .lt 7, 3) := by decide +kernel
theorem dX6_isFull_9 : decode cX6_isFull 9 = .ok (.iconst 1, 1) := by decide +kernel
theorem dX6_isFull_10 : decode cX6_isFull 10 = .ok (.goto 4, 3) := by decide +kernel
theorem dX6_isFull_13 : decode cX6_isFull 13 = .ok (.iconst 0, 1) := by decide +kernel
theorem dX6_isFull_14 : decode cX6_isFull 14 = .ok (.ireturn, 1) := by decide +kernel
theorem dX6_tellDuty_0 : decode cX6_tellDuty 0 = .ok (.iconst 0, 1) := by decide +kernel
theorem dX6_tellDuty_1 : decode cX6_tellDuty 1 = .ok (.istore 4, 2) := by decide +kernel
theorem dX6_tellDuty_3 : decode cX6_tellDuty 3 = .ok (.iload 4, 2) := by decide +kernel
theorem dX6_tellDuty_5 : decode cX6_tellDuty 5 = .ok (.iload_n 2, 1) := by decide +kernel
theorem dX6_tellDuty_6 : decode cX6_tellDuty 6 = .ok (.if_icmp .ge 14, 3) := by decide +kernel
theorem dX6_tellDuty_9 : decode cX6_tellDuty 9 = .ok (.aload_n 3, 1) := by decide +kernel
theorem dX6_tellDuty_10 : decode cX6_tellDuty 10 = .ok (.iload 4, 2) := by decide +kernel
theorem dX6_tellDuty_12 : decode cX6_tellDuty 12 = .ok (.iconst 0, 1) := by decide +kernel
theorem dX6_tellDuty_13 : decode cX6_tellDuty 13 = .ok (.iastore, 1) := by decide +kernel
theorem dX6_tellDuty_14 : decode cX6_tellDuty 14 = .ok (.iinc 4 1, 3) := by decide +kernel
theorem dX6_tellDuty_17 : decode cX6_tellDuty 17 = .ok (.goto (-14), 3) := by decide +kernel
theorem dX6_tellDuty_20 : decode cX6_tellDuty 20 = .ok (.iconst 0, 1) := by decide +kernel
theorem dX6_tellDuty_21 : decode cX6_tellDuty 21 = .ok (.istore 4, 2) := by decide +kernel
theorem dX6_tellDuty_23 : decode cX6_tellDuty 23 = .ok (.iload 4, 2) := by decide +kernel
theorem dX6_tellDuty_25 : decode cX6_tellDuty 25 = .ok (.aload_n 0, 1) := by decide +kernel
theorem dX6_tellDuty_26 : decode cX6_tellDuty 26 = .ok (.getfield 21, 3) := by decide +kernel
theorem dX6_tellDuty_29 : decode cX6_tellDuty 29 = .ok (.if_icmp .ge 67, 3) := by decide +kernel
theorem dX6_tellDuty_32 : decode cX6_tellDuty 32 = .ok (.iload 4, 2) := by decide +kernel
theorem dX6_tellDuty_34 : decode cX6_tellDuty 34 = .ok (.iload_n 1, 1) := by decide +kernel
theorem dX6_tellDuty_35 : decode cX6_tellDuty 35 = .ok (.invokestatic 35, 3) := by decide +kernel
theorem dX6_tellDuty_38 : decode cX6_tellDuty 38 = .ok (.ifCond .ne 52, 3) := by decide +kernel
theorem dX6_tellDuty_41 : decode cX6_tellDuty 41 = .ok (.aload_n 0, 1) := by decide +kernel
theorem dX6_tellDuty_42 : decode cX6_tellDuty 42 = .ok (.getfield 15, 3) := by decide +kernel
theorem dX6_tellDuty_45 : decode cX6_tellDuty 45 = .ok (.iload 4, 2) := by decide +kernel
theorem dX6_tellDuty_47 : decode cX6_tellDuty 47 = .ok (.iaload, 1) := by decide +kernel
theorem dX6_tellDuty_48 : decode cX6_tellDuty 48 = .ok (.istore 5, 2) := by decide +kernel
theorem dX6_tellDuty_50 : decode cX6_tellDuty 50 = .ok (.iload 5, 2) := by decide +kernel
theorem dX6_tellDuty_52 : decode cX6_tellDuty 52 = .ok (.aload_n 0, 1) := by decide +kernel
theorem dX6_tellDuty_53 : decode cX6_tellDuty 53 = .ok (.getfield 18, 3) := by decide +kernel
theorem dX6_tellDuty_56 : decode cX6_tellDuty 56 = .ok (.iload 4, 2) := by decide +kernel
theorem dX6_tellDuty_58 : decode cX6_tellDuty 58 = .ok (.iaload, 1) := by decide +kernel
theorem dX6_tellDuty_59 : decode cX6_tellDuty 59 = .ok (.if_icmp .gt 31, 3) := by decide +kernel
theorem dX6_tellDuty_62 : decode cX6_tellDuty 62 = .ok (.iload 5, 2) := by decide +kernel
theorem dX6_tellDuty_64 : decode cX6_tellDuty 64 = .ok (.iload_n 2, 1) := by decide +kernel
theorem dX6_tellDuty_65 : decode cX6_tellDuty 65 = .ok (.if_icmp .ge 25, 3) := by decide +kernel
theorem dX6_tellDuty_68 : decode cX6_tellDuty 68 = .ok (.aload_n 3, 1) := by decide +kernel
theorem dX6_tellDuty_69 : decode cX6_tellDuty 69 = .ok (.iload 5, 2) := by decide +kernel
theorem dX6_tellDuty_71 : decode cX6_tellDuty 71 = .ok (.dup2, 1) := by decide +kernel
theorem dX6_tellDuty_72 : decode cX6_tellDuty 72 = .ok (.iaload, 1) := by decide +kernel
theorem dX6_tellDuty_73 : decode cX6_tellDuty 73 = .ok (.iconst 1, 1) := by decide +kernel
theorem dX6_tellDuty_74 : decode cX6_tellDuty 74 = .ok (.aload_n 0, 1) := by decide +kernel
theorem dX6_tellDuty_75 : decode cX6_tellDuty 75 = .ok (.getfield 9, 3) := by decide +kernel
theorem dX6_tellDuty_78 : decode cX6_tellDuty 78 = .ok (.iload 4, 2) := by decide +kernel
theorem dX6_tellDuty_80 : decode cX6_tellDuty 80 = .ok (.iaload, 1) := by decide +kernel
theorem dX6_tellDuty_81 : decode cX6_tellDuty 81 = .ok (.ishl, 1) := by decide +kernel
theorem dX6_tellDuty_82 : decode cX6_tellDuty 82 = .ok (.ior, 1) := by decide +kernel
theorem dX6_tellDuty_83 : decode cX6_tellDuty 83 = .ok (.iastore, 1) := by decide +kernel
theorem dX6_tellDuty_84 : decode cX6_tellDuty 84 = .ok (.iinc 5 1, 3) := by decide +kernel
theorem dX6_tellDuty_87 : decode cX6_tellDuty 87 = .ok (.goto (-37), 3) := by decide +kernel
theorem dX6_tellDuty_90 : decode cX6_tellDuty 90 = .ok (.iinc 4 1, 3) := by decide +kernel
theorem dX6_tellDuty_93 : decode cX6_tellDuty 93 = .ok (.goto (-70), 3) := by decide +kernel
theorem dX6_tellDuty_96 : decode cX6_tellDuty 96 = .ok (.return_, 1) := by decide +kernel
theorem dX7_acres_0 : decode cX7_acres 0 = .ok (.aload_n 0, 1) := by decide +kernel
theorem dX7_acres_1 : decode cX7_acres 1 = .ok (.getfield 30, 3) := by decide +kernel
theorem dX7_acres_4 : decode cX7_acres 4 = .ok (.getfield 107, 3) := by decide +kernel
theorem dX7_acres_7 : decode cX7_acres 7 = .ok (.iload_n 1, 1) := by decide +kernel
theorem dX7_acres_8 : decode cX7_acres 8 = .ok (.iaload, 1) := by decide +kernel
theorem dX7_acres_9 : decode cX7_acres 9 = .ok (.iconst 2, 1) := by decide +kernel
theorem dX7_acres_10 : decode cX7_acres 10 = .ok (.if_icmp .eq 11, 3) := by decide +kernel
theorem dX7_acres_13 : decode cX7_acres 13 = .ok (.aload_n 0, 1) := by decide +kernel
theorem dX7_acres_14 : decode cX7_acres 14 = .ok (.iload_n 1, 1) := by decide +kernel
theorem dX7_acres_15 : decode cX7_acres 15 = .ok (.invokevirtual 122, 3) := by decide +kernel
theorem dX7_acres_18 : decode cX7_acres 18 = .ok (.ifCond .eq 7, 3) := by decide +kernel
theorem dX7_acres_21 : decode cX7_acres 21 = .ok (.iconst 0, 1) := by decide +kernel
theorem dX7_acres_22 : decode cX7_acres 22 = .ok (.goto 9, 3) := by decide +kernel
theorem dX7_acres_25 : decode cX7_acres 25 = .ok (.aload_n 0, 1) := by decide +kernel
theorem dX7_acres_26 : decode cX7_acres 26 = .ok (.getfield 21, 3) := by decide +kernel
theorem dX7_acres_29 : decode cX7_acres 29 = .ok (.iload_n 1, 1) := by decide +kernel
theorem dX7_acres_30 : decode cX7_acres 30 = .ok (.iaload, 1) := by decide +kernel
theorem dX7_acres_31 : decode cX7_acres 31 = .ok (.ireturn, 1) := by decide +kernel
theorem dX7_begin_0 : decode cX7_begin 0 = .ok (.aload_n 0, 1) := by decide +kernel
theorem dX7_begin_1 : decode cX7_begin 1 = .ok (.aload_n 1, 1) := by decide +kernel
theorem dX7_begin_2 : decode cX7_begin 2 = .ok (.putfield 30, 3) := by decide +kernel
theorem dX7_begin_5 : decode cX7_begin 5 = .ok (.aload_n 0, 1) := by decide +kernel
theorem dX7_begin_6 : decode cX7_begin 6 = .ok (.aload_n 1, 1) := by decide +kernel
theorem dX7_begin_7 : decode cX7_begin 7 = .ok (.getfield 34, 3) := by decide +kernel
theorem dX7_begin_10 : decode cX7_begin 10 = .ok (.putfield 40, 3) := by decide +kernel
theorem dX7_begin_13 : decode cX7_begin 13 = .ok (.aload_n 0, 1) := by decide +kernel
theorem dX7_begin_14 : decode cX7_begin 14 = .ok (.iconst (-1), 1) := by decide +kernel
theorem dX7_begin_15 : decode cX7_begin 15 = .ok (.putfield 41, 3) := by decide +kernel
theorem dX7_begin_18 : decode cX7_begin 18 = .ok (.aload_n 0, 1) := by decide +kernel
theorem dX7_begin_19 : decode cX7_begin 19 = .ok (.bipush (-4), 2) := by decide +kernel
theorem dX7_begin_21 : decode cX7_begin 21 = .ok (.putfield 44, 3) := by decide +kernel
theorem dX7_begin_24 : decode cX7_begin 24 = .ok (.aload_n 0, 1) := by decide +kernel
theorem dX7_begin_25 : decode cX7_begin 25 = .ok (.iconst 0, 1) := by decide +kernel
theorem dX7_begin_26 : decode cX7_begin 26 = .ok (.putfield 47, 3) := by decide +kernel
theorem dX7_begin_29 : decode cX7_begin 29 = .ok (.aload_n 0, 1) := by decide +kernel
theorem dX7_begin_30 : decode cX7_begin 30 = .ok (.aload_n 1, 1) := by decide +kernel
theorem dX7_begin_31 : decode cX7_begin 31 = .ok (.invokevirtual 50, 3) := by decide +kernel
theorem dX7_begin_34 : decode cX7_begin 34 = .ok (.putfield 54, 3) := by decide +kernel
theorem dX7_begin_37 : decode cX7_begin 37 = .ok (.iconst 0, 1) := by decide +kernel
theorem dX7_begin_38 : decode cX7_begin 38 = .ok (.istore_n 2, 1) := by decide +kernel
theorem dX7_begin_39 : decode cX7_begin 39 = .ok (.iload_n 2, 1) := by decide +kernel
theorem dX7_begin_40 : decode cX7_begin 40 = .ok (.bipush 6, 2) := by decide +kernel
theorem dX7_begin_42 : decode cX7_begin 42 = .ok (.if_icmp .ge 43, 3) := by decide +kernel
theorem dX7_begin_45 : decode cX7_begin 45 = .ok (.aload_n 0, 1) := by decide +kernel
theorem dX7_begin_46 : decode cX7_begin 46 = .ok (.getfield 9, 3) := by decide +kernel
theorem dX7_begin_49 : decode cX7_begin 49 = .ok (.iload_n 2, 1) := by decide +kernel
theorem dX7_begin_50 : decode cX7_begin 50 = .ok (.aload_n 1, 1) := by decide +kernel
theorem dX7_begin_51 : decode cX7_begin 51 = .ok (.getfield 56, 3) := by decide +kernel
theorem dX7_begin_54 : decode cX7_begin 54 = .ok (.iload_n 2, 1) := by decide +kernel
theorem dX7_begin_55 : decode cX7_begin 55 = .ok (.iaload, 1) := by decide +kernel
theorem dX7_begin_56 : decode cX7_begin 56 = .ok (.iastore, 1) := by decide +kernel
theorem dX7_begin_57 : decode cX7_begin 57 = .ok (.aload_n 0, 1) := by decide +kernel
theorem dX7_begin_58 : decode cX7_begin 58 = .ok (.getfield 15, 3) := by decide +kernel
theorem dX7_begin_61 : decode cX7_begin 61 = .ok (.iload_n 2, 1) := by decide +kernel
theorem dX7_begin_62 : decode cX7_begin 62 = .ok (.bipush (-4), 2) := by decide +kernel
theorem dX7_begin_64 : decode cX7_begin 64 = .ok (.iastore, 1) := by decide +kernel
theorem dX7_begin_65 : decode cX7_begin 65 = .ok (.aload_n 0, 1) := by decide +kernel
theorem dX7_begin_66 : decode cX7_begin 66 = .ok (.getfield 18, 3) := by decide +kernel
theorem dX7_begin_69 : decode cX7_begin 69 = .ok (.iload_n 2, 1) := by decide +kernel
theorem dX7_begin_70 : decode cX7_begin 70 = .ok (.iconst 0, 1) := by decide +kernel
theorem dX7_begin_71 : decode cX7_begin 71 = .ok (.iastore, 1) := by decide +kernel
theorem dX7_begin_72 : decode cX7_begin 72 = .ok (.aload_n 0, 1) := by decide +kernel
theorem dX7_begin_73 : decode cX7_begin 73 = .ok (.getfield 21, 3) := by decide +kernel
theorem dX7_begin_76 : decode cX7_begin 76 = .ok (.iload_n 2, 1) := by decide +kernel
theorem dX7_begin_77 : decode cX7_begin 77 = .ok (.iconst 0, 1) := by decide +kernel
theorem dX7_begin_78 : decode cX7_begin 78 = .ok (.iastore, 1) := by decide +kernel
theorem dX7_begin_79 : decode cX7_begin 79 = .ok (.iinc 2 1, 3) := by decide +kernel
theorem dX7_begin_82 : decode cX7_begin 82 = .ok (.goto (-43), 3) := by decide +kernel
theorem dX7_begin_85 : decode cX7_begin 85 = .ok (.return_, 1) := by decide +kernel
theorem dX7_bringUp_0 : decode cX7_bringUp 0 = .ok (.iload_n 1, 1) := by decide +kernel
theorem dX7_bringUp_1 : decode cX7_bringUp 1 = .ok (.invokestatic 89, 3) := by decide +kernel
theorem dX7_bringUp_4 : decode cX7_bringUp 4 = .ok (.istore_n 3, 1) := by decide +kernel
theorem dX7_bringUp_5 : decode cX7_bringUp 5 = .ok (.iload_n 3, 1) := by decide +kernel
theorem dX7_bringUp_6 : decode cX7_bringUp 6 = .ok (.ifCond .le 9, 3) := by decide +kernel
theorem dX7_bringUp_9 : decode cX7_bringUp 9 = .ok (.iload_n 2, 1) := by decide +kernel
theorem dX7_bringUp_10 : decode cX7_bringUp 10 = .ok (.iload_n 3, 1) := by decide +kernel
theorem dX7_bringUp_11 : decode cX7_bringUp 11 = .ok (.idiv, 1) := by decide +kernel
theorem dX7_bringUp_12 : decode cX7_bringUp 12 = .ok (.goto 4, 3) := by decide +kernel
theorem dX7_bringUp_15 : decode cX7_bringUp 15 = .ok (.iconst 0, 1) := by decide +kernel
theorem dX7_bringUp_16 : decode cX7_bringUp 16 = .ok (.istore 4, 2) := by decide +kernel
theorem dX7_bringUp_18 : decode cX7_bringUp 18 = .ok (.iconst 0, 1) := by decide +kernel
theorem dX7_bringUp_19 : decode cX7_bringUp 19 = .ok (.istore 5, 2) := by decide +kernel
theorem dX7_bringUp_21 : decode cX7_bringUp 21 = .ok (.iload 5, 2) := by decide +kernel
theorem dX7_bringUp_23 : decode cX7_bringUp 23 = .ok (.aload_n 0, 1) := by decide +kernel
theorem dX7_bringUp_24 : decode cX7_bringUp 24 = .ok (.getfield 30, 3) := by decide +kernel
theorem dX7_bringUp_27 : decode cX7_bringUp 27 = .ok (.getfield 100, 3) := by decide +kernel
theorem dX7_bringUp_30 : decode cX7_bringUp 30 = .ok (.if_icmp .ge 58, 3) := by decide +kernel
theorem dX7_bringUp_33 : decode cX7_bringUp 33 = .ok (.iload 5, 2) := by decide +kernel
theorem dX7_bringUp_35 : decode cX7_bringUp 35 = .ok (.iload_n 1, 1) := by decide +kernel
theorem dX7_bringUp_36 : decode cX7_bringUp 36 = .ok (.invokestatic 103, 3) := by decide +kernel
theorem dX7_bringUp_39 : decode cX7_bringUp 39 = .ok (.ifCond .eq 43, 3) := by decide +kernel
theorem dX7_bringUp_42 : decode cX7_bringUp 42 = .ok (.aload_n 0, 1) := by decide +kernel
theorem dX7_bringUp_43 : decode cX7_bringUp 43 = .ok (.getfield 9, 3) := by decide +kernel
theorem dX7_bringUp_46 : decode cX7_bringUp 46 = .ok (.iload 5, 2) := by decide +kernel
theorem dX7_bringUp_48 : decode cX7_bringUp 48 = .ok (.dup2, 1) := by decide +kernel
theorem dX7_bringUp_49 : decode cX7_bringUp 49 = .ok (.iaload, 1) := by decide +kernel
theorem dX7_bringUp_50 : decode cX7_bringUp 50 = .ok (.aload_n 0, 1) := by decide +kernel
theorem dX7_bringUp_51 : decode cX7_bringUp 51 = .ok (.getfield 27, 3) := by decide +kernel
theorem dX7_bringUp_54 : decode cX7_bringUp 54 = .ok (.iload 5, 2) := by decide +kernel
theorem dX7_bringUp_56 : decode cX7_bringUp 56 = .ok (.iaload, 1) := by decide +kernel
theorem dX7_bringUp_57 : decode cX7_bringUp 57 = .ok (.isub, 1) := by decide +kernel
theorem dX7_bringUp_58 : decode cX7_bringUp 58 = .ok (.iastore, 1) := by decide +kernel
theorem dX7_bringUp_59 : decode cX7_bringUp 59 = .ok (.aload_n 0, 1) := by decide +kernel
theorem dX7_bringUp_60 : decode cX7_bringUp 60 = .ok (.getfield 18, 3) := by decide +kernel
theorem dX7_bringUp_63 : decode cX7_bringUp 63 = .ok (.iload 5, 2) := by decide +kernel
theorem dX7_bringUp_65 : decode cX7_bringUp 65 = .ok (.dup2, 1) := by decide +kernel
theorem dX7_bringUp_66 : decode cX7_bringUp 66 = .ok (.iaload, 1) := by decide +kernel
theorem dX7_bringUp_67 : decode cX7_bringUp 67 = .ok (.iconst 1, 1) := by decide +kernel
theorem dX7_bringUp_68 : decode cX7_bringUp 68 = .ok (.iadd, 1) := by decide +kernel
theorem dX7_bringUp_69 : decode cX7_bringUp 69 = .ok (.iastore, 1) := by decide +kernel
theorem dX7_bringUp_70 : decode cX7_bringUp 70 = .ok (.aload_n 0, 1) := by decide +kernel
theorem dX7_bringUp_71 : decode cX7_bringUp 71 = .ok (.getfield 21, 3) := by decide +kernel
theorem dX7_bringUp_74 : decode cX7_bringUp 74 = .ok (.iload 5, 2) := by decide +kernel
theorem dX7_bringUp_76 : decode cX7_bringUp 76 = .ok (.dup2, 1) := by decide +kernel
theorem dX7_bringUp_77 : decode cX7_bringUp 77 = .ok (.iaload, 1) := by decide +kernel
theorem dX7_bringUp_78 : decode cX7_bringUp 78 = .ok (.iload 4, 2) := by decide +kernel
theorem dX7_bringUp_80 : decode cX7_bringUp 80 = .ok (.iadd, 1) := by decide +kernel
theorem dX7_bringUp_81 : decode cX7_bringUp 81 = .ok (.iastore, 1) := by decide +kernel
theorem dX7_bringUp_82 : decode cX7_bringUp 82 = .ok (.iinc 5 1, 3) := by decide +kernel
theorem dX7_bringUp_85 : decode cX7_bringUp 85 = .ok (.goto (-64), 3) := by decide +kernel
theorem dX7_bringUp_88 : decode cX7_bringUp 88 = .ok (.return_, 1) := by decide +kernel
theorem dX7_drawnAt_0 : decode cX7_drawnAt 0 = .ok (.aload_n 0, 1) := by decide +kernel
theorem dX7_drawnAt_1 : decode cX7_drawnAt 1 = .ok (.getfield 41, 3) := by decide +kernel
theorem dX7_drawnAt_4 : decode cX7_drawnAt 4 = .ok (.iconst (-1), 1) := by decide +kernel
theorem dX7_drawnAt_5 : decode cX7_drawnAt 5 = .ok (.if_icmp .ne 5, 3) := by decide +kernel
theorem dX7_drawnAt_8 : decode cX7_drawnAt 8 = .ok (.iconst 0, 1) := by decide +kernel
theorem dX7_drawnAt_9 : decode cX7_drawnAt 9 = .ok (.ireturn, 1) := by decide +kernel
theorem dX7_drawnAt_10 : decode cX7_drawnAt 10 = .ok (.ldc2_w 114, 3) := by decide +kernel
theorem dX7_drawnAt_13 : decode cX7_drawnAt 13 = .ok (.aload_n 0, 1) := by decide +kernel
theorem dX7_drawnAt_14 : decode cX7_drawnAt 14 = .ok (.getfield 41, 3) := by decide +kernel
theorem dX7_drawnAt_17 : decode cX7_drawnAt 17 = .ok (.i2l, 1) := by decide +kernel
theorem dX7_drawnAt_18 : decode cX7_drawnAt 18 = .ok (.lmul, 1) := by decide +kernel
theorem dX7_drawnAt_19 : decode cX7_drawnAt 19 = .ok (.ldc2_w 116, 3) := by decide +kernel
theorem dX7_drawnAt_22 : decode cX7_drawnAt 22 = .ok (.iload_n 1, 1) := by decide +kernel
theorem dX7_drawnAt_23 : decode cX7_drawnAt 23 = .ok (.i2l, 1) := by decide +kernel
theorem dX7_drawnAt_24 : decode cX7_drawnAt 24 = .ok (.lmul, 1) := by decide +kernel
theorem dX7_drawnAt_25 : decode cX7_drawnAt 25 = .ok (.ladd, 1) := by decide +kernel
theorem dX7_drawnAt_26 : decode cX7_drawnAt 26 = .ok (.lconst 1, 1) := by decide +kernel
theorem dX7_drawnAt_27 : decode cX7_drawnAt 27 = .ok (.ladd, 1) := by decide +kernel
theorem dX7_drawnAt_28 : decode cX7_drawnAt 28 = .ok (.lstore_n 2, 1) := by decide +kernel
theorem dX7_drawnAt_29 : decode cX7_drawnAt 29 = .ok (.lload_n 2, 1) := by decide +kernel
theorem dX7_drawnAt_30 : decode cX7_drawnAt 30 = .ok (.lload_n 2, 1) := by decide +kernel
theorem dX7_drawnAt_31 : decode cX7_drawnAt 31 = .ok (.lmul, 1) := by decide +kernel
theorem dX7_drawnAt_32 : decode cX7_drawnAt 32 = .ok (.ldc2_w 118, 3) := by decide +kernel
theorem dX7_drawnAt_35 : decode cX7_drawnAt 35 = .ok (.lrem, 1) := by decide +kernel
theorem dX7_drawnAt_36 : decode cX7_drawnAt 36 = .ok (.ldc2_w 120, 3) := by decide +kernel
theorem dX7_drawnAt_39 : decode cX7_drawnAt 39 = .ok (.lrem, 1) := by decide +kernel
theorem dX7_drawnAt_40 : decode cX7_drawnAt 40 = .ok (.l2i, 1) := by decide +kernel
theorem dX7_drawnAt_41 : decode cX7_drawnAt 41 = .ok (.ireturn, 1) := by decide +kernel
theorem dX7_first_0 : decode cX7_first 0 = .ok (.iconst 0, 1) := by decide +kernel
theorem dX7_first_1 : decode cX7_first 1 = .ok (.istore_n 2, 1) := by decide +kernel
theorem dX7_first_2 : decode cX7_first 2 = .ok (.iconst 1, 1) := by decide +kernel
theorem dX7_first_3 : decode cX7_first 3 = .ok (.istore_n 3, 1) := by decide +kernel
theorem dX7_first_4 : decode cX7_first 4 = .ok (.iload_n 3, 1) := by decide +kernel
theorem dX7_first_5 : decode cX7_first 5 = .ok (.aload_n 0, 1) := by decide +kernel
theorem dX7_first_6 : decode cX7_first 6 = .ok (.getfield 30, 3) := by decide +kernel
theorem dX7_first_9 : decode cX7_first 9 = .ok (.getfield 100, 3) := by decide +kernel
theorem dX7_first_12 : decode cX7_first 12 = .ok (.if_icmp .ge 26, 3) := by decide +kernel
theorem dX7_first_15 : decode cX7_first 15 = .ok (.aload_n 0, 1) := by decide +kernel
theorem dX7_first_16 : decode cX7_first 16 = .ok (.iload_n 3, 1) := by decide +kernel
theorem dX7_first_17 : decode cX7_first 17 = .ok (.iload_n 1, 1) := by decide +kernel
theorem dX7_first_18 : decode cX7_first 18 = .ok (.invokevirtual 126, 3) := by decide +kernel
theorem dX7_first_21 : decode cX7_first 21 = .ok (.aload_n 0, 1) := by decide +kernel
theorem dX7_first_22 : decode cX7_first 22 = .ok (.iload_n 2, 1) := by decide +kernel
theorem dX7_first_23 : decode cX7_first 23 = .ok (.iload_n 1, 1) := by decide +kernel
theorem dX7_first_24 : decode cX7_first 24 = .ok (.invokevirtual 126, 3) := by decide +kernel
theorem dX7_first_27 : decode cX7_first 27 = .ok (.if_icmp .le 5, 3) := by decide +kernel
theorem dX7_first_30 : decode cX7_first 30 = .ok (.iload_n 3, 1) := by decide +kernel
theorem dX7_first_31 : decode cX7_first 31 = .ok (.istore_n 2, 1) := by decide +kernel
theorem dX7_first_32 : decode cX7_first 32 = .ok (.iinc 3 1, 3) := by decide +kernel
theorem dX7_first_35 : decode cX7_first 35 = .ok (.goto (-31), 3) := by decide +kernel
theorem dX7_first_38 : decode cX7_first 38 = .ok (.iload_n 2, 1) := by decide +kernel
theorem dX7_first_39 : decode cX7_first 39 = .ok (.ireturn, 1) := by decide +kernel
theorem dX7_follow_0 : decode cX7_follow 0 = .ok (.aload_n 0, 1) := by decide +kernel
theorem dX7_follow_1 : decode cX7_follow 1 = .ok (.aload_n 1, 1) := by decide +kernel
theorem dX7_follow_2 : decode cX7_follow 2 = .ok (.getfield 30, 3) := by decide +kernel
theorem dX7_follow_5 : decode cX7_follow 5 = .ok (.putfield 30, 3) := by decide +kernel
theorem dX7_follow_8 : decode cX7_follow 8 = .ok (.aload_n 0, 1) := by decide +kernel
theorem dX7_follow_9 : decode cX7_follow 9 = .ok (.aload_n 1, 1) := by decide +kernel
theorem dX7_follow_10 : decode cX7_follow 10 = .ok (.getfield 40, 3) := by decide +kernel
theorem dX7_follow_13 : decode cX7_follow 13 = .ok (.putfield 40, 3) := by decide +kernel
theorem dX7_follow_16 : decode cX7_follow 16 = .ok (.aload_n 0, 1) := by decide +kernel
theorem dX7_follow_17 : decode cX7_follow 17 = .ok (.aload_n 1, 1) := by decide +kernel
theorem dX7_follow_18 : decode cX7_follow 18 = .ok (.getfield 41, 3) := by decide +kernel
theorem dX7_follow_21 : decode cX7_follow 21 = .ok (.putfield 41, 3) := by decide +kernel
theorem dX7_follow_24 : decode cX7_follow 24 = .ok (.aload_n 0, 1) := by decide +kernel
theorem dX7_follow_25 : decode cX7_follow 25 = .ok (.aload_n 1, 1) := by decide +kernel
theorem dX7_follow_26 : decode cX7_follow 26 = .ok (.getfield 44, 3) := by decide +kernel
theorem dX7_follow_29 : decode cX7_follow 29 = .ok (.putfield 44, 3) := by decide +kernel
theorem dX7_follow_32 : decode cX7_follow 32 = .ok (.aload_n 0, 1) := by decide +kernel
theorem dX7_follow_33 : decode cX7_follow 33 = .ok (.aload_n 1, 1) := by decide +kernel
theorem dX7_follow_34 : decode cX7_follow 34 = .ok (.getfield 47, 3) := by decide +kernel
theorem dX7_follow_37 : decode cX7_follow 37 = .ok (.putfield 47, 3) := by decide +kernel
theorem dX7_follow_40 : decode cX7_follow 40 = .ok (.aload_n 0, 1) := by decide +kernel
theorem dX7_follow_41 : decode cX7_follow 41 = .ok (.aload_n 1, 1) := by decide +kernel
theorem dX7_follow_42 : decode cX7_follow 42 = .ok (.getfield 54, 3) := by decide +kernel
theorem dX7_follow_45 : decode cX7_follow 45 = .ok (.putfield 54, 3) := by decide +kernel
theorem dX7_follow_48 : decode cX7_follow 48 = .ok (.aload_n 1, 1) := by decide +kernel
theorem dX7_follow_49 : decode cX7_follow 49 = .ok (.getfield 9, 3) := by decide +kernel
theorem dX7_follow_52 : decode cX7_follow 52 = .ok (.iconst 0, 1) := by decide +kernel
theorem dX7_follow_53 : decode cX7_follow 53 = .ok (.aload_n 0, 1) := by decide +kernel
theorem dX7_follow_54 : decode cX7_follow 54 = .ok (.getfield 9, 3) := by decide +kernel
theorem dX7_follow_57 : decode cX7_follow 57 = .ok (.iconst 0, 1) := by decide +kernel
theorem dX7_follow_58 : decode cX7_follow 58 = .ok (.bipush 6, 2) := by decide +kernel
theorem dX7_follow_60 : decode cX7_follow 60 = .ok (.invokestatic 59, 3) := by decide +kernel
theorem dX7_follow_63 : decode cX7_follow 63 = .ok (.aload_n 1, 1) := by decide +kernel
theorem dX7_follow_64 : decode cX7_follow 64 = .ok (.getfield 15, 3) := by decide +kernel
theorem dX7_follow_67 : decode cX7_follow 67 = .ok (.iconst 0, 1) := by decide +kernel
theorem dX7_follow_68 : decode cX7_follow 68 = .ok (.aload_n 0, 1) := by decide +kernel
theorem dX7_follow_69 : decode cX7_follow 69 = .ok (.getfield 15, 3) := by decide +kernel
theorem dX7_follow_72 : decode cX7_follow 72 = .ok (.iconst 0, 1) := by decide +kernel
theorem dX7_follow_73 : decode cX7_follow 73 = .ok (.bipush 6, 2) := by decide +kernel
theorem dX7_follow_75 : decode cX7_follow 75 = .ok (.invokestatic 59, 3) := by decide +kernel
theorem dX7_follow_78 : decode cX7_follow 78 = .ok (.aload_n 1, 1) := by decide +kernel
theorem dX7_follow_79 : decode cX7_follow 79 = .ok (.getfield 18, 3) := by decide +kernel
theorem dX7_follow_82 : decode cX7_follow 82 = .ok (.iconst 0, 1) := by decide +kernel
theorem dX7_follow_83 : decode cX7_follow 83 = .ok (.aload_n 0, 1) := by decide +kernel
theorem dX7_follow_84 : decode cX7_follow 84 = .ok (.getfield 18, 3) := by decide +kernel
theorem dX7_follow_87 : decode cX7_follow 87 = .ok (.iconst 0, 1) := by decide +kernel
theorem dX7_follow_88 : decode cX7_follow 88 = .ok (.bipush 6, 2) := by decide +kernel
theorem dX7_follow_90 : decode cX7_follow 90 = .ok (.invokestatic 59, 3) := by decide +kernel
theorem dX7_follow_93 : decode cX7_follow 93 = .ok (.aload_n 1, 1) := by decide +kernel
theorem dX7_follow_94 : decode cX7_follow 94 = .ok (.getfield 21, 3) := by decide +kernel
theorem dX7_follow_97 : decode cX7_follow 97 = .ok (.iconst 0, 1) := by decide +kernel
theorem dX7_follow_98 : decode cX7_follow 98 = .ok (.aload_n 0, 1) := by decide +kernel
theorem dX7_follow_99 : decode cX7_follow 99 = .ok (.getfield 21, 3) := by decide +kernel
theorem dX7_follow_102 : decode cX7_follow 102 = .ok (.iconst 0, 1) := by decide +kernel
theorem dX7_follow_103 : decode cX7_follow 103 = .ok (.bipush 6, 2) := by decide +kernel
theorem dX7_follow_105 : decode cX7_follow 105 = .ok (.invokestatic 59, 3) := by decide +kernel
theorem dX7_follow_108 : decode cX7_follow 108 = .ok (.return_, 1) := by decide +kernel
theorem dX7_go_0 : decode cX7_go 0 = .ok (.iconst 0, 1) := by decide +kernel
theorem dX7_go_1 : decode cX7_go 1 = .ok (.istore_n 2, 1) := by decide +kernel
theorem dX7_go_2 : decode cX7_go 2 = .ok (.iload_n 2, 1) := by decide +kernel
theorem dX7_go_3 : decode cX7_go 3 = .ok (.aload_n 0, 1) := by decide +kernel
theorem dX7_go_4 : decode cX7_go 4 = .ok (.getfield 30, 3) := by decide +kernel
theorem dX7_go_7 : decode cX7_go 7 = .ok (.getfield 65, 3) := by decide +kernel
theorem dX7_go_10 : decode cX7_go 10 = .ok (.if_icmp .ge 23, 3) := by decide +kernel
theorem dX7_go_13 : decode cX7_go 13 = .ok (.aload_n 0, 1) := by decide +kernel
theorem dX7_go_14 : decode cX7_go 14 = .ok (.getfield 24, 3) := by decide +kernel
theorem dX7_go_17 : decode cX7_go 17 = .ok (.iload_n 2, 1) := by decide +kernel
theorem dX7_go_18 : decode cX7_go 18 = .ok (.aload_n 0, 1) := by decide +kernel
theorem dX7_go_19 : decode cX7_go 19 = .ok (.iload_n 2, 1) := by decide +kernel
theorem dX7_go_20 : decode cX7_go 20 = .ok (.aload_n 1, 1) := by decide +kernel
theorem dX7_go_21 : decode cX7_go 21 = .ok (.iload_n 2, 1) := by decide +kernel
theorem dX7_go_22 : decode cX7_go 22 = .ok (.iaload, 1) := by decide +kernel
theorem dX7_go_23 : decode cX7_go 23 = .ok (.invokevirtual 68, 3) := by decide +kernel
theorem dX7_go_26 : decode cX7_go 26 = .ok (.iastore, 1) := by decide +kernel
theorem dX7_go_27 : decode cX7_go 27 = .ok (.iinc 2 1, 3) := by decide +kernel
theorem dX7_go_30 : decode cX7_go 30 = .ok (.goto (-28), 3) := by decide +kernel
theorem dX7_go_33 : decode cX7_go 33 = .ok (.return_, 1) := by decide +kernel
theorem dX7_hasStumbled_0 : decode cX7_hasStumbled 0 = .ok (.iload_n 1, 1) := by decide +kernel
theorem dX7_hasStumbled_1 : decode cX7_hasStumbled 1 = .ok (.aload_n 0, 1) := by decide +kernel
theorem dX7_hasStumbled_2 : decode cX7_hasStumbled 2 = .ok (.getfield 47, 3) := by decide +kernel
theorem dX7_hasStumbled_5 : decode cX7_hasStumbled 5 = .ok (.invokestatic 103, 3) := by decide +kernel
theorem dX7_hasStumbled_8 : decode cX7_hasStumbled 8 = .ok (.ireturn, 1) := by decide +kernel
theorem dX7_init_0 : decode cX7_init 0 = .ok (.aload_n 0, 1) := by decide +kernel
theorem dX7_init_1 : decode cX7_init 1 = .ok (.invokespecial 3, 3) := by decide +kernel
theorem dX7_init_4 : decode cX7_init 4 = .ok (.aload_n 0, 1) := by decide +kernel
theorem dX7_init_5 : decode cX7_init 5 = .ok (.bipush 6, 2) := by decide +kernel
theorem dX7_init_7 : decode cX7_init 7 = .ok (.newarray .int, 2) := by decide +kernel
theorem dX7_init_9 : decode cX7_init 9 = .ok (.putfield 9, 3) := by decide +kernel
theorem dX7_init_12 : decode cX7_init 12 = .ok (.aload_n 0, 1) := by decide +kernel
theorem dX7_init_13 : decode cX7_init 13 = .ok (.bipush 6, 2) := by decide +kernel
theorem dX7_init_15 : decode cX7_init 15 = .ok (.newarray .int, 2) := by decide +kernel
theorem dX7_init_17 : decode cX7_init 17 = .ok (.putfield 15, 3) := by decide +kernel
theorem dX7_init_20 : decode cX7_init 20 = .ok (.aload_n 0, 1) := by decide +kernel
theorem dX7_init_21 : decode cX7_init 21 = .ok (.bipush 6, 2) := by decide +kernel
theorem dX7_init_23 : decode cX7_init 23 = .ok (.newarray .int, 2) := by decide +kernel
theorem dX7_init_25 : decode cX7_init 25 = .ok (.putfield 18, 3) := by decide +kernel
theorem dX7_init_28 : decode cX7_init 28 = .ok (.aload_n 0, 1) := by decide +kernel
theorem dX7_init_29 : decode cX7_init 29 = .ok (.bipush 6, 2) := by decide +kernel
theorem dX7_init_31 : decode cX7_init 31 = .ok (.newarray .int, 2) := by decide +kernel
theorem dX7_init_33 : decode cX7_init 33 = .ok (.putfield 21, 3) := by decide +kernel
theorem dX7_init_36 : decode cX7_init 36 = .ok (.aload_n 0, 1) := by decide +kernel
theorem dX7_init_37 : decode cX7_init 37 = .ok (.bipush 120, 2) := by decide +kernel
theorem dX7_init_39 : decode cX7_init 39 = .ok (.newarray .int, 2) := by decide +kernel
theorem dX7_init_41 : decode cX7_init 41 = .ok (.putfield 24, 3) := by decide +kernel
theorem dX7_init_44 : decode cX7_init 44 = .ok (.aload_n 0, 1) := by decide +kernel
theorem dX7_init_45 : decode cX7_init 45 = .ok (.bipush 6, 2) := by decide +kernel
theorem dX7_init_47 : decode cX7_init 47 = .ok (.newarray .int, 2) := by decide +kernel
theorem dX7_init_49 : decode cX7_init 49 = .ok (.putfield 27, 3) := by decide +kernel
theorem dX7_init_52 : decode cX7_init 52 = .ok (.aload_n 0, 1) := by decide +kernel
theorem dX7_init_53 : decode cX7_init 53 = .ok (.aload_n 1, 1) := by decide +kernel
theorem dX7_init_54 : decode cX7_init 54 = .ok (.putfield 30, 3) := by decide +kernel
theorem dX7_init_57 : decode cX7_init 57 = .ok (.return_, 1) := by decide +kernel
theorem dX7_merit_0 : decode cX7_merit 0 = .ok (.iload_n 2, 1) := by decide +kernel
theorem dX7_merit_1 : decode cX7_merit 1 = .ok (.lookupswitch 40 #[(0, 27), (1, 33)], 27) := by decide +kernel
theorem dX7_merit_28 : decode cX7_merit 28 = .ok (.aload_n 0, 1) := by decide +kernel
theorem dX7_merit_29 : decode cX7_merit 29 = .ok (.iload_n 1, 1) := by decide +kernel
theorem dX7_merit_30 : decode cX7_merit 30 = .ok (.invokevirtual 129, 3) := by decide +kernel
theorem dX7_merit_33 : decode cX7_merit 33 = .ok (.ireturn, 1) := by decide +kernel
theorem dX7_merit_34 : decode cX7_merit 34 = .ok (.aload_n 0, 1) := by decide +kernel
theorem dX7_merit_35 : decode cX7_merit 35 = .ok (.getfield 18, 3) := by decide +kernel
theorem dX7_merit_38 : decode cX7_merit 38 = .ok (.iload_n 1, 1) := by decide +kernel
theorem dX7_merit_39 : decode cX7_merit 39 = .ok (.iaload, 1) := by decide +kernel
theorem dX7_merit_40 : decode cX7_merit 40 = .ok (.ireturn, 1) := by decide +kernel
theorem dX7_merit_41 : decode cX7_merit 41 = .ok (.aload_n 0, 1) := by decide +kernel
theorem dX7_merit_42 : decode cX7_merit 42 = .ok (.getfield 30, 3) := by decide +kernel
theorem dX7_merit_45 : decode cX7_merit 45 = .ok (.getfield 56, 3) := by decide +kernel
theorem dX7_merit_48 : decode cX7_merit 48 = .ok (.iload_n 1, 1) := by decide +kernel
theorem dX7_merit_49 : decode cX7_merit 49 = .ok (.iaload, 1) := by decide +kernel
theorem dX7_merit_50 : decode cX7_merit 50 = .ok (.aload_n 0, 1) := by decide +kernel
theorem dX7_merit_51 : decode cX7_merit 51 = .ok (.getfield 9, 3) := by decide +kernel
theorem dX7_merit_54 : decode cX7_merit 54 = .ok (.iload_n 1, 1) := by decide +kernel
theorem dX7_merit_55 : decode cX7_merit 55 = .ok (.iaload, 1) := by decide +kernel
theorem dX7_merit_56 : decode cX7_merit 56 = .ok (.isub, 1) := by decide +kernel
theorem dX7_merit_57 : decode cX7_merit 57 = .ok (.ireturn, 1) := by decide +kernel
theorem dX7_setCosts_0 : decode cX7_setCosts 0 = .ok (.iload_n 1, 1) := by decide +kernel
theorem dX7_setCosts_1 : decode cX7_setCosts 1 = .ok (.invokestatic 89, 3) := by decide +kernel
theorem dX7_setCosts_4 : decode cX7_setCosts 4 = .ok (.istore_n 3, 1) := by decide +kernel
theorem dX7_setCosts_5 : decode cX7_setCosts 5 = .ok (.iload_n 1, 1) := by decide +kernel
theorem dX7_setCosts_6 : decode cX7_setCosts 6 = .ok (.aload_n 0, 1) := by decide +kernel
theorem dX7_setCosts_7 : decode cX7_setCosts 7 = .ok (.getfield 54, 3) := by decide +kernel
theorem dX7_setCosts_10 : decode cX7_setCosts 10 = .ok (.iand, 1) := by decide +kernel
theorem dX7_setCosts_11 : decode cX7_setCosts 11 = .ok (.invokestatic 89, 3) := by decide +kernel
theorem dX7_setCosts_14 : decode cX7_setCosts 14 = .ok (.istore 4, 2) := by decide +kernel
theorem dX7_setCosts_16 : decode cX7_setCosts 16 = .ok (.iconst 0, 1) := by decide +kernel
theorem dX7_setCosts_17 : decode cX7_setCosts 17 = .ok (.istore 5, 2) := by decide +kernel
theorem dX7_setCosts_19 : decode cX7_setCosts 19 = .ok (.iload 5, 2) := by decide +kernel
theorem dX7_setCosts_21 : decode cX7_setCosts 21 = .ok (.aload_n 0, 1) := by decide +kernel
theorem dX7_setCosts_22 : decode cX7_setCosts 22 = .ok (.getfield 30, 3) := by decide +kernel
theorem dX7_setCosts_25 : decode cX7_setCosts 25 = .ok (.getfield 100, 3) := by decide +kernel
theorem dX7_setCosts_28 : decode cX7_setCosts 28 = .ok (.if_icmp .ge 42, 3) := by decide +kernel
theorem dX7_setCosts_31 : decode cX7_setCosts 31 = .ok (.iload 5, 2) := by decide +kernel
theorem dX7_setCosts_33 : decode cX7_setCosts 33 = .ok (.iload_n 1, 1) := by decide +kernel
theorem dX7_setCosts_34 : decode cX7_setCosts 34 = .ok (.invokestatic 103, 3) := by decide +kernel
theorem dX7_setCosts_37 : decode cX7_setCosts 37 = .ok (.ifCond .eq 27, 3) := by decide +kernel
theorem dX7_setCosts_40 : decode cX7_setCosts 40 = .ok (.aload_n 0, 1) := by decide +kernel
theorem dX7_setCosts_41 : decode cX7_setCosts 41 = .ok (.getfield 27, 3) := by decide +kernel
theorem dX7_setCosts_44 : decode cX7_setCosts 44 = .ok (.iload 5, 2) := by decide +kernel
theorem dX7_setCosts_46 : decode cX7_setCosts 46 = .ok (.iload_n 2, 1) := by decide +kernel
theorem dX7_setCosts_47 : decode cX7_setCosts 47 = .ok (.aload_n 0, 1) := by decide +kernel
theorem dX7_setCosts_48 : decode cX7_setCosts 48 = .ok (.getfield 30, 3) := by decide +kernel
theorem dX7_setCosts_51 : decode cX7_setCosts 51 = .ok (.getfield 107, 3) := by decide +kernel
theorem dX7_setCosts_54 : decode cX7_setCosts 54 = .ok (.iload 5, 2) := by decide +kernel
theorem dX7_setCosts_56 : decode cX7_setCosts 56 = .ok (.iaload, 1) := by decide +kernel
theorem dX7_setCosts_57 : decode cX7_setCosts 57 = .ok (.iload_n 3, 1) := by decide +kernel
theorem dX7_setCosts_58 : decode cX7_setCosts 58 = .ok (.iload 4, 2) := by decide +kernel
theorem dX7_setCosts_60 : decode cX7_setCosts 60 = .ok (.invokestatic 110, 3) := by decide +kernel
theorem dX7_setCosts_63 : decode cX7_setCosts 63 = .ok (.iastore, 1) := by decide +kernel
theorem dX7_setCosts_64 : decode cX7_setCosts 64 = .ok (.iinc 5 1, 3) := by decide +kernel
theorem dX7_setCosts_67 : decode cX7_setCosts 67 = .ok (.goto (-48), 3) := by decide +kernel
theorem dX7_setCosts_70 : decode cX7_setCosts 70 = .ok (.return_, 1) := by decide +kernel
theorem dX7_step_0 : decode cX7_step 0 = .ok (.aload_n 0, 1) := by decide +kernel
theorem dX7_step_1 : decode cX7_step 1 = .ok (.getfield 44, 3) := by decide +kernel
theorem dX7_step_4 : decode cX7_step 4 = .ok (.bipush (-4), 2) := by decide +kernel
theorem dX7_step_6 : decode cX7_step 6 = .ok (.if_icmp .eq 5, 3) := by decide +kernel
theorem dX7_step_9 : decode cX7_step 9 = .ok (.iconst 0, 1) := by decide +kernel
theorem dX7_step_10 : decode cX7_step 10 = .ok (.ireturn, 1) := by decide +kernel
theorem dX7_step_11 : decode cX7_step 11 = .ok (.iload_n 2, 1) := by decide +kernel
theorem dX7_step_12 : decode cX7_step 12 = .ok (.aload_n 0, 1) := by decide +kernel
theorem dX7_step_13 : decode cX7_step 13 = .ok (.getfield 47, 3) := by decide +kernel
theorem dX7_step_16 : decode cX7_step 16 = .ok (.iconst (-1), 1) := by decide +kernel
theorem dX7_step_17 : decode cX7_step 17 = .ok (.ixor, 1) := by decide +kernel
theorem dX7_step_18 : decode cX7_step 18 = .ok (.iand, 1) := by decide +kernel
theorem dX7_step_19 : decode cX7_step 19 = .ok (.istore_n 3, 1) := by decide +kernel
theorem dX7_step_20 : decode cX7_step 20 = .ok (.aload_n 0, 1) := by decide +kernel
theorem dX7_step_21 : decode cX7_step 21 = .ok (.iload_n 3, 1) := by decide +kernel
theorem dX7_step_22 : decode cX7_step 22 = .ok (.iconst 1, 1) := by decide +kernel
theorem dX7_step_23 : decode cX7_step 23 = .ok (.aload_n 0, 1) := by decide +kernel
theorem dX7_step_24 : decode cX7_step 24 = .ok (.getfield 30, 3) := by decide +kernel
theorem dX7_step_27 : decode cX7_step 27 = .ok (.iload_n 1, 1) := by decide +kernel
theorem dX7_step_28 : decode cX7_step 28 = .ok (.invokevirtual 72, 3) := by decide +kernel
theorem dX7_step_31 : decode cX7_step 31 = .ok (.iadd, 1) := by decide +kernel
theorem dX7_step_32 : decode cX7_step 32 = .ok (.aload_n 0, 1) := by decide +kernel
theorem dX7_step_33 : decode cX7_step 33 = .ok (.getfield 30, 3) := by decide +kernel
theorem dX7_step_36 : decode cX7_step 36 = .ok (.getfield 76, 3) := by decide +kernel
theorem dX7_step_39 : decode cX7_step 39 = .ok (.iadd, 1) := by decide +kernel
theorem dX7_step_40 : decode cX7_step 40 = .ok (.aload_n 0, 1) := by decide +kernel
theorem dX7_step_41 : decode cX7_step 41 = .ok (.iload_n 1, 1) := by decide +kernel
theorem dX7_step_42 : decode cX7_step 42 = .ok (.invokevirtual 79, 3) := by decide +kernel
theorem dX7_step_45 : decode cX7_step 45 = .ok (.iadd, 1) := by decide +kernel
theorem dX7_step_46 : decode cX7_step 46 = .ok (.invokevirtual 82, 3) := by decide +kernel
theorem dX7_step_49 : decode cX7_step 49 = .ok (.iload_n 3, 1) := by decide +kernel
theorem dX7_step_50 : decode cX7_step 50 = .ok (.aload_n 0, 1) := by decide +kernel
theorem dX7_step_51 : decode cX7_step 51 = .ok (.iload_n 3, 1) := by decide +kernel
theorem dX7_step_52 : decode cX7_step 52 = .ok (.iload_n 1, 1) := by decide +kernel
theorem dX7_step_53 : decode cX7_step 53 = .ok (.invokevirtual 86, 3) := by decide +kernel
theorem dX7_step_56 : decode cX7_step 56 = .ok (.iconst (-1), 1) := by decide +kernel
theorem dX7_step_57 : decode cX7_step 57 = .ok (.ixor, 1) := by decide +kernel
theorem dX7_step_58 : decode cX7_step 58 = .ok (.iand, 1) := by decide +kernel
theorem dX7_step_59 : decode cX7_step 59 = .ok (.istore 4, 2) := by decide +kernel
theorem dX7_step_61 : decode cX7_step 61 = .ok (.iload 4, 2) := by decide +kernel
theorem dX7_step_63 : decode cX7_step 63 = .ok (.invokestatic 89, 3) := by decide +kernel
theorem dX7_step_66 : decode cX7_step 66 = .ok (.aload_n 0, 1) := by decide +kernel
theorem dX7_step_67 : decode cX7_step 67 = .ok (.getfield 40, 3) := by decide +kernel
theorem dX7_step_70 : decode cX7_step 70 = .ok (.if_icmp .ge 10, 3) := by decide +kernel
theorem dX7_step_73 : decode cX7_step 73 = .ok (.aload_n 0, 1) := by decide +kernel
theorem dX7_step_74 : decode cX7_step 74 = .ok (.iload_n 1, 1) := by decide +kernel
theorem dX7_step_75 : decode cX7_step 75 = .ok (.putfield 44, 3) := by decide +kernel
theorem dX7_step_78 : decode cX7_step 78 = .ok (.iconst 0, 1) := by decide +kernel
theorem dX7_step_79 : decode cX7_step 79 = .ok (.ireturn, 1) := by decide +kernel
theorem dX7_step_80 : decode cX7_step 80 = .ok (.aload_n 0, 1) := by decide +kernel
theorem dX7_step_81 : decode cX7_step 81 = .ok (.iload 4, 2) := by decide +kernel
theorem dX7_step_83 : decode cX7_step 83 = .ok (.bipush 60, 2) := by decide +kernel
theorem dX7_step_85 : decode cX7_step 85 = .ok (.aload_n 0, 1) := by decide +kernel
theorem dX7_step_86 : decode cX7_step 86 = .ok (.getfield 30, 3) := by decide +kernel
theorem dX7_step_89 : decode cX7_step 89 = .ok (.iload_n 1, 1) := by decide +kernel
theorem dX7_step_90 : decode cX7_step 90 = .ok (.invokevirtual 94, 3) := by decide +kernel
theorem dX7_step_93 : decode cX7_step 93 = .ok (.imul, 1) := by decide +kernel
theorem dX7_step_94 : decode cX7_step 94 = .ok (.invokevirtual 97, 3) := by decide +kernel
theorem dX7_step_97 : decode cX7_step 97 = .ok (.iload 4, 2) := by decide +kernel
theorem dX7_step_99 : decode cX7_step 99 = .ok (.ireturn, 1) := by decide +kernel
theorem dX7_stumbling_0 : decode cX7_stumbling 0 = .ok (.iconst 0, 1) := by decide +kernel
theorem dX7_stumbling_1 : decode cX7_stumbling 1 = .ok (.istore_n 3, 1) := by decide +kernel
theorem dX7_stumbling_2 : decode cX7_stumbling 2 = .ok (.iconst 0, 1) := by decide +kernel
theorem dX7_stumbling_3 : decode cX7_stumbling 3 = .ok (.istore 4, 2) := by decide +kernel
theorem dX7_stumbling_5 : decode cX7_stumbling 5 = .ok (.iload 4, 2) := by decide +kernel
theorem dX7_stumbling_7 : decode cX7_stumbling 7 = .ok (.aload_n 0, 1) := by decide +kernel
theorem dX7_stumbling_8 : decode cX7_stumbling 8 = .ok (.getfield 30, 3) := by decide +kernel
theorem dX7_stumbling_11 : decode cX7_stumbling 11 = .ok (.getfield 100, 3) := by decide +kernel
theorem dX7_stumbling_14 : decode cX7_stumbling 14 = .ok (.if_icmp .ge 50, 3) := by decide +kernel
theorem dX7_stumbling_17 : decode cX7_stumbling 17 = .ok (.iload 4, 2) := by decide +kernel
theorem dX7_stumbling_19 : decode cX7_stumbling 19 = .ok (.iload_n 1, 1) := by decide +kernel
theorem dX7_stumbling_20 : decode cX7_stumbling 20 = .ok (.invokestatic 103, 3) := by decide +kernel
theorem dX7_stumbling_23 : decode cX7_stumbling 23 = .ok (.ifCond .eq 35, 3) := by decide +kernel
theorem dX7_stumbling_26 : decode cX7_stumbling 26 = .ok (.aload_n 0, 1) := by decide +kernel
theorem dX7_stumbling_27 : decode cX7_stumbling 27 = .ok (.getfield 9, 3) := by decide +kernel
theorem dX7_stumbling_30 : decode cX7_stumbling 30 = .ok (.iload 4, 2) := by decide +kernel
theorem dX7_stumbling_32 : decode cX7_stumbling 32 = .ok (.iaload, 1) := by decide +kernel
theorem dX7_stumbling_33 : decode cX7_stumbling 33 = .ok (.aload_n 0, 1) := by decide +kernel
theorem dX7_stumbling_34 : decode cX7_stumbling 34 = .ok (.getfield 27, 3) := by decide +kernel
theorem dX7_stumbling_37 : decode cX7_stumbling 37 = .ok (.iload 4, 2) := by decide +kernel
theorem dX7_stumbling_39 : decode cX7_stumbling 39 = .ok (.iaload, 1) := by decide +kernel
theorem dX7_stumbling_40 : decode cX7_stumbling 40 = .ok (.if_icmp .ge 18, 3) := by decide +kernel
theorem dX7_stumbling_43 : decode cX7_stumbling 43 = .ok (.iload_n 3, 1) := by decide +kernel
theorem dX7_stumbling_44 : decode cX7_stumbling 44 = .ok (.iconst 1, 1) := by decide +kernel
theorem dX7_stumbling_45 : decode cX7_stumbling 45 = .ok (.iload 4, 2) := by decide +kernel
theorem dX7_stumbling_47 : decode cX7_stumbling 47 = .ok (.ishl, 1) := by decide +kernel
theorem dX7_stumbling_48 : decode cX7_stumbling 48 = .ok (.ior, 1) := by decide +kernel
theorem dX7_stumbling_49 : decode cX7_stumbling 49 = .ok (.istore_n 3, 1) := by decide +kernel
theorem dX7_stumbling_50 : decode cX7_stumbling 50 = .ok (.aload_n 0, 1) := by decide +kernel
theorem dX7_stumbling_51 : decode cX7_stumbling 51 = .ok (.getfield 15, 3) := by decide +kernel
theorem dX7_stumbling_54 : decode cX7_stumbling 54 = .ok (.iload 4, 2) := by decide +kernel
theorem dX7_stumbling_56 : decode cX7_stumbling 56 = .ok (.iload_n 2, 1) := by decide +kernel
theorem dX7_stumbling_57 : decode cX7_stumbling 57 = .ok (.iastore, 1) := by decide +kernel
theorem dX7_stumbling_58 : decode cX7_stumbling 58 = .ok (.iinc 4 1, 3) := by decide +kernel
theorem dX7_stumbling_61 : decode cX7_stumbling 61 = .ok (.goto (-56), 3) := by decide +kernel
theorem dX7_stumbling_64 : decode cX7_stumbling 64 = .ok (.aload_n 0, 1) := by decide +kernel
theorem dX7_stumbling_65 : decode cX7_stumbling 65 = .ok (.dup, 1) := by decide +kernel
theorem dX7_stumbling_66 : decode cX7_stumbling 66 = .ok (.getfield 47, 3) := by decide +kernel
theorem dX7_stumbling_69 : decode cX7_stumbling 69 = .ok (.iload_n 3, 1) := by decide +kernel
theorem dX7_stumbling_70 : decode cX7_stumbling 70 = .ok (.ior, 1) := by decide +kernel
theorem dX7_stumbling_71 : decode cX7_stumbling 71 = .ok (.putfield 47, 3) := by decide +kernel
theorem dX7_stumbling_74 : decode cX7_stumbling 74 = .ok (.iload_n 3, 1) := by decide +kernel
theorem dX7_stumbling_75 : decode cX7_stumbling 75 = .ok (.ireturn, 1) := by decide +kernel
end
section
theorem dX8_back_0 : decode cX8_back 0 = .ok (.aload_n 0, 1) := by decide +kernel
theorem dX8_back_1 : decode cX8_back 1 = .ok (.getfield 46, 3) := by decide +kernel
theorem dX8_back_4 : decode cX8_back 4 = .ok (.aload_n 0, 1) := by decide +kernel
theorem dX8_back_5 : decode cX8_back 5 = .ok (.getfield 33, 3) := by decide +kernel
theorem dX8_back_8 : decode cX8_back 8 = .ok (.invokevirtual 209, 3) := by decide +kernel
theorem dX8_back_11 : decode cX8_back 11 = .ok (.ifCond .ne 6, 3) := by decide +kernel
theorem dX8_back_14 : decode cX8_back 14 = .ok (.bipush (-2), 2) := by decide +kernel
theorem dX8_back_16 : decode cX8_back 16 = .ok (.ireturn, 1) := by decide +kernel
theorem dX8_back_17 : decode cX8_back 17 = .ok (.aload_n 0, 1) := by decide +kernel
theorem dX8_back_18 : decode cX8_back 18 = .ok (.getfield 42, 3) := by decide +kernel
theorem dX8_back_21 : decode cX8_back 21 = .ok (.iconst 0, 1) := by decide +kernel
theorem dX8_back_22 : decode cX8_back 22 = .ok (.putfield 213, 3) := by decide +kernel
theorem dX8_back_25 : decode cX8_back 25 = .ok (.aload_n 0, 1) := by decide +kernel
theorem dX8_back_26 : decode cX8_back 26 = .ok (.invokevirtual 200, 3) := by decide +kernel
theorem dX8_back_29 : decode cX8_back 29 = .ok (.aload_n 0, 1) := by decide +kernel
theorem dX8_back_30 : decode cX8_back 30 = .ok (.getfield 46, 3) := by decide +kernel
theorem dX8_back_33 : decode cX8_back 33 = .ok (.getfield 213, 3) := by decide +kernel
theorem dX8_back_36 : decode cX8_back 36 = .ok (.ireturn, 1) := by decide +kernel
theorem dX8_bear_0 : decode cX8_bear 0 = .ok (.aload_n 0, 1) := by decide +kernel
theorem dX8_bear_1 : decode cX8_bear 1 = .ok (.getfield 23, 3) := by decide +kernel
theorem dX8_bear_4 : decode cX8_bear 4 = .ok (.iload_n 1, 1) := by decide +kernel
theorem dX8_bear_5 : decode cX8_bear 5 = .ok (.invokevirtual 146, 3) := by decide +kernel
theorem dX8_bear_8 : decode cX8_bear 8 = .ok (.ifCond .eq 23, 3) := by decide +kernel
theorem dX8_bear_11 : decode cX8_bear 11 = .ok (.iload_n 2, 1) := by decide +kernel
theorem dX8_bear_12 : decode cX8_bear 12 = .ok (.iconst 0, 1) := by decide +kernel
theorem dX8_bear_13 : decode cX8_bear 13 = .ok (.bipush 119, 2) := by decide +kernel
theorem dX8_bear_15 : decode cX8_bear 15 = .ok (.invokestatic 121, 3) := by decide +kernel
theorem dX8_bear_18 : decode cX8_bear 18 = .ok (.ifCond .eq 13, 3) := by decide +kernel
theorem dX8_bear_21 : decode cX8_bear 21 = .ok (.iload_n 3, 1) := by decide +kernel
theorem dX8_bear_22 : decode cX8_bear 22 = .ok (.iload_n 2, 1) := by decide +kernel
theorem dX8_bear_23 : decode cX8_bear 23 = .ok (.bipush 119, 2) := by decide +kernel
theorem dX8_bear_25 : decode cX8_bear 25 = .ok (.invokestatic 121, 3) := by decide +kernel
theorem dX8_bear_28 : decode cX8_bear 28 = .ok (.ifCond .ne 5, 3) := by decide +kernel
theorem dX8_bear_31 : decode cX8_bear 31 = .ok (.iconst (-1), 1) := by decide +kernel
theorem dX8_bear_32 : decode cX8_bear 32 = .ok (.ireturn, 1) := by decide +kernel
theorem dX8_bear_33 : decode cX8_bear 33 = .ok (.aload_n 0, 1) := by decide +kernel
theorem dX8_bear_34 : decode cX8_bear 34 = .ok (.getfield 33, 3) := by decide +kernel
theorem dX8_bear_37 : decode cX8_bear 37 = .ok (.invokevirtual 189, 3) := by decide +kernel
theorem dX8_bear_40 : decode cX8_bear 40 = .ok (.ifCond .eq 6, 3) := by decide +kernel
theorem dX8_bear_43 : decode cX8_bear 43 = .ok (.bipush (-3), 2) := by decide +kernel
theorem dX8_bear_45 : decode cX8_bear 45 = .ok (.ireturn, 1) := by decide +kernel
theorem dX8_bear_46 : decode cX8_bear 46 = .ok (.aload_n 0, 1) := by decide +kernel
theorem dX8_bear_47 : decode cX8_bear 47 = .ok (.getfield 42, 3) := by decide +kernel
theorem dX8_bear_50 : decode cX8_bear 50 = .ok (.aload_n 0, 1) := by decide +kernel
theorem dX8_bear_51 : decode cX8_bear 51 = .ok (.getfield 33, 3) := by decide +kernel
theorem dX8_bear_54 : decode cX8_bear 54 = .ok (.invokevirtual 193, 3) := by decide +kernel
theorem dX8_bear_57 : decode cX8_bear 57 = .ok (.aload_n 0, 1) := by decide +kernel
theorem dX8_bear_58 : decode cX8_bear 58 = .ok (.getfield 33, 3) := by decide +kernel
theorem dX8_bear_61 : decode cX8_bear 61 = .ok (.iload_n 1, 1) := by decide +kernel
theorem dX8_bear_62 : decode cX8_bear 62 = .ok (.iload_n 2, 1) := by decide +kernel
theorem dX8_bear_63 : decode cX8_bear 63 = .ok (.iload_n 3, 1) := by decide +kernel
theorem dX8_bear_64 : decode cX8_bear 64 = .ok (.invokevirtual 197, 3) := by decide +kernel
theorem dX8_bear_67 : decode cX8_bear 67 = .ok (.pop, 1) := by decide +kernel
theorem dX8_bear_68 : decode cX8_bear 68 = .ok (.aload_n 0, 1) := by decide +kernel
theorem dX8_bear_69 : decode cX8_bear 69 = .ok (.invokevirtual 200, 3) := by decide +kernel
theorem dX8_bear_72 : decode cX8_bear 72 = .ok (.aload_n 0, 1) := by decide +kernel
theorem dX8_bear_73 : decode cX8_bear 73 = .ok (.getfield 33, 3) := by decide +kernel
theorem dX8_bear_76 : decode cX8_bear 76 = .ok (.getfield 203, 3) := by decide +kernel
theorem dX8_bear_79 : decode cX8_bear 79 = .ok (.ireturn, 1) := by decide +kernel
theorem dX8_bearUpAlone_0 : decode cX8_bearUpAlone 0 = .ok (.iconst 0, 1) := by decide +kernel
theorem dX8_bearUpAlone_1 : decode cX8_bearUpAlone 1 = .ok (.istore_n 2, 1) := by decide +kernel
theorem dX8_bearUpAlone_2 : decode cX8_bearUpAlone 2 = .ok (.iload_n 2, 1) := by decide +kernel
theorem dX8_bearUpAlone_3 : decode cX8_bearUpAlone 3 = .ok (.aload_n 0, 1) := by decide +kernel
theorem dX8_bearUpAlone_4 : decode cX8_bearUpAlone 4 = .ok (.getfield 23, 3) := by decide +kernel
theorem dX8_bearUpAlone_7 : decode cX8_bearUpAlone 7 = .ok (.getfield 292, 3) := by decide +kernel
theorem dX8_bearUpAlone_10 : decode cX8_bearUpAlone 10 = .ok (.if_icmp .ge 16, 3) := by decide +kernel
theorem dX8_bearUpAlone_13 : decode cX8_bearUpAlone 13 = .ok (.aload_n 0, 1) := by decide +kernel
theorem dX8_bearUpAlone_14 : decode cX8_bearUpAlone 14 = .ok (.getfield 59, 3) := by decide +kernel
theorem dX8_bearUpAlone_17 : decode cX8_bearUpAlone 17 = .ok (.iload_n 2, 1) := by decide +kernel
theorem dX8_bearUpAlone_18 : decode cX8_bearUpAlone 18 = .ok (.iload_n 1, 1) := by decide +kernel
theorem dX8_bearUpAlone_19 : decode cX8_bearUpAlone 19 = .ok (.iastore, 1) := by decide +kernel
theorem dX8_bearUpAlone_20 : decode cX8_bearUpAlone 20 = .ok (.iinc 2 1, 3) := by decide +kernel
theorem dX8_bearUpAlone_23 : decode cX8_bearUpAlone 23 = .ok (.goto (-21), 3) := by decide +kernel
theorem dX8_bearUpAlone_26 : decode cX8_bearUpAlone 26 = .ok (.aload_n 0, 1) := by decide +kernel
theorem dX8_bearUpAlone_27 : decode cX8_bearUpAlone 27 = .ok (.getfield 71, 3) := by decide +kernel
theorem dX8_bearUpAlone_30 : decode cX8_bearUpAlone 30 = .ok (.aload_n 0, 1) := by decide +kernel
theorem dX8_bearUpAlone_31 : decode cX8_bearUpAlone 31 = .ok (.getfield 23, 3) := by decide +kernel
theorem dX8_bearUpAlone_34 : decode cX8_bearUpAlone 34 = .ok (.invokevirtual 253, 3) := by decide +kernel
theorem dX8_bearUpAlone_37 : decode cX8_bearUpAlone 37 = .ok (.aload_n 0, 1) := by decide +kernel
theorem dX8_bearUpAlone_38 : decode cX8_bearUpAlone 38 = .ok (.getfield 71, 3) := by decide +kernel
theorem dX8_bearUpAlone_41 : decode cX8_bearUpAlone 41 = .ok (.aload_n 0, 1) := by decide +kernel
theorem dX8_bearUpAlone_42 : decode cX8_bearUpAlone 42 = .ok (.getfield 59, 3) := by decide +kernel
theorem dX8_bearUpAlone_45 : decode cX8_bearUpAlone 45 = .ok (.invokevirtual 256, 3) := by decide +kernel
theorem dX8_bearUpAlone_48 : decode cX8_bearUpAlone 48 = .ok (.aload_n 0, 1) := by decide +kernel
theorem dX8_bearUpAlone_49 : decode cX8_bearUpAlone 49 = .ok (.getfield 71, 3) := by decide +kernel
theorem dX8_bearUpAlone_52 : decode cX8_bearUpAlone 52 = .ok (.getfield 167, 3) := by decide +kernel
theorem dX8_bearUpAlone_55 : decode cX8_bearUpAlone 55 = .ok (.bipush (-4), 2) := by decide +kernel
theorem dX8_bearUpAlone_57 : decode cX8_bearUpAlone 57 = .ok (.if_icmp .ne 7, 3) := by decide +kernel
theorem dX8_bearUpAlone_60 : decode cX8_bearUpAlone 60 = .ok (.iconst 1, 1) := by decide +kernel
theorem dX8_bearUpAlone_61 : decode cX8_bearUpAlone 61 = .ok (.goto 4, 3) := by decide +kernel
theorem dX8_bearUpAlone_64 : decode cX8_bearUpAlone 64 = .ok (.iconst 0, 1) := by decide +kernel
theorem dX8_bearUpAlone_65 : decode cX8_bearUpAlone 65 = .ok (.ireturn, 1) := by decide +kernel
theorem dX8_bearer_0 : decode cX8_bearer 0 = .ok (.aload_n 0, 1) := by decide +kernel
theorem dX8_bearer_1 : decode cX8_bearer 1 = .ok (.getfield 23, 3) := by decide +kernel
theorem dX8_bearer_4 : decode cX8_bearer 4 = .ok (.iload_n 1, 1) := by decide +kernel
theorem dX8_bearer_5 : decode cX8_bearer 5 = .ok (.invokevirtual 146, 3) := by decide +kernel
theorem dX8_bearer_8 : decode cX8_bearer 8 = .ok (.ifCond .ne 5, 3) := by decide +kernel
theorem dX8_bearer_11 : decode cX8_bearer 11 = .ok (.iconst (-1), 1) := by decide +kernel
theorem dX8_bearer_12 : decode cX8_bearer 12 = .ok (.ireturn, 1) := by decide +kernel
theorem dX8_bearer_13 : decode cX8_bearer 13 = .ok (.iload_n 2, 1) := by decide +kernel
theorem dX8_bearer_14 : decode cX8_bearer 14 = .ok (.tableswitch 97 0 5 #[38, 48, 58, 68, 77, 87], 38) := by decide +kernel
theorem dX8_bearer_52 : decode cX8_bearer 52 = .ok (.aload_n 0, 1) := by decide +kernel
theorem dX8_bearer_53 : decode cX8_bearer 53 = .ok (.getfield 23, 3) := by decide +kernel
theorem dX8_bearer_56 : decode cX8_bearer 56 = .ok (.getfield 149, 3) := by decide +kernel
theorem dX8_bearer_59 : decode cX8_bearer 59 = .ok (.iload_n 1, 1) := by decide +kernel
theorem dX8_bearer_60 : decode cX8_bearer 60 = .ok (.iaload, 1) := by decide +kernel
theorem dX8_bearer_61 : decode cX8_bearer 61 = .ok (.ireturn, 1) := by decide +kernel
theorem dX8_bearer_62 : decode cX8_bearer 62 = .ok (.aload_n 0, 1) := by decide +kernel
theorem dX8_bearer_63 : decode cX8_bearer 63 = .ok (.getfield 23, 3) := by decide +kernel
theorem dX8_bearer_66 : decode cX8_bearer 66 = .ok (.getfield 152, 3) := by decide +kernel
theorem dX8_bearer_69 : decode cX8_bearer 69 = .ok (.iload_n 1, 1) := by decide +kernel
theorem dX8_bearer_70 : decode cX8_bearer 70 = .ok (.iaload, 1) := by decide +kernel
theorem dX8_bearer_71 : decode cX8_bearer 71 = .ok (.ireturn, 1) := by decide +kernel
theorem dX8_bearer_72 : decode cX8_bearer 72 = .ok (.aload_n 0, 1) := by decide +kernel
theorem dX8_bearer_73 : decode cX8_bearer 73 = .ok (.getfield 67, 3) := by decide +kernel
theorem dX8_bearer_76 : decode cX8_bearer 76 = .ok (.getfield 155, 3) := by decide +kernel
theorem dX8_bearer_79 : decode cX8_bearer 79 = .ok (.iload_n 1, 1) := by decide +kernel
theorem dX8_bearer_80 : decode cX8_bearer 80 = .ok (.iaload, 1) := by decide +kernel
theorem dX8_bearer_81 : decode cX8_bearer 81 = .ok (.ireturn, 1) := by decide +kernel
theorem dX8_bearer_82 : decode cX8_bearer 82 = .ok (.aload_n 0, 1) := by decide +kernel
theorem dX8_bearer_83 : decode cX8_bearer 83 = .ok (.getfield 67, 3) := by decide +kernel
theorem dX8_bearer_86 : decode cX8_bearer 86 = .ok (.iload_n 1, 1) := by decide +kernel
theorem dX8_bearer_87 : decode cX8_bearer 87 = .ok (.invokevirtual 158, 3) := by decide +kernel
theorem dX8_bearer_90 : decode cX8_bearer 90 = .ok (.ireturn, 1) := by decide +kernel
theorem dX8_bearer_91 : decode cX8_bearer 91 = .ok (.aload_n 0, 1) := by decide +kernel
theorem dX8_bearer_92 : decode cX8_bearer 92 = .ok (.getfield 67, 3) := by decide +kernel
theorem dX8_bearer_95 : decode cX8_bearer 95 = .ok (.getfield 161, 3) := by decide +kernel
theorem dX8_bearer_98 : decode cX8_bearer 98 = .ok (.iload_n 1, 1) := by decide +kernel
theorem dX8_bearer_99 : decode cX8_bearer 99 = .ok (.iaload, 1) := by decide +kernel
theorem dX8_bearer_100 : decode cX8_bearer 100 = .ok (.ireturn, 1) := by decide +kernel
theorem dX8_bearer_101 : decode cX8_bearer 101 = .ok (.aload_n 0, 1) := by decide +kernel
theorem dX8_bearer_102 : decode cX8_bearer 102 = .ok (.getfield 67, 3) := by decide +kernel
theorem dX8_bearer_105 : decode cX8_bearer 105 = .ok (.getfield 164, 3) := by decide +kernel
theorem dX8_bearer_108 : decode cX8_bearer 108 = .ok (.iload_n 1, 1) := by decide +kernel
theorem dX8_bearer_109 : decode cX8_bearer 109 = .ok (.iaload, 1) := by decide +kernel
theorem dX8_bearer_110 : decode cX8_bearer 110 = .ok (.ireturn, 1) := by decide +kernel
theorem dX8_bearer_111 : decode cX8_bearer 111 = .ok (.iconst (-1), 1) := by decide +kernel
theorem dX8_bearer_112 : decode cX8_bearer 112 = .ok (.ireturn, 1) := by decide +kernel
theorem dX8_best_0 : decode cX8_best 0 = .ok (.aload_n 0, 1) := by decide +kernel
theorem dX8_best_1 : decode cX8_best 1 = .ok (.getfield 23, 3) := by decide +kernel
theorem dX8_best_4 : decode cX8_best 4 = .ok (.iload_n 1, 1) := by decide +kernel
theorem dX8_best_5 : decode cX8_best 5 = .ok (.invokevirtual 146, 3) := by decide +kernel
theorem dX8_best_8 : decode cX8_best 8 = .ok (.ifCond .eq 12, 3) := by decide +kernel
theorem dX8_best_11 : decode cX8_best 11 = .ok (.iload_n 2, 1) := by decide +kernel
theorem dX8_best_12 : decode cX8_best 12 = .ok (.iconst 0, 1) := by decide +kernel
theorem dX8_best_13 : decode cX8_best 13 = .ok (.iconst 1, 1) := by decide +kernel
theorem dX8_best_14 : decode cX8_best 14 = .ok (.invokestatic 121, 3) := by decide +kernel
theorem dX8_best_17 : decode cX8_best 17 = .ok (.ifCond .ne 5, 3) := by decide +kernel
theorem dX8_best_20 : decode cX8_best 20 = .ok (.iconst (-1), 1) := by decide +kernel
theorem dX8_best_21 : decode cX8_best 21 = .ok (.ireturn, 1) := by decide +kernel
theorem dX8_best_22 : decode cX8_best 22 = .ok (.aload_n 0, 1) := by decide +kernel
theorem dX8_best_23 : decode cX8_best 23 = .ok (.getfield 79, 3) := by decide +kernel
theorem dX8_best_26 : decode cX8_best 26 = .ok (.iload_n 1, 1) := by decide +kernel
theorem dX8_best_27 : decode cX8_best 27 = .ok (.aload_n 0, 1) := by decide +kernel
theorem dX8_best_28 : decode cX8_best 28 = .ok (.getfield 67, 3) := by decide +kernel
theorem dX8_best_31 : decode cX8_best 31 = .ok (.iload_n 1, 1) := by decide +kernel
theorem dX8_best_32 : decode cX8_best 32 = .ok (.invokevirtual 158, 3) := by decide +kernel
theorem dX8_best_35 : decode cX8_best 35 = .ok (.invokevirtual 214, 3) := by decide +kernel
theorem dX8_best_38 : decode cX8_best 38 = .ok (.ifCond .ne 6, 3) := by decide +kernel
theorem dX8_best_41 : decode cX8_best 41 = .ok (.bipush (-4), 2) := by decide +kernel
theorem dX8_best_43 : decode cX8_best 43 = .ok (.ireturn, 1) := by decide +kernel
theorem dX8_best_44 : decode cX8_best 44 = .ok (.iload_n 2, 1) := by decide +kernel
theorem dX8_best_45 : decode cX8_best 45 = .ok (.ifCond .ne 25, 3) := by decide +kernel
theorem dX8_best_48 : decode cX8_best 48 = .ok (.sipush 200, 3) := by decide +kernel
theorem dX8_best_51 : decode cX8_best 51 = .ok (.aload_n 0, 1) := by decide +kernel
theorem dX8_best_52 : decode cX8_best 52 = .ok (.getfield 79, 3) := by decide +kernel
theorem dX8_best_55 : decode cX8_best 55 = .ok (.getfield 218, 3) := by decide +kernel
theorem dX8_best_58 : decode cX8_best 58 = .ok (.imul, 1) := by decide +kernel
theorem dX8_best_59 : decode cX8_best 59 = .ok (.aload_n 0, 1) := by decide +kernel
theorem dX8_best_60 : decode cX8_best 60 = .ok (.getfield 79, 3) := by decide +kernel
theorem dX8_best_63 : decode cX8_best 63 = .ok (.getfield 220, 3) := by decide +kernel
theorem dX8_best_66 : decode cX8_best 66 = .ok (.iadd, 1) := by decide +kernel
theorem dX8_best_67 : decode cX8_best 67 = .ok (.goto 10, 3) := by decide +kernel
theorem dX8_best_70 : decode cX8_best 70 = .ok (.aload_n 0, 1) := by decide +kernel
theorem dX8_best_71 : decode cX8_best 71 = .ok (.getfield 79, 3) := by decide +kernel
theorem dX8_best_74 : decode cX8_best 74 = .ok (.getfield 222, 3) := by decide +kernel
theorem dX8_best_77 : decode cX8_best 77 = .ok (.ireturn, 1) := by decide +kernel
theorem dX8_cairn_0 : decode cX8_cairn 0 = .ok (.aload_n 0, 1) := by decide +kernel
theorem dX8_cairn_1 : decode cX8_cairn 1 = .ok (.getfield 23, 3) := by decide +kernel
theorem dX8_cairn_4 : decode cX8_cairn 4 = .ok (.iload_n 1, 1) := by decide +kernel
theorem dX8_cairn_5 : decode cX8_cairn 5 = .ok (.invokevirtual 146, 3) := by decide +kernel
theorem dX8_cairn_8 : decode cX8_cairn 8 = .ok (.ifCond .eq 29, 3) := by decide +kernel
theorem dX8_cairn_11 : decode cX8_cairn 11 = .ok (.aload_n 0, 1) := by decide +kernel
theorem dX8_cairn_12 : decode cX8_cairn 12 = .ok (.getfield 23, 3) := by decide +kernel
theorem dX8_cairn_15 : decode cX8_cairn 15 = .ok (.iload_n 2, 1) := by decide +kernel
theorem dX8_cairn_16 : decode cX8_cairn 16 = .ok (.invokevirtual 244, 3) := by decide +kernel
theorem dX8_cairn_19 : decode cX8_cairn 19 = .ok (.ifCond .eq 18, 3) := by decide +kernel
theorem dX8_cairn_22 : decode cX8_cairn 22 = .ok (.iload_n 3, 1) := by decide +kernel
theorem dX8_cairn_23 : decode cX8_cairn 23 = .ok (.bipush (-9), 2) := by decide +kernel
theorem dX8_cairn_25 : decode cX8_cairn 25 = .ok (.bipush 9, 2) := by decide +kernel
theorem dX8_cairn_27 : decode cX8_cairn 27 = .ok (.invokestatic 121, 3) := by decide +kernel
theorem dX8_cairn_30 : decode cX8_cairn 30 = .ok (.ifCond .eq 7, 3) := by decide +kernel
theorem dX8_cairn_33 : decode cX8_cairn 33 = .ok (.iload_n 3, 1) := by decide +kernel
theorem dX8_cairn_34 : decode cX8_cairn 34 = .ok (.ifCond .ne 5, 3) := by decide +kernel
theorem dX8_cairn_37 : decode cX8_cairn 37 = .ok (.iconst (-1), 1) := by decide +kernel
theorem dX8_cairn_38 : decode cX8_cairn 38 = .ok (.ireturn, 1) := by decide +kernel
theorem dX8_cairn_39 : decode cX8_cairn 39 = .ok (.aload_n 0, 1) := by decide +kernel
theorem dX8_cairn_40 : decode cX8_cairn 40 = .ok (.getfield 27, 3) := by decide +kernel
theorem dX8_cairn_43 : decode cX8_cairn 43 = .ok (.aload_n 0, 1) := by decide +kernel
theorem dX8_cairn_44 : decode cX8_cairn 44 = .ok (.getfield 23, 3) := by decide +kernel
theorem dX8_cairn_47 : decode cX8_cairn 47 = .ok (.invokevirtual 247, 3) := by decide +kernel
theorem dX8_cairn_50 : decode cX8_cairn 50 = .ok (.aload_n 0, 1) := by decide +kernel
theorem dX8_cairn_51 : decode cX8_cairn 51 = .ok (.getfield 27, 3) := by decide +kernel
theorem dX8_cairn_54 : decode cX8_cairn 54 = .ok (.iload_n 2, 1) := by decide +kernel
theorem dX8_cairn_55 : decode cX8_cairn 55 = .ok (.iload_n 3, 1) := by decide +kernel
theorem dX8_cairn_56 : decode cX8_cairn 56 = .ok (.invokevirtual 250, 3) := by decide +kernel
theorem dX8_cairn_59 : decode cX8_cairn 59 = .ok (.ifCond .ne 6, 3) := by decide +kernel
theorem dX8_cairn_62 : decode cX8_cairn 62 = .ok (.bipush (-2), 2) := by decide +kernel
theorem dX8_cairn_64 : decode cX8_cairn 64 = .ok (.ireturn, 1) := by decide +kernel
theorem dX8_cairn_65 : decode cX8_cairn 65 = .ok (.aload_n 0, 1) := by decide +kernel
theorem dX8_cairn_66 : decode cX8_cairn 66 = .ok (.getfield 71, 3) := by decide +kernel
theorem dX8_cairn_69 : decode cX8_cairn 69 = .ok (.aload_n 0, 1) := by decide +kernel
theorem dX8_cairn_70 : decode cX8_cairn 70 = .ok (.getfield 27, 3) := by decide +kernel
theorem dX8_cairn_73 : decode cX8_cairn 73 = .ok (.invokevirtual 253, 3) := by decide +kernel
theorem dX8_cairn_76 : decode cX8_cairn 76 = .ok (.aload_n 0, 1) := by decide +kernel
theorem dX8_cairn_77 : decode cX8_cairn 77 = .ok (.getfield 71, 3) := by decide +kernel
theorem dX8_cairn_80 : decode cX8_cairn 80 = .ok (.aload_n 0, 1) := by decide +kernel
theorem dX8_cairn_81 : decode cX8_cairn 81 = .ok (.getfield 56, 3) := by decide +kernel
theorem dX8_cairn_84 : decode cX8_cairn 84 = .ok (.invokevirtual 256, 3) := by decide +kernel
theorem dX8_cairn_87 : decode cX8_cairn 87 = .ok (.aload_n 0, 1) := by decide +kernel
theorem dX8_cairn_88 : decode cX8_cairn 88 = .ok (.getfield 71, 3) := by decide +kernel
theorem dX8_cairn_91 : decode cX8_cairn 91 = .ok (.iload_n 1, 1) := by decide +kernel
theorem dX8_cairn_92 : decode cX8_cairn 92 = .ok (.invokevirtual 158, 3) := by decide +kernel
theorem dX8_cairn_95 : decode cX8_cairn 95 = .ok (.aload_n 0, 1) := by decide +kernel
theorem dX8_cairn_96 : decode cX8_cairn 96 = .ok (.getfield 67, 3) := by decide +kernel
theorem dX8_cairn_99 : decode cX8_cairn 99 = .ok (.iload_n 1, 1) := by decide +kernel
theorem dX8_cairn_100 : decode cX8_cairn 100 = .ok (.invokevirtual 158, 3) := by decide +kernel
theorem dX8_cairn_103 : decode cX8_cairn 103 = .ok (.isub, 1) := by decide +kernel
theorem dX8_cairn_104 : decode cX8_cairn 104 = .ok (.sipush 9999, 3) := by decide +kernel
theorem dX8_cairn_107 : decode cX8_cairn 107 = .ok (.iadd, 1) := by decide +kernel
theorem dX8_cairn_108 : decode cX8_cairn 108 = .ok (.ireturn, 1) := by decide +kernel
theorem dX8_commonDivisor_0 : decode cX8_commonDivisor 0 = .ok (.iload_n 0, 1) := by decide +kernel
theorem dX8_commonDivisor_1 : decode cX8_commonDivisor 1 = .ok (.istore_n 2, 1) := by decide +kernel
theorem dX8_commonDivisor_2 : decode cX8_commonDivisor 2 = .ok (.iload_n 1, 1) := by decide +kernel
theorem dX8_commonDivisor_3 : decode cX8_commonDivisor 3 = .ok (.istore_n 3, 1) := by decide +kernel
theorem dX8_commonDivisor_4 : decode cX8_commonDivisor 4 = .ok (.iconst 0, 1) := by decide +kernel
theorem dX8_commonDivisor_5 : decode cX8_commonDivisor 5 = .ok (.istore 4, 2) := by decide +kernel
theorem dX8_commonDivisor_7 : decode cX8_commonDivisor 7 = .ok (.iload 4, 2) := by decide +kernel
theorem dX8_commonDivisor_9 : decode cX8_commonDivisor 9 = .ok (.bipush 100, 2) := by decide +kernel
theorem dX8_commonDivisor_11 : decode cX8_commonDivisor 11 = .ok (.if_icmp .ge 23, 3) := by decide +kernel
theorem dX8_commonDivisor_14 : decode cX8_commonDivisor 14 = .ok (.iload_n 3, 1) := by decide +kernel
theorem dX8_commonDivisor_15 : decode cX8_commonDivisor 15 = .ok (.ifCond .eq 19, 3) := by decide +kernel
theorem dX8_commonDivisor_18 : decode cX8_commonDivisor 18 = .ok (.iload_n 2, 1) := by decide +kernel
theorem dX8_commonDivisor_19 : decode cX8_commonDivisor 19 = .ok (.iload_n 3, 1) := by decide +kernel
theorem dX8_commonDivisor_20 : decode cX8_commonDivisor 20 = .ok (.irem, 1) := by decide +kernel
theorem dX8_commonDivisor_21 : decode cX8_commonDivisor 21 = .ok (.istore 5, 2) := by decide +kernel
theorem dX8_commonDivisor_23 : decode cX8_commonDivisor 23 = .ok (.iload_n 3, 1) := by decide +kernel
theorem dX8_commonDivisor_24 : decode cX8_commonDivisor 24 = .ok (.istore_n 2, 1) := by decide +kernel
theorem dX8_commonDivisor_25 : decode cX8_commonDivisor 25 = .ok (.iload 5, 2) := by decide +kernel
theorem dX8_commonDivisor_27 : decode cX8_commonDivisor 27 = .ok (.istore_n 3, 1) := by decide +kernel
theorem dX8_commonDivisor_28 : decode cX8_commonDivisor 28 = .ok (.iinc 4 1, 3) := by decide +kernel
theorem dX8_commonDivisor_31 : decode cX8_commonDivisor 31 = .ok (.goto (-24), 3) := by decide +kernel
theorem dX8_commonDivisor_34 : decode cX8_commonDivisor 34 = .ok (.iload_n 2, 1) := by decide +kernel
theorem dX8_commonDivisor_35 : decode cX8_commonDivisor 35 = .ok (.ireturn, 1) := by decide +kernel
theorem dX8_count_0 : decode cX8_count 0 = .ok (.iload_n 1, 1) := by decide +kernel
theorem dX8_count_1 : decode cX8_count 1 = .ok (.tableswitch 129 0 9 #[55, 63, 71, 79, 87, 95, 103, 108, 116, 124], 55) := by decide +kernel
theorem dX8_count_56 : decode cX8_count 56 = .ok (.aload_n 0, 1) := by decide +kernel
theorem dX8_count_57 : decode cX8_count 57 = .ok (.getfield 23, 3) := by decide +kernel
theorem dX8_count_60 : decode cX8_count 60 = .ok (.getfield 289, 3) := by decide +kernel
theorem dX8_count_63 : decode cX8_count 63 = .ok (.ireturn, 1) := by decide +kernel
theorem dX8_count_64 : decode cX8_count 64 = .ok (.aload_n 0, 1) := by decide +kernel
theorem dX8_count_65 : decode cX8_count 65 = .ok (.getfield 23, 3) := by decide +kernel
theorem dX8_count_68 : decode cX8_count 68 = .ok (.getfield 292, 3) := by decide +kernel
theorem dX8_count_71 : decode cX8_count 71 = .ok (.ireturn, 1) := by decide +kernel
theorem dX8_count_72 : decode cX8_count 72 = .ok (.aload_n 0, 1) := by decide +kernel
theorem dX8_count_73 : decode cX8_count 73 = .ok (.getfield 23, 3) := by decide +kernel
theorem dX8_count_76 : decode cX8_count 76 = .ok (.getfield 170, 3) := by decide +kernel
theorem dX8_count_79 : decode cX8_count 79 = .ok (.ireturn, 1) := by decide +kernel
theorem dX8_count_80 : decode cX8_count 80 = .ok (.aload_n 0, 1) := by decide +kernel
theorem dX8_count_81 : decode cX8_count 81 = .ok (.getfield 23, 3) := by decide +kernel
theorem dX8_count_84 : decode cX8_count 84 = .ok (.getfield 295, 3) := by decide +kernel
theorem dX8_count_87 : decode cX8_count 87 = .ok (.ireturn, 1) := by decide +kernel
theorem dX8_count_88 : decode cX8_count 88 = .ok (.aload_n 0, 1) := by decide +kernel
theorem dX8_count_89 : decode cX8_count 89 = .ok (.getfield 23, 3) := by decide +kernel
theorem dX8_count_92 : decode cX8_count 92 = .ok (.getfield 298, 3) := by decide +kernel
theorem dX8_count_95 : decode cX8_count 95 = .ok (.ireturn, 1) := by decide +kernel
theorem dX8_count_96 : decode cX8_count 96 = .ok (.aload_n 0, 1) := by decide +kernel
theorem dX8_count_97 : decode cX8_count 97 = .ok (.getfield 33, 3) := by decide +kernel
theorem dX8_count_100 : decode cX8_count 100 = .ok (.getfield 203, 3) := by decide +kernel
theorem dX8_count_103 : decode cX8_count 103 = .ok (.ireturn, 1) := by decide +kernel
theorem dX8_count_104 : decode cX8_count 104 = .ok (.aload_n 0, 1) := by decide +kernel
theorem dX8_count_105 : decode cX8_count 105 = .ok (.getfield 272, 3) := by decide +kernel
theorem dX8_count_108 : decode cX8_count 108 = .ok (.ireturn, 1) := by decide +kernel
theorem dX8_count_109 : decode cX8_count 109 = .ok (.aload_n 0, 1) := by decide +kernel
theorem dX8_count_110 : decode cX8_count 110 = .ok (.getfield 42, 3) := by decide +kernel
theorem dX8_count_113 : decode cX8_count 113 = .ok (.getfield 213, 3) := by decide +kernel
theorem dX8_count_116 : decode cX8_count 116 = .ok (.ireturn, 1) := by decide +kernel
theorem dX8_count_117 : decode cX8_count 117 = .ok (.aload_n 0, 1) := by decide +kernel
theorem dX8_count_118 : decode cX8_count 118 = .ok (.getfield 46, 3) := by decide +kernel
theorem dX8_count_121 : decode cX8_count 121 = .ok (.getfield 213, 3) := by decide +kernel
theorem dX8_count_124 : decode cX8_count 124 = .ok (.ireturn, 1) := by decide +kernel
theorem dX8_count_125 : decode cX8_count 125 = .ok (.aload_n 0, 1) := by decide +kernel
theorem dX8_count_126 : decode cX8_count 126 = .ok (.getfield 115, 3) := by decide +kernel
theorem dX8_count_129 : decode cX8_count 129 = .ok (.ireturn, 1) := by decide +kernel
theorem dX8_count_130 : decode cX8_count 130 = .ok (.iconst (-1), 1) := by decide +kernel
theorem dX8_count_131 : decode cX8_count 131 = .ok (.ireturn, 1) := by decide +kernel
theorem dX8_failed_0 : decode cX8_failed 0 = .ok (.aload_n 0, 1) := by decide +kernel
theorem dX8_failed_1 : decode cX8_failed 1 = .ok (.aload_n 0, 1) := by decide +kernel
theorem dX8_failed_2 : decode cX8_failed 2 = .ok (.getfield 67, 3) := by decide +kernel
theorem dX8_failed_5 : decode cX8_failed 5 = .ok (.invokevirtual 275, 3) := by decide +kernel
theorem dX8_failed_8 : decode cX8_failed 8 = .ok (.ifCond .eq 8, 3) := by decide +kernel
theorem dX8_failed_11 : decode cX8_failed 11 = .ok (.bipush 64, 2) := by decide +kernel
theorem dX8_failed_13 : decode cX8_failed 13 = .ok (.goto 4, 3) := by decide +kernel
theorem dX8_failed_16 : decode cX8_failed 16 = .ok (.iconst 0, 1) := by decide +kernel
theorem dX8_failed_17 : decode cX8_failed 17 = .ok (.istore_n 1, 1) := by decide +kernel
theorem dX8_failed_18 : decode cX8_failed 18 = .ok (.iconst 0, 1) := by decide +kernel
theorem dX8_failed_19 : decode cX8_failed 19 = .ok (.istore_n 2, 1) := by decide +kernel
theorem dX8_failed_20 : decode cX8_failed 20 = .ok (.iload_n 2, 1) := by decide +kernel
theorem dX8_failed_21 : decode cX8_failed 21 = .ok (.aload_n 0, 1) := by decide +kernel
theorem dX8_failed_22 : decode cX8_failed 22 = .ok (.getfield 23, 3) := by decide +kernel
theorem dX8_failed_25 : decode cX8_failed 25 = .ok (.getfield 170, 3) := by decide +kernel
theorem dX8_failed_28 : decode cX8_failed 28 = .ok (.if_icmp .ge 31, 3) := by decide +kernel
theorem dX8_failed_31 : decode cX8_failed 31 = .ok (.aload_n 0, 1) := by decide +kernel
theorem dX8_failed_32 : decode cX8_failed 32 = .ok (.iload_n 2, 1) := by decide +kernel
theorem dX8_failed_33 : decode cX8_failed 33 = .ok (.invokevirtual 224, 3) := by decide +kernel
theorem dX8_failed_36 : decode cX8_failed 36 = .ok (.aload_n 0, 1) := by decide +kernel
theorem dX8_failed_37 : decode cX8_failed 37 = .ok (.aload_n 0, 1) := by decide +kernel
theorem dX8_failed_38 : decode cX8_failed 38 = .ok (.getfield 71, 3) := by decide +kernel
theorem dX8_failed_41 : decode cX8_failed 41 = .ok (.invokevirtual 275, 3) := by decide +kernel
theorem dX8_failed_44 : decode cX8_failed 44 = .ok (.ifCond .eq 9, 3) := by decide +kernel
theorem dX8_failed_47 : decode cX8_failed 47 = .ok (.iload_n 1, 1) := by decide +kernel
theorem dX8_failed_48 : decode cX8_failed 48 = .ok (.iconst 1, 1) := by decide +kernel
theorem dX8_failed_49 : decode cX8_failed 49 = .ok (.iload_n 2, 1) := by decide +kernel
theorem dX8_failed_50 : decode cX8_failed 50 = .ok (.ishl, 1) := by decide +kernel
theorem dX8_failed_51 : decode cX8_failed 51 = .ok (.ior, 1) := by decide +kernel
theorem dX8_failed_52 : decode cX8_failed 52 = .ok (.istore_n 1, 1) := by decide +kernel
theorem dX8_failed_53 : decode cX8_failed 53 = .ok (.iinc 2 1, 3) := by decide +kernel
theorem dX8_failed_56 : decode cX8_failed 56 = .ok (.goto (-36), 3) := by decide +kernel
theorem dX8_failed_59 : decode cX8_failed 59 = .ok (.iload_n 1, 1) := by decide +kernel
theorem dX8_failed_60 : decode cX8_failed 60 = .ok (.ireturn, 1) := by decide +kernel
theorem dX8_far_0 : decode cX8_far 0 = .ok (.iload_n 1, 1) := by decide +kernel
theorem dX8_far_1 : decode cX8_far 1 = .ok (.iconst (-1), 1) := by decide +kernel
theorem dX8_far_2 : decode cX8_far 2 = .ok (.if_icmp .eq 16, 3) := by decide +kernel
theorem dX8_far_5 : decode cX8_far 5 = .ok (.aload_n 0, 1) := by decide +kernel
theorem dX8_far_6 : decode cX8_far 6 = .ok (.getfield 23, 3) := by decide +kernel
theorem dX8_far_9 : decode cX8_far 9 = .ok (.iload_n 1, 1) := by decide +kernel
theorem dX8_far_10 : decode cX8_far 10 = .ok (.invokevirtual 146, 3) := by decide +kernel
theorem dX8_far_13 : decode cX8_far 13 = .ok (.ifCond .ne 5, 3) := by decide +kernel
theorem dX8_far_16 : decode cX8_far 16 = .ok (.iconst (-1), 1) := by decide +kernel
theorem dX8_far_17 : decode cX8_far 17 = .ok (.ireturn, 1) := by decide +kernel
theorem dX8_far_18 : decode cX8_far 18 = .ok (.aload_n 0, 1) := by decide +kernel
theorem dX8_far_19 : decode cX8_far 19 = .ok (.getfield 86, 3) := by decide +kernel
theorem dX8_far_22 : decode cX8_far 22 = .ok (.iconst (-1), 1) := by decide +kernel
theorem dX8_far_23 : decode cX8_far 23 = .ok (.iconst 0, 1) := by decide +kernel
theorem dX8_far_24 : decode cX8_far 24 = .ok (.invokevirtual 235, 3) := by decide +kernel
theorem dX8_far_27 : decode cX8_far 27 = .ok (.iload_n 1, 1) := by decide +kernel
theorem dX8_far_28 : decode cX8_far 28 = .ok (.iconst (-1), 1) := by decide +kernel
theorem dX8_far_29 : decode cX8_far 29 = .ok (.if_icmp .ne 13, 3) := by decide +kernel
theorem dX8_far_32 : decode cX8_far 32 = .ok (.aload_n 0, 1) := by decide +kernel
theorem dX8_far_33 : decode cX8_far 33 = .ok (.getfield 86, 3) := by decide +kernel
theorem dX8_far_36 : decode cX8_far 36 = .ok (.getfield 238, 3) := by decide +kernel
theorem dX8_far_39 : decode cX8_far 39 = .ok (.goto 12, 3) := by decide +kernel
theorem dX8_far_42 : decode cX8_far 42 = .ok (.aload_n 0, 1) := by decide +kernel
theorem dX8_far_43 : decode cX8_far 43 = .ok (.getfield 86, 3) := by decide +kernel
theorem dX8_far_46 : decode cX8_far 46 = .ok (.getfield 241, 3) := by decide +kernel
theorem dX8_far_49 : decode cX8_far 49 = .ok (.iload_n 1, 1) := by decide +kernel
theorem dX8_far_50 : decode cX8_far 50 = .ok (.iaload, 1) := by decide +kernel
theorem dX8_far_51 : decode cX8_far 51 = .ok (.ireturn, 1) := by decide +kernel
theorem dX8_fault_0 : decode cX8_fault 0 = .ok (.aload_n 0, 1) := by decide +kernel
theorem dX8_fault_1 : decode cX8_fault 1 = .ok (.getfield 16, 3) := by decide +kernel
theorem dX8_fault_4 : decode cX8_fault 4 = .ok (.aload_n 0, 1) := by decide +kernel
theorem dX8_fault_5 : decode cX8_fault 5 = .ok (.getfield 9, 3) := by decide +kernel
theorem dX8_fault_8 : decode cX8_fault 8 = .ok (.aload_n 0, 1) := by decide +kernel
theorem dX8_fault_9 : decode cX8_fault 9 = .ok (.getfield 115, 3) := by decide +kernel
theorem dX8_fault_12 : decode cX8_fault 12 = .ok (.invokevirtual 125, 3) := by decide +kernel
theorem dX8_fault_15 : decode cX8_fault 15 = .ok (.ireturn, 1) := by decide +kernel
theorem dX8_forget_0 : decode cX8_forget 0 = .ok (.aload_n 0, 1) := by decide +kernel
theorem dX8_forget_1 : decode cX8_forget 1 = .ok (.getfield 272, 3) := by decide +kernel
theorem dX8_forget_4 : decode cX8_forget 4 = .ok (.istore_n 1, 1) := by decide +kernel
theorem dX8_forget_5 : decode cX8_forget 5 = .ok (.aload_n 0, 1) := by decide +kernel
theorem dX8_forget_6 : decode cX8_forget 6 = .ok (.iconst 0, 1) := by decide +kernel
theorem dX8_forget_7 : decode cX8_forget 7 = .ok (.putfield 272, 3) := by decide +kernel
theorem dX8_forget_10 : decode cX8_forget 10 = .ok (.iload_n 1, 1) := by decide +kernel
theorem dX8_forget_11 : decode cX8_forget 11 = .ok (.ireturn, 1) := by decide +kernel
theorem dX8_heir_0 : decode cX8_heir 0 = .ok (.iload_n 1, 1) := by decide +kernel
theorem dX8_heir_1 : decode cX8_heir 1 = .ok (.iconst 0, 1) := by decide +kernel
theorem dX8_heir_2 : decode cX8_heir 2 = .ok (.iconst 2, 1) := by decide +kernel
theorem dX8_heir_3 : decode cX8_heir 3 = .ok (.invokestatic 121, 3) := by decide +kernel
theorem dX8_heir_6 : decode cX8_heir 6 = .ok (.ifCond .ne 5, 3) := by decide +kernel
theorem dX8_heir_9 : decode cX8_heir 9 = .ok (.iconst (-1), 1) := by decide +kernel
theorem dX8_heir_10 : decode cX8_heir 10 = .ok (.ireturn, 1) := by decide +kernel
theorem dX8_heir_11 : decode cX8_heir 11 = .ok (.aload_n 0, 1) := by decide +kernel
theorem dX8_heir_12 : decode cX8_heir 12 = .ok (.getfield 67, 3) := by decide +kernel
theorem dX8_heir_15 : decode cX8_heir 15 = .ok (.iload_n 1, 1) := by decide +kernel
theorem dX8_heir_16 : decode cX8_heir 16 = .ok (.invokevirtual 260, 3) := by decide +kernel
theorem dX8_heir_19 : decode cX8_heir 19 = .ok (.ireturn, 1) := by decide +kernel
theorem dX8_init_0 : decode cX8_init 0 = .ok (.aload_n 0, 1) := by decide +kernel
theorem dX8_init_1 : decode cX8_init 1 = .ok (.invokespecial 1, 3) := by decide +kernel
theorem dX8_init_4 : decode cX8_init 4 = .ok (.aload_n 0, 1) := by decide +kernel
theorem dX8_init_5 : decode cX8_init 5 = .ok (.sipush 200, 3) := by decide +kernel
theorem dX8_init_8 : decode cX8_init 8 = .ok (.newarray .char, 2) := by decide +kernel
theorem dX8_init_10 : decode cX8_init 10 = .ok (.putfield 9, 3) := by decide +kernel
theorem dX8_init_13 : decode cX8_init 13 = .ok (.aload_n 0, 1) := by decide +kernel
theorem dX8_init_14 : decode cX8_init 14 = .ok (.new 13, 3) := by decide +kernel
theorem dX8_init_17 : decode cX8_init 17 = .ok (.dup, 1) := by decide +kernel
theorem dX8_init_18 : decode cX8_init 18 = .ok (.invokespecial 15, 3) := by decide +kernel
theorem dX8_init_21 : decode cX8_init 21 = .ok (.putfield 16, 3) := by decide +kernel
theorem dX8_init_24 : decode cX8_init 24 = .ok (.aload_n 0, 1) := by decide +kernel
theorem dX8_init_25 : decode cX8_init 25 = .ok (.new 20, 3) := by decide +kernel
theorem dX8_init_28 : decode cX8_init 28 = .ok (.dup, 1) := by decide +kernel
theorem dX8_init_29 : decode cX8_init 29 = .ok (.invokespecial 22, 3) := by decide +kernel
theorem dX8_init_32 : decode cX8_init 32 = .ok (.putfield 23, 3) := by decide +kernel
theorem dX8_init_35 : decode cX8_init 35 = .ok (.aload_n 0, 1) := by decide +kernel
theorem dX8_init_36 : decode cX8_init 36 = .ok (.new 20, 3) := by decide +kernel
theorem dX8_init_39 : decode cX8_init 39 = .ok (.dup, 1) := by decide +kernel
theorem dX8_init_40 : decode cX8_init 40 = .ok (.invokespecial 22, 3) := by decide +kernel
theorem dX8_init_43 : decode cX8_init 43 = .ok (.putfield 27, 3) := by decide +kernel
theorem dX8_init_46 : decode cX8_init 46 = .ok (.aload_n 0, 1) := by decide +kernel
theorem dX8_init_47 : decode cX8_init 47 = .ok (.new 30, 3) := by decide +kernel
theorem dX8_init_50 : decode cX8_init 50 = .ok (.dup, 1) := by decide +kernel
theorem dX8_init_51 : decode cX8_init 51 = .ok (.invokespecial 32, 3) := by decide +kernel
theorem dX8_init_54 : decode cX8_init 54 = .ok (.putfield 33, 3) := by decide +kernel
theorem dX8_init_57 : decode cX8_init 57 = .ok (.aload_n 0, 1) := by decide +kernel
theorem dX8_init_58 : decode cX8_init 58 = .ok (.new 37, 3) := by decide +kernel
theorem dX8_init_61 : decode cX8_init 61 = .ok (.dup, 1) := by decide +kernel
theorem dX8_init_62 : decode cX8_init 62 = .ok (.bipush 8, 2) := by decide +kernel
theorem dX8_init_64 : decode cX8_init 64 = .ok (.invokespecial 39, 3) := by decide +kernel
theorem dX8_init_67 : decode cX8_init 67 = .ok (.putfield 42, 3) := by decide +kernel
theorem dX8_init_70 : decode cX8_init 70 = .ok (.aload_n 0, 1) := by decide +kernel
theorem dX8_init_71 : decode cX8_init 71 = .ok (.new 37, 3) := by decide +kernel
theorem dX8_init_74 : decode cX8_init 74 = .ok (.dup, 1) := by decide +kernel
theorem dX8_init_75 : decode cX8_init 75 = .ok (.iconst 2, 1) := by decide +kernel
theorem dX8_init_76 : decode cX8_init 76 = .ok (.invokespecial 39, 3) := by decide +kernel
theorem dX8_init_79 : decode cX8_init 79 = .ok (.putfield 46, 3) := by decide +kernel
theorem dX8_init_82 : decode cX8_init 82 = .ok (.aload_n 0, 1) := by decide +kernel
theorem dX8_init_83 : decode cX8_init 83 = .ok (.bipush 8, 2) := by decide +kernel
theorem dX8_init_85 : decode cX8_init 85 = .ok (.newarray .int, 2) := by decide +kernel
theorem dX8_init_87 : decode cX8_init 87 = .ok (.putfield 49, 3) := by decide +kernel
theorem dX8_init_90 : decode cX8_init 90 = .ok (.aload_n 0, 1) := by decide +kernel
theorem dX8_init_91 : decode cX8_init 91 = .ok (.bipush 8, 2) := by decide +kernel
theorem dX8_init_93 : decode cX8_init 93 = .ok (.newarray .int, 2) := by decide +kernel
theorem dX8_init_95 : decode cX8_init 95 = .ok (.putfield 53, 3) := by decide +kernel
theorem dX8_init_98 : decode cX8_init 98 = .ok (.aload_n 0, 1) := by decide +kernel
theorem dX8_init_99 : decode cX8_init 99 = .ok (.bipush 120, 2) := by decide +kernel
theorem dX8_init_101 : decode cX8_init 101 = .ok (.newarray .int, 2) := by decide +kernel
theorem dX8_init_103 : decode cX8_init 103 = .ok (.putfield 56, 3) := by decide +kernel
theorem dX8_init_106 : decode cX8_init 106 = .ok (.aload_n 0, 1) := by decide +kernel
theorem dX8_init_107 : decode cX8_init 107 = .ok (.bipush 120, 2) := by decide +kernel
theorem dX8_init_109 : decode cX8_init 109 = .ok (.newarray .int, 2) := by decide +kernel
theorem dX8_init_111 : decode cX8_init 111 = .ok (.putfield 59, 3) := by decide +kernel
theorem dX8_init_114 : decode cX8_init 114 = .ok (.aload_n 0, 1) := by decide +kernel
theorem dX8_init_115 : decode cX8_init 115 = .ok (.new 62, 3) := by decide +kernel
theorem dX8_init_118 : decode cX8_init 118 = .ok (.dup, 1) := by decide +kernel
theorem dX8_init_119 : decode cX8_init 119 = .ok (.aload_n 0, 1) := by decide +kernel
theorem dX8_init_120 : decode cX8_init 120 = .ok (.getfield 23, 3) := by decide +kernel
theorem dX8_init_123 : decode cX8_init 123 = .ok (.invokespecial 64, 3) := by decide +kernel
theorem dX8_init_126 : decode cX8_init 126 = .ok (.putfield 67, 3) := by decide +kernel
theorem dX8_init_129 : decode cX8_init 129 = .ok (.aload_n 0, 1) := by decide +kernel
theorem dX8_init_130 : decode cX8_init 130 = .ok (.new 62, 3) := by decide +kernel
theorem dX8_init_133 : decode cX8_init 133 = .ok (.dup, 1) := by decide +kernel
theorem dX8_init_134 : decode cX8_init 134 = .ok (.aload_n 0, 1) := by decide +kernel
theorem dX8_init_135 : decode cX8_init 135 = .ok (.getfield 23, 3) := by decide +kernel
theorem dX8_init_138 : decode cX8_init 138 = .ok (.invokespecial 64, 3) := by decide +kernel
theorem dX8_init_141 : decode cX8_init 141 = .ok (.putfield 71, 3) := by decide +kernel
theorem dX8_init_144 : decode cX8_init 144 = .ok (.aload_n 0, 1) := by decide +kernel
theorem dX8_init_145 : decode cX8_init 145 = .ok (.new 74, 3) := by decide +kernel
theorem dX8_init_148 : decode cX8_init 148 = .ok (.dup, 1) := by decide +kernel
theorem dX8_init_149 : decode cX8_init 149 = .ok (.aload_n 0, 1) := by decide +kernel
theorem dX8_init_150 : decode cX8_init 150 = .ok (.getfield 23, 3) := by decide +kernel
theorem dX8_init_153 : decode cX8_init 153 = .ok (.aload_n 0, 1) := by decide +kernel
theorem dX8_init_154 : decode cX8_init 154 = .ok (.getfield 56, 3) := by decide +kernel
theorem dX8_init_157 : decode cX8_init 157 = .ok (.invokespecial 76, 3) := by decide +kernel
theorem dX8_init_160 : decode cX8_init 160 = .ok (.putfield 79, 3) := by decide +kernel
theorem dX8_init_163 : decode cX8_init 163 = .ok (.aload_n 0, 1) := by decide +kernel
theorem dX8_init_164 : decode cX8_init 164 = .ok (.new 83, 3) := by decide +kernel
theorem dX8_init_167 : decode cX8_init 167 = .ok (.dup, 1) := by decide +kernel
theorem dX8_init_168 : decode cX8_init 168 = .ok (.aload_n 0, 1) := by decide +kernel
theorem dX8_init_169 : decode cX8_init 169 = .ok (.getfield 23, 3) := by decide +kernel
theorem dX8_init_172 : decode cX8_init 172 = .ok (.invokespecial 85, 3) := by decide +kernel
theorem dX8_init_175 : decode cX8_init 175 = .ok (.putfield 86, 3) := by decide +kernel
theorem dX8_init_178 : decode cX8_init 178 = .ok (.aload_n 0, 1) := by decide +kernel
theorem dX8_init_179 : decode cX8_init 179 = .ok (.new 90, 3) := by decide +kernel
theorem dX8_init_182 : decode cX8_init 182 = .ok (.dup, 1) := by decide +kernel
theorem dX8_init_183 : decode cX8_init 183 = .ok (.aload_n 0, 1) := by decide +kernel
theorem dX8_init_184 : decode cX8_init 184 = .ok (.getfield 23, 3) := by decide +kernel
theorem dX8_init_187 : decode cX8_init 187 = .ok (.invokespecial 92, 3) := by decide +kernel
theorem dX8_init_190 : decode cX8_init 190 = .ok (.putfield 93, 3) := by decide +kernel
theorem dX8_init_193 : decode cX8_init 193 = .ok (.ldc 97, 2) := by decide +kernel
theorem dX8_init_195 : decode cX8_init 195 = .ok (.invokevirtual 99, 3) := by decide +kernel
theorem dX8_init_198 : decode cX8_init 198 = .ok (.sipush 200, 3) := by decide +kernel
theorem dX8_init_201 : decode cX8_init 201 = .ok (.invokestatic 105, 3) := by decide +kernel
theorem dX8_init_204 : decode cX8_init 204 = .ok (.istore_n 1, 1) := by decide +kernel
theorem dX8_init_205 : decode cX8_init 205 = .ok (.iconst 0, 1) := by decide +kernel
theorem dX8_init_206 : decode cX8_init 206 = .ok (.istore_n 2, 1) := by decide +kernel
theorem dX8_init_207 : decode cX8_init 207 = .ok (.iload_n 2, 1) := by decide +kernel
theorem dX8_init_208 : decode cX8_init 208 = .ok (.iload_n 1, 1) := by decide +kernel
theorem dX8_init_209 : decode cX8_init 209 = .ok (.if_icmp .ge 21, 3) := by decide +kernel
theorem dX8_init_212 : decode cX8_init 212 = .ok (.aload_n 0, 1) := by decide +kernel
theorem dX8_init_213 : decode cX8_init 213 = .ok (.getfield 9, 3) := by decide +kernel
theorem dX8_init_216 : decode cX8_init 216 = .ok (.iload_n 2, 1) := by decide +kernel
theorem dX8_init_217 : decode cX8_init 217 = .ok (.ldc 97, 2) := by decide +kernel
theorem dX8_init_219 : decode cX8_init 219 = .ok (.iload_n 2, 1) := by decide +kernel
theorem dX8_init_220 : decode cX8_init 220 = .ok (.invokevirtual 111, 3) := by decide +kernel
theorem dX8_init_223 : decode cX8_init 223 = .ok (.castore, 1) := by decide +kernel
theorem dX8_init_224 : decode cX8_init 224 = .ok (.iinc 2 1, 3) := by decide +kernel
theorem dX8_init_227 : decode cX8_init 227 = .ok (.goto (-20), 3) := by decide +kernel
theorem dX8_init_230 : decode cX8_init 230 = .ok (.aload_n 0, 1) := by decide +kernel
theorem dX8_init_231 : decode cX8_init 231 = .ok (.iload_n 1, 1) := by decide +kernel
theorem dX8_init_232 : decode cX8_init 232 = .ok (.putfield 115, 3) := by decide +kernel
theorem dX8_init_235 : decode cX8_init 235 = .ok (.aload_n 0, 1) := by decide +kernel
theorem dX8_init_236 : decode cX8_init 236 = .ok (.invokevirtual 118, 3) := by decide +kernel
theorem dX8_init_239 : decode cX8_init 239 = .ok (.pop, 1) := by decide +kernel
theorem dX8_init_240 : decode cX8_init 240 = .ok (.aload_n 0, 1) := by decide +kernel
theorem dX8_init_241 : decode cX8_init 241 = .ok (.iconst 0, 1) := by decide +kernel
theorem dX8_init_242 : decode cX8_init 242 = .ok (.putfield 115, 3) := by decide +kernel
theorem dX8_init_245 : decode cX8_init 245 = .ok (.return_, 1) := by decide +kernel
theorem dX8_isIn_0 : decode cX8_isIn 0 = .ok (.iload_n 1, 1) := by decide +kernel
theorem dX8_isIn_1 : decode cX8_isIn 1 = .ok (.iload_n 0, 1) := by decide +kernel
theorem dX8_isIn_2 : decode cX8_isIn 2 = .ok (.ishr, 1) := by decide +kernel
theorem dX8_isIn_3 : decode cX8_isIn 3 = .ok (.iconst 1, 1) := by decide +kernel
theorem dX8_isIn_4 : decode cX8_isIn 4 = .ok (.iand, 1) := by decide +kernel
theorem dX8_isIn_5 : decode cX8_isIn 5 = .ok (.ifCond .eq 7, 3) := by decide +kernel
theorem dX8_isIn_8 : decode cX8_isIn 8 = .ok (.iconst 1, 1) := by decide +kernel
theorem dX8_isIn_9 : decode cX8_isIn 9 = .ok (.goto 4, 3) := by decide +kernel
theorem dX8_isIn_12 : decode cX8_isIn 12 = .ok (.iconst 0, 1) := by decide +kernel
theorem dX8_isIn_13 : decode cX8_isIn 13 = .ok (.ireturn, 1) := by decide +kernel
theorem dX8_keep_0 : decode cX8_keep 0 = .ok (.aload_n 0, 1) := by decide +kernel
theorem dX8_keep_1 : decode cX8_keep 1 = .ok (.getfield 46, 3) := by decide +kernel
theorem dX8_keep_4 : decode cX8_keep 4 = .ok (.invokevirtual 288, 3) := by decide +kernel
theorem dX8_keep_7 : decode cX8_keep 7 = .ok (.ifCond .eq 6, 3) := by decide +kernel
theorem dX8_keep_10 : decode cX8_keep 10 = .ok (.bipush (-3), 2) := by decide +kernel
theorem dX8_keep_12 : decode cX8_keep 12 = .ok (.ireturn, 1) := by decide +kernel
theorem dX8_keep_13 : decode cX8_keep 13 = .ok (.aload_n 0, 1) := by decide +kernel
theorem dX8_keep_14 : decode cX8_keep 14 = .ok (.getfield 46, 3) := by decide +kernel
theorem dX8_keep_17 : decode cX8_keep 17 = .ok (.aload_n 0, 1) := by decide +kernel
theorem dX8_keep_18 : decode cX8_keep 18 = .ok (.getfield 33, 3) := by decide +kernel
theorem dX8_keep_21 : decode cX8_keep 21 = .ok (.invokevirtual 193, 3) := by decide +kernel
theorem dX8_keep_24 : decode cX8_keep 24 = .ok (.aload_n 0, 1) := by decide +kernel
theorem dX8_keep_25 : decode cX8_keep 25 = .ok (.getfield 46, 3) := by decide +kernel
theorem dX8_keep_28 : decode cX8_keep 28 = .ok (.getfield 213, 3) := by decide +kernel
theorem dX8_keep_31 : decode cX8_keep 31 = .ok (.ireturn, 1) := by decide +kernel
theorem dX8_lay_0 : decode cX8_lay 0 = .ok (.aload_n 0, 1) := by decide +kernel
theorem dX8_lay_1 : decode cX8_lay 1 = .ok (.invokevirtual 118, 3) := by decide +kernel
theorem dX8_lay_4 : decode cX8_lay 4 = .ok (.ireturn, 1) := by decide +kernel
theorem dX8_layText_0 : decode cX8_layText 0 = .ok (.aload_n 0, 1) := by decide +kernel
theorem dX8_layText_1 : decode cX8_layText 1 = .ok (.getfield 16, 3) := by decide +kernel
theorem dX8_layText_4 : decode cX8_layText 4 = .ok (.aload_n 0, 1) := by decide +kernel
theorem dX8_layText_5 : decode cX8_layText 5 = .ok (.getfield 9, 3) := by decide +kernel
theorem dX8_layText_8 : decode cX8_layText 8 = .ok (.aload_n 0, 1) := by decide +kernel
theorem dX8_layText_9 : decode cX8_layText 9 = .ok (.getfield 115, 3) := by decide +kernel
theorem dX8_layText_12 : decode cX8_layText 12 = .ok (.invokevirtual 125, 3) := by decide +kernel
theorem dX8_layText_15 : decode cX8_layText 15 = .ok (.bipush (-4), 2) := by decide +kernel
theorem dX8_layText_17 : decode cX8_layText 17 = .ok (.if_icmp .eq 6, 3) := by decide +kernel
theorem dX8_layText_20 : decode cX8_layText 20 = .ok (.bipush (-2), 2) := by decide +kernel
theorem dX8_layText_22 : decode cX8_layText 22 = .ok (.ireturn, 1) := by decide +kernel
theorem dX8_layText_23 : decode cX8_layText 23 = .ok (.aload_n 0, 1) := by decide +kernel
theorem dX8_layText_24 : decode cX8_layText 24 = .ok (.getfield 16, 3) := by decide +kernel
theorem dX8_layText_27 : decode cX8_layText 27 = .ok (.getfield 301, 3) := by decide +kernel
theorem dX8_layText_30 : decode cX8_layText 30 = .ok (.getfield 289, 3) := by decide +kernel
theorem dX8_layText_33 : decode cX8_layText 33 = .ok (.ifCond .eq 16, 3) := by decide +kernel
theorem dX8_layText_36 : decode cX8_layText 36 = .ok (.aload_n 0, 1) := by decide +kernel
theorem dX8_layText_37 : decode cX8_layText 37 = .ok (.getfield 16, 3) := by decide +kernel
theorem dX8_layText_40 : decode cX8_layText 40 = .ok (.getfield 301, 3) := by decide +kernel
theorem dX8_layText_43 : decode cX8_layText 43 = .ok (.getfield 170, 3) := by decide +kernel
theorem dX8_layText_46 : decode cX8_layText 46 = .ok (.ifCond .ne 6, 3) := by decide +kernel
theorem dX8_layText_49 : decode cX8_layText 49 = .ok (.bipush (-2), 2) := by decide +kernel
theorem dX8_layText_51 : decode cX8_layText 51 = .ok (.ireturn, 1) := by decide +kernel
theorem dX8_layText_52 : decode cX8_layText 52 = .ok (.aload_n 0, 1) := by decide +kernel
theorem dX8_layText_53 : decode cX8_layText 53 = .ok (.getfield 23, 3) := by decide +kernel
theorem dX8_layText_56 : decode cX8_layText 56 = .ok (.aload_n 0, 1) := by decide +kernel
theorem dX8_layText_57 : decode cX8_layText 57 = .ok (.getfield 16, 3) := by decide +kernel
theorem dX8_layText_60 : decode cX8_layText 60 = .ok (.getfield 301, 3) := by decide +kernel
theorem dX8_layText_63 : decode cX8_layText 63 = .ok (.invokevirtual 247, 3) := by decide +kernel
theorem dX8_layText_66 : decode cX8_layText 66 = .ok (.aload_n 0, 1) := by decide +kernel
theorem dX8_layText_67 : decode cX8_layText 67 = .ok (.getfield 33, 3) := by decide +kernel
theorem dX8_layText_70 : decode cX8_layText 70 = .ok (.aload_n 0, 1) := by decide +kernel
theorem dX8_layText_71 : decode cX8_layText 71 = .ok (.getfield 16, 3) := by decide +kernel
theorem dX8_layText_74 : decode cX8_layText 74 = .ok (.getfield 302, 3) := by decide +kernel
theorem dX8_layText_77 : decode cX8_layText 77 = .ok (.invokevirtual 303, 3) := by decide +kernel
theorem dX8_layText_80 : decode cX8_layText 80 = .ok (.aload_n 0, 1) := by decide +kernel
theorem dX8_layText_81 : decode cX8_layText 81 = .ok (.iconst 0, 1) := by decide +kernel
theorem dX8_layText_82 : decode cX8_layText 82 = .ok (.putfield 272, 3) := by decide +kernel
theorem dX8_layText_85 : decode cX8_layText 85 = .ok (.aload_n 0, 1) := by decide +kernel
theorem dX8_layText_86 : decode cX8_layText 86 = .ok (.getfield 42, 3) := by decide +kernel
theorem dX8_layText_89 : decode cX8_layText 89 = .ok (.iconst 0, 1) := by decide +kernel
theorem dX8_layText_90 : decode cX8_layText 90 = .ok (.putfield 213, 3) := by decide +kernel
theorem dX8_layText_93 : decode cX8_layText 93 = .ok (.aload_n 0, 1) := by decide +kernel
theorem dX8_layText_94 : decode cX8_layText 94 = .ok (.getfield 46, 3) := by decide +kernel
theorem dX8_layText_97 : decode cX8_layText 97 = .ok (.iconst 0, 1) := by decide +kernel
theorem dX8_layText_98 : decode cX8_layText 98 = .ok (.putfield 213, 3) := by decide +kernel
theorem dX8_layText_101 : decode cX8_layText 101 = .ok (.aload_n 0, 1) := by decide +kernel
theorem dX8_layText_102 : decode cX8_layText 102 = .ok (.invokevirtual 200, 3) := by decide +kernel
theorem dX8_layText_105 : decode cX8_layText 105 = .ok (.aload_n 0, 1) := by decide +kernel
theorem dX8_layText_106 : decode cX8_layText 106 = .ok (.getfield 23, 3) := by decide +kernel
theorem dX8_layText_109 : decode cX8_layText 109 = .ok (.getfield 292, 3) := by decide +kernel
theorem dX8_layText_112 : decode cX8_layText 112 = .ok (.ireturn, 1) := by decide +kernel
theorem dX8_leave_0 : decode cX8_leave 0 = .ok (.aload_n 0, 1) := by decide +kernel
theorem dX8_leave_1 : decode cX8_leave 1 = .ok (.getfield 33, 3) := by decide +kernel
theorem dX8_leave_4 : decode cX8_leave 4 = .ok (.iload_n 1, 1) := by decide +kernel
theorem dX8_leave_5 : decode cX8_leave 5 = .ok (.invokevirtual 177, 3) := by decide +kernel
theorem dX8_leave_8 : decode cX8_leave 8 = .ok (.ifCond .ne 5, 3) := by decide +kernel
theorem dX8_leave_11 : decode cX8_leave 11 = .ok (.iconst (-1), 1) := by decide +kernel
theorem dX8_leave_12 : decode cX8_leave 12 = .ok (.ireturn, 1) := by decide +kernel
theorem dX8_leave_13 : decode cX8_leave 13 = .ok (.aload_n 0, 1) := by decide +kernel
theorem dX8_leave_14 : decode cX8_leave 14 = .ok (.getfield 42, 3) := by decide +kernel
theorem dX8_leave_17 : decode cX8_leave 17 = .ok (.aload_n 0, 1) := by decide +kernel
theorem dX8_leave_18 : decode cX8_leave 18 = .ok (.getfield 33, 3) := by decide +kernel
theorem dX8_leave_21 : decode cX8_leave 21 = .ok (.invokevirtual 193, 3) := by decide +kernel
theorem dX8_leave_24 : decode cX8_leave 24 = .ok (.aload_n 0, 1) := by decide +kernel
theorem dX8_leave_25 : decode cX8_leave 25 = .ok (.getfield 33, 3) := by decide +kernel
theorem dX8_leave_28 : decode cX8_leave 28 = .ok (.iload_n 1, 1) := by decide +kernel
theorem dX8_leave_29 : decode cX8_leave 29 = .ok (.invokevirtual 206, 3) := by decide +kernel
theorem dX8_leave_32 : decode cX8_leave 32 = .ok (.aload_n 0, 1) := by decide +kernel
theorem dX8_leave_33 : decode cX8_leave 33 = .ok (.invokevirtual 200, 3) := by decide +kernel
theorem dX8_leave_36 : decode cX8_leave 36 = .ok (.aload_n 0, 1) := by decide +kernel
theorem dX8_leave_37 : decode cX8_leave 37 = .ok (.getfield 33, 3) := by decide +kernel
theorem dX8_leave_40 : decode cX8_leave 40 = .ok (.getfield 203, 3) := by decide +kernel
theorem dX8_leave_43 : decode cX8_leave 43 = .ok (.ireturn, 1) := by decide +kernel
theorem dX8_lowestTerms_0 : decode cX8_lowestTerms 0 = .ok (.iload_n 0, 1) := by decide +kernel
theorem dX8_lowestTerms_1 : decode cX8_lowestTerms 1 = .ok (.ifCond .eq 7, 3) := by decide +kernel
theorem dX8_lowestTerms_4 : decode cX8_lowestTerms 4 = .ok (.iload_n 1, 1) := by decide +kernel
theorem dX8_lowestTerms_5 : decode cX8_lowestTerms 5 = .ok (.ifCond .ne 13, 3) := by decide +kernel
theorem dX8_lowestTerms_8 : decode cX8_lowestTerms 8 = .ok (.iload_n 2, 1) := by decide +kernel
theorem dX8_lowestTerms_9 : decode cX8_lowestTerms 9 = .ok (.ifCond .ne 7, 3) := by decide +kernel
theorem dX8_lowestTerms_12 : decode cX8_lowestTerms 12 = .ok (.iconst 0, 1) := by decide +kernel
theorem dX8_lowestTerms_13 : decode cX8_lowestTerms 13 = .ok (.goto 4, 3) := by decide +kernel
theorem dX8_lowestTerms_16 : decode cX8_lowestTerms 16 = .ok (.iconst 1, 1) := by decide +kernel
theorem dX8_lowestTerms_17 : decode cX8_lowestTerms 17 = .ok (.ireturn, 1) := by decide +kernel
theorem dX8_lowestTerms_18 : decode cX8_lowestTerms 18 = .ok (.iload_n 0, 1) := by decide +kernel
theorem dX8_lowestTerms_19 : decode cX8_lowestTerms 19 = .ok (.iload_n 1, 1) := by decide +kernel
theorem dX8_lowestTerms_20 : decode cX8_lowestTerms 20 = .ok (.invokestatic 309, 3) := by decide +kernel
theorem dX8_lowestTerms_23 : decode cX8_lowestTerms 23 = .ok (.istore_n 3, 1) := by decide +kernel
theorem dX8_lowestTerms_24 : decode cX8_lowestTerms 24 = .ok (.iload_n 3, 1) := by decide +kernel
theorem dX8_lowestTerms_25 : decode cX8_lowestTerms 25 = .ok (.ifCond .ne 13, 3) := by decide +kernel
theorem dX8_lowestTerms_28 : decode cX8_lowestTerms 28 = .ok (.iload_n 2, 1) := by decide +kernel
theorem dX8_lowestTerms_29 : decode cX8_lowestTerms 29 = .ok (.ifCond .ne 7, 3) := by decide +kernel
theorem dX8_lowestTerms_32 : decode cX8_lowestTerms 32 = .ok (.iload_n 0, 1) := by decide +kernel
theorem dX8_lowestTerms_33 : decode cX8_lowestTerms 33 = .ok (.goto 4, 3) := by decide +kernel
theorem dX8_lowestTerms_36 : decode cX8_lowestTerms 36 = .ok (.iload_n 1, 1) := by decide +kernel
theorem dX8_lowestTerms_37 : decode cX8_lowestTerms 37 = .ok (.ireturn, 1) := by decide +kernel
theorem dX8_lowestTerms_38 : decode cX8_lowestTerms 38 = .ok (.iload_n 2, 1) := by decide +kernel
theorem dX8_lowestTerms_39 : decode cX8_lowestTerms 39 = .ok (.ifCond .ne 7, 3) := by decide +kernel
theorem dX8_lowestTerms_42 : decode cX8_lowestTerms 42 = .ok (.iload_n 0, 1) := by decide +kernel
theorem dX8_lowestTerms_43 : decode cX8_lowestTerms 43 = .ok (.goto 4, 3) := by decide +kernel
theorem dX8_lowestTerms_46 : decode cX8_lowestTerms 46 = .ok (.iload_n 1, 1) := by decide +kernel
theorem dX8_lowestTerms_47 : decode cX8_lowestTerms 47 = .ok (.iload_n 3, 1) := by decide +kernel
theorem dX8_lowestTerms_48 : decode cX8_lowestTerms 48 = .ok (.idiv, 1) := by decide +kernel
theorem dX8_lowestTerms_49 : decode cX8_lowestTerms 49 = .ok (.ireturn, 1) := by decide +kernel
theorem dX8_needed_0 : decode cX8_needed 0 = .ok (.bipush (-4), 2) := by decide +kernel
theorem dX8_needed_2 : decode cX8_needed 2 = .ok (.istore_n 1, 1) := by decide +kernel
theorem dX8_needed_3 : decode cX8_needed 3 = .ok (.bipush 7, 2) := by decide +kernel
theorem dX8_needed_5 : decode cX8_needed 5 = .ok (.istore_n 2, 1) := by decide +kernel
theorem dX8_needed_6 : decode cX8_needed 6 = .ok (.iconst 1, 1) := by decide +kernel
theorem dX8_needed_7 : decode cX8_needed 7 = .ok (.istore_n 3, 1) := by decide +kernel
theorem dX8_needed_8 : decode cX8_needed 8 = .ok (.iload_n 3, 1) := by decide +kernel
theorem dX8_needed_9 : decode cX8_needed 9 = .ok (.iconst 1, 1) := by decide +kernel
theorem dX8_needed_10 : decode cX8_needed 10 = .ok (.aload_n 0, 1) := by decide +kernel
theorem dX8_needed_11 : decode cX8_needed 11 = .ok (.getfield 23, 3) := by decide +kernel
theorem dX8_needed_14 : decode cX8_needed 14 = .ok (.getfield 170, 3) := by decide +kernel
theorem dX8_needed_17 : decode cX8_needed 17 = .ok (.ishl, 1) := by decide +kernel
theorem dX8_needed_18 : decode cX8_needed 18 = .ok (.if_icmp .ge 32, 3) := by decide +kernel
theorem dX8_needed_21 : decode cX8_needed 21 = .ok (.iload_n 3, 1) := by decide +kernel
theorem dX8_needed_22 : decode cX8_needed 22 = .ok (.invokestatic 227, 3) := by decide +kernel
theorem dX8_needed_25 : decode cX8_needed 25 = .ok (.iload_n 2, 1) := by decide +kernel
theorem dX8_needed_26 : decode cX8_needed 26 = .ok (.if_icmp .ge 18, 3) := by decide +kernel
theorem dX8_needed_29 : decode cX8_needed 29 = .ok (.aload_n 0, 1) := by decide +kernel
theorem dX8_needed_30 : decode cX8_needed 30 = .ok (.iload_n 3, 1) := by decide +kernel
theorem dX8_needed_31 : decode cX8_needed 31 = .ok (.invokevirtual 232, 3) := by decide +kernel
theorem dX8_needed_34 : decode cX8_needed 34 = .ok (.ifCond .eq 10, 3) := by decide +kernel
theorem dX8_needed_37 : decode cX8_needed 37 = .ok (.iload_n 3, 1) := by decide +kernel
theorem dX8_needed_38 : decode cX8_needed 38 = .ok (.istore_n 1, 1) := by decide +kernel
theorem dX8_needed_39 : decode cX8_needed 39 = .ok (.iload_n 3, 1) := by decide +kernel
theorem dX8_needed_40 : decode cX8_needed 40 = .ok (.invokestatic 227, 3) := by decide +kernel
theorem dX8_needed_43 : decode cX8_needed 43 = .ok (.istore_n 2, 1) := by decide +kernel
theorem dX8_needed_44 : decode cX8_needed 44 = .ok (.iinc 3 1, 3) := by decide +kernel
theorem dX8_needed_47 : decode cX8_needed 47 = .ok (.goto (-39), 3) := by decide +kernel
theorem dX8_needed_50 : decode cX8_needed 50 = .ok (.iload_n 1, 1) := by decide +kernel
theorem dX8_needed_51 : decode cX8_needed 51 = .ok (.ireturn, 1) := by decide +kernel
theorem dX8_neverStandsWithout_0 : decode cX8_neverStandsWithout 0 = .ok (.aload_n 0, 1) := by decide +kernel
theorem dX8_neverStandsWithout_1 : decode cX8_neverStandsWithout 1 = .ok (.getfield 33, 3) := by decide +kernel
theorem dX8_neverStandsWithout_4 : decode cX8_neverStandsWithout 4 = .ok (.iload_n 1, 1) := by decide +kernel
theorem dX8_neverStandsWithout_5 : decode cX8_neverStandsWithout 5 = .ok (.aload_n 0, 1) := by decide +kernel
theorem dX8_neverStandsWithout_6 : decode cX8_neverStandsWithout 6 = .ok (.getfield 23, 3) := by decide +kernel
theorem dX8_neverStandsWithout_9 : decode cX8_neverStandsWithout 9 = .ok (.getfield 292, 3) := by decide +kernel
theorem dX8_neverStandsWithout_12 : decode cX8_neverStandsWithout 12 = .ok (.aload_n 0, 1) := by decide +kernel
theorem dX8_neverStandsWithout_13 : decode cX8_neverStandsWithout 13 = .ok (.getfield 59, 3) := by decide +kernel
theorem dX8_neverStandsWithout_16 : decode cX8_neverStandsWithout 16 = .ok (.invokevirtual 305, 3) := by decide +kernel
theorem dX8_neverStandsWithout_19 : decode cX8_neverStandsWithout 19 = .ok (.aload_n 0, 1) := by decide +kernel
theorem dX8_neverStandsWithout_20 : decode cX8_neverStandsWithout 20 = .ok (.getfield 71, 3) := by decide +kernel
theorem dX8_neverStandsWithout_23 : decode cX8_neverStandsWithout 23 = .ok (.aload_n 0, 1) := by decide +kernel
theorem dX8_neverStandsWithout_24 : decode cX8_neverStandsWithout 24 = .ok (.getfield 23, 3) := by decide +kernel
theorem dX8_neverStandsWithout_27 : decode cX8_neverStandsWithout 27 = .ok (.invokevirtual 253, 3) := by decide +kernel
theorem dX8_neverStandsWithout_30 : decode cX8_neverStandsWithout 30 = .ok (.aload_n 0, 1) := by decide +kernel
theorem dX8_neverStandsWithout_31 : decode cX8_neverStandsWithout 31 = .ok (.getfield 71, 3) := by decide +kernel
theorem dX8_neverStandsWithout_34 : decode cX8_neverStandsWithout 34 = .ok (.aload_n 0, 1) := by decide +kernel
theorem dX8_neverStandsWithout_35 : decode cX8_neverStandsWithout 35 = .ok (.getfield 59, 3) := by decide +kernel
theorem dX8_neverStandsWithout_38 : decode cX8_neverStandsWithout 38 = .ok (.invokevirtual 256, 3) := by decide +kernel
theorem dX8_neverStandsWithout_41 : decode cX8_neverStandsWithout 41 = .ok (.aload_n 0, 1) := by decide +kernel
theorem dX8_neverStandsWithout_42 : decode cX8_neverStandsWithout 42 = .ok (.getfield 71, 3) := by decide +kernel
theorem dX8_neverStandsWithout_45 : decode cX8_neverStandsWithout 45 = .ok (.getfield 167, 3) := by decide +kernel
theorem dX8_neverStandsWithout_48 : decode cX8_neverStandsWithout 48 = .ok (.bipush (-4), 2) := by decide +kernel
theorem dX8_neverStandsWithout_50 : decode cX8_neverStandsWithout 50 = .ok (.if_icmp .ne 7, 3) := by decide +kernel
theorem dX8_neverStandsWithout_53 : decode cX8_neverStandsWithout 53 = .ok (.iconst 1, 1) := by decide +kernel
theorem dX8_neverStandsWithout_54 : decode cX8_neverStandsWithout 54 = .ok (.goto 4, 3) := by decide +kernel
theorem dX8_neverStandsWithout_57 : decode cX8_neverStandsWithout 57 = .ok (.iconst 0, 1) := by decide +kernel
theorem dX8_neverStandsWithout_58 : decode cX8_neverStandsWithout 58 = .ok (.ireturn, 1) := by decide +kernel
theorem dX8_odds_0 : decode cX8_odds 0 = .ok (.iload_n 1, 1) := by decide +kernel
theorem dX8_odds_1 : decode cX8_odds 1 = .ok (.iconst 0, 1) := by decide +kernel
theorem dX8_odds_2 : decode cX8_odds 2 = .ok (.iconst 5, 1) := by decide +kernel
theorem dX8_odds_3 : decode cX8_odds 3 = .ok (.invokestatic 121, 3) := by decide +kernel
theorem dX8_odds_6 : decode cX8_odds 6 = .ok (.ifCond .eq 22, 3) := by decide +kernel
theorem dX8_odds_9 : decode cX8_odds 9 = .ok (.iload_n 2, 1) := by decide +kernel
theorem dX8_odds_10 : decode cX8_odds 10 = .ok (.iconst 0, 1) := by decide +kernel
theorem dX8_odds_11 : decode cX8_odds 11 = .ok (.bipush 10, 2) := by decide +kernel
theorem dX8_odds_13 : decode cX8_odds 13 = .ok (.invokestatic 121, 3) := by decide +kernel
theorem dX8_odds_16 : decode cX8_odds 16 = .ok (.ifCond .eq 12, 3) := by decide +kernel
theorem dX8_odds_19 : decode cX8_odds 19 = .ok (.iload_n 3, 1) := by decide +kernel
theorem dX8_odds_20 : decode cX8_odds 20 = .ok (.iconst 0, 1) := by decide +kernel
theorem dX8_odds_21 : decode cX8_odds 21 = .ok (.iconst 1, 1) := by decide +kernel
theorem dX8_odds_22 : decode cX8_odds 22 = .ok (.invokestatic 121, 3) := by decide +kernel
theorem dX8_odds_25 : decode cX8_odds 25 = .ok (.ifCond .ne 5, 3) := by decide +kernel
theorem dX8_odds_28 : decode cX8_odds 28 = .ok (.iconst (-1), 1) := by decide +kernel
theorem dX8_odds_29 : decode cX8_odds 29 = .ok (.ireturn, 1) := by decide +kernel
theorem dX8_odds_30 : decode cX8_odds 30 = .ok (.iload_n 1, 1) := by decide +kernel
theorem dX8_odds_31 : decode cX8_odds 31 = .ok (.aload_n 0, 1) := by decide +kernel
theorem dX8_odds_32 : decode cX8_odds 32 = .ok (.getfield 33, 3) := by decide +kernel
theorem dX8_odds_35 : decode cX8_odds 35 = .ok (.getfield 203, 3) := by decide +kernel
theorem dX8_odds_38 : decode cX8_odds 38 = .ok (.invokestatic 105, 3) := by decide +kernel
theorem dX8_odds_41 : decode cX8_odds 41 = .ok (.istore 4, 2) := by decide +kernel
theorem dX8_odds_43 : decode cX8_odds 43 = .ok (.iconst 0, 1) := by decide +kernel
theorem dX8_odds_44 : decode cX8_odds 44 = .ok (.istore 5, 2) := by decide +kernel
theorem dX8_odds_46 : decode cX8_odds 46 = .ok (.bipush 10, 2) := by decide +kernel
theorem dX8_odds_48 : decode cX8_odds 48 = .ok (.iload 4, 2) := by decide +kernel
theorem dX8_odds_50 : decode cX8_odds 50 = .ok (.invokestatic 279, 3) := by decide +kernel
theorem dX8_odds_53 : decode cX8_odds 53 = .ok (.istore 6, 2) := by decide +kernel
theorem dX8_odds_55 : decode cX8_odds 55 = .ok (.iconst 0, 1) := by decide +kernel
theorem dX8_odds_56 : decode cX8_odds 56 = .ok (.istore 7, 2) := by decide +kernel
theorem dX8_odds_58 : decode cX8_odds 58 = .ok (.iload 7, 2) := by decide +kernel
theorem dX8_odds_60 : decode cX8_odds 60 = .ok (.iconst 1, 1) := by decide +kernel
theorem dX8_odds_61 : decode cX8_odds 61 = .ok (.iload 4, 2) := by decide +kernel
theorem dX8_odds_63 : decode cX8_odds 63 = .ok (.ishl, 1) := by decide +kernel
theorem dX8_odds_64 : decode cX8_odds 64 = .ok (.if_icmp .ge 58, 3) := by decide +kernel
theorem dX8_odds_67 : decode cX8_odds 67 = .ok (.iload 7, 2) := by decide +kernel
theorem dX8_odds_69 : decode cX8_odds 69 = .ok (.invokestatic 227, 3) := by decide +kernel
theorem dX8_odds_72 : decode cX8_odds 72 = .ok (.istore 8, 2) := by decide +kernel
theorem dX8_odds_74 : decode cX8_odds 74 = .ok (.iload_n 2, 1) := by decide +kernel
theorem dX8_odds_75 : decode cX8_odds 75 = .ok (.iload 8, 2) := by decide +kernel
theorem dX8_odds_77 : decode cX8_odds 77 = .ok (.invokestatic 279, 3) := by decide +kernel
theorem dX8_odds_80 : decode cX8_odds 80 = .ok (.bipush 10, 2) := by decide +kernel
theorem dX8_odds_82 : decode cX8_odds 82 = .ok (.iload_n 2, 1) := by decide +kernel
theorem dX8_odds_83 : decode cX8_odds 83 = .ok (.isub, 1) := by decide +kernel
theorem dX8_odds_84 : decode cX8_odds 84 = .ok (.iload 4, 2) := by decide +kernel
theorem dX8_odds_86 : decode cX8_odds 86 = .ok (.iload 8, 2) := by decide +kernel
theorem dX8_odds_88 : decode cX8_odds 88 = .ok (.isub, 1) := by decide +kernel
theorem dX8_odds_89 : decode cX8_odds 89 = .ok (.invokestatic 279, 3) := by decide +kernel
theorem dX8_odds_92 : decode cX8_odds 92 = .ok (.imul, 1) := by decide +kernel
theorem dX8_odds_93 : decode cX8_odds 93 = .ok (.istore 9, 2) := by decide +kernel
theorem dX8_odds_95 : decode cX8_odds 95 = .ok (.iload 9, 2) := by decide +kernel
theorem dX8_odds_97 : decode cX8_odds 97 = .ok (.ifCond .le 19, 3) := by decide +kernel
theorem dX8_odds_100 : decode cX8_odds 100 = .ok (.aload_n 0, 1) := by decide +kernel
theorem dX8_odds_101 : decode cX8_odds 101 = .ok (.iload 7, 2) := by decide +kernel
theorem dX8_odds_103 : decode cX8_odds 103 = .ok (.invokevirtual 282, 3) := by decide +kernel
theorem dX8_odds_106 : decode cX8_odds 106 = .ok (.ifCond .eq 10, 3) := by decide +kernel
theorem dX8_odds_109 : decode cX8_odds 109 = .ok (.iload 5, 2) := by decide +kernel
theorem dX8_odds_111 : decode cX8_odds 111 = .ok (.iload 9, 2) := by decide +kernel
theorem dX8_odds_113 : decode cX8_odds 113 = .ok (.iadd, 1) := by decide +kernel
theorem dX8_odds_114 : decode cX8_odds 114 = .ok (.istore 5, 2) := by decide +kernel
theorem dX8_odds_116 : decode cX8_odds 116 = .ok (.iinc 7 1, 3) := by decide +kernel
theorem dX8_odds_119 : decode cX8_odds 119 = .ok (.goto (-61), 3) := by decide +kernel
theorem dX8_odds_122 : decode cX8_odds 122 = .ok (.iload 5, 2) := by decide +kernel
theorem dX8_odds_124 : decode cX8_odds 124 = .ok (.iload 6, 2) := by decide +kernel
theorem dX8_odds_126 : decode cX8_odds 126 = .ok (.iload_n 3, 1) := by decide +kernel
theorem dX8_odds_127 : decode cX8_odds 127 = .ok (.invokestatic 173, 3) := by decide +kernel
theorem dX8_odds_130 : decode cX8_odds 130 = .ok (.ireturn, 1) := by decide +kernel
theorem dX8_power_0 : decode cX8_power 0 = .ok (.iconst 1, 1) := by decide +kernel
theorem dX8_power_1 : decode cX8_power 1 = .ok (.istore_n 2, 1) := by decide +kernel
theorem dX8_power_2 : decode cX8_power 2 = .ok (.iconst 0, 1) := by decide +kernel
theorem dX8_power_3 : decode cX8_power 3 = .ok (.istore_n 3, 1) := by decide +kernel
theorem dX8_power_4 : decode cX8_power 4 = .ok (.iload_n 3, 1) := by decide +kernel
theorem dX8_power_5 : decode cX8_power 5 = .ok (.iload_n 1, 1) := by decide +kernel
theorem dX8_power_6 : decode cX8_power 6 = .ok (.if_icmp .ge 13, 3) := by decide +kernel
theorem dX8_power_9 : decode cX8_power 9 = .ok (.iload_n 2, 1) := by decide +kernel
theorem dX8_power_10 : decode cX8_power 10 = .ok (.iload_n 0, 1) := by decide +kernel
theorem dX8_power_11 : decode cX8_power 11 = .ok (.imul, 1) := by decide +kernel
theorem dX8_power_12 : decode cX8_power 12 = .ok (.istore_n 2, 1) := by decide +kernel
theorem dX8_power_13 : decode cX8_power 13 = .ok (.iinc 3 1, 3) := by decide +kernel
theorem dX8_power_16 : decode cX8_power 16 = .ok (.goto (-12), 3) := by decide +kernel
theorem dX8_power_19 : decode cX8_power 19 = .ok (.iload_n 2, 1) := by decide +kernel
theorem dX8_power_20 : decode cX8_power 20 = .ok (.ireturn, 1) := by decide +kernel
theorem dX8_print_0 : decode cX8_print 0 = .ok (.aload_n 0, 1) := by decide +kernel
theorem dX8_print_1 : decode cX8_print 1 = .ok (.getfield 23, 3) := by decide +kernel
theorem dX8_print_4 : decode cX8_print 4 = .ok (.iload_n 1, 1) := by decide +kernel
theorem dX8_print_5 : decode cX8_print 5 = .ok (.invokevirtual 129, 3) := by decide +kernel
theorem dX8_print_8 : decode cX8_print 8 = .ok (.ifCond .eq 13, 3) := by decide +kernel
theorem dX8_print_11 : decode cX8_print 11 = .ok (.iload_n 2, 1) := by decide +kernel
theorem dX8_print_12 : decode cX8_print 12 = .ok (.iconst 0, 1) := by decide +kernel
theorem dX8_print_13 : decode cX8_print 13 = .ok (.bipush 6, 2) := by decide +kernel
theorem dX8_print_15 : decode cX8_print 15 = .ok (.invokestatic 121, 3) := by decide +kernel
theorem dX8_print_18 : decode cX8_print 18 = .ok (.ifCond .ne 5, 3) := by decide +kernel
theorem dX8_print_21 : decode cX8_print 21 = .ok (.iconst (-1), 1) := by decide +kernel
theorem dX8_print_22 : decode cX8_print 22 = .ok (.ireturn, 1) := by decide +kernel
theorem dX8_print_23 : decode cX8_print 23 = .ok (.aload_n 0, 1) := by decide +kernel
theorem dX8_print_24 : decode cX8_print 24 = .ok (.getfield 272, 3) := by decide +kernel
theorem dX8_print_27 : decode cX8_print 27 = .ok (.bipush 8, 2) := by decide +kernel
theorem dX8_print_29 : decode cX8_print 29 = .ok (.if_icmp .lt 6, 3) := by decide +kernel
theorem dX8_print_32 : decode cX8_print 32 = .ok (.bipush (-3), 2) := by decide +kernel
theorem dX8_print_34 : decode cX8_print 34 = .ok (.ireturn, 1) := by decide +kernel
theorem dX8_print_35 : decode cX8_print 35 = .ok (.aload_n 0, 1) := by decide +kernel
theorem dX8_print_36 : decode cX8_print 36 = .ok (.getfield 49, 3) := by decide +kernel
theorem dX8_print_39 : decode cX8_print 39 = .ok (.aload_n 0, 1) := by decide +kernel
theorem dX8_print_40 : decode cX8_print 40 = .ok (.getfield 272, 3) := by decide +kernel
theorem dX8_print_43 : decode cX8_print 43 = .ok (.iload_n 1, 1) := by decide +kernel
theorem dX8_print_44 : decode cX8_print 44 = .ok (.iastore, 1) := by decide +kernel
theorem dX8_print_45 : decode cX8_print 45 = .ok (.aload_n 0, 1) := by decide +kernel
theorem dX8_print_46 : decode cX8_print 46 = .ok (.getfield 53, 3) := by decide +kernel
theorem dX8_print_49 : decode cX8_print 49 = .ok (.aload_n 0, 1) := by decide +kernel
theorem dX8_print_50 : decode cX8_print 50 = .ok (.getfield 272, 3) := by decide +kernel
theorem dX8_print_53 : decode cX8_print 53 = .ok (.iload_n 2, 1) := by decide +kernel
theorem dX8_print_54 : decode cX8_print 54 = .ok (.iastore, 1) := by decide +kernel
theorem dX8_print_55 : decode cX8_print 55 = .ok (.aload_n 0, 1) := by decide +kernel
theorem dX8_print_56 : decode cX8_print 56 = .ok (.dup, 1) := by decide +kernel
theorem dX8_print_57 : decode cX8_print 57 = .ok (.getfield 272, 3) := by decide +kernel
theorem dX8_print_60 : decode cX8_print 60 = .ok (.iconst 1, 1) := by decide +kernel
theorem dX8_print_61 : decode cX8_print 61 = .ok (.iadd, 1) := by decide +kernel
theorem dX8_print_62 : decode cX8_print 62 = .ok (.putfield 272, 3) := by decide +kernel
theorem dX8_print_65 : decode cX8_print 65 = .ok (.aload_n 0, 1) := by decide +kernel
theorem dX8_print_66 : decode cX8_print 66 = .ok (.getfield 272, 3) := by decide +kernel
theorem dX8_print_69 : decode cX8_print 69 = .ok (.ireturn, 1) := by decide +kernel
theorem dX8_printsAreSo_0 : decode cX8_printsAreSo 0 = .ok (.iconst 0, 1) := by decide +kernel
theorem dX8_printsAreSo_1 : decode cX8_printsAreSo 1 = .ok (.istore_n 2, 1) := by decide +kernel
theorem dX8_printsAreSo_2 : decode cX8_printsAreSo 2 = .ok (.iload_n 2, 1) := by decide +kernel
theorem dX8_printsAreSo_3 : decode cX8_printsAreSo 3 = .ok (.aload_n 0, 1) := by decide +kernel
theorem dX8_printsAreSo_4 : decode cX8_printsAreSo 4 = .ok (.getfield 272, 3) := by decide +kernel
theorem dX8_printsAreSo_7 : decode cX8_printsAreSo 7 = .ok (.if_icmp .ge 34, 3) := by decide +kernel
theorem dX8_printsAreSo_10 : decode cX8_printsAreSo 10 = .ok (.aload_n 1, 1) := by decide +kernel
theorem dX8_printsAreSo_11 : decode cX8_printsAreSo 11 = .ok (.getfield 143, 3) := by decide +kernel
theorem dX8_printsAreSo_14 : decode cX8_printsAreSo 14 = .ok (.aload_n 0, 1) := by decide +kernel
theorem dX8_printsAreSo_15 : decode cX8_printsAreSo 15 = .ok (.getfield 49, 3) := by decide +kernel
theorem dX8_printsAreSo_18 : decode cX8_printsAreSo 18 = .ok (.iload_n 2, 1) := by decide +kernel
theorem dX8_printsAreSo_19 : decode cX8_printsAreSo 19 = .ok (.iaload, 1) := by decide +kernel
theorem dX8_printsAreSo_20 : decode cX8_printsAreSo 20 = .ok (.iaload, 1) := by decide +kernel
theorem dX8_printsAreSo_21 : decode cX8_printsAreSo 21 = .ok (.invokestatic 227, 3) := by decide +kernel
theorem dX8_printsAreSo_24 : decode cX8_printsAreSo 24 = .ok (.aload_n 0, 1) := by decide +kernel
theorem dX8_printsAreSo_25 : decode cX8_printsAreSo 25 = .ok (.getfield 53, 3) := by decide +kernel
theorem dX8_printsAreSo_28 : decode cX8_printsAreSo 28 = .ok (.iload_n 2, 1) := by decide +kernel
theorem dX8_printsAreSo_29 : decode cX8_printsAreSo 29 = .ok (.iaload, 1) := by decide +kernel
theorem dX8_printsAreSo_30 : decode cX8_printsAreSo 30 = .ok (.if_icmp .eq 5, 3) := by decide +kernel
theorem dX8_printsAreSo_33 : decode cX8_printsAreSo 33 = .ok (.iconst 0, 1) := by decide +kernel
theorem dX8_printsAreSo_34 : decode cX8_printsAreSo 34 = .ok (.ireturn, 1) := by decide +kernel
theorem dX8_printsAreSo_35 : decode cX8_printsAreSo 35 = .ok (.iinc 2 1, 3) := by decide +kernel
theorem dX8_printsAreSo_38 : decode cX8_printsAreSo 38 = .ok (.goto (-36), 3) := by decide +kernel
theorem dX8_printsAreSo_41 : decode cX8_printsAreSo 41 = .ok (.iconst 1, 1) := by decide +kernel
theorem dX8_printsAreSo_42 : decode cX8_printsAreSo 42 = .ok (.ireturn, 1) := by decide +kernel
theorem dX8_rain_0 : decode cX8_rain 0 = .ok (.iload_n 1, 1) := by decide +kernel
theorem dX8_rain_1 : decode cX8_rain 1 = .ok (.iconst 0, 1) := by decide +kernel
theorem dX8_rain_2 : decode cX8_rain 2 = .ok (.sipush 9999, 3) := by decide +kernel
theorem dX8_rain_5 : decode cX8_rain 5 = .ok (.invokestatic 121, 3) := by decide +kernel
theorem dX8_rain_8 : decode cX8_rain 8 = .ok (.ifCond .eq 12, 3) := by decide +kernel
theorem dX8_rain_11 : decode cX8_rain 11 = .ok (.iload_n 2, 1) := by decide +kernel
theorem dX8_rain_12 : decode cX8_rain 12 = .ok (.iconst 0, 1) := by decide +kernel
theorem dX8_rain_13 : decode cX8_rain 13 = .ok (.iconst 1, 1) := by decide +kernel
theorem dX8_rain_14 : decode cX8_rain 14 = .ok (.invokestatic 121, 3) := by decide +kernel
theorem dX8_rain_17 : decode cX8_rain 17 = .ok (.ifCond .ne 5, 3) := by decide +kernel
theorem dX8_rain_20 : decode cX8_rain 20 = .ok (.iconst (-1), 1) := by decide +kernel
theorem dX8_rain_21 : decode cX8_rain 21 = .ok (.ireturn, 1) := by decide +kernel
theorem dX8_rain_22 : decode cX8_rain 22 = .ok (.aload_n 0, 1) := by decide +kernel
theorem dX8_rain_23 : decode cX8_rain 23 = .ok (.getfield 71, 3) := by decide +kernel
theorem dX8_rain_26 : decode cX8_rain 26 = .ok (.aload_n 0, 1) := by decide +kernel
theorem dX8_rain_27 : decode cX8_rain 27 = .ok (.getfield 23, 3) := by decide +kernel
theorem dX8_rain_30 : decode cX8_rain 30 = .ok (.invokevirtual 253, 3) := by decide +kernel
theorem dX8_rain_33 : decode cX8_rain 33 = .ok (.aload_n 0, 1) := by decide +kernel
theorem dX8_rain_34 : decode cX8_rain 34 = .ok (.getfield 71, 3) := by decide +kernel
theorem dX8_rain_37 : decode cX8_rain 37 = .ok (.iload_n 1, 1) := by decide +kernel
theorem dX8_rain_38 : decode cX8_rain 38 = .ok (.putfield 285, 3) := by decide +kernel
theorem dX8_rain_41 : decode cX8_rain 41 = .ok (.aload_n 0, 1) := by decide +kernel
theorem dX8_rain_42 : decode cX8_rain 42 = .ok (.getfield 71, 3) := by decide +kernel
theorem dX8_rain_45 : decode cX8_rain 45 = .ok (.aload_n 0, 1) := by decide +kernel
theorem dX8_rain_46 : decode cX8_rain 46 = .ok (.getfield 56, 3) := by decide +kernel
theorem dX8_rain_49 : decode cX8_rain 49 = .ok (.invokevirtual 256, 3) := by decide +kernel
theorem dX8_rain_52 : decode cX8_rain 52 = .ok (.iload_n 2, 1) := by decide +kernel
theorem dX8_rain_53 : decode cX8_rain 53 = .ok (.ifCond .ne 13, 3) := by decide +kernel
theorem dX8_rain_56 : decode cX8_rain 56 = .ok (.aload_n 0, 1) := by decide +kernel
theorem dX8_rain_57 : decode cX8_rain 57 = .ok (.getfield 71, 3) := by decide +kernel
theorem dX8_rain_60 : decode cX8_rain 60 = .ok (.getfield 167, 3) := by decide +kernel
theorem dX8_rain_63 : decode cX8_rain 63 = .ok (.goto 11, 3) := by decide +kernel
theorem dX8_rain_66 : decode cX8_rain 66 = .ok (.aload_n 0, 1) := by decide +kernel
theorem dX8_rain_67 : decode cX8_rain 67 = .ok (.getfield 71, 3) := by decide +kernel
theorem dX8_rain_70 : decode cX8_rain 70 = .ok (.iconst 0, 1) := by decide +kernel
theorem dX8_rain_71 : decode cX8_rain 71 = .ok (.invokevirtual 260, 3) := by decide +kernel
theorem dX8_rain_74 : decode cX8_rain 74 = .ok (.ireturn, 1) := by decide +kernel
theorem dX8_rests_0 : decode cX8_rests 0 = .ok (.aload_n 0, 1) := by decide +kernel
theorem dX8_rests_1 : decode cX8_rests 1 = .ok (.getfield 23, 3) := by decide +kernel
theorem dX8_rests_4 : decode cX8_rests 4 = .ok (.iload_n 1, 1) := by decide +kernel
theorem dX8_rests_5 : decode cX8_rests 5 = .ok (.invokevirtual 146, 3) := by decide +kernel
theorem dX8_rests_8 : decode cX8_rests 8 = .ok (.ifCond .eq 28, 3) := by decide +kernel
theorem dX8_rests_11 : decode cX8_rests 11 = .ok (.aload_n 0, 1) := by decide +kernel
theorem dX8_rests_12 : decode cX8_rests 12 = .ok (.getfield 23, 3) := by decide +kernel
theorem dX8_rests_15 : decode cX8_rests 15 = .ok (.iload_n 2, 1) := by decide +kernel
theorem dX8_rests_16 : decode cX8_rests 16 = .ok (.invokevirtual 146, 3) := by decide +kernel
theorem dX8_rests_19 : decode cX8_rests 19 = .ok (.ifCond .eq 17, 3) := by decide +kernel
theorem dX8_rests_22 : decode cX8_rests 22 = .ok (.iload_n 1, 1) := by decide +kernel
theorem dX8_rests_23 : decode cX8_rests 23 = .ok (.iload_n 2, 1) := by decide +kernel
theorem dX8_rests_24 : decode cX8_rests 24 = .ok (.if_icmp .eq 12, 3) := by decide +kernel
theorem dX8_rests_27 : decode cX8_rests 27 = .ok (.iload_n 3, 1) := by decide +kernel
theorem dX8_rests_28 : decode cX8_rests 28 = .ok (.iconst 0, 1) := by decide +kernel
theorem dX8_rests_29 : decode cX8_rests 29 = .ok (.iconst 1, 1) := by decide +kernel
theorem dX8_rests_30 : decode cX8_rests 30 = .ok (.invokestatic 121, 3) := by decide +kernel
theorem dX8_rests_33 : decode cX8_rests 33 = .ok (.ifCond .ne 5, 3) := by decide +kernel
theorem dX8_rests_36 : decode cX8_rests 36 = .ok (.iconst (-1), 1) := by decide +kernel
theorem dX8_rests_37 : decode cX8_rests 37 = .ok (.ireturn, 1) := by decide +kernel
theorem dX8_rests_38 : decode cX8_rests 38 = .ok (.aload_n 0, 1) := by decide +kernel
theorem dX8_rests_39 : decode cX8_rests 39 = .ok (.getfield 93, 3) := by decide +kernel
theorem dX8_rests_42 : decode cX8_rests 42 = .ok (.iload_n 1, 1) := by decide +kernel
theorem dX8_rests_43 : decode cX8_rests 43 = .ok (.iload_n 2, 1) := by decide +kernel
theorem dX8_rests_44 : decode cX8_rests 44 = .ok (.invokevirtual 263, 3) := by decide +kernel
theorem dX8_rests_47 : decode cX8_rests 47 = .ok (.iload_n 3, 1) := by decide +kernel
theorem dX8_rests_48 : decode cX8_rests 48 = .ok (.ifCond .ne 13, 3) := by decide +kernel
theorem dX8_rests_51 : decode cX8_rests 51 = .ok (.aload_n 0, 1) := by decide +kernel
theorem dX8_rests_52 : decode cX8_rests 52 = .ok (.getfield 93, 3) := by decide +kernel
theorem dX8_rests_55 : decode cX8_rests 55 = .ok (.getfield 266, 3) := by decide +kernel
theorem dX8_rests_58 : decode cX8_rests 58 = .ok (.goto 10, 3) := by decide +kernel
theorem dX8_rests_61 : decode cX8_rests 61 = .ok (.aload_n 0, 1) := by decide +kernel
theorem dX8_rests_62 : decode cX8_rests 62 = .ok (.getfield 93, 3) := by decide +kernel
theorem dX8_rests_65 : decode cX8_rests 65 = .ok (.getfield 269, 3) := by decide +kernel
theorem dX8_rests_68 : decode cX8_rests 68 = .ok (.ireturn, 1) := by decide +kernel
end
section
theorem dX8_safe_0 : decode cX8_safe 0 = .ok (.iconst 0, 1) := by decide +kernel
theorem dX8_safe_1 : decode cX8_safe 1 = .ok (.istore_n 1, 1) := by decide +kernel
theorem dX8_safe_2 : decode cX8_safe 2 = .ok (.iload_n 1, 1) := by decide +kernel
theorem dX8_safe_3 : decode cX8_safe 3 = .ok (.aload_n 0, 1) := by decide +kernel
theorem dX8_safe_4 : decode cX8_safe 4 = .ok (.getfield 23, 3) := by decide +kernel
theorem dX8_safe_7 : decode cX8_safe 7 = .ok (.getfield 170, 3) := by decide +kernel
theorem dX8_safe_10 : decode cX8_safe 10 = .ok (.if_icmp .ge 28, 3) := by decide +kernel
theorem dX8_safe_13 : decode cX8_safe 13 = .ok (.aload_n 0, 1) := by decide +kernel
theorem dX8_safe_14 : decode cX8_safe 14 = .ok (.iload_n 1, 1) := by decide +kernel
theorem dX8_safe_15 : decode cX8_safe 15 = .ok (.invokevirtual 224, 3) := by decide +kernel
theorem dX8_safe_18 : decode cX8_safe 18 = .ok (.aload_n 0, 1) := by decide +kernel
theorem dX8_safe_19 : decode cX8_safe 19 = .ok (.getfield 71, 3) := by decide +kernel
theorem dX8_safe_22 : decode cX8_safe 22 = .ok (.getfield 167, 3) := by decide +kernel
theorem dX8_safe_25 : decode cX8_safe 25 = .ok (.bipush (-4), 2) := by decide +kernel
theorem dX8_safe_27 : decode cX8_safe 27 = .ok (.if_icmp .eq 5, 3) := by decide +kernel
theorem dX8_safe_30 : decode cX8_safe 30 = .ok (.iload_n 1, 1) := by decide +kernel
theorem dX8_safe_31 : decode cX8_safe 31 = .ok (.ireturn, 1) := by decide +kernel
theorem dX8_safe_32 : decode cX8_safe 32 = .ok (.iinc 1 1, 3) := by decide +kernel
theorem dX8_safe_35 : decode cX8_safe 35 = .ok (.goto (-33), 3) := by decide +kernel
theorem dX8_safe_38 : decode cX8_safe 38 = .ok (.bipush (-4), 2) := by decide +kernel
theorem dX8_safe_40 : decode cX8_safe 40 = .ok (.ireturn, 1) := by decide +kernel
theorem dX8_settle_0 : decode cX8_settle 0 = .ok (.aload_n 0, 1) := by decide +kernel
theorem dX8_settle_1 : decode cX8_settle 1 = .ok (.getfield 33, 3) := by decide +kernel
theorem dX8_settle_4 : decode cX8_settle 4 = .ok (.iconst 0, 1) := by decide +kernel
theorem dX8_settle_5 : decode cX8_settle 5 = .ok (.aload_n 0, 1) := by decide +kernel
theorem dX8_settle_6 : decode cX8_settle 6 = .ok (.getfield 23, 3) := by decide +kernel
theorem dX8_settle_9 : decode cX8_settle 9 = .ok (.getfield 292, 3) := by decide +kernel
theorem dX8_settle_12 : decode cX8_settle 12 = .ok (.aload_n 0, 1) := by decide +kernel
theorem dX8_settle_13 : decode cX8_settle 13 = .ok (.getfield 56, 3) := by decide +kernel
theorem dX8_settle_16 : decode cX8_settle 16 = .ok (.invokevirtual 305, 3) := by decide +kernel
theorem dX8_settle_19 : decode cX8_settle 19 = .ok (.aload_n 0, 1) := by decide +kernel
theorem dX8_settle_20 : decode cX8_settle 20 = .ok (.getfield 67, 3) := by decide +kernel
theorem dX8_settle_23 : decode cX8_settle 23 = .ok (.aload_n 0, 1) := by decide +kernel
theorem dX8_settle_24 : decode cX8_settle 24 = .ok (.getfield 23, 3) := by decide +kernel
theorem dX8_settle_27 : decode cX8_settle 27 = .ok (.invokevirtual 253, 3) := by decide +kernel
theorem dX8_settle_30 : decode cX8_settle 30 = .ok (.aload_n 0, 1) := by decide +kernel
theorem dX8_settle_31 : decode cX8_settle 31 = .ok (.getfield 67, 3) := by decide +kernel
theorem dX8_settle_34 : decode cX8_settle 34 = .ok (.aload_n 0, 1) := by decide +kernel
theorem dX8_settle_35 : decode cX8_settle 35 = .ok (.getfield 56, 3) := by decide +kernel
theorem dX8_settle_38 : decode cX8_settle 38 = .ok (.invokevirtual 256, 3) := by decide +kernel
theorem dX8_settle_41 : decode cX8_settle 41 = .ok (.return_, 1) := by decide +kernel
theorem dX8_share_0 : decode cX8_share 0 = .ok (.aload_n 0, 1) := by decide +kernel
theorem dX8_share_1 : decode cX8_share 1 = .ok (.getfield 23, 3) := by decide +kernel
theorem dX8_share_4 : decode cX8_share 4 = .ok (.iload_n 1, 1) := by decide +kernel
theorem dX8_share_5 : decode cX8_share 5 = .ok (.invokevirtual 146, 3) := by decide +kernel
theorem dX8_share_8 : decode cX8_share 8 = .ok (.ifCond .eq 12, 3) := by decide +kernel
theorem dX8_share_11 : decode cX8_share 11 = .ok (.iload_n 2, 1) := by decide +kernel
theorem dX8_share_12 : decode cX8_share 12 = .ok (.iconst 0, 1) := by decide +kernel
theorem dX8_share_13 : decode cX8_share 13 = .ok (.iconst 1, 1) := by decide +kernel
theorem dX8_share_14 : decode cX8_share 14 = .ok (.invokestatic 121, 3) := by decide +kernel
theorem dX8_share_17 : decode cX8_share 17 = .ok (.ifCond .ne 5, 3) := by decide +kernel
theorem dX8_share_20 : decode cX8_share 20 = .ok (.iconst (-1), 1) := by decide +kernel
theorem dX8_share_21 : decode cX8_share 21 = .ok (.ireturn, 1) := by decide +kernel
theorem dX8_share_22 : decode cX8_share 22 = .ok (.iconst 0, 1) := by decide +kernel
theorem dX8_share_23 : decode cX8_share 23 = .ok (.istore_n 3, 1) := by decide +kernel
theorem dX8_share_24 : decode cX8_share 24 = .ok (.iconst 0, 1) := by decide +kernel
theorem dX8_share_25 : decode cX8_share 25 = .ok (.istore 4, 2) := by decide +kernel
theorem dX8_share_27 : decode cX8_share 27 = .ok (.iload 4, 2) := by decide +kernel
theorem dX8_share_29 : decode cX8_share 29 = .ok (.aload_n 0, 1) := by decide +kernel
theorem dX8_share_30 : decode cX8_share 30 = .ok (.getfield 23, 3) := by decide +kernel
theorem dX8_share_33 : decode cX8_share 33 = .ok (.getfield 170, 3) := by decide +kernel
theorem dX8_share_36 : decode cX8_share 36 = .ok (.if_icmp .ge 21, 3) := by decide +kernel
theorem dX8_share_39 : decode cX8_share 39 = .ok (.iload_n 3, 1) := by decide +kernel
theorem dX8_share_40 : decode cX8_share 40 = .ok (.aload_n 0, 1) := by decide +kernel
theorem dX8_share_41 : decode cX8_share 41 = .ok (.getfield 67, 3) := by decide +kernel
theorem dX8_share_44 : decode cX8_share 44 = .ok (.iload 4, 2) := by decide +kernel
theorem dX8_share_46 : decode cX8_share 46 = .ok (.invokevirtual 158, 3) := by decide +kernel
theorem dX8_share_49 : decode cX8_share 49 = .ok (.iadd, 1) := by decide +kernel
theorem dX8_share_50 : decode cX8_share 50 = .ok (.istore_n 3, 1) := by decide +kernel
theorem dX8_share_51 : decode cX8_share 51 = .ok (.iinc 4 1, 3) := by decide +kernel
theorem dX8_share_54 : decode cX8_share 54 = .ok (.goto (-27), 3) := by decide +kernel
theorem dX8_share_57 : decode cX8_share 57 = .ok (.aload_n 0, 1) := by decide +kernel
theorem dX8_share_58 : decode cX8_share 58 = .ok (.getfield 67, 3) := by decide +kernel
theorem dX8_share_61 : decode cX8_share 61 = .ok (.iload_n 1, 1) := by decide +kernel
theorem dX8_share_62 : decode cX8_share 62 = .ok (.invokevirtual 158, 3) := by decide +kernel
theorem dX8_share_65 : decode cX8_share 65 = .ok (.iload_n 3, 1) := by decide +kernel
theorem dX8_share_66 : decode cX8_share 66 = .ok (.iload_n 2, 1) := by decide +kernel
theorem dX8_share_67 : decode cX8_share 67 = .ok (.invokestatic 173, 3) := by decide +kernel
theorem dX8_share_70 : decode cX8_share 70 = .ok (.ireturn, 1) := by decide +kernel
theorem dX8_son_0 : decode cX8_son 0 = .ok (.aload_n 0, 1) := by decide +kernel
theorem dX8_son_1 : decode cX8_son 1 = .ok (.getfield 23, 3) := by decide +kernel
theorem dX8_son_4 : decode cX8_son 4 = .ok (.iload_n 1, 1) := by decide +kernel
theorem dX8_son_5 : decode cX8_son 5 = .ok (.invokevirtual 146, 3) := by decide +kernel
theorem dX8_son_8 : decode cX8_son 8 = .ok (.ifCond .eq 13, 3) := by decide +kernel
theorem dX8_son_11 : decode cX8_son 11 = .ok (.iload_n 2, 1) := by decide +kernel
theorem dX8_son_12 : decode cX8_son 12 = .ok (.iconst 0, 1) := by decide +kernel
theorem dX8_son_13 : decode cX8_son 13 = .ok (.bipush 99, 2) := by decide +kernel
theorem dX8_son_15 : decode cX8_son 15 = .ok (.invokestatic 121, 3) := by decide +kernel
theorem dX8_son_18 : decode cX8_son 18 = .ok (.ifCond .ne 5, 3) := by decide +kernel
theorem dX8_son_21 : decode cX8_son 21 = .ok (.iconst (-1), 1) := by decide +kernel
theorem dX8_son_22 : decode cX8_son 22 = .ok (.ireturn, 1) := by decide +kernel
theorem dX8_son_23 : decode cX8_son 23 = .ok (.aload_n 0, 1) := by decide +kernel
theorem dX8_son_24 : decode cX8_son 24 = .ok (.getfield 86, 3) := by decide +kernel
theorem dX8_son_27 : decode cX8_son 27 = .ok (.iconst (-1), 1) := by decide +kernel
theorem dX8_son_28 : decode cX8_son 28 = .ok (.iconst 0, 1) := by decide +kernel
theorem dX8_son_29 : decode cX8_son 29 = .ok (.invokevirtual 235, 3) := by decide +kernel
theorem dX8_son_32 : decode cX8_son 32 = .ok (.aload_n 0, 1) := by decide +kernel
theorem dX8_son_33 : decode cX8_son 33 = .ok (.getfield 86, 3) := by decide +kernel
theorem dX8_son_36 : decode cX8_son 36 = .ok (.getfield 238, 3) := by decide +kernel
theorem dX8_son_39 : decode cX8_son 39 = .ok (.istore_n 3, 1) := by decide +kernel
theorem dX8_son_40 : decode cX8_son 40 = .ok (.aload_n 0, 1) := by decide +kernel
theorem dX8_son_41 : decode cX8_son 41 = .ok (.getfield 86, 3) := by decide +kernel
theorem dX8_son_44 : decode cX8_son 44 = .ok (.iload_n 1, 1) := by decide +kernel
theorem dX8_son_45 : decode cX8_son 45 = .ok (.iload_n 2, 1) := by decide +kernel
theorem dX8_son_46 : decode cX8_son 46 = .ok (.invokevirtual 235, 3) := by decide +kernel
theorem dX8_son_49 : decode cX8_son 49 = .ok (.aload_n 0, 1) := by decide +kernel
theorem dX8_son_50 : decode cX8_son 50 = .ok (.getfield 86, 3) := by decide +kernel
theorem dX8_son_53 : decode cX8_son 53 = .ok (.getfield 238, 3) := by decide +kernel
theorem dX8_son_56 : decode cX8_son 56 = .ok (.iload_n 3, 1) := by decide +kernel
theorem dX8_son_57 : decode cX8_son 57 = .ok (.isub, 1) := by decide +kernel
theorem dX8_son_58 : decode cX8_son 58 = .ok (.ireturn, 1) := by decide +kernel
theorem dX8_stands_0 : decode cX8_stands 0 = .ok (.aload_n 0, 1) := by decide +kernel
theorem dX8_stands_1 : decode cX8_stands 1 = .ok (.getfield 67, 3) := by decide +kernel
theorem dX8_stands_4 : decode cX8_stands 4 = .ok (.getfield 167, 3) := by decide +kernel
theorem dX8_stands_7 : decode cX8_stands 7 = .ok (.ireturn, 1) := by decide +kernel
theorem dX8_toll_0 : decode cX8_toll 0 = .ok (.iload_n 0, 1) := by decide +kernel
theorem dX8_toll_1 : decode cX8_toll 1 = .ok (.istore 4, 2) := by decide +kernel
theorem dX8_toll_3 : decode cX8_toll 3 = .ok (.iload_n 1, 1) := by decide +kernel
theorem dX8_toll_4 : decode cX8_toll 4 = .ok (.iconst 1, 1) := by decide +kernel
theorem dX8_toll_5 : decode cX8_toll 5 = .ok (.if_icmp .ne 11, 3) := by decide +kernel
theorem dX8_toll_8 : decode cX8_toll 8 = .ok (.iconst 2, 1) := by decide +kernel
theorem dX8_toll_9 : decode cX8_toll 9 = .ok (.iload_n 0, 1) := by decide +kernel
theorem dX8_toll_10 : decode cX8_toll 10 = .ok (.imul, 1) := by decide +kernel
theorem dX8_toll_11 : decode cX8_toll 11 = .ok (.istore 4, 2) := by decide +kernel
theorem dX8_toll_13 : decode cX8_toll 13 = .ok (.goto 18, 3) := by decide +kernel
theorem dX8_toll_16 : decode cX8_toll 16 = .ok (.iload_n 1, 1) := by decide +kernel
theorem dX8_toll_17 : decode cX8_toll 17 = .ok (.iconst 3, 1) := by decide +kernel
theorem dX8_toll_18 : decode cX8_toll 18 = .ok (.if_icmp .ne 13, 3) := by decide +kernel
theorem dX8_toll_21 : decode cX8_toll 21 = .ok (.iload_n 3, 1) := by decide +kernel
theorem dX8_toll_22 : decode cX8_toll 22 = .ok (.iconst 1, 1) := by decide +kernel
theorem dX8_toll_23 : decode cX8_toll 23 = .ok (.if_icmp .le 8, 3) := by decide +kernel
theorem dX8_toll_26 : decode cX8_toll 26 = .ok (.iload_n 0, 1) := by decide +kernel
theorem dX8_toll_27 : decode cX8_toll 27 = .ok (.iconst 1, 1) := by decide +kernel
theorem dX8_toll_28 : decode cX8_toll 28 = .ok (.isub, 1) := by decide +kernel
theorem dX8_toll_29 : decode cX8_toll 29 = .ok (.istore 4, 2) := by decide +kernel
theorem dX8_toll_31 : decode cX8_toll 31 = .ok (.iload_n 2, 1) := by decide +kernel
theorem dX8_toll_32 : decode cX8_toll 32 = .ok (.iconst 1, 1) := by decide +kernel
theorem dX8_toll_33 : decode cX8_toll 33 = .ok (.if_icmp .le 10, 3) := by decide +kernel
theorem dX8_toll_36 : decode cX8_toll 36 = .ok (.iload 4, 2) := by decide +kernel
theorem dX8_toll_38 : decode cX8_toll 38 = .ok (.iload_n 2, 1) := by decide +kernel
theorem dX8_toll_39 : decode cX8_toll 39 = .ok (.idiv, 1) := by decide +kernel
theorem dX8_toll_40 : decode cX8_toll 40 = .ok (.goto 5, 3) := by decide +kernel
theorem dX8_toll_43 : decode cX8_toll 43 = .ok (.iload 4, 2) := by decide +kernel
theorem dX8_toll_45 : decode cX8_toll 45 = .ok (.istore 5, 2) := by decide +kernel
theorem dX8_toll_47 : decode cX8_toll 47 = .ok (.iload 5, 2) := by decide +kernel
theorem dX8_toll_49 : decode cX8_toll 49 = .ok (.iconst 1, 1) := by decide +kernel
theorem dX8_toll_50 : decode cX8_toll 50 = .ok (.if_icmp .ge 7, 3) := by decide +kernel
theorem dX8_toll_53 : decode cX8_toll 53 = .ok (.iconst 1, 1) := by decide +kernel
theorem dX8_toll_54 : decode cX8_toll 54 = .ok (.goto 5, 3) := by decide +kernel
theorem dX8_toll_57 : decode cX8_toll 57 = .ok (.iload 5, 2) := by decide +kernel
theorem dX8_toll_59 : decode cX8_toll 59 = .ok (.ireturn, 1) := by decide +kernel
theorem dX8_turn_0 : decode cX8_turn 0 = .ok (.aload_n 0, 1) := by decide +kernel
theorem dX8_turn_1 : decode cX8_turn 1 = .ok (.getfield 33, 3) := by decide +kernel
theorem dX8_turn_4 : decode cX8_turn 4 = .ok (.iload_n 1, 1) := by decide +kernel
theorem dX8_turn_5 : decode cX8_turn 5 = .ok (.invokevirtual 177, 3) := by decide +kernel
theorem dX8_turn_8 : decode cX8_turn 8 = .ok (.ifCond .ne 5, 3) := by decide +kernel
theorem dX8_turn_11 : decode cX8_turn 11 = .ok (.iconst (-1), 1) := by decide +kernel
theorem dX8_turn_12 : decode cX8_turn 12 = .ok (.ireturn, 1) := by decide +kernel
theorem dX8_turn_13 : decode cX8_turn 13 = .ok (.iload_n 2, 1) := by decide +kernel
theorem dX8_turn_14 : decode cX8_turn 14 = .ok (.tableswitch 56 0 2 #[26, 36, 46], 26) := by decide +kernel
theorem dX8_turn_40 : decode cX8_turn 40 = .ok (.aload_n 0, 1) := by decide +kernel
theorem dX8_turn_41 : decode cX8_turn 41 = .ok (.getfield 33, 3) := by decide +kernel
theorem dX8_turn_44 : decode cX8_turn 44 = .ok (.getfield 180, 3) := by decide +kernel
theorem dX8_turn_47 : decode cX8_turn 47 = .ok (.iload_n 1, 1) := by decide +kernel
theorem dX8_turn_48 : decode cX8_turn 48 = .ok (.iaload, 1) := by decide +kernel
theorem dX8_turn_49 : decode cX8_turn 49 = .ok (.ireturn, 1) := by decide +kernel
theorem dX8_turn_50 : decode cX8_turn 50 = .ok (.aload_n 0, 1) := by decide +kernel
theorem dX8_turn_51 : decode cX8_turn 51 = .ok (.getfield 33, 3) := by decide +kernel
theorem dX8_turn_54 : decode cX8_turn 54 = .ok (.getfield 183, 3) := by decide +kernel
theorem dX8_turn_57 : decode cX8_turn 57 = .ok (.iload_n 1, 1) := by decide +kernel
theorem dX8_turn_58 : decode cX8_turn 58 = .ok (.iaload, 1) := by decide +kernel
theorem dX8_turn_59 : decode cX8_turn 59 = .ok (.ireturn, 1) := by decide +kernel
theorem dX8_turn_60 : decode cX8_turn 60 = .ok (.aload_n 0, 1) := by decide +kernel
theorem dX8_turn_61 : decode cX8_turn 61 = .ok (.getfield 33, 3) := by decide +kernel
theorem dX8_turn_64 : decode cX8_turn 64 = .ok (.getfield 186, 3) := by decide +kernel
theorem dX8_turn_67 : decode cX8_turn 67 = .ok (.iload_n 1, 1) := by decide +kernel
theorem dX8_turn_68 : decode cX8_turn 68 = .ok (.iaload, 1) := by decide +kernel
theorem dX8_turn_69 : decode cX8_turn 69 = .ok (.ireturn, 1) := by decide +kernel
theorem dX8_turn_70 : decode cX8_turn 70 = .ok (.iconst (-1), 1) := by decide +kernel
theorem dX8_turn_71 : decode cX8_turn 71 = .ok (.ireturn, 1) := by decide +kernel
theorem dX8_undo_0 : decode cX8_undo 0 = .ok (.aload_n 0, 1) := by decide +kernel
theorem dX8_undo_1 : decode cX8_undo 1 = .ok (.getfield 42, 3) := by decide +kernel
theorem dX8_undo_4 : decode cX8_undo 4 = .ok (.aload_n 0, 1) := by decide +kernel
theorem dX8_undo_5 : decode cX8_undo 5 = .ok (.getfield 33, 3) := by decide +kernel
theorem dX8_undo_8 : decode cX8_undo 8 = .ok (.invokevirtual 209, 3) := by decide +kernel
theorem dX8_undo_11 : decode cX8_undo 11 = .ok (.ifCond .ne 6, 3) := by decide +kernel
theorem dX8_undo_14 : decode cX8_undo 14 = .ok (.bipush (-2), 2) := by decide +kernel
theorem dX8_undo_16 : decode cX8_undo 16 = .ok (.ireturn, 1) := by decide +kernel
theorem dX8_undo_17 : decode cX8_undo 17 = .ok (.aload_n 0, 1) := by decide +kernel
theorem dX8_undo_18 : decode cX8_undo 18 = .ok (.invokevirtual 200, 3) := by decide +kernel
theorem dX8_undo_21 : decode cX8_undo 21 = .ok (.aload_n 0, 1) := by decide +kernel
theorem dX8_undo_22 : decode cX8_undo 22 = .ok (.getfield 42, 3) := by decide +kernel
theorem dX8_undo_25 : decode cX8_undo 25 = .ok (.getfield 213, 3) := by decide +kernel
theorem dX8_undo_28 : decode cX8_undo 28 = .ok (.ireturn, 1) := by decide +kernel
theorem dX8_walkWithout_0 : decode cX8_walkWithout 0 = .ok (.aload_n 0, 1) := by decide +kernel
theorem dX8_walkWithout_1 : decode cX8_walkWithout 1 = .ok (.getfield 71, 3) := by decide +kernel
theorem dX8_walkWithout_4 : decode cX8_walkWithout 4 = .ok (.aload_n 0, 1) := by decide +kernel
theorem dX8_walkWithout_5 : decode cX8_walkWithout 5 = .ok (.getfield 23, 3) := by decide +kernel
theorem dX8_walkWithout_8 : decode cX8_walkWithout 8 = .ok (.invokevirtual 253, 3) := by decide +kernel
theorem dX8_walkWithout_11 : decode cX8_walkWithout 11 = .ok (.aload_n 0, 1) := by decide +kernel
theorem dX8_walkWithout_12 : decode cX8_walkWithout 12 = .ok (.getfield 71, 3) := by decide +kernel
theorem dX8_walkWithout_15 : decode cX8_walkWithout 15 = .ok (.getfield 155, 3) := by decide +kernel
theorem dX8_walkWithout_18 : decode cX8_walkWithout 18 = .ok (.iload_n 1, 1) := by decide +kernel
theorem dX8_walkWithout_19 : decode cX8_walkWithout 19 = .ok (.iconst 0, 1) := by decide +kernel
theorem dX8_walkWithout_20 : decode cX8_walkWithout 20 = .ok (.iastore, 1) := by decide +kernel
theorem dX8_walkWithout_21 : decode cX8_walkWithout 21 = .ok (.aload_n 0, 1) := by decide +kernel
theorem dX8_walkWithout_22 : decode cX8_walkWithout 22 = .ok (.getfield 71, 3) := by decide +kernel
theorem dX8_walkWithout_25 : decode cX8_walkWithout 25 = .ok (.aload_n 0, 1) := by decide +kernel
theorem dX8_walkWithout_26 : decode cX8_walkWithout 26 = .ok (.getfield 56, 3) := by decide +kernel
theorem dX8_walkWithout_29 : decode cX8_walkWithout 29 = .ok (.invokevirtual 256, 3) := by decide +kernel
theorem dX8_walkWithout_32 : decode cX8_walkWithout 32 = .ok (.return_, 1) := by decide +kernel
theorem dX8_wipe_0 : decode cX8_wipe 0 = .ok (.aload_n 0, 1) := by decide +kernel
theorem dX8_wipe_1 : decode cX8_wipe 1 = .ok (.getfield 115, 3) := by decide +kernel
theorem dX8_wipe_4 : decode cX8_wipe 4 = .ok (.istore_n 1, 1) := by decide +kernel
theorem dX8_wipe_5 : decode cX8_wipe 5 = .ok (.aload_n 0, 1) := by decide +kernel
theorem dX8_wipe_6 : decode cX8_wipe 6 = .ok (.iconst 0, 1) := by decide +kernel
theorem dX8_wipe_7 : decode cX8_wipe 7 = .ok (.putfield 115, 3) := by decide +kernel
theorem dX8_wipe_10 : decode cX8_wipe 10 = .ok (.iload_n 1, 1) := by decide +kernel
theorem dX8_wipe_11 : decode cX8_wipe 11 = .ok (.ireturn, 1) := by decide +kernel
theorem dX8_within_0 : decode cX8_within 0 = .ok (.iload_n 0, 1) := by decide +kernel
theorem dX8_within_1 : decode cX8_within 1 = .ok (.iload_n 1, 1) := by decide +kernel
theorem dX8_within_2 : decode cX8_within 2 = .ok (.if_icmp .lt 12, 3) := by decide +kernel
theorem dX8_within_5 : decode cX8_within 5 = .ok (.iload_n 0, 1) := by decide +kernel
theorem dX8_within_6 : decode cX8_within 6 = .ok (.iload_n 2, 1) := by decide +kernel
theorem dX8_within_7 : decode cX8_within 7 = .ok (.if_icmp .gt 7, 3) := by decide +kernel
theorem dX8_within_10 : decode cX8_within 10 = .ok (.iconst 1, 1) := by decide +kernel
theorem dX8_within_11 : decode cX8_within 11 = .ok (.goto 4, 3) := by decide +kernel
theorem dX8_within_14 : decode cX8_within 14 = .ok (.iconst 0, 1) := by decide +kernel
theorem dX8_within_15 : decode cX8_within 15 = .ok (.ireturn, 1) := by decide +kernel
theorem dX8_write_0 : decode cX8_write 0 = .ok (.iload_n 1, 1) := by decide +kernel
theorem dX8_write_1 : decode cX8_write 1 = .ok (.bipush 32, 2) := by decide +kernel
theorem dX8_write_3 : decode cX8_write 3 = .ok (.bipush 126, 2) := by decide +kernel
theorem dX8_write_5 : decode cX8_write 5 = .ok (.invokestatic 121, 3) := by decide +kernel
theorem dX8_write_8 : decode cX8_write 8 = .ok (.ifCond .ne 5, 3) := by decide +kernel
theorem dX8_write_11 : decode cX8_write 11 = .ok (.iconst (-1), 1) := by decide +kernel
theorem dX8_write_12 : decode cX8_write 12 = .ok (.ireturn, 1) := by decide +kernel
theorem dX8_write_13 : decode cX8_write 13 = .ok (.aload_n 0, 1) := by decide +kernel
theorem dX8_write_14 : decode cX8_write 14 = .ok (.getfield 115, 3) := by decide +kernel
theorem dX8_write_17 : decode cX8_write 17 = .ok (.sipush 200, 3) := by decide +kernel
theorem dX8_write_20 : decode cX8_write 20 = .ok (.if_icmp .lt 6, 3) := by decide +kernel
theorem dX8_write_23 : decode cX8_write 23 = .ok (.bipush (-3), 2) := by decide +kernel
theorem dX8_write_25 : decode cX8_write 25 = .ok (.ireturn, 1) := by decide +kernel
theorem dX8_write_26 : decode cX8_write 26 = .ok (.aload_n 0, 1) := by decide +kernel
theorem dX8_write_27 : decode cX8_write 27 = .ok (.getfield 9, 3) := by decide +kernel
theorem dX8_write_30 : decode cX8_write 30 = .ok (.aload_n 0, 1) := by decide +kernel
theorem dX8_write_31 : decode cX8_write 31 = .ok (.getfield 115, 3) := by decide +kernel
theorem dX8_write_34 : decode cX8_write 34 = .ok (.iload_n 1, 1) := by decide +kernel
theorem dX8_write_35 : decode cX8_write 35 = .ok (.i2c, 1) := by decide +kernel
theorem dX8_write_36 : decode cX8_write 36 = .ok (.castore, 1) := by decide +kernel
theorem dX8_write_37 : decode cX8_write 37 = .ok (.aload_n 0, 1) := by decide +kernel
theorem dX8_write_38 : decode cX8_write 38 = .ok (.dup, 1) := by decide +kernel
theorem dX8_write_39 : decode cX8_write 39 = .ok (.getfield 115, 3) := by decide +kernel
theorem dX8_write_42 : decode cX8_write 42 = .ok (.iconst 1, 1) := by decide +kernel
theorem dX8_write_43 : decode cX8_write 43 = .ok (.iadd, 1) := by decide +kernel
theorem dX8_write_44 : decode cX8_write 44 = .ok (.putfield 115, 3) := by decide +kernel
theorem dX8_write_47 : decode cX8_write 47 = .ok (.aload_n 0, 1) := by decide +kernel
theorem dX8_write_48 : decode cX8_write 48 = .ok (.getfield 115, 3) := by decide +kernel
theorem dX8_write_51 : decode cX8_write 51 = .ok (.ireturn, 1) := by decide +kernel
theorem dX8_yard_0 : decode cX8_yard 0 = .ok (.aload_n 0, 1) := by decide +kernel
theorem dX8_yard_1 : decode cX8_yard 1 = .ok (.getfield 23, 3) := by decide +kernel
theorem dX8_yard_4 : decode cX8_yard 4 = .ok (.iload_n 1, 1) := by decide +kernel
theorem dX8_yard_5 : decode cX8_yard 5 = .ok (.invokevirtual 129, 3) := by decide +kernel
theorem dX8_yard_8 : decode cX8_yard 8 = .ok (.ifCond .ne 5, 3) := by decide +kernel
theorem dX8_yard_11 : decode cX8_yard 11 = .ok (.iconst (-1), 1) := by decide +kernel
theorem dX8_yard_12 : decode cX8_yard 12 = .ok (.ireturn, 1) := by decide +kernel
theorem dX8_yard_13 : decode cX8_yard 13 = .ok (.iload_n 2, 1) := by decide +kernel
theorem dX8_yard_14 : decode cX8_yard 14 = .ok (.tableswitch 79 0 4 #[34, 44, 53, 62, 69], 34) := by decide +kernel
theorem dX8_yard_48 : decode cX8_yard 48 = .ok (.aload_n 0, 1) := by decide +kernel
theorem dX8_yard_49 : decode cX8_yard 49 = .ok (.getfield 23, 3) := by decide +kernel
theorem dX8_yard_52 : decode cX8_yard 52 = .ok (.getfield 133, 3) := by decide +kernel
theorem dX8_yard_55 : decode cX8_yard 55 = .ok (.iload_n 1, 1) := by decide +kernel
theorem dX8_yard_56 : decode cX8_yard 56 = .ok (.iaload, 1) := by decide +kernel
theorem dX8_yard_57 : decode cX8_yard 57 = .ok (.ireturn, 1) := by decide +kernel
theorem dX8_yard_58 : decode cX8_yard 58 = .ok (.aload_n 0, 1) := by decide +kernel
theorem dX8_yard_59 : decode cX8_yard 59 = .ok (.getfield 23, 3) := by decide +kernel
theorem dX8_yard_62 : decode cX8_yard 62 = .ok (.iload_n 1, 1) := by decide +kernel
theorem dX8_yard_63 : decode cX8_yard 63 = .ok (.invokevirtual 136, 3) := by decide +kernel
theorem dX8_yard_66 : decode cX8_yard 66 = .ok (.ireturn, 1) := by decide +kernel
theorem dX8_yard_67 : decode cX8_yard 67 = .ok (.aload_n 0, 1) := by decide +kernel
theorem dX8_yard_68 : decode cX8_yard 68 = .ok (.getfield 23, 3) := by decide +kernel
theorem dX8_yard_71 : decode cX8_yard 71 = .ok (.iload_n 1, 1) := by decide +kernel
theorem dX8_yard_72 : decode cX8_yard 72 = .ok (.invokevirtual 140, 3) := by decide +kernel
theorem dX8_yard_75 : decode cX8_yard 75 = .ok (.ireturn, 1) := by decide +kernel
theorem dX8_yard_76 : decode cX8_yard 76 = .ok (.aload_n 0, 1) := by decide +kernel
theorem dX8_yard_77 : decode cX8_yard 77 = .ok (.getfield 56, 3) := by decide +kernel
theorem dX8_yard_80 : decode cX8_yard 80 = .ok (.iload_n 1, 1) := by decide +kernel
theorem dX8_yard_81 : decode cX8_yard 81 = .ok (.iaload, 1) := by decide +kernel
theorem dX8_yard_82 : decode cX8_yard 82 = .ok (.ireturn, 1) := by decide +kernel
theorem dX8_yard_83 : decode cX8_yard 83 = .ok (.aload_n 0, 1) := by decide +kernel
theorem dX8_yard_84 : decode cX8_yard 84 = .ok (.getfield 67, 3) := by decide +kernel
theorem dX8_yard_87 : decode cX8_yard 87 = .ok (.getfield 143, 3) := by decide +kernel
theorem dX8_yard_90 : decode cX8_yard 90 = .ok (.iload_n 1, 1) := by decide +kernel
theorem dX8_yard_91 : decode cX8_yard 91 = .ok (.iaload, 1) := by decide +kernel
theorem dX8_yard_92 : decode cX8_yard 92 = .ok (.ireturn, 1) := by decide +kernel
theorem dX8_yard_93 : decode cX8_yard 93 = .ok (.iconst (-1), 1) := by decide +kernel
theorem dX8_yard_94 : decode cX8_yard 94 = .ok (.ireturn, 1) := by decide +kernel
theorem dX9_adds_0 : decode cX9_adds 0 = .ok (.aload_n 0, 1) := by decide +kernel
theorem dX9_adds_1 : decode cX9_adds 1 = .ok (.iconst 0, 1) := by decide +kernel
theorem dX9_adds_2 : decode cX9_adds 2 = .ok (.iaload, 1) := by decide +kernel
theorem dX9_adds_3 : decode cX9_adds 3 = .ok (.istore 4, 2) := by decide +kernel
theorem dX9_adds_5 : decode cX9_adds 5 = .ok (.aload_n 0, 1) := by decide +kernel
theorem dX9_adds_6 : decode cX9_adds 6 = .ok (.iconst 1, 1) := by decide +kernel
theorem dX9_adds_7 : decode cX9_adds 7 = .ok (.iload 4, 2) := by decide +kernel
theorem dX9_adds_9 : decode cX9_adds 9 = .ok (.iadd, 1) := by decide +kernel
theorem dX9_adds_10 : decode cX9_adds 10 = .ok (.iload_n 1, 1) := by decide +kernel
theorem dX9_adds_11 : decode cX9_adds 11 = .ok (.iastore, 1) := by decide +kernel
theorem dX9_adds_12 : decode cX9_adds 12 = .ok (.aload_n 0, 1) := by decide +kernel
theorem dX9_adds_13 : decode cX9_adds 13 = .ok (.bipush 11, 2) := by decide +kernel
theorem dX9_adds_15 : decode cX9_adds 15 = .ok (.iload 4, 2) := by decide +kernel
theorem dX9_adds_17 : decode cX9_adds 17 = .ok (.iadd, 1) := by decide +kernel
theorem dX9_adds_18 : decode cX9_adds 18 = .ok (.iload_n 2, 1) := by decide +kernel
theorem dX9_adds_19 : decode cX9_adds 19 = .ok (.iastore, 1) := by decide +kernel
theorem dX9_adds_20 : decode cX9_adds 20 = .ok (.aload_n 0, 1) := by decide +kernel
theorem dX9_adds_21 : decode cX9_adds 21 = .ok (.bipush 21, 2) := by decide +kernel
theorem dX9_adds_23 : decode cX9_adds 23 = .ok (.iload 4, 2) := by decide +kernel
theorem dX9_adds_25 : decode cX9_adds 25 = .ok (.iadd, 1) := by decide +kernel
theorem dX9_adds_26 : decode cX9_adds 26 = .ok (.iload_n 3, 1) := by decide +kernel
theorem dX9_adds_27 : decode cX9_adds 27 = .ok (.iastore, 1) := by decide +kernel
theorem dX9_adds_28 : decode cX9_adds 28 = .ok (.aload_n 0, 1) := by decide +kernel
theorem dX9_adds_29 : decode cX9_adds 29 = .ok (.iconst 0, 1) := by decide +kernel
theorem dX9_adds_30 : decode cX9_adds 30 = .ok (.dup2, 1) := by decide +kernel
theorem dX9_adds_31 : decode cX9_adds 31 = .ok (.iaload, 1) := by decide +kernel
theorem dX9_adds_32 : decode cX9_adds 32 = .ok (.iconst 1, 1) := by decide +kernel
theorem dX9_adds_33 : decode cX9_adds 33 = .ok (.iadd, 1) := by decide +kernel
theorem dX9_adds_34 : decode cX9_adds 34 = .ok (.iastore, 1) := by decide +kernel
theorem dX9_adds_35 : decode cX9_adds 35 = .ok (.return_, 1) := by decide +kernel
theorem dX9_areSo_0 : decode cX9_areSo 0 = .ok (.aload_n 0, 1) := by decide +kernel
theorem dX9_areSo_1 : decode cX9_areSo 1 = .ok (.invokevirtual 214, 3) := by decide +kernel
theorem dX9_areSo_4 : decode cX9_areSo 4 = .ok (.aload_n 0, 1) := by decide +kernel
theorem dX9_areSo_5 : decode cX9_areSo 5 = .ok (.iload_n 1, 1) := by decide +kernel
theorem dX9_areSo_6 : decode cX9_areSo 6 = .ok (.putfield 152, 3) := by decide +kernel
theorem dX9_areSo_9 : decode cX9_areSo 9 = .ok (.aload_n 0, 1) := by decide +kernel
theorem dX9_areSo_10 : decode cX9_areSo 10 = .ok (.invokevirtual 217, 3) := by decide +kernel
theorem dX9_areSo_13 : decode cX9_areSo 13 = .ok (.iconst 1, 1) := by decide +kernel
theorem dX9_areSo_14 : decode cX9_areSo 14 = .ok (.istore_n 2, 1) := by decide +kernel
theorem dX9_areSo_15 : decode cX9_areSo 15 = .ok (.iconst 0, 1) := by decide +kernel
theorem dX9_areSo_16 : decode cX9_areSo 16 = .ok (.istore_n 3, 1) := by decide +kernel
theorem dX9_areSo_17 : decode cX9_areSo 17 = .ok (.iload_n 3, 1) := by decide +kernel
theorem dX9_areSo_18 : decode cX9_areSo 18 = .ok (.aload_n 0, 1) := by decide +kernel
theorem dX9_areSo_19 : decode cX9_areSo 19 = .ok (.getfield 139, 3) := by decide +kernel
theorem dX9_areSo_22 : decode cX9_areSo 22 = .ok (.if_icmp .ge 48, 3) := by decide +kernel
theorem dX9_areSo_25 : decode cX9_areSo 25 = .ok (.iload_n 2, 1) := by decide +kernel
theorem dX9_areSo_26 : decode cX9_areSo 26 = .ok (.ifCond .eq 36, 3) := by decide +kernel
theorem dX9_areSo_29 : decode cX9_areSo 29 = .ok (.aload_n 0, 1) := by decide +kernel
theorem dX9_areSo_30 : decode cX9_areSo 30 = .ok (.getfield 55, 3) := by decide +kernel
theorem dX9_areSo_33 : decode cX9_areSo 33 = .ok (.aload_n 0, 1) := by decide +kernel
theorem dX9_areSo_34 : decode cX9_areSo 34 = .ok (.getfield 31, 3) := by decide +kernel
theorem dX9_areSo_37 : decode cX9_areSo 37 = .ok (.iconst 2, 1) := by decide +kernel
theorem dX9_areSo_38 : decode cX9_areSo 38 = .ok (.iload_n 3, 1) := by decide +kernel
theorem dX9_areSo_39 : decode cX9_areSo 39 = .ok (.imul, 1) := by decide +kernel
theorem dX9_areSo_40 : decode cX9_areSo 40 = .ok (.iaload, 1) := by decide +kernel
theorem dX9_areSo_41 : decode cX9_areSo 41 = .ok (.iaload, 1) := by decide +kernel
theorem dX9_areSo_42 : decode cX9_areSo 42 = .ok (.invokestatic 174, 3) := by decide +kernel
theorem dX9_areSo_45 : decode cX9_areSo 45 = .ok (.aload_n 0, 1) := by decide +kernel
theorem dX9_areSo_46 : decode cX9_areSo 46 = .ok (.getfield 31, 3) := by decide +kernel
theorem dX9_areSo_49 : decode cX9_areSo 49 = .ok (.iconst 2, 1) := by decide +kernel
theorem dX9_areSo_50 : decode cX9_areSo 50 = .ok (.iload_n 3, 1) := by decide +kernel
theorem dX9_areSo_51 : decode cX9_areSo 51 = .ok (.imul, 1) := by decide +kernel
theorem dX9_areSo_52 : decode cX9_areSo 52 = .ok (.iconst 1, 1) := by decide +kernel
theorem dX9_areSo_53 : decode cX9_areSo 53 = .ok (.iadd, 1) := by decide +kernel
theorem dX9_areSo_54 : decode cX9_areSo 54 = .ok (.iaload, 1) := by decide +kernel
theorem dX9_areSo_55 : decode cX9_areSo 55 = .ok (.if_icmp .ne 7, 3) := by decide +kernel
theorem dX9_areSo_58 : decode cX9_areSo 58 = .ok (.iconst 1, 1) := by decide +kernel
theorem dX9_areSo_59 : decode cX9_areSo 59 = .ok (.goto 4, 3) := by decide +kernel
theorem dX9_areSo_62 : decode cX9_areSo 62 = .ok (.iconst 0, 1) := by decide +kernel
theorem dX9_areSo_63 : decode cX9_areSo 63 = .ok (.istore_n 2, 1) := by decide +kernel
theorem dX9_areSo_64 : decode cX9_areSo 64 = .ok (.iinc 3 1, 3) := by decide +kernel
theorem dX9_areSo_67 : decode cX9_areSo 67 = .ok (.goto (-50), 3) := by decide +kernel
theorem dX9_areSo_70 : decode cX9_areSo 70 = .ok (.iload_n 2, 1) := by decide +kernel
theorem dX9_areSo_71 : decode cX9_areSo 71 = .ok (.ireturn, 1) := by decide +kernel
theorem dX9_asItIs_0 : decode cX9_asItIs 0 = .ok (.iconst 0, 1) := by decide +kernel
theorem dX9_asItIs_1 : decode cX9_asItIs 1 = .ok (.istore_n 1, 1) := by decide +kernel
theorem dX9_asItIs_2 : decode cX9_asItIs 2 = .ok (.iload_n 1, 1) := by decide +kernel
theorem dX9_asItIs_3 : decode cX9_asItIs 3 = .ok (.bipush 34, 2) := by decide +kernel
theorem dX9_asItIs_5 : decode cX9_asItIs 5 = .ok (.if_icmp .ge 21, 3) := by decide +kernel
theorem dX9_asItIs_8 : decode cX9_asItIs 8 = .ok (.aload_n 0, 1) := by decide +kernel
theorem dX9_asItIs_9 : decode cX9_asItIs 9 = .ok (.getfield 37, 3) := by decide +kernel
theorem dX9_asItIs_12 : decode cX9_asItIs 12 = .ok (.iload_n 1, 1) := by decide +kernel
theorem dX9_asItIs_13 : decode cX9_asItIs 13 = .ok (.aload_n 0, 1) := by decide +kernel
theorem dX9_asItIs_14 : decode cX9_asItIs 14 = .ok (.getfield 7, 3) := by decide +kernel
theorem dX9_asItIs_17 : decode cX9_asItIs 17 = .ok (.iload_n 1, 1) := by decide +kernel
theorem dX9_asItIs_18 : decode cX9_asItIs 18 = .ok (.iaload, 1) := by decide +kernel
theorem dX9_asItIs_19 : decode cX9_asItIs 19 = .ok (.iastore, 1) := by decide +kernel
theorem dX9_asItIs_20 : decode cX9_asItIs 20 = .ok (.iinc 1 1, 3) := by decide +kernel
theorem dX9_asItIs_23 : decode cX9_asItIs 23 = .ok (.goto (-21), 3) := by decide +kernel
theorem dX9_asItIs_26 : decode cX9_asItIs 26 = .ok (.iconst 0, 1) := by decide +kernel
theorem dX9_asItIs_27 : decode cX9_asItIs 27 = .ok (.istore_n 1, 1) := by decide +kernel
theorem dX9_asItIs_28 : decode cX9_asItIs 28 = .ok (.iload_n 1, 1) := by decide +kernel
theorem dX9_asItIs_29 : decode cX9_asItIs 29 = .ok (.bipush 31, 2) := by decide +kernel
theorem dX9_asItIs_31 : decode cX9_asItIs 31 = .ok (.if_icmp .ge 21, 3) := by decide +kernel
theorem dX9_asItIs_34 : decode cX9_asItIs 34 = .ok (.aload_n 0, 1) := by decide +kernel
theorem dX9_asItIs_35 : decode cX9_asItIs 35 = .ok (.getfield 40, 3) := by decide +kernel
theorem dX9_asItIs_38 : decode cX9_asItIs 38 = .ok (.iload_n 1, 1) := by decide +kernel
theorem dX9_asItIs_39 : decode cX9_asItIs 39 = .ok (.aload_n 0, 1) := by decide +kernel
theorem dX9_asItIs_40 : decode cX9_asItIs 40 = .ok (.getfield 16, 3) := by decide +kernel
theorem dX9_asItIs_43 : decode cX9_asItIs 43 = .ok (.iload_n 1, 1) := by decide +kernel
theorem dX9_asItIs_44 : decode cX9_asItIs 44 = .ok (.iaload, 1) := by decide +kernel
theorem dX9_asItIs_45 : decode cX9_asItIs 45 = .ok (.iastore, 1) := by decide +kernel
theorem dX9_asItIs_46 : decode cX9_asItIs 46 = .ok (.iinc 1 1, 3) := by decide +kernel
theorem dX9_asItIs_49 : decode cX9_asItIs 49 = .ok (.goto (-21), 3) := by decide +kernel
theorem dX9_asItIs_52 : decode cX9_asItIs 52 = .ok (.aload_n 0, 1) := by decide +kernel
theorem dX9_asItIs_53 : decode cX9_asItIs 53 = .ok (.iconst (-1), 1) := by decide +kernel
theorem dX9_asItIs_54 : decode cX9_asItIs 54 = .ok (.putfield 152, 3) := by decide +kernel
theorem dX9_asItIs_57 : decode cX9_asItIs 57 = .ok (.aload_n 0, 1) := by decide +kernel
theorem dX9_asItIs_58 : decode cX9_asItIs 58 = .ok (.iconst (-1), 1) := by decide +kernel
theorem dX9_asItIs_59 : decode cX9_asItIs 59 = .ok (.putfield 155, 3) := by decide +kernel
theorem dX9_asItIs_62 : decode cX9_asItIs 62 = .ok (.return_, 1) := by decide +kernel
theorem dX9_back_0 : decode cX9_back 0 = .ok (.aload_n 0, 1) := by decide +kernel
theorem dX9_back_1 : decode cX9_back 1 = .ok (.getfield 145, 3) := by decide +kernel
theorem dX9_back_4 : decode cX9_back 4 = .ok (.ifCond .ne 6, 3) := by decide +kernel
theorem dX9_back_7 : decode cX9_back 7 = .ok (.bipush (-2), 2) := by decide +kernel
theorem dX9_back_9 : decode cX9_back 9 = .ok (.ireturn, 1) := by decide +kernel
theorem dX9_back_10 : decode cX9_back 10 = .ok (.aload_n 0, 1) := by decide +kernel
theorem dX9_back_11 : decode cX9_back 11 = .ok (.dup, 1) := by decide +kernel
theorem dX9_back_12 : decode cX9_back 12 = .ok (.getfield 145, 3) := by decide +kernel
theorem dX9_back_15 : decode cX9_back 15 = .ok (.iconst 1, 1) := by decide +kernel
theorem dX9_back_16 : decode cX9_back 16 = .ok (.isub, 1) := by decide +kernel
theorem dX9_back_17 : decode cX9_back 17 = .ok (.putfield 145, 3) := by decide +kernel
theorem dX9_back_20 : decode cX9_back 20 = .ok (.aload_n 0, 1) := by decide +kernel
theorem dX9_back_21 : decode cX9_back 21 = .ok (.getfield 25, 3) := by decide +kernel
theorem dX9_back_24 : decode cX9_back 24 = .ok (.bipush 31, 2) := by decide +kernel
theorem dX9_back_26 : decode cX9_back 26 = .ok (.aload_n 0, 1) := by decide +kernel
theorem dX9_back_27 : decode cX9_back 27 = .ok (.getfield 145, 3) := by decide +kernel
theorem dX9_back_30 : decode cX9_back 30 = .ok (.imul, 1) := by decide +kernel
theorem dX9_back_31 : decode cX9_back 31 = .ok (.aload_n 0, 1) := by decide +kernel
theorem dX9_back_32 : decode cX9_back 32 = .ok (.getfield 16, 3) := by decide +kernel
theorem dX9_back_35 : decode cX9_back 35 = .ok (.iconst 0, 1) := by decide +kernel
theorem dX9_back_36 : decode cX9_back 36 = .ok (.invokestatic 235, 3) := by decide +kernel
theorem dX9_back_39 : decode cX9_back 39 = .ok (.aload_n 0, 1) := by decide +kernel
theorem dX9_back_40 : decode cX9_back 40 = .ok (.iconst 0, 1) := by decide +kernel
theorem dX9_back_41 : decode cX9_back 41 = .ok (.putfield 142, 3) := by decide +kernel
theorem dX9_back_44 : decode cX9_back 44 = .ok (.aload_n 0, 1) := by decide +kernel
theorem dX9_back_45 : decode cX9_back 45 = .ok (.getfield 145, 3) := by decide +kernel
theorem dX9_back_48 : decode cX9_back 48 = .ok (.ireturn, 1) := by decide +kernel
theorem dX9_bear_0 : decode cX9_bear 0 = .ok (.aload_n 0, 1) := by decide +kernel
theorem dX9_bear_1 : decode cX9_bear 1 = .ok (.iload_n 1, 1) := by decide +kernel
theorem dX9_bear_2 : decode cX9_bear 2 = .ok (.invokevirtual 220, 3) := by decide +kernel
theorem dX9_bear_5 : decode cX9_bear 5 = .ok (.ifCond .eq 28, 3) := by decide +kernel
theorem dX9_bear_8 : decode cX9_bear 8 = .ok (.iload_n 2, 1) := by decide +kernel
theorem dX9_bear_9 : decode cX9_bear 9 = .ok (.i2l, 1) := by decide +kernel
theorem dX9_bear_10 : decode cX9_bear 10 = .ok (.lconst 0, 1) := by decide +kernel
theorem dX9_bear_11 : decode cX9_bear 11 = .ok (.ldc2_w 239, 3) := by decide +kernel
theorem dX9_bear_14 : decode cX9_bear 14 = .ok (.invokestatic 87, 3) := by decide +kernel
theorem dX9_bear_17 : decode cX9_bear 17 = .ok (.ifCond .eq 16, 3) := by decide +kernel
theorem dX9_bear_20 : decode cX9_bear 20 = .ok (.iload_n 3, 1) := by decide +kernel
theorem dX9_bear_21 : decode cX9_bear 21 = .ok (.i2l, 1) := by decide +kernel
theorem dX9_bear_22 : decode cX9_bear 22 = .ok (.iload_n 2, 1) := by decide +kernel
theorem dX9_bear_23 : decode cX9_bear 23 = .ok (.i2l, 1) := by decide +kernel
theorem dX9_bear_24 : decode cX9_bear 24 = .ok (.ldc2_w 239, 3) := by decide +kernel
theorem dX9_bear_27 : decode cX9_bear 27 = .ok (.invokestatic 87, 3) := by decide +kernel
theorem dX9_bear_30 : decode cX9_bear 30 = .ok (.ifCond .ne 5, 3) := by decide +kernel
theorem dX9_bear_33 : decode cX9_bear 33 = .ok (.iconst (-1), 1) := by decide +kernel
theorem dX9_bear_34 : decode cX9_bear 34 = .ok (.ireturn, 1) := by decide +kernel
theorem dX9_bear_35 : decode cX9_bear 35 = .ok (.aload_n 0, 1) := by decide +kernel
theorem dX9_bear_36 : decode cX9_bear 36 = .ok (.getfield 16, 3) := by decide +kernel
theorem dX9_bear_39 : decode cX9_bear 39 = .ok (.iconst 0, 1) := by decide +kernel
theorem dX9_bear_40 : decode cX9_bear 40 = .ok (.iaload, 1) := by decide +kernel
theorem dX9_bear_41 : decode cX9_bear 41 = .ok (.bipush 9, 2) := by decide +kernel
theorem dX9_bear_43 : decode cX9_bear 43 = .ok (.if_icmp .ne 6, 3) := by decide +kernel
theorem dX9_bear_46 : decode cX9_bear 46 = .ok (.bipush (-3), 2) := by decide +kernel
theorem dX9_bear_48 : decode cX9_bear 48 = .ok (.ireturn, 1) := by decide +kernel
theorem dX9_bear_49 : decode cX9_bear 49 = .ok (.aload_n 0, 1) := by decide +kernel
theorem dX9_bear_50 : decode cX9_bear 50 = .ok (.invokevirtual 241, 3) := by decide +kernel
theorem dX9_bear_53 : decode cX9_bear 53 = .ok (.aload_n 0, 1) := by decide +kernel
theorem dX9_bear_54 : decode cX9_bear 54 = .ok (.getfield 16, 3) := by decide +kernel
theorem dX9_bear_57 : decode cX9_bear 57 = .ok (.iload_n 1, 1) := by decide +kernel
theorem dX9_bear_58 : decode cX9_bear 58 = .ok (.iload_n 2, 1) := by decide +kernel
theorem dX9_bear_59 : decode cX9_bear 59 = .ok (.iload_n 3, 1) := by decide +kernel
theorem dX9_bear_60 : decode cX9_bear 60 = .ok (.invokestatic 244, 3) := by decide +kernel
theorem dX9_bear_63 : decode cX9_bear 63 = .ok (.aload_n 0, 1) := by decide +kernel
theorem dX9_bear_64 : decode cX9_bear 64 = .ok (.getfield 16, 3) := by decide +kernel
theorem dX9_bear_67 : decode cX9_bear 67 = .ok (.iconst 0, 1) := by decide +kernel
theorem dX9_bear_68 : decode cX9_bear 68 = .ok (.iaload, 1) := by decide +kernel
theorem dX9_bear_69 : decode cX9_bear 69 = .ok (.ireturn, 1) := by decide +kernel
theorem dX9_bearer_0 : decode cX9_bearer 0 = .ok (.aload_n 0, 1) := by decide +kernel
theorem dX9_bearer_1 : decode cX9_bearer 1 = .ok (.iload_n 1, 1) := by decide +kernel
theorem dX9_bearer_2 : decode cX9_bearer 2 = .ok (.invokevirtual 220, 3) := by decide +kernel
theorem dX9_bearer_5 : decode cX9_bearer 5 = .ok (.ifCond .eq 15, 3) := by decide +kernel
theorem dX9_bearer_8 : decode cX9_bearer 8 = .ok (.iload_n 2, 1) := by decide +kernel
theorem dX9_bearer_9 : decode cX9_bearer 9 = .ok (.i2l, 1) := by decide +kernel
theorem dX9_bearer_10 : decode cX9_bearer 10 = .ok (.lconst 0, 1) := by decide +kernel
theorem dX9_bearer_11 : decode cX9_bearer 11 = .ok (.ldc2_w 223, 3) := by decide +kernel
theorem dX9_bearer_14 : decode cX9_bearer 14 = .ok (.invokestatic 87, 3) := by decide +kernel
theorem dX9_bearer_17 : decode cX9_bearer 17 = .ok (.ifCond .ne 5, 3) := by decide +kernel
theorem dX9_bearer_20 : decode cX9_bearer 20 = .ok (.iconst (-1), 1) := by decide +kernel
theorem dX9_bearer_21 : decode cX9_bearer 21 = .ok (.ireturn, 1) := by decide +kernel
theorem dX9_bearer_22 : decode cX9_bearer 22 = .ok (.aload_n 0, 1) := by decide +kernel
theorem dX9_bearer_23 : decode cX9_bearer 23 = .ok (.invokevirtual 214, 3) := by decide +kernel
theorem dX9_bearer_26 : decode cX9_bearer 26 = .ok (.aload_n 0, 1) := by decide +kernel
theorem dX9_bearer_27 : decode cX9_bearer 27 = .ok (.invokevirtual 217, 3) := by decide +kernel
theorem dX9_bearer_30 : decode cX9_bearer 30 = .ok (.iload_n 2, 1) := by decide +kernel
theorem dX9_bearer_31 : decode cX9_bearer 31 = .ok (.tableswitch 88 0 4 #[33, 43, 53, 60, 67], 33) := by decide +kernel
theorem dX9_bearer_64 : decode cX9_bearer 64 = .ok (.aload_n 0, 1) := by decide +kernel
theorem dX9_bearer_65 : decode cX9_bearer 65 = .ok (.getfield 7, 3) := by decide +kernel
theorem dX9_bearer_68 : decode cX9_bearer 68 = .ok (.bipush 22, 2) := by decide +kernel
theorem dX9_bearer_70 : decode cX9_bearer 70 = .ok (.iload_n 1, 1) := by decide +kernel
theorem dX9_bearer_71 : decode cX9_bearer 71 = .ok (.iadd, 1) := by decide +kernel
theorem dX9_bearer_72 : decode cX9_bearer 72 = .ok (.iaload, 1) := by decide +kernel
theorem dX9_bearer_73 : decode cX9_bearer 73 = .ok (.ireturn, 1) := by decide +kernel
theorem dX9_bearer_74 : decode cX9_bearer 74 = .ok (.aload_n 0, 1) := by decide +kernel
theorem dX9_bearer_75 : decode cX9_bearer 75 = .ok (.getfield 7, 3) := by decide +kernel
theorem dX9_bearer_78 : decode cX9_bearer 78 = .ok (.bipush 28, 2) := by decide +kernel
theorem dX9_bearer_80 : decode cX9_bearer 80 = .ok (.iload_n 1, 1) := by decide +kernel
theorem dX9_bearer_81 : decode cX9_bearer 81 = .ok (.iadd, 1) := by decide +kernel
theorem dX9_bearer_82 : decode cX9_bearer 82 = .ok (.iaload, 1) := by decide +kernel
theorem dX9_bearer_83 : decode cX9_bearer 83 = .ok (.ireturn, 1) := by decide +kernel
theorem dX9_bearer_84 : decode cX9_bearer 84 = .ok (.aload_n 0, 1) := by decide +kernel
theorem dX9_bearer_85 : decode cX9_bearer 85 = .ok (.getfield 43, 3) := by decide +kernel
theorem dX9_bearer_88 : decode cX9_bearer 88 = .ok (.iload_n 1, 1) := by decide +kernel
theorem dX9_bearer_89 : decode cX9_bearer 89 = .ok (.iaload, 1) := by decide +kernel
theorem dX9_bearer_90 : decode cX9_bearer 90 = .ok (.ireturn, 1) := by decide +kernel
theorem dX9_bearer_91 : decode cX9_bearer 91 = .ok (.aload_n 0, 1) := by decide +kernel
theorem dX9_bearer_92 : decode cX9_bearer 92 = .ok (.getfield 46, 3) := by decide +kernel
theorem dX9_bearer_95 : decode cX9_bearer 95 = .ok (.iload_n 1, 1) := by decide +kernel
theorem dX9_bearer_96 : decode cX9_bearer 96 = .ok (.iaload, 1) := by decide +kernel
theorem dX9_bearer_97 : decode cX9_bearer 97 = .ok (.ireturn, 1) := by decide +kernel
theorem dX9_bearer_98 : decode cX9_bearer 98 = .ok (.aload_n 0, 1) := by decide +kernel
theorem dX9_bearer_99 : decode cX9_bearer 99 = .ok (.getfield 49, 3) := by decide +kernel
theorem dX9_bearer_102 : decode cX9_bearer 102 = .ok (.iload_n 1, 1) := by decide +kernel
theorem dX9_bearer_103 : decode cX9_bearer 103 = .ok (.iaload, 1) := by decide +kernel
theorem dX9_bearer_104 : decode cX9_bearer 104 = .ok (.ifCond .ge 8, 3) := by decide +kernel
theorem dX9_bearer_107 : decode cX9_bearer 107 = .ok (.bipush (-4), 2) := by decide +kernel
theorem dX9_bearer_109 : decode cX9_bearer 109 = .ok (.goto 9, 3) := by decide +kernel
theorem dX9_bearer_112 : decode cX9_bearer 112 = .ok (.aload_n 0, 1) := by decide +kernel
theorem dX9_bearer_113 : decode cX9_bearer 113 = .ok (.getfield 49, 3) := by decide +kernel
theorem dX9_bearer_116 : decode cX9_bearer 116 = .ok (.iload_n 1, 1) := by decide +kernel
theorem dX9_bearer_117 : decode cX9_bearer 117 = .ok (.iaload, 1) := by decide +kernel
theorem dX9_bearer_118 : decode cX9_bearer 118 = .ok (.ireturn, 1) := by decide +kernel
theorem dX9_bearer_119 : decode cX9_bearer 119 = .ok (.aload_n 0, 1) := by decide +kernel
theorem dX9_bearer_120 : decode cX9_bearer 120 = .ok (.getfield 52, 3) := by decide +kernel
theorem dX9_bearer_123 : decode cX9_bearer 123 = .ok (.iload_n 1, 1) := by decide +kernel
theorem dX9_bearer_124 : decode cX9_bearer 124 = .ok (.iaload, 1) := by decide +kernel
theorem dX9_bearer_125 : decode cX9_bearer 125 = .ok (.ireturn, 1) := by decide +kernel
theorem dX9_bears_0 : decode cX9_bears 0 = .ok (.iconst 0, 1) := by decide +kernel
theorem dX9_bears_1 : decode cX9_bears 1 = .ok (.istore 4, 2) := by decide +kernel
theorem dX9_bears_3 : decode cX9_bears 3 = .ok (.iconst 0, 1) := by decide +kernel
theorem dX9_bears_4 : decode cX9_bears 4 = .ok (.istore 5, 2) := by decide +kernel
theorem dX9_bears_6 : decode cX9_bears 6 = .ok (.iload 5, 2) := by decide +kernel
theorem dX9_bears_8 : decode cX9_bears 8 = .ok (.aload_n 0, 1) := by decide +kernel
theorem dX9_bears_9 : decode cX9_bears 9 = .ok (.getfield 37, 3) := by decide +kernel
theorem dX9_bears_12 : decode cX9_bears 12 = .ok (.iconst 1, 1) := by decide +kernel
theorem dX9_bears_13 : decode cX9_bears 13 = .ok (.iaload, 1) := by decide +kernel
theorem dX9_bears_14 : decode cX9_bears 14 = .ok (.if_icmp .ge 87, 3) := by decide +kernel
theorem dX9_bears_17 : decode cX9_bears 17 = .ok (.iload_n 2, 1) := by decide +kernel
theorem dX9_bears_18 : decode cX9_bears 18 = .ok (.iload 5, 2) := by decide +kernel
theorem dX9_bears_20 : decode cX9_bears 20 = .ok (.invokestatic 166, 3) := by decide +kernel
theorem dX9_bears_23 : decode cX9_bears 23 = .ok (.ifCond .eq 72, 3) := by decide +kernel
theorem dX9_bears_26 : decode cX9_bears 26 = .ok (.aload_n 0, 1) := by decide +kernel
theorem dX9_bears_27 : decode cX9_bears 27 = .ok (.getfield 43, 3) := by decide +kernel
theorem dX9_bears_30 : decode cX9_bears 30 = .ok (.iload 5, 2) := by decide +kernel
theorem dX9_bears_32 : decode cX9_bears 32 = .ok (.iaload, 1) := by decide +kernel
theorem dX9_bears_33 : decode cX9_bears 33 = .ok (.aload_n 0, 1) := by decide +kernel
theorem dX9_bears_34 : decode cX9_bears 34 = .ok (.getfield 37, 3) := by decide +kernel
theorem dX9_bears_37 : decode cX9_bears 37 = .ok (.iload 5, 2) := by decide +kernel
theorem dX9_bears_39 : decode cX9_bears 39 = .ok (.iload_n 2, 1) := by decide +kernel
theorem dX9_bears_40 : decode cX9_bears 40 = .ok (.iload_n 3, 1) := by decide +kernel
theorem dX9_bears_41 : decode cX9_bears 41 = .ok (.invokestatic 178, 3) := by decide +kernel
theorem dX9_bears_44 : decode cX9_bears 44 = .ok (.if_icmp .lt 7, 3) := by decide +kernel
theorem dX9_bears_47 : decode cX9_bears 47 = .ok (.iconst 1, 1) := by decide +kernel
theorem dX9_bears_48 : decode cX9_bears 48 = .ok (.goto 4, 3) := by decide +kernel
theorem dX9_bears_51 : decode cX9_bears 51 = .ok (.iconst 0, 1) := by decide +kernel
theorem dX9_bears_52 : decode cX9_bears 52 = .ok (.istore 6, 2) := by decide +kernel
theorem dX9_bears_54 : decode cX9_bears 54 = .ok (.iload 4, 2) := by decide +kernel
theorem dX9_bears_56 : decode cX9_bears 56 = .ok (.iload 6, 2) := by decide +kernel
theorem dX9_bears_58 : decode cX9_bears 58 = .ok (.ifCond .eq 10, 3) := by decide +kernel
theorem dX9_bears_61 : decode cX9_bears 61 = .ok (.iconst 1, 1) := by decide +kernel
theorem dX9_bears_62 : decode cX9_bears 62 = .ok (.iload 5, 2) := by decide +kernel
theorem dX9_bears_64 : decode cX9_bears 64 = .ok (.ishl, 1) := by decide +kernel
theorem dX9_bears_65 : decode cX9_bears 65 = .ok (.goto 4, 3) := by decide +kernel
theorem dX9_bears_68 : decode cX9_bears 68 = .ok (.iconst 0, 1) := by decide +kernel
theorem dX9_bears_69 : decode cX9_bears 69 = .ok (.ior, 1) := by decide +kernel
theorem dX9_bears_70 : decode cX9_bears 70 = .ok (.istore 4, 2) := by decide +kernel
theorem dX9_bears_72 : decode cX9_bears 72 = .ok (.aload_n 0, 1) := by decide +kernel
theorem dX9_bears_73 : decode cX9_bears 73 = .ok (.getfield 49, 3) := by decide +kernel
theorem dX9_bears_76 : decode cX9_bears 76 = .ok (.iload 5, 2) := by decide +kernel
theorem dX9_bears_78 : decode cX9_bears 78 = .ok (.iload 6, 2) := by decide +kernel
theorem dX9_bears_80 : decode cX9_bears 80 = .ok (.ifCond .eq 13, 3) := by decide +kernel
theorem dX9_bears_83 : decode cX9_bears 83 = .ok (.aload_n 0, 1) := by decide +kernel
theorem dX9_bears_84 : decode cX9_bears 84 = .ok (.getfield 49, 3) := by decide +kernel
theorem dX9_bears_87 : decode cX9_bears 87 = .ok (.iload 5, 2) := by decide +kernel
theorem dX9_bears_89 : decode cX9_bears 89 = .ok (.iaload, 1) := by decide +kernel
theorem dX9_bears_90 : decode cX9_bears 90 = .ok (.goto 4, 3) := by decide +kernel
theorem dX9_bears_93 : decode cX9_bears 93 = .ok (.iload_n 1, 1) := by decide +kernel
theorem dX9_bears_94 : decode cX9_bears 94 = .ok (.iastore, 1) := by decide +kernel
theorem dX9_bears_95 : decode cX9_bears 95 = .ok (.iinc 5 1, 3) := by decide +kernel
theorem dX9_bears_98 : decode cX9_bears 98 = .ok (.goto (-92), 3) := by decide +kernel
theorem dX9_bears_101 : decode cX9_bears 101 = .ok (.iload 4, 2) := by decide +kernel
theorem dX9_bears_103 : decode cX9_bears 103 = .ok (.ireturn, 1) := by decide +kernel
theorem dX9_begins_0 : decode cX9_begins 0 = .ok (.iconst 0, 1) := by decide +kernel
theorem dX9_begins_1 : decode cX9_begins 1 = .ok (.istore_n 1, 1) := by decide +kernel
theorem dX9_begins_2 : decode cX9_begins 2 = .ok (.iload_n 1, 1) := by decide +kernel
theorem dX9_begins_3 : decode cX9_begins 3 = .ok (.bipush 34, 2) := by decide +kernel
theorem dX9_begins_5 : decode cX9_begins 5 = .ok (.if_icmp .ge 21, 3) := by decide +kernel
theorem dX9_begins_8 : decode cX9_begins 8 = .ok (.aload_n 0, 1) := by decide +kernel
theorem dX9_begins_9 : decode cX9_begins 9 = .ok (.getfield 7, 3) := by decide +kernel
theorem dX9_begins_12 : decode cX9_begins 12 = .ok (.iload_n 1, 1) := by decide +kernel
theorem dX9_begins_13 : decode cX9_begins 13 = .ok (.aload_n 0, 1) := by decide +kernel
theorem dX9_begins_14 : decode cX9_begins 14 = .ok (.getfield 13, 3) := by decide +kernel
theorem dX9_begins_17 : decode cX9_begins 17 = .ok (.iload_n 1, 1) := by decide +kernel
theorem dX9_begins_18 : decode cX9_begins 18 = .ok (.iaload, 1) := by decide +kernel
theorem dX9_begins_19 : decode cX9_begins 19 = .ok (.iastore, 1) := by decide +kernel
theorem dX9_begins_20 : decode cX9_begins 20 = .ok (.iinc 1 1, 3) := by decide +kernel
theorem dX9_begins_23 : decode cX9_begins 23 = .ok (.goto (-21), 3) := by decide +kernel
theorem dX9_begins_26 : decode cX9_begins 26 = .ok (.iconst 0, 1) := by decide +kernel
theorem dX9_begins_27 : decode cX9_begins 27 = .ok (.istore_n 1, 1) := by decide +kernel
theorem dX9_begins_28 : decode cX9_begins 28 = .ok (.iload_n 1, 1) := by decide +kernel
theorem dX9_begins_29 : decode cX9_begins 29 = .ok (.bipush 31, 2) := by decide +kernel
theorem dX9_begins_31 : decode cX9_begins 31 = .ok (.if_icmp .ge 21, 3) := by decide +kernel
theorem dX9_begins_34 : decode cX9_begins 34 = .ok (.aload_n 0, 1) := by decide +kernel
theorem dX9_begins_35 : decode cX9_begins 35 = .ok (.getfield 16, 3) := by decide +kernel
theorem dX9_begins_38 : decode cX9_begins 38 = .ok (.iload_n 1, 1) := by decide +kernel
theorem dX9_begins_39 : decode cX9_begins 39 = .ok (.aload_n 0, 1) := by decide +kernel
theorem dX9_begins_40 : decode cX9_begins 40 = .ok (.getfield 19, 3) := by decide +kernel
theorem dX9_begins_43 : decode cX9_begins 43 = .ok (.iload_n 1, 1) := by decide +kernel
theorem dX9_begins_44 : decode cX9_begins 44 = .ok (.iaload, 1) := by decide +kernel
theorem dX9_begins_45 : decode cX9_begins 45 = .ok (.iastore, 1) := by decide +kernel
theorem dX9_begins_46 : decode cX9_begins 46 = .ok (.iinc 1 1, 3) := by decide +kernel
theorem dX9_begins_49 : decode cX9_begins 49 = .ok (.goto (-21), 3) := by decide +kernel
theorem dX9_begins_52 : decode cX9_begins 52 = .ok (.aload_n 0, 1) := by decide +kernel
theorem dX9_begins_53 : decode cX9_begins 53 = .ok (.iconst 0, 1) := by decide +kernel
theorem dX9_begins_54 : decode cX9_begins 54 = .ok (.putfield 139, 3) := by decide +kernel
theorem dX9_begins_57 : decode cX9_begins 57 = .ok (.aload_n 0, 1) := by decide +kernel
theorem dX9_begins_58 : decode cX9_begins 58 = .ok (.iconst 0, 1) := by decide +kernel
theorem dX9_begins_59 : decode cX9_begins 59 = .ok (.putfield 142, 3) := by decide +kernel
theorem dX9_begins_62 : decode cX9_begins 62 = .ok (.aload_n 0, 1) := by decide +kernel
theorem dX9_begins_63 : decode cX9_begins 63 = .ok (.iconst 0, 1) := by decide +kernel
theorem dX9_begins_64 : decode cX9_begins 64 = .ok (.putfield 145, 3) := by decide +kernel
theorem dX9_begins_67 : decode cX9_begins 67 = .ok (.return_, 1) := by decide +kernel
theorem dX9_best_0 : decode cX9_best 0 = .ok (.aload_n 0, 1) := by decide +kernel
theorem dX9_best_1 : decode cX9_best 1 = .ok (.iload_n 1, 1) := by decide +kernel
theorem dX9_best_2 : decode cX9_best 2 = .ok (.invokevirtual 220, 3) := by decide +kernel
theorem dX9_best_5 : decode cX9_best 5 = .ok (.ifCond .eq 10, 3) := by decide +kernel
theorem dX9_best_8 : decode cX9_best 8 = .ok (.iload_n 2, 1) := by decide +kernel
theorem dX9_best_9 : decode cX9_best 9 = .ok (.invokestatic 225, 3) := by decide +kernel
theorem dX9_best_12 : decode cX9_best 12 = .ok (.ifCond .ne 5, 3) := by decide +kernel
theorem dX9_best_15 : decode cX9_best 15 = .ok (.iconst (-1), 1) := by decide +kernel
theorem dX9_best_16 : decode cX9_best 16 = .ok (.ireturn, 1) := by decide +kernel
theorem dX9_best_17 : decode cX9_best 17 = .ok (.aload_n 0, 1) := by decide +kernel
theorem dX9_best_18 : decode cX9_best 18 = .ok (.invokevirtual 214, 3) := by decide +kernel
theorem dX9_best_21 : decode cX9_best 21 = .ok (.aload_n 0, 1) := by decide +kernel
theorem dX9_best_22 : decode cX9_best 22 = .ok (.invokevirtual 217, 3) := by decide +kernel
theorem dX9_best_25 : decode cX9_best 25 = .ok (.aload_n 0, 1) := by decide +kernel
theorem dX9_best_26 : decode cX9_best 26 = .ok (.getfield 46, 3) := by decide +kernel
theorem dX9_best_29 : decode cX9_best 29 = .ok (.iload_n 1, 1) := by decide +kernel
theorem dX9_best_30 : decode cX9_best 30 = .ok (.iaload, 1) := by decide +kernel
theorem dX9_best_31 : decode cX9_best 31 = .ok (.istore_n 3, 1) := by decide +kernel
theorem dX9_best_32 : decode cX9_best 32 = .ok (.bipush (-4), 2) := by decide +kernel
theorem dX9_best_34 : decode cX9_best 34 = .ok (.istore 4, 2) := by decide +kernel
theorem dX9_best_36 : decode cX9_best 36 = .ok (.aload_n 0, 1) := by decide +kernel
theorem dX9_best_37 : decode cX9_best 37 = .ok (.getfield 7, 3) := by decide +kernel
theorem dX9_best_40 : decode cX9_best 40 = .ok (.invokestatic 116, 3) := by decide +kernel
theorem dX9_best_43 : decode cX9_best 43 = .ok (.istore 5, 2) := by decide +kernel
theorem dX9_best_45 : decode cX9_best 45 = .ok (.iconst 0, 1) := by decide +kernel
theorem dX9_best_46 : decode cX9_best 46 = .ok (.istore 6, 2) := by decide +kernel
theorem dX9_best_48 : decode cX9_best 48 = .ok (.iload 6, 2) := by decide +kernel
theorem dX9_best_50 : decode cX9_best 50 = .ok (.iload 5, 2) := by decide +kernel
theorem dX9_best_52 : decode cX9_best 52 = .ok (.if_icmp .ge 93, 3) := by decide +kernel
theorem dX9_best_55 : decode cX9_best 55 = .ok (.iload 6, 2) := by decide +kernel
theorem dX9_best_57 : decode cX9_best 57 = .ok (.istore 7, 2) := by decide +kernel
theorem dX9_best_59 : decode cX9_best 59 = .ok (.iload 7, 2) := by decide +kernel
theorem dX9_best_61 : decode cX9_best 61 = .ok (.iload 5, 2) := by decide +kernel
theorem dX9_best_63 : decode cX9_best 63 = .ok (.if_icmp .ge 76, 3) := by decide +kernel
theorem dX9_best_66 : decode cX9_best 66 = .ok (.aload_n 0, 1) := by decide +kernel
theorem dX9_best_67 : decode cX9_best 67 = .ok (.invokevirtual 214, 3) := by decide +kernel
theorem dX9_best_70 : decode cX9_best 70 = .ok (.aload_n 0, 1) := by decide +kernel
theorem dX9_best_71 : decode cX9_best 71 = .ok (.getfield 40, 3) := by decide +kernel
theorem dX9_best_74 : decode cX9_best 74 = .ok (.iload_n 1, 1) := by decide +kernel
theorem dX9_best_75 : decode cX9_best 75 = .ok (.iload 6, 2) := by decide +kernel
theorem dX9_best_77 : decode cX9_best 77 = .ok (.iload 7, 2) := by decide +kernel
theorem dX9_best_79 : decode cX9_best 79 = .ok (.invokestatic 244, 3) := by decide +kernel
theorem dX9_best_82 : decode cX9_best 82 = .ok (.aload_n 0, 1) := by decide +kernel
theorem dX9_best_83 : decode cX9_best 83 = .ok (.invokevirtual 217, 3) := by decide +kernel
theorem dX9_best_86 : decode cX9_best 86 = .ok (.aload_n 0, 1) := by decide +kernel
theorem dX9_best_87 : decode cX9_best 87 = .ok (.getfield 46, 3) := by decide +kernel
theorem dX9_best_90 : decode cX9_best 90 = .ok (.iload_n 1, 1) := by decide +kernel
theorem dX9_best_91 : decode cX9_best 91 = .ok (.iaload, 1) := by decide +kernel
theorem dX9_best_92 : decode cX9_best 92 = .ok (.iload_n 3, 1) := by decide +kernel
theorem dX9_best_93 : decode cX9_best 93 = .ok (.if_icmp .le 15, 3) := by decide +kernel
theorem dX9_best_96 : decode cX9_best 96 = .ok (.sipush 200, 3) := by decide +kernel
theorem dX9_best_99 : decode cX9_best 99 = .ok (.iload 6, 2) := by decide +kernel
theorem dX9_best_101 : decode cX9_best 101 = .ok (.imul, 1) := by decide +kernel
theorem dX9_best_102 : decode cX9_best 102 = .ok (.iload 7, 2) := by decide +kernel
theorem dX9_best_104 : decode cX9_best 104 = .ok (.iadd, 1) := by decide +kernel
theorem dX9_best_105 : decode cX9_best 105 = .ok (.goto 5, 3) := by decide +kernel
theorem dX9_best_108 : decode cX9_best 108 = .ok (.iload 4, 2) := by decide +kernel
theorem dX9_best_110 : decode cX9_best 110 = .ok (.istore 4, 2) := by decide +kernel
theorem dX9_best_112 : decode cX9_best 112 = .ok (.aload_n 0, 1) := by decide +kernel
theorem dX9_best_113 : decode cX9_best 113 = .ok (.getfield 46, 3) := by decide +kernel
theorem dX9_best_116 : decode cX9_best 116 = .ok (.iload_n 1, 1) := by decide +kernel
theorem dX9_best_117 : decode cX9_best 117 = .ok (.iaload, 1) := by decide +kernel
theorem dX9_best_118 : decode cX9_best 118 = .ok (.iload_n 3, 1) := by decide +kernel
theorem dX9_best_119 : decode cX9_best 119 = .ok (.if_icmp .le 12, 3) := by decide +kernel
theorem dX9_best_122 : decode cX9_best 122 = .ok (.aload_n 0, 1) := by decide +kernel
theorem dX9_best_123 : decode cX9_best 123 = .ok (.getfield 46, 3) := by decide +kernel
theorem dX9_best_126 : decode cX9_best 126 = .ok (.iload_n 1, 1) := by decide +kernel
theorem dX9_best_127 : decode cX9_best 127 = .ok (.iaload, 1) := by decide +kernel
theorem dX9_best_128 : decode cX9_best 128 = .ok (.goto 4, 3) := by decide +kernel
theorem dX9_best_131 : decode cX9_best 131 = .ok (.iload_n 3, 1) := by decide +kernel
theorem dX9_best_132 : decode cX9_best 132 = .ok (.istore_n 3, 1) := by decide +kernel
theorem dX9_best_133 : decode cX9_best 133 = .ok (.iinc 7 1, 3) := by decide +kernel
theorem dX9_best_136 : decode cX9_best 136 = .ok (.goto (-77), 3) := by decide +kernel
theorem dX9_best_139 : decode cX9_best 139 = .ok (.iinc 6 1, 3) := by decide +kernel
theorem dX9_best_142 : decode cX9_best 142 = .ok (.goto (-94), 3) := by decide +kernel
theorem dX9_best_145 : decode cX9_best 145 = .ok (.iload 4, 2) := by decide +kernel
theorem dX9_best_147 : decode cX9_best 147 = .ok (.bipush (-4), 2) := by decide +kernel
theorem dX9_best_149 : decode cX9_best 149 = .ok (.if_icmp .eq 7, 3) := by decide +kernel
theorem dX9_best_152 : decode cX9_best 152 = .ok (.iload_n 2, 1) := by decide +kernel
theorem dX9_best_153 : decode cX9_best 153 = .ok (.ifCond .ne 8, 3) := by decide +kernel
theorem dX9_best_156 : decode cX9_best 156 = .ok (.iload 4, 2) := by decide +kernel
theorem dX9_best_158 : decode cX9_best 158 = .ok (.goto 4, 3) := by decide +kernel
theorem dX9_best_161 : decode cX9_best 161 = .ok (.iload_n 3, 1) := by decide +kernel
theorem dX9_best_162 : decode cX9_best 162 = .ok (.ireturn, 1) := by decide +kernel
theorem dX9_bits_0 : decode cX9_bits 0 = .ok (.iconst 0, 1) := by decide +kernel
theorem dX9_bits_1 : decode cX9_bits 1 = .ok (.istore_n 1, 1) := by decide +kernel
theorem dX9_bits_2 : decode cX9_bits 2 = .ok (.iload_n 0, 1) := by decide +kernel
theorem dX9_bits_3 : decode cX9_bits 3 = .ok (.istore_n 2, 1) := by decide +kernel
theorem dX9_bits_4 : decode cX9_bits 4 = .ok (.iload_n 2, 1) := by decide +kernel
theorem dX9_bits_5 : decode cX9_bits 5 = .ok (.ifCond .eq 15, 3) := by decide +kernel
theorem dX9_bits_8 : decode cX9_bits 8 = .ok (.iinc 1 1, 3) := by decide +kernel
theorem dX9_bits_11 : decode cX9_bits 11 = .ok (.iload_n 2, 1) := by decide +kernel
theorem dX9_bits_12 : decode cX9_bits 12 = .ok (.iload_n 2, 1) := by decide +kernel
theorem dX9_bits_13 : decode cX9_bits 13 = .ok (.iconst 1, 1) := by decide +kernel
theorem dX9_bits_14 : decode cX9_bits 14 = .ok (.isub, 1) := by decide +kernel
theorem dX9_bits_15 : decode cX9_bits 15 = .ok (.iand, 1) := by decide +kernel
theorem dX9_bits_16 : decode cX9_bits 16 = .ok (.istore_n 2, 1) := by decide +kernel
theorem dX9_bits_17 : decode cX9_bits 17 = .ok (.goto (-13), 3) := by decide +kernel
theorem dX9_bits_20 : decode cX9_bits 20 = .ok (.iload_n 1, 1) := by decide +kernel
theorem dX9_bits_21 : decode cX9_bits 21 = .ok (.ireturn, 1) := by decide +kernel
theorem dX9_cairn_0 : decode cX9_cairn 0 = .ok (.aload_n 0, 1) := by decide +kernel
theorem dX9_cairn_1 : decode cX9_cairn 1 = .ok (.iload_n 1, 1) := by decide +kernel
theorem dX9_cairn_2 : decode cX9_cairn 2 = .ok (.invokevirtual 220, 3) := by decide +kernel
theorem dX9_cairn_5 : decode cX9_cairn 5 = .ok (.ifCond .eq 39, 3) := by decide +kernel
theorem dX9_cairn_8 : decode cX9_cairn 8 = .ok (.iload_n 2, 1) := by decide +kernel
theorem dX9_cairn_9 : decode cX9_cairn 9 = .ok (.i2l, 1) := by decide +kernel
theorem dX9_cairn_10 : decode cX9_cairn 10 = .ok (.lconst 0, 1) := by decide +kernel
theorem dX9_cairn_11 : decode cX9_cairn 11 = .ok (.aload_n 0, 1) := by decide +kernel
theorem dX9_cairn_12 : decode cX9_cairn 12 = .ok (.getfield 7, 3) := by decide +kernel
theorem dX9_cairn_15 : decode cX9_cairn 15 = .ok (.iconst 0, 1) := by decide +kernel
theorem dX9_cairn_16 : decode cX9_cairn 16 = .ok (.iaload, 1) := by decide +kernel
theorem dX9_cairn_17 : decode cX9_cairn 17 = .ok (.iconst 1, 1) := by decide +kernel
theorem dX9_cairn_18 : decode cX9_cairn 18 = .ok (.isub, 1) := by decide +kernel
theorem dX9_cairn_19 : decode cX9_cairn 19 = .ok (.i2l, 1) := by decide +kernel
theorem dX9_cairn_20 : decode cX9_cairn 20 = .ok (.invokestatic 87, 3) := by decide +kernel
theorem dX9_cairn_23 : decode cX9_cairn 23 = .ok (.ifCond .eq 21, 3) := by decide +kernel
theorem dX9_cairn_26 : decode cX9_cairn 26 = .ok (.iload_n 3, 1) := by decide +kernel
theorem dX9_cairn_27 : decode cX9_cairn 27 = .ok (.i2l, 1) := by decide +kernel
theorem dX9_cairn_28 : decode cX9_cairn 28 = .ok (.ldc2_w 262, 3) := by decide +kernel
theorem dX9_cairn_31 : decode cX9_cairn 31 = .ok (.ldc2_w 264, 3) := by decide +kernel
theorem dX9_cairn_34 : decode cX9_cairn 34 = .ok (.invokestatic 87, 3) := by decide +kernel
theorem dX9_cairn_37 : decode cX9_cairn 37 = .ok (.ifCond .eq 7, 3) := by decide +kernel
theorem dX9_cairn_40 : decode cX9_cairn 40 = .ok (.iload_n 3, 1) := by decide +kernel
theorem dX9_cairn_41 : decode cX9_cairn 41 = .ok (.ifCond .ne 5, 3) := by decide +kernel
theorem dX9_cairn_44 : decode cX9_cairn 44 = .ok (.iconst (-1), 1) := by decide +kernel
theorem dX9_cairn_45 : decode cX9_cairn 45 = .ok (.ireturn, 1) := by decide +kernel
theorem dX9_cairn_46 : decode cX9_cairn 46 = .ok (.iload_n 2, 1) := by decide +kernel
theorem dX9_cairn_47 : decode cX9_cairn 47 = .ok (.aload_n 0, 1) := by decide +kernel
theorem dX9_cairn_48 : decode cX9_cairn 48 = .ok (.getfield 7, 3) := by decide +kernel
theorem dX9_cairn_51 : decode cX9_cairn 51 = .ok (.iconst 0, 1) := by decide +kernel
theorem dX9_cairn_52 : decode cX9_cairn 52 = .ok (.iaload, 1) := by decide +kernel
theorem dX9_cairn_53 : decode cX9_cairn 53 = .ok (.iconst 1, 1) := by decide +kernel
theorem dX9_cairn_54 : decode cX9_cairn 54 = .ok (.isub, 1) := by decide +kernel
theorem dX9_cairn_55 : decode cX9_cairn 55 = .ok (.if_icmp .eq 33, 3) := by decide +kernel
theorem dX9_cairn_58 : decode cX9_cairn 58 = .ok (.aload_n 0, 1) := by decide +kernel
theorem dX9_cairn_59 : decode cX9_cairn 59 = .ok (.getfield 7, 3) := by decide +kernel
theorem dX9_cairn_62 : decode cX9_cairn 62 = .ok (.iconst 4, 1) := by decide +kernel
theorem dX9_cairn_63 : decode cX9_cairn 63 = .ok (.iload_n 2, 1) := by decide +kernel
theorem dX9_cairn_64 : decode cX9_cairn 64 = .ok (.iadd, 1) := by decide +kernel
theorem dX9_cairn_65 : decode cX9_cairn 65 = .ok (.iaload, 1) := by decide +kernel
theorem dX9_cairn_66 : decode cX9_cairn 66 = .ok (.iload_n 3, 1) := by decide +kernel
theorem dX9_cairn_67 : decode cX9_cairn 67 = .ok (.iadd, 1) := by decide +kernel
theorem dX9_cairn_68 : decode cX9_cairn 68 = .ok (.iconst 1, 1) := by decide +kernel
theorem dX9_cairn_69 : decode cX9_cairn 69 = .ok (.if_icmp .lt 19, 3) := by decide +kernel
theorem dX9_cairn_72 : decode cX9_cairn 72 = .ok (.aload_n 0, 1) := by decide +kernel
theorem dX9_cairn_73 : decode cX9_cairn 73 = .ok (.getfield 7, 3) := by decide +kernel
theorem dX9_cairn_76 : decode cX9_cairn 76 = .ok (.iconst 4, 1) := by decide +kernel
theorem dX9_cairn_77 : decode cX9_cairn 77 = .ok (.iload_n 2, 1) := by decide +kernel
theorem dX9_cairn_78 : decode cX9_cairn 78 = .ok (.iadd, 1) := by decide +kernel
theorem dX9_cairn_79 : decode cX9_cairn 79 = .ok (.iconst 1, 1) := by decide +kernel
theorem dX9_cairn_80 : decode cX9_cairn 80 = .ok (.iadd, 1) := by decide +kernel
theorem dX9_cairn_81 : decode cX9_cairn 81 = .ok (.iaload, 1) := by decide +kernel
theorem dX9_cairn_82 : decode cX9_cairn 82 = .ok (.iload_n 3, 1) := by decide +kernel
theorem dX9_cairn_83 : decode cX9_cairn 83 = .ok (.isub, 1) := by decide +kernel
theorem dX9_cairn_84 : decode cX9_cairn 84 = .ok (.iconst 1, 1) := by decide +kernel
theorem dX9_cairn_85 : decode cX9_cairn 85 = .ok (.if_icmp .ge 6, 3) := by decide +kernel
theorem dX9_cairn_88 : decode cX9_cairn 88 = .ok (.bipush (-2), 2) := by decide +kernel
theorem dX9_cairn_90 : decode cX9_cairn 90 = .ok (.ireturn, 1) := by decide +kernel
theorem dX9_cairn_91 : decode cX9_cairn 91 = .ok (.aload_n 0, 1) := by decide +kernel
theorem dX9_cairn_92 : decode cX9_cairn 92 = .ok (.invokevirtual 214, 3) := by decide +kernel
theorem dX9_cairn_95 : decode cX9_cairn 95 = .ok (.aload_n 0, 1) := by decide +kernel
theorem dX9_cairn_96 : decode cX9_cairn 96 = .ok (.invokevirtual 217, 3) := by decide +kernel
theorem dX9_cairn_99 : decode cX9_cairn 99 = .ok (.aload_n 0, 1) := by decide +kernel
theorem dX9_cairn_100 : decode cX9_cairn 100 = .ok (.getfield 46, 3) := by decide +kernel
theorem dX9_cairn_103 : decode cX9_cairn 103 = .ok (.iload_n 1, 1) := by decide +kernel
theorem dX9_cairn_104 : decode cX9_cairn 104 = .ok (.iaload, 1) := by decide +kernel
theorem dX9_cairn_105 : decode cX9_cairn 105 = .ok (.istore 4, 2) := by decide +kernel
theorem dX9_cairn_107 : decode cX9_cairn 107 = .ok (.aload_n 0, 1) := by decide +kernel
theorem dX9_cairn_108 : decode cX9_cairn 108 = .ok (.invokevirtual 214, 3) := by decide +kernel
theorem dX9_cairn_111 : decode cX9_cairn 111 = .ok (.aload_n 0, 1) := by decide +kernel
theorem dX9_cairn_112 : decode cX9_cairn 112 = .ok (.getfield 37, 3) := by decide +kernel
theorem dX9_cairn_115 : decode cX9_cairn 115 = .ok (.iconst 4, 1) := by decide +kernel
theorem dX9_cairn_116 : decode cX9_cairn 116 = .ok (.iload_n 2, 1) := by decide +kernel
theorem dX9_cairn_117 : decode cX9_cairn 117 = .ok (.iadd, 1) := by decide +kernel
theorem dX9_cairn_118 : decode cX9_cairn 118 = .ok (.dup2, 1) := by decide +kernel
theorem dX9_cairn_119 : decode cX9_cairn 119 = .ok (.iaload, 1) := by decide +kernel
theorem dX9_cairn_120 : decode cX9_cairn 120 = .ok (.iload_n 3, 1) := by decide +kernel
theorem dX9_cairn_121 : decode cX9_cairn 121 = .ok (.iadd, 1) := by decide +kernel
theorem dX9_cairn_122 : decode cX9_cairn 122 = .ok (.iastore, 1) := by decide +kernel
theorem dX9_cairn_123 : decode cX9_cairn 123 = .ok (.aload_n 0, 1) := by decide +kernel
theorem dX9_cairn_124 : decode cX9_cairn 124 = .ok (.getfield 37, 3) := by decide +kernel
theorem dX9_cairn_127 : decode cX9_cairn 127 = .ok (.iconst 4, 1) := by decide +kernel
theorem dX9_cairn_128 : decode cX9_cairn 128 = .ok (.iload_n 2, 1) := by decide +kernel
theorem dX9_cairn_129 : decode cX9_cairn 129 = .ok (.iadd, 1) := by decide +kernel
theorem dX9_cairn_130 : decode cX9_cairn 130 = .ok (.iconst 1, 1) := by decide +kernel
theorem dX9_cairn_131 : decode cX9_cairn 131 = .ok (.iadd, 1) := by decide +kernel
theorem dX9_cairn_132 : decode cX9_cairn 132 = .ok (.dup2, 1) := by decide +kernel
theorem dX9_cairn_133 : decode cX9_cairn 133 = .ok (.iaload, 1) := by decide +kernel
theorem dX9_cairn_134 : decode cX9_cairn 134 = .ok (.iload_n 3, 1) := by decide +kernel
theorem dX9_cairn_135 : decode cX9_cairn 135 = .ok (.isub, 1) := by decide +kernel
theorem dX9_cairn_136 : decode cX9_cairn 136 = .ok (.iastore, 1) := by decide +kernel
theorem dX9_cairn_137 : decode cX9_cairn 137 = .ok (.aload_n 0, 1) := by decide +kernel
theorem dX9_cairn_138 : decode cX9_cairn 138 = .ok (.invokevirtual 217, 3) := by decide +kernel
theorem dX9_cairn_141 : decode cX9_cairn 141 = .ok (.aload_n 0, 1) := by decide +kernel
theorem dX9_cairn_142 : decode cX9_cairn 142 = .ok (.getfield 46, 3) := by decide +kernel
theorem dX9_cairn_145 : decode cX9_cairn 145 = .ok (.iload_n 1, 1) := by decide +kernel
theorem dX9_cairn_146 : decode cX9_cairn 146 = .ok (.iaload, 1) := by decide +kernel
theorem dX9_cairn_147 : decode cX9_cairn 147 = .ok (.iload 4, 2) := by decide +kernel
theorem dX9_cairn_149 : decode cX9_cairn 149 = .ok (.isub, 1) := by decide +kernel
theorem dX9_cairn_150 : decode cX9_cairn 150 = .ok (.sipush 9999, 3) := by decide +kernel
theorem dX9_cairn_153 : decode cX9_cairn 153 = .ok (.iadd, 1) := by decide +kernel
theorem dX9_cairn_154 : decode cX9_cairn 154 = .ok (.ireturn, 1) := by decide +kernel
theorem dX9_clean_0 : decode cX9_clean 0 = .ok (.iconst 0, 1) := by decide +kernel
theorem dX9_clean_1 : decode cX9_clean 1 = .ok (.istore_n 1, 1) := by decide +kernel
theorem dX9_clean_2 : decode cX9_clean 2 = .ok (.iload_n 1, 1) := by decide +kernel
theorem dX9_clean_3 : decode cX9_clean 3 = .ok (.bipush 34, 2) := by decide +kernel
theorem dX9_clean_5 : decode cX9_clean 5 = .ok (.if_icmp .ge 16, 3) := by decide +kernel
theorem dX9_clean_8 : decode cX9_clean 8 = .ok (.aload_n 0, 1) := by decide +kernel
theorem dX9_clean_9 : decode cX9_clean 9 = .ok (.getfield 13, 3) := by decide +kernel
theorem dX9_clean_12 : decode cX9_clean 12 = .ok (.iload_n 1, 1) := by decide +kernel
theorem dX9_clean_13 : decode cX9_clean 13 = .ok (.iconst 0, 1) := by decide +kernel
theorem dX9_clean_14 : decode cX9_clean 14 = .ok (.iastore, 1) := by decide +kernel
theorem dX9_clean_15 : decode cX9_clean 15 = .ok (.iinc 1 1, 3) := by decide +kernel
theorem dX9_clean_18 : decode cX9_clean 18 = .ok (.goto (-16), 3) := by decide +kernel
theorem dX9_clean_21 : decode cX9_clean 21 = .ok (.iconst 0, 1) := by decide +kernel
theorem dX9_clean_22 : decode cX9_clean 22 = .ok (.istore_n 1, 1) := by decide +kernel
theorem dX9_clean_23 : decode cX9_clean 23 = .ok (.iload_n 1, 1) := by decide +kernel
theorem dX9_clean_24 : decode cX9_clean 24 = .ok (.bipush 31, 2) := by decide +kernel
theorem dX9_clean_26 : decode cX9_clean 26 = .ok (.if_icmp .ge 16, 3) := by decide +kernel
theorem dX9_clean_29 : decode cX9_clean 29 = .ok (.aload_n 0, 1) := by decide +kernel
theorem dX9_clean_30 : decode cX9_clean 30 = .ok (.getfield 19, 3) := by decide +kernel
theorem dX9_clean_33 : decode cX9_clean 33 = .ok (.iload_n 1, 1) := by decide +kernel
theorem dX9_clean_34 : decode cX9_clean 34 = .ok (.iconst 0, 1) := by decide +kernel
theorem dX9_clean_35 : decode cX9_clean 35 = .ok (.iastore, 1) := by decide +kernel
theorem dX9_clean_36 : decode cX9_clean 36 = .ok (.iinc 1 1, 3) := by decide +kernel
theorem dX9_clean_39 : decode cX9_clean 39 = .ok (.goto (-16), 3) := by decide +kernel
theorem dX9_clean_42 : decode cX9_clean 42 = .ok (.aload_n 0, 1) := by decide +kernel
theorem dX9_clean_43 : decode cX9_clean 43 = .ok (.getfield 13, 3) := by decide +kernel
theorem dX9_clean_46 : decode cX9_clean 46 = .ok (.iconst 2, 1) := by decide +kernel
theorem dX9_clean_47 : decode cX9_clean 47 = .ok (.iconst 1, 1) := by decide +kernel
theorem dX9_clean_48 : decode cX9_clean 48 = .ok (.iastore, 1) := by decide +kernel
theorem dX9_clean_49 : decode cX9_clean 49 = .ok (.iconst 0, 1) := by decide +kernel
theorem dX9_clean_50 : decode cX9_clean 50 = .ok (.istore_n 1, 1) := by decide +kernel
theorem dX9_clean_51 : decode cX9_clean 51 = .ok (.iload_n 1, 1) := by decide +kernel
theorem dX9_clean_52 : decode cX9_clean 52 = .ok (.bipush 6, 2) := by decide +kernel
theorem dX9_clean_54 : decode cX9_clean 54 = .ok (.if_icmp .ge 19, 3) := by decide +kernel
theorem dX9_clean_57 : decode cX9_clean 57 = .ok (.aload_n 0, 1) := by decide +kernel
theorem dX9_clean_58 : decode cX9_clean 58 = .ok (.getfield 13, 3) := by decide +kernel
theorem dX9_clean_61 : decode cX9_clean 61 = .ok (.bipush 16, 2) := by decide +kernel
theorem dX9_clean_63 : decode cX9_clean 63 = .ok (.iload_n 1, 1) := by decide +kernel
theorem dX9_clean_64 : decode cX9_clean 64 = .ok (.iadd, 1) := by decide +kernel
theorem dX9_clean_65 : decode cX9_clean 65 = .ok (.iconst 1, 1) := by decide +kernel
theorem dX9_clean_66 : decode cX9_clean 66 = .ok (.iastore, 1) := by decide +kernel
theorem dX9_clean_67 : decode cX9_clean 67 = .ok (.iinc 1 1, 3) := by decide +kernel
theorem dX9_clean_70 : decode cX9_clean 70 = .ok (.goto (-19), 3) := by decide +kernel
theorem dX9_clean_73 : decode cX9_clean 73 = .ok (.return_, 1) := by decide +kernel
theorem dX9_comes_0 : decode cX9_comes 0 = .ok (.aload_n 0, 1) := by decide +kernel
theorem dX9_comes_1 : decode cX9_comes 1 = .ok (.getfield 13, 3) := by decide +kernel
theorem dX9_comes_4 : decode cX9_comes 4 = .ok (.iconst 1, 1) := by decide +kernel
theorem dX9_comes_5 : decode cX9_comes 5 = .ok (.iaload, 1) := by decide +kernel
theorem dX9_comes_6 : decode cX9_comes 6 = .ok (.istore_n 3, 1) := by decide +kernel
theorem dX9_comes_7 : decode cX9_comes 7 = .ok (.aload_n 0, 1) := by decide +kernel
theorem dX9_comes_8 : decode cX9_comes 8 = .ok (.getfield 13, 3) := by decide +kernel
theorem dX9_comes_11 : decode cX9_comes 11 = .ok (.bipush 22, 2) := by decide +kernel
theorem dX9_comes_13 : decode cX9_comes 13 = .ok (.iload_n 3, 1) := by decide +kernel
theorem dX9_comes_14 : decode cX9_comes 14 = .ok (.iadd, 1) := by decide +kernel
theorem dX9_comes_15 : decode cX9_comes 15 = .ok (.iload_n 1, 1) := by decide +kernel
theorem dX9_comes_16 : decode cX9_comes 16 = .ok (.iastore, 1) := by decide +kernel
theorem dX9_comes_17 : decode cX9_comes 17 = .ok (.aload_n 0, 1) := by decide +kernel
theorem dX9_comes_18 : decode cX9_comes 18 = .ok (.getfield 13, 3) := by decide +kernel
theorem dX9_comes_21 : decode cX9_comes 21 = .ok (.bipush 28, 2) := by decide +kernel
theorem dX9_comes_23 : decode cX9_comes 23 = .ok (.iload_n 3, 1) := by decide +kernel
theorem dX9_comes_24 : decode cX9_comes 24 = .ok (.iadd, 1) := by decide +kernel
theorem dX9_comes_25 : decode cX9_comes 25 = .ok (.iload_n 2, 1) := by decide +kernel
theorem dX9_comes_26 : decode cX9_comes 26 = .ok (.iastore, 1) := by decide +kernel
theorem dX9_comes_27 : decode cX9_comes 27 = .ok (.aload_n 0, 1) := by decide +kernel
theorem dX9_comes_28 : decode cX9_comes 28 = .ok (.getfield 13, 3) := by decide +kernel
theorem dX9_comes_31 : decode cX9_comes 31 = .ok (.iconst 1, 1) := by decide +kernel
theorem dX9_comes_32 : decode cX9_comes 32 = .ok (.dup2, 1) := by decide +kernel
theorem dX9_comes_33 : decode cX9_comes 33 = .ok (.iaload, 1) := by decide +kernel
theorem dX9_comes_34 : decode cX9_comes 34 = .ok (.iconst 1, 1) := by decide +kernel
theorem dX9_comes_35 : decode cX9_comes 35 = .ok (.iadd, 1) := by decide +kernel
theorem dX9_comes_36 : decode cX9_comes 36 = .ok (.iastore, 1) := by decide +kernel
theorem dX9_comes_37 : decode cX9_comes 37 = .ok (.return_, 1) := by decide +kernel
end
section
theorem dX9_comesTo_0 : decode cX9_comesTo 0 = .ok (.aload_n 0, 1) := by decide +kernel
theorem dX9_comesTo_1 : decode cX9_comesTo 1 = .ok (.getfield 7, 3) := by decide +kernel
theorem dX9_comesTo_4 : decode cX9_comesTo 4 = .ok (.invokestatic 116, 3) := by decide +kernel
theorem dX9_comesTo_7 : decode cX9_comesTo 7 = .ok (.istore_n 3, 1) := by decide +kernel
theorem dX9_comesTo_8 : decode cX9_comesTo 8 = .ok (.iconst 0, 1) := by decide +kernel
theorem dX9_comesTo_9 : decode cX9_comesTo 9 = .ok (.istore 4, 2) := by decide +kernel
theorem dX9_comesTo_11 : decode cX9_comesTo 11 = .ok (.iconst 0, 1) := by decide +kernel
theorem dX9_comesTo_12 : decode cX9_comesTo 12 = .ok (.istore 5, 2) := by decide +kernel
theorem dX9_comesTo_14 : decode cX9_comesTo 14 = .ok (.iload 5, 2) := by decide +kernel
theorem dX9_comesTo_16 : decode cX9_comesTo 16 = .ok (.aload_n 0, 1) := by decide +kernel
theorem dX9_comesTo_17 : decode cX9_comesTo 17 = .ok (.getfield 7, 3) := by decide +kernel
theorem dX9_comesTo_20 : decode cX9_comesTo 20 = .ok (.iconst 1, 1) := by decide +kernel
theorem dX9_comesTo_21 : decode cX9_comesTo 21 = .ok (.iaload, 1) := by decide +kernel
theorem dX9_comesTo_22 : decode cX9_comesTo 22 = .ok (.if_icmp .ge 136, 3) := by decide +kernel
theorem dX9_comesTo_25 : decode cX9_comesTo 25 = .ok (.aload_n 0, 1) := by decide +kernel
theorem dX9_comesTo_26 : decode cX9_comesTo 26 = .ok (.getfield 58, 3) := by decide +kernel
theorem dX9_comesTo_29 : decode cX9_comesTo 29 = .ok (.iload 5, 2) := by decide +kernel
theorem dX9_comesTo_31 : decode cX9_comesTo 31 = .ok (.iaload, 1) := by decide +kernel
theorem dX9_comesTo_32 : decode cX9_comesTo 32 = .ok (.istore 6, 2) := by decide +kernel
theorem dX9_comesTo_34 : decode cX9_comesTo 34 = .ok (.aload_n 0, 1) := by decide +kernel
theorem dX9_comesTo_35 : decode cX9_comesTo 35 = .ok (.getfield 7, 3) := by decide +kernel
theorem dX9_comesTo_38 : decode cX9_comesTo 38 = .ok (.bipush 22, 2) := by decide +kernel
theorem dX9_comesTo_40 : decode cX9_comesTo 40 = .ok (.iload 6, 2) := by decide +kernel
theorem dX9_comesTo_42 : decode cX9_comesTo 42 = .ok (.iadd, 1) := by decide +kernel
theorem dX9_comesTo_43 : decode cX9_comesTo 43 = .ok (.iaload, 1) := by decide +kernel
theorem dX9_comesTo_44 : decode cX9_comesTo 44 = .ok (.iload 6, 2) := by decide +kernel
theorem dX9_comesTo_46 : decode cX9_comesTo 46 = .ok (.iload_n 1, 1) := by decide +kernel
theorem dX9_comesTo_47 : decode cX9_comesTo 47 = .ok (.if_icmp .ne 7, 3) := by decide +kernel
theorem dX9_comesTo_50 : decode cX9_comesTo 50 = .ok (.iload_n 2, 1) := by decide +kernel
theorem dX9_comesTo_51 : decode cX9_comesTo 51 = .ok (.goto 4, 3) := by decide +kernel
theorem dX9_comesTo_54 : decode cX9_comesTo 54 = .ok (.iconst 0, 1) := by decide +kernel
theorem dX9_comesTo_55 : decode cX9_comesTo 55 = .ok (.iadd, 1) := by decide +kernel
theorem dX9_comesTo_56 : decode cX9_comesTo 56 = .ok (.istore 7, 2) := by decide +kernel
theorem dX9_comesTo_58 : decode cX9_comesTo 58 = .ok (.iconst 1, 1) := by decide +kernel
theorem dX9_comesTo_59 : decode cX9_comesTo 59 = .ok (.istore 8, 2) := by decide +kernel
theorem dX9_comesTo_61 : decode cX9_comesTo 61 = .ok (.iload 4, 2) := by decide +kernel
theorem dX9_comesTo_63 : decode cX9_comesTo 63 = .ok (.iload_n 3, 1) := by decide +kernel
theorem dX9_comesTo_64 : decode cX9_comesTo 64 = .ok (.if_icmp .ge 88, 3) := by decide +kernel
theorem dX9_comesTo_67 : decode cX9_comesTo 67 = .ok (.iload 8, 2) := by decide +kernel
theorem dX9_comesTo_69 : decode cX9_comesTo 69 = .ok (.ifCond .eq 83, 3) := by decide +kernel
theorem dX9_comesTo_72 : decode cX9_comesTo 72 = .ok (.aload_n 0, 1) := by decide +kernel
theorem dX9_comesTo_73 : decode cX9_comesTo 73 = .ok (.getfield 7, 3) := by decide +kernel
theorem dX9_comesTo_76 : decode cX9_comesTo 76 = .ok (.iload 6, 2) := by decide +kernel
theorem dX9_comesTo_78 : decode cX9_comesTo 78 = .ok (.iconst 1, 1) := by decide +kernel
theorem dX9_comesTo_79 : decode cX9_comesTo 79 = .ok (.iload 6, 2) := by decide +kernel
theorem dX9_comesTo_81 : decode cX9_comesTo 81 = .ok (.ishl, 1) := by decide +kernel
theorem dX9_comesTo_82 : decode cX9_comesTo 82 = .ok (.iconst 1, 1) := by decide +kernel
theorem dX9_comesTo_83 : decode cX9_comesTo 83 = .ok (.aload_n 0, 1) := by decide +kernel
theorem dX9_comesTo_84 : decode cX9_comesTo 84 = .ok (.getfield 7, 3) := by decide +kernel
theorem dX9_comesTo_87 : decode cX9_comesTo 87 = .ok (.bipush 10, 2) := by decide +kernel
theorem dX9_comesTo_89 : decode cX9_comesTo 89 = .ok (.aload_n 0, 1) := by decide +kernel
theorem dX9_comesTo_90 : decode cX9_comesTo 90 = .ok (.getfield 7, 3) := by decide +kernel
theorem dX9_comesTo_93 : decode cX9_comesTo 93 = .ok (.iload 4, 2) := by decide +kernel
theorem dX9_comesTo_95 : decode cX9_comesTo 95 = .ok (.invokestatic 188, 3) := by decide +kernel
theorem dX9_comesTo_98 : decode cX9_comesTo 98 = .ok (.iadd, 1) := by decide +kernel
theorem dX9_comesTo_99 : decode cX9_comesTo 99 = .ok (.iaload, 1) := by decide +kernel
theorem dX9_comesTo_100 : decode cX9_comesTo 100 = .ok (.iadd, 1) := by decide +kernel
theorem dX9_comesTo_101 : decode cX9_comesTo 101 = .ok (.aload_n 0, 1) := by decide +kernel
theorem dX9_comesTo_102 : decode cX9_comesTo 102 = .ok (.getfield 7, 3) := by decide +kernel
theorem dX9_comesTo_105 : decode cX9_comesTo 105 = .ok (.iconst 3, 1) := by decide +kernel
theorem dX9_comesTo_106 : decode cX9_comesTo 106 = .ok (.iaload, 1) := by decide +kernel
theorem dX9_comesTo_107 : decode cX9_comesTo 107 = .ok (.iadd, 1) := by decide +kernel
theorem dX9_comesTo_108 : decode cX9_comesTo 108 = .ok (.invokestatic 178, 3) := by decide +kernel
theorem dX9_comesTo_111 : decode cX9_comesTo 111 = .ok (.istore 9, 2) := by decide +kernel
theorem dX9_comesTo_113 : decode cX9_comesTo 113 = .ok (.iload 7, 2) := by decide +kernel
theorem dX9_comesTo_115 : decode cX9_comesTo 115 = .ok (.iload 9, 2) := by decide +kernel
theorem dX9_comesTo_117 : decode cX9_comesTo 117 = .ok (.if_icmp .lt 7, 3) := by decide +kernel
theorem dX9_comesTo_120 : decode cX9_comesTo 120 = .ok (.iconst 1, 1) := by decide +kernel
theorem dX9_comesTo_121 : decode cX9_comesTo 121 = .ok (.goto 4, 3) := by decide +kernel
theorem dX9_comesTo_124 : decode cX9_comesTo 124 = .ok (.iconst 0, 1) := by decide +kernel
theorem dX9_comesTo_125 : decode cX9_comesTo 125 = .ok (.istore 8, 2) := by decide +kernel
theorem dX9_comesTo_127 : decode cX9_comesTo 127 = .ok (.iload 7, 2) := by decide +kernel
theorem dX9_comesTo_129 : decode cX9_comesTo 129 = .ok (.iload 9, 2) := by decide +kernel
theorem dX9_comesTo_131 : decode cX9_comesTo 131 = .ok (.isub, 1) := by decide +kernel
theorem dX9_comesTo_132 : decode cX9_comesTo 132 = .ok (.istore 7, 2) := by decide +kernel
theorem dX9_comesTo_134 : decode cX9_comesTo 134 = .ok (.iload 4, 2) := by decide +kernel
theorem dX9_comesTo_136 : decode cX9_comesTo 136 = .ok (.iload 8, 2) := by decide +kernel
theorem dX9_comesTo_138 : decode cX9_comesTo 138 = .ok (.ifCond .eq 7, 3) := by decide +kernel
theorem dX9_comesTo_141 : decode cX9_comesTo 141 = .ok (.iconst 1, 1) := by decide +kernel
theorem dX9_comesTo_142 : decode cX9_comesTo 142 = .ok (.goto 4, 3) := by decide +kernel
theorem dX9_comesTo_145 : decode cX9_comesTo 145 = .ok (.iconst 0, 1) := by decide +kernel
theorem dX9_comesTo_146 : decode cX9_comesTo 146 = .ok (.iadd, 1) := by decide +kernel
theorem dX9_comesTo_147 : decode cX9_comesTo 147 = .ok (.istore 4, 2) := by decide +kernel
theorem dX9_comesTo_149 : decode cX9_comesTo 149 = .ok (.goto (-88), 3) := by decide +kernel
theorem dX9_comesTo_152 : decode cX9_comesTo 152 = .ok (.iinc 5 1, 3) := by decide +kernel
theorem dX9_comesTo_155 : decode cX9_comesTo 155 = .ok (.goto (-141), 3) := by decide +kernel
theorem dX9_comesTo_158 : decode cX9_comesTo 158 = .ok (.iload 4, 2) := by decide +kernel
theorem dX9_comesTo_160 : decode cX9_comesTo 160 = .ok (.ireturn, 1) := by decide +kernel
theorem dX9_copies_0 : decode cX9_copies 0 = .ok (.iconst 0, 1) := by decide +kernel
theorem dX9_copies_1 : decode cX9_copies 1 = .ok (.istore 4, 2) := by decide +kernel
theorem dX9_copies_3 : decode cX9_copies 3 = .ok (.iload 4, 2) := by decide +kernel
theorem dX9_copies_5 : decode cX9_copies 5 = .ok (.bipush 31, 2) := by decide +kernel
theorem dX9_copies_7 : decode cX9_copies 7 = .ok (.if_icmp .ge 21, 3) := by decide +kernel
theorem dX9_copies_10 : decode cX9_copies 10 = .ok (.aload_n 2, 1) := by decide +kernel
theorem dX9_copies_11 : decode cX9_copies 11 = .ok (.iload_n 3, 1) := by decide +kernel
theorem dX9_copies_12 : decode cX9_copies 12 = .ok (.iload 4, 2) := by decide +kernel
theorem dX9_copies_14 : decode cX9_copies 14 = .ok (.iadd, 1) := by decide +kernel
theorem dX9_copies_15 : decode cX9_copies 15 = .ok (.aload_n 0, 1) := by decide +kernel
theorem dX9_copies_16 : decode cX9_copies 16 = .ok (.iload_n 1, 1) := by decide +kernel
theorem dX9_copies_17 : decode cX9_copies 17 = .ok (.iload 4, 2) := by decide +kernel
theorem dX9_copies_19 : decode cX9_copies 19 = .ok (.iadd, 1) := by decide +kernel
theorem dX9_copies_20 : decode cX9_copies 20 = .ok (.iaload, 1) := by decide +kernel
theorem dX9_copies_21 : decode cX9_copies 21 = .ok (.iastore, 1) := by decide +kernel
theorem dX9_copies_22 : decode cX9_copies 22 = .ok (.iinc 4 1, 3) := by decide +kernel
theorem dX9_copies_25 : decode cX9_copies 25 = .ok (.goto (-22), 3) := by decide +kernel
theorem dX9_copies_28 : decode cX9_copies 28 = .ok (.return_, 1) := by decide +kernel
theorem dX9_cost_0 : decode cX9_cost 0 = .ok (.aload_n 0, 1) := by decide +kernel
theorem dX9_cost_1 : decode cX9_cost 1 = .ok (.bipush 28, 2) := by decide +kernel
theorem dX9_cost_3 : decode cX9_cost 3 = .ok (.iload_n 1, 1) := by decide +kernel
theorem dX9_cost_4 : decode cX9_cost 4 = .ok (.iadd, 1) := by decide +kernel
theorem dX9_cost_5 : decode cX9_cost 5 = .ok (.iaload, 1) := by decide +kernel
theorem dX9_cost_6 : decode cX9_cost 6 = .ok (.istore 4, 2) := by decide +kernel
theorem dX9_cost_8 : decode cX9_cost 8 = .ok (.iload 4, 2) := by decide +kernel
theorem dX9_cost_10 : decode cX9_cost 10 = .ok (.iconst 1, 1) := by decide +kernel
theorem dX9_cost_11 : decode cX9_cost 11 = .ok (.if_icmp .ne 9, 3) := by decide +kernel
theorem dX9_cost_14 : decode cX9_cost 14 = .ok (.iconst 2, 1) := by decide +kernel
theorem dX9_cost_15 : decode cX9_cost 15 = .ok (.iload_n 3, 1) := by decide +kernel
theorem dX9_cost_16 : decode cX9_cost 16 = .ok (.imul, 1) := by decide +kernel
theorem dX9_cost_17 : decode cX9_cost 17 = .ok (.goto 25, 3) := by decide +kernel
theorem dX9_cost_20 : decode cX9_cost 20 = .ok (.iload 4, 2) := by decide +kernel
theorem dX9_cost_22 : decode cX9_cost 22 = .ok (.iconst 3, 1) := by decide +kernel
theorem dX9_cost_23 : decode cX9_cost 23 = .ok (.if_icmp .ne 18, 3) := by decide +kernel
theorem dX9_cost_26 : decode cX9_cost 26 = .ok (.aload_n 0, 1) := by decide +kernel
theorem dX9_cost_27 : decode cX9_cost 27 = .ok (.iload_n 2, 1) := by decide +kernel
theorem dX9_cost_28 : decode cX9_cost 28 = .ok (.iload_n 1, 1) := by decide +kernel
theorem dX9_cost_29 : decode cX9_cost 29 = .ok (.invokestatic 170, 3) := by decide +kernel
theorem dX9_cost_32 : decode cX9_cost 32 = .ok (.ifCond .eq 9, 3) := by decide +kernel
theorem dX9_cost_35 : decode cX9_cost 35 = .ok (.iload_n 3, 1) := by decide +kernel
theorem dX9_cost_36 : decode cX9_cost 36 = .ok (.iconst 1, 1) := by decide +kernel
theorem dX9_cost_37 : decode cX9_cost 37 = .ok (.isub, 1) := by decide +kernel
theorem dX9_cost_38 : decode cX9_cost 38 = .ok (.goto 4, 3) := by decide +kernel
theorem dX9_cost_41 : decode cX9_cost 41 = .ok (.iload_n 3, 1) := by decide +kernel
theorem dX9_cost_42 : decode cX9_cost 42 = .ok (.istore 5, 2) := by decide +kernel
theorem dX9_cost_44 : decode cX9_cost 44 = .ok (.iload 5, 2) := by decide +kernel
theorem dX9_cost_46 : decode cX9_cost 46 = .ok (.iload_n 2, 1) := by decide +kernel
theorem dX9_cost_47 : decode cX9_cost 47 = .ok (.invokestatic 174, 3) := by decide +kernel
theorem dX9_cost_50 : decode cX9_cost 50 = .ok (.idiv, 1) := by decide +kernel
theorem dX9_cost_51 : decode cX9_cost 51 = .ok (.istore 5, 2) := by decide +kernel
theorem dX9_cost_53 : decode cX9_cost 53 = .ok (.iload 5, 2) := by decide +kernel
theorem dX9_cost_55 : decode cX9_cost 55 = .ok (.iconst 1, 1) := by decide +kernel
theorem dX9_cost_56 : decode cX9_cost 56 = .ok (.if_icmp .ge 7, 3) := by decide +kernel
theorem dX9_cost_59 : decode cX9_cost 59 = .ok (.iconst 1, 1) := by decide +kernel
theorem dX9_cost_60 : decode cX9_cost 60 = .ok (.goto 5, 3) := by decide +kernel
theorem dX9_cost_63 : decode cX9_cost 63 = .ok (.iload 5, 2) := by decide +kernel
theorem dX9_cost_65 : decode cX9_cost 65 = .ok (.ireturn, 1) := by decide +kernel
theorem dX9_count_0 : decode cX9_count 0 = .ok (.iload_n 1, 1) := by decide +kernel
theorem dX9_count_1 : decode cX9_count 1 = .ok (.tableswitch 118 0 9 #[55, 62, 70, 77, 84, 91, 98, 103, 108, 113], 55) := by decide +kernel
theorem dX9_count_56 : decode cX9_count 56 = .ok (.aload_n 0, 1) := by decide +kernel
theorem dX9_count_57 : decode cX9_count 57 = .ok (.getfield 7, 3) := by decide +kernel
theorem dX9_count_60 : decode cX9_count 60 = .ok (.iconst 0, 1) := by decide +kernel
theorem dX9_count_61 : decode cX9_count 61 = .ok (.iaload, 1) := by decide +kernel
theorem dX9_count_62 : decode cX9_count 62 = .ok (.ireturn, 1) := by decide +kernel
theorem dX9_count_63 : decode cX9_count 63 = .ok (.aload_n 0, 1) := by decide +kernel
theorem dX9_count_64 : decode cX9_count 64 = .ok (.getfield 7, 3) := by decide +kernel
theorem dX9_count_67 : decode cX9_count 67 = .ok (.invokestatic 116, 3) := by decide +kernel
theorem dX9_count_70 : decode cX9_count 70 = .ok (.ireturn, 1) := by decide +kernel
theorem dX9_count_71 : decode cX9_count 71 = .ok (.aload_n 0, 1) := by decide +kernel
theorem dX9_count_72 : decode cX9_count 72 = .ok (.getfield 7, 3) := by decide +kernel
theorem dX9_count_75 : decode cX9_count 75 = .ok (.iconst 1, 1) := by decide +kernel
theorem dX9_count_76 : decode cX9_count 76 = .ok (.iaload, 1) := by decide +kernel
theorem dX9_count_77 : decode cX9_count 77 = .ok (.ireturn, 1) := by decide +kernel
theorem dX9_count_78 : decode cX9_count 78 = .ok (.aload_n 0, 1) := by decide +kernel
theorem dX9_count_79 : decode cX9_count 79 = .ok (.getfield 7, 3) := by decide +kernel
theorem dX9_count_82 : decode cX9_count 82 = .ok (.iconst 2, 1) := by decide +kernel
theorem dX9_count_83 : decode cX9_count 83 = .ok (.iaload, 1) := by decide +kernel
theorem dX9_count_84 : decode cX9_count 84 = .ok (.ireturn, 1) := by decide +kernel
theorem dX9_count_85 : decode cX9_count 85 = .ok (.aload_n 0, 1) := by decide +kernel
theorem dX9_count_86 : decode cX9_count 86 = .ok (.getfield 7, 3) := by decide +kernel
theorem dX9_count_89 : decode cX9_count 89 = .ok (.iconst 3, 1) := by decide +kernel
theorem dX9_count_90 : decode cX9_count 90 = .ok (.iaload, 1) := by decide +kernel
theorem dX9_count_91 : decode cX9_count 91 = .ok (.ireturn, 1) := by decide +kernel
theorem dX9_count_92 : decode cX9_count 92 = .ok (.aload_n 0, 1) := by decide +kernel
theorem dX9_count_93 : decode cX9_count 93 = .ok (.getfield 16, 3) := by decide +kernel
theorem dX9_count_96 : decode cX9_count 96 = .ok (.iconst 0, 1) := by decide +kernel
theorem dX9_count_97 : decode cX9_count 97 = .ok (.iaload, 1) := by decide +kernel
theorem dX9_count_98 : decode cX9_count 98 = .ok (.ireturn, 1) := by decide +kernel
theorem dX9_count_99 : decode cX9_count 99 = .ok (.aload_n 0, 1) := by decide +kernel
theorem dX9_count_100 : decode cX9_count 100 = .ok (.getfield 139, 3) := by decide +kernel
theorem dX9_count_103 : decode cX9_count 103 = .ok (.ireturn, 1) := by decide +kernel
theorem dX9_count_104 : decode cX9_count 104 = .ok (.aload_n 0, 1) := by decide +kernel
theorem dX9_count_105 : decode cX9_count 105 = .ok (.getfield 142, 3) := by decide +kernel
theorem dX9_count_108 : decode cX9_count 108 = .ok (.ireturn, 1) := by decide +kernel
theorem dX9_count_109 : decode cX9_count 109 = .ok (.aload_n 0, 1) := by decide +kernel
theorem dX9_count_110 : decode cX9_count 110 = .ok (.getfield 145, 3) := by decide +kernel
theorem dX9_count_113 : decode cX9_count 113 = .ok (.ireturn, 1) := by decide +kernel
theorem dX9_count_114 : decode cX9_count 114 = .ok (.aload_n 0, 1) := by decide +kernel
theorem dX9_count_115 : decode cX9_count 115 = .ok (.getfield 95, 3) := by decide +kernel
theorem dX9_count_118 : decode cX9_count 118 = .ok (.ireturn, 1) := by decide +kernel
theorem dX9_count_119 : decode cX9_count 119 = .ok (.iconst (-1), 1) := by decide +kernel
theorem dX9_count_120 : decode cX9_count 120 = .ok (.ireturn, 1) := by decide +kernel
theorem dX9_failed_0 : decode cX9_failed 0 = .ok (.aload_n 0, 1) := by decide +kernel
theorem dX9_failed_1 : decode cX9_failed 1 = .ok (.iconst (-1), 1) := by decide +kernel
theorem dX9_failed_2 : decode cX9_failed 2 = .ok (.invokevirtual 274, 3) := by decide +kernel
theorem dX9_failed_5 : decode cX9_failed 5 = .ok (.ifCond .eq 8, 3) := by decide +kernel
theorem dX9_failed_8 : decode cX9_failed 8 = .ok (.bipush 64, 2) := by decide +kernel
theorem dX9_failed_10 : decode cX9_failed 10 = .ok (.goto 4, 3) := by decide +kernel
theorem dX9_failed_13 : decode cX9_failed 13 = .ok (.iconst 0, 1) := by decide +kernel
theorem dX9_failed_14 : decode cX9_failed 14 = .ok (.istore_n 1, 1) := by decide +kernel
theorem dX9_failed_15 : decode cX9_failed 15 = .ok (.iconst 0, 1) := by decide +kernel
theorem dX9_failed_16 : decode cX9_failed 16 = .ok (.istore_n 2, 1) := by decide +kernel
theorem dX9_failed_17 : decode cX9_failed 17 = .ok (.iload_n 2, 1) := by decide +kernel
theorem dX9_failed_18 : decode cX9_failed 18 = .ok (.aload_n 0, 1) := by decide +kernel
theorem dX9_failed_19 : decode cX9_failed 19 = .ok (.getfield 7, 3) := by decide +kernel
theorem dX9_failed_22 : decode cX9_failed 22 = .ok (.iconst 1, 1) := by decide +kernel
theorem dX9_failed_23 : decode cX9_failed 23 = .ok (.iaload, 1) := by decide +kernel
theorem dX9_failed_24 : decode cX9_failed 24 = .ok (.if_icmp .ge 27, 3) := by decide +kernel
theorem dX9_failed_27 : decode cX9_failed 27 = .ok (.iload_n 1, 1) := by decide +kernel
theorem dX9_failed_28 : decode cX9_failed 28 = .ok (.aload_n 0, 1) := by decide +kernel
theorem dX9_failed_29 : decode cX9_failed 29 = .ok (.iload_n 2, 1) := by decide +kernel
theorem dX9_failed_30 : decode cX9_failed 30 = .ok (.invokevirtual 274, 3) := by decide +kernel
theorem dX9_failed_33 : decode cX9_failed 33 = .ok (.ifCond .eq 9, 3) := by decide +kernel
theorem dX9_failed_36 : decode cX9_failed 36 = .ok (.iconst 1, 1) := by decide +kernel
theorem dX9_failed_37 : decode cX9_failed 37 = .ok (.iload_n 2, 1) := by decide +kernel
theorem dX9_failed_38 : decode cX9_failed 38 = .ok (.ishl, 1) := by decide +kernel
theorem dX9_failed_39 : decode cX9_failed 39 = .ok (.goto 4, 3) := by decide +kernel
theorem dX9_failed_42 : decode cX9_failed 42 = .ok (.iconst 0, 1) := by decide +kernel
theorem dX9_failed_43 : decode cX9_failed 43 = .ok (.ior, 1) := by decide +kernel
theorem dX9_failed_44 : decode cX9_failed 44 = .ok (.istore_n 1, 1) := by decide +kernel
theorem dX9_failed_45 : decode cX9_failed 45 = .ok (.iinc 2 1, 3) := by decide +kernel
theorem dX9_failed_48 : decode cX9_failed 48 = .ok (.goto (-31), 3) := by decide +kernel
theorem dX9_failed_51 : decode cX9_failed 51 = .ok (.iload_n 1, 1) := by decide +kernel
theorem dX9_failed_52 : decode cX9_failed 52 = .ok (.ireturn, 1) := by decide +kernel
theorem dX9_far_0 : decode cX9_far 0 = .ok (.iload_n 1, 1) := by decide +kernel
theorem dX9_far_1 : decode cX9_far 1 = .ok (.i2l, 1) := by decide +kernel
theorem dX9_far_2 : decode cX9_far 2 = .ok (.ldc2_w 255, 3) := by decide +kernel
theorem dX9_far_5 : decode cX9_far 5 = .ok (.aload_n 0, 1) := by decide +kernel
theorem dX9_far_6 : decode cX9_far 6 = .ok (.getfield 7, 3) := by decide +kernel
theorem dX9_far_9 : decode cX9_far 9 = .ok (.iconst 1, 1) := by decide +kernel
theorem dX9_far_10 : decode cX9_far 10 = .ok (.iaload, 1) := by decide +kernel
theorem dX9_far_11 : decode cX9_far 11 = .ok (.iconst 1, 1) := by decide +kernel
theorem dX9_far_12 : decode cX9_far 12 = .ok (.isub, 1) := by decide +kernel
theorem dX9_far_13 : decode cX9_far 13 = .ok (.i2l, 1) := by decide +kernel
theorem dX9_far_14 : decode cX9_far 14 = .ok (.invokestatic 87, 3) := by decide +kernel
theorem dX9_far_17 : decode cX9_far 17 = .ok (.ifCond .ne 5, 3) := by decide +kernel
theorem dX9_far_20 : decode cX9_far 20 = .ok (.iconst (-1), 1) := by decide +kernel
theorem dX9_far_21 : decode cX9_far 21 = .ok (.ireturn, 1) := by decide +kernel
theorem dX9_far_22 : decode cX9_far 22 = .ok (.aload_n 0, 1) := by decide +kernel
theorem dX9_far_23 : decode cX9_far 23 = .ok (.iconst (-1), 1) := by decide +kernel
theorem dX9_far_24 : decode cX9_far 24 = .ok (.iconst 0, 1) := by decide +kernel
theorem dX9_far_25 : decode cX9_far 25 = .ok (.invokevirtual 257, 3) := by decide +kernel
theorem dX9_far_28 : decode cX9_far 28 = .ok (.istore_n 2, 1) := by decide +kernel
theorem dX9_far_29 : decode cX9_far 29 = .ok (.iload_n 1, 1) := by decide +kernel
theorem dX9_far_30 : decode cX9_far 30 = .ok (.ifCond .ge 7, 3) := by decide +kernel
theorem dX9_far_33 : decode cX9_far 33 = .ok (.iload_n 2, 1) := by decide +kernel
theorem dX9_far_34 : decode cX9_far 34 = .ok (.goto 9, 3) := by decide +kernel
theorem dX9_far_37 : decode cX9_far 37 = .ok (.aload_n 0, 1) := by decide +kernel
theorem dX9_far_38 : decode cX9_far 38 = .ok (.getfield 61, 3) := by decide +kernel
theorem dX9_far_41 : decode cX9_far 41 = .ok (.iload_n 1, 1) := by decide +kernel
theorem dX9_far_42 : decode cX9_far 42 = .ok (.iaload, 1) := by decide +kernel
theorem dX9_far_43 : decode cX9_far 43 = .ok (.ireturn, 1) := by decide +kernel
theorem dX9_fault_0 : decode cX9_fault 0 = .ok (.aload_n 0, 1) := by decide +kernel
theorem dX9_fault_1 : decode cX9_fault 1 = .ok (.invokevirtual 70, 3) := by decide +kernel
theorem dX9_fault_4 : decode cX9_fault 4 = .ok (.aload_n 0, 1) := by decide +kernel
theorem dX9_fault_5 : decode cX9_fault 5 = .ok (.iconst 0, 1) := by decide +kernel
theorem dX9_fault_6 : decode cX9_fault 6 = .ok (.putfield 99, 3) := by decide +kernel
theorem dX9_fault_9 : decode cX9_fault 9 = .ok (.aload_n 0, 1) := by decide +kernel
theorem dX9_fault_10 : decode cX9_fault 10 = .ok (.getfield 99, 3) := by decide +kernel
theorem dX9_fault_13 : decode cX9_fault 13 = .ok (.aload_n 0, 1) := by decide +kernel
theorem dX9_fault_14 : decode cX9_fault 14 = .ok (.getfield 95, 3) := by decide +kernel
theorem dX9_fault_17 : decode cX9_fault 17 = .ok (.if_icmp .ge 20, 3) := by decide +kernel
theorem dX9_fault_20 : decode cX9_fault 20 = .ok (.aload_n 0, 1) := by decide +kernel
theorem dX9_fault_21 : decode cX9_fault 21 = .ok (.getfield 99, 3) := by decide +kernel
theorem dX9_fault_24 : decode cX9_fault 24 = .ok (.istore_n 1, 1) := by decide +kernel
theorem dX9_fault_25 : decode cX9_fault 25 = .ok (.aload_n 0, 1) := by decide +kernel
theorem dX9_fault_26 : decode cX9_fault 26 = .ok (.invokevirtual 136, 3) := by decide +kernel
theorem dX9_fault_29 : decode cX9_fault 29 = .ok (.ifCond .ne 5, 3) := by decide +kernel
theorem dX9_fault_32 : decode cX9_fault 32 = .ok (.iload_n 1, 1) := by decide +kernel
theorem dX9_fault_33 : decode cX9_fault 33 = .ok (.ireturn, 1) := by decide +kernel
theorem dX9_fault_34 : decode cX9_fault 34 = .ok (.goto (-25), 3) := by decide +kernel
theorem dX9_fault_37 : decode cX9_fault 37 = .ok (.bipush (-4), 2) := by decide +kernel
theorem dX9_fault_39 : decode cX9_fault 39 = .ok (.ireturn, 1) := by decide +kernel
theorem dX9_forget_0 : decode cX9_forget 0 = .ok (.aload_n 0, 1) := by decide +kernel
theorem dX9_forget_1 : decode cX9_forget 1 = .ok (.getfield 139, 3) := by decide +kernel
theorem dX9_forget_4 : decode cX9_forget 4 = .ok (.istore_n 1, 1) := by decide +kernel
theorem dX9_forget_5 : decode cX9_forget 5 = .ok (.aload_n 0, 1) := by decide +kernel
theorem dX9_forget_6 : decode cX9_forget 6 = .ok (.iconst 0, 1) := by decide +kernel
theorem dX9_forget_7 : decode cX9_forget 7 = .ok (.putfield 139, 3) := by decide +kernel
theorem dX9_forget_10 : decode cX9_forget 10 = .ok (.iload_n 1, 1) := by decide +kernel
theorem dX9_forget_11 : decode cX9_forget 11 = .ok (.ireturn, 1) := by decide +kernel
theorem dX9_fraction_0 : decode cX9_fraction 0 = .ok (.lload_n 0, 1) := by decide +kernel
theorem dX9_fraction_1 : decode cX9_fraction 1 = .ok (.lstore 5, 2) := by decide +kernel
theorem dX9_fraction_3 : decode cX9_fraction 3 = .ok (.lload_n 2, 1) := by decide +kernel
theorem dX9_fraction_4 : decode cX9_fraction 4 = .ok (.lstore 7, 2) := by decide +kernel
theorem dX9_fraction_6 : decode cX9_fraction 6 = .ok (.lload 7, 2) := by decide +kernel
theorem dX9_fraction_8 : decode cX9_fraction 8 = .ok (.lconst 0, 1) := by decide +kernel
theorem dX9_fraction_9 : decode cX9_fraction 9 = .ok (.lcmp, 1) := by decide +kernel
theorem dX9_fraction_10 : decode cX9_fraction 10 = .ok (.ifCond .eq 21, 3) := by decide +kernel
theorem dX9_fraction_13 : decode cX9_fraction 13 = .ok (.lload 5, 2) := by decide +kernel
theorem dX9_fraction_15 : decode cX9_fraction 15 = .ok (.lload 7, 2) := by decide +kernel
theorem dX9_fraction_17 : decode cX9_fraction 17 = .ok (.lrem, 1) := by decide +kernel
theorem dX9_fraction_18 : decode cX9_fraction 18 = .ok (.lstore 9, 2) := by decide +kernel
theorem dX9_fraction_20 : decode cX9_fraction 20 = .ok (.lload 7, 2) := by decide +kernel
theorem dX9_fraction_22 : decode cX9_fraction 22 = .ok (.lstore 5, 2) := by decide +kernel
theorem dX9_fraction_24 : decode cX9_fraction 24 = .ok (.lload 9, 2) := by decide +kernel
theorem dX9_fraction_26 : decode cX9_fraction 26 = .ok (.lstore 7, 2) := by decide +kernel
theorem dX9_fraction_28 : decode cX9_fraction 28 = .ok (.goto (-22), 3) := by decide +kernel
theorem dX9_fraction_31 : decode cX9_fraction 31 = .ok (.iload 4, 2) := by decide +kernel
theorem dX9_fraction_33 : decode cX9_fraction 33 = .ok (.ifCond .ne 7, 3) := by decide +kernel
theorem dX9_fraction_36 : decode cX9_fraction 36 = .ok (.lload_n 0, 1) := by decide +kernel
theorem dX9_fraction_37 : decode cX9_fraction 37 = .ok (.goto 4, 3) := by decide +kernel
theorem dX9_fraction_40 : decode cX9_fraction 40 = .ok (.lload_n 2, 1) := by decide +kernel
theorem dX9_fraction_41 : decode cX9_fraction 41 = .ok (.lload 5, 2) := by decide +kernel
theorem dX9_fraction_43 : decode cX9_fraction 43 = .ok (.ldiv, 1) := by decide +kernel
theorem dX9_fraction_44 : decode cX9_fraction 44 = .ok (.l2i, 1) := by decide +kernel
theorem dX9_fraction_45 : decode cX9_fraction 45 = .ok (.ireturn, 1) := by decide +kernel
theorem dX9_goesUp_0 : decode cX9_goesUp 0 = .ok (.aload_n 0, 1) := by decide +kernel
theorem dX9_goesUp_1 : decode cX9_goesUp 1 = .ok (.invokevirtual 185, 3) := by decide +kernel
theorem dX9_goesUp_4 : decode cX9_goesUp 4 = .ok (.aload_n 0, 1) := by decide +kernel
theorem dX9_goesUp_5 : decode cX9_goesUp 5 = .ok (.getfield 37, 3) := by decide +kernel
theorem dX9_goesUp_8 : decode cX9_goesUp 8 = .ok (.invokestatic 116, 3) := by decide +kernel
theorem dX9_goesUp_11 : decode cX9_goesUp 11 = .ok (.istore_n 1, 1) := by decide +kernel
theorem dX9_goesUp_12 : decode cX9_goesUp 12 = .ok (.iconst 0, 1) := by decide +kernel
theorem dX9_goesUp_13 : decode cX9_goesUp 13 = .ok (.istore_n 2, 1) := by decide +kernel
theorem dX9_goesUp_14 : decode cX9_goesUp 14 = .ok (.iload_n 2, 1) := by decide +kernel
theorem dX9_goesUp_15 : decode cX9_goesUp 15 = .ok (.bipush 120, 2) := by decide +kernel
theorem dX9_goesUp_17 : decode cX9_goesUp 17 = .ok (.if_icmp .ge 16, 3) := by decide +kernel
theorem dX9_goesUp_20 : decode cX9_goesUp 20 = .ok (.aload_n 0, 1) := by decide +kernel
theorem dX9_goesUp_21 : decode cX9_goesUp 21 = .ok (.getfield 55, 3) := by decide +kernel
theorem dX9_goesUp_24 : decode cX9_goesUp 24 = .ok (.iload_n 2, 1) := by decide +kernel
theorem dX9_goesUp_25 : decode cX9_goesUp 25 = .ok (.iconst 0, 1) := by decide +kernel
theorem dX9_goesUp_26 : decode cX9_goesUp 26 = .ok (.iastore, 1) := by decide +kernel
theorem dX9_goesUp_27 : decode cX9_goesUp 27 = .ok (.iinc 2 1, 3) := by decide +kernel
theorem dX9_goesUp_30 : decode cX9_goesUp 30 = .ok (.goto (-16), 3) := by decide +kernel
theorem dX9_goesUp_33 : decode cX9_goesUp 33 = .ok (.iconst 0, 1) := by decide +kernel
theorem dX9_goesUp_34 : decode cX9_goesUp 34 = .ok (.istore_n 2, 1) := by decide +kernel
theorem dX9_goesUp_35 : decode cX9_goesUp 35 = .ok (.iload_n 2, 1) := by decide +kernel
theorem dX9_goesUp_36 : decode cX9_goesUp 36 = .ok (.iload_n 1, 1) := by decide +kernel
theorem dX9_goesUp_37 : decode cX9_goesUp 37 = .ok (.if_icmp .ge 120, 3) := by decide +kernel
theorem dX9_goesUp_40 : decode cX9_goesUp 40 = .ok (.aload_n 0, 1) := by decide +kernel
theorem dX9_goesUp_41 : decode cX9_goesUp 41 = .ok (.getfield 182, 3) := by decide +kernel
theorem dX9_goesUp_44 : decode cX9_goesUp 44 = .ok (.bipush (-4), 2) := by decide +kernel
theorem dX9_goesUp_46 : decode cX9_goesUp 46 = .ok (.if_icmp .ne 111, 3) := by decide +kernel
theorem dX9_goesUp_49 : decode cX9_goesUp 49 = .ok (.aload_n 0, 1) := by decide +kernel
theorem dX9_goesUp_50 : decode cX9_goesUp 50 = .ok (.getfield 37, 3) := by decide +kernel
theorem dX9_goesUp_53 : decode cX9_goesUp 53 = .ok (.iload_n 2, 1) := by decide +kernel
theorem dX9_goesUp_54 : decode cX9_goesUp 54 = .ok (.invokestatic 188, 3) := by decide +kernel
theorem dX9_goesUp_57 : decode cX9_goesUp 57 = .ok (.istore_n 3, 1) := by decide +kernel
theorem dX9_goesUp_58 : decode cX9_goesUp 58 = .ok (.iconst 1, 1) := by decide +kernel
theorem dX9_goesUp_59 : decode cX9_goesUp 59 = .ok (.aload_n 0, 1) := by decide +kernel
theorem dX9_goesUp_60 : decode cX9_goesUp 60 = .ok (.getfield 37, 3) := by decide +kernel
theorem dX9_goesUp_63 : decode cX9_goesUp 63 = .ok (.bipush 10, 2) := by decide +kernel
theorem dX9_goesUp_65 : decode cX9_goesUp 65 = .ok (.iload_n 3, 1) := by decide +kernel
theorem dX9_goesUp_66 : decode cX9_goesUp 66 = .ok (.iadd, 1) := by decide +kernel
theorem dX9_goesUp_67 : decode cX9_goesUp 67 = .ok (.iaload, 1) := by decide +kernel
theorem dX9_goesUp_68 : decode cX9_goesUp 68 = .ok (.iadd, 1) := by decide +kernel
theorem dX9_goesUp_69 : decode cX9_goesUp 69 = .ok (.aload_n 0, 1) := by decide +kernel
theorem dX9_goesUp_70 : decode cX9_goesUp 70 = .ok (.iload_n 2, 1) := by decide +kernel
theorem dX9_goesUp_71 : decode cX9_goesUp 71 = .ok (.invokevirtual 192, 3) := by decide +kernel
theorem dX9_goesUp_74 : decode cX9_goesUp 74 = .ok (.iadd, 1) := by decide +kernel
theorem dX9_goesUp_75 : decode cX9_goesUp 75 = .ok (.istore 4, 2) := by decide +kernel
theorem dX9_goesUp_77 : decode cX9_goesUp 77 = .ok (.aload_n 0, 1) := by decide +kernel
theorem dX9_goesUp_78 : decode cX9_goesUp 78 = .ok (.aload_n 0, 1) := by decide +kernel
theorem dX9_goesUp_79 : decode cX9_goesUp 79 = .ok (.iload_n 2, 1) := by decide +kernel
theorem dX9_goesUp_80 : decode cX9_goesUp 80 = .ok (.invokevirtual 195, 3) := by decide +kernel
theorem dX9_goesUp_83 : decode cX9_goesUp 83 = .ok (.invokevirtual 198, 3) := by decide +kernel
theorem dX9_goesUp_86 : decode cX9_goesUp 86 = .ok (.istore 5, 2) := by decide +kernel
theorem dX9_goesUp_88 : decode cX9_goesUp 88 = .ok (.aload_n 0, 1) := by decide +kernel
theorem dX9_goesUp_89 : decode cX9_goesUp 89 = .ok (.iload_n 2, 1) := by decide +kernel
theorem dX9_goesUp_90 : decode cX9_goesUp 90 = .ok (.iload 5, 2) := by decide +kernel
theorem dX9_goesUp_92 : decode cX9_goesUp 92 = .ok (.iload 4, 2) := by decide +kernel
theorem dX9_goesUp_94 : decode cX9_goesUp 94 = .ok (.invokevirtual 201, 3) := by decide +kernel
theorem dX9_goesUp_97 : decode cX9_goesUp 97 = .ok (.istore 6, 2) := by decide +kernel
theorem dX9_goesUp_99 : decode cX9_goesUp 99 = .ok (.iload 6, 2) := by decide +kernel
theorem dX9_goesUp_101 : decode cX9_goesUp 101 = .ok (.invokestatic 174, 3) := by decide +kernel
theorem dX9_goesUp_104 : decode cX9_goesUp 104 = .ok (.aload_n 0, 1) := by decide +kernel
theorem dX9_goesUp_105 : decode cX9_goesUp 105 = .ok (.getfield 37, 3) := by decide +kernel
theorem dX9_goesUp_108 : decode cX9_goesUp 108 = .ok (.iconst 2, 1) := by decide +kernel
theorem dX9_goesUp_109 : decode cX9_goesUp 109 = .ok (.iaload, 1) := by decide +kernel
theorem dX9_goesUp_110 : decode cX9_goesUp 110 = .ok (.if_icmp .ge 11, 3) := by decide +kernel
theorem dX9_goesUp_113 : decode cX9_goesUp 113 = .ok (.aload_n 0, 1) := by decide +kernel
theorem dX9_goesUp_114 : decode cX9_goesUp 114 = .ok (.iload_n 2, 1) := by decide +kernel
theorem dX9_goesUp_115 : decode cX9_goesUp 115 = .ok (.putfield 182, 3) := by decide +kernel
theorem dX9_goesUp_118 : decode cX9_goesUp 118 = .ok (.goto 33, 3) := by decide +kernel
theorem dX9_goesUp_121 : decode cX9_goesUp 121 = .ok (.aload_n 0, 1) := by decide +kernel
theorem dX9_goesUp_122 : decode cX9_goesUp 122 = .ok (.getfield 55, 3) := by decide +kernel
theorem dX9_goesUp_125 : decode cX9_goesUp 125 = .ok (.iload_n 2, 1) := by decide +kernel
theorem dX9_goesUp_126 : decode cX9_goesUp 126 = .ok (.iload 6, 2) := by decide +kernel
theorem dX9_goesUp_128 : decode cX9_goesUp 128 = .ok (.iastore, 1) := by decide +kernel
theorem dX9_goesUp_129 : decode cX9_goesUp 129 = .ok (.aload_n 0, 1) := by decide +kernel
theorem dX9_goesUp_130 : decode cX9_goesUp 130 = .ok (.iload 6, 2) := by decide +kernel
theorem dX9_goesUp_132 : decode cX9_goesUp 132 = .ok (.iload 5, 2) := by decide +kernel
theorem dX9_goesUp_134 : decode cX9_goesUp 134 = .ok (.iload 4, 2) := by decide +kernel
theorem dX9_goesUp_136 : decode cX9_goesUp 136 = .ok (.bipush 60, 2) := by decide +kernel
theorem dX9_goesUp_138 : decode cX9_goesUp 138 = .ok (.aload_n 0, 1) := by decide +kernel
theorem dX9_goesUp_139 : decode cX9_goesUp 139 = .ok (.getfield 37, 3) := by decide +kernel
theorem dX9_goesUp_142 : decode cX9_goesUp 142 = .ok (.bipush 16, 2) := by decide +kernel
theorem dX9_goesUp_144 : decode cX9_goesUp 144 = .ok (.iload_n 3, 1) := by decide +kernel
theorem dX9_goesUp_145 : decode cX9_goesUp 145 = .ok (.iadd, 1) := by decide +kernel
theorem dX9_goesUp_146 : decode cX9_goesUp 146 = .ok (.iaload, 1) := by decide +kernel
theorem dX9_goesUp_147 : decode cX9_goesUp 147 = .ok (.imul, 1) := by decide +kernel
theorem dX9_goesUp_148 : decode cX9_goesUp 148 = .ok (.invokevirtual 205, 3) := by decide +kernel
theorem dX9_goesUp_151 : decode cX9_goesUp 151 = .ok (.iinc 2 1, 3) := by decide +kernel
theorem dX9_goesUp_154 : decode cX9_goesUp 154 = .ok (.goto (-119), 3) := by decide +kernel
theorem dX9_goesUp_157 : decode cX9_goesUp 157 = .ok (.iconst 0, 1) := by decide +kernel
theorem dX9_goesUp_158 : decode cX9_goesUp 158 = .ok (.istore_n 2, 1) := by decide +kernel
theorem dX9_goesUp_159 : decode cX9_goesUp 159 = .ok (.iload_n 2, 1) := by decide +kernel
theorem dX9_goesUp_160 : decode cX9_goesUp 160 = .ok (.bipush 6, 2) := by decide +kernel
theorem dX9_goesUp_162 : decode cX9_goesUp 162 = .ok (.if_icmp .ge 47, 3) := by decide +kernel
theorem dX9_goesUp_165 : decode cX9_goesUp 165 = .ok (.aload_n 0, 1) := by decide +kernel
theorem dX9_goesUp_166 : decode cX9_goesUp 166 = .ok (.getfield 46, 3) := by decide +kernel
theorem dX9_goesUp_169 : decode cX9_goesUp 169 = .ok (.iload_n 2, 1) := by decide +kernel
theorem dX9_goesUp_170 : decode cX9_goesUp 170 = .ok (.aload_n 0, 1) := by decide +kernel
theorem dX9_goesUp_171 : decode cX9_goesUp 171 = .ok (.getfield 49, 3) := by decide +kernel
theorem dX9_goesUp_174 : decode cX9_goesUp 174 = .ok (.iload_n 2, 1) := by decide +kernel
theorem dX9_goesUp_175 : decode cX9_goesUp 175 = .ok (.iaload, 1) := by decide +kernel
theorem dX9_goesUp_176 : decode cX9_goesUp 176 = .ok (.ifCond .ge 16, 3) := by decide +kernel
theorem dX9_goesUp_179 : decode cX9_goesUp 179 = .ok (.aload_n 0, 1) := by decide +kernel
theorem dX9_goesUp_180 : decode cX9_goesUp 180 = .ok (.getfield 37, 3) := by decide +kernel
theorem dX9_goesUp_183 : decode cX9_goesUp 183 = .ok (.bipush 28, 2) := by decide +kernel
theorem dX9_goesUp_185 : decode cX9_goesUp 185 = .ok (.iload_n 2, 1) := by decide +kernel
theorem dX9_goesUp_186 : decode cX9_goesUp 186 = .ok (.iadd, 1) := by decide +kernel
theorem dX9_goesUp_187 : decode cX9_goesUp 187 = .ok (.iaload, 1) := by decide +kernel
theorem dX9_goesUp_188 : decode cX9_goesUp 188 = .ok (.iconst 2, 1) := by decide +kernel
theorem dX9_goesUp_189 : decode cX9_goesUp 189 = .ok (.if_icmp .ne 7, 3) := by decide +kernel
theorem dX9_goesUp_192 : decode cX9_goesUp 192 = .ok (.iconst 0, 1) := by decide +kernel
theorem dX9_goesUp_193 : decode cX9_goesUp 193 = .ok (.goto 9, 3) := by decide +kernel
theorem dX9_goesUp_196 : decode cX9_goesUp 196 = .ok (.aload_n 0, 1) := by decide +kernel
theorem dX9_goesUp_197 : decode cX9_goesUp 197 = .ok (.getfield 46, 3) := by decide +kernel
theorem dX9_goesUp_200 : decode cX9_goesUp 200 = .ok (.iload_n 2, 1) := by decide +kernel
theorem dX9_goesUp_201 : decode cX9_goesUp 201 = .ok (.iaload, 1) := by decide +kernel
theorem dX9_goesUp_202 : decode cX9_goesUp 202 = .ok (.iastore, 1) := by decide +kernel
theorem dX9_goesUp_203 : decode cX9_goesUp 203 = .ok (.iinc 2 1, 3) := by decide +kernel
theorem dX9_goesUp_206 : decode cX9_goesUp 206 = .ok (.goto (-47), 3) := by decide +kernel
theorem dX9_goesUp_209 : decode cX9_goesUp 209 = .ok (.return_, 1) := by decide +kernel
theorem dX9_has_0 : decode cX9_has 0 = .ok (.iload_n 0, 1) := by decide +kernel
theorem dX9_has_1 : decode cX9_has 1 = .ok (.iload_n 1, 1) := by decide +kernel
theorem dX9_has_2 : decode cX9_has 2 = .ok (.ishr, 1) := by decide +kernel
theorem dX9_has_3 : decode cX9_has 3 = .ok (.iconst 1, 1) := by decide +kernel
theorem dX9_has_4 : decode cX9_has 4 = .ok (.iand, 1) := by decide +kernel
theorem dX9_has_5 : decode cX9_has 5 = .ok (.iconst 1, 1) := by decide +kernel
theorem dX9_has_6 : decode cX9_has 6 = .ok (.if_icmp .ne 7, 3) := by decide +kernel
theorem dX9_has_9 : decode cX9_has 9 = .ok (.iconst 1, 1) := by decide +kernel
theorem dX9_has_10 : decode cX9_has 10 = .ok (.goto 4, 3) := by decide +kernel
theorem dX9_has_13 : decode cX9_has 13 = .ok (.iconst 0, 1) := by decide +kernel
theorem dX9_has_14 : decode cX9_has 14 = .ok (.ireturn, 1) := by decide +kernel
theorem dX9_heir_0 : decode cX9_heir 0 = .ok (.iload_n 1, 1) := by decide +kernel
theorem dX9_heir_1 : decode cX9_heir 1 = .ok (.i2l, 1) := by decide +kernel
theorem dX9_heir_2 : decode cX9_heir 2 = .ok (.lconst 0, 1) := by decide +kernel
theorem dX9_heir_3 : decode cX9_heir 3 = .ok (.ldc2_w 106, 3) := by decide +kernel
theorem dX9_heir_6 : decode cX9_heir 6 = .ok (.invokestatic 87, 3) := by decide +kernel
theorem dX9_heir_9 : decode cX9_heir 9 = .ok (.ifCond .ne 5, 3) := by decide +kernel
theorem dX9_heir_12 : decode cX9_heir 12 = .ok (.iconst (-1), 1) := by decide +kernel
theorem dX9_heir_13 : decode cX9_heir 13 = .ok (.ireturn, 1) := by decide +kernel
theorem dX9_heir_14 : decode cX9_heir 14 = .ok (.aload_n 0, 1) := by decide +kernel
theorem dX9_heir_15 : decode cX9_heir 15 = .ok (.invokevirtual 214, 3) := by decide +kernel
theorem dX9_heir_18 : decode cX9_heir 18 = .ok (.aload_n 0, 1) := by decide +kernel
theorem dX9_heir_19 : decode cX9_heir 19 = .ok (.invokevirtual 217, 3) := by decide +kernel
theorem dX9_heir_22 : decode cX9_heir 22 = .ok (.aload_n 0, 1) := by decide +kernel
theorem dX9_heir_23 : decode cX9_heir 23 = .ok (.iload_n 1, 1) := by decide +kernel
theorem dX9_heir_24 : decode cX9_heir 24 = .ok (.invokevirtual 266, 3) := by decide +kernel
theorem dX9_heir_27 : decode cX9_heir 27 = .ok (.ireturn, 1) := by decide +kernel
theorem dX9_heirBy_0 : decode cX9_heirBy 0 = .ok (.iconst 0, 1) := by decide +kernel
theorem dX9_heirBy_1 : decode cX9_heirBy 1 = .ok (.istore_n 2, 1) := by decide +kernel
theorem dX9_heirBy_2 : decode cX9_heirBy 2 = .ok (.iconst (-1), 1) := by decide +kernel
theorem dX9_heirBy_3 : decode cX9_heirBy 3 = .ok (.istore_n 3, 1) := by decide +kernel
theorem dX9_heirBy_4 : decode cX9_heirBy 4 = .ok (.iconst 0, 1) := by decide +kernel
theorem dX9_heirBy_5 : decode cX9_heirBy 5 = .ok (.istore 4, 2) := by decide +kernel
theorem dX9_heirBy_7 : decode cX9_heirBy 7 = .ok (.iload 4, 2) := by decide +kernel
theorem dX9_heirBy_9 : decode cX9_heirBy 9 = .ok (.aload_n 0, 1) := by decide +kernel
theorem dX9_heirBy_10 : decode cX9_heirBy 10 = .ok (.getfield 7, 3) := by decide +kernel
theorem dX9_heirBy_13 : decode cX9_heirBy 13 = .ok (.iconst 1, 1) := by decide +kernel
theorem dX9_heirBy_14 : decode cX9_heirBy 14 = .ok (.iaload, 1) := by decide +kernel
theorem dX9_heirBy_15 : decode cX9_heirBy 15 = .ok (.if_icmp .ge 84, 3) := by decide +kernel
theorem dX9_heirBy_18 : decode cX9_heirBy 18 = .ok (.iload_n 1, 1) := by decide +kernel
theorem dX9_heirBy_19 : decode cX9_heirBy 19 = .ok (.ifCond .ne 13, 3) := by decide +kernel
theorem dX9_heirBy_22 : decode cX9_heirBy 22 = .ok (.aload_n 0, 1) := by decide +kernel
theorem dX9_heirBy_23 : decode cX9_heirBy 23 = .ok (.getfield 46, 3) := by decide +kernel
theorem dX9_heirBy_26 : decode cX9_heirBy 26 = .ok (.iload 4, 2) := by decide +kernel
theorem dX9_heirBy_28 : decode cX9_heirBy 28 = .ok (.iaload, 1) := by decide +kernel
theorem dX9_heirBy_29 : decode cX9_heirBy 29 = .ok (.goto 36, 3) := by decide +kernel
theorem dX9_heirBy_32 : decode cX9_heirBy 32 = .ok (.iload_n 1, 1) := by decide +kernel
theorem dX9_heirBy_33 : decode cX9_heirBy 33 = .ok (.iconst 1, 1) := by decide +kernel
theorem dX9_heirBy_34 : decode cX9_heirBy 34 = .ok (.if_icmp .ne 13, 3) := by decide +kernel
theorem dX9_heirBy_37 : decode cX9_heirBy 37 = .ok (.aload_n 0, 1) := by decide +kernel
theorem dX9_heirBy_38 : decode cX9_heirBy 38 = .ok (.getfield 52, 3) := by decide +kernel
theorem dX9_heirBy_41 : decode cX9_heirBy 41 = .ok (.iload 4, 2) := by decide +kernel
theorem dX9_heirBy_43 : decode cX9_heirBy 43 = .ok (.iaload, 1) := by decide +kernel
theorem dX9_heirBy_44 : decode cX9_heirBy 44 = .ok (.goto 21, 3) := by decide +kernel
theorem dX9_heirBy_47 : decode cX9_heirBy 47 = .ok (.aload_n 0, 1) := by decide +kernel
theorem dX9_heirBy_48 : decode cX9_heirBy 48 = .ok (.getfield 7, 3) := by decide +kernel
theorem dX9_heirBy_51 : decode cX9_heirBy 51 = .ok (.bipush 22, 2) := by decide +kernel
theorem dX9_heirBy_53 : decode cX9_heirBy 53 = .ok (.iload 4, 2) := by decide +kernel
theorem dX9_heirBy_55 : decode cX9_heirBy 55 = .ok (.iadd, 1) := by decide +kernel
theorem dX9_heirBy_56 : decode cX9_heirBy 56 = .ok (.iaload, 1) := by decide +kernel
theorem dX9_heirBy_57 : decode cX9_heirBy 57 = .ok (.aload_n 0, 1) := by decide +kernel
theorem dX9_heirBy_58 : decode cX9_heirBy 58 = .ok (.getfield 43, 3) := by decide +kernel
theorem dX9_heirBy_61 : decode cX9_heirBy 61 = .ok (.iload 4, 2) := by decide +kernel
theorem dX9_heirBy_63 : decode cX9_heirBy 63 = .ok (.iaload, 1) := by decide +kernel
theorem dX9_heirBy_64 : decode cX9_heirBy 64 = .ok (.isub, 1) := by decide +kernel
theorem dX9_heirBy_65 : decode cX9_heirBy 65 = .ok (.istore 5, 2) := by decide +kernel
theorem dX9_heirBy_67 : decode cX9_heirBy 67 = .ok (.iload 5, 2) := by decide +kernel
theorem dX9_heirBy_69 : decode cX9_heirBy 69 = .ok (.iload_n 3, 1) := by decide +kernel
theorem dX9_heirBy_70 : decode cX9_heirBy 70 = .ok (.if_icmp .le 8, 3) := by decide +kernel
theorem dX9_heirBy_73 : decode cX9_heirBy 73 = .ok (.iload 4, 2) := by decide +kernel
theorem dX9_heirBy_75 : decode cX9_heirBy 75 = .ok (.goto 4, 3) := by decide +kernel
theorem dX9_heirBy_78 : decode cX9_heirBy 78 = .ok (.iload_n 2, 1) := by decide +kernel
theorem dX9_heirBy_79 : decode cX9_heirBy 79 = .ok (.istore_n 2, 1) := by decide +kernel
theorem dX9_heirBy_80 : decode cX9_heirBy 80 = .ok (.iload 5, 2) := by decide +kernel
theorem dX9_heirBy_82 : decode cX9_heirBy 82 = .ok (.iload_n 3, 1) := by decide +kernel
theorem dX9_heirBy_83 : decode cX9_heirBy 83 = .ok (.if_icmp .le 8, 3) := by decide +kernel
theorem dX9_heirBy_86 : decode cX9_heirBy 86 = .ok (.iload 5, 2) := by decide +kernel
theorem dX9_heirBy_88 : decode cX9_heirBy 88 = .ok (.goto 4, 3) := by decide +kernel
theorem dX9_heirBy_91 : decode cX9_heirBy 91 = .ok (.iload_n 3, 1) := by decide +kernel
theorem dX9_heirBy_92 : decode cX9_heirBy 92 = .ok (.istore_n 3, 1) := by decide +kernel
theorem dX9_heirBy_93 : decode cX9_heirBy 93 = .ok (.iinc 4 1, 3) := by decide +kernel
theorem dX9_heirBy_96 : decode cX9_heirBy 96 = .ok (.goto (-89), 3) := by decide +kernel
theorem dX9_heirBy_99 : decode cX9_heirBy 99 = .ok (.iload_n 2, 1) := by decide +kernel
theorem dX9_heirBy_100 : decode cX9_heirBy 100 = .ok (.ireturn, 1) := by decide +kernel
theorem dX9_in_0 : decode cX9_in 0 = .ok (.lload_n 0, 1) := by decide +kernel
theorem dX9_in_1 : decode cX9_in 1 = .ok (.lload_n 2, 1) := by decide +kernel
theorem dX9_in_2 : decode cX9_in 2 = .ok (.lcmp, 1) := by decide +kernel
theorem dX9_in_3 : decode cX9_in 3 = .ok (.ifCond .lt 14, 3) := by decide +kernel
theorem dX9_in_6 : decode cX9_in 6 = .ok (.lload_n 0, 1) := by decide +kernel
theorem dX9_in_7 : decode cX9_in 7 = .ok (.lload 4, 2) := by decide +kernel
theorem dX9_in_9 : decode cX9_in 9 = .ok (.lcmp, 1) := by decide +kernel
theorem dX9_in_10 : decode cX9_in 10 = .ok (.ifCond .gt 7, 3) := by decide +kernel
theorem dX9_in_13 : decode cX9_in 13 = .ok (.iconst 1, 1) := by decide +kernel
theorem dX9_in_14 : decode cX9_in 14 = .ok (.goto 4, 3) := by decide +kernel
theorem dX9_in_17 : decode cX9_in 17 = .ok (.iconst 0, 1) := by decide +kernel
theorem dX9_in_18 : decode cX9_in 18 = .ok (.ireturn, 1) := by decide +kernel
theorem dX9_init_0 : decode cX9_init 0 = .ok (.aload_n 0, 1) := by decide +kernel
theorem dX9_init_1 : decode cX9_init 1 = .ok (.invokespecial 1, 3) := by decide +kernel
theorem dX9_init_4 : decode cX9_init 4 = .ok (.aload_n 0, 1) := by decide +kernel
theorem dX9_init_5 : decode cX9_init 5 = .ok (.bipush 34, 2) := by decide +kernel
theorem dX9_init_7 : decode cX9_init 7 = .ok (.newarray .int, 2) := by decide +kernel
theorem dX9_init_9 : decode cX9_init 9 = .ok (.putfield 7, 3) := by decide +kernel
theorem dX9_init_12 : decode cX9_init 12 = .ok (.aload_n 0, 1) := by decide +kernel
theorem dX9_init_13 : decode cX9_init 13 = .ok (.bipush 34, 2) := by decide +kernel
theorem dX9_init_15 : decode cX9_init 15 = .ok (.newarray .int, 2) := by decide +kernel
theorem dX9_init_17 : decode cX9_init 17 = .ok (.putfield 13, 3) := by decide +kernel
theorem dX9_init_20 : decode cX9_init 20 = .ok (.aload_n 0, 1) := by decide +kernel
theorem dX9_init_21 : decode cX9_init 21 = .ok (.bipush 31, 2) := by decide +kernel
theorem dX9_init_23 : decode cX9_init 23 = .ok (.newarray .int, 2) := by decide +kernel
theorem dX9_init_25 : decode cX9_init 25 = .ok (.putfield 16, 3) := by decide +kernel
theorem dX9_init_28 : decode cX9_init 28 = .ok (.aload_n 0, 1) := by decide +kernel
theorem dX9_init_29 : decode cX9_init 29 = .ok (.bipush 31, 2) := by decide +kernel
theorem dX9_init_31 : decode cX9_init 31 = .ok (.newarray .int, 2) := by decide +kernel
theorem dX9_init_33 : decode cX9_init 33 = .ok (.putfield 19, 3) := by decide +kernel
theorem dX9_init_36 : decode cX9_init 36 = .ok (.aload_n 0, 1) := by decide +kernel
theorem dX9_init_37 : decode cX9_init 37 = .ok (.sipush 248, 3) := by decide +kernel
theorem dX9_init_40 : decode cX9_init 40 = .ok (.newarray .int, 2) := by decide +kernel
theorem dX9_init_42 : decode cX9_init 42 = .ok (.putfield 22, 3) := by decide +kernel
theorem dX9_init_45 : decode cX9_init 45 = .ok (.aload_n 0, 1) := by decide +kernel
theorem dX9_init_46 : decode cX9_init 46 = .ok (.bipush 62, 2) := by decide +kernel
theorem dX9_init_48 : decode cX9_init 48 = .ok (.newarray .int, 2) := by decide +kernel
theorem dX9_init_50 : decode cX9_init 50 = .ok (.putfield 25, 3) := by decide +kernel
theorem dX9_init_53 : decode cX9_init 53 = .ok (.aload_n 0, 1) := by decide +kernel
theorem dX9_init_54 : decode cX9_init 54 = .ok (.sipush 200, 3) := by decide +kernel
theorem dX9_init_57 : decode cX9_init 57 = .ok (.newarray .int, 2) := by decide +kernel
theorem dX9_init_59 : decode cX9_init 59 = .ok (.putfield 28, 3) := by decide +kernel
theorem dX9_init_62 : decode cX9_init 62 = .ok (.aload_n 0, 1) := by decide +kernel
theorem dX9_init_63 : decode cX9_init 63 = .ok (.bipush 16, 2) := by decide +kernel
theorem dX9_init_65 : decode cX9_init 65 = .ok (.newarray .int, 2) := by decide +kernel
theorem dX9_init_67 : decode cX9_init 67 = .ok (.putfield 31, 3) := by decide +kernel
theorem dX9_init_70 : decode cX9_init 70 = .ok (.aload_n 0, 1) := by decide +kernel
theorem dX9_init_71 : decode cX9_init 71 = .ok (.iconst 3, 1) := by decide +kernel
theorem dX9_init_72 : decode cX9_init 72 = .ok (.newarray .int, 2) := by decide +kernel
theorem dX9_init_74 : decode cX9_init 74 = .ok (.putfield 34, 3) := by decide +kernel
theorem dX9_init_77 : decode cX9_init 77 = .ok (.aload_n 0, 1) := by decide +kernel
theorem dX9_init_78 : decode cX9_init 78 = .ok (.bipush 34, 2) := by decide +kernel
theorem dX9_init_80 : decode cX9_init 80 = .ok (.newarray .int, 2) := by decide +kernel
theorem dX9_init_82 : decode cX9_init 82 = .ok (.putfield 37, 3) := by decide +kernel
theorem dX9_init_85 : decode cX9_init 85 = .ok (.aload_n 0, 1) := by decide +kernel
theorem dX9_init_86 : decode cX9_init 86 = .ok (.bipush 31, 2) := by decide +kernel
theorem dX9_init_88 : decode cX9_init 88 = .ok (.newarray .int, 2) := by decide +kernel
theorem dX9_init_90 : decode cX9_init 90 = .ok (.putfield 40, 3) := by decide +kernel
theorem dX9_init_93 : decode cX9_init 93 = .ok (.aload_n 0, 1) := by decide +kernel
theorem dX9_init_94 : decode cX9_init 94 = .ok (.bipush 6, 2) := by decide +kernel
theorem dX9_init_96 : decode cX9_init 96 = .ok (.newarray .int, 2) := by decide +kernel
theorem dX9_init_98 : decode cX9_init 98 = .ok (.putfield 43, 3) := by decide +kernel
theorem dX9_init_101 : decode cX9_init 101 = .ok (.aload_n 0, 1) := by decide +kernel
theorem dX9_init_102 : decode cX9_init 102 = .ok (.bipush 6, 2) := by decide +kernel
theorem dX9_init_104 : decode cX9_init 104 = .ok (.newarray .int, 2) := by decide +kernel
theorem dX9_init_106 : decode cX9_init 106 = .ok (.putfield 46, 3) := by decide +kernel
theorem dX9_init_109 : decode cX9_init 109 = .ok (.aload_n 0, 1) := by decide +kernel
theorem dX9_init_110 : decode cX9_init 110 = .ok (.bipush 6, 2) := by decide +kernel
theorem dX9_init_112 : decode cX9_init 112 = .ok (.newarray .int, 2) := by decide +kernel
theorem dX9_init_114 : decode cX9_init 114 = .ok (.putfield 49, 3) := by decide +kernel
theorem dX9_init_117 : decode cX9_init 117 = .ok (.aload_n 0, 1) := by decide +kernel
theorem dX9_init_118 : decode cX9_init 118 = .ok (.bipush 6, 2) := by decide +kernel
theorem dX9_init_120 : decode cX9_init 120 = .ok (.newarray .int, 2) := by decide +kernel
theorem dX9_init_122 : decode cX9_init 122 = .ok (.putfield 52, 3) := by decide +kernel
theorem dX9_init_125 : decode cX9_init 125 = .ok (.aload_n 0, 1) := by decide +kernel
theorem dX9_init_126 : decode cX9_init 126 = .ok (.bipush 120, 2) := by decide +kernel
theorem dX9_init_128 : decode cX9_init 128 = .ok (.newarray .int, 2) := by decide +kernel
theorem dX9_init_130 : decode cX9_init 130 = .ok (.putfield 55, 3) := by decide +kernel
theorem dX9_init_133 : decode cX9_init 133 = .ok (.aload_n 0, 1) := by decide +kernel
theorem dX9_init_134 : decode cX9_init 134 = .ok (.bipush 6, 2) := by decide +kernel
theorem dX9_init_136 : decode cX9_init 136 = .ok (.newarray .int, 2) := by decide +kernel
theorem dX9_init_138 : decode cX9_init 138 = .ok (.putfield 58, 3) := by decide +kernel
theorem dX9_init_141 : decode cX9_init 141 = .ok (.aload_n 0, 1) := by decide +kernel
theorem dX9_init_142 : decode cX9_init 142 = .ok (.bipush 6, 2) := by decide +kernel
theorem dX9_init_144 : decode cX9_init 144 = .ok (.newarray .int, 2) := by decide +kernel
theorem dX9_init_146 : decode cX9_init 146 = .ok (.putfield 61, 3) := by decide +kernel
theorem dX9_init_149 : decode cX9_init 149 = .ok (.aload_n 0, 1) := by decide +kernel
theorem dX9_init_150 : decode cX9_init 150 = .ok (.bipush 36, 2) := by decide +kernel
theorem dX9_init_152 : decode cX9_init 152 = .ok (.newarray .int, 2) := by decide +kernel
theorem dX9_init_154 : decode cX9_init 154 = .ok (.putfield 64, 3) := by decide +kernel
theorem dX9_init_157 : decode cX9_init 157 = .ok (.aload_n 0, 1) := by decide +kernel
theorem dX9_init_158 : decode cX9_init 158 = .ok (.bipush 36, 2) := by decide +kernel
theorem dX9_init_160 : decode cX9_init 160 = .ok (.newarray .int, 2) := by decide +kernel
theorem dX9_init_162 : decode cX9_init 162 = .ok (.putfield 67, 3) := by decide +kernel
theorem dX9_init_165 : decode cX9_init 165 = .ok (.aload_n 0, 1) := by decide +kernel
theorem dX9_init_166 : decode cX9_init 166 = .ok (.invokevirtual 70, 3) := by decide +kernel
theorem dX9_init_169 : decode cX9_init 169 = .ok (.aload_n 0, 1) := by decide +kernel
theorem dX9_init_170 : decode cX9_init 170 = .ok (.bipush 10, 2) := by decide +kernel
theorem dX9_init_172 : decode cX9_init 172 = .ok (.iconst 0, 1) := by decide +kernel
theorem dX9_init_173 : decode cX9_init 173 = .ok (.invokevirtual 73, 3) := by decide +kernel
theorem dX9_init_176 : decode cX9_init 176 = .ok (.aload_n 0, 1) := by decide +kernel
theorem dX9_init_177 : decode cX9_init 177 = .ok (.bipush 8, 2) := by decide +kernel
theorem dX9_init_179 : decode cX9_init 179 = .ok (.iconst 3, 1) := by decide +kernel
theorem dX9_init_180 : decode cX9_init 180 = .ok (.invokevirtual 73, 3) := by decide +kernel
theorem dX9_init_183 : decode cX9_init 183 = .ok (.aload_n 0, 1) := by decide +kernel
theorem dX9_init_184 : decode cX9_init 184 = .ok (.bipush 12, 2) := by decide +kernel
theorem dX9_init_186 : decode cX9_init 186 = .ok (.iconst 1, 1) := by decide +kernel
theorem dX9_init_187 : decode cX9_init 187 = .ok (.invokevirtual 73, 3) := by decide +kernel
theorem dX9_init_190 : decode cX9_init 190 = .ok (.aload_n 0, 1) := by decide +kernel
theorem dX9_init_191 : decode cX9_init 191 = .ok (.bipush 60, 2) := by decide +kernel
theorem dX9_init_193 : decode cX9_init 193 = .ok (.iconst 0, 1) := by decide +kernel
theorem dX9_init_194 : decode cX9_init 194 = .ok (.invokevirtual 77, 3) := by decide +kernel
theorem dX9_init_197 : decode cX9_init 197 = .ok (.aload_n 0, 1) := by decide +kernel
theorem dX9_init_198 : decode cX9_init 198 = .ok (.bipush 30, 2) := by decide +kernel
theorem dX9_init_200 : decode cX9_init 200 = .ok (.iconst 1, 1) := by decide +kernel
theorem dX9_init_201 : decode cX9_init 201 = .ok (.invokevirtual 77, 3) := by decide +kernel
theorem dX9_init_204 : decode cX9_init 204 = .ok (.aload_n 0, 1) := by decide +kernel
theorem dX9_init_205 : decode cX9_init 205 = .ok (.bipush 90, 2) := by decide +kernel
theorem dX9_init_207 : decode cX9_init 207 = .ok (.iconst 2, 1) := by decide +kernel
theorem dX9_init_208 : decode cX9_init 208 = .ok (.invokevirtual 77, 3) := by decide +kernel
theorem dX9_init_211 : decode cX9_init 211 = .ok (.aload_n 0, 1) := by decide +kernel
theorem dX9_init_212 : decode cX9_init 212 = .ok (.bipush 40, 2) := by decide +kernel
theorem dX9_init_214 : decode cX9_init 214 = .ok (.iconst 3, 1) := by decide +kernel
theorem dX9_init_215 : decode cX9_init 215 = .ok (.invokevirtual 77, 3) := by decide +kernel
theorem dX9_init_218 : decode cX9_init 218 = .ok (.aload_n 0, 1) := by decide +kernel
theorem dX9_init_219 : decode cX9_init 219 = .ok (.bipush 40, 2) := by decide +kernel
theorem dX9_init_221 : decode cX9_init 221 = .ok (.iconst 3, 1) := by decide +kernel
theorem dX9_init_222 : decode cX9_init 222 = .ok (.invokevirtual 77, 3) := by decide +kernel
theorem dX9_init_225 : decode cX9_init 225 = .ok (.aload_n 0, 1) := by decide +kernel
theorem dX9_init_226 : decode cX9_init 226 = .ok (.iconst 0, 1) := by decide +kernel
theorem dX9_init_227 : decode cX9_init 227 = .ok (.iconst 0, 1) := by decide +kernel
theorem dX9_init_228 : decode cX9_init 228 = .ok (.bipush 9, 2) := by decide +kernel
theorem dX9_init_230 : decode cX9_init 230 = .ok (.invokevirtual 80, 3) := by decide +kernel
theorem dX9_init_233 : decode cX9_init 233 = .ok (.aload_n 0, 1) := by decide +kernel
theorem dX9_init_234 : decode cX9_init 234 = .ok (.iconst 1, 1) := by decide +kernel
theorem dX9_init_235 : decode cX9_init 235 = .ok (.iconst 4, 1) := by decide +kernel
theorem dX9_init_236 : decode cX9_init 236 = .ok (.bipush 12, 2) := by decide +kernel
theorem dX9_init_238 : decode cX9_init 238 = .ok (.invokevirtual 80, 3) := by decide +kernel
theorem dX9_init_241 : decode cX9_init 241 = .ok (.aload_n 0, 1) := by decide +kernel
theorem dX9_init_242 : decode cX9_init 242 = .ok (.iconst 2, 1) := by decide +kernel
theorem dX9_init_243 : decode cX9_init 243 = .ok (.bipush 10, 2) := by decide +kernel
theorem dX9_init_245 : decode cX9_init 245 = .ok (.bipush 20, 2) := by decide +kernel
theorem dX9_init_247 : decode cX9_init 247 = .ok (.invokevirtual 80, 3) := by decide +kernel
theorem dX9_init_250 : decode cX9_init 250 = .ok (.aload_n 0, 1) := by decide +kernel
theorem dX9_init_251 : decode cX9_init 251 = .ok (.iconst 3, 1) := by decide +kernel
theorem dX9_init_252 : decode cX9_init 252 = .ok (.bipush 18, 2) := by decide +kernel
theorem dX9_init_254 : decode cX9_init 254 = .ok (.bipush 29, 2) := by decide +kernel
theorem dX9_init_256 : decode cX9_init 256 = .ok (.invokevirtual 80, 3) := by decide +kernel
theorem dX9_init_259 : decode cX9_init 259 = .ok (.aload_n 0, 1) := by decide +kernel
theorem dX9_init_260 : decode cX9_init 260 = .ok (.iconst 4, 1) := by decide +kernel
theorem dX9_init_261 : decode cX9_init 261 = .ok (.bipush 18, 2) := by decide +kernel
theorem dX9_init_263 : decode cX9_init 263 = .ok (.bipush 29, 2) := by decide +kernel
theorem dX9_init_265 : decode cX9_init 265 = .ok (.invokevirtual 80, 3) := by decide +kernel
theorem dX9_init_268 : decode cX9_init 268 = .ok (.aload_n 0, 1) := by decide +kernel
theorem dX9_init_269 : decode cX9_init 269 = .ok (.getfield 13, 3) := by decide +kernel
theorem dX9_init_272 : decode cX9_init 272 = .ok (.bipush 17, 2) := by decide +kernel
theorem dX9_init_274 : decode cX9_init 274 = .ok (.iconst 2, 1) := by decide +kernel
theorem dX9_init_275 : decode cX9_init 275 = .ok (.iastore, 1) := by decide +kernel
theorem dX9_init_276 : decode cX9_init 276 = .ok (.aload_n 0, 1) := by decide +kernel
theorem dX9_init_277 : decode cX9_init 277 = .ok (.invokevirtual 84, 3) := by decide +kernel
theorem dX9_init_280 : decode cX9_init 280 = .ok (.return_, 1) := by decide +kernel
theorem dX9_is_0 : decode cX9_is 0 = .ok (.aload_n 0, 1) := by decide +kernel
theorem dX9_is_1 : decode cX9_is 1 = .ok (.getfield 34, 3) := by decide +kernel
theorem dX9_is_4 : decode cX9_is 4 = .ok (.iload_n 1, 1) := by decide +kernel
theorem dX9_is_5 : decode cX9_is 5 = .ok (.iaload, 1) := by decide +kernel
theorem dX9_is_6 : decode cX9_is 6 = .ok (.i2l, 1) := by decide +kernel
theorem dX9_is_7 : decode cX9_is 7 = .ok (.iload_n 2, 1) := by decide +kernel
theorem dX9_is_8 : decode cX9_is 8 = .ok (.i2l, 1) := by decide +kernel
theorem dX9_is_9 : decode cX9_is 9 = .ok (.iload_n 3, 1) := by decide +kernel
theorem dX9_is_10 : decode cX9_is 10 = .ok (.i2l, 1) := by decide +kernel
theorem dX9_is_11 : decode cX9_is 11 = .ok (.invokestatic 87, 3) := by decide +kernel
theorem dX9_is_14 : decode cX9_is 14 = .ok (.ireturn, 1) := by decide +kernel
theorem dX9_isBearer_0 : decode cX9_isBearer 0 = .ok (.iload_n 1, 1) := by decide +kernel
theorem dX9_isBearer_1 : decode cX9_isBearer 1 = .ok (.i2l, 1) := by decide +kernel
theorem dX9_isBearer_2 : decode cX9_isBearer 2 = .ok (.lconst 0, 1) := by decide +kernel
theorem dX9_isBearer_3 : decode cX9_isBearer 3 = .ok (.aload_n 0, 1) := by decide +kernel
theorem dX9_isBearer_4 : decode cX9_isBearer 4 = .ok (.getfield 7, 3) := by decide +kernel
theorem dX9_isBearer_7 : decode cX9_isBearer 7 = .ok (.iconst 1, 1) := by decide +kernel
theorem dX9_isBearer_8 : decode cX9_isBearer 8 = .ok (.iaload, 1) := by decide +kernel
theorem dX9_isBearer_9 : decode cX9_isBearer 9 = .ok (.iconst 1, 1) := by decide +kernel
theorem dX9_isBearer_10 : decode cX9_isBearer 10 = .ok (.isub, 1) := by decide +kernel
theorem dX9_isBearer_11 : decode cX9_isBearer 11 = .ok (.i2l, 1) := by decide +kernel
theorem dX9_isBearer_12 : decode cX9_isBearer 12 = .ok (.invokestatic 87, 3) := by decide +kernel
theorem dX9_isBearer_15 : decode cX9_isBearer 15 = .ok (.ireturn, 1) := by decide +kernel
theorem dX9_isTurn_0 : decode cX9_isTurn 0 = .ok (.iload_n 1, 1) := by decide +kernel
theorem dX9_isTurn_1 : decode cX9_isTurn 1 = .ok (.i2l, 1) := by decide +kernel
theorem dX9_isTurn_2 : decode cX9_isTurn 2 = .ok (.lconst 0, 1) := by decide +kernel
theorem dX9_isTurn_3 : decode cX9_isTurn 3 = .ok (.aload_n 0, 1) := by decide +kernel
theorem dX9_isTurn_4 : decode cX9_isTurn 4 = .ok (.getfield 16, 3) := by decide +kernel
theorem dX9_isTurn_7 : decode cX9_isTurn 7 = .ok (.iconst 0, 1) := by decide +kernel
theorem dX9_isTurn_8 : decode cX9_isTurn 8 = .ok (.iaload, 1) := by decide +kernel
theorem dX9_isTurn_9 : decode cX9_isTurn 9 = .ok (.iconst 1, 1) := by decide +kernel
theorem dX9_isTurn_10 : decode cX9_isTurn 10 = .ok (.isub, 1) := by decide +kernel
theorem dX9_isTurn_11 : decode cX9_isTurn 11 = .ok (.i2l, 1) := by decide +kernel
theorem dX9_isTurn_12 : decode cX9_isTurn 12 = .ok (.invokestatic 87, 3) := by decide +kernel
theorem dX9_isTurn_15 : decode cX9_isTurn 15 = .ok (.ireturn, 1) := by decide +kernel
theorem dX9_isTwin_0 : decode cX9_isTwin 0 = .ok (.iconst 0, 1) := by decide +kernel
theorem dX9_isTwin_1 : decode cX9_isTwin 1 = .ok (.istore_n 3, 1) := by decide +kernel
theorem dX9_isTwin_2 : decode cX9_isTwin 2 = .ok (.iconst 0, 1) := by decide +kernel
theorem dX9_isTwin_3 : decode cX9_isTwin 3 = .ok (.istore 4, 2) := by decide +kernel
theorem dX9_isTwin_5 : decode cX9_isTwin 5 = .ok (.iload 4, 2) := by decide +kernel
theorem dX9_isTwin_7 : decode cX9_isTwin 7 = .ok (.aload_n 0, 1) := by decide +kernel
theorem dX9_isTwin_8 : decode cX9_isTwin 8 = .ok (.iconst 1, 1) := by decide +kernel
theorem dX9_isTwin_9 : decode cX9_isTwin 9 = .ok (.iaload, 1) := by decide +kernel
theorem dX9_isTwin_10 : decode cX9_isTwin 10 = .ok (.if_icmp .ge 45, 3) := by decide +kernel
theorem dX9_isTwin_13 : decode cX9_isTwin 13 = .ok (.iload_n 3, 1) := by decide +kernel
theorem dX9_isTwin_14 : decode cX9_isTwin 14 = .ok (.ifCond .ne 29, 3) := by decide +kernel
theorem dX9_isTwin_17 : decode cX9_isTwin 17 = .ok (.iload 4, 2) := by decide +kernel
theorem dX9_isTwin_19 : decode cX9_isTwin 19 = .ok (.iload_n 2, 1) := by decide +kernel
theorem dX9_isTwin_20 : decode cX9_isTwin 20 = .ok (.if_icmp .eq 27, 3) := by decide +kernel
theorem dX9_isTwin_23 : decode cX9_isTwin 23 = .ok (.iload_n 1, 1) := by decide +kernel
theorem dX9_isTwin_24 : decode cX9_isTwin 24 = .ok (.iload 4, 2) := by decide +kernel
theorem dX9_isTwin_26 : decode cX9_isTwin 26 = .ok (.invokestatic 166, 3) := by decide +kernel
theorem dX9_isTwin_29 : decode cX9_isTwin 29 = .ok (.ifCond .eq 18, 3) := by decide +kernel
theorem dX9_isTwin_32 : decode cX9_isTwin 32 = .ok (.aload_n 0, 1) := by decide +kernel
theorem dX9_isTwin_33 : decode cX9_isTwin 33 = .ok (.bipush 28, 2) := by decide +kernel
theorem dX9_isTwin_35 : decode cX9_isTwin 35 = .ok (.iload 4, 2) := by decide +kernel
theorem dX9_isTwin_37 : decode cX9_isTwin 37 = .ok (.iadd, 1) := by decide +kernel
theorem dX9_isTwin_38 : decode cX9_isTwin 38 = .ok (.iaload, 1) := by decide +kernel
theorem dX9_isTwin_39 : decode cX9_isTwin 39 = .ok (.iconst 3, 1) := by decide +kernel
theorem dX9_isTwin_40 : decode cX9_isTwin 40 = .ok (.if_icmp .ne 7, 3) := by decide +kernel
theorem dX9_isTwin_43 : decode cX9_isTwin 43 = .ok (.iconst 1, 1) := by decide +kernel
theorem dX9_isTwin_44 : decode cX9_isTwin 44 = .ok (.goto 4, 3) := by decide +kernel
theorem dX9_isTwin_47 : decode cX9_isTwin 47 = .ok (.iconst 0, 1) := by decide +kernel
theorem dX9_isTwin_48 : decode cX9_isTwin 48 = .ok (.istore_n 3, 1) := by decide +kernel
theorem dX9_isTwin_49 : decode cX9_isTwin 49 = .ok (.iinc 4 1, 3) := by decide +kernel
theorem dX9_isTwin_52 : decode cX9_isTwin 52 = .ok (.goto (-47), 3) := by decide +kernel
theorem dX9_isTwin_55 : decode cX9_isTwin 55 = .ok (.iload_n 3, 1) := by decide +kernel
theorem dX9_isTwin_56 : decode cX9_isTwin 56 = .ok (.ireturn, 1) := by decide +kernel
theorem dX9_isTwo_0 : decode cX9_isTwo 0 = .ok (.iload_n 0, 1) := by decide +kernel
theorem dX9_isTwo_1 : decode cX9_isTwo 1 = .ok (.i2l, 1) := by decide +kernel
theorem dX9_isTwo_2 : decode cX9_isTwo 2 = .ok (.lconst 0, 1) := by decide +kernel
theorem dX9_isTwo_3 : decode cX9_isTwo 3 = .ok (.lconst 1, 1) := by decide +kernel
theorem dX9_isTwo_4 : decode cX9_isTwo 4 = .ok (.invokestatic 87, 3) := by decide +kernel
theorem dX9_isTwo_7 : decode cX9_isTwo 7 = .ok (.ireturn, 1) := by decide +kernel
theorem dX9_isYard_0 : decode cX9_isYard 0 = .ok (.iload_n 1, 1) := by decide +kernel
theorem dX9_isYard_1 : decode cX9_isYard 1 = .ok (.i2l, 1) := by decide +kernel
theorem dX9_isYard_2 : decode cX9_isYard 2 = .ok (.lconst 0, 1) := by decide +kernel
theorem dX9_isYard_3 : decode cX9_isYard 3 = .ok (.aload_n 0, 1) := by decide +kernel
theorem dX9_isYard_4 : decode cX9_isYard 4 = .ok (.getfield 7, 3) := by decide +kernel
theorem dX9_isYard_7 : decode cX9_isYard 7 = .ok (.invokestatic 116, 3) := by decide +kernel
theorem dX9_isYard_10 : decode cX9_isYard 10 = .ok (.iconst 1, 1) := by decide +kernel
theorem dX9_isYard_11 : decode cX9_isYard 11 = .ok (.isub, 1) := by decide +kernel
theorem dX9_isYard_12 : decode cX9_isYard 12 = .ok (.i2l, 1) := by decide +kernel
theorem dX9_isYard_13 : decode cX9_isYard 13 = .ok (.invokestatic 87, 3) := by decide +kernel
theorem dX9_isYard_16 : decode cX9_isYard 16 = .ok (.ireturn, 1) := by decide +kernel
theorem dX9_keep_0 : decode cX9_keep 0 = .ok (.aload_n 0, 1) := by decide +kernel
theorem dX9_keep_1 : decode cX9_keep 1 = .ok (.getfield 145, 3) := by decide +kernel
theorem dX9_keep_4 : decode cX9_keep 4 = .ok (.iconst 2, 1) := by decide +kernel
theorem dX9_keep_5 : decode cX9_keep 5 = .ok (.if_icmp .ne 6, 3) := by decide +kernel
theorem dX9_keep_8 : decode cX9_keep 8 = .ok (.bipush (-3), 2) := by decide +kernel
theorem dX9_keep_10 : decode cX9_keep 10 = .ok (.ireturn, 1) := by decide +kernel
theorem dX9_keep_11 : decode cX9_keep 11 = .ok (.aload_n 0, 1) := by decide +kernel
theorem dX9_keep_12 : decode cX9_keep 12 = .ok (.getfield 16, 3) := by decide +kernel
theorem dX9_keep_15 : decode cX9_keep 15 = .ok (.iconst 0, 1) := by decide +kernel
theorem dX9_keep_16 : decode cX9_keep 16 = .ok (.aload_n 0, 1) := by decide +kernel
theorem dX9_keep_17 : decode cX9_keep 17 = .ok (.getfield 25, 3) := by decide +kernel
theorem dX9_keep_20 : decode cX9_keep 20 = .ok (.bipush 31, 2) := by decide +kernel
theorem dX9_keep_22 : decode cX9_keep 22 = .ok (.aload_n 0, 1) := by decide +kernel
theorem dX9_keep_23 : decode cX9_keep 23 = .ok (.getfield 145, 3) := by decide +kernel
theorem dX9_keep_26 : decode cX9_keep 26 = .ok (.imul, 1) := by decide +kernel
theorem dX9_keep_27 : decode cX9_keep 27 = .ok (.invokestatic 235, 3) := by decide +kernel
theorem dX9_keep_30 : decode cX9_keep 30 = .ok (.aload_n 0, 1) := by decide +kernel
theorem dX9_keep_31 : decode cX9_keep 31 = .ok (.dup, 1) := by decide +kernel
theorem dX9_keep_32 : decode cX9_keep 32 = .ok (.getfield 145, 3) := by decide +kernel
theorem dX9_keep_35 : decode cX9_keep 35 = .ok (.iconst 1, 1) := by decide +kernel
theorem dX9_keep_36 : decode cX9_keep 36 = .ok (.iadd, 1) := by decide +kernel
theorem dX9_keep_37 : decode cX9_keep 37 = .ok (.putfield 145, 3) := by decide +kernel
theorem dX9_keep_40 : decode cX9_keep 40 = .ok (.aload_n 0, 1) := by decide +kernel
theorem dX9_keep_41 : decode cX9_keep 41 = .ok (.getfield 145, 3) := by decide +kernel
theorem dX9_keep_44 : decode cX9_keep 44 = .ok (.ireturn, 1) := by decide +kernel
theorem dX9_lay_0 : decode cX9_lay 0 = .ok (.aload_n 0, 1) := by decide +kernel
theorem dX9_lay_1 : decode cX9_lay 1 = .ok (.invokevirtual 148, 3) := by decide +kernel
theorem dX9_lay_4 : decode cX9_lay 4 = .ok (.bipush (-4), 2) := by decide +kernel
theorem dX9_lay_6 : decode cX9_lay 6 = .ok (.if_icmp .ne 21, 3) := by decide +kernel
theorem dX9_lay_9 : decode cX9_lay 9 = .ok (.aload_n 0, 1) := by decide +kernel
theorem dX9_lay_10 : decode cX9_lay 10 = .ok (.getfield 13, 3) := by decide +kernel
theorem dX9_lay_13 : decode cX9_lay 13 = .ok (.iconst 0, 1) := by decide +kernel
theorem dX9_lay_14 : decode cX9_lay 14 = .ok (.iaload, 1) := by decide +kernel
theorem dX9_lay_15 : decode cX9_lay 15 = .ok (.ifCond .eq 12, 3) := by decide +kernel
theorem dX9_lay_18 : decode cX9_lay 18 = .ok (.aload_n 0, 1) := by decide +kernel
theorem dX9_lay_19 : decode cX9_lay 19 = .ok (.getfield 13, 3) := by decide +kernel
theorem dX9_lay_22 : decode cX9_lay 22 = .ok (.iconst 1, 1) := by decide +kernel
theorem dX9_lay_23 : decode cX9_lay 23 = .ok (.iaload, 1) := by decide +kernel
theorem dX9_lay_24 : decode cX9_lay 24 = .ok (.ifCond .ne 6, 3) := by decide +kernel
theorem dX9_lay_27 : decode cX9_lay 27 = .ok (.bipush (-2), 2) := by decide +kernel
theorem dX9_lay_29 : decode cX9_lay 29 = .ok (.ireturn, 1) := by decide +kernel
theorem dX9_lay_30 : decode cX9_lay 30 = .ok (.aload_n 0, 1) := by decide +kernel
theorem dX9_lay_31 : decode cX9_lay 31 = .ok (.invokevirtual 84, 3) := by decide +kernel
theorem dX9_lay_34 : decode cX9_lay 34 = .ok (.aload_n 0, 1) := by decide +kernel
theorem dX9_lay_35 : decode cX9_lay 35 = .ok (.getfield 7, 3) := by decide +kernel
theorem dX9_lay_38 : decode cX9_lay 38 = .ok (.invokestatic 116, 3) := by decide +kernel
theorem dX9_lay_41 : decode cX9_lay 41 = .ok (.ireturn, 1) := by decide +kernel
theorem dX9_layChoice_0 : decode cX9_layChoice 0 = .ok (.aload_n 0, 1) := by decide +kernel
theorem dX9_layChoice_1 : decode cX9_layChoice 1 = .ok (.invokevirtual 214, 3) := by decide +kernel
theorem dX9_layChoice_4 : decode cX9_layChoice 4 = .ok (.aload_n 0, 1) := by decide +kernel
theorem dX9_layChoice_5 : decode cX9_layChoice 5 = .ok (.invokevirtual 185, 3) := by decide +kernel
theorem dX9_layChoice_8 : decode cX9_layChoice 8 = .ok (.iconst 0, 1) := by decide +kernel
theorem dX9_layChoice_9 : decode cX9_layChoice 9 = .ok (.istore 5, 2) := by decide +kernel
theorem dX9_layChoice_11 : decode cX9_layChoice 11 = .ok (.iconst 0, 1) := by decide +kernel
theorem dX9_layChoice_12 : decode cX9_layChoice 12 = .ok (.istore 6, 2) := by decide +kernel
theorem dX9_layChoice_14 : decode cX9_layChoice 14 = .ok (.iconst 0, 1) := by decide +kernel
theorem dX9_layChoice_15 : decode cX9_layChoice 15 = .ok (.istore 7, 2) := by decide +kernel
theorem dX9_layChoice_17 : decode cX9_layChoice 17 = .ok (.iload 7, 2) := by decide +kernel
theorem dX9_layChoice_19 : decode cX9_layChoice 19 = .ok (.iload_n 3, 1) := by decide +kernel
theorem dX9_layChoice_20 : decode cX9_layChoice 20 = .ok (.iload 4, 2) := by decide +kernel
theorem dX9_layChoice_22 : decode cX9_layChoice 22 = .ok (.if_icmp .ne 7, 3) := by decide +kernel
theorem dX9_layChoice_25 : decode cX9_layChoice 25 = .ok (.iconst 1, 1) := by decide +kernel
theorem dX9_layChoice_26 : decode cX9_layChoice 26 = .ok (.goto 4, 3) := by decide +kernel
theorem dX9_layChoice_29 : decode cX9_layChoice 29 = .ok (.iconst 2, 1) := by decide +kernel
theorem dX9_layChoice_30 : decode cX9_layChoice 30 = .ok (.if_icmp .ge 196, 3) := by decide +kernel
theorem dX9_layChoice_33 : decode cX9_layChoice 33 = .ok (.iload 7, 2) := by decide +kernel
theorem dX9_layChoice_35 : decode cX9_layChoice 35 = .ok (.ifCond .ne 7, 3) := by decide +kernel
theorem dX9_layChoice_38 : decode cX9_layChoice 38 = .ok (.iload_n 3, 1) := by decide +kernel
theorem dX9_layChoice_39 : decode cX9_layChoice 39 = .ok (.goto 5, 3) := by decide +kernel
theorem dX9_layChoice_42 : decode cX9_layChoice 42 = .ok (.iload 4, 2) := by decide +kernel
theorem dX9_layChoice_44 : decode cX9_layChoice 44 = .ok (.istore 8, 2) := by decide +kernel
theorem dX9_layChoice_46 : decode cX9_layChoice 46 = .ok (.iload_n 3, 1) := by decide +kernel
theorem dX9_layChoice_47 : decode cX9_layChoice 47 = .ok (.iload 4, 2) := by decide +kernel
theorem dX9_layChoice_49 : decode cX9_layChoice 49 = .ok (.if_icmp .ne 13, 3) := by decide +kernel
theorem dX9_layChoice_52 : decode cX9_layChoice 52 = .ok (.iconst 1, 1) := by decide +kernel
theorem dX9_layChoice_53 : decode cX9_layChoice 53 = .ok (.iload_n 1, 1) := by decide +kernel
theorem dX9_layChoice_54 : decode cX9_layChoice 54 = .ok (.ishl, 1) := by decide +kernel
theorem dX9_layChoice_55 : decode cX9_layChoice 55 = .ok (.iconst 1, 1) := by decide +kernel
theorem dX9_layChoice_56 : decode cX9_layChoice 56 = .ok (.iload_n 2, 1) := by decide +kernel
theorem dX9_layChoice_57 : decode cX9_layChoice 57 = .ok (.ishl, 1) := by decide +kernel
theorem dX9_layChoice_58 : decode cX9_layChoice 58 = .ok (.ior, 1) := by decide +kernel
theorem dX9_layChoice_59 : decode cX9_layChoice 59 = .ok (.goto 17, 3) := by decide +kernel
theorem dX9_layChoice_62 : decode cX9_layChoice 62 = .ok (.iload 7, 2) := by decide +kernel
theorem dX9_layChoice_64 : decode cX9_layChoice 64 = .ok (.ifCond .ne 9, 3) := by decide +kernel
theorem dX9_layChoice_67 : decode cX9_layChoice 67 = .ok (.iconst 1, 1) := by decide +kernel
theorem dX9_layChoice_68 : decode cX9_layChoice 68 = .ok (.iload_n 1, 1) := by decide +kernel
theorem dX9_layChoice_69 : decode cX9_layChoice 69 = .ok (.ishl, 1) := by decide +kernel
theorem dX9_layChoice_70 : decode cX9_layChoice 70 = .ok (.goto 6, 3) := by decide +kernel
theorem dX9_layChoice_73 : decode cX9_layChoice 73 = .ok (.iconst 1, 1) := by decide +kernel
theorem dX9_layChoice_74 : decode cX9_layChoice 74 = .ok (.iload_n 2, 1) := by decide +kernel
theorem dX9_layChoice_75 : decode cX9_layChoice 75 = .ok (.ishl, 1) := by decide +kernel
theorem dX9_layChoice_76 : decode cX9_layChoice 76 = .ok (.istore 9, 2) := by decide +kernel
theorem dX9_layChoice_78 : decode cX9_layChoice 78 = .ok (.iconst 1, 1) := by decide +kernel
theorem dX9_layChoice_79 : decode cX9_layChoice 79 = .ok (.aload_n 0, 1) := by decide +kernel
theorem dX9_layChoice_80 : decode cX9_layChoice 80 = .ok (.getfield 37, 3) := by decide +kernel
theorem dX9_layChoice_83 : decode cX9_layChoice 83 = .ok (.bipush 10, 2) := by decide +kernel
theorem dX9_layChoice_85 : decode cX9_layChoice 85 = .ok (.iload 8, 2) := by decide +kernel
theorem dX9_layChoice_87 : decode cX9_layChoice 87 = .ok (.iadd, 1) := by decide +kernel
theorem dX9_layChoice_88 : decode cX9_layChoice 88 = .ok (.iaload, 1) := by decide +kernel
theorem dX9_layChoice_89 : decode cX9_layChoice 89 = .ok (.iadd, 1) := by decide +kernel
theorem dX9_layChoice_90 : decode cX9_layChoice 90 = .ok (.aload_n 0, 1) := by decide +kernel
theorem dX9_layChoice_91 : decode cX9_layChoice 91 = .ok (.getfield 37, 3) := by decide +kernel
theorem dX9_layChoice_94 : decode cX9_layChoice 94 = .ok (.iconst 3, 1) := by decide +kernel
theorem dX9_layChoice_95 : decode cX9_layChoice 95 = .ok (.iaload, 1) := by decide +kernel
theorem dX9_layChoice_96 : decode cX9_layChoice 96 = .ok (.iadd, 1) := by decide +kernel
theorem dX9_layChoice_97 : decode cX9_layChoice 97 = .ok (.istore 10, 2) := by decide +kernel
theorem dX9_layChoice_99 : decode cX9_layChoice 99 = .ok (.iconst 0, 1) := by decide +kernel
theorem dX9_layChoice_100 : decode cX9_layChoice 100 = .ok (.istore 11, 2) := by decide +kernel
theorem dX9_layChoice_102 : decode cX9_layChoice 102 = .ok (.iload 11, 2) := by decide +kernel
theorem dX9_layChoice_104 : decode cX9_layChoice 104 = .ok (.aload_n 0, 1) := by decide +kernel
theorem dX9_layChoice_105 : decode cX9_layChoice 105 = .ok (.getfield 37, 3) := by decide +kernel
theorem dX9_layChoice_108 : decode cX9_layChoice 108 = .ok (.iconst 4, 1) := by decide +kernel
theorem dX9_layChoice_109 : decode cX9_layChoice 109 = .ok (.iload 8, 2) := by decide +kernel
theorem dX9_layChoice_111 : decode cX9_layChoice 111 = .ok (.iadd, 1) := by decide +kernel
theorem dX9_layChoice_112 : decode cX9_layChoice 112 = .ok (.iaload, 1) := by decide +kernel
theorem dX9_layChoice_113 : decode cX9_layChoice 113 = .ok (.if_icmp .ge 107, 3) := by decide +kernel
theorem dX9_layChoice_116 : decode cX9_layChoice 116 = .ok (.aload_n 0, 1) := by decide +kernel
theorem dX9_layChoice_117 : decode cX9_layChoice 117 = .ok (.iload 9, 2) := by decide +kernel
theorem dX9_layChoice_119 : decode cX9_layChoice 119 = .ok (.invokevirtual 198, 3) := by decide +kernel
theorem dX9_layChoice_122 : decode cX9_layChoice 122 = .ok (.istore 12, 2) := by decide +kernel
theorem dX9_layChoice_124 : decode cX9_layChoice 124 = .ok (.iload 12, 2) := by decide +kernel
theorem dX9_layChoice_126 : decode cX9_layChoice 126 = .ok (.ifCond .ne 7, 3) := by decide +kernel
theorem dX9_layChoice_129 : decode cX9_layChoice 129 = .ok (.iconst 0, 1) := by decide +kernel
theorem dX9_layChoice_130 : decode cX9_layChoice 130 = .ok (.goto 13, 3) := by decide +kernel
theorem dX9_layChoice_133 : decode cX9_layChoice 133 = .ok (.aload_n 0, 1) := by decide +kernel
theorem dX9_layChoice_134 : decode cX9_layChoice 134 = .ok (.iload 11, 2) := by decide +kernel
theorem dX9_layChoice_136 : decode cX9_layChoice 136 = .ok (.iload 12, 2) := by decide +kernel
theorem dX9_layChoice_138 : decode cX9_layChoice 138 = .ok (.iload 10, 2) := by decide +kernel
theorem dX9_layChoice_140 : decode cX9_layChoice 140 = .ok (.invokevirtual 201, 3) := by decide +kernel
theorem dX9_layChoice_143 : decode cX9_layChoice 143 = .ok (.istore 13, 2) := by decide +kernel
theorem dX9_layChoice_145 : decode cX9_layChoice 145 = .ok (.iload 13, 2) := by decide +kernel
theorem dX9_layChoice_147 : decode cX9_layChoice 147 = .ok (.ifCond .eq 67, 3) := by decide +kernel
theorem dX9_layChoice_150 : decode cX9_layChoice 150 = .ok (.aload_n 0, 1) := by decide +kernel
theorem dX9_layChoice_151 : decode cX9_layChoice 151 = .ok (.iload 13, 2) := by decide +kernel
theorem dX9_layChoice_153 : decode cX9_layChoice 153 = .ok (.iload 12, 2) := by decide +kernel
theorem dX9_layChoice_155 : decode cX9_layChoice 155 = .ok (.iload 10, 2) := by decide +kernel
theorem dX9_layChoice_157 : decode cX9_layChoice 157 = .ok (.bipush 60, 2) := by decide +kernel
theorem dX9_layChoice_159 : decode cX9_layChoice 159 = .ok (.invokevirtual 205, 3) := by decide +kernel
theorem dX9_layChoice_162 : decode cX9_layChoice 162 = .ok (.iload 5, 2) := by decide +kernel
theorem dX9_layChoice_164 : decode cX9_layChoice 164 = .ok (.iload 13, 2) := by decide +kernel
theorem dX9_layChoice_166 : decode cX9_layChoice 166 = .ok (.iload_n 1, 1) := by decide +kernel
theorem dX9_layChoice_167 : decode cX9_layChoice 167 = .ok (.invokestatic 166, 3) := by decide +kernel
theorem dX9_layChoice_170 : decode cX9_layChoice 170 = .ok (.ifCond .eq 14, 3) := by decide +kernel
theorem dX9_layChoice_173 : decode cX9_layChoice 173 = .ok (.bipush 60, 2) := by decide +kernel
theorem dX9_layChoice_175 : decode cX9_layChoice 175 = .ok (.iload 13, 2) := by decide +kernel
theorem dX9_layChoice_177 : decode cX9_layChoice 177 = .ok (.invokestatic 174, 3) := by decide +kernel
theorem dX9_layChoice_180 : decode cX9_layChoice 180 = .ok (.idiv, 1) := by decide +kernel
theorem dX9_layChoice_181 : decode cX9_layChoice 181 = .ok (.goto 4, 3) := by decide +kernel
theorem dX9_layChoice_184 : decode cX9_layChoice 184 = .ok (.iconst 0, 1) := by decide +kernel
theorem dX9_layChoice_185 : decode cX9_layChoice 185 = .ok (.iadd, 1) := by decide +kernel
theorem dX9_layChoice_186 : decode cX9_layChoice 186 = .ok (.istore 5, 2) := by decide +kernel
theorem dX9_layChoice_188 : decode cX9_layChoice 188 = .ok (.iload 6, 2) := by decide +kernel
theorem dX9_layChoice_190 : decode cX9_layChoice 190 = .ok (.iload 13, 2) := by decide +kernel
theorem dX9_layChoice_192 : decode cX9_layChoice 192 = .ok (.iload_n 2, 1) := by decide +kernel
theorem dX9_layChoice_193 : decode cX9_layChoice 193 = .ok (.invokestatic 166, 3) := by decide +kernel
theorem dX9_layChoice_196 : decode cX9_layChoice 196 = .ok (.ifCond .eq 14, 3) := by decide +kernel
theorem dX9_layChoice_199 : decode cX9_layChoice 199 = .ok (.bipush 60, 2) := by decide +kernel
theorem dX9_layChoice_201 : decode cX9_layChoice 201 = .ok (.iload 13, 2) := by decide +kernel
theorem dX9_layChoice_203 : decode cX9_layChoice 203 = .ok (.invokestatic 174, 3) := by decide +kernel
theorem dX9_layChoice_206 : decode cX9_layChoice 206 = .ok (.idiv, 1) := by decide +kernel
theorem dX9_layChoice_207 : decode cX9_layChoice 207 = .ok (.goto 4, 3) := by decide +kernel
theorem dX9_layChoice_210 : decode cX9_layChoice 210 = .ok (.iconst 0, 1) := by decide +kernel
theorem dX9_layChoice_211 : decode cX9_layChoice 211 = .ok (.iadd, 1) := by decide +kernel
theorem dX9_layChoice_212 : decode cX9_layChoice 212 = .ok (.istore 6, 2) := by decide +kernel
theorem dX9_layChoice_214 : decode cX9_layChoice 214 = .ok (.iinc 11 1, 3) := by decide +kernel
theorem dX9_layChoice_217 : decode cX9_layChoice 217 = .ok (.goto (-115), 3) := by decide +kernel
theorem dX9_layChoice_220 : decode cX9_layChoice 220 = .ok (.iinc 7 1, 3) := by decide +kernel
theorem dX9_layChoice_223 : decode cX9_layChoice 223 = .ok (.goto (-206), 3) := by decide +kernel
theorem dX9_layChoice_226 : decode cX9_layChoice 226 = .ok (.aload_n 0, 1) := by decide +kernel
theorem dX9_layChoice_227 : decode cX9_layChoice 227 = .ok (.getfield 64, 3) := by decide +kernel
theorem dX9_layChoice_230 : decode cX9_layChoice 230 = .ok (.bipush 6, 2) := by decide +kernel
theorem dX9_layChoice_232 : decode cX9_layChoice 232 = .ok (.iload_n 3, 1) := by decide +kernel
theorem dX9_layChoice_233 : decode cX9_layChoice 233 = .ok (.imul, 1) := by decide +kernel
theorem dX9_layChoice_234 : decode cX9_layChoice 234 = .ok (.iload 4, 2) := by decide +kernel
theorem dX9_layChoice_236 : decode cX9_layChoice 236 = .ok (.iadd, 1) := by decide +kernel
theorem dX9_layChoice_237 : decode cX9_layChoice 237 = .ok (.iload 5, 2) := by decide +kernel
theorem dX9_layChoice_239 : decode cX9_layChoice 239 = .ok (.iastore, 1) := by decide +kernel
theorem dX9_layChoice_240 : decode cX9_layChoice 240 = .ok (.aload_n 0, 1) := by decide +kernel
theorem dX9_layChoice_241 : decode cX9_layChoice 241 = .ok (.getfield 67, 3) := by decide +kernel
theorem dX9_layChoice_244 : decode cX9_layChoice 244 = .ok (.bipush 6, 2) := by decide +kernel
theorem dX9_layChoice_246 : decode cX9_layChoice 246 = .ok (.iload_n 3, 1) := by decide +kernel
theorem dX9_layChoice_247 : decode cX9_layChoice 247 = .ok (.imul, 1) := by decide +kernel
theorem dX9_layChoice_248 : decode cX9_layChoice 248 = .ok (.iload 4, 2) := by decide +kernel
theorem dX9_layChoice_250 : decode cX9_layChoice 250 = .ok (.iadd, 1) := by decide +kernel
theorem dX9_layChoice_251 : decode cX9_layChoice 251 = .ok (.iload 6, 2) := by decide +kernel
theorem dX9_layChoice_253 : decode cX9_layChoice 253 = .ok (.iastore, 1) := by decide +kernel
theorem dX9_layChoice_254 : decode cX9_layChoice 254 = .ok (.return_, 1) := by decide +kernel
end
section
theorem dX9_layFarthest_0 : decode cX9_layFarthest 0 = .ok (.iconst (-1), 1) := by decide +kernel
theorem dX9_layFarthest_1 : decode cX9_layFarthest 1 = .ok (.istore_n 3, 1) := by decide +kernel
theorem dX9_layFarthest_2 : decode cX9_layFarthest 2 = .ok (.iconst 1, 1) := by decide +kernel
theorem dX9_layFarthest_3 : decode cX9_layFarthest 3 = .ok (.istore 4, 2) := by decide +kernel
theorem dX9_layFarthest_5 : decode cX9_layFarthest 5 = .ok (.iconst 0, 1) := by decide +kernel
theorem dX9_layFarthest_6 : decode cX9_layFarthest 6 = .ok (.istore 5, 2) := by decide +kernel
theorem dX9_layFarthest_8 : decode cX9_layFarthest 8 = .ok (.iload 5, 2) := by decide +kernel
theorem dX9_layFarthest_10 : decode cX9_layFarthest 10 = .ok (.aload_n 0, 1) := by decide +kernel
theorem dX9_layFarthest_11 : decode cX9_layFarthest 11 = .ok (.getfield 7, 3) := by decide +kernel
theorem dX9_layFarthest_14 : decode cX9_layFarthest 14 = .ok (.iconst 1, 1) := by decide +kernel
theorem dX9_layFarthest_15 : decode cX9_layFarthest 15 = .ok (.iaload, 1) := by decide +kernel
theorem dX9_layFarthest_16 : decode cX9_layFarthest 16 = .ok (.if_icmp .ge 16, 3) := by decide +kernel
theorem dX9_layFarthest_19 : decode cX9_layFarthest 19 = .ok (.iload 4, 2) := by decide +kernel
theorem dX9_layFarthest_21 : decode cX9_layFarthest 21 = .ok (.bipush 6, 2) := by decide +kernel
theorem dX9_layFarthest_23 : decode cX9_layFarthest 23 = .ok (.imul, 1) := by decide +kernel
theorem dX9_layFarthest_24 : decode cX9_layFarthest 24 = .ok (.istore 4, 2) := by decide +kernel
theorem dX9_layFarthest_26 : decode cX9_layFarthest 26 = .ok (.iinc 5 1, 3) := by decide +kernel
theorem dX9_layFarthest_29 : decode cX9_layFarthest 29 = .ok (.goto (-21), 3) := by decide +kernel
theorem dX9_layFarthest_32 : decode cX9_layFarthest 32 = .ok (.iconst 0, 1) := by decide +kernel
theorem dX9_layFarthest_33 : decode cX9_layFarthest 33 = .ok (.istore 5, 2) := by decide +kernel
theorem dX9_layFarthest_35 : decode cX9_layFarthest 35 = .ok (.iload 5, 2) := by decide +kernel
theorem dX9_layFarthest_37 : decode cX9_layFarthest 37 = .ok (.iload 4, 2) := by decide +kernel
theorem dX9_layFarthest_39 : decode cX9_layFarthest 39 = .ok (.if_icmp .ge 79, 3) := by decide +kernel
theorem dX9_layFarthest_42 : decode cX9_layFarthest 42 = .ok (.aload_n 0, 1) := by decide +kernel
theorem dX9_layFarthest_43 : decode cX9_layFarthest 43 = .ok (.iload 5, 2) := by decide +kernel
theorem dX9_layFarthest_45 : decode cX9_layFarthest 45 = .ok (.invokevirtual 248, 3) := by decide +kernel
theorem dX9_layFarthest_48 : decode cX9_layFarthest 48 = .ok (.ifCond .eq 12, 3) := by decide +kernel
theorem dX9_layFarthest_51 : decode cX9_layFarthest 51 = .ok (.aload_n 0, 1) := by decide +kernel
theorem dX9_layFarthest_52 : decode cX9_layFarthest 52 = .ok (.iload_n 1, 1) := by decide +kernel
theorem dX9_layFarthest_53 : decode cX9_layFarthest 53 = .ok (.iload_n 2, 1) := by decide +kernel
theorem dX9_layFarthest_54 : decode cX9_layFarthest 54 = .ok (.invokevirtual 251, 3) := by decide +kernel
theorem dX9_layFarthest_57 : decode cX9_layFarthest 57 = .ok (.goto 4, 3) := by decide +kernel
theorem dX9_layFarthest_60 : decode cX9_layFarthest 60 = .ok (.iconst (-1), 1) := by decide +kernel
theorem dX9_layFarthest_61 : decode cX9_layFarthest 61 = .ok (.istore 6, 2) := by decide +kernel
theorem dX9_layFarthest_63 : decode cX9_layFarthest 63 = .ok (.iconst 0, 1) := by decide +kernel
theorem dX9_layFarthest_64 : decode cX9_layFarthest 64 = .ok (.istore 7, 2) := by decide +kernel
theorem dX9_layFarthest_66 : decode cX9_layFarthest 66 = .ok (.iload 7, 2) := by decide +kernel
theorem dX9_layFarthest_68 : decode cX9_layFarthest 68 = .ok (.bipush 6, 2) := by decide +kernel
theorem dX9_layFarthest_70 : decode cX9_layFarthest 70 = .ok (.if_icmp .ge 29, 3) := by decide +kernel
theorem dX9_layFarthest_73 : decode cX9_layFarthest 73 = .ok (.iload 6, 2) := by decide +kernel
theorem dX9_layFarthest_75 : decode cX9_layFarthest 75 = .ok (.iload_n 3, 1) := by decide +kernel
theorem dX9_layFarthest_76 : decode cX9_layFarthest 76 = .ok (.if_icmp .le 23, 3) := by decide +kernel
theorem dX9_layFarthest_79 : decode cX9_layFarthest 79 = .ok (.aload_n 0, 1) := by decide +kernel
theorem dX9_layFarthest_80 : decode cX9_layFarthest 80 = .ok (.getfield 61, 3) := by decide +kernel
theorem dX9_layFarthest_83 : decode cX9_layFarthest 83 = .ok (.iload 7, 2) := by decide +kernel
theorem dX9_layFarthest_85 : decode cX9_layFarthest 85 = .ok (.aload_n 0, 1) := by decide +kernel
theorem dX9_layFarthest_86 : decode cX9_layFarthest 86 = .ok (.getfield 58, 3) := by decide +kernel
theorem dX9_layFarthest_89 : decode cX9_layFarthest 89 = .ok (.iload 7, 2) := by decide +kernel
theorem dX9_layFarthest_91 : decode cX9_layFarthest 91 = .ok (.iaload, 1) := by decide +kernel
theorem dX9_layFarthest_92 : decode cX9_layFarthest 92 = .ok (.iastore, 1) := by decide +kernel
theorem dX9_layFarthest_93 : decode cX9_layFarthest 93 = .ok (.iinc 7 1, 3) := by decide +kernel
theorem dX9_layFarthest_96 : decode cX9_layFarthest 96 = .ok (.goto (-30), 3) := by decide +kernel
theorem dX9_layFarthest_99 : decode cX9_layFarthest 99 = .ok (.iload 6, 2) := by decide +kernel
theorem dX9_layFarthest_101 : decode cX9_layFarthest 101 = .ok (.iload_n 3, 1) := by decide +kernel
theorem dX9_layFarthest_102 : decode cX9_layFarthest 102 = .ok (.if_icmp .le 8, 3) := by decide +kernel
theorem dX9_layFarthest_105 : decode cX9_layFarthest 105 = .ok (.iload 6, 2) := by decide +kernel
theorem dX9_layFarthest_107 : decode cX9_layFarthest 107 = .ok (.goto 4, 3) := by decide +kernel
theorem dX9_layFarthest_110 : decode cX9_layFarthest 110 = .ok (.iload_n 3, 1) := by decide +kernel
theorem dX9_layFarthest_111 : decode cX9_layFarthest 111 = .ok (.istore_n 3, 1) := by decide +kernel
theorem dX9_layFarthest_112 : decode cX9_layFarthest 112 = .ok (.iinc 5 1, 3) := by decide +kernel
theorem dX9_layFarthest_115 : decode cX9_layFarthest 115 = .ok (.goto (-80), 3) := by decide +kernel
theorem dX9_layFarthest_118 : decode cX9_layFarthest 118 = .ok (.iload_n 3, 1) := by decide +kernel
theorem dX9_layFarthest_119 : decode cX9_layFarthest 119 = .ok (.ireturn, 1) := by decide +kernel
theorem dX9_layOrder_0 : decode cX9_layOrder 0 = .ok (.aload_n 0, 1) := by decide +kernel
theorem dX9_layOrder_1 : decode cX9_layOrder 1 = .ok (.getfield 7, 3) := by decide +kernel
theorem dX9_layOrder_4 : decode cX9_layOrder 4 = .ok (.iconst 1, 1) := by decide +kernel
theorem dX9_layOrder_5 : decode cX9_layOrder 5 = .ok (.iaload, 1) := by decide +kernel
theorem dX9_layOrder_6 : decode cX9_layOrder 6 = .ok (.istore_n 2, 1) := by decide +kernel
theorem dX9_layOrder_7 : decode cX9_layOrder 7 = .ok (.iload_n 1, 1) := by decide +kernel
theorem dX9_layOrder_8 : decode cX9_layOrder 8 = .ok (.istore_n 3, 1) := by decide +kernel
theorem dX9_layOrder_9 : decode cX9_layOrder 9 = .ok (.iconst 0, 1) := by decide +kernel
theorem dX9_layOrder_10 : decode cX9_layOrder 10 = .ok (.istore 4, 2) := by decide +kernel
theorem dX9_layOrder_12 : decode cX9_layOrder 12 = .ok (.iload_n 2, 1) := by decide +kernel
theorem dX9_layOrder_13 : decode cX9_layOrder 13 = .ok (.iconst 1, 1) := by decide +kernel
theorem dX9_layOrder_14 : decode cX9_layOrder 14 = .ok (.isub, 1) := by decide +kernel
theorem dX9_layOrder_15 : decode cX9_layOrder 15 = .ok (.istore 5, 2) := by decide +kernel
theorem dX9_layOrder_17 : decode cX9_layOrder 17 = .ok (.iload 5, 2) := by decide +kernel
theorem dX9_layOrder_19 : decode cX9_layOrder 19 = .ok (.ifCond .lt 39, 3) := by decide +kernel
theorem dX9_layOrder_22 : decode cX9_layOrder 22 = .ok (.aload_n 0, 1) := by decide +kernel
theorem dX9_layOrder_23 : decode cX9_layOrder 23 = .ok (.getfield 58, 3) := by decide +kernel
theorem dX9_layOrder_26 : decode cX9_layOrder 26 = .ok (.iload 5, 2) := by decide +kernel
theorem dX9_layOrder_28 : decode cX9_layOrder 28 = .ok (.iload_n 3, 1) := by decide +kernel
theorem dX9_layOrder_29 : decode cX9_layOrder 29 = .ok (.bipush 6, 2) := by decide +kernel
theorem dX9_layOrder_31 : decode cX9_layOrder 31 = .ok (.irem, 1) := by decide +kernel
theorem dX9_layOrder_32 : decode cX9_layOrder 32 = .ok (.iastore, 1) := by decide +kernel
theorem dX9_layOrder_33 : decode cX9_layOrder 33 = .ok (.iload_n 3, 1) := by decide +kernel
theorem dX9_layOrder_34 : decode cX9_layOrder 34 = .ok (.bipush 6, 2) := by decide +kernel
theorem dX9_layOrder_36 : decode cX9_layOrder 36 = .ok (.idiv, 1) := by decide +kernel
theorem dX9_layOrder_37 : decode cX9_layOrder 37 = .ok (.istore_n 3, 1) := by decide +kernel
theorem dX9_layOrder_38 : decode cX9_layOrder 38 = .ok (.iload 4, 2) := by decide +kernel
theorem dX9_layOrder_40 : decode cX9_layOrder 40 = .ok (.iconst 1, 1) := by decide +kernel
theorem dX9_layOrder_41 : decode cX9_layOrder 41 = .ok (.aload_n 0, 1) := by decide +kernel
theorem dX9_layOrder_42 : decode cX9_layOrder 42 = .ok (.getfield 58, 3) := by decide +kernel
theorem dX9_layOrder_45 : decode cX9_layOrder 45 = .ok (.iload 5, 2) := by decide +kernel
theorem dX9_layOrder_47 : decode cX9_layOrder 47 = .ok (.iaload, 1) := by decide +kernel
theorem dX9_layOrder_48 : decode cX9_layOrder 48 = .ok (.ishl, 1) := by decide +kernel
theorem dX9_layOrder_49 : decode cX9_layOrder 49 = .ok (.ior, 1) := by decide +kernel
theorem dX9_layOrder_50 : decode cX9_layOrder 50 = .ok (.istore 4, 2) := by decide +kernel
theorem dX9_layOrder_52 : decode cX9_layOrder 52 = .ok (.iinc 5 (-1), 3) := by decide +kernel
theorem dX9_layOrder_55 : decode cX9_layOrder 55 = .ok (.goto (-38), 3) := by decide +kernel
theorem dX9_layOrder_58 : decode cX9_layOrder 58 = .ok (.iload 4, 2) := by decide +kernel
theorem dX9_layOrder_60 : decode cX9_layOrder 60 = .ok (.iconst 1, 1) := by decide +kernel
theorem dX9_layOrder_61 : decode cX9_layOrder 61 = .ok (.iload_n 2, 1) := by decide +kernel
theorem dX9_layOrder_62 : decode cX9_layOrder 62 = .ok (.ishl, 1) := by decide +kernel
theorem dX9_layOrder_63 : decode cX9_layOrder 63 = .ok (.iconst 1, 1) := by decide +kernel
theorem dX9_layOrder_64 : decode cX9_layOrder 64 = .ok (.isub, 1) := by decide +kernel
theorem dX9_layOrder_65 : decode cX9_layOrder 65 = .ok (.if_icmp .ne 7, 3) := by decide +kernel
theorem dX9_layOrder_68 : decode cX9_layOrder 68 = .ok (.iconst 1, 1) := by decide +kernel
theorem dX9_layOrder_69 : decode cX9_layOrder 69 = .ok (.goto 4, 3) := by decide +kernel
theorem dX9_layOrder_72 : decode cX9_layOrder 72 = .ok (.iconst 0, 1) := by decide +kernel
theorem dX9_layOrder_73 : decode cX9_layOrder 73 = .ok (.ireturn, 1) := by decide +kernel
theorem dX9_leave_0 : decode cX9_leave 0 = .ok (.aload_n 0, 1) := by decide +kernel
theorem dX9_leave_1 : decode cX9_leave 1 = .ok (.iload_n 1, 1) := by decide +kernel
theorem dX9_leave_2 : decode cX9_leave 2 = .ok (.invokevirtual 232, 3) := by decide +kernel
theorem dX9_leave_5 : decode cX9_leave 5 = .ok (.ifCond .ne 5, 3) := by decide +kernel
theorem dX9_leave_8 : decode cX9_leave 8 = .ok (.iconst (-1), 1) := by decide +kernel
theorem dX9_leave_9 : decode cX9_leave 9 = .ok (.ireturn, 1) := by decide +kernel
theorem dX9_leave_10 : decode cX9_leave 10 = .ok (.aload_n 0, 1) := by decide +kernel
theorem dX9_leave_11 : decode cX9_leave 11 = .ok (.invokevirtual 241, 3) := by decide +kernel
theorem dX9_leave_14 : decode cX9_leave 14 = .ok (.iload_n 1, 1) := by decide +kernel
theorem dX9_leave_15 : decode cX9_leave 15 = .ok (.istore_n 2, 1) := by decide +kernel
theorem dX9_leave_16 : decode cX9_leave 16 = .ok (.iload_n 2, 1) := by decide +kernel
theorem dX9_leave_17 : decode cX9_leave 17 = .ok (.aload_n 0, 1) := by decide +kernel
theorem dX9_leave_18 : decode cX9_leave 18 = .ok (.getfield 16, 3) := by decide +kernel
theorem dX9_leave_21 : decode cX9_leave 21 = .ok (.iconst 0, 1) := by decide +kernel
theorem dX9_leave_22 : decode cX9_leave 22 = .ok (.iaload, 1) := by decide +kernel
theorem dX9_leave_23 : decode cX9_leave 23 = .ok (.iconst 1, 1) := by decide +kernel
theorem dX9_leave_24 : decode cX9_leave 24 = .ok (.isub, 1) := by decide +kernel
theorem dX9_leave_25 : decode cX9_leave 25 = .ok (.if_icmp .ge 50, 3) := by decide +kernel
theorem dX9_leave_28 : decode cX9_leave 28 = .ok (.iconst 0, 1) := by decide +kernel
theorem dX9_leave_29 : decode cX9_leave 29 = .ok (.istore_n 3, 1) := by decide +kernel
theorem dX9_leave_30 : decode cX9_leave 30 = .ok (.iload_n 3, 1) := by decide +kernel
theorem dX9_leave_31 : decode cX9_leave 31 = .ok (.iconst 3, 1) := by decide +kernel
theorem dX9_leave_32 : decode cX9_leave 32 = .ok (.if_icmp .ge 37, 3) := by decide +kernel
theorem dX9_leave_35 : decode cX9_leave 35 = .ok (.aload_n 0, 1) := by decide +kernel
theorem dX9_leave_36 : decode cX9_leave 36 = .ok (.getfield 16, 3) := by decide +kernel
theorem dX9_leave_39 : decode cX9_leave 39 = .ok (.iconst 1, 1) := by decide +kernel
theorem dX9_leave_40 : decode cX9_leave 40 = .ok (.bipush 10, 2) := by decide +kernel
theorem dX9_leave_42 : decode cX9_leave 42 = .ok (.iload_n 3, 1) := by decide +kernel
theorem dX9_leave_43 : decode cX9_leave 43 = .ok (.imul, 1) := by decide +kernel
theorem dX9_leave_44 : decode cX9_leave 44 = .ok (.iadd, 1) := by decide +kernel
theorem dX9_leave_45 : decode cX9_leave 45 = .ok (.iload_n 2, 1) := by decide +kernel
theorem dX9_leave_46 : decode cX9_leave 46 = .ok (.iadd, 1) := by decide +kernel
theorem dX9_leave_47 : decode cX9_leave 47 = .ok (.aload_n 0, 1) := by decide +kernel
theorem dX9_leave_48 : decode cX9_leave 48 = .ok (.getfield 16, 3) := by decide +kernel
theorem dX9_leave_51 : decode cX9_leave 51 = .ok (.iconst 1, 1) := by decide +kernel
theorem dX9_leave_52 : decode cX9_leave 52 = .ok (.bipush 10, 2) := by decide +kernel
theorem dX9_leave_54 : decode cX9_leave 54 = .ok (.iload_n 3, 1) := by decide +kernel
theorem dX9_leave_55 : decode cX9_leave 55 = .ok (.imul, 1) := by decide +kernel
theorem dX9_leave_56 : decode cX9_leave 56 = .ok (.iadd, 1) := by decide +kernel
theorem dX9_leave_57 : decode cX9_leave 57 = .ok (.iload_n 2, 1) := by decide +kernel
theorem dX9_leave_58 : decode cX9_leave 58 = .ok (.iadd, 1) := by decide +kernel
theorem dX9_leave_59 : decode cX9_leave 59 = .ok (.iconst 1, 1) := by decide +kernel
theorem dX9_leave_60 : decode cX9_leave 60 = .ok (.iadd, 1) := by decide +kernel
theorem dX9_leave_61 : decode cX9_leave 61 = .ok (.iaload, 1) := by decide +kernel
theorem dX9_leave_62 : decode cX9_leave 62 = .ok (.iastore, 1) := by decide +kernel
theorem dX9_leave_63 : decode cX9_leave 63 = .ok (.iinc 3 1, 3) := by decide +kernel
theorem dX9_leave_66 : decode cX9_leave 66 = .ok (.goto (-36), 3) := by decide +kernel
theorem dX9_leave_69 : decode cX9_leave 69 = .ok (.iinc 2 1, 3) := by decide +kernel
theorem dX9_leave_72 : decode cX9_leave 72 = .ok (.goto (-56), 3) := by decide +kernel
theorem dX9_leave_75 : decode cX9_leave 75 = .ok (.aload_n 0, 1) := by decide +kernel
theorem dX9_leave_76 : decode cX9_leave 76 = .ok (.getfield 16, 3) := by decide +kernel
theorem dX9_leave_79 : decode cX9_leave 79 = .ok (.iconst 0, 1) := by decide +kernel
theorem dX9_leave_80 : decode cX9_leave 80 = .ok (.dup2, 1) := by decide +kernel
theorem dX9_leave_81 : decode cX9_leave 81 = .ok (.iaload, 1) := by decide +kernel
theorem dX9_leave_82 : decode cX9_leave 82 = .ok (.iconst 1, 1) := by decide +kernel
theorem dX9_leave_83 : decode cX9_leave 83 = .ok (.isub, 1) := by decide +kernel
theorem dX9_leave_84 : decode cX9_leave 84 = .ok (.iastore, 1) := by decide +kernel
theorem dX9_leave_85 : decode cX9_leave 85 = .ok (.aload_n 0, 1) := by decide +kernel
theorem dX9_leave_86 : decode cX9_leave 86 = .ok (.getfield 16, 3) := by decide +kernel
theorem dX9_leave_89 : decode cX9_leave 89 = .ok (.iconst 0, 1) := by decide +kernel
theorem dX9_leave_90 : decode cX9_leave 90 = .ok (.iaload, 1) := by decide +kernel
theorem dX9_leave_91 : decode cX9_leave 91 = .ok (.ireturn, 1) := by decide +kernel
theorem dX9_needed_0 : decode cX9_needed 0 = .ok (.bipush (-4), 2) := by decide +kernel
theorem dX9_needed_2 : decode cX9_needed 2 = .ok (.istore_n 1, 1) := by decide +kernel
theorem dX9_needed_3 : decode cX9_needed 3 = .ok (.iconst 0, 1) := by decide +kernel
theorem dX9_needed_4 : decode cX9_needed 4 = .ok (.istore_n 2, 1) := by decide +kernel
theorem dX9_needed_5 : decode cX9_needed 5 = .ok (.iload_n 2, 1) := by decide +kernel
theorem dX9_needed_6 : decode cX9_needed 6 = .ok (.iconst 1, 1) := by decide +kernel
theorem dX9_needed_7 : decode cX9_needed 7 = .ok (.aload_n 0, 1) := by decide +kernel
theorem dX9_needed_8 : decode cX9_needed 8 = .ok (.getfield 7, 3) := by decide +kernel
theorem dX9_needed_11 : decode cX9_needed 11 = .ok (.iconst 1, 1) := by decide +kernel
theorem dX9_needed_12 : decode cX9_needed 12 = .ok (.iaload, 1) := by decide +kernel
theorem dX9_needed_13 : decode cX9_needed 13 = .ok (.ishl, 1) := by decide +kernel
theorem dX9_needed_14 : decode cX9_needed 14 = .ok (.if_icmp .ge 103, 3) := by decide +kernel
theorem dX9_needed_17 : decode cX9_needed 17 = .ok (.aload_n 0, 1) := by decide +kernel
theorem dX9_needed_18 : decode cX9_needed 18 = .ok (.invokevirtual 214, 3) := by decide +kernel
theorem dX9_needed_21 : decode cX9_needed 21 = .ok (.aload_n 0, 1) := by decide +kernel
theorem dX9_needed_22 : decode cX9_needed 22 = .ok (.getfield 40, 3) := by decide +kernel
theorem dX9_needed_25 : decode cX9_needed 25 = .ok (.iconst 0, 1) := by decide +kernel
theorem dX9_needed_26 : decode cX9_needed 26 = .ok (.iconst 0, 1) := by decide +kernel
theorem dX9_needed_27 : decode cX9_needed 27 = .ok (.iastore, 1) := by decide +kernel
theorem dX9_needed_28 : decode cX9_needed 28 = .ok (.iconst 0, 1) := by decide +kernel
theorem dX9_needed_29 : decode cX9_needed 29 = .ok (.istore_n 3, 1) := by decide +kernel
theorem dX9_needed_30 : decode cX9_needed 30 = .ok (.iload_n 3, 1) := by decide +kernel
theorem dX9_needed_31 : decode cX9_needed 31 = .ok (.aload_n 0, 1) := by decide +kernel
theorem dX9_needed_32 : decode cX9_needed 32 = .ok (.getfield 7, 3) := by decide +kernel
theorem dX9_needed_35 : decode cX9_needed 35 = .ok (.iconst 1, 1) := by decide +kernel
theorem dX9_needed_36 : decode cX9_needed 36 = .ok (.iaload, 1) := by decide +kernel
theorem dX9_needed_37 : decode cX9_needed 37 = .ok (.if_icmp .ge 28, 3) := by decide +kernel
theorem dX9_needed_40 : decode cX9_needed 40 = .ok (.iload_n 2, 1) := by decide +kernel
theorem dX9_needed_41 : decode cX9_needed 41 = .ok (.iload_n 3, 1) := by decide +kernel
theorem dX9_needed_42 : decode cX9_needed 42 = .ok (.invokestatic 166, 3) := by decide +kernel
theorem dX9_needed_45 : decode cX9_needed 45 = .ok (.ifCond .eq 14, 3) := by decide +kernel
theorem dX9_needed_48 : decode cX9_needed 48 = .ok (.aload_n 0, 1) := by decide +kernel
theorem dX9_needed_49 : decode cX9_needed 49 = .ok (.getfield 40, 3) := by decide +kernel
theorem dX9_needed_52 : decode cX9_needed 52 = .ok (.iload_n 3, 1) := by decide +kernel
theorem dX9_needed_53 : decode cX9_needed 53 = .ok (.iconst 0, 1) := by decide +kernel
theorem dX9_needed_54 : decode cX9_needed 54 = .ok (.bipush 119, 2) := by decide +kernel
theorem dX9_needed_56 : decode cX9_needed 56 = .ok (.invokestatic 244, 3) := by decide +kernel
theorem dX9_needed_59 : decode cX9_needed 59 = .ok (.iinc 3 1, 3) := by decide +kernel
theorem dX9_needed_62 : decode cX9_needed 62 = .ok (.goto (-32), 3) := by decide +kernel
theorem dX9_needed_65 : decode cX9_needed 65 = .ok (.aload_n 0, 1) := by decide +kernel
theorem dX9_needed_66 : decode cX9_needed 66 = .ok (.invokevirtual 217, 3) := by decide +kernel
theorem dX9_needed_69 : decode cX9_needed 69 = .ok (.iload_n 1, 1) := by decide +kernel
theorem dX9_needed_70 : decode cX9_needed 70 = .ok (.bipush (-4), 2) := by decide +kernel
theorem dX9_needed_72 : decode cX9_needed 72 = .ok (.if_icmp .eq 14, 3) := by decide +kernel
theorem dX9_needed_75 : decode cX9_needed 75 = .ok (.iload_n 2, 1) := by decide +kernel
theorem dX9_needed_76 : decode cX9_needed 76 = .ok (.invokestatic 174, 3) := by decide +kernel
theorem dX9_needed_79 : decode cX9_needed 79 = .ok (.iload_n 1, 1) := by decide +kernel
theorem dX9_needed_80 : decode cX9_needed 80 = .ok (.invokestatic 174, 3) := by decide +kernel
theorem dX9_needed_83 : decode cX9_needed 83 = .ok (.if_icmp .ge 7, 3) := by decide +kernel
theorem dX9_needed_86 : decode cX9_needed 86 = .ok (.iconst 1, 1) := by decide +kernel
theorem dX9_needed_87 : decode cX9_needed 87 = .ok (.goto 4, 3) := by decide +kernel
theorem dX9_needed_90 : decode cX9_needed 90 = .ok (.iconst 0, 1) := by decide +kernel
theorem dX9_needed_91 : decode cX9_needed 91 = .ok (.istore_n 3, 1) := by decide +kernel
theorem dX9_needed_92 : decode cX9_needed 92 = .ok (.aload_n 0, 1) := by decide +kernel
theorem dX9_needed_93 : decode cX9_needed 93 = .ok (.getfield 182, 3) := by decide +kernel
theorem dX9_needed_96 : decode cX9_needed 96 = .ok (.bipush (-4), 2) := by decide +kernel
theorem dX9_needed_98 : decode cX9_needed 98 = .ok (.if_icmp .ne 11, 3) := by decide +kernel
theorem dX9_needed_101 : decode cX9_needed 101 = .ok (.iload_n 3, 1) := by decide +kernel
theorem dX9_needed_102 : decode cX9_needed 102 = .ok (.ifCond .eq 7, 3) := by decide +kernel
theorem dX9_needed_105 : decode cX9_needed 105 = .ok (.iload_n 2, 1) := by decide +kernel
theorem dX9_needed_106 : decode cX9_needed 106 = .ok (.goto 4, 3) := by decide +kernel
theorem dX9_needed_109 : decode cX9_needed 109 = .ok (.iload_n 1, 1) := by decide +kernel
theorem dX9_needed_110 : decode cX9_needed 110 = .ok (.istore_n 1, 1) := by decide +kernel
theorem dX9_needed_111 : decode cX9_needed 111 = .ok (.iinc 2 1, 3) := by decide +kernel
theorem dX9_needed_114 : decode cX9_needed 114 = .ok (.goto (-109), 3) := by decide +kernel
theorem dX9_needed_117 : decode cX9_needed 117 = .ok (.iload_n 1, 1) := by decide +kernel
theorem dX9_needed_118 : decode cX9_needed 118 = .ok (.ireturn, 1) := by decide +kernel
theorem dX9_odds_0 : decode cX9_odds 0 = .ok (.iload_n 1, 1) := by decide +kernel
theorem dX9_odds_1 : decode cX9_odds 1 = .ok (.i2l, 1) := by decide +kernel
theorem dX9_odds_2 : decode cX9_odds 2 = .ok (.lconst 0, 1) := by decide +kernel
theorem dX9_odds_3 : decode cX9_odds 3 = .ok (.ldc2_w 223, 3) := by decide +kernel
theorem dX9_odds_6 : decode cX9_odds 6 = .ok (.invokestatic 87, 3) := by decide +kernel
theorem dX9_odds_9 : decode cX9_odds 9 = .ok (.ifCond .eq 22, 3) := by decide +kernel
theorem dX9_odds_12 : decode cX9_odds 12 = .ok (.iload_n 2, 1) := by decide +kernel
theorem dX9_odds_13 : decode cX9_odds 13 = .ok (.i2l, 1) := by decide +kernel
theorem dX9_odds_14 : decode cX9_odds 14 = .ok (.lconst 0, 1) := by decide +kernel
theorem dX9_odds_15 : decode cX9_odds 15 = .ok (.ldc2_w 277, 3) := by decide +kernel
theorem dX9_odds_18 : decode cX9_odds 18 = .ok (.invokestatic 87, 3) := by decide +kernel
theorem dX9_odds_21 : decode cX9_odds 21 = .ok (.ifCond .eq 10, 3) := by decide +kernel
theorem dX9_odds_24 : decode cX9_odds 24 = .ok (.iload_n 3, 1) := by decide +kernel
theorem dX9_odds_25 : decode cX9_odds 25 = .ok (.invokestatic 225, 3) := by decide +kernel
theorem dX9_odds_28 : decode cX9_odds 28 = .ok (.ifCond .ne 5, 3) := by decide +kernel
theorem dX9_odds_31 : decode cX9_odds 31 = .ok (.iconst (-1), 1) := by decide +kernel
theorem dX9_odds_32 : decode cX9_odds 32 = .ok (.ireturn, 1) := by decide +kernel
theorem dX9_odds_33 : decode cX9_odds 33 = .ok (.iload_n 1, 1) := by decide +kernel
theorem dX9_odds_34 : decode cX9_odds 34 = .ok (.aload_n 0, 1) := by decide +kernel
theorem dX9_odds_35 : decode cX9_odds 35 = .ok (.getfield 16, 3) := by decide +kernel
theorem dX9_odds_38 : decode cX9_odds 38 = .ok (.iconst 0, 1) := by decide +kernel
theorem dX9_odds_39 : decode cX9_odds 39 = .ok (.iaload, 1) := by decide +kernel
theorem dX9_odds_40 : decode cX9_odds 40 = .ok (.if_icmp .ge 7, 3) := by decide +kernel
theorem dX9_odds_43 : decode cX9_odds 43 = .ok (.iload_n 1, 1) := by decide +kernel
theorem dX9_odds_44 : decode cX9_odds 44 = .ok (.goto 9, 3) := by decide +kernel
theorem dX9_odds_47 : decode cX9_odds 47 = .ok (.aload_n 0, 1) := by decide +kernel
theorem dX9_odds_48 : decode cX9_odds 48 = .ok (.getfield 16, 3) := by decide +kernel
theorem dX9_odds_51 : decode cX9_odds 51 = .ok (.iconst 0, 1) := by decide +kernel
theorem dX9_odds_52 : decode cX9_odds 52 = .ok (.iaload, 1) := by decide +kernel
theorem dX9_odds_53 : decode cX9_odds 53 = .ok (.istore 4, 2) := by decide +kernel
theorem dX9_odds_55 : decode cX9_odds 55 = .ok (.lconst 0, 1) := by decide +kernel
theorem dX9_odds_56 : decode cX9_odds 56 = .ok (.lstore 5, 2) := by decide +kernel
theorem dX9_odds_58 : decode cX9_odds 58 = .ok (.lconst 1, 1) := by decide +kernel
theorem dX9_odds_59 : decode cX9_odds 59 = .ok (.lstore 7, 2) := by decide +kernel
theorem dX9_odds_61 : decode cX9_odds 61 = .ok (.iconst 0, 1) := by decide +kernel
theorem dX9_odds_62 : decode cX9_odds 62 = .ok (.istore 9, 2) := by decide +kernel
theorem dX9_odds_64 : decode cX9_odds 64 = .ok (.iload 9, 2) := by decide +kernel
theorem dX9_odds_66 : decode cX9_odds 66 = .ok (.iload 4, 2) := by decide +kernel
theorem dX9_odds_68 : decode cX9_odds 68 = .ok (.if_icmp .ge 17, 3) := by decide +kernel
theorem dX9_odds_71 : decode cX9_odds 71 = .ok (.lload 7, 2) := by decide +kernel
theorem dX9_odds_73 : decode cX9_odds 73 = .ok (.ldc2_w 277, 3) := by decide +kernel
theorem dX9_odds_76 : decode cX9_odds 76 = .ok (.lmul, 1) := by decide +kernel
theorem dX9_odds_77 : decode cX9_odds 77 = .ok (.lstore 7, 2) := by decide +kernel
theorem dX9_odds_79 : decode cX9_odds 79 = .ok (.iinc 9 1, 3) := by decide +kernel
theorem dX9_odds_82 : decode cX9_odds 82 = .ok (.goto (-18), 3) := by decide +kernel
theorem dX9_odds_85 : decode cX9_odds 85 = .ok (.iconst 0, 1) := by decide +kernel
theorem dX9_odds_86 : decode cX9_odds 86 = .ok (.istore 9, 2) := by decide +kernel
theorem dX9_odds_88 : decode cX9_odds 88 = .ok (.iload 9, 2) := by decide +kernel
theorem dX9_odds_90 : decode cX9_odds 90 = .ok (.iconst 1, 1) := by decide +kernel
theorem dX9_odds_91 : decode cX9_odds 91 = .ok (.iload 4, 2) := by decide +kernel
theorem dX9_odds_93 : decode cX9_odds 93 = .ok (.ishl, 1) := by decide +kernel
theorem dX9_odds_94 : decode cX9_odds 94 = .ok (.if_icmp .ge 164, 3) := by decide +kernel
theorem dX9_odds_97 : decode cX9_odds 97 = .ok (.aload_n 0, 1) := by decide +kernel
theorem dX9_odds_98 : decode cX9_odds 98 = .ok (.invokevirtual 214, 3) := by decide +kernel
theorem dX9_odds_101 : decode cX9_odds 101 = .ok (.lconst 1, 1) := by decide +kernel
theorem dX9_odds_102 : decode cX9_odds 102 = .ok (.lstore 10, 2) := by decide +kernel
theorem dX9_odds_104 : decode cX9_odds 104 = .ok (.aload_n 0, 1) := by decide +kernel
theorem dX9_odds_105 : decode cX9_odds 105 = .ok (.getfield 40, 3) := by decide +kernel
theorem dX9_odds_108 : decode cX9_odds 108 = .ok (.iconst 0, 1) := by decide +kernel
theorem dX9_odds_109 : decode cX9_odds 109 = .ok (.iconst 0, 1) := by decide +kernel
theorem dX9_odds_110 : decode cX9_odds 110 = .ok (.iastore, 1) := by decide +kernel
theorem dX9_odds_111 : decode cX9_odds 111 = .ok (.iconst 0, 1) := by decide +kernel
theorem dX9_odds_112 : decode cX9_odds 112 = .ok (.istore 12, 2) := by decide +kernel
theorem dX9_odds_114 : decode cX9_odds 114 = .ok (.iload 12, 2) := by decide +kernel
theorem dX9_odds_116 : decode cX9_odds 116 = .ok (.aload_n 0, 1) := by decide +kernel
theorem dX9_odds_117 : decode cX9_odds 117 = .ok (.getfield 16, 3) := by decide +kernel
theorem dX9_odds_120 : decode cX9_odds 120 = .ok (.iconst 0, 1) := by decide +kernel
theorem dX9_odds_121 : decode cX9_odds 121 = .ok (.iaload, 1) := by decide +kernel
theorem dX9_odds_122 : decode cX9_odds 122 = .ok (.if_icmp .ge 106, 3) := by decide +kernel
theorem dX9_odds_125 : decode cX9_odds 125 = .ok (.iload 12, 2) := by decide +kernel
theorem dX9_odds_127 : decode cX9_odds 127 = .ok (.iload 4, 2) := by decide +kernel
theorem dX9_odds_129 : decode cX9_odds 129 = .ok (.if_icmp .ge 13, 3) := by decide +kernel
theorem dX9_odds_132 : decode cX9_odds 132 = .ok (.iload 9, 2) := by decide +kernel
theorem dX9_odds_134 : decode cX9_odds 134 = .ok (.iload 12, 2) := by decide +kernel
theorem dX9_odds_136 : decode cX9_odds 136 = .ok (.invokestatic 166, 3) := by decide +kernel
theorem dX9_odds_139 : decode cX9_odds 139 = .ok (.ifCond .ne 7, 3) := by decide +kernel
theorem dX9_odds_142 : decode cX9_odds 142 = .ok (.iconst 1, 1) := by decide +kernel
theorem dX9_odds_143 : decode cX9_odds 143 = .ok (.goto 4, 3) := by decide +kernel
theorem dX9_odds_146 : decode cX9_odds 146 = .ok (.iconst 0, 1) := by decide +kernel
theorem dX9_odds_147 : decode cX9_odds 147 = .ok (.istore 13, 2) := by decide +kernel
theorem dX9_odds_149 : decode cX9_odds 149 = .ok (.iload 13, 2) := by decide +kernel
theorem dX9_odds_151 : decode cX9_odds 151 = .ok (.ifCond .eq 39, 3) := by decide +kernel
theorem dX9_odds_154 : decode cX9_odds 154 = .ok (.aload_n 0, 1) := by decide +kernel
theorem dX9_odds_155 : decode cX9_odds 155 = .ok (.getfield 40, 3) := by decide +kernel
theorem dX9_odds_158 : decode cX9_odds 158 = .ok (.aload_n 0, 1) := by decide +kernel
theorem dX9_odds_159 : decode cX9_odds 159 = .ok (.getfield 16, 3) := by decide +kernel
theorem dX9_odds_162 : decode cX9_odds 162 = .ok (.iconst 1, 1) := by decide +kernel
theorem dX9_odds_163 : decode cX9_odds 163 = .ok (.iload 12, 2) := by decide +kernel
theorem dX9_odds_165 : decode cX9_odds 165 = .ok (.iadd, 1) := by decide +kernel
theorem dX9_odds_166 : decode cX9_odds 166 = .ok (.iaload, 1) := by decide +kernel
theorem dX9_odds_167 : decode cX9_odds 167 = .ok (.aload_n 0, 1) := by decide +kernel
theorem dX9_odds_168 : decode cX9_odds 168 = .ok (.getfield 16, 3) := by decide +kernel
theorem dX9_odds_171 : decode cX9_odds 171 = .ok (.bipush 11, 2) := by decide +kernel
theorem dX9_odds_173 : decode cX9_odds 173 = .ok (.iload 12, 2) := by decide +kernel
theorem dX9_odds_175 : decode cX9_odds 175 = .ok (.iadd, 1) := by decide +kernel
theorem dX9_odds_176 : decode cX9_odds 176 = .ok (.iaload, 1) := by decide +kernel
theorem dX9_odds_177 : decode cX9_odds 177 = .ok (.aload_n 0, 1) := by decide +kernel
theorem dX9_odds_178 : decode cX9_odds 178 = .ok (.getfield 16, 3) := by decide +kernel
theorem dX9_odds_181 : decode cX9_odds 181 = .ok (.bipush 21, 2) := by decide +kernel
theorem dX9_odds_183 : decode cX9_odds 183 = .ok (.iload 12, 2) := by decide +kernel
theorem dX9_odds_185 : decode cX9_odds 185 = .ok (.iadd, 1) := by decide +kernel
theorem dX9_odds_186 : decode cX9_odds 186 = .ok (.iaload, 1) := by decide +kernel
theorem dX9_odds_187 : decode cX9_odds 187 = .ok (.invokestatic 244, 3) := by decide +kernel
theorem dX9_odds_190 : decode cX9_odds 190 = .ok (.lload 10, 2) := by decide +kernel
theorem dX9_odds_192 : decode cX9_odds 192 = .ok (.iload 12, 2) := by decide +kernel
theorem dX9_odds_194 : decode cX9_odds 194 = .ok (.iload 4, 2) := by decide +kernel
theorem dX9_odds_196 : decode cX9_odds 196 = .ok (.if_icmp .lt 7, 3) := by decide +kernel
theorem dX9_odds_199 : decode cX9_odds 199 = .ok (.lconst 1, 1) := by decide +kernel
theorem dX9_odds_200 : decode cX9_odds 200 = .ok (.goto 19, 3) := by decide +kernel
theorem dX9_odds_203 : decode cX9_odds 203 = .ok (.iload 13, 2) := by decide +kernel
theorem dX9_odds_205 : decode cX9_odds 205 = .ok (.ifCond .eq 12, 3) := by decide +kernel
theorem dX9_odds_208 : decode cX9_odds 208 = .ok (.ldc2_w 277, 3) := by decide +kernel
theorem dX9_odds_211 : decode cX9_odds 211 = .ok (.iload_n 2, 1) := by decide +kernel
theorem dX9_odds_212 : decode cX9_odds 212 = .ok (.i2l, 1) := by decide +kernel
theorem dX9_odds_213 : decode cX9_odds 213 = .ok (.lsub, 1) := by decide +kernel
theorem dX9_odds_214 : decode cX9_odds 214 = .ok (.goto 5, 3) := by decide +kernel
theorem dX9_odds_217 : decode cX9_odds 217 = .ok (.iload_n 2, 1) := by decide +kernel
theorem dX9_odds_218 : decode cX9_odds 218 = .ok (.i2l, 1) := by decide +kernel
theorem dX9_odds_219 : decode cX9_odds 219 = .ok (.lmul, 1) := by decide +kernel
theorem dX9_odds_220 : decode cX9_odds 220 = .ok (.lstore 10, 2) := by decide +kernel
theorem dX9_odds_222 : decode cX9_odds 222 = .ok (.iinc 12 1, 3) := by decide +kernel
theorem dX9_odds_225 : decode cX9_odds 225 = .ok (.goto (-111), 3) := by decide +kernel
theorem dX9_odds_228 : decode cX9_odds 228 = .ok (.aload_n 0, 1) := by decide +kernel
theorem dX9_odds_229 : decode cX9_odds 229 = .ok (.invokevirtual 217, 3) := by decide +kernel
theorem dX9_odds_232 : decode cX9_odds 232 = .ok (.lload 5, 2) := by decide +kernel
theorem dX9_odds_234 : decode cX9_odds 234 = .ok (.aload_n 0, 1) := by decide +kernel
theorem dX9_odds_235 : decode cX9_odds 235 = .ok (.getfield 182, 3) := by decide +kernel
theorem dX9_odds_238 : decode cX9_odds 238 = .ok (.bipush (-4), 2) := by decide +kernel
theorem dX9_odds_240 : decode cX9_odds 240 = .ok (.if_icmp .ne 8, 3) := by decide +kernel
theorem dX9_odds_243 : decode cX9_odds 243 = .ok (.lload 10, 2) := by decide +kernel
theorem dX9_odds_245 : decode cX9_odds 245 = .ok (.goto 4, 3) := by decide +kernel
theorem dX9_odds_248 : decode cX9_odds 248 = .ok (.lconst 0, 1) := by decide +kernel
theorem dX9_odds_249 : decode cX9_odds 249 = .ok (.ladd, 1) := by decide +kernel
theorem dX9_odds_250 : decode cX9_odds 250 = .ok (.lstore 5, 2) := by decide +kernel
theorem dX9_odds_252 : decode cX9_odds 252 = .ok (.iinc 9 1, 3) := by decide +kernel
theorem dX9_odds_255 : decode cX9_odds 255 = .ok (.goto (-167), 3) := by decide +kernel
theorem dX9_odds_258 : decode cX9_odds 258 = .ok (.lload 5, 2) := by decide +kernel
theorem dX9_odds_260 : decode cX9_odds 260 = .ok (.lload 7, 2) := by decide +kernel
theorem dX9_odds_262 : decode cX9_odds 262 = .ok (.iload_n 3, 1) := by decide +kernel
theorem dX9_odds_263 : decode cX9_odds 263 = .ok (.invokestatic 228, 3) := by decide +kernel
theorem dX9_odds_266 : decode cX9_odds 266 = .ok (.ireturn, 1) := by decide +kernel
theorem dX9_pays_0 : decode cX9_pays 0 = .ok (.iconst 0, 1) := by decide +kernel
theorem dX9_pays_1 : decode cX9_pays 1 = .ok (.istore 5, 2) := by decide +kernel
theorem dX9_pays_3 : decode cX9_pays 3 = .ok (.iload 5, 2) := by decide +kernel
theorem dX9_pays_5 : decode cX9_pays 5 = .ok (.aload_n 0, 1) := by decide +kernel
theorem dX9_pays_6 : decode cX9_pays 6 = .ok (.getfield 37, 3) := by decide +kernel
theorem dX9_pays_9 : decode cX9_pays 9 = .ok (.iconst 1, 1) := by decide +kernel
theorem dX9_pays_10 : decode cX9_pays 10 = .ok (.iaload, 1) := by decide +kernel
theorem dX9_pays_11 : decode cX9_pays 11 = .ok (.if_icmp .ge 67, 3) := by decide +kernel
theorem dX9_pays_14 : decode cX9_pays 14 = .ok (.iload_n 1, 1) := by decide +kernel
theorem dX9_pays_15 : decode cX9_pays 15 = .ok (.iload 5, 2) := by decide +kernel
theorem dX9_pays_17 : decode cX9_pays 17 = .ok (.invokestatic 166, 3) := by decide +kernel
theorem dX9_pays_20 : decode cX9_pays 20 = .ok (.ifCond .eq 52, 3) := by decide +kernel
theorem dX9_pays_23 : decode cX9_pays 23 = .ok (.aload_n 0, 1) := by decide +kernel
theorem dX9_pays_24 : decode cX9_pays 24 = .ok (.getfield 43, 3) := by decide +kernel
theorem dX9_pays_27 : decode cX9_pays 27 = .ok (.iload 5, 2) := by decide +kernel
theorem dX9_pays_29 : decode cX9_pays 29 = .ok (.dup2, 1) := by decide +kernel
theorem dX9_pays_30 : decode cX9_pays 30 = .ok (.iaload, 1) := by decide +kernel
theorem dX9_pays_31 : decode cX9_pays 31 = .ok (.aload_n 0, 1) := by decide +kernel
theorem dX9_pays_32 : decode cX9_pays 32 = .ok (.getfield 37, 3) := by decide +kernel
theorem dX9_pays_35 : decode cX9_pays 35 = .ok (.iload 5, 2) := by decide +kernel
theorem dX9_pays_37 : decode cX9_pays 37 = .ok (.iload_n 2, 1) := by decide +kernel
theorem dX9_pays_38 : decode cX9_pays 38 = .ok (.iload_n 3, 1) := by decide +kernel
theorem dX9_pays_39 : decode cX9_pays 39 = .ok (.invokestatic 178, 3) := by decide +kernel
theorem dX9_pays_42 : decode cX9_pays 42 = .ok (.isub, 1) := by decide +kernel
theorem dX9_pays_43 : decode cX9_pays 43 = .ok (.iastore, 1) := by decide +kernel
theorem dX9_pays_44 : decode cX9_pays 44 = .ok (.aload_n 0, 1) := by decide +kernel
theorem dX9_pays_45 : decode cX9_pays 45 = .ok (.getfield 46, 3) := by decide +kernel
theorem dX9_pays_48 : decode cX9_pays 48 = .ok (.iload 5, 2) := by decide +kernel
theorem dX9_pays_50 : decode cX9_pays 50 = .ok (.dup2, 1) := by decide +kernel
theorem dX9_pays_51 : decode cX9_pays 51 = .ok (.iaload, 1) := by decide +kernel
theorem dX9_pays_52 : decode cX9_pays 52 = .ok (.iload 4, 2) := by decide +kernel
theorem dX9_pays_54 : decode cX9_pays 54 = .ok (.iload_n 1, 1) := by decide +kernel
theorem dX9_pays_55 : decode cX9_pays 55 = .ok (.invokestatic 174, 3) := by decide +kernel
theorem dX9_pays_58 : decode cX9_pays 58 = .ok (.idiv, 1) := by decide +kernel
theorem dX9_pays_59 : decode cX9_pays 59 = .ok (.iadd, 1) := by decide +kernel
theorem dX9_pays_60 : decode cX9_pays 60 = .ok (.iastore, 1) := by decide +kernel
theorem dX9_pays_61 : decode cX9_pays 61 = .ok (.aload_n 0, 1) := by decide +kernel
theorem dX9_pays_62 : decode cX9_pays 62 = .ok (.getfield 52, 3) := by decide +kernel
theorem dX9_pays_65 : decode cX9_pays 65 = .ok (.iload 5, 2) := by decide +kernel
theorem dX9_pays_67 : decode cX9_pays 67 = .ok (.dup2, 1) := by decide +kernel
theorem dX9_pays_68 : decode cX9_pays 68 = .ok (.iaload, 1) := by decide +kernel
theorem dX9_pays_69 : decode cX9_pays 69 = .ok (.iconst 1, 1) := by decide +kernel
theorem dX9_pays_70 : decode cX9_pays 70 = .ok (.iadd, 1) := by decide +kernel
theorem dX9_pays_71 : decode cX9_pays 71 = .ok (.iastore, 1) := by decide +kernel
theorem dX9_pays_72 : decode cX9_pays 72 = .ok (.iinc 5 1, 3) := by decide +kernel
theorem dX9_pays_75 : decode cX9_pays 75 = .ok (.goto (-72), 3) := by decide +kernel
theorem dX9_pays_78 : decode cX9_pays 78 = .ok (.return_, 1) := by decide +kernel
theorem dX9_print_0 : decode cX9_print 0 = .ok (.aload_n 0, 1) := by decide +kernel
theorem dX9_print_1 : decode cX9_print 1 = .ok (.iload_n 1, 1) := by decide +kernel
theorem dX9_print_2 : decode cX9_print 2 = .ok (.invokevirtual 209, 3) := by decide +kernel
theorem dX9_print_5 : decode cX9_print 5 = .ok (.ifCond .eq 15, 3) := by decide +kernel
theorem dX9_print_8 : decode cX9_print 8 = .ok (.iload_n 2, 1) := by decide +kernel
theorem dX9_print_9 : decode cX9_print 9 = .ok (.i2l, 1) := by decide +kernel
theorem dX9_print_10 : decode cX9_print 10 = .ok (.lconst 0, 1) := by decide +kernel
theorem dX9_print_11 : decode cX9_print 11 = .ok (.ldc2_w 272, 3) := by decide +kernel
theorem dX9_print_14 : decode cX9_print 14 = .ok (.invokestatic 87, 3) := by decide +kernel
theorem dX9_print_17 : decode cX9_print 17 = .ok (.ifCond .ne 5, 3) := by decide +kernel
theorem dX9_print_20 : decode cX9_print 20 = .ok (.iconst (-1), 1) := by decide +kernel
theorem dX9_print_21 : decode cX9_print 21 = .ok (.ireturn, 1) := by decide +kernel
theorem dX9_print_22 : decode cX9_print 22 = .ok (.aload_n 0, 1) := by decide +kernel
theorem dX9_print_23 : decode cX9_print 23 = .ok (.getfield 139, 3) := by decide +kernel
theorem dX9_print_26 : decode cX9_print 26 = .ok (.bipush 8, 2) := by decide +kernel
theorem dX9_print_28 : decode cX9_print 28 = .ok (.if_icmp .ne 6, 3) := by decide +kernel
theorem dX9_print_31 : decode cX9_print 31 = .ok (.bipush (-3), 2) := by decide +kernel
theorem dX9_print_33 : decode cX9_print 33 = .ok (.ireturn, 1) := by decide +kernel
theorem dX9_print_34 : decode cX9_print 34 = .ok (.aload_n 0, 1) := by decide +kernel
theorem dX9_print_35 : decode cX9_print 35 = .ok (.getfield 31, 3) := by decide +kernel
theorem dX9_print_38 : decode cX9_print 38 = .ok (.iconst 2, 1) := by decide +kernel
theorem dX9_print_39 : decode cX9_print 39 = .ok (.aload_n 0, 1) := by decide +kernel
theorem dX9_print_40 : decode cX9_print 40 = .ok (.getfield 139, 3) := by decide +kernel
theorem dX9_print_43 : decode cX9_print 43 = .ok (.imul, 1) := by decide +kernel
theorem dX9_print_44 : decode cX9_print 44 = .ok (.iload_n 1, 1) := by decide +kernel
theorem dX9_print_45 : decode cX9_print 45 = .ok (.iastore, 1) := by decide +kernel
theorem dX9_print_46 : decode cX9_print 46 = .ok (.aload_n 0, 1) := by decide +kernel
theorem dX9_print_47 : decode cX9_print 47 = .ok (.getfield 31, 3) := by decide +kernel
theorem dX9_print_50 : decode cX9_print 50 = .ok (.iconst 2, 1) := by decide +kernel
theorem dX9_print_51 : decode cX9_print 51 = .ok (.aload_n 0, 1) := by decide +kernel
theorem dX9_print_52 : decode cX9_print 52 = .ok (.getfield 139, 3) := by decide +kernel
theorem dX9_print_55 : decode cX9_print 55 = .ok (.imul, 1) := by decide +kernel
theorem dX9_print_56 : decode cX9_print 56 = .ok (.iconst 1, 1) := by decide +kernel
theorem dX9_print_57 : decode cX9_print 57 = .ok (.iadd, 1) := by decide +kernel
theorem dX9_print_58 : decode cX9_print 58 = .ok (.iload_n 2, 1) := by decide +kernel
theorem dX9_print_59 : decode cX9_print 59 = .ok (.iastore, 1) := by decide +kernel
theorem dX9_print_60 : decode cX9_print 60 = .ok (.aload_n 0, 1) := by decide +kernel
theorem dX9_print_61 : decode cX9_print 61 = .ok (.dup, 1) := by decide +kernel
theorem dX9_print_62 : decode cX9_print 62 = .ok (.getfield 139, 3) := by decide +kernel
theorem dX9_print_65 : decode cX9_print 65 = .ok (.iconst 1, 1) := by decide +kernel
theorem dX9_print_66 : decode cX9_print 66 = .ok (.iadd, 1) := by decide +kernel
theorem dX9_print_67 : decode cX9_print 67 = .ok (.putfield 139, 3) := by decide +kernel
theorem dX9_print_70 : decode cX9_print 70 = .ok (.aload_n 0, 1) := by decide +kernel
theorem dX9_print_71 : decode cX9_print 71 = .ok (.getfield 139, 3) := by decide +kernel
theorem dX9_print_74 : decode cX9_print 74 = .ok (.ireturn, 1) := by decide +kernel
theorem dX9_rain_0 : decode cX9_rain 0 = .ok (.iload_n 1, 1) := by decide +kernel
theorem dX9_rain_1 : decode cX9_rain 1 = .ok (.i2l, 1) := by decide +kernel
theorem dX9_rain_2 : decode cX9_rain 2 = .ok (.lconst 0, 1) := by decide +kernel
theorem dX9_rain_3 : decode cX9_rain 3 = .ok (.ldc2_w 279, 3) := by decide +kernel
theorem dX9_rain_6 : decode cX9_rain 6 = .ok (.invokestatic 87, 3) := by decide +kernel
theorem dX9_rain_9 : decode cX9_rain 9 = .ok (.ifCond .eq 10, 3) := by decide +kernel
theorem dX9_rain_12 : decode cX9_rain 12 = .ok (.iload_n 2, 1) := by decide +kernel
theorem dX9_rain_13 : decode cX9_rain 13 = .ok (.invokestatic 225, 3) := by decide +kernel
theorem dX9_rain_16 : decode cX9_rain 16 = .ok (.ifCond .ne 5, 3) := by decide +kernel
theorem dX9_rain_19 : decode cX9_rain 19 = .ok (.iconst (-1), 1) := by decide +kernel
theorem dX9_rain_20 : decode cX9_rain 20 = .ok (.ireturn, 1) := by decide +kernel
theorem dX9_rain_21 : decode cX9_rain 21 = .ok (.aload_n 0, 1) := by decide +kernel
theorem dX9_rain_22 : decode cX9_rain 22 = .ok (.invokevirtual 214, 3) := by decide +kernel
theorem dX9_rain_25 : decode cX9_rain 25 = .ok (.aload_n 0, 1) := by decide +kernel
theorem dX9_rain_26 : decode cX9_rain 26 = .ok (.iload_n 1, 1) := by decide +kernel
theorem dX9_rain_27 : decode cX9_rain 27 = .ok (.putfield 155, 3) := by decide +kernel
theorem dX9_rain_30 : decode cX9_rain 30 = .ok (.aload_n 0, 1) := by decide +kernel
theorem dX9_rain_31 : decode cX9_rain 31 = .ok (.invokevirtual 217, 3) := by decide +kernel
theorem dX9_rain_34 : decode cX9_rain 34 = .ok (.iload_n 2, 1) := by decide +kernel
theorem dX9_rain_35 : decode cX9_rain 35 = .ok (.ifCond .ne 10, 3) := by decide +kernel
theorem dX9_rain_38 : decode cX9_rain 38 = .ok (.aload_n 0, 1) := by decide +kernel
theorem dX9_rain_39 : decode cX9_rain 39 = .ok (.getfield 182, 3) := by decide +kernel
theorem dX9_rain_42 : decode cX9_rain 42 = .ok (.goto 8, 3) := by decide +kernel
theorem dX9_rain_45 : decode cX9_rain 45 = .ok (.aload_n 0, 1) := by decide +kernel
theorem dX9_rain_46 : decode cX9_rain 46 = .ok (.iconst 0, 1) := by decide +kernel
theorem dX9_rain_47 : decode cX9_rain 47 = .ok (.invokevirtual 266, 3) := by decide +kernel
theorem dX9_rain_50 : decode cX9_rain 50 = .ok (.ireturn, 1) := by decide +kernel
theorem dX9_rainAt_0 : decode cX9_rainAt 0 = .ok (.aload_n 0, 1) := by decide +kernel
theorem dX9_rainAt_1 : decode cX9_rainAt 1 = .ok (.getfield 155, 3) := by decide +kernel
theorem dX9_rainAt_4 : decode cX9_rainAt 4 = .ok (.ifCond .ge 10, 3) := by decide +kernel
theorem dX9_rainAt_7 : decode cX9_rainAt 7 = .ok (.aload_n 0, 1) := by decide +kernel
theorem dX9_rainAt_8 : decode cX9_rainAt 8 = .ok (.getfield 37, 3) := by decide +kernel
theorem dX9_rainAt_11 : decode cX9_rainAt 11 = .ok (.iconst 3, 1) := by decide +kernel
theorem dX9_rainAt_12 : decode cX9_rainAt 12 = .ok (.iaload, 1) := by decide +kernel
theorem dX9_rainAt_13 : decode cX9_rainAt 13 = .ok (.ireturn, 1) := by decide +kernel
theorem dX9_rainAt_14 : decode cX9_rainAt 14 = .ok (.ldc2_w 158, 3) := by decide +kernel
theorem dX9_rainAt_17 : decode cX9_rainAt 17 = .ok (.aload_n 0, 1) := by decide +kernel
theorem dX9_rainAt_18 : decode cX9_rainAt 18 = .ok (.getfield 155, 3) := by decide +kernel
theorem dX9_rainAt_21 : decode cX9_rainAt 21 = .ok (.i2l, 1) := by decide +kernel
theorem dX9_rainAt_22 : decode cX9_rainAt 22 = .ok (.lmul, 1) := by decide +kernel
theorem dX9_rainAt_23 : decode cX9_rainAt 23 = .ok (.ldc2_w 160, 3) := by decide +kernel
theorem dX9_rainAt_26 : decode cX9_rainAt 26 = .ok (.iload_n 1, 1) := by decide +kernel
theorem dX9_rainAt_27 : decode cX9_rainAt 27 = .ok (.i2l, 1) := by decide +kernel
theorem dX9_rainAt_28 : decode cX9_rainAt 28 = .ok (.lmul, 1) := by decide +kernel
theorem dX9_rainAt_29 : decode cX9_rainAt 29 = .ok (.ladd, 1) := by decide +kernel
theorem dX9_rainAt_30 : decode cX9_rainAt 30 = .ok (.lconst 1, 1) := by decide +kernel
theorem dX9_rainAt_31 : decode cX9_rainAt 31 = .ok (.ladd, 1) := by decide +kernel
theorem dX9_rainAt_32 : decode cX9_rainAt 32 = .ok (.lstore_n 2, 1) := by decide +kernel
theorem dX9_rainAt_33 : decode cX9_rainAt 33 = .ok (.aload_n 0, 1) := by decide +kernel
theorem dX9_rainAt_34 : decode cX9_rainAt 34 = .ok (.getfield 37, 3) := by decide +kernel
theorem dX9_rainAt_37 : decode cX9_rainAt 37 = .ok (.iconst 3, 1) := by decide +kernel
theorem dX9_rainAt_38 : decode cX9_rainAt 38 = .ok (.iaload, 1) := by decide +kernel
theorem dX9_rainAt_39 : decode cX9_rainAt 39 = .ok (.lload_n 2, 1) := by decide +kernel
theorem dX9_rainAt_40 : decode cX9_rainAt 40 = .ok (.lload_n 2, 1) := by decide +kernel
theorem dX9_rainAt_41 : decode cX9_rainAt 41 = .ok (.lmul, 1) := by decide +kernel
theorem dX9_rainAt_42 : decode cX9_rainAt 42 = .ok (.ldc2_w 162, 3) := by decide +kernel
theorem dX9_rainAt_45 : decode cX9_rainAt 45 = .ok (.lrem, 1) := by decide +kernel
theorem dX9_rainAt_46 : decode cX9_rainAt 46 = .ok (.ldc2_w 164, 3) := by decide +kernel
theorem dX9_rainAt_49 : decode cX9_rainAt 49 = .ok (.lrem, 1) := by decide +kernel
theorem dX9_rainAt_50 : decode cX9_rainAt 50 = .ok (.l2i, 1) := by decide +kernel
theorem dX9_rainAt_51 : decode cX9_rainAt 51 = .ok (.iadd, 1) := by decide +kernel
theorem dX9_rainAt_52 : decode cX9_rainAt 52 = .ok (.ireturn, 1) := by decide +kernel
theorem dX9_remember_0 : decode cX9_remember 0 = .ok (.aload_n 0, 1) := by decide +kernel
theorem dX9_remember_1 : decode cX9_remember 1 = .ok (.getfield 142, 3) := by decide +kernel
theorem dX9_remember_4 : decode cX9_remember 4 = .ok (.bipush 8, 2) := by decide +kernel
theorem dX9_remember_6 : decode cX9_remember 6 = .ok (.if_icmp .ne 43, 3) := by decide +kernel
theorem dX9_remember_9 : decode cX9_remember 9 = .ok (.iconst 0, 1) := by decide +kernel
theorem dX9_remember_10 : decode cX9_remember 10 = .ok (.istore_n 1, 1) := by decide +kernel
theorem dX9_remember_11 : decode cX9_remember 11 = .ok (.iload_n 1, 1) := by decide +kernel
theorem dX9_remember_12 : decode cX9_remember 12 = .ok (.sipush 217, 3) := by decide +kernel
theorem dX9_remember_15 : decode cX9_remember 15 = .ok (.if_icmp .ge 24, 3) := by decide +kernel
theorem dX9_remember_18 : decode cX9_remember 18 = .ok (.aload_n 0, 1) := by decide +kernel
theorem dX9_remember_19 : decode cX9_remember 19 = .ok (.getfield 22, 3) := by decide +kernel
theorem dX9_remember_22 : decode cX9_remember 22 = .ok (.iload_n 1, 1) := by decide +kernel
theorem dX9_remember_23 : decode cX9_remember 23 = .ok (.aload_n 0, 1) := by decide +kernel
theorem dX9_remember_24 : decode cX9_remember 24 = .ok (.getfield 22, 3) := by decide +kernel
theorem dX9_remember_27 : decode cX9_remember 27 = .ok (.iload_n 1, 1) := by decide +kernel
theorem dX9_remember_28 : decode cX9_remember 28 = .ok (.bipush 31, 2) := by decide +kernel
theorem dX9_remember_30 : decode cX9_remember 30 = .ok (.iadd, 1) := by decide +kernel
theorem dX9_remember_31 : decode cX9_remember 31 = .ok (.iaload, 1) := by decide +kernel
theorem dX9_remember_32 : decode cX9_remember 32 = .ok (.iastore, 1) := by decide +kernel
theorem dX9_remember_33 : decode cX9_remember 33 = .ok (.iinc 1 1, 3) := by decide +kernel
theorem dX9_remember_36 : decode cX9_remember 36 = .ok (.goto (-25), 3) := by decide +kernel
theorem dX9_remember_39 : decode cX9_remember 39 = .ok (.aload_n 0, 1) := by decide +kernel
theorem dX9_remember_40 : decode cX9_remember 40 = .ok (.dup, 1) := by decide +kernel
theorem dX9_remember_41 : decode cX9_remember 41 = .ok (.getfield 142, 3) := by decide +kernel
theorem dX9_remember_44 : decode cX9_remember 44 = .ok (.iconst 1, 1) := by decide +kernel
theorem dX9_remember_45 : decode cX9_remember 45 = .ok (.isub, 1) := by decide +kernel
theorem dX9_remember_46 : decode cX9_remember 46 = .ok (.putfield 142, 3) := by decide +kernel
theorem dX9_remember_49 : decode cX9_remember 49 = .ok (.aload_n 0, 1) := by decide +kernel
theorem dX9_remember_50 : decode cX9_remember 50 = .ok (.getfield 16, 3) := by decide +kernel
theorem dX9_remember_53 : decode cX9_remember 53 = .ok (.iconst 0, 1) := by decide +kernel
theorem dX9_remember_54 : decode cX9_remember 54 = .ok (.aload_n 0, 1) := by decide +kernel
theorem dX9_remember_55 : decode cX9_remember 55 = .ok (.getfield 22, 3) := by decide +kernel
theorem dX9_remember_58 : decode cX9_remember 58 = .ok (.bipush 31, 2) := by decide +kernel
theorem dX9_remember_60 : decode cX9_remember 60 = .ok (.aload_n 0, 1) := by decide +kernel
theorem dX9_remember_61 : decode cX9_remember 61 = .ok (.getfield 142, 3) := by decide +kernel
theorem dX9_remember_64 : decode cX9_remember 64 = .ok (.imul, 1) := by decide +kernel
theorem dX9_remember_65 : decode cX9_remember 65 = .ok (.invokestatic 235, 3) := by decide +kernel
theorem dX9_remember_68 : decode cX9_remember 68 = .ok (.aload_n 0, 1) := by decide +kernel
theorem dX9_remember_69 : decode cX9_remember 69 = .ok (.dup, 1) := by decide +kernel
theorem dX9_remember_70 : decode cX9_remember 70 = .ok (.getfield 142, 3) := by decide +kernel
theorem dX9_remember_73 : decode cX9_remember 73 = .ok (.iconst 1, 1) := by decide +kernel
theorem dX9_remember_74 : decode cX9_remember 74 = .ok (.iadd, 1) := by decide +kernel
theorem dX9_remember_75 : decode cX9_remember 75 = .ok (.putfield 142, 3) := by decide +kernel
theorem dX9_remember_78 : decode cX9_remember 78 = .ok (.return_, 1) := by decide +kernel
theorem dX9_rests_0 : decode cX9_rests 0 = .ok (.aload_n 0, 1) := by decide +kernel
theorem dX9_rests_1 : decode cX9_rests 1 = .ok (.iload_n 1, 1) := by decide +kernel
theorem dX9_rests_2 : decode cX9_rests 2 = .ok (.invokevirtual 220, 3) := by decide +kernel
theorem dX9_rests_5 : decode cX9_rests 5 = .ok (.ifCond .eq 23, 3) := by decide +kernel
theorem dX9_rests_8 : decode cX9_rests 8 = .ok (.aload_n 0, 1) := by decide +kernel
theorem dX9_rests_9 : decode cX9_rests 9 = .ok (.iload_n 2, 1) := by decide +kernel
theorem dX9_rests_10 : decode cX9_rests 10 = .ok (.invokevirtual 220, 3) := by decide +kernel
theorem dX9_rests_13 : decode cX9_rests 13 = .ok (.ifCond .eq 15, 3) := by decide +kernel
theorem dX9_rests_16 : decode cX9_rests 16 = .ok (.iload_n 1, 1) := by decide +kernel
theorem dX9_rests_17 : decode cX9_rests 17 = .ok (.iload_n 2, 1) := by decide +kernel
theorem dX9_rests_18 : decode cX9_rests 18 = .ok (.if_icmp .eq 10, 3) := by decide +kernel
theorem dX9_rests_21 : decode cX9_rests 21 = .ok (.iload_n 3, 1) := by decide +kernel
theorem dX9_rests_22 : decode cX9_rests 22 = .ok (.invokestatic 225, 3) := by decide +kernel
theorem dX9_rests_25 : decode cX9_rests 25 = .ok (.ifCond .ne 5, 3) := by decide +kernel
theorem dX9_rests_28 : decode cX9_rests 28 = .ok (.iconst (-1), 1) := by decide +kernel
theorem dX9_rests_29 : decode cX9_rests 29 = .ok (.ireturn, 1) := by decide +kernel
theorem dX9_rests_30 : decode cX9_rests 30 = .ok (.aload_n 0, 1) := by decide +kernel
theorem dX9_rests_31 : decode cX9_rests 31 = .ok (.getfield 7, 3) := by decide +kernel
theorem dX9_rests_34 : decode cX9_rests 34 = .ok (.iconst 0, 1) := by decide +kernel
theorem dX9_rests_35 : decode cX9_rests 35 = .ok (.iaload, 1) := by decide +kernel
theorem dX9_rests_36 : decode cX9_rests 36 = .ok (.istore 4, 2) := by decide +kernel
theorem dX9_rests_38 : decode cX9_rests 38 = .ok (.iconst 0, 1) := by decide +kernel
theorem dX9_rests_39 : decode cX9_rests 39 = .ok (.istore 5, 2) := by decide +kernel
theorem dX9_rests_41 : decode cX9_rests 41 = .ok (.iload 5, 2) := by decide +kernel
theorem dX9_rests_43 : decode cX9_rests 43 = .ok (.iload 4, 2) := by decide +kernel
theorem dX9_rests_45 : decode cX9_rests 45 = .ok (.if_icmp .ge 35, 3) := by decide +kernel
theorem dX9_rests_48 : decode cX9_rests 48 = .ok (.iconst 0, 1) := by decide +kernel
theorem dX9_rests_49 : decode cX9_rests 49 = .ok (.istore 6, 2) := by decide +kernel
theorem dX9_rests_51 : decode cX9_rests 51 = .ok (.iload 6, 2) := by decide +kernel
theorem dX9_rests_53 : decode cX9_rests 53 = .ok (.iload 4, 2) := by decide +kernel
theorem dX9_rests_55 : decode cX9_rests 55 = .ok (.if_icmp .ge 19, 3) := by decide +kernel
theorem dX9_rests_58 : decode cX9_rests 58 = .ok (.aload_n 0, 1) := by decide +kernel
theorem dX9_rests_59 : decode cX9_rests 59 = .ok (.iload_n 1, 1) := by decide +kernel
theorem dX9_rests_60 : decode cX9_rests 60 = .ok (.iload_n 2, 1) := by decide +kernel
theorem dX9_rests_61 : decode cX9_rests 61 = .ok (.iload 5, 2) := by decide +kernel
theorem dX9_rests_63 : decode cX9_rests 63 = .ok (.iload 6, 2) := by decide +kernel
theorem dX9_rests_65 : decode cX9_rests 65 = .ok (.invokevirtual 269, 3) := by decide +kernel
theorem dX9_rests_68 : decode cX9_rests 68 = .ok (.iinc 6 1, 3) := by decide +kernel
theorem dX9_rests_71 : decode cX9_rests 71 = .ok (.goto (-20), 3) := by decide +kernel
theorem dX9_rests_74 : decode cX9_rests 74 = .ok (.iinc 5 1, 3) := by decide +kernel
theorem dX9_rests_77 : decode cX9_rests 77 = .ok (.goto (-36), 3) := by decide +kernel
theorem dX9_rests_80 : decode cX9_rests 80 = .ok (.iconst 0, 1) := by decide +kernel
theorem dX9_rests_81 : decode cX9_rests 81 = .ok (.istore 5, 2) := by decide +kernel
theorem dX9_rests_83 : decode cX9_rests 83 = .ok (.bipush (-4), 2) := by decide +kernel
theorem dX9_rests_85 : decode cX9_rests 85 = .ok (.istore 6, 2) := by decide +kernel
theorem dX9_rests_87 : decode cX9_rests 87 = .ok (.iload 4, 2) := by decide +kernel
theorem dX9_rests_89 : decode cX9_rests 89 = .ok (.iconst 1, 1) := by decide +kernel
theorem dX9_rests_90 : decode cX9_rests 90 = .ok (.isub, 1) := by decide +kernel
theorem dX9_rests_91 : decode cX9_rests 91 = .ok (.istore 7, 2) := by decide +kernel
theorem dX9_rests_93 : decode cX9_rests 93 = .ok (.iload 7, 2) := by decide +kernel
theorem dX9_rests_95 : decode cX9_rests 95 = .ok (.ifCond .lt 150, 3) := by decide +kernel
theorem dX9_rests_98 : decode cX9_rests 98 = .ok (.iload 4, 2) := by decide +kernel
theorem dX9_rests_100 : decode cX9_rests 100 = .ok (.iconst 1, 1) := by decide +kernel
theorem dX9_rests_101 : decode cX9_rests 101 = .ok (.isub, 1) := by decide +kernel
theorem dX9_rests_102 : decode cX9_rests 102 = .ok (.istore 8, 2) := by decide +kernel
theorem dX9_rests_104 : decode cX9_rests 104 = .ok (.iload 8, 2) := by decide +kernel
theorem dX9_rests_106 : decode cX9_rests 106 = .ok (.ifCond .lt 133, 3) := by decide +kernel
theorem dX9_rests_109 : decode cX9_rests 109 = .ok (.iconst 1, 1) := by decide +kernel
theorem dX9_rests_110 : decode cX9_rests 110 = .ok (.istore 9, 2) := by decide +kernel
theorem dX9_rests_112 : decode cX9_rests 112 = .ok (.iconst 0, 1) := by decide +kernel
theorem dX9_rests_113 : decode cX9_rests 113 = .ok (.istore 10, 2) := by decide +kernel
theorem dX9_rests_115 : decode cX9_rests 115 = .ok (.iload 10, 2) := by decide +kernel
theorem dX9_rests_117 : decode cX9_rests 117 = .ok (.iload 4, 2) := by decide +kernel
theorem dX9_rests_119 : decode cX9_rests 119 = .ok (.if_icmp .ge 79, 3) := by decide +kernel
theorem dX9_rests_122 : decode cX9_rests 122 = .ok (.iload 9, 2) := by decide +kernel
theorem dX9_rests_124 : decode cX9_rests 124 = .ok (.ifCond .eq 65, 3) := by decide +kernel
theorem dX9_rests_127 : decode cX9_rests 127 = .ok (.aload_n 0, 1) := by decide +kernel
theorem dX9_rests_128 : decode cX9_rests 128 = .ok (.getfield 64, 3) := by decide +kernel
theorem dX9_rests_131 : decode cX9_rests 131 = .ok (.bipush 6, 2) := by decide +kernel
theorem dX9_rests_133 : decode cX9_rests 133 = .ok (.iload 10, 2) := by decide +kernel
theorem dX9_rests_135 : decode cX9_rests 135 = .ok (.imul, 1) := by decide +kernel
theorem dX9_rests_136 : decode cX9_rests 136 = .ok (.iload 8, 2) := by decide +kernel
theorem dX9_rests_138 : decode cX9_rests 138 = .ok (.iadd, 1) := by decide +kernel
theorem dX9_rests_139 : decode cX9_rests 139 = .ok (.iaload, 1) := by decide +kernel
theorem dX9_rests_140 : decode cX9_rests 140 = .ok (.aload_n 0, 1) := by decide +kernel
theorem dX9_rests_141 : decode cX9_rests 141 = .ok (.getfield 64, 3) := by decide +kernel
theorem dX9_rests_144 : decode cX9_rests 144 = .ok (.bipush 6, 2) := by decide +kernel
theorem dX9_rests_146 : decode cX9_rests 146 = .ok (.iload 7, 2) := by decide +kernel
theorem dX9_rests_148 : decode cX9_rests 148 = .ok (.imul, 1) := by decide +kernel
theorem dX9_rests_149 : decode cX9_rests 149 = .ok (.iload 8, 2) := by decide +kernel
theorem dX9_rests_151 : decode cX9_rests 151 = .ok (.iadd, 1) := by decide +kernel
theorem dX9_rests_152 : decode cX9_rests 152 = .ok (.iaload, 1) := by decide +kernel
theorem dX9_rests_153 : decode cX9_rests 153 = .ok (.if_icmp .gt 36, 3) := by decide +kernel
theorem dX9_rests_156 : decode cX9_rests 156 = .ok (.aload_n 0, 1) := by decide +kernel
theorem dX9_rests_157 : decode cX9_rests 157 = .ok (.getfield 67, 3) := by decide +kernel
theorem dX9_rests_160 : decode cX9_rests 160 = .ok (.bipush 6, 2) := by decide +kernel
theorem dX9_rests_162 : decode cX9_rests 162 = .ok (.iload 7, 2) := by decide +kernel
theorem dX9_rests_164 : decode cX9_rests 164 = .ok (.imul, 1) := by decide +kernel
theorem dX9_rests_165 : decode cX9_rests 165 = .ok (.iload 10, 2) := by decide +kernel
theorem dX9_rests_167 : decode cX9_rests 167 = .ok (.iadd, 1) := by decide +kernel
theorem dX9_rests_168 : decode cX9_rests 168 = .ok (.iaload, 1) := by decide +kernel
theorem dX9_rests_169 : decode cX9_rests 169 = .ok (.aload_n 0, 1) := by decide +kernel
theorem dX9_rests_170 : decode cX9_rests 170 = .ok (.getfield 67, 3) := by decide +kernel
theorem dX9_rests_173 : decode cX9_rests 173 = .ok (.bipush 6, 2) := by decide +kernel
theorem dX9_rests_175 : decode cX9_rests 175 = .ok (.iload 7, 2) := by decide +kernel
theorem dX9_rests_177 : decode cX9_rests 177 = .ok (.imul, 1) := by decide +kernel
theorem dX9_rests_178 : decode cX9_rests 178 = .ok (.iload 8, 2) := by decide +kernel
theorem dX9_rests_180 : decode cX9_rests 180 = .ok (.iadd, 1) := by decide +kernel
theorem dX9_rests_181 : decode cX9_rests 181 = .ok (.iaload, 1) := by decide +kernel
theorem dX9_rests_182 : decode cX9_rests 182 = .ok (.if_icmp .gt 7, 3) := by decide +kernel
theorem dX9_rests_185 : decode cX9_rests 185 = .ok (.iconst 1, 1) := by decide +kernel
theorem dX9_rests_186 : decode cX9_rests 186 = .ok (.goto 4, 3) := by decide +kernel
theorem dX9_rests_189 : decode cX9_rests 189 = .ok (.iconst 0, 1) := by decide +kernel
theorem dX9_rests_190 : decode cX9_rests 190 = .ok (.istore 9, 2) := by decide +kernel
theorem dX9_rests_192 : decode cX9_rests 192 = .ok (.iinc 10 1, 3) := by decide +kernel
theorem dX9_rests_195 : decode cX9_rests 195 = .ok (.goto (-80), 3) := by decide +kernel
theorem dX9_rests_198 : decode cX9_rests 198 = .ok (.iload 5, 2) := by decide +kernel
theorem dX9_rests_200 : decode cX9_rests 200 = .ok (.iload 9, 2) := by decide +kernel
theorem dX9_rests_202 : decode cX9_rests 202 = .ok (.ifCond .eq 7, 3) := by decide +kernel
theorem dX9_rests_205 : decode cX9_rests 205 = .ok (.iconst 1, 1) := by decide +kernel
theorem dX9_rests_206 : decode cX9_rests 206 = .ok (.goto 4, 3) := by decide +kernel
theorem dX9_rests_209 : decode cX9_rests 209 = .ok (.iconst 0, 1) := by decide +kernel
theorem dX9_rests_210 : decode cX9_rests 210 = .ok (.iadd, 1) := by decide +kernel
theorem dX9_rests_211 : decode cX9_rests 211 = .ok (.istore 5, 2) := by decide +kernel
theorem dX9_rests_213 : decode cX9_rests 213 = .ok (.iload 9, 2) := by decide +kernel
theorem dX9_rests_215 : decode cX9_rests 215 = .ok (.ifCond .eq 14, 3) := by decide +kernel
theorem dX9_rests_218 : decode cX9_rests 218 = .ok (.bipush 8, 2) := by decide +kernel
theorem dX9_rests_220 : decode cX9_rests 220 = .ok (.iload 7, 2) := by decide +kernel
theorem dX9_rests_222 : decode cX9_rests 222 = .ok (.imul, 1) := by decide +kernel
theorem dX9_rests_223 : decode cX9_rests 223 = .ok (.iload 8, 2) := by decide +kernel
theorem dX9_rests_225 : decode cX9_rests 225 = .ok (.iadd, 1) := by decide +kernel
theorem dX9_rests_226 : decode cX9_rests 226 = .ok (.goto 5, 3) := by decide +kernel
theorem dX9_rests_229 : decode cX9_rests 229 = .ok (.iload 6, 2) := by decide +kernel
theorem dX9_rests_231 : decode cX9_rests 231 = .ok (.istore 6, 2) := by decide +kernel
theorem dX9_rests_233 : decode cX9_rests 233 = .ok (.iinc 8 (-1), 3) := by decide +kernel
theorem dX9_rests_236 : decode cX9_rests 236 = .ok (.goto (-132), 3) := by decide +kernel
theorem dX9_rests_239 : decode cX9_rests 239 = .ok (.iinc 7 (-1), 3) := by decide +kernel
theorem dX9_rests_242 : decode cX9_rests 242 = .ok (.goto (-149), 3) := by decide +kernel
theorem dX9_rests_245 : decode cX9_rests 245 = .ok (.iload_n 3, 1) := by decide +kernel
theorem dX9_rests_246 : decode cX9_rests 246 = .ok (.ifCond .ne 8, 3) := by decide +kernel
theorem dX9_rests_249 : decode cX9_rests 249 = .ok (.iload 5, 2) := by decide +kernel
theorem dX9_rests_251 : decode cX9_rests 251 = .ok (.goto 5, 3) := by decide +kernel
theorem dX9_rests_254 : decode cX9_rests 254 = .ok (.iload 6, 2) := by decide +kernel
theorem dX9_rests_256 : decode cX9_rests 256 = .ok (.ireturn, 1) := by decide +kernel
theorem dX9_safe_0 : decode cX9_safe 0 = .ok (.iconst 0, 1) := by decide +kernel
theorem dX9_safe_1 : decode cX9_safe 1 = .ok (.istore_n 1, 1) := by decide +kernel
theorem dX9_safe_2 : decode cX9_safe 2 = .ok (.iload_n 1, 1) := by decide +kernel
theorem dX9_safe_3 : decode cX9_safe 3 = .ok (.aload_n 0, 1) := by decide +kernel
theorem dX9_safe_4 : decode cX9_safe 4 = .ok (.getfield 7, 3) := by decide +kernel
theorem dX9_safe_7 : decode cX9_safe 7 = .ok (.iconst 1, 1) := by decide +kernel
theorem dX9_safe_8 : decode cX9_safe 8 = .ok (.iaload, 1) := by decide +kernel
theorem dX9_safe_9 : decode cX9_safe 9 = .ok (.if_icmp .ge 33, 3) := by decide +kernel
theorem dX9_safe_12 : decode cX9_safe 12 = .ok (.aload_n 0, 1) := by decide +kernel
theorem dX9_safe_13 : decode cX9_safe 13 = .ok (.invokevirtual 214, 3) := by decide +kernel
theorem dX9_safe_16 : decode cX9_safe 16 = .ok (.aload_n 0, 1) := by decide +kernel
theorem dX9_safe_17 : decode cX9_safe 17 = .ok (.iload_n 1, 1) := by decide +kernel
theorem dX9_safe_18 : decode cX9_safe 18 = .ok (.putfield 152, 3) := by decide +kernel
theorem dX9_safe_21 : decode cX9_safe 21 = .ok (.aload_n 0, 1) := by decide +kernel
theorem dX9_safe_22 : decode cX9_safe 22 = .ok (.invokevirtual 217, 3) := by decide +kernel
theorem dX9_safe_25 : decode cX9_safe 25 = .ok (.aload_n 0, 1) := by decide +kernel
theorem dX9_safe_26 : decode cX9_safe 26 = .ok (.getfield 182, 3) := by decide +kernel
theorem dX9_safe_29 : decode cX9_safe 29 = .ok (.bipush (-4), 2) := by decide +kernel
theorem dX9_safe_31 : decode cX9_safe 31 = .ok (.if_icmp .eq 5, 3) := by decide +kernel
theorem dX9_safe_34 : decode cX9_safe 34 = .ok (.iload_n 1, 1) := by decide +kernel
theorem dX9_safe_35 : decode cX9_safe 35 = .ok (.ireturn, 1) := by decide +kernel
theorem dX9_safe_36 : decode cX9_safe 36 = .ok (.iinc 1 1, 3) := by decide +kernel
theorem dX9_safe_39 : decode cX9_safe 39 = .ok (.goto (-37), 3) := by decide +kernel
theorem dX9_safe_42 : decode cX9_safe 42 = .ok (.bipush (-4), 2) := by decide +kernel
theorem dX9_safe_44 : decode cX9_safe 44 = .ok (.ireturn, 1) := by decide +kernel
theorem dX9_share_0 : decode cX9_share 0 = .ok (.aload_n 0, 1) := by decide +kernel
theorem dX9_share_1 : decode cX9_share 1 = .ok (.iload_n 1, 1) := by decide +kernel
theorem dX9_share_2 : decode cX9_share 2 = .ok (.invokevirtual 220, 3) := by decide +kernel
theorem dX9_share_5 : decode cX9_share 5 = .ok (.ifCond .eq 10, 3) := by decide +kernel
theorem dX9_share_8 : decode cX9_share 8 = .ok (.iload_n 2, 1) := by decide +kernel
theorem dX9_share_9 : decode cX9_share 9 = .ok (.invokestatic 225, 3) := by decide +kernel
theorem dX9_share_12 : decode cX9_share 12 = .ok (.ifCond .ne 5, 3) := by decide +kernel
theorem dX9_share_15 : decode cX9_share 15 = .ok (.iconst (-1), 1) := by decide +kernel
theorem dX9_share_16 : decode cX9_share 16 = .ok (.ireturn, 1) := by decide +kernel
theorem dX9_share_17 : decode cX9_share 17 = .ok (.aload_n 0, 1) := by decide +kernel
theorem dX9_share_18 : decode cX9_share 18 = .ok (.invokevirtual 214, 3) := by decide +kernel
theorem dX9_share_21 : decode cX9_share 21 = .ok (.aload_n 0, 1) := by decide +kernel
theorem dX9_share_22 : decode cX9_share 22 = .ok (.invokevirtual 217, 3) := by decide +kernel
theorem dX9_share_25 : decode cX9_share 25 = .ok (.iconst 0, 1) := by decide +kernel
theorem dX9_share_26 : decode cX9_share 26 = .ok (.istore_n 3, 1) := by decide +kernel
theorem dX9_share_27 : decode cX9_share 27 = .ok (.iconst 0, 1) := by decide +kernel
theorem dX9_share_28 : decode cX9_share 28 = .ok (.istore 4, 2) := by decide +kernel
theorem dX9_share_30 : decode cX9_share 30 = .ok (.iload 4, 2) := by decide +kernel
theorem dX9_share_32 : decode cX9_share 32 = .ok (.aload_n 0, 1) := by decide +kernel
theorem dX9_share_33 : decode cX9_share 33 = .ok (.getfield 7, 3) := by decide +kernel
theorem dX9_share_36 : decode cX9_share 36 = .ok (.iconst 1, 1) := by decide +kernel
theorem dX9_share_37 : decode cX9_share 37 = .ok (.iaload, 1) := by decide +kernel
theorem dX9_share_38 : decode cX9_share 38 = .ok (.if_icmp .ge 19, 3) := by decide +kernel
theorem dX9_share_41 : decode cX9_share 41 = .ok (.iload_n 3, 1) := by decide +kernel
theorem dX9_share_42 : decode cX9_share 42 = .ok (.aload_n 0, 1) := by decide +kernel
theorem dX9_share_43 : decode cX9_share 43 = .ok (.getfield 46, 3) := by decide +kernel
theorem dX9_share_46 : decode cX9_share 46 = .ok (.iload 4, 2) := by decide +kernel
theorem dX9_share_48 : decode cX9_share 48 = .ok (.iaload, 1) := by decide +kernel
theorem dX9_share_49 : decode cX9_share 49 = .ok (.iadd, 1) := by decide +kernel
theorem dX9_share_50 : decode cX9_share 50 = .ok (.istore_n 3, 1) := by decide +kernel
theorem dX9_share_51 : decode cX9_share 51 = .ok (.iinc 4 1, 3) := by decide +kernel
theorem dX9_share_54 : decode cX9_share 54 = .ok (.goto (-24), 3) := by decide +kernel
theorem dX9_share_57 : decode cX9_share 57 = .ok (.aload_n 0, 1) := by decide +kernel
theorem dX9_share_58 : decode cX9_share 58 = .ok (.getfield 46, 3) := by decide +kernel
theorem dX9_share_61 : decode cX9_share 61 = .ok (.iload_n 1, 1) := by decide +kernel
theorem dX9_share_62 : decode cX9_share 62 = .ok (.iaload, 1) := by decide +kernel
theorem dX9_share_63 : decode cX9_share 63 = .ok (.i2l, 1) := by decide +kernel
theorem dX9_share_64 : decode cX9_share 64 = .ok (.iload_n 3, 1) := by decide +kernel
theorem dX9_share_65 : decode cX9_share 65 = .ok (.ifCond .ne 7, 3) := by decide +kernel
theorem dX9_share_68 : decode cX9_share 68 = .ok (.lconst 1, 1) := by decide +kernel
theorem dX9_share_69 : decode cX9_share 69 = .ok (.goto 5, 3) := by decide +kernel
theorem dX9_share_72 : decode cX9_share 72 = .ok (.iload_n 3, 1) := by decide +kernel
theorem dX9_share_73 : decode cX9_share 73 = .ok (.i2l, 1) := by decide +kernel
theorem dX9_share_74 : decode cX9_share 74 = .ok (.iload_n 2, 1) := by decide +kernel
theorem dX9_share_75 : decode cX9_share 75 = .ok (.invokestatic 228, 3) := by decide +kernel
theorem dX9_share_78 : decode cX9_share 78 = .ok (.ireturn, 1) := by decide +kernel
theorem dX9_son_0 : decode cX9_son 0 = .ok (.aload_n 0, 1) := by decide +kernel
theorem dX9_son_1 : decode cX9_son 1 = .ok (.iload_n 1, 1) := by decide +kernel
theorem dX9_son_2 : decode cX9_son 2 = .ok (.invokevirtual 220, 3) := by decide +kernel
theorem dX9_son_5 : decode cX9_son 5 = .ok (.ifCond .eq 15, 3) := by decide +kernel
theorem dX9_son_8 : decode cX9_son 8 = .ok (.iload_n 2, 1) := by decide +kernel
theorem dX9_son_9 : decode cX9_son 9 = .ok (.i2l, 1) := by decide +kernel
theorem dX9_son_10 : decode cX9_son 10 = .ok (.lconst 0, 1) := by decide +kernel
theorem dX9_son_11 : decode cX9_son 11 = .ok (.ldc2_w 260, 3) := by decide +kernel
theorem dX9_son_14 : decode cX9_son 14 = .ok (.invokestatic 87, 3) := by decide +kernel
theorem dX9_son_17 : decode cX9_son 17 = .ok (.ifCond .ne 5, 3) := by decide +kernel
theorem dX9_son_20 : decode cX9_son 20 = .ok (.iconst (-1), 1) := by decide +kernel
theorem dX9_son_21 : decode cX9_son 21 = .ok (.ireturn, 1) := by decide +kernel
theorem dX9_son_22 : decode cX9_son 22 = .ok (.aload_n 0, 1) := by decide +kernel
theorem dX9_son_23 : decode cX9_son 23 = .ok (.iload_n 1, 1) := by decide +kernel
theorem dX9_son_24 : decode cX9_son 24 = .ok (.iload_n 2, 1) := by decide +kernel
theorem dX9_son_25 : decode cX9_son 25 = .ok (.invokevirtual 257, 3) := by decide +kernel
theorem dX9_son_28 : decode cX9_son 28 = .ok (.aload_n 0, 1) := by decide +kernel
theorem dX9_son_29 : decode cX9_son 29 = .ok (.iconst (-1), 1) := by decide +kernel
theorem dX9_son_30 : decode cX9_son 30 = .ok (.iconst 0, 1) := by decide +kernel
theorem dX9_son_31 : decode cX9_son 31 = .ok (.invokevirtual 257, 3) := by decide +kernel
theorem dX9_son_34 : decode cX9_son 34 = .ok (.isub, 1) := by decide +kernel
theorem dX9_son_35 : decode cX9_son 35 = .ok (.ireturn, 1) := by decide +kernel
theorem dX9_stands_0 : decode cX9_stands 0 = .ok (.aload_n 0, 1) := by decide +kernel
theorem dX9_stands_1 : decode cX9_stands 1 = .ok (.invokevirtual 214, 3) := by decide +kernel
theorem dX9_stands_4 : decode cX9_stands 4 = .ok (.aload_n 0, 1) := by decide +kernel
theorem dX9_stands_5 : decode cX9_stands 5 = .ok (.invokevirtual 217, 3) := by decide +kernel
theorem dX9_stands_8 : decode cX9_stands 8 = .ok (.aload_n 0, 1) := by decide +kernel
theorem dX9_stands_9 : decode cX9_stands 9 = .ok (.getfield 182, 3) := by decide +kernel
theorem dX9_stands_12 : decode cX9_stands 12 = .ok (.ireturn, 1) := by decide +kernel
theorem dX9_startsUp_0 : decode cX9_startsUp 0 = .ok (.iconst 0, 1) := by decide +kernel
theorem dX9_startsUp_1 : decode cX9_startsUp 1 = .ok (.istore_n 1, 1) := by decide +kernel
theorem dX9_startsUp_2 : decode cX9_startsUp 2 = .ok (.iload_n 1, 1) := by decide +kernel
theorem dX9_startsUp_3 : decode cX9_startsUp 3 = .ok (.bipush 6, 2) := by decide +kernel
theorem dX9_startsUp_5 : decode cX9_startsUp 5 = .ok (.if_icmp .ge 57, 3) := by decide +kernel
theorem dX9_startsUp_8 : decode cX9_startsUp 8 = .ok (.aload_n 0, 1) := by decide +kernel
theorem dX9_startsUp_9 : decode cX9_startsUp 9 = .ok (.getfield 43, 3) := by decide +kernel
theorem dX9_startsUp_12 : decode cX9_startsUp 12 = .ok (.iload_n 1, 1) := by decide +kernel
theorem dX9_startsUp_13 : decode cX9_startsUp 13 = .ok (.iload_n 1, 1) := by decide +kernel
theorem dX9_startsUp_14 : decode cX9_startsUp 14 = .ok (.aload_n 0, 1) := by decide +kernel
theorem dX9_startsUp_15 : decode cX9_startsUp 15 = .ok (.getfield 152, 3) := by decide +kernel
theorem dX9_startsUp_18 : decode cX9_startsUp 18 = .ok (.if_icmp .ne 7, 3) := by decide +kernel
theorem dX9_startsUp_21 : decode cX9_startsUp 21 = .ok (.iconst 0, 1) := by decide +kernel
theorem dX9_startsUp_22 : decode cX9_startsUp 22 = .ok (.goto 12, 3) := by decide +kernel
theorem dX9_startsUp_25 : decode cX9_startsUp 25 = .ok (.aload_n 0, 1) := by decide +kernel
theorem dX9_startsUp_26 : decode cX9_startsUp 26 = .ok (.getfield 37, 3) := by decide +kernel
theorem dX9_startsUp_29 : decode cX9_startsUp 29 = .ok (.bipush 22, 2) := by decide +kernel
theorem dX9_startsUp_31 : decode cX9_startsUp 31 = .ok (.iload_n 1, 1) := by decide +kernel
theorem dX9_startsUp_32 : decode cX9_startsUp 32 = .ok (.iadd, 1) := by decide +kernel
theorem dX9_startsUp_33 : decode cX9_startsUp 33 = .ok (.iaload, 1) := by decide +kernel
theorem dX9_startsUp_34 : decode cX9_startsUp 34 = .ok (.iastore, 1) := by decide +kernel
theorem dX9_startsUp_35 : decode cX9_startsUp 35 = .ok (.aload_n 0, 1) := by decide +kernel
theorem dX9_startsUp_36 : decode cX9_startsUp 36 = .ok (.getfield 46, 3) := by decide +kernel
theorem dX9_startsUp_39 : decode cX9_startsUp 39 = .ok (.iload_n 1, 1) := by decide +kernel
theorem dX9_startsUp_40 : decode cX9_startsUp 40 = .ok (.iconst 0, 1) := by decide +kernel
theorem dX9_startsUp_41 : decode cX9_startsUp 41 = .ok (.iastore, 1) := by decide +kernel
theorem dX9_startsUp_42 : decode cX9_startsUp 42 = .ok (.aload_n 0, 1) := by decide +kernel
theorem dX9_startsUp_43 : decode cX9_startsUp 43 = .ok (.getfield 49, 3) := by decide +kernel
theorem dX9_startsUp_46 : decode cX9_startsUp 46 = .ok (.iload_n 1, 1) := by decide +kernel
theorem dX9_startsUp_47 : decode cX9_startsUp 47 = .ok (.iconst (-1), 1) := by decide +kernel
theorem dX9_startsUp_48 : decode cX9_startsUp 48 = .ok (.iastore, 1) := by decide +kernel
theorem dX9_startsUp_49 : decode cX9_startsUp 49 = .ok (.aload_n 0, 1) := by decide +kernel
theorem dX9_startsUp_50 : decode cX9_startsUp 50 = .ok (.getfield 52, 3) := by decide +kernel
theorem dX9_startsUp_53 : decode cX9_startsUp 53 = .ok (.iload_n 1, 1) := by decide +kernel
theorem dX9_startsUp_54 : decode cX9_startsUp 54 = .ok (.iconst 0, 1) := by decide +kernel
theorem dX9_startsUp_55 : decode cX9_startsUp 55 = .ok (.iastore, 1) := by decide +kernel
theorem dX9_startsUp_56 : decode cX9_startsUp 56 = .ok (.iinc 1 1, 3) := by decide +kernel
theorem dX9_startsUp_59 : decode cX9_startsUp 59 = .ok (.goto (-57), 3) := by decide +kernel
theorem dX9_startsUp_62 : decode cX9_startsUp 62 = .ok (.aload_n 0, 1) := by decide +kernel
theorem dX9_startsUp_63 : decode cX9_startsUp 63 = .ok (.bipush (-4), 2) := by decide +kernel
theorem dX9_startsUp_65 : decode cX9_startsUp 65 = .ok (.putfield 182, 3) := by decide +kernel
theorem dX9_startsUp_68 : decode cX9_startsUp 68 = .ok (.return_, 1) := by decide +kernel
theorem dX9_stretch_0 : decode cX9_stretch 0 = .ok (.aload_n 0, 1) := by decide +kernel
theorem dX9_stretch_1 : decode cX9_stretch 1 = .ok (.getfield 13, 3) := by decide +kernel
theorem dX9_stretch_4 : decode cX9_stretch 4 = .ok (.iconst 0, 1) := by decide +kernel
theorem dX9_stretch_5 : decode cX9_stretch 5 = .ok (.iaload, 1) := by decide +kernel
theorem dX9_stretch_6 : decode cX9_stretch 6 = .ok (.istore_n 3, 1) := by decide +kernel
theorem dX9_stretch_7 : decode cX9_stretch 7 = .ok (.aload_n 0, 1) := by decide +kernel
theorem dX9_stretch_8 : decode cX9_stretch 8 = .ok (.getfield 13, 3) := by decide +kernel
theorem dX9_stretch_11 : decode cX9_stretch 11 = .ok (.iconst 4, 1) := by decide +kernel
theorem dX9_stretch_12 : decode cX9_stretch 12 = .ok (.iload_n 3, 1) := by decide +kernel
theorem dX9_stretch_13 : decode cX9_stretch 13 = .ok (.iadd, 1) := by decide +kernel
theorem dX9_stretch_14 : decode cX9_stretch 14 = .ok (.iload_n 1, 1) := by decide +kernel
theorem dX9_stretch_15 : decode cX9_stretch 15 = .ok (.iastore, 1) := by decide +kernel
theorem dX9_stretch_16 : decode cX9_stretch 16 = .ok (.aload_n 0, 1) := by decide +kernel
theorem dX9_stretch_17 : decode cX9_stretch 17 = .ok (.getfield 13, 3) := by decide +kernel
theorem dX9_stretch_20 : decode cX9_stretch 20 = .ok (.bipush 10, 2) := by decide +kernel
theorem dX9_stretch_22 : decode cX9_stretch 22 = .ok (.iload_n 3, 1) := by decide +kernel
theorem dX9_stretch_23 : decode cX9_stretch 23 = .ok (.iadd, 1) := by decide +kernel
theorem dX9_stretch_24 : decode cX9_stretch 24 = .ok (.iload_n 2, 1) := by decide +kernel
theorem dX9_stretch_25 : decode cX9_stretch 25 = .ok (.iastore, 1) := by decide +kernel
theorem dX9_stretch_26 : decode cX9_stretch 26 = .ok (.aload_n 0, 1) := by decide +kernel
theorem dX9_stretch_27 : decode cX9_stretch 27 = .ok (.getfield 13, 3) := by decide +kernel
theorem dX9_stretch_30 : decode cX9_stretch 30 = .ok (.iconst 0, 1) := by decide +kernel
theorem dX9_stretch_31 : decode cX9_stretch 31 = .ok (.dup2, 1) := by decide +kernel
theorem dX9_stretch_32 : decode cX9_stretch 32 = .ok (.iaload, 1) := by decide +kernel
theorem dX9_stretch_33 : decode cX9_stretch 33 = .ok (.iconst 1, 1) := by decide +kernel
theorem dX9_stretch_34 : decode cX9_stretch 34 = .ok (.iadd, 1) := by decide +kernel
theorem dX9_stretch_35 : decode cX9_stretch 35 = .ok (.iastore, 1) := by decide +kernel
theorem dX9_stretch_36 : decode cX9_stretch 36 = .ok (.return_, 1) := by decide +kernel
theorem dX9_stretchAt_0 : decode cX9_stretchAt 0 = .ok (.iconst 0, 1) := by decide +kernel
theorem dX9_stretchAt_1 : decode cX9_stretchAt 1 = .ok (.istore_n 2, 1) := by decide +kernel
theorem dX9_stretchAt_2 : decode cX9_stretchAt 2 = .ok (.iload_n 1, 1) := by decide +kernel
theorem dX9_stretchAt_3 : decode cX9_stretchAt 3 = .ok (.istore_n 3, 1) := by decide +kernel
theorem dX9_stretchAt_4 : decode cX9_stretchAt 4 = .ok (.iload_n 3, 1) := by decide +kernel
theorem dX9_stretchAt_5 : decode cX9_stretchAt 5 = .ok (.aload_n 0, 1) := by decide +kernel
theorem dX9_stretchAt_6 : decode cX9_stretchAt 6 = .ok (.iconst 4, 1) := by decide +kernel
theorem dX9_stretchAt_7 : decode cX9_stretchAt 7 = .ok (.iload_n 2, 1) := by decide +kernel
theorem dX9_stretchAt_8 : decode cX9_stretchAt 8 = .ok (.iadd, 1) := by decide +kernel
theorem dX9_stretchAt_9 : decode cX9_stretchAt 9 = .ok (.iaload, 1) := by decide +kernel
theorem dX9_stretchAt_10 : decode cX9_stretchAt 10 = .ok (.if_icmp .lt 17, 3) := by decide +kernel
theorem dX9_stretchAt_13 : decode cX9_stretchAt 13 = .ok (.iload_n 3, 1) := by decide +kernel
theorem dX9_stretchAt_14 : decode cX9_stretchAt 14 = .ok (.aload_n 0, 1) := by decide +kernel
theorem dX9_stretchAt_15 : decode cX9_stretchAt 15 = .ok (.iconst 4, 1) := by decide +kernel
theorem dX9_stretchAt_16 : decode cX9_stretchAt 16 = .ok (.iload_n 2, 1) := by decide +kernel
theorem dX9_stretchAt_17 : decode cX9_stretchAt 17 = .ok (.iadd, 1) := by decide +kernel
theorem dX9_stretchAt_18 : decode cX9_stretchAt 18 = .ok (.iaload, 1) := by decide +kernel
theorem dX9_stretchAt_19 : decode cX9_stretchAt 19 = .ok (.isub, 1) := by decide +kernel
theorem dX9_stretchAt_20 : decode cX9_stretchAt 20 = .ok (.istore_n 3, 1) := by decide +kernel
theorem dX9_stretchAt_21 : decode cX9_stretchAt 21 = .ok (.iinc 2 1, 3) := by decide +kernel
theorem dX9_stretchAt_24 : decode cX9_stretchAt 24 = .ok (.goto (-20), 3) := by decide +kernel
theorem dX9_stretchAt_27 : decode cX9_stretchAt 27 = .ok (.iload_n 2, 1) := by decide +kernel
theorem dX9_stretchAt_28 : decode cX9_stretchAt 28 = .ok (.ireturn, 1) := by decide +kernel
end
section
theorem dX9_takes_0 : decode cX9_takes 0 = .ok (.iconst 0, 1) := by decide +kernel
theorem dX9_takes_1 : decode cX9_takes 1 = .ok (.istore_n 2, 1) := by decide +kernel
theorem dX9_takes_2 : decode cX9_takes 2 = .ok (.iload_n 2, 1) := by decide +kernel
theorem dX9_takes_3 : decode cX9_takes 3 = .ok (.iload_n 1, 1) := by decide +kernel
theorem dX9_takes_4 : decode cX9_takes 4 = .ok (.if_icmp .ge 172, 3) := by decide +kernel
theorem dX9_takes_7 : decode cX9_takes 7 = .ok (.iconst 0, 1) := by decide +kernel
theorem dX9_takes_8 : decode cX9_takes 8 = .ok (.istore_n 3, 1) := by decide +kernel
theorem dX9_takes_9 : decode cX9_takes 9 = .ok (.iconst 0, 1) := by decide +kernel
theorem dX9_takes_10 : decode cX9_takes 10 = .ok (.istore 4, 2) := by decide +kernel
theorem dX9_takes_12 : decode cX9_takes 12 = .ok (.aload_n 0, 1) := by decide +kernel
theorem dX9_takes_13 : decode cX9_takes 13 = .ok (.getfield 99, 3) := by decide +kernel
theorem dX9_takes_16 : decode cX9_takes 16 = .ok (.aload_n 0, 1) := by decide +kernel
theorem dX9_takes_17 : decode cX9_takes 17 = .ok (.getfield 95, 3) := by decide +kernel
theorem dX9_takes_20 : decode cX9_takes 20 = .ok (.if_icmp .ge 69, 3) := by decide +kernel
theorem dX9_takes_23 : decode cX9_takes 23 = .ok (.aload_n 0, 1) := by decide +kernel
theorem dX9_takes_24 : decode cX9_takes 24 = .ok (.getfield 28, 3) := by decide +kernel
theorem dX9_takes_27 : decode cX9_takes 27 = .ok (.aload_n 0, 1) := by decide +kernel
theorem dX9_takes_28 : decode cX9_takes 28 = .ok (.getfield 99, 3) := by decide +kernel
theorem dX9_takes_31 : decode cX9_takes 31 = .ok (.iaload, 1) := by decide +kernel
theorem dX9_takes_32 : decode cX9_takes 32 = .ok (.i2l, 1) := by decide +kernel
theorem dX9_takes_33 : decode cX9_takes 33 = .ok (.ldc2_w 102, 3) := by decide +kernel
theorem dX9_takes_36 : decode cX9_takes 36 = .ok (.ldc2_w 104, 3) := by decide +kernel
theorem dX9_takes_39 : decode cX9_takes 39 = .ok (.invokestatic 87, 3) := by decide +kernel
theorem dX9_takes_42 : decode cX9_takes 42 = .ok (.ifCond .eq 47, 3) := by decide +kernel
theorem dX9_takes_45 : decode cX9_takes 45 = .ok (.iload 4, 2) := by decide +kernel
theorem dX9_takes_47 : decode cX9_takes 47 = .ok (.iconst 2, 1) := by decide +kernel
theorem dX9_takes_48 : decode cX9_takes 48 = .ok (.if_icmp .ge 23, 3) := by decide +kernel
theorem dX9_takes_51 : decode cX9_takes 51 = .ok (.bipush 10, 2) := by decide +kernel
theorem dX9_takes_53 : decode cX9_takes 53 = .ok (.iload_n 3, 1) := by decide +kernel
theorem dX9_takes_54 : decode cX9_takes 54 = .ok (.imul, 1) := by decide +kernel
theorem dX9_takes_55 : decode cX9_takes 55 = .ok (.aload_n 0, 1) := by decide +kernel
theorem dX9_takes_56 : decode cX9_takes 56 = .ok (.getfield 28, 3) := by decide +kernel
theorem dX9_takes_59 : decode cX9_takes 59 = .ok (.aload_n 0, 1) := by decide +kernel
theorem dX9_takes_60 : decode cX9_takes 60 = .ok (.getfield 99, 3) := by decide +kernel
theorem dX9_takes_63 : decode cX9_takes 63 = .ok (.iaload, 1) := by decide +kernel
theorem dX9_takes_64 : decode cX9_takes 64 = .ok (.iadd, 1) := by decide +kernel
theorem dX9_takes_65 : decode cX9_takes 65 = .ok (.bipush 48, 2) := by decide +kernel
theorem dX9_takes_67 : decode cX9_takes 67 = .ok (.isub, 1) := by decide +kernel
theorem dX9_takes_68 : decode cX9_takes 68 = .ok (.goto 4, 3) := by decide +kernel
theorem dX9_takes_71 : decode cX9_takes 71 = .ok (.iload_n 3, 1) := by decide +kernel
theorem dX9_takes_72 : decode cX9_takes 72 = .ok (.istore_n 3, 1) := by decide +kernel
theorem dX9_takes_73 : decode cX9_takes 73 = .ok (.iinc 4 1, 3) := by decide +kernel
theorem dX9_takes_76 : decode cX9_takes 76 = .ok (.aload_n 0, 1) := by decide +kernel
theorem dX9_takes_77 : decode cX9_takes 77 = .ok (.dup, 1) := by decide +kernel
theorem dX9_takes_78 : decode cX9_takes 78 = .ok (.getfield 99, 3) := by decide +kernel
theorem dX9_takes_81 : decode cX9_takes 81 = .ok (.iconst 1, 1) := by decide +kernel
theorem dX9_takes_82 : decode cX9_takes 82 = .ok (.iadd, 1) := by decide +kernel
theorem dX9_takes_83 : decode cX9_takes 83 = .ok (.putfield 99, 3) := by decide +kernel
theorem dX9_takes_86 : decode cX9_takes 86 = .ok (.goto (-74), 3) := by decide +kernel
theorem dX9_takes_89 : decode cX9_takes 89 = .ok (.aload_n 0, 1) := by decide +kernel
theorem dX9_takes_90 : decode cX9_takes 90 = .ok (.getfield 99, 3) := by decide +kernel
theorem dX9_takes_93 : decode cX9_takes 93 = .ok (.aload_n 0, 1) := by decide +kernel
theorem dX9_takes_94 : decode cX9_takes 94 = .ok (.getfield 95, 3) := by decide +kernel
theorem dX9_takes_97 : decode cX9_takes 97 = .ok (.if_icmp .ge 33, 3) := by decide +kernel
theorem dX9_takes_100 : decode cX9_takes 100 = .ok (.aload_n 0, 1) := by decide +kernel
theorem dX9_takes_101 : decode cX9_takes 101 = .ok (.getfield 28, 3) := by decide +kernel
theorem dX9_takes_104 : decode cX9_takes 104 = .ok (.aload_n 0, 1) := by decide +kernel
theorem dX9_takes_105 : decode cX9_takes 105 = .ok (.getfield 99, 3) := by decide +kernel
theorem dX9_takes_108 : decode cX9_takes 108 = .ok (.iaload, 1) := by decide +kernel
theorem dX9_takes_109 : decode cX9_takes 109 = .ok (.iload_n 2, 1) := by decide +kernel
theorem dX9_takes_110 : decode cX9_takes 110 = .ok (.iload_n 1, 1) := by decide +kernel
theorem dX9_takes_111 : decode cX9_takes 111 = .ok (.iconst 1, 1) := by decide +kernel
theorem dX9_takes_112 : decode cX9_takes 112 = .ok (.isub, 1) := by decide +kernel
theorem dX9_takes_113 : decode cX9_takes 113 = .ok (.if_icmp .ge 8, 3) := by decide +kernel
theorem dX9_takes_116 : decode cX9_takes 116 = .ok (.bipush 44, 2) := by decide +kernel
theorem dX9_takes_118 : decode cX9_takes 118 = .ok (.goto 5, 3) := by decide +kernel
theorem dX9_takes_121 : decode cX9_takes 121 = .ok (.bipush 59, 2) := by decide +kernel
theorem dX9_takes_123 : decode cX9_takes 123 = .ok (.if_icmp .ne 7, 3) := by decide +kernel
theorem dX9_takes_126 : decode cX9_takes 126 = .ok (.iconst 1, 1) := by decide +kernel
theorem dX9_takes_127 : decode cX9_takes 127 = .ok (.goto 4, 3) := by decide +kernel
theorem dX9_takes_130 : decode cX9_takes 130 = .ok (.iconst 0, 1) := by decide +kernel
theorem dX9_takes_131 : decode cX9_takes 131 = .ok (.istore 5, 2) := by decide +kernel
theorem dX9_takes_133 : decode cX9_takes 133 = .ok (.iload 4, 2) := by decide +kernel
theorem dX9_takes_135 : decode cX9_takes 135 = .ok (.i2l, 1) := by decide +kernel
theorem dX9_takes_136 : decode cX9_takes 136 = .ok (.lconst 1, 1) := by decide +kernel
theorem dX9_takes_137 : decode cX9_takes 137 = .ok (.ldc2_w 106, 3) := by decide +kernel
theorem dX9_takes_140 : decode cX9_takes 140 = .ok (.invokestatic 87, 3) := by decide +kernel
theorem dX9_takes_143 : decode cX9_takes 143 = .ok (.ifCond .eq 8, 3) := by decide +kernel
theorem dX9_takes_146 : decode cX9_takes 146 = .ok (.iload 5, 2) := by decide +kernel
theorem dX9_takes_148 : decode cX9_takes 148 = .ok (.ifCond .ne 5, 3) := by decide +kernel
theorem dX9_takes_151 : decode cX9_takes 151 = .ok (.iconst 0, 1) := by decide +kernel
theorem dX9_takes_152 : decode cX9_takes 152 = .ok (.ireturn, 1) := by decide +kernel
theorem dX9_takes_153 : decode cX9_takes 153 = .ok (.aload_n 0, 1) := by decide +kernel
theorem dX9_takes_154 : decode cX9_takes 154 = .ok (.getfield 34, 3) := by decide +kernel
theorem dX9_takes_157 : decode cX9_takes 157 = .ok (.iload_n 2, 1) := by decide +kernel
theorem dX9_takes_158 : decode cX9_takes 158 = .ok (.iload_n 3, 1) := by decide +kernel
theorem dX9_takes_159 : decode cX9_takes 159 = .ok (.iastore, 1) := by decide +kernel
theorem dX9_takes_160 : decode cX9_takes 160 = .ok (.aload_n 0, 1) := by decide +kernel
theorem dX9_takes_161 : decode cX9_takes 161 = .ok (.dup, 1) := by decide +kernel
theorem dX9_takes_162 : decode cX9_takes 162 = .ok (.getfield 99, 3) := by decide +kernel
theorem dX9_takes_165 : decode cX9_takes 165 = .ok (.iconst 1, 1) := by decide +kernel
theorem dX9_takes_166 : decode cX9_takes 166 = .ok (.iadd, 1) := by decide +kernel
theorem dX9_takes_167 : decode cX9_takes 167 = .ok (.putfield 99, 3) := by decide +kernel
theorem dX9_takes_170 : decode cX9_takes 170 = .ok (.iinc 2 1, 3) := by decide +kernel
theorem dX9_takes_173 : decode cX9_takes 173 = .ok (.goto (-171), 3) := by decide +kernel
theorem dX9_takes_176 : decode cX9_takes 176 = .ok (.iconst 1, 1) := by decide +kernel
theorem dX9_takes_177 : decode cX9_takes 177 = .ok (.ireturn, 1) := by decide +kernel
theorem dX9_takesBearer_0 : decode cX9_takesBearer 0 = .ok (.aload_n 0, 1) := by decide +kernel
theorem dX9_takesBearer_1 : decode cX9_takesBearer 1 = .ok (.iconst 2, 1) := by decide +kernel
theorem dX9_takesBearer_2 : decode cX9_takesBearer 2 = .ok (.invokevirtual 108, 3) := by decide +kernel
theorem dX9_takesBearer_5 : decode cX9_takesBearer 5 = .ok (.ifCond .eq 35, 3) := by decide +kernel
theorem dX9_takesBearer_8 : decode cX9_takesBearer 8 = .ok (.aload_n 0, 1) := by decide +kernel
theorem dX9_takesBearer_9 : decode cX9_takesBearer 9 = .ok (.iconst 0, 1) := by decide +kernel
theorem dX9_takesBearer_10 : decode cX9_takesBearer 10 = .ok (.iconst 1, 1) := by decide +kernel
theorem dX9_takesBearer_11 : decode cX9_takesBearer 11 = .ok (.bipush 60, 2) := by decide +kernel
theorem dX9_takesBearer_13 : decode cX9_takesBearer 13 = .ok (.invokevirtual 112, 3) := by decide +kernel
theorem dX9_takesBearer_16 : decode cX9_takesBearer 16 = .ok (.ifCond .eq 24, 3) := by decide +kernel
theorem dX9_takesBearer_19 : decode cX9_takesBearer 19 = .ok (.aload_n 0, 1) := by decide +kernel
theorem dX9_takesBearer_20 : decode cX9_takesBearer 20 = .ok (.iconst 1, 1) := by decide +kernel
theorem dX9_takesBearer_21 : decode cX9_takesBearer 21 = .ok (.iconst 0, 1) := by decide +kernel
theorem dX9_takesBearer_22 : decode cX9_takesBearer 22 = .ok (.iconst 3, 1) := by decide +kernel
theorem dX9_takesBearer_23 : decode cX9_takesBearer 23 = .ok (.invokevirtual 112, 3) := by decide +kernel
theorem dX9_takesBearer_26 : decode cX9_takesBearer 26 = .ok (.ifCond .eq 14, 3) := by decide +kernel
theorem dX9_takesBearer_29 : decode cX9_takesBearer 29 = .ok (.aload_n 0, 1) := by decide +kernel
theorem dX9_takesBearer_30 : decode cX9_takesBearer 30 = .ok (.getfield 13, 3) := by decide +kernel
theorem dX9_takesBearer_33 : decode cX9_takesBearer 33 = .ok (.iconst 1, 1) := by decide +kernel
theorem dX9_takesBearer_34 : decode cX9_takesBearer 34 = .ok (.iaload, 1) := by decide +kernel
theorem dX9_takesBearer_35 : decode cX9_takesBearer 35 = .ok (.bipush 6, 2) := by decide +kernel
theorem dX9_takesBearer_37 : decode cX9_takesBearer 37 = .ok (.if_icmp .ne 5, 3) := by decide +kernel
theorem dX9_takesBearer_40 : decode cX9_takesBearer 40 = .ok (.iconst 0, 1) := by decide +kernel
theorem dX9_takesBearer_41 : decode cX9_takesBearer 41 = .ok (.ireturn, 1) := by decide +kernel
theorem dX9_takesBearer_42 : decode cX9_takesBearer 42 = .ok (.aload_n 0, 1) := by decide +kernel
theorem dX9_takesBearer_43 : decode cX9_takesBearer 43 = .ok (.bipush 10, 2) := by decide +kernel
theorem dX9_takesBearer_45 : decode cX9_takesBearer 45 = .ok (.aload_n 0, 1) := by decide +kernel
theorem dX9_takesBearer_46 : decode cX9_takesBearer 46 = .ok (.getfield 34, 3) := by decide +kernel
theorem dX9_takesBearer_49 : decode cX9_takesBearer 49 = .ok (.iconst 0, 1) := by decide +kernel
theorem dX9_takesBearer_50 : decode cX9_takesBearer 50 = .ok (.iaload, 1) := by decide +kernel
theorem dX9_takesBearer_51 : decode cX9_takesBearer 51 = .ok (.imul, 1) := by decide +kernel
theorem dX9_takesBearer_52 : decode cX9_takesBearer 52 = .ok (.aload_n 0, 1) := by decide +kernel
theorem dX9_takesBearer_53 : decode cX9_takesBearer 53 = .ok (.getfield 34, 3) := by decide +kernel
theorem dX9_takesBearer_56 : decode cX9_takesBearer 56 = .ok (.iconst 1, 1) := by decide +kernel
theorem dX9_takesBearer_57 : decode cX9_takesBearer 57 = .ok (.iaload, 1) := by decide +kernel
theorem dX9_takesBearer_58 : decode cX9_takesBearer 58 = .ok (.invokevirtual 77, 3) := by decide +kernel
theorem dX9_takesBearer_61 : decode cX9_takesBearer 61 = .ok (.iconst 1, 1) := by decide +kernel
theorem dX9_takesBearer_62 : decode cX9_takesBearer 62 = .ok (.ireturn, 1) := by decide +kernel
theorem dX9_takesItem_0 : decode cX9_takesItem 0 = .ok (.aload_n 0, 1) := by decide +kernel
theorem dX9_takesItem_1 : decode cX9_takesItem 1 = .ok (.getfield 28, 3) := by decide +kernel
theorem dX9_takesItem_4 : decode cX9_takesItem 4 = .ok (.aload_n 0, 1) := by decide +kernel
theorem dX9_takesItem_5 : decode cX9_takesItem 5 = .ok (.getfield 99, 3) := by decide +kernel
theorem dX9_takesItem_8 : decode cX9_takesItem 8 = .ok (.iaload, 1) := by decide +kernel
theorem dX9_takesItem_9 : decode cX9_takesItem 9 = .ok (.istore_n 1, 1) := by decide +kernel
theorem dX9_takesItem_10 : decode cX9_takesItem 10 = .ok (.aload_n 0, 1) := by decide +kernel
theorem dX9_takesItem_11 : decode cX9_takesItem 11 = .ok (.dup, 1) := by decide +kernel
theorem dX9_takesItem_12 : decode cX9_takesItem 12 = .ok (.getfield 99, 3) := by decide +kernel
theorem dX9_takesItem_15 : decode cX9_takesItem 15 = .ok (.iconst 1, 1) := by decide +kernel
theorem dX9_takesItem_16 : decode cX9_takesItem 16 = .ok (.iadd, 1) := by decide +kernel
theorem dX9_takesItem_17 : decode cX9_takesItem 17 = .ok (.putfield 99, 3) := by decide +kernel
theorem dX9_takesItem_20 : decode cX9_takesItem 20 = .ok (.iload_n 1, 1) := by decide +kernel
theorem dX9_takesItem_21 : decode cX9_takesItem 21 = .ok (.lookupswitch 95 #[(98, 64), (109, 69), (114, 77), (115, 59), (116, 85), (120, 90)], 59) := by decide +kernel
theorem dX9_takesItem_80 : decode cX9_takesItem 80 = .ok (.aload_n 0, 1) := by decide +kernel
theorem dX9_takesItem_81 : decode cX9_takesItem 81 = .ok (.invokevirtual 120, 3) := by decide +kernel
theorem dX9_takesItem_84 : decode cX9_takesItem 84 = .ok (.ireturn, 1) := by decide +kernel
theorem dX9_takesItem_85 : decode cX9_takesItem 85 = .ok (.aload_n 0, 1) := by decide +kernel
theorem dX9_takesItem_86 : decode cX9_takesItem 86 = .ok (.invokevirtual 124, 3) := by decide +kernel
theorem dX9_takesItem_89 : decode cX9_takesItem 89 = .ok (.ireturn, 1) := by decide +kernel
theorem dX9_takesItem_90 : decode cX9_takesItem 90 = .ok (.aload_n 0, 1) := by decide +kernel
theorem dX9_takesItem_91 : decode cX9_takesItem 91 = .ok (.iconst 2, 1) := by decide +kernel
theorem dX9_takesItem_92 : decode cX9_takesItem 92 = .ok (.iconst 1, 1) := by decide +kernel
theorem dX9_takesItem_93 : decode cX9_takesItem 93 = .ok (.iconst 3, 1) := by decide +kernel
theorem dX9_takesItem_94 : decode cX9_takesItem 94 = .ok (.invokevirtual 127, 3) := by decide +kernel
theorem dX9_takesItem_97 : decode cX9_takesItem 97 = .ok (.ireturn, 1) := by decide +kernel
theorem dX9_takesItem_98 : decode cX9_takesItem 98 = .ok (.aload_n 0, 1) := by decide +kernel
theorem dX9_takesItem_99 : decode cX9_takesItem 99 = .ok (.iconst 3, 1) := by decide +kernel
theorem dX9_takesItem_100 : decode cX9_takesItem 100 = .ok (.iconst 0, 1) := by decide +kernel
theorem dX9_takesItem_101 : decode cX9_takesItem 101 = .ok (.iconst 3, 1) := by decide +kernel
theorem dX9_takesItem_102 : decode cX9_takesItem 102 = .ok (.invokevirtual 127, 3) := by decide +kernel
theorem dX9_takesItem_105 : decode cX9_takesItem 105 = .ok (.ireturn, 1) := by decide +kernel
theorem dX9_takesItem_106 : decode cX9_takesItem 106 = .ok (.aload_n 0, 1) := by decide +kernel
theorem dX9_takesItem_107 : decode cX9_takesItem 107 = .ok (.invokevirtual 130, 3) := by decide +kernel
theorem dX9_takesItem_110 : decode cX9_takesItem 110 = .ok (.ireturn, 1) := by decide +kernel
theorem dX9_takesItem_111 : decode cX9_takesItem 111 = .ok (.aload_n 0, 1) := by decide +kernel
theorem dX9_takesItem_112 : decode cX9_takesItem 112 = .ok (.invokevirtual 133, 3) := by decide +kernel
theorem dX9_takesItem_115 : decode cX9_takesItem 115 = .ok (.ireturn, 1) := by decide +kernel
theorem dX9_takesItem_116 : decode cX9_takesItem 116 = .ok (.iconst 0, 1) := by decide +kernel
theorem dX9_takesItem_117 : decode cX9_takesItem 117 = .ok (.ireturn, 1) := by decide +kernel
theorem dX9_takesOne_0 : decode cX9_takesOne 0 = .ok (.aload_n 0, 1) := by decide +kernel
theorem dX9_takesOne_1 : decode cX9_takesOne 1 = .ok (.iconst 1, 1) := by decide +kernel
theorem dX9_takesOne_2 : decode cX9_takesOne 2 = .ok (.invokevirtual 108, 3) := by decide +kernel
theorem dX9_takesOne_5 : decode cX9_takesOne 5 = .ok (.ifCond .eq 13, 3) := by decide +kernel
theorem dX9_takesOne_8 : decode cX9_takesOne 8 = .ok (.aload_n 0, 1) := by decide +kernel
theorem dX9_takesOne_9 : decode cX9_takesOne 9 = .ok (.iconst 0, 1) := by decide +kernel
theorem dX9_takesOne_10 : decode cX9_takesOne 10 = .ok (.iload_n 2, 1) := by decide +kernel
theorem dX9_takesOne_11 : decode cX9_takesOne 11 = .ok (.iload_n 3, 1) := by decide +kernel
theorem dX9_takesOne_12 : decode cX9_takesOne 12 = .ok (.invokevirtual 112, 3) := by decide +kernel
theorem dX9_takesOne_15 : decode cX9_takesOne 15 = .ok (.ifCond .ne 5, 3) := by decide +kernel
theorem dX9_takesOne_18 : decode cX9_takesOne 18 = .ok (.iconst 0, 1) := by decide +kernel
theorem dX9_takesOne_19 : decode cX9_takesOne 19 = .ok (.ireturn, 1) := by decide +kernel
theorem dX9_takesOne_20 : decode cX9_takesOne 20 = .ok (.aload_n 0, 1) := by decide +kernel
theorem dX9_takesOne_21 : decode cX9_takesOne 21 = .ok (.getfield 13, 3) := by decide +kernel
theorem dX9_takesOne_24 : decode cX9_takesOne 24 = .ok (.iload_n 1, 1) := by decide +kernel
theorem dX9_takesOne_25 : decode cX9_takesOne 25 = .ok (.aload_n 0, 1) := by decide +kernel
theorem dX9_takesOne_26 : decode cX9_takesOne 26 = .ok (.getfield 34, 3) := by decide +kernel
theorem dX9_takesOne_29 : decode cX9_takesOne 29 = .ok (.iconst 0, 1) := by decide +kernel
theorem dX9_takesOne_30 : decode cX9_takesOne 30 = .ok (.iaload, 1) := by decide +kernel
theorem dX9_takesOne_31 : decode cX9_takesOne 31 = .ok (.iastore, 1) := by decide +kernel
theorem dX9_takesOne_32 : decode cX9_takesOne 32 = .ok (.iconst 1, 1) := by decide +kernel
theorem dX9_takesOne_33 : decode cX9_takesOne 33 = .ok (.ireturn, 1) := by decide +kernel
theorem dX9_takesPrice_0 : decode cX9_takesPrice 0 = .ok (.aload_n 0, 1) := by decide +kernel
theorem dX9_takesPrice_1 : decode cX9_takesPrice 1 = .ok (.iconst 2, 1) := by decide +kernel
theorem dX9_takesPrice_2 : decode cX9_takesPrice 2 = .ok (.invokevirtual 108, 3) := by decide +kernel
theorem dX9_takesPrice_5 : decode cX9_takesPrice 5 = .ok (.ifCond .eq 31, 3) := by decide +kernel
theorem dX9_takesPrice_8 : decode cX9_takesPrice 8 = .ok (.aload_n 0, 1) := by decide +kernel
theorem dX9_takesPrice_9 : decode cX9_takesPrice 9 = .ok (.iconst 0, 1) := by decide +kernel
theorem dX9_takesPrice_10 : decode cX9_takesPrice 10 = .ok (.iconst 0, 1) := by decide +kernel
theorem dX9_takesPrice_11 : decode cX9_takesPrice 11 = .ok (.aload_n 0, 1) := by decide +kernel
theorem dX9_takesPrice_12 : decode cX9_takesPrice 12 = .ok (.getfield 13, 3) := by decide +kernel
theorem dX9_takesPrice_15 : decode cX9_takesPrice 15 = .ok (.iconst 0, 1) := by decide +kernel
theorem dX9_takesPrice_16 : decode cX9_takesPrice 16 = .ok (.iaload, 1) := by decide +kernel
theorem dX9_takesPrice_17 : decode cX9_takesPrice 17 = .ok (.iconst 1, 1) := by decide +kernel
theorem dX9_takesPrice_18 : decode cX9_takesPrice 18 = .ok (.isub, 1) := by decide +kernel
theorem dX9_takesPrice_19 : decode cX9_takesPrice 19 = .ok (.invokevirtual 112, 3) := by decide +kernel
theorem dX9_takesPrice_22 : decode cX9_takesPrice 22 = .ok (.ifCond .eq 14, 3) := by decide +kernel
theorem dX9_takesPrice_25 : decode cX9_takesPrice 25 = .ok (.aload_n 0, 1) := by decide +kernel
theorem dX9_takesPrice_26 : decode cX9_takesPrice 26 = .ok (.iconst 1, 1) := by decide +kernel
theorem dX9_takesPrice_27 : decode cX9_takesPrice 27 = .ok (.iconst 1, 1) := by decide +kernel
theorem dX9_takesPrice_28 : decode cX9_takesPrice 28 = .ok (.bipush 9, 2) := by decide +kernel
theorem dX9_takesPrice_30 : decode cX9_takesPrice 30 = .ok (.invokevirtual 112, 3) := by decide +kernel
theorem dX9_takesPrice_33 : decode cX9_takesPrice 33 = .ok (.ifCond .ne 5, 3) := by decide +kernel
theorem dX9_takesPrice_36 : decode cX9_takesPrice 36 = .ok (.iconst 0, 1) := by decide +kernel
theorem dX9_takesPrice_37 : decode cX9_takesPrice 37 = .ok (.ireturn, 1) := by decide +kernel
theorem dX9_takesPrice_38 : decode cX9_takesPrice 38 = .ok (.aload_n 0, 1) := by decide +kernel
theorem dX9_takesPrice_39 : decode cX9_takesPrice 39 = .ok (.getfield 13, 3) := by decide +kernel
theorem dX9_takesPrice_42 : decode cX9_takesPrice 42 = .ok (.bipush 16, 2) := by decide +kernel
theorem dX9_takesPrice_44 : decode cX9_takesPrice 44 = .ok (.aload_n 0, 1) := by decide +kernel
theorem dX9_takesPrice_45 : decode cX9_takesPrice 45 = .ok (.getfield 34, 3) := by decide +kernel
theorem dX9_takesPrice_48 : decode cX9_takesPrice 48 = .ok (.iconst 0, 1) := by decide +kernel
theorem dX9_takesPrice_49 : decode cX9_takesPrice 49 = .ok (.iaload, 1) := by decide +kernel
theorem dX9_takesPrice_50 : decode cX9_takesPrice 50 = .ok (.iadd, 1) := by decide +kernel
theorem dX9_takesPrice_51 : decode cX9_takesPrice 51 = .ok (.aload_n 0, 1) := by decide +kernel
theorem dX9_takesPrice_52 : decode cX9_takesPrice 52 = .ok (.getfield 34, 3) := by decide +kernel
theorem dX9_takesPrice_55 : decode cX9_takesPrice 55 = .ok (.iconst 1, 1) := by decide +kernel
theorem dX9_takesPrice_56 : decode cX9_takesPrice 56 = .ok (.iaload, 1) := by decide +kernel
theorem dX9_takesPrice_57 : decode cX9_takesPrice 57 = .ok (.iastore, 1) := by decide +kernel
theorem dX9_takesPrice_58 : decode cX9_takesPrice 58 = .ok (.iconst 1, 1) := by decide +kernel
theorem dX9_takesPrice_59 : decode cX9_takesPrice 59 = .ok (.ireturn, 1) := by decide +kernel
theorem dX9_takesStretch_0 : decode cX9_takesStretch 0 = .ok (.aload_n 0, 1) := by decide +kernel
theorem dX9_takesStretch_1 : decode cX9_takesStretch 1 = .ok (.iconst 2, 1) := by decide +kernel
theorem dX9_takesStretch_2 : decode cX9_takesStretch 2 = .ok (.invokevirtual 108, 3) := by decide +kernel
theorem dX9_takesStretch_5 : decode cX9_takesStretch 5 = .ok (.ifCond .eq 54, 3) := by decide +kernel
theorem dX9_takesStretch_8 : decode cX9_takesStretch 8 = .ok (.aload_n 0, 1) := by decide +kernel
theorem dX9_takesStretch_9 : decode cX9_takesStretch 9 = .ok (.iconst 0, 1) := by decide +kernel
theorem dX9_takesStretch_10 : decode cX9_takesStretch 10 = .ok (.iconst 1, 1) := by decide +kernel
theorem dX9_takesStretch_11 : decode cX9_takesStretch 11 = .ok (.bipush 30, 2) := by decide +kernel
theorem dX9_takesStretch_13 : decode cX9_takesStretch 13 = .ok (.invokevirtual 112, 3) := by decide +kernel
theorem dX9_takesStretch_16 : decode cX9_takesStretch 16 = .ok (.ifCond .eq 43, 3) := by decide +kernel
theorem dX9_takesStretch_19 : decode cX9_takesStretch 19 = .ok (.aload_n 0, 1) := by decide +kernel
theorem dX9_takesStretch_20 : decode cX9_takesStretch 20 = .ok (.iconst 1, 1) := by decide +kernel
theorem dX9_takesStretch_21 : decode cX9_takesStretch 21 = .ok (.iconst 0, 1) := by decide +kernel
theorem dX9_takesStretch_22 : decode cX9_takesStretch 22 = .ok (.iconst 5, 1) := by decide +kernel
theorem dX9_takesStretch_23 : decode cX9_takesStretch 23 = .ok (.invokevirtual 112, 3) := by decide +kernel
theorem dX9_takesStretch_26 : decode cX9_takesStretch 26 = .ok (.ifCond .eq 33, 3) := by decide +kernel
theorem dX9_takesStretch_29 : decode cX9_takesStretch 29 = .ok (.aload_n 0, 1) := by decide +kernel
theorem dX9_takesStretch_30 : decode cX9_takesStretch 30 = .ok (.getfield 13, 3) := by decide +kernel
theorem dX9_takesStretch_33 : decode cX9_takesStretch 33 = .ok (.iconst 0, 1) := by decide +kernel
theorem dX9_takesStretch_34 : decode cX9_takesStretch 34 = .ok (.iaload, 1) := by decide +kernel
theorem dX9_takesStretch_35 : decode cX9_takesStretch 35 = .ok (.bipush 6, 2) := by decide +kernel
theorem dX9_takesStretch_37 : decode cX9_takesStretch 37 = .ok (.if_icmp .eq 22, 3) := by decide +kernel
theorem dX9_takesStretch_40 : decode cX9_takesStretch 40 = .ok (.aload_n 0, 1) := by decide +kernel
theorem dX9_takesStretch_41 : decode cX9_takesStretch 41 = .ok (.getfield 13, 3) := by decide +kernel
theorem dX9_takesStretch_44 : decode cX9_takesStretch 44 = .ok (.invokestatic 116, 3) := by decide +kernel
theorem dX9_takesStretch_47 : decode cX9_takesStretch 47 = .ok (.aload_n 0, 1) := by decide +kernel
theorem dX9_takesStretch_48 : decode cX9_takesStretch 48 = .ok (.getfield 34, 3) := by decide +kernel
theorem dX9_takesStretch_51 : decode cX9_takesStretch 51 = .ok (.iconst 0, 1) := by decide +kernel
theorem dX9_takesStretch_52 : decode cX9_takesStretch 52 = .ok (.iaload, 1) := by decide +kernel
theorem dX9_takesStretch_53 : decode cX9_takesStretch 53 = .ok (.iadd, 1) := by decide +kernel
theorem dX9_takesStretch_54 : decode cX9_takesStretch 54 = .ok (.bipush 120, 2) := by decide +kernel
theorem dX9_takesStretch_56 : decode cX9_takesStretch 56 = .ok (.if_icmp .le 5, 3) := by decide +kernel
theorem dX9_takesStretch_59 : decode cX9_takesStretch 59 = .ok (.iconst 0, 1) := by decide +kernel
theorem dX9_takesStretch_60 : decode cX9_takesStretch 60 = .ok (.ireturn, 1) := by decide +kernel
theorem dX9_takesStretch_61 : decode cX9_takesStretch 61 = .ok (.aload_n 0, 1) := by decide +kernel
theorem dX9_takesStretch_62 : decode cX9_takesStretch 62 = .ok (.aload_n 0, 1) := by decide +kernel
theorem dX9_takesStretch_63 : decode cX9_takesStretch 63 = .ok (.getfield 34, 3) := by decide +kernel
theorem dX9_takesStretch_66 : decode cX9_takesStretch 66 = .ok (.iconst 0, 1) := by decide +kernel
theorem dX9_takesStretch_67 : decode cX9_takesStretch 67 = .ok (.iaload, 1) := by decide +kernel
theorem dX9_takesStretch_68 : decode cX9_takesStretch 68 = .ok (.aload_n 0, 1) := by decide +kernel
theorem dX9_takesStretch_69 : decode cX9_takesStretch 69 = .ok (.getfield 34, 3) := by decide +kernel
theorem dX9_takesStretch_72 : decode cX9_takesStretch 72 = .ok (.iconst 1, 1) := by decide +kernel
theorem dX9_takesStretch_73 : decode cX9_takesStretch 73 = .ok (.iaload, 1) := by decide +kernel
theorem dX9_takesStretch_74 : decode cX9_takesStretch 74 = .ok (.invokevirtual 73, 3) := by decide +kernel
theorem dX9_takesStretch_77 : decode cX9_takesStretch 77 = .ok (.iconst 1, 1) := by decide +kernel
theorem dX9_takesStretch_78 : decode cX9_takesStretch 78 = .ok (.ireturn, 1) := by decide +kernel
theorem dX9_takesTurn_0 : decode cX9_takesTurn 0 = .ok (.aload_n 0, 1) := by decide +kernel
theorem dX9_takesTurn_1 : decode cX9_takesTurn 1 = .ok (.getfield 19, 3) := by decide +kernel
theorem dX9_takesTurn_4 : decode cX9_takesTurn 4 = .ok (.iconst 0, 1) := by decide +kernel
theorem dX9_takesTurn_5 : decode cX9_takesTurn 5 = .ok (.iaload, 1) := by decide +kernel
theorem dX9_takesTurn_6 : decode cX9_takesTurn 6 = .ok (.istore 4, 2) := by decide +kernel
theorem dX9_takesTurn_8 : decode cX9_takesTurn 8 = .ok (.aload_n 0, 1) := by decide +kernel
theorem dX9_takesTurn_9 : decode cX9_takesTurn 9 = .ok (.getfield 19, 3) := by decide +kernel
theorem dX9_takesTurn_12 : decode cX9_takesTurn 12 = .ok (.iconst 1, 1) := by decide +kernel
theorem dX9_takesTurn_13 : decode cX9_takesTurn 13 = .ok (.iload 4, 2) := by decide +kernel
theorem dX9_takesTurn_15 : decode cX9_takesTurn 15 = .ok (.iadd, 1) := by decide +kernel
theorem dX9_takesTurn_16 : decode cX9_takesTurn 16 = .ok (.iload_n 1, 1) := by decide +kernel
theorem dX9_takesTurn_17 : decode cX9_takesTurn 17 = .ok (.iastore, 1) := by decide +kernel
theorem dX9_takesTurn_18 : decode cX9_takesTurn 18 = .ok (.aload_n 0, 1) := by decide +kernel
theorem dX9_takesTurn_19 : decode cX9_takesTurn 19 = .ok (.getfield 19, 3) := by decide +kernel
theorem dX9_takesTurn_22 : decode cX9_takesTurn 22 = .ok (.bipush 11, 2) := by decide +kernel
theorem dX9_takesTurn_24 : decode cX9_takesTurn 24 = .ok (.iload 4, 2) := by decide +kernel
theorem dX9_takesTurn_26 : decode cX9_takesTurn 26 = .ok (.iadd, 1) := by decide +kernel
theorem dX9_takesTurn_27 : decode cX9_takesTurn 27 = .ok (.iload_n 2, 1) := by decide +kernel
theorem dX9_takesTurn_28 : decode cX9_takesTurn 28 = .ok (.iastore, 1) := by decide +kernel
theorem dX9_takesTurn_29 : decode cX9_takesTurn 29 = .ok (.aload_n 0, 1) := by decide +kernel
theorem dX9_takesTurn_30 : decode cX9_takesTurn 30 = .ok (.getfield 19, 3) := by decide +kernel
theorem dX9_takesTurn_33 : decode cX9_takesTurn 33 = .ok (.bipush 21, 2) := by decide +kernel
theorem dX9_takesTurn_35 : decode cX9_takesTurn 35 = .ok (.iload 4, 2) := by decide +kernel
theorem dX9_takesTurn_37 : decode cX9_takesTurn 37 = .ok (.iadd, 1) := by decide +kernel
theorem dX9_takesTurn_38 : decode cX9_takesTurn 38 = .ok (.iload_n 3, 1) := by decide +kernel
theorem dX9_takesTurn_39 : decode cX9_takesTurn 39 = .ok (.iastore, 1) := by decide +kernel
theorem dX9_takesTurn_40 : decode cX9_takesTurn 40 = .ok (.aload_n 0, 1) := by decide +kernel
theorem dX9_takesTurn_41 : decode cX9_takesTurn 41 = .ok (.getfield 19, 3) := by decide +kernel
theorem dX9_takesTurn_44 : decode cX9_takesTurn 44 = .ok (.iconst 0, 1) := by decide +kernel
theorem dX9_takesTurn_45 : decode cX9_takesTurn 45 = .ok (.dup2, 1) := by decide +kernel
theorem dX9_takesTurn_46 : decode cX9_takesTurn 46 = .ok (.iaload, 1) := by decide +kernel
theorem dX9_takesTurn_47 : decode cX9_takesTurn 47 = .ok (.iconst 1, 1) := by decide +kernel
theorem dX9_takesTurn_48 : decode cX9_takesTurn 48 = .ok (.iadd, 1) := by decide +kernel
theorem dX9_takesTurn_49 : decode cX9_takesTurn 49 = .ok (.iastore, 1) := by decide +kernel
theorem dX9_takesTurn_50 : decode cX9_takesTurn 50 = .ok (.return_, 1) := by decide +kernel
theorem dX9_takesTurns_0 : decode cX9_takesTurns 0 = .ok (.aload_n 0, 1) := by decide +kernel
theorem dX9_takesTurns_1 : decode cX9_takesTurns 1 = .ok (.iconst 3, 1) := by decide +kernel
theorem dX9_takesTurns_2 : decode cX9_takesTurns 2 = .ok (.invokevirtual 108, 3) := by decide +kernel
theorem dX9_takesTurns_5 : decode cX9_takesTurns 5 = .ok (.ifCond .eq 46, 3) := by decide +kernel
theorem dX9_takesTurns_8 : decode cX9_takesTurns 8 = .ok (.aload_n 0, 1) := by decide +kernel
theorem dX9_takesTurns_9 : decode cX9_takesTurns 9 = .ok (.iconst 0, 1) := by decide +kernel
theorem dX9_takesTurns_10 : decode cX9_takesTurns 10 = .ok (.iconst 0, 1) := by decide +kernel
theorem dX9_takesTurns_11 : decode cX9_takesTurns 11 = .ok (.aload_n 0, 1) := by decide +kernel
theorem dX9_takesTurns_12 : decode cX9_takesTurns 12 = .ok (.getfield 13, 3) := by decide +kernel
theorem dX9_takesTurns_15 : decode cX9_takesTurns 15 = .ok (.iconst 1, 1) := by decide +kernel
theorem dX9_takesTurns_16 : decode cX9_takesTurns 16 = .ok (.iaload, 1) := by decide +kernel
theorem dX9_takesTurns_17 : decode cX9_takesTurns 17 = .ok (.iconst 1, 1) := by decide +kernel
theorem dX9_takesTurns_18 : decode cX9_takesTurns 18 = .ok (.isub, 1) := by decide +kernel
theorem dX9_takesTurns_19 : decode cX9_takesTurns 19 = .ok (.invokevirtual 112, 3) := by decide +kernel
theorem dX9_takesTurns_22 : decode cX9_takesTurns 22 = .ok (.ifCond .eq 29, 3) := by decide +kernel
theorem dX9_takesTurns_25 : decode cX9_takesTurns 25 = .ok (.aload_n 0, 1) := by decide +kernel
theorem dX9_takesTurns_26 : decode cX9_takesTurns 26 = .ok (.getfield 34, 3) := by decide +kernel
theorem dX9_takesTurns_29 : decode cX9_takesTurns 29 = .ok (.iconst 1, 1) := by decide +kernel
theorem dX9_takesTurns_30 : decode cX9_takesTurns 30 = .ok (.iaload, 1) := by decide +kernel
theorem dX9_takesTurns_31 : decode cX9_takesTurns 31 = .ok (.aload_n 0, 1) := by decide +kernel
theorem dX9_takesTurns_32 : decode cX9_takesTurns 32 = .ok (.getfield 34, 3) := by decide +kernel
theorem dX9_takesTurns_35 : decode cX9_takesTurns 35 = .ok (.iconst 2, 1) := by decide +kernel
theorem dX9_takesTurns_36 : decode cX9_takesTurns 36 = .ok (.iaload, 1) := by decide +kernel
theorem dX9_takesTurns_37 : decode cX9_takesTurns 37 = .ok (.if_icmp .gt 14, 3) := by decide +kernel
theorem dX9_takesTurns_40 : decode cX9_takesTurns 40 = .ok (.aload_n 0, 1) := by decide +kernel
theorem dX9_takesTurns_41 : decode cX9_takesTurns 41 = .ok (.getfield 19, 3) := by decide +kernel
theorem dX9_takesTurns_44 : decode cX9_takesTurns 44 = .ok (.iconst 0, 1) := by decide +kernel
theorem dX9_takesTurns_45 : decode cX9_takesTurns 45 = .ok (.iaload, 1) := by decide +kernel
theorem dX9_takesTurns_46 : decode cX9_takesTurns 46 = .ok (.bipush 9, 2) := by decide +kernel
theorem dX9_takesTurns_48 : decode cX9_takesTurns 48 = .ok (.if_icmp .ne 5, 3) := by decide +kernel
theorem dX9_takesTurns_51 : decode cX9_takesTurns 51 = .ok (.iconst 0, 1) := by decide +kernel
theorem dX9_takesTurns_52 : decode cX9_takesTurns 52 = .ok (.ireturn, 1) := by decide +kernel
theorem dX9_takesTurns_53 : decode cX9_takesTurns 53 = .ok (.aload_n 0, 1) := by decide +kernel
theorem dX9_takesTurns_54 : decode cX9_takesTurns 54 = .ok (.aload_n 0, 1) := by decide +kernel
theorem dX9_takesTurns_55 : decode cX9_takesTurns 55 = .ok (.getfield 34, 3) := by decide +kernel
theorem dX9_takesTurns_58 : decode cX9_takesTurns 58 = .ok (.iconst 0, 1) := by decide +kernel
theorem dX9_takesTurns_59 : decode cX9_takesTurns 59 = .ok (.iaload, 1) := by decide +kernel
theorem dX9_takesTurns_60 : decode cX9_takesTurns 60 = .ok (.aload_n 0, 1) := by decide +kernel
theorem dX9_takesTurns_61 : decode cX9_takesTurns 61 = .ok (.getfield 34, 3) := by decide +kernel
theorem dX9_takesTurns_64 : decode cX9_takesTurns 64 = .ok (.iconst 1, 1) := by decide +kernel
theorem dX9_takesTurns_65 : decode cX9_takesTurns 65 = .ok (.iaload, 1) := by decide +kernel
theorem dX9_takesTurns_66 : decode cX9_takesTurns 66 = .ok (.aload_n 0, 1) := by decide +kernel
theorem dX9_takesTurns_67 : decode cX9_takesTurns 67 = .ok (.getfield 34, 3) := by decide +kernel
theorem dX9_takesTurns_70 : decode cX9_takesTurns 70 = .ok (.iconst 2, 1) := by decide +kernel
theorem dX9_takesTurns_71 : decode cX9_takesTurns 71 = .ok (.iaload, 1) := by decide +kernel
theorem dX9_takesTurns_72 : decode cX9_takesTurns 72 = .ok (.invokevirtual 80, 3) := by decide +kernel
theorem dX9_takesTurns_75 : decode cX9_takesTurns 75 = .ok (.iconst 1, 1) := by decide +kernel
theorem dX9_takesTurns_76 : decode cX9_takesTurns 76 = .ok (.ireturn, 1) := by decide +kernel
theorem dX9_tolds_0 : decode cX9_tolds 0 = .ok (.iconst 0, 1) := by decide +kernel
theorem dX9_tolds_1 : decode cX9_tolds 1 = .ok (.istore_n 2, 1) := by decide +kernel
theorem dX9_tolds_2 : decode cX9_tolds 2 = .ok (.iconst 0, 1) := by decide +kernel
theorem dX9_tolds_3 : decode cX9_tolds 3 = .ok (.istore_n 3, 1) := by decide +kernel
theorem dX9_tolds_4 : decode cX9_tolds 4 = .ok (.iload_n 3, 1) := by decide +kernel
theorem dX9_tolds_5 : decode cX9_tolds 5 = .ok (.aload_n 0, 1) := by decide +kernel
theorem dX9_tolds_6 : decode cX9_tolds 6 = .ok (.getfield 40, 3) := by decide +kernel
theorem dX9_tolds_9 : decode cX9_tolds 9 = .ok (.iconst 0, 1) := by decide +kernel
theorem dX9_tolds_10 : decode cX9_tolds 10 = .ok (.iaload, 1) := by decide +kernel
theorem dX9_tolds_11 : decode cX9_tolds 11 = .ok (.if_icmp .ge 54, 3) := by decide +kernel
theorem dX9_tolds_14 : decode cX9_tolds 14 = .ok (.iload_n 2, 1) := by decide +kernel
theorem dX9_tolds_15 : decode cX9_tolds 15 = .ok (.iload_n 1, 1) := by decide +kernel
theorem dX9_tolds_16 : decode cX9_tolds 16 = .ok (.i2l, 1) := by decide +kernel
theorem dX9_tolds_17 : decode cX9_tolds 17 = .ok (.aload_n 0, 1) := by decide +kernel
theorem dX9_tolds_18 : decode cX9_tolds 18 = .ok (.getfield 40, 3) := by decide +kernel
theorem dX9_tolds_21 : decode cX9_tolds 21 = .ok (.bipush 11, 2) := by decide +kernel
theorem dX9_tolds_23 : decode cX9_tolds 23 = .ok (.iload_n 3, 1) := by decide +kernel
theorem dX9_tolds_24 : decode cX9_tolds 24 = .ok (.iadd, 1) := by decide +kernel
theorem dX9_tolds_25 : decode cX9_tolds 25 = .ok (.iaload, 1) := by decide +kernel
theorem dX9_tolds_26 : decode cX9_tolds 26 = .ok (.i2l, 1) := by decide +kernel
theorem dX9_tolds_27 : decode cX9_tolds 27 = .ok (.aload_n 0, 1) := by decide +kernel
theorem dX9_tolds_28 : decode cX9_tolds 28 = .ok (.getfield 40, 3) := by decide +kernel
theorem dX9_tolds_31 : decode cX9_tolds 31 = .ok (.bipush 21, 2) := by decide +kernel
theorem dX9_tolds_33 : decode cX9_tolds 33 = .ok (.iload_n 3, 1) := by decide +kernel
theorem dX9_tolds_34 : decode cX9_tolds 34 = .ok (.iadd, 1) := by decide +kernel
theorem dX9_tolds_35 : decode cX9_tolds 35 = .ok (.iaload, 1) := by decide +kernel
theorem dX9_tolds_36 : decode cX9_tolds 36 = .ok (.i2l, 1) := by decide +kernel
theorem dX9_tolds_37 : decode cX9_tolds 37 = .ok (.invokestatic 87, 3) := by decide +kernel
theorem dX9_tolds_40 : decode cX9_tolds 40 = .ok (.ifCond .eq 16, 3) := by decide +kernel
theorem dX9_tolds_43 : decode cX9_tolds 43 = .ok (.iconst 1, 1) := by decide +kernel
theorem dX9_tolds_44 : decode cX9_tolds 44 = .ok (.aload_n 0, 1) := by decide +kernel
theorem dX9_tolds_45 : decode cX9_tolds 45 = .ok (.getfield 40, 3) := by decide +kernel
theorem dX9_tolds_48 : decode cX9_tolds 48 = .ok (.iconst 1, 1) := by decide +kernel
theorem dX9_tolds_49 : decode cX9_tolds 49 = .ok (.iload_n 3, 1) := by decide +kernel
theorem dX9_tolds_50 : decode cX9_tolds 50 = .ok (.iadd, 1) := by decide +kernel
theorem dX9_tolds_51 : decode cX9_tolds 51 = .ok (.iaload, 1) := by decide +kernel
theorem dX9_tolds_52 : decode cX9_tolds 52 = .ok (.ishl, 1) := by decide +kernel
theorem dX9_tolds_53 : decode cX9_tolds 53 = .ok (.goto 4, 3) := by decide +kernel
theorem dX9_tolds_56 : decode cX9_tolds 56 = .ok (.iconst 0, 1) := by decide +kernel
theorem dX9_tolds_57 : decode cX9_tolds 57 = .ok (.ior, 1) := by decide +kernel
theorem dX9_tolds_58 : decode cX9_tolds 58 = .ok (.istore_n 2, 1) := by decide +kernel
theorem dX9_tolds_59 : decode cX9_tolds 59 = .ok (.iinc 3 1, 3) := by decide +kernel
theorem dX9_tolds_62 : decode cX9_tolds 62 = .ok (.goto (-58), 3) := by decide +kernel
theorem dX9_tolds_65 : decode cX9_tolds 65 = .ok (.iload_n 2, 1) := by decide +kernel
theorem dX9_tolds_66 : decode cX9_tolds 66 = .ok (.ireturn, 1) := by decide +kernel
theorem dX9_turn_0 : decode cX9_turn 0 = .ok (.aload_n 0, 1) := by decide +kernel
theorem dX9_turn_1 : decode cX9_turn 1 = .ok (.iload_n 1, 1) := by decide +kernel
theorem dX9_turn_2 : decode cX9_turn 2 = .ok (.invokevirtual 232, 3) := by decide +kernel
theorem dX9_turn_5 : decode cX9_turn 5 = .ok (.ifCond .eq 31, 3) := by decide +kernel
theorem dX9_turn_8 : decode cX9_turn 8 = .ok (.iload_n 2, 1) := by decide +kernel
theorem dX9_turn_9 : decode cX9_turn 9 = .ok (.i2l, 1) := by decide +kernel
theorem dX9_turn_10 : decode cX9_turn 10 = .ok (.lconst 0, 1) := by decide +kernel
theorem dX9_turn_11 : decode cX9_turn 11 = .ok (.ldc2_w 106, 3) := by decide +kernel
theorem dX9_turn_14 : decode cX9_turn 14 = .ok (.invokestatic 87, 3) := by decide +kernel
theorem dX9_turn_17 : decode cX9_turn 17 = .ok (.ifCond .eq 19, 3) := by decide +kernel
theorem dX9_turn_20 : decode cX9_turn 20 = .ok (.aload_n 0, 1) := by decide +kernel
theorem dX9_turn_21 : decode cX9_turn 21 = .ok (.getfield 16, 3) := by decide +kernel
theorem dX9_turn_24 : decode cX9_turn 24 = .ok (.iconst 1, 1) := by decide +kernel
theorem dX9_turn_25 : decode cX9_turn 25 = .ok (.bipush 10, 2) := by decide +kernel
theorem dX9_turn_27 : decode cX9_turn 27 = .ok (.iload_n 2, 1) := by decide +kernel
theorem dX9_turn_28 : decode cX9_turn 28 = .ok (.imul, 1) := by decide +kernel
theorem dX9_turn_29 : decode cX9_turn 29 = .ok (.iadd, 1) := by decide +kernel
theorem dX9_turn_30 : decode cX9_turn 30 = .ok (.iload_n 1, 1) := by decide +kernel
theorem dX9_turn_31 : decode cX9_turn 31 = .ok (.iadd, 1) := by decide +kernel
theorem dX9_turn_32 : decode cX9_turn 32 = .ok (.iaload, 1) := by decide +kernel
theorem dX9_turn_33 : decode cX9_turn 33 = .ok (.goto 4, 3) := by decide +kernel
theorem dX9_turn_36 : decode cX9_turn 36 = .ok (.iconst (-1), 1) := by decide +kernel
theorem dX9_turn_37 : decode cX9_turn 37 = .ok (.ireturn, 1) := by decide +kernel
theorem dX9_undo_0 : decode cX9_undo 0 = .ok (.aload_n 0, 1) := by decide +kernel
theorem dX9_undo_1 : decode cX9_undo 1 = .ok (.getfield 142, 3) := by decide +kernel
theorem dX9_undo_4 : decode cX9_undo 4 = .ok (.ifCond .ne 6, 3) := by decide +kernel
theorem dX9_undo_7 : decode cX9_undo 7 = .ok (.bipush (-2), 2) := by decide +kernel
theorem dX9_undo_9 : decode cX9_undo 9 = .ok (.ireturn, 1) := by decide +kernel
theorem dX9_undo_10 : decode cX9_undo 10 = .ok (.aload_n 0, 1) := by decide +kernel
theorem dX9_undo_11 : decode cX9_undo 11 = .ok (.dup, 1) := by decide +kernel
theorem dX9_undo_12 : decode cX9_undo 12 = .ok (.getfield 142, 3) := by decide +kernel
theorem dX9_undo_15 : decode cX9_undo 15 = .ok (.iconst 1, 1) := by decide +kernel
theorem dX9_undo_16 : decode cX9_undo 16 = .ok (.isub, 1) := by decide +kernel
theorem dX9_undo_17 : decode cX9_undo 17 = .ok (.putfield 142, 3) := by decide +kernel
theorem dX9_undo_20 : decode cX9_undo 20 = .ok (.aload_n 0, 1) := by decide +kernel
theorem dX9_undo_21 : decode cX9_undo 21 = .ok (.getfield 22, 3) := by decide +kernel
theorem dX9_undo_24 : decode cX9_undo 24 = .ok (.bipush 31, 2) := by decide +kernel
theorem dX9_undo_26 : decode cX9_undo 26 = .ok (.aload_n 0, 1) := by decide +kernel
theorem dX9_undo_27 : decode cX9_undo 27 = .ok (.getfield 142, 3) := by decide +kernel
theorem dX9_undo_30 : decode cX9_undo 30 = .ok (.imul, 1) := by decide +kernel
theorem dX9_undo_31 : decode cX9_undo 31 = .ok (.aload_n 0, 1) := by decide +kernel
theorem dX9_undo_32 : decode cX9_undo 32 = .ok (.getfield 16, 3) := by decide +kernel
theorem dX9_undo_35 : decode cX9_undo 35 = .ok (.iconst 0, 1) := by decide +kernel
theorem dX9_undo_36 : decode cX9_undo 36 = .ok (.invokestatic 235, 3) := by decide +kernel
theorem dX9_undo_39 : decode cX9_undo 39 = .ok (.aload_n 0, 1) := by decide +kernel
theorem dX9_undo_40 : decode cX9_undo 40 = .ok (.getfield 142, 3) := by decide +kernel
theorem dX9_undo_43 : decode cX9_undo 43 = .ok (.ireturn, 1) := by decide +kernel
theorem dX9_unfallen_0 : decode cX9_unfallen 0 = .ok (.iconst 0, 1) := by decide +kernel
theorem dX9_unfallen_1 : decode cX9_unfallen 1 = .ok (.istore_n 2, 1) := by decide +kernel
theorem dX9_unfallen_2 : decode cX9_unfallen 2 = .ok (.iconst 0, 1) := by decide +kernel
theorem dX9_unfallen_3 : decode cX9_unfallen 3 = .ok (.istore_n 3, 1) := by decide +kernel
theorem dX9_unfallen_4 : decode cX9_unfallen 4 = .ok (.iload_n 3, 1) := by decide +kernel
theorem dX9_unfallen_5 : decode cX9_unfallen 5 = .ok (.aload_n 0, 1) := by decide +kernel
theorem dX9_unfallen_6 : decode cX9_unfallen 6 = .ok (.getfield 37, 3) := by decide +kernel
theorem dX9_unfallen_9 : decode cX9_unfallen 9 = .ok (.iconst 1, 1) := by decide +kernel
theorem dX9_unfallen_10 : decode cX9_unfallen 10 = .ok (.iaload, 1) := by decide +kernel
theorem dX9_unfallen_11 : decode cX9_unfallen 11 = .ok (.if_icmp .ge 36, 3) := by decide +kernel
theorem dX9_unfallen_14 : decode cX9_unfallen 14 = .ok (.iload_n 2, 1) := by decide +kernel
theorem dX9_unfallen_15 : decode cX9_unfallen 15 = .ok (.iload_n 1, 1) := by decide +kernel
theorem dX9_unfallen_16 : decode cX9_unfallen 16 = .ok (.iload_n 3, 1) := by decide +kernel
theorem dX9_unfallen_17 : decode cX9_unfallen 17 = .ok (.invokestatic 166, 3) := by decide +kernel
theorem dX9_unfallen_20 : decode cX9_unfallen 20 = .ok (.ifCond .eq 18, 3) := by decide +kernel
theorem dX9_unfallen_23 : decode cX9_unfallen 23 = .ok (.aload_n 0, 1) := by decide +kernel
theorem dX9_unfallen_24 : decode cX9_unfallen 24 = .ok (.getfield 49, 3) := by decide +kernel
theorem dX9_unfallen_27 : decode cX9_unfallen 27 = .ok (.iload_n 3, 1) := by decide +kernel
theorem dX9_unfallen_28 : decode cX9_unfallen 28 = .ok (.iaload, 1) := by decide +kernel
theorem dX9_unfallen_29 : decode cX9_unfallen 29 = .ok (.ifCond .ge 9, 3) := by decide +kernel
theorem dX9_unfallen_32 : decode cX9_unfallen 32 = .ok (.iconst 1, 1) := by decide +kernel
theorem dX9_unfallen_33 : decode cX9_unfallen 33 = .ok (.iload_n 3, 1) := by decide +kernel
theorem dX9_unfallen_34 : decode cX9_unfallen 34 = .ok (.ishl, 1) := by decide +kernel
theorem dX9_unfallen_35 : decode cX9_unfallen 35 = .ok (.goto 4, 3) := by decide +kernel
theorem dX9_unfallen_38 : decode cX9_unfallen 38 = .ok (.iconst 0, 1) := by decide +kernel
theorem dX9_unfallen_39 : decode cX9_unfallen 39 = .ok (.ior, 1) := by decide +kernel
theorem dX9_unfallen_40 : decode cX9_unfallen 40 = .ok (.istore_n 2, 1) := by decide +kernel
theorem dX9_unfallen_41 : decode cX9_unfallen 41 = .ok (.iinc 3 1, 3) := by decide +kernel
theorem dX9_unfallen_44 : decode cX9_unfallen 44 = .ok (.goto (-40), 3) := by decide +kernel
theorem dX9_unfallen_47 : decode cX9_unfallen 47 = .ok (.iload_n 2, 1) := by decide +kernel
theorem dX9_unfallen_48 : decode cX9_unfallen 48 = .ok (.ireturn, 1) := by decide +kernel
theorem dX9_wipe_0 : decode cX9_wipe 0 = .ok (.aload_n 0, 1) := by decide +kernel
theorem dX9_wipe_1 : decode cX9_wipe 1 = .ok (.getfield 95, 3) := by decide +kernel
theorem dX9_wipe_4 : decode cX9_wipe 4 = .ok (.istore_n 1, 1) := by decide +kernel
theorem dX9_wipe_5 : decode cX9_wipe 5 = .ok (.aload_n 0, 1) := by decide +kernel
theorem dX9_wipe_6 : decode cX9_wipe 6 = .ok (.iconst 0, 1) := by decide +kernel
theorem dX9_wipe_7 : decode cX9_wipe 7 = .ok (.putfield 95, 3) := by decide +kernel
theorem dX9_wipe_10 : decode cX9_wipe 10 = .ok (.iload_n 1, 1) := by decide +kernel
theorem dX9_wipe_11 : decode cX9_wipe 11 = .ok (.ireturn, 1) := by decide +kernel
theorem dX9_write_0 : decode cX9_write 0 = .ok (.iload_n 1, 1) := by decide +kernel
theorem dX9_write_1 : decode cX9_write 1 = .ok (.i2l, 1) := by decide +kernel
theorem dX9_write_2 : decode cX9_write 2 = .ok (.ldc2_w 91, 3) := by decide +kernel
theorem dX9_write_5 : decode cX9_write 5 = .ok (.ldc2_w 93, 3) := by decide +kernel
theorem dX9_write_8 : decode cX9_write 8 = .ok (.invokestatic 87, 3) := by decide +kernel
theorem dX9_write_11 : decode cX9_write 11 = .ok (.ifCond .ne 5, 3) := by decide +kernel
theorem dX9_write_14 : decode cX9_write 14 = .ok (.iconst (-1), 1) := by decide +kernel
theorem dX9_write_15 : decode cX9_write 15 = .ok (.ireturn, 1) := by decide +kernel
theorem dX9_write_16 : decode cX9_write 16 = .ok (.aload_n 0, 1) := by decide +kernel
theorem dX9_write_17 : decode cX9_write 17 = .ok (.getfield 95, 3) := by decide +kernel
theorem dX9_write_20 : decode cX9_write 20 = .ok (.sipush 200, 3) := by decide +kernel
theorem dX9_write_23 : decode cX9_write 23 = .ok (.if_icmp .ne 6, 3) := by decide +kernel
theorem dX9_write_26 : decode cX9_write 26 = .ok (.bipush (-3), 2) := by decide +kernel
theorem dX9_write_28 : decode cX9_write 28 = .ok (.ireturn, 1) := by decide +kernel
theorem dX9_write_29 : decode cX9_write 29 = .ok (.aload_n 0, 1) := by decide +kernel
theorem dX9_write_30 : decode cX9_write 30 = .ok (.getfield 28, 3) := by decide +kernel
theorem dX9_write_33 : decode cX9_write 33 = .ok (.aload_n 0, 1) := by decide +kernel
theorem dX9_write_34 : decode cX9_write 34 = .ok (.getfield 95, 3) := by decide +kernel
theorem dX9_write_37 : decode cX9_write 37 = .ok (.iload_n 1, 1) := by decide +kernel
theorem dX9_write_38 : decode cX9_write 38 = .ok (.iastore, 1) := by decide +kernel
theorem dX9_write_39 : decode cX9_write 39 = .ok (.aload_n 0, 1) := by decide +kernel
theorem dX9_write_40 : decode cX9_write 40 = .ok (.dup, 1) := by decide +kernel
theorem dX9_write_41 : decode cX9_write 41 = .ok (.getfield 95, 3) := by decide +kernel
theorem dX9_write_44 : decode cX9_write 44 = .ok (.iconst 1, 1) := by decide +kernel
theorem dX9_write_45 : decode cX9_write 45 = .ok (.iadd, 1) := by decide +kernel
theorem dX9_write_46 : decode cX9_write 46 = .ok (.putfield 95, 3) := by decide +kernel
theorem dX9_write_49 : decode cX9_write 49 = .ok (.aload_n 0, 1) := by decide +kernel
theorem dX9_write_50 : decode cX9_write 50 = .ok (.getfield 95, 3) := by decide +kernel
theorem dX9_write_53 : decode cX9_write 53 = .ok (.ireturn, 1) := by decide +kernel
theorem dX9_yard_0 : decode cX9_yard 0 = .ok (.aload_n 0, 1) := by decide +kernel
theorem dX9_yard_1 : decode cX9_yard 1 = .ok (.iload_n 1, 1) := by decide +kernel
theorem dX9_yard_2 : decode cX9_yard 2 = .ok (.invokevirtual 209, 3) := by decide +kernel
theorem dX9_yard_5 : decode cX9_yard 5 = .ok (.ifCond .eq 15, 3) := by decide +kernel
theorem dX9_yard_8 : decode cX9_yard 8 = .ok (.iload_n 2, 1) := by decide +kernel
theorem dX9_yard_9 : decode cX9_yard 9 = .ok (.i2l, 1) := by decide +kernel
theorem dX9_yard_10 : decode cX9_yard 10 = .ok (.lconst 0, 1) := by decide +kernel
theorem dX9_yard_11 : decode cX9_yard 11 = .ok (.ldc2_w 212, 3) := by decide +kernel
theorem dX9_yard_14 : decode cX9_yard 14 = .ok (.invokestatic 87, 3) := by decide +kernel
theorem dX9_yard_17 : decode cX9_yard 17 = .ok (.ifCond .ne 5, 3) := by decide +kernel
theorem dX9_yard_20 : decode cX9_yard 20 = .ok (.iconst (-1), 1) := by decide +kernel
theorem dX9_yard_21 : decode cX9_yard 21 = .ok (.ireturn, 1) := by decide +kernel
theorem dX9_yard_22 : decode cX9_yard 22 = .ok (.aload_n 0, 1) := by decide +kernel
theorem dX9_yard_23 : decode cX9_yard 23 = .ok (.getfield 7, 3) := by decide +kernel
theorem dX9_yard_26 : decode cX9_yard 26 = .ok (.iload_n 1, 1) := by decide +kernel
theorem dX9_yard_27 : decode cX9_yard 27 = .ok (.invokestatic 188, 3) := by decide +kernel
theorem dX9_yard_30 : decode cX9_yard 30 = .ok (.istore_n 3, 1) := by decide +kernel
theorem dX9_yard_31 : decode cX9_yard 31 = .ok (.aload_n 0, 1) := by decide +kernel
theorem dX9_yard_32 : decode cX9_yard 32 = .ok (.invokevirtual 214, 3) := by decide +kernel
theorem dX9_yard_35 : decode cX9_yard 35 = .ok (.iload_n 2, 1) := by decide +kernel
theorem dX9_yard_36 : decode cX9_yard 36 = .ok (.tableswitch 60 0 3 #[32, 34, 44, 54], 32) := by decide +kernel
theorem dX9_yard_68 : decode cX9_yard 68 = .ok (.iload_n 3, 1) := by decide +kernel
theorem dX9_yard_69 : decode cX9_yard 69 = .ok (.ireturn, 1) := by decide +kernel
theorem dX9_yard_70 : decode cX9_yard 70 = .ok (.aload_n 0, 1) := by decide +kernel
theorem dX9_yard_71 : decode cX9_yard 71 = .ok (.getfield 7, 3) := by decide +kernel
theorem dX9_yard_74 : decode cX9_yard 74 = .ok (.bipush 10, 2) := by decide +kernel
theorem dX9_yard_76 : decode cX9_yard 76 = .ok (.iload_n 3, 1) := by decide +kernel
theorem dX9_yard_77 : decode cX9_yard 77 = .ok (.iadd, 1) := by decide +kernel
theorem dX9_yard_78 : decode cX9_yard 78 = .ok (.iaload, 1) := by decide +kernel
theorem dX9_yard_79 : decode cX9_yard 79 = .ok (.ireturn, 1) := by decide +kernel
theorem dX9_yard_80 : decode cX9_yard 80 = .ok (.aload_n 0, 1) := by decide +kernel
theorem dX9_yard_81 : decode cX9_yard 81 = .ok (.getfield 7, 3) := by decide +kernel
theorem dX9_yard_84 : decode cX9_yard 84 = .ok (.bipush 16, 2) := by decide +kernel
theorem dX9_yard_86 : decode cX9_yard 86 = .ok (.iload_n 3, 1) := by decide +kernel
theorem dX9_yard_87 : decode cX9_yard 87 = .ok (.iadd, 1) := by decide +kernel
theorem dX9_yard_88 : decode cX9_yard 88 = .ok (.iaload, 1) := by decide +kernel
theorem dX9_yard_89 : decode cX9_yard 89 = .ok (.ireturn, 1) := by decide +kernel
theorem dX9_yard_90 : decode cX9_yard 90 = .ok (.aload_n 0, 1) := by decide +kernel
theorem dX9_yard_91 : decode cX9_yard 91 = .ok (.iload_n 1, 1) := by decide +kernel
theorem dX9_yard_92 : decode cX9_yard 92 = .ok (.invokevirtual 195, 3) := by decide +kernel
theorem dX9_yard_95 : decode cX9_yard 95 = .ok (.ireturn, 1) := by decide +kernel
theorem dX9_yard_96 : decode cX9_yard 96 = .ok (.aload_n 0, 1) := by decide +kernel
theorem dX9_yard_97 : decode cX9_yard 97 = .ok (.invokevirtual 217, 3) := by decide +kernel
theorem dX9_yard_100 : decode cX9_yard 100 = .ok (.aload_n 0, 1) := by decide +kernel
theorem dX9_yard_101 : decode cX9_yard 101 = .ok (.getfield 55, 3) := by decide +kernel
theorem dX9_yard_104 : decode cX9_yard 104 = .ok (.iload_n 1, 1) := by decide +kernel
theorem dX9_yard_105 : decode cX9_yard 105 = .ok (.iaload, 1) := by decide +kernel
theorem dX9_yard_106 : decode cX9_yard 106 = .ok (.ireturn, 1) := by decide +kernel
theorem dX9_yardsOf_0 : decode cX9_yardsOf 0 = .ok (.iconst 0, 1) := by decide +kernel
theorem dX9_yardsOf_1 : decode cX9_yardsOf 1 = .ok (.istore_n 1, 1) := by decide +kernel
theorem dX9_yardsOf_2 : decode cX9_yardsOf 2 = .ok (.iconst 0, 1) := by decide +kernel
theorem dX9_yardsOf_3 : decode cX9_yardsOf 3 = .ok (.istore_n 2, 1) := by decide +kernel
theorem dX9_yardsOf_4 : decode cX9_yardsOf 4 = .ok (.iload_n 2, 1) := by decide +kernel
theorem dX9_yardsOf_5 : decode cX9_yardsOf 5 = .ok (.aload_n 0, 1) := by decide +kernel
theorem dX9_yardsOf_6 : decode cX9_yardsOf 6 = .ok (.iconst 0, 1) := by decide +kernel
theorem dX9_yardsOf_7 : decode cX9_yardsOf 7 = .ok (.iaload, 1) := by decide +kernel
theorem dX9_yardsOf_8 : decode cX9_yardsOf 8 = .ok (.if_icmp .ge 17, 3) := by decide +kernel
theorem dX9_yardsOf_11 : decode cX9_yardsOf 11 = .ok (.iload_n 1, 1) := by decide +kernel
theorem dX9_yardsOf_12 : decode cX9_yardsOf 12 = .ok (.aload_n 0, 1) := by decide +kernel
theorem dX9_yardsOf_13 : decode cX9_yardsOf 13 = .ok (.iconst 4, 1) := by decide +kernel
theorem dX9_yardsOf_14 : decode cX9_yardsOf 14 = .ok (.iload_n 2, 1) := by decide +kernel
theorem dX9_yardsOf_15 : decode cX9_yardsOf 15 = .ok (.iadd, 1) := by decide +kernel
theorem dX9_yardsOf_16 : decode cX9_yardsOf 16 = .ok (.iaload, 1) := by decide +kernel
theorem dX9_yardsOf_17 : decode cX9_yardsOf 17 = .ok (.iadd, 1) := by decide +kernel
theorem dX9_yardsOf_18 : decode cX9_yardsOf 18 = .ok (.istore_n 1, 1) := by decide +kernel
theorem dX9_yardsOf_19 : decode cX9_yardsOf 19 = .ok (.iinc 2 1, 3) := by decide +kernel
theorem dX9_yardsOf_22 : decode cX9_yardsOf 22 = .ok (.goto (-18), 3) := by decide +kernel
theorem dX9_yardsOf_25 : decode cX9_yardsOf 25 = .ok (.iload_n 1, 1) := by decide +kernel
theorem dX9_yardsOf_26 : decode cX9_yardsOf 26 = .ok (.ireturn, 1) := by decide +kernel
end
