section
-- ===== PART A: goes FIRST, ahead of the names: the tables' words, and 'selects' of the private methods out of them =====
/-- a private method of a class that the tables say can be made, by its rows of tables_1 -/
def lw_okq (q : MethodName × Nat) : Prop := (q.1.cls ≠ "java/lang/invoke/MethodHandle" ∧ q.1.cls ≠ "java/lang/invoke/VarHandle") ∧ Cond.instantiable q.1.cls q.2 ∈ tables_1 ∧ Cond.privateMethod q.1 ∈ tables_1 ∧ Cond.instanceMethod q.1 ∈ tables_1
theorem lw_p0 : lw_okq (⟨"SeenADayLate$Moor", "layOutSteps", "(I)V"⟩, 9) := ⟨⟨by decide +kernel, by decide +kernel⟩, List.mem_of_getElem? (i := 32) (by decide +kernel), List.mem_of_getElem? (i := 47) (by decide +kernel), List.mem_of_getElem? (i := 48) (by decide +kernel)⟩
theorem lw_p1 : lw_okq (⟨"SeenADayLate$Moor", "neighbour", "(II)I"⟩, 9) := ⟨⟨by decide +kernel, by decide +kernel⟩, List.mem_of_getElem? (i := 32) (by decide +kernel), List.mem_of_getElem? (i := 55) (by decide +kernel), List.mem_of_getElem? (i := 56) (by decide +kernel)⟩
theorem lw_p2 : lw_okq (⟨"SeenADayLate", "refuse", "(I)I"⟩, 10) := ⟨⟨by decide +kernel, by decide +kernel⟩, List.mem_of_getElem? (i := 24) (by decide +kernel), List.mem_of_getElem? (i := 249) (by decide +kernel), List.mem_of_getElem? (i := 250) (by decide +kernel)⟩
theorem lw_p3 : lw_okq (⟨"SeenADayLate$Letters", "goesOn", "(I)Z"⟩, 7) := ⟨⟨by decide +kernel, by decide +kernel⟩, List.mem_of_getElem? (i := 135) (by decide +kernel), List.mem_of_getElem? (i := 266) (by decide +kernel), List.mem_of_getElem? (i := 267) (by decide +kernel)⟩
theorem lw_p4 : lw_okq (⟨"SeenADayLate$Letters", "opens", "(I)Z"⟩, 7) := ⟨⟨by decide +kernel, by decide +kernel⟩, List.mem_of_getElem? (i := 135) (by decide +kernel), List.mem_of_getElem? (i := 270) (by decide +kernel), List.mem_of_getElem? (i := 271) (by decide +kernel)⟩
theorem lw_p5 : lw_okq (⟨"SeenADayLate$Letters", "goesOnInRows", "(I)Z"⟩, 7) := ⟨⟨by decide +kernel, by decide +kernel⟩, List.mem_of_getElem? (i := 135) (by decide +kernel), List.mem_of_getElem? (i := 274) (by decide +kernel), List.mem_of_getElem? (i := 275) (by decide +kernel)⟩
theorem lw_p6 : lw_okq (⟨"SeenADayLate$Letters", "closes", "(I)Z"⟩, 7) := ⟨⟨by decide +kernel, by decide +kernel⟩, List.mem_of_getElem? (i := 135) (by decide +kernel), List.mem_of_getElem? (i := 278) (by decide +kernel), List.mem_of_getElem? (i := 279) (by decide +kernel)⟩
theorem lw_p7 : lw_okq (⟨"SeenADayLate$Letters", "isDigitThen", "(II)Z"⟩, 7) := ⟨⟨by decide +kernel, by decide +kernel⟩, List.mem_of_getElem? (i := 135) (by decide +kernel), List.mem_of_getElem? (i := 282) (by decide +kernel), List.mem_of_getElem? (i := 283) (by decide +kernel)⟩
theorem lw_p8 : lw_okq (⟨"SeenADayLate$Letters", "goesOnInPlan", "(I)Z"⟩, 7) := ⟨⟨by decide +kernel, by decide +kernel⟩, List.mem_of_getElem? (i := 135) (by decide +kernel), List.mem_of_getElem? (i := 289) (by decide +kernel), List.mem_of_getElem? (i := 290) (by decide +kernel)⟩
theorem lw_p9 : lw_okq (⟨"SeenADayLate$Letters", "tellMoor", "(LSeenADayLate$World;II)V"⟩, 7) := ⟨⟨by decide +kernel, by decide +kernel⟩, List.mem_of_getElem? (i := 135) (by decide +kernel), List.mem_of_getElem? (i := 390) (by decide +kernel), List.mem_of_getElem? (i := 391) (by decide +kernel)⟩
theorem lw_p10 : lw_okq (⟨"SeenADayLate$Letters", "signAt", "(I)I"⟩, 7) := ⟨⟨by decide +kernel, by decide +kernel⟩, List.mem_of_getElem? (i := 135) (by decide +kernel), List.mem_of_getElem? (i := 394) (by decide +kernel), List.mem_of_getElem? (i := 395) (by decide +kernel)⟩
theorem lw_p11 : lw_okq (⟨"SeenADayLate$Letters", "tellPerson", "(LSeenADayLate$World;II)Z"⟩, 7) := ⟨⟨by decide +kernel, by decide +kernel⟩, List.mem_of_getElem? (i := 135) (by decide +kernel), List.mem_of_getElem? (i := 404) (by decide +kernel), List.mem_of_getElem? (i := 405) (by decide +kernel)⟩
theorem lw_p12 : lw_okq (⟨"SeenADayLate$Letters", "digitAt", "(I)I"⟩, 7) := ⟨⟨by decide +kernel, by decide +kernel⟩, List.mem_of_getElem? (i := 135) (by decide +kernel), List.mem_of_getElem? (i := 408) (by decide +kernel), List.mem_of_getElem? (i := 409) (by decide +kernel)⟩
theorem lw_p13 : lw_okq (⟨"SeenADayLate$Letters", "tellDelay", "(LSeenADayLate$World;I)Z"⟩, 7) := ⟨⟨by decide +kernel, by decide +kernel⟩, List.mem_of_getElem? (i := 135) (by decide +kernel), List.mem_of_getElem? (i := 485) (by decide +kernel), List.mem_of_getElem? (i := 486) (by decide +kernel)⟩
theorem lw_p14 : lw_okq (⟨"SeenADayLate", "notHere", "(I)I"⟩, 10) := ⟨⟨by decide +kernel, by decide +kernel⟩, List.mem_of_getElem? (i := 24) (by decide +kernel), List.mem_of_getElem? (i := 494) (by decide +kernel), List.mem_of_getElem? (i := 495) (by decide +kernel)⟩
theorem lw_p15 : lw_okq (⟨"SeenADayLate$World", "allStep", "(I)V"⟩, 6) := ⟨⟨by decide +kernel, by decide +kernel⟩, List.mem_of_getElem? (i := 94) (by decide +kernel), List.mem_of_getElem? (i := 624) (by decide +kernel), List.mem_of_getElem? (i := 625) (by decide +kernel)⟩
def lw_privs_1 : List (MethodName × Nat) := [(⟨"SeenADayLate$Moor", "layOutSteps", "(I)V"⟩, 9), (⟨"SeenADayLate$Moor", "neighbour", "(II)I"⟩, 9), (⟨"SeenADayLate", "refuse", "(I)I"⟩, 10), (⟨"SeenADayLate$Letters", "goesOn", "(I)Z"⟩, 7), (⟨"SeenADayLate$Letters", "opens", "(I)Z"⟩, 7), (⟨"SeenADayLate$Letters", "goesOnInRows", "(I)Z"⟩, 7), (⟨"SeenADayLate$Letters", "closes", "(I)Z"⟩, 7), (⟨"SeenADayLate$Letters", "isDigitThen", "(II)Z"⟩, 7), (⟨"SeenADayLate$Letters", "goesOnInPlan", "(I)Z"⟩, 7), (⟨"SeenADayLate$Letters", "tellMoor", "(LSeenADayLate$World;II)V"⟩, 7), (⟨"SeenADayLate$Letters", "signAt", "(I)I"⟩, 7), (⟨"SeenADayLate$Letters", "tellPerson", "(LSeenADayLate$World;II)Z"⟩, 7), (⟨"SeenADayLate$Letters", "digitAt", "(I)I"⟩, 7), (⟨"SeenADayLate$Letters", "tellDelay", "(LSeenADayLate$World;I)Z"⟩, 7), (⟨"SeenADayLate", "notHere", "(I)I"⟩, 10), (⟨"SeenADayLate$World", "allStep", "(I)V"⟩, 6)]
theorem lw_r1 : ∀ q ∈ lw_privs_1, lw_okq q := List.forall_mem_cons.mpr ⟨lw_p0, List.forall_mem_cons.mpr ⟨lw_p1, List.forall_mem_cons.mpr ⟨lw_p2, List.forall_mem_cons.mpr ⟨lw_p3, List.forall_mem_cons.mpr ⟨lw_p4, List.forall_mem_cons.mpr ⟨lw_p5, List.forall_mem_cons.mpr ⟨lw_p6, List.forall_mem_cons.mpr ⟨lw_p7, List.forall_mem_cons.mpr ⟨lw_p8, List.forall_mem_cons.mpr ⟨lw_p9, List.forall_mem_cons.mpr ⟨lw_p10, List.forall_mem_cons.mpr ⟨lw_p11, List.forall_mem_cons.mpr ⟨lw_p12, List.forall_mem_cons.mpr ⟨lw_p13, List.forall_mem_cons.mpr ⟨lw_p14, List.forall_mem_cons.mpr ⟨lw_p15, fun _ h => absurd h List.not_mem_nil⟩⟩⟩⟩⟩⟩⟩⟩⟩⟩⟩⟩⟩⟩⟩⟩
theorem lw_p16 : lw_okq (⟨"SeenADayLate", "notTwo", "(II)I"⟩, 10) := ⟨⟨by decide +kernel, by decide +kernel⟩, List.mem_of_getElem? (i := 24) (by decide +kernel), List.mem_of_getElem? (i := 638) (by decide +kernel), List.mem_of_getElem? (i := 639) (by decide +kernel)⟩
theorem lw_p17 : lw_okq (⟨"SeenADayLate", "notFree", "(I)I"⟩, 10) := ⟨⟨by decide +kernel, by decide +kernel⟩, List.mem_of_getElem? (i := 24) (by decide +kernel), List.mem_of_getElem? (i := 688) (by decide +kernel), List.mem_of_getElem? (i := 689) (by decide +kernel)⟩
theorem lw_p18 : lw_okq (⟨"SeenADayLate$Sights", "startFrom", "(LSeenADayLate$Moor;I)V"⟩, 6) := ⟨⟨by decide +kernel, by decide +kernel⟩, List.mem_of_getElem? (i := 168) (by decide +kernel), List.mem_of_getElem? (i := 709) (by decide +kernel), List.mem_of_getElem? (i := 710) (by decide +kernel)⟩
theorem lw_p19 : lw_okq (⟨"SeenADayLate$Sights", "addStep", "(LSeenADayLate$Moor;[I)V"⟩, 6) := ⟨⟨by decide +kernel, by decide +kernel⟩, List.mem_of_getElem? (i := 168) (by decide +kernel), List.mem_of_getElem? (i := 715) (by decide +kernel), List.mem_of_getElem? (i := 716) (by decide +kernel)⟩
theorem lw_p20 : lw_okq (⟨"SeenADayLate$Sights", "countUpTo", "(LSeenADayLate$Moor;II)V"⟩, 6) := ⟨⟨by decide +kernel, by decide +kernel⟩, List.mem_of_getElem? (i := 168) (by decide +kernel), List.mem_of_getElem? (i := 748) (by decide +kernel), List.mem_of_getElem? (i := 749) (by decide +kernel)⟩
theorem lw_p21 : lw_okq (⟨"SeenADayLate$Sights", "strikeOut", "([II)V"⟩, 6) := ⟨⟨by decide +kernel, by decide +kernel⟩, List.mem_of_getElem? (i := 168) (by decide +kernel), List.mem_of_getElem? (i := 752) (by decide +kernel), List.mem_of_getElem? (i := 753) (by decide +kernel)⟩
theorem lw_p22 : lw_okq (⟨"SeenADayLate$Sights", "countBackTo", "(LSeenADayLate$Moor;I)V"⟩, 6) := ⟨⟨by decide +kernel, by decide +kernel⟩, List.mem_of_getElem? (i := 168) (by decide +kernel), List.mem_of_getElem? (i := 765) (by decide +kernel), List.mem_of_getElem? (i := 766) (by decide +kernel)⟩
theorem lw_p23 : lw_okq (⟨"SeenADayLate$Chase", "letHareStep", "(LSeenADayLate$Moor;)V"⟩, 2) := ⟨⟨by decide +kernel, by decide +kernel⟩, List.mem_of_getElem? (i := 194) (by decide +kernel), List.mem_of_getElem? (i := 786) (by decide +kernel), List.mem_of_getElem? (i := 787) (by decide +kernel)⟩
theorem lw_p24 : lw_okq (⟨"SeenADayLate$Chase", "letHunterStep", "(LSeenADayLate$Moor;)Z"⟩, 2) := ⟨⟨by decide +kernel, by decide +kernel⟩, List.mem_of_getElem? (i := 194) (by decide +kernel), List.mem_of_getElem? (i := 794) (by decide +kernel), List.mem_of_getElem? (i := 795) (by decide +kernel)⟩
theorem lw_p25 : lw_okq (⟨"SeenADayLate$Moor", "lookedAt", "(II)I"⟩, 9) := ⟨⟨by decide +kernel, by decide +kernel⟩, List.mem_of_getElem? (i := 32) (by decide +kernel), List.mem_of_getElem? (i := 812) (by decide +kernel), List.mem_of_getElem? (i := 813) (by decide +kernel)⟩
theorem lw_p26 : lw_okq (⟨"SeenADayLate$Moor", "lastWatcher", "(II)I"⟩, 9) := ⟨⟨by decide +kernel, by decide +kernel⟩, List.mem_of_getElem? (i := 32) (by decide +kernel), List.mem_of_getElem? (i := 820) (by decide +kernel), List.mem_of_getElem? (i := 821) (by decide +kernel)⟩
theorem lw_p27 : lw_okq (⟨"SeenADayLate", "refusalsOf", "(I)I"⟩, 10) := ⟨⟨by decide +kernel, by decide +kernel⟩, List.mem_of_getElem? (i := 24) (by decide +kernel), List.mem_of_getElem? (i := 866) (by decide +kernel), List.mem_of_getElem? (i := 867) (by decide +kernel)⟩
theorem lw_p28 : lw_okq (⟨"SeenADayLateModel", "carryAll", "([IZ)V"⟩, 43) := ⟨⟨by decide +kernel, by decide +kernel⟩, List.mem_of_getElem? (i := 870) (by decide +kernel), List.mem_of_getElem? (i := 1010) (by decide +kernel), List.mem_of_getElem? (i := 1011) (by decide +kernel)⟩
theorem lw_p29 : lw_okq (⟨"SeenADayLateModel", "carry", "(I)I"⟩, 43) := ⟨⟨by decide +kernel, by decide +kernel⟩, List.mem_of_getElem? (i := 870) (by decide +kernel), List.mem_of_getElem? (i := 1014) (by decide +kernel), List.mem_of_getElem? (i := 1015) (by decide +kernel)⟩
theorem lw_p30 : lw_okq (⟨"SeenADayLateModel", "refuse", "(I)I"⟩, 43) := ⟨⟨by decide +kernel, by decide +kernel⟩, List.mem_of_getElem? (i := 870) (by decide +kernel), List.mem_of_getElem? (i := 1022) (by decide +kernel), List.mem_of_getElem? (i := 1023) (by decide +kernel)⟩
theorem lw_p31 : lw_okq (⟨"SeenADayLateModel", "readStatement", "()V"⟩, 43) := ⟨⟨by decide +kernel, by decide +kernel⟩, List.mem_of_getElem? (i := 870) (by decide +kernel), List.mem_of_getElem? (i := 1034) (by decide +kernel), List.mem_of_getElem? (i := 1035) (by decide +kernel)⟩
def lw_privs_2 : List (MethodName × Nat) := [(⟨"SeenADayLate", "notTwo", "(II)I"⟩, 10), (⟨"SeenADayLate", "notFree", "(I)I"⟩, 10), (⟨"SeenADayLate$Sights", "startFrom", "(LSeenADayLate$Moor;I)V"⟩, 6), (⟨"SeenADayLate$Sights", "addStep", "(LSeenADayLate$Moor;[I)V"⟩, 6), (⟨"SeenADayLate$Sights", "countUpTo", "(LSeenADayLate$Moor;II)V"⟩, 6), (⟨"SeenADayLate$Sights", "strikeOut", "([II)V"⟩, 6), (⟨"SeenADayLate$Sights", "countBackTo", "(LSeenADayLate$Moor;I)V"⟩, 6), (⟨"SeenADayLate$Chase", "letHareStep", "(LSeenADayLate$Moor;)V"⟩, 2), (⟨"SeenADayLate$Chase", "letHunterStep", "(LSeenADayLate$Moor;)Z"⟩, 2), (⟨"SeenADayLate$Moor", "lookedAt", "(II)I"⟩, 9), (⟨"SeenADayLate$Moor", "lastWatcher", "(II)I"⟩, 9), (⟨"SeenADayLate", "refusalsOf", "(I)I"⟩, 10), (⟨"SeenADayLateModel", "carryAll", "([IZ)V"⟩, 43), (⟨"SeenADayLateModel", "carry", "(I)I"⟩, 43), (⟨"SeenADayLateModel", "refuse", "(I)I"⟩, 43), (⟨"SeenADayLateModel", "readStatement", "()V"⟩, 43)]
theorem lw_r2 : ∀ q ∈ lw_privs_2, lw_okq q := List.forall_mem_cons.mpr ⟨lw_p16, List.forall_mem_cons.mpr ⟨lw_p17, List.forall_mem_cons.mpr ⟨lw_p18, List.forall_mem_cons.mpr ⟨lw_p19, List.forall_mem_cons.mpr ⟨lw_p20, List.forall_mem_cons.mpr ⟨lw_p21, List.forall_mem_cons.mpr ⟨lw_p22, List.forall_mem_cons.mpr ⟨lw_p23, List.forall_mem_cons.mpr ⟨lw_p24, List.forall_mem_cons.mpr ⟨lw_p25, List.forall_mem_cons.mpr ⟨lw_p26, List.forall_mem_cons.mpr ⟨lw_p27, List.forall_mem_cons.mpr ⟨lw_p28, List.forall_mem_cons.mpr ⟨lw_p29, List.forall_mem_cons.mpr ⟨lw_p30, List.forall_mem_cons.mpr ⟨lw_p31, fun _ h => absurd h List.not_mem_nil⟩⟩⟩⟩⟩⟩⟩⟩⟩⟩⟩⟩⟩⟩⟩⟩
theorem lw_p32 : lw_okq (⟨"SeenADayLateModel", "here", "()I"⟩, 43) := ⟨⟨by decide +kernel, by decide +kernel⟩, List.mem_of_getElem? (i := 870) (by decide +kernel), List.mem_of_getElem? (i := 1038) (by decide +kernel), List.mem_of_getElem? (i := 1039) (by decide +kernel)⟩
theorem lw_p33 : lw_okq (⟨"SeenADayLateModel", "readMoor", "(I)V"⟩, 43) := ⟨⟨by decide +kernel, by decide +kernel⟩, List.mem_of_getElem? (i := 870) (by decide +kernel), List.mem_of_getElem? (i := 1042) (by decide +kernel), List.mem_of_getElem? (i := 1043) (by decide +kernel)⟩
theorem lw_p34 : lw_okq (⟨"SeenADayLateModel", "isGround", "()Z"⟩, 43) := ⟨⟨by decide +kernel, by decide +kernel⟩, List.mem_of_getElem? (i := 870) (by decide +kernel), List.mem_of_getElem? (i := 1046) (by decide +kernel), List.mem_of_getElem? (i := 1047) (by decide +kernel)⟩
theorem lw_p35 : lw_okq (⟨"SeenADayLateModel", "readPerson", "(I)V"⟩, 43) := ⟨⟨by decide +kernel, by decide +kernel⟩, List.mem_of_getElem? (i := 870) (by decide +kernel), List.mem_of_getElem? (i := 1050) (by decide +kernel), List.mem_of_getElem? (i := 1051) (by decide +kernel)⟩
theorem lw_p36 : lw_okq (⟨"SeenADayLateModel", "readDigit", "()I"⟩, 43) := ⟨⟨by decide +kernel, by decide +kernel⟩, List.mem_of_getElem? (i := 870) (by decide +kernel), List.mem_of_getElem? (i := 1054) (by decide +kernel), List.mem_of_getElem? (i := 1055) (by decide +kernel)⟩
theorem lw_p37 : lw_okq (⟨"SeenADayLateModel", "comes", "(I)Z"⟩, 43) := ⟨⟨by decide +kernel, by decide +kernel⟩, List.mem_of_getElem? (i := 870) (by decide +kernel), List.mem_of_getElem? (i := 1066) (by decide +kernel), List.mem_of_getElem? (i := 1067) (by decide +kernel)⟩
theorem lw_p38 : lw_okq (⟨"SeenADayLateModel", "moorComes", "(I)Z"⟩, 43) := ⟨⟨by decide +kernel, by decide +kernel⟩, List.mem_of_getElem? (i := 870) (by decide +kernel), List.mem_of_getElem? (i := 1070) (by decide +kernel), List.mem_of_getElem? (i := 1071) (by decide +kernel)⟩
theorem lw_p39 : lw_okq (⟨"SeenADayLateModel", "isFree", "(I)Z"⟩, 43) := ⟨⟨by decide +kernel, by decide +kernel⟩, List.mem_of_getElem? (i := 870) (by decide +kernel), List.mem_of_getElem? (i := 1074) (by decide +kernel), List.mem_of_getElem? (i := 1075) (by decide +kernel)⟩
theorem lw_p40 : lw_okq (⟨"SeenADayLateModel", "isPerson", "(I)Z"⟩, 43) := ⟨⟨by decide +kernel, by decide +kernel⟩, List.mem_of_getElem? (i := 870) (by decide +kernel), List.mem_of_getElem? (i := 1082) (by decide +kernel), List.mem_of_getElem? (i := 1083) (by decide +kernel)⟩
theorem lw_p41 : lw_okq (⟨"SeenADayLateModel", "cellOf", "(I)I"⟩, 43) := ⟨⟨by decide +kernel, by decide +kernel⟩, List.mem_of_getElem? (i := 870) (by decide +kernel), List.mem_of_getElem? (i := 1087) (by decide +kernel), List.mem_of_getElem? (i := 1088) (by decide +kernel)⟩
theorem lw_p42 : lw_okq (⟨"SeenADayLateModel", "stepOf", "(I)I"⟩, 43) := ⟨⟨by decide +kernel, by decide +kernel⟩, List.mem_of_getElem? (i := 870) (by decide +kernel), List.mem_of_getElem? (i := 1091) (by decide +kernel), List.mem_of_getElem? (i := 1092) (by decide +kernel)⟩
theorem lw_p43 : lw_okq (⟨"SeenADayLateModel", "walks", "(I)I"⟩, 43) := ⟨⟨by decide +kernel, by decide +kernel⟩, List.mem_of_getElem? (i := 870) (by decide +kernel), List.mem_of_getElem? (i := 1095) (by decide +kernel), List.mem_of_getElem? (i := 1096) (by decide +kernel)⟩
theorem lw_p44 : lw_okq (⟨"SeenADayLateModel", "stepFrom", "(II)I"⟩, 43) := ⟨⟨by decide +kernel, by decide +kernel⟩, List.mem_of_getElem? (i := 870) (by decide +kernel), List.mem_of_getElem? (i := 1099) (by decide +kernel), List.mem_of_getElem? (i := 1100) (by decide +kernel)⟩
theorem lw_p45 : lw_okq (⟨"SeenADayLateModel", "flees", "(I)I"⟩, 43) := ⟨⟨by decide +kernel, by decide +kernel⟩, List.mem_of_getElem? (i := 870) (by decide +kernel), List.mem_of_getElem? (i := 1103) (by decide +kernel), List.mem_of_getElem? (i := 1104) (by decide +kernel)⟩
theorem lw_p46 : lw_okq (⟨"SeenADayLateModel", "wasOn", "(II)I"⟩, 43) := ⟨⟨by decide +kernel, by decide +kernel⟩, List.mem_of_getElem? (i := 870) (by decide +kernel), List.mem_of_getElem? (i := 1107) (by decide +kernel), List.mem_of_getElem? (i := 1108) (by decide +kernel)⟩
theorem lw_p47 : lw_okq (⟨"SeenADayLateModel", "wayBetween", "(II)I"⟩, 43) := ⟨⟨by decide +kernel, by decide +kernel⟩, List.mem_of_getElem? (i := 870) (by decide +kernel), List.mem_of_getElem? (i := 1111) (by decide +kernel), List.mem_of_getElem? (i := 1112) (by decide +kernel)⟩
def lw_privs_3 : List (MethodName × Nat) := [(⟨"SeenADayLateModel", "here", "()I"⟩, 43), (⟨"SeenADayLateModel", "readMoor", "(I)V"⟩, 43), (⟨"SeenADayLateModel", "isGround", "()Z"⟩, 43), (⟨"SeenADayLateModel", "readPerson", "(I)V"⟩, 43), (⟨"SeenADayLateModel", "readDigit", "()I"⟩, 43), (⟨"SeenADayLateModel", "comes", "(I)Z"⟩, 43), (⟨"SeenADayLateModel", "moorComes", "(I)Z"⟩, 43), (⟨"SeenADayLateModel", "isFree", "(I)Z"⟩, 43), (⟨"SeenADayLateModel", "isPerson", "(I)Z"⟩, 43), (⟨"SeenADayLateModel", "cellOf", "(I)I"⟩, 43), (⟨"SeenADayLateModel", "stepOf", "(I)I"⟩, 43), (⟨"SeenADayLateModel", "walks", "(I)I"⟩, 43), (⟨"SeenADayLateModel", "stepFrom", "(II)I"⟩, 43), (⟨"SeenADayLateModel", "flees", "(I)I"⟩, 43), (⟨"SeenADayLateModel", "wasOn", "(II)I"⟩, 43), (⟨"SeenADayLateModel", "wayBetween", "(II)I"⟩, 43)]
theorem lw_r3 : ∀ q ∈ lw_privs_3, lw_okq q := List.forall_mem_cons.mpr ⟨lw_p32, List.forall_mem_cons.mpr ⟨lw_p33, List.forall_mem_cons.mpr ⟨lw_p34, List.forall_mem_cons.mpr ⟨lw_p35, List.forall_mem_cons.mpr ⟨lw_p36, List.forall_mem_cons.mpr ⟨lw_p37, List.forall_mem_cons.mpr ⟨lw_p38, List.forall_mem_cons.mpr ⟨lw_p39, List.forall_mem_cons.mpr ⟨lw_p40, List.forall_mem_cons.mpr ⟨lw_p41, List.forall_mem_cons.mpr ⟨lw_p42, List.forall_mem_cons.mpr ⟨lw_p43, List.forall_mem_cons.mpr ⟨lw_p44, List.forall_mem_cons.mpr ⟨lw_p45, List.forall_mem_cons.mpr ⟨lw_p46, List.forall_mem_cons.mpr ⟨lw_p47, fun _ h => absurd h List.not_mem_nil⟩⟩⟩⟩⟩⟩⟩⟩⟩⟩⟩⟩⟩⟩⟩⟩
theorem lw_p48 : lw_okq (⟨"SeenADayLateModel", "reckoned", "(I)I"⟩, 43) := ⟨⟨by decide +kernel, by decide +kernel⟩, List.mem_of_getElem? (i := 870) (by decide +kernel), List.mem_of_getElem? (i := 1118) (by decide +kernel), List.mem_of_getElem? (i := 1119) (by decide +kernel)⟩
theorem lw_p49 : lw_okq (⟨"SeenADayLateModel", "hunts", "(II)I"⟩, 43) := ⟨⟨by decide +kernel, by decide +kernel⟩, List.mem_of_getElem? (i := 870) (by decide +kernel), List.mem_of_getElem? (i := 1125) (by decide +kernel), List.mem_of_getElem? (i := 1126) (by decide +kernel)⟩
theorem lw_p50 : lw_okq (⟨"SeenADayLateModel", "dayOn", "()I"⟩, 43) := ⟨⟨by decide +kernel, by decide +kernel⟩, List.mem_of_getElem? (i := 870) (by decide +kernel), List.mem_of_getElem? (i := 1137) (by decide +kernel), List.mem_of_getElem? (i := 1138) (by decide +kernel)⟩
theorem lw_p51 : lw_okq (⟨"SeenADayLateModel", "areTwo", "(II)Z"⟩, 43) := ⟨⟨by decide +kernel, by decide +kernel⟩, List.mem_of_getElem? (i := 870) (by decide +kernel), List.mem_of_getElem? (i := 1149) (by decide +kernel), List.mem_of_getElem? (i := 1150) (by decide +kernel)⟩
theorem lw_p52 : lw_okq (⟨"SeenADayLateModel", "daysOn", "(I)V"⟩, 43) := ⟨⟨by decide +kernel, by decide +kernel⟩, List.mem_of_getElem? (i := 870) (by decide +kernel), List.mem_of_getElem? (i := 1160) (by decide +kernel), List.mem_of_getElem? (i := 1161) (by decide +kernel)⟩
theorem lw_p53 : lw_okq (⟨"SeenADayLateModel", "freeBits", "()I"⟩, 43) := ⟨⟨by decide +kernel, by decide +kernel⟩, List.mem_of_getElem? (i := 870) (by decide +kernel), List.mem_of_getElem? (i := 1172) (by decide +kernel), List.mem_of_getElem? (i := 1173) (by decide +kernel)⟩
theorem lw_p54 : lw_okq (⟨"SeenADayLateModel", "reachIn", "(II)I"⟩, 43) := ⟨⟨by decide +kernel, by decide +kernel⟩, List.mem_of_getElem? (i := 870) (by decide +kernel), List.mem_of_getElem? (i := 1184) (by decide +kernel), List.mem_of_getElem? (i := 1185) (by decide +kernel)⟩
theorem lw_p55 : lw_okq (⟨"SeenADayLateModel", "countWays", "(IIZ)V"⟩, 43) := ⟨⟨by decide +kernel, by decide +kernel⟩, List.mem_of_getElem? (i := 870) (by decide +kernel), List.mem_of_getElem? (i := 1196) (by decide +kernel), List.mem_of_getElem? (i := 1197) (by decide +kernel)⟩
theorem lw_p56 : lw_okq (⟨"SeenADayLateModel", "isSeen", "(IIZ)Z"⟩, 43) := ⟨⟨by decide +kernel, by decide +kernel⟩, List.mem_of_getElem? (i := 870) (by decide +kernel), List.mem_of_getElem? (i := 1200) (by decide +kernel), List.mem_of_getElem? (i := 1201) (by decide +kernel)⟩
theorem lw_p57 : lw_okq (⟨"SeenADayLateModel", "latest", "()I"⟩, 43) := ⟨⟨by decide +kernel, by decide +kernel⟩, List.mem_of_getElem? (i := 870) (by decide +kernel), List.mem_of_getElem? (i := 1212) (by decide +kernel), List.mem_of_getElem? (i := 1213) (by decide +kernel)⟩
theorem lw_p58 : lw_okq (⟨"SeenADayLateModel", "countBack", "(I)V"⟩, 43) := ⟨⟨by decide +kernel, by decide +kernel⟩, List.mem_of_getElem? (i := 870) (by decide +kernel), List.mem_of_getElem? (i := 1220) (by decide +kernel), List.mem_of_getElem? (i := 1221) (by decide +kernel)⟩
theorem lw_p59 : lw_okq (⟨"SeenADayLateModel", "solve", "()V"⟩, 43) := ⟨⟨by decide +kernel, by decide +kernel⟩, List.mem_of_getElem? (i := 870) (by decide +kernel), List.mem_of_getElem? (i := 1232) (by decide +kernel), List.mem_of_getElem? (i := 1233) (by decide +kernel)⟩
theorem lw_p60 : lw_okq (⟨"SeenADayLateModel", "worst", "(II)I"⟩, 43) := ⟨⟨by decide +kernel, by decide +kernel⟩, List.mem_of_getElem? (i := 870) (by decide +kernel), List.mem_of_getElem? (i := 1236) (by decide +kernel), List.mem_of_getElem? (i := 1237) (by decide +kernel)⟩
theorem lw_p61 : lw_okq (⟨"SeenADayLateModel", "lookAll", "(I)V"⟩, 43) := ⟨⟨by decide +kernel, by decide +kernel⟩, List.mem_of_getElem? (i := 870) (by decide +kernel), List.mem_of_getElem? (i := 1244) (by decide +kernel), List.mem_of_getElem? (i := 1245) (by decide +kernel)⟩
theorem lw_p62 : lw_okq (⟨"SeenADayLateModel", "findSet", "(I)Z"⟩, 43) := ⟨⟨by decide +kernel, by decide +kernel⟩, List.mem_of_getElem? (i := 870) (by decide +kernel), List.mem_of_getElem? (i := 1248) (by decide +kernel), List.mem_of_getElem? (i := 1249) (by decide +kernel)⟩
def lw_privs_4 : List (MethodName × Nat) := [(⟨"SeenADayLateModel", "reckoned", "(I)I"⟩, 43), (⟨"SeenADayLateModel", "hunts", "(II)I"⟩, 43), (⟨"SeenADayLateModel", "dayOn", "()I"⟩, 43), (⟨"SeenADayLateModel", "areTwo", "(II)Z"⟩, 43), (⟨"SeenADayLateModel", "daysOn", "(I)V"⟩, 43), (⟨"SeenADayLateModel", "freeBits", "()I"⟩, 43), (⟨"SeenADayLateModel", "reachIn", "(II)I"⟩, 43), (⟨"SeenADayLateModel", "countWays", "(IIZ)V"⟩, 43), (⟨"SeenADayLateModel", "isSeen", "(IIZ)Z"⟩, 43), (⟨"SeenADayLateModel", "latest", "()I"⟩, 43), (⟨"SeenADayLateModel", "countBack", "(I)V"⟩, 43), (⟨"SeenADayLateModel", "solve", "()V"⟩, 43), (⟨"SeenADayLateModel", "worst", "(II)I"⟩, 43), (⟨"SeenADayLateModel", "lookAll", "(I)V"⟩, 43), (⟨"SeenADayLateModel", "findSet", "(I)Z"⟩, 43)]
theorem lw_r4 : ∀ q ∈ lw_privs_4, lw_okq q := List.forall_mem_cons.mpr ⟨lw_p48, List.forall_mem_cons.mpr ⟨lw_p49, List.forall_mem_cons.mpr ⟨lw_p50, List.forall_mem_cons.mpr ⟨lw_p51, List.forall_mem_cons.mpr ⟨lw_p52, List.forall_mem_cons.mpr ⟨lw_p53, List.forall_mem_cons.mpr ⟨lw_p54, List.forall_mem_cons.mpr ⟨lw_p55, List.forall_mem_cons.mpr ⟨lw_p56, List.forall_mem_cons.mpr ⟨lw_p57, List.forall_mem_cons.mpr ⟨lw_p58, List.forall_mem_cons.mpr ⟨lw_p59, List.forall_mem_cons.mpr ⟨lw_p60, List.forall_mem_cons.mpr ⟨lw_p61, List.forall_mem_cons.mpr ⟨lw_p62, fun _ h => absurd h List.not_mem_nil⟩⟩⟩⟩⟩⟩⟩⟩⟩⟩⟩⟩⟩⟩⟩
def lw_privs : List (MethodName × Nat) := lw_privs_1 ++ (lw_privs_2 ++ (lw_privs_3 ++ (lw_privs_4)))
def lw_tbl : List Cond := k2_sels lw_privs ++ tables_1
theorem lw_privs_ok : ∀ q ∈ lw_privs, lw_okq q := by
  show ∀ q ∈ lw_privs_1 ++ (lw_privs_2 ++ (lw_privs_3 ++ (lw_privs_4))), lw_okq q
  exact List.forall_mem_append.mpr ⟨lw_r1, List.forall_mem_append.mpr ⟨lw_r2, List.forall_mem_append.mpr ⟨lw_r3, lw_r4⟩⟩⟩
end
section
/-! THE SMALL MACHINE: bytecode over a heap of numbered cells. A reference is (number, kind, length); kinds 0 .. 12 are the classes, 13 int[], 14 Walker[], 15 int[][]. The heap: how many cells and slots were made, the ints, the references. -/
abbrev Rf : Type := Nat × Nat × Nat
abbrev AV : Type := Int32 ⊕ (Int64 ⊕ Option Rf)
abbrev Hp : Type := (Nat × Nat) × ((Nat → Nat → Int32) × (Nat → Nat → Option Rf))
abbrev Lc : Type := List (Option AV)
abbrev vi (x : Int32) : AV := .inl x
abbrev vl (x : Int64) : AV := .inr (.inl x)
abbrev vo (r : Option Rf) : AV := .inr (.inr r)
abbrev vr (r : Rf) : AV := .inr (.inr (some r))
def hI (h : Hp) (a k : Nat) : Int32 := h.2.1 a k
def hR (h : Hp) (a k : Nat) : Option Rf := h.2.2 a k
def hsI (h : Hp) (a k : Nat) (v : Int32) : Hp := (h.1, (fun b j => if b = a ∧ j = k then v else h.2.1 b j), h.2.2)
def hsR (h : Hp) (a k : Nat) (v : Option Rf) : Hp := (h.1, h.2.1, (fun b j => if b = a ∧ j = k then v else h.2.2 b j))
def hmk (h : Hp) (w : Nat) : Hp := ((h.1.1 + 1, h.1.2 + w), (fun b j => if b = h.1.1 then 0 else h.2.1 b j), (fun b j => if b = h.1.1 then none else h.2.2 b j))
def hcp (h : Hp) (a sp b dp n : Nat) : Hp := (h.1, (fun c j => if c = b ∧ dp ≤ j ∧ j < dp + n then h.2.1 a (sp + (j - dp)) else h.2.1 c j), h.2.2)
def hmm (h : Hp) (n k : Nat) : Hp := ((h.1.1 + 1 + n, h.1.2 + n + n * k), (fun b j => if h.1.1 ≤ b then 0 else h.2.1 b j), (fun b j => if h.1.1 ≤ b then (if b = h.1.1 ∧ j < n then some (h.1.1 + 1 + j, 13, k) else none) else h.2.2 b j))
abbrev am_Out : Type := (Nat × Lc × List AV × Hp) ⊕ (Option AV ⊕ (Nat × List AV × List AV))
abbrev am_En : Type := Instr × Nat × Nat × Nat × Nat × Nat
def am_ld (ls : Lc) (i : Nat) : Option AV := match ls[i]? with
  | some (some v) => some v
  | _ => none
def am_wd (v : Option AV) : Bool := match v with
  | some (.inr (.inl _)) => true
  | _ => false
def am_pw (ls : Lc) (i : Nat) : Bool := match i with
  | 0 => false
  | j + 1 => am_wd (am_ld ls j)
def am_s1 (ls : Lc) (i : Nat) (v : AV) : Option Lc := if i < ls.length ∧ am_pw ls i = false then some (ls.set i (some v)) else none
def am_s2 (ls : Lc) (i : Nat) (v : AV) : Option Lc := if i + 1 < ls.length ∧ am_pw ls i = false then some ((ls.set i (some v)).set (i + 1) none) else none
/-- is an object of kind k one of class c -/
def am_sub (k c : Nat) : Bool := k == c || (c == 9 && (k == 1 || k == 2 || k == 3 || k == 6 || k == 8)) || (c == 3 && (k == 1 || k == 6))
def am_nx (pc : Nat) (ls : Lc) (st : List AV) (h : Hp) : Option am_Out := some (.inl (pc, ls, st, h))
def am_isd (v : Int32) : Bool := v == 0 || v == 1
def am_swT (offs : Array Int) (lo hi dflt : Int) (pc : Nat) (x : Int32) : Option Nat :=
  if x.toInt < lo ∨ hi < x.toInt then some (((pc : Int) + dflt).toNat) else match offs[(x.toInt - lo).toNat]? with
    | some off => some (((pc : Int) + off).toNat)
    | none => none
/-- virtual methods: the method's number by the receiver's kind -/
def am_vt (sel k : Nat) : Option Nat := match sel with
  | 0 => match k with | 9 => some 902 | 3 => some 301 | 2 => some 201 | 1 => some 101 | 8 => some 801 | 6 => some 601 | _ => none
  | 1 => match k with | 9 => some 903 | 3 => some 302 | 2 => some 202 | 1 => some 302 | 8 => some 802 | 6 => some 302 | _ => none
  | 2 => match k with | 9 => some 904 | _ => none
  | 3 => match k with | 3 => some 303 | 1 => some 102 | 6 => some 602 | _ => none
  | 4 => match k with | 3 => some 904 | 1 => some 904 | 6 => some 904 | _ => none
  | 5 => match k with | 2 => some 904 | _ => none
  | _ => none
/-- Letters.stepOf: the place of a sign in "nesw-" -/
def am_so (x : Int32) : Int32 := if (x.toUInt32 % 65536).toInt32 = 110 then 0 else if (x.toUInt32 % 65536).toInt32 = 101 then 1 else if (x.toUInt32 % 65536).toInt32 = 115 then 2 else if (x.toUInt32 % 65536).toInt32 = 119 then 3 else if (x.toUInt32 % 65536).toInt32 = 45 then 4 else -1
/-- one instruction: i with its length len and its resolved numbers a b c at pc -/
def am_stp (pc : Nat) (i : Instr) (len a b c : Nat) (ls : Lc) (st : List AV) (h : Hp) : Option am_Out :=
  match i with
  | .aconst_null => am_nx (pc + len) ls (vo none :: st) h
  | .iconst n => am_nx (pc + len) ls (vi (Int32.ofInt n) :: st) h
  | .bipush n => am_nx (pc + len) ls (vi (Int8.ofInt n).toInt32 :: st) h
  | .sipush n => am_nx (pc + len) ls (vi (Int16.ofInt n).toInt32 :: st) h
  | .lconst k => am_nx (pc + len) ls (vl (Int64.ofNat k) :: st) h
  | .ldc _ => am_nx (pc + len) ls (vi (Int32.ofNat a) :: st) h
  | .ldc_w _ => am_nx (pc + len) ls (vi (Int32.ofNat a) :: st) h
  | .ldc2_w _ => am_nx (pc + len) ls (vl (Int64.ofNat a) :: st) h
  | .iload k => match am_ld ls k with
    | some (.inl x) => am_nx (pc + len) ls (vi x :: st) h
    | _ => none
  | .iload_n k => match am_ld ls k with
    | some (.inl x) => am_nx (pc + len) ls (vi x :: st) h
    | _ => none
  | .lload k => match am_ld ls k with
    | some (.inr (.inl x)) => am_nx (pc + len) ls (vl x :: st) h
    | _ => none
  | .lload_n k => match am_ld ls k with
    | some (.inr (.inl x)) => am_nx (pc + len) ls (vl x :: st) h
    | _ => none
  | .aload k => match am_ld ls k with
    | some (.inr (.inr x)) => am_nx (pc + len) ls (vo x :: st) h
    | _ => none
  | .aload_n k => match am_ld ls k with
    | some (.inr (.inr x)) => am_nx (pc + len) ls (vo x :: st) h
    | _ => none
  | .istore k => match st with
    | .inl x :: r => match am_s1 ls k (vi x) with
      | some l2 => am_nx (pc + len) l2 r h
      | none => none
    | _ => none
  | .istore_n k => match st with
    | .inl x :: r => match am_s1 ls k (vi x) with
      | some l2 => am_nx (pc + len) l2 r h
      | none => none
    | _ => none
  | .lstore k => match st with
    | .inr (.inl x) :: r => match am_s2 ls k (vl x) with
      | some l2 => am_nx (pc + len) l2 r h
      | none => none
    | _ => none
  | .astore k => match st with
    | .inr (.inr x) :: r => match am_s1 ls k (vo x) with
      | some l2 => am_nx (pc + len) l2 r h
      | none => none
    | _ => none
  | .astore_n k => match st with
    | .inr (.inr x) :: r => match am_s1 ls k (vo x) with
      | some l2 => am_nx (pc + len) l2 r h
      | none => none
    | _ => none
  | .iinc k n => match am_ld ls k with
    | some (.inl x) => match am_s1 ls k (vi (x + Int32.ofInt n)) with
      | some l2 => am_nx (pc + len) l2 st h
      | none => none
    | _ => none
  | .iadd => match st with
    | .inl y :: .inl x :: r => am_nx (pc + len) ls (vi (x + y) :: r) h
    | _ => none
  | .isub => match st with
    | .inl y :: .inl x :: r => am_nx (pc + len) ls (vi (x - y) :: r) h
    | _ => none
  | .imul => match st with
    | .inl y :: .inl x :: r => am_nx (pc + len) ls (vi (x * y) :: r) h
    | _ => none
  | .iand => match st with
    | .inl y :: .inl x :: r => am_nx (pc + len) ls (vi (x &&& y) :: r) h
    | _ => none
  | .ior => match st with
    | .inl y :: .inl x :: r => am_nx (pc + len) ls (vi (x ||| y) :: r) h
    | _ => none
  | .ixor => match st with
    | .inl y :: .inl x :: r => am_nx (pc + len) ls (vi (x ^^^ y) :: r) h
    | _ => none
  | .idiv => match st with
    | .inl y :: .inl x :: r => if y = 0 then none else am_nx (pc + len) ls (vi (x / y) :: r) h
    | _ => none
  | .irem => match st with
    | .inl y :: .inl x :: r => if y = 0 then none else am_nx (pc + len) ls (vi (x - x / y * y) :: r) h
    | _ => none
  | .ineg => match st with
    | .inl x :: r => am_nx (pc + len) ls (vi (-x) :: r) h
    | _ => none
  | .ishl => match st with
    | .inl y :: .inl x :: r => am_nx (pc + len) ls (vi (x <<< (y &&& 31)) :: r) h
    | _ => none
  | .ishr => match st with
    | .inl y :: .inl x :: r => am_nx (pc + len) ls (vi (x >>> (y &&& 31)) :: r) h
    | _ => none
  | .iushr => match st with
    | .inl y :: .inl x :: r => am_nx (pc + len) ls (vi (x.toUInt32 >>> (y.toUInt32 &&& Int32.toUInt32 31)).toInt32 :: r) h
    | _ => none
  | .i2l => match st with
    | .inl x :: r => am_nx (pc + len) ls (vl x.toInt64 :: r) h
    | _ => none
  | .lmul => match st with
    | .inr (.inl y) :: .inr (.inl x) :: r => am_nx (pc + len) ls (vl (x * y) :: r) h
    | _ => none
  | .lcmp => match st with
    | .inr (.inl y) :: .inr (.inl x) :: r => am_nx (pc + len) ls (vi (lg_cmp x y) :: r) h
    | _ => none
  | .dup => match st with
    | .inl x :: r => am_nx (pc + len) ls (vi x :: vi x :: r) h
    | .inr (.inr x) :: r => am_nx (pc + len) ls (vo x :: vo x :: r) h
    | _ => none
  | .dup2 => match st with
    | .inl y :: .inr (.inr x) :: r => am_nx (pc + len) ls (vi y :: vo x :: vi y :: vo x :: r) h
    | _ => none
  | .pop => match st with
    | .inl _ :: r => am_nx (pc + len) ls r h
    | .inr (.inr _) :: r => am_nx (pc + len) ls r h
    | _ => none
  | .goto _ => am_nx a ls st h
  | .ifCond op _ => match st with
    | .inl x :: r => match op with
      | .eq => if x = 0 then am_nx a ls r h else am_nx (pc + len) ls r h
      | .ne => if x = 0 then am_nx (pc + len) ls r h else am_nx a ls r h
      | .lt => if x < 0 then am_nx a ls r h else am_nx (pc + len) ls r h
      | .ge => if 0 ≤ x then am_nx a ls r h else am_nx (pc + len) ls r h
      | .gt => if 0 < x then am_nx a ls r h else am_nx (pc + len) ls r h
      | .le => if x ≤ 0 then am_nx a ls r h else am_nx (pc + len) ls r h
    | _ => none
  | .if_icmp op _ => match st with
    | .inl y :: .inl x :: r => match op with
      | .eq => if x = y then am_nx a ls r h else am_nx (pc + len) ls r h
      | .ne => if x = y then am_nx (pc + len) ls r h else am_nx a ls r h
      | .lt => if x < y then am_nx a ls r h else am_nx (pc + len) ls r h
      | .ge => if y ≤ x then am_nx a ls r h else am_nx (pc + len) ls r h
      | .gt => if y < x then am_nx a ls r h else am_nx (pc + len) ls r h
      | .le => if x ≤ y then am_nx a ls r h else am_nx (pc + len) ls r h
    | _ => none
  | .ifnull _ => match st with
    | .inr (.inr none) :: r => am_nx a ls r h
    | .inr (.inr (some _)) :: r => am_nx (pc + len) ls r h
    | _ => none
  | .ifnonnull _ => match st with
    | .inr (.inr none) :: r => am_nx (pc + len) ls r h
    | .inr (.inr (some _)) :: r => am_nx a ls r h
    | _ => none
  | .tableswitch d lo hi offs => match st with
    | .inl x :: r => match am_swT offs lo hi d pc x with
      | some t => am_nx t ls r h
      | none => none
    | _ => none
  | .lookupswitch d ps => match st with
    | .inl x :: r => am_nx (((pc : Int) + Op.lookupswitch.offset ps.toList d x.toInt).toNat) ls r h
    | _ => none
  | .getfield _ => match st with
    | .inr (.inr (some (o, k, _))) :: r => if am_sub k a = true then (if c = 2 then am_nx (pc + len) ls (vo (hR h o b) :: r) h else am_nx (pc + len) ls (vi (hI h o b) :: r) h) else none
    | _ => none
  | .putfield _ => match st with
    | .inl x :: .inr (.inr (some (o, k, _))) :: r => if am_sub k a = true ∧ (c = 0 ∨ (c = 1 ∧ am_isd x = true)) then am_nx (pc + len) ls r (hsI h o b x) else none
    | .inr (.inr x) :: .inr (.inr (some (o, k, _))) :: r => if am_sub k a = true ∧ c = 2 then am_nx (pc + len) ls r (hsR h o b x) else none
    | _ => none
  | .iaload => match st with
    | .inl i :: .inr (.inr (some (o, 13, n))) :: r => if i < 0 ∨ n ≤ i.toNatClampNeg then none else am_nx (pc + len) ls (vi (hI h o i.toNatClampNeg) :: r) h
    | _ => none
  | .iastore => match st with
    | .inl x :: .inl i :: .inr (.inr (some (o, 13, n))) :: r => if i < 0 ∨ n ≤ i.toNatClampNeg then none else am_nx (pc + len) ls r (hsI h o i.toNatClampNeg x)
    | _ => none
  | .aaload => match st with
    | .inl i :: .inr (.inr (some (o, 14, n))) :: r => if i < 0 ∨ n ≤ i.toNatClampNeg then none else am_nx (pc + len) ls (vo (hR h o i.toNatClampNeg) :: r) h
    | .inl i :: .inr (.inr (some (o, 15, n))) :: r => if i < 0 ∨ n ≤ i.toNatClampNeg then none else am_nx (pc + len) ls (vo (hR h o i.toNatClampNeg) :: r) h
    | _ => none
  | .aastore => match st with
    | .inr (.inr none) :: .inl i :: .inr (.inr (some (o, 14, n))) :: r => if i < 0 ∨ n ≤ i.toNatClampNeg then none else am_nx (pc + len) ls r (hsR h o i.toNatClampNeg none)
    | .inr (.inr (some (x, k, y))) :: .inl i :: .inr (.inr (some (o, 14, n))) :: r => if i < 0 ∨ n ≤ i.toNatClampNeg ∨ am_sub k 9 = false then none else am_nx (pc + len) ls r (hsR h o i.toNatClampNeg (some (x, k, y)))
    | _ => none
  | .arraylength => match st with
    | .inr (.inr (some (_, 13, n))) :: r => am_nx (pc + len) ls (vi (Int32.ofNat n) :: r) h
    | .inr (.inr (some (_, 14, n))) :: r => am_nx (pc + len) ls (vi (Int32.ofNat n) :: r) h
    | .inr (.inr (some (_, 15, n))) :: r => am_nx (pc + len) ls (vi (Int32.ofNat n) :: r) h
    | _ => none
  | .new _ => am_nx (pc + len) ls (vr (h.1.1, a, 0) :: st) (hmk h b)
  | .newarray .int => match st with
    | .inl n :: r => if n < 0 ∨ 100000 ≤ n.toNatClampNeg then none else am_nx (pc + len) ls (vr (h.1.1, 13, n.toNatClampNeg) :: r) (hmk h n.toNatClampNeg)
    | _ => none
  | .anewarray _ => match st with
    | .inl n :: r => if n < 0 ∨ 100000 ≤ n.toNatClampNeg then none else am_nx (pc + len) ls (vr (h.1.1, 14, n.toNatClampNeg) :: r) (hmk h n.toNatClampNeg)
    | _ => none
  | .multianewarray _ _ => match st with
    | .inl k :: .inl n :: r => if k < 0 ∨ 1000 ≤ k.toNatClampNeg ∨ n < 0 ∨ 1000 ≤ n.toNatClampNeg then none else am_nx (pc + len) ls (vr (h.1.1, 15, n.toNatClampNeg) :: r) (hmm h n.toNatClampNeg k.toNatClampNeg)
    | _ => none
  | .ireturn => match st with
    | [.inl x] => if a = 0 ∨ am_isd x = true then some (.inr (.inl (some (vi x)))) else none
    | _ => none
  | .areturn => match st with
    | [.inr (.inr x)] => some (.inr (.inl (some (vo x))))
    | _ => none
  | .return_ => match st with
    | [] => some (.inr (.inl none))
    | _ => none
  | .invokestatic _ => match c with
    | 0 => if b ≤ st.length ∧ (st.drop b).length ≤ 4 then some (.inr (.inr (a, (st.take b).reverse, st.drop b))) else none
    | 1 => match st with
      | .inl y :: .inl x :: r => if r.length ≤ 4 then am_nx (pc + len) ls (vi (if x < y then y else x) :: r) h else none
      | _ => none
    | 2 => match st with
      | .inl y :: .inl x :: r => if r.length ≤ 4 then am_nx (pc + len) ls (vi (if y < x then y else x) :: r) h else none
      | _ => none
    | 3 => match st with
      | .inl x :: r => if r.length ≤ 4 then am_nx (pc + len) ls (vi (if 0 ≤ x then x else 0 - x) :: r) h else none
      | _ => none
    | 4 => match st with
      | .inl n :: .inl dp :: .inr (.inr (some (o1, 13, n1))) :: .inl sp :: .inr (.inr (some (o0, 13, n0))) :: r =>
        if sp < 0 ∨ dp < 0 ∨ n < 0 ∨ n0 < sp.toNatClampNeg + n.toNatClampNeg ∨ n1 < dp.toNatClampNeg + n.toNatClampNeg ∨ 4 < r.length then none else am_nx (pc + len) ls r (hcp h o0 sp.toNatClampNeg o1 dp.toNatClampNeg n.toNatClampNeg)
      | _ => none
    | 5 => match st with
      | .inl x :: r => if r.length ≤ 4 then am_nx (pc + len) ls (vi (am_so x) :: r) h else none
      | _ => none
    | _ => none
  | .invokespecial _ => match c with
    | 0 => match st.drop b with
      | .inr (.inr (some (o, k, n))) :: r => if am_sub k (a / 100) = true ∧ r.length ≤ 4 then some (.inr (.inr (a, vr (o, k, n) :: (st.take b).reverse, r))) else none
      | _ => none
    | _ => match st with
      | .inr (.inr (some _)) :: r => if r.length ≤ 4 then am_nx (pc + len) ls r h else none
      | _ => none
  | .invokevirtual _ => match st.drop b with
    | .inr (.inr (some (o, k, n))) :: r => if r.length ≤ 4 then (match c with
      | 0 => if k = a / 100 then some (.inr (.inr (a, vr (o, k, n) :: (st.take b).reverse, r))) else none
      | _ => match am_vt a k with
        | some t => some (.inr (.inr (t, vr (o, k, n) :: (st.take b).reverse, r)))
        | none => none) else none
    | _ => none
  | _ => none
end
section
/-! the code of the methods: at each pc the instruction, its length, its resolved numbers, the place of its word -/
/-- X0_init()V -/
def am_c0 : List (Option am_En) := [some (.aload_n 0, 1, 0, 0, 0, 0), some (.invokespecial 3, 3, 0, 0, 1, 261), none, none, some (.aload_n 0, 1, 0, 0, 0, 0), some (.bipush 30, 2, 0, 0, 0, 0), none, some (.newarray .int, 2, 0, 0, 0, 0), none, some (.putfield 9, 3, 0, 0, 2, 262), none, none, some (.aload_n 0, 1, 0, 0, 0, 0), some (.bipush 30, 2, 0, 0, 0, 0), none, some (.newarray .int, 2, 0, 0, 0, 0), none, some (.putfield 15, 3, 0, 1, 2, 263), none, none, some (.return_, 1, 0, 0, 0, 0)]
/-- X0_stepsToCatch(LSeenADayLate$Moor;II)I -/
def am_c1 : List (Option am_En) := [some (.iload_n 2, 1, 0, 0, 0, 0), some (.iload_n 3, 1, 0, 0, 0, 0), some (.if_icmp .ne 5, 3, 7, 0, 0, 0), none, none, some (.iconst 0, 1, 0, 0, 0, 0), some (.ireturn, 1, 0, 0, 0, 0), some (.aload_n 1, 1, 0, 0, 0, 0), some (.iload_n 2, 1, 0, 0, 0, 0), some (.invokevirtual 18, 3, 504, 1, 0, 847), none, none, some (.ifCond .eq 11, 3, 23, 0, 0, 0), none, none, some (.aload_n 1, 1, 0, 0, 0, 0), some (.iload_n 3, 1, 0, 0, 0, 0), some (.invokevirtual 18, 3, 504, 1, 0, 847), none, none, some (.ifCond .ne 6, 3, 26, 0, 0, 0), none, none, some (.bipush (-9), 2, 0, 0, 0, 0), none, some (.ireturn, 1, 0, 0, 0, 0), some (.iconst 0, 1, 0, 0, 0, 0), some (.istore 4, 2, 0, 0, 0, 0), none, some (.iload 4, 2, 0, 0, 0, 0), none, some (.aload_n 1, 1, 0, 0, 0, 0), some (.getfield 24, 3, 5, 2, 0, 126), none, none, some (.if_icmp .ge 20, 3, 55, 0, 0, 0), none, none, some (.aload_n 0, 1, 0, 0, 0, 0), some (.getfield 9, 3, 0, 0, 2, 262), none, none, some (.iload 4, 2, 0, 0, 0, 0), none, some (.iconst 1, 1, 0, 0, 0, 0), some (.iload 4, 2, 0, 0, 0, 0), none, some (.ishl, 1, 0, 0, 0, 0), some (.iastore, 1, 0, 0, 0, 0), some (.iinc 4 1, 3, 0, 0, 0, 0), none, none, some (.goto (-23), 3, 29, 0, 0, 0), none, none, some (.iconst 1, 1, 0, 0, 0, 0), some (.istore 4, 2, 0, 0, 0, 0), none, some (.iload 4, 2, 0, 0, 0, 0), none, some (.sipush 900, 3, 0, 0, 0, 0), none, none, some (.if_icmp .gt 46, 3, 109, 0, 0, 0), none, none, some (.aload_n 0, 1, 0, 0, 0, 0), some (.aload_n 1, 1, 0, 0, 0, 0), some (.invokevirtual 28, 3, 3, 1, 0, 848), none, none, some (.aload_n 0, 1, 0, 0, 0, 0), some (.aload_n 1, 1, 0, 0, 0, 0), some (.invokevirtual 32, 3, 4, 1, 0, 856), none, none, some (.istore 5, 2, 0, 0, 0, 0), none, some (.aload_n 0, 1, 0, 0, 0, 0), some (.getfield 9, 3, 0, 0, 2, 262), none, none, some (.iload_n 2, 1, 0, 0, 0, 0), some (.iaload, 1, 0, 0, 0, 0), some (.iload_n 3, 1, 0, 0, 0, 0), some (.iushr, 1, 0, 0, 0, 0), some (.iconst 1, 1, 0, 0, 0, 0), some (.iand, 1, 0, 0, 0, 0), some (.iconst 1, 1, 0, 0, 0, 0), some (.if_icmp .ne 6, 3, 95, 0, 0, 0), none, none, some (.iload 4, 2, 0, 0, 0, 0), none, some (.ireturn, 1, 0, 0, 0, 0), some (.iload 5, 2, 0, 0, 0, 0), none, some (.ifCond .ne 6, 3, 103, 0, 0, 0), none, none, some (.bipush (-9), 2, 0, 0, 0, 0), none, some (.ireturn, 1, 0, 0, 0, 0), some (.iinc 4 1, 3, 0, 0, 0, 0), none, none, some (.goto (-48), 3, 58, 0, 0, 0), none, none, some (.bipush (-9), 2, 0, 0, 0, 0), none, some (.ireturn, 1, 0, 0, 0, 0)]
/-- X0_firstStep(LSeenADayLate$Moor;II)I -/
def am_c2 : List (Option am_En) := [some (.aload_n 0, 1, 0, 0, 0, 0), some (.aload_n 1, 1, 0, 0, 0, 0), some (.iload_n 2, 1, 0, 0, 0, 0), some (.iload_n 3, 1, 0, 0, 0, 0), some (.invokevirtual 36, 3, 1, 3, 0, 865), none, none, some (.ifCond .gt 6, 3, 13, 0, 0, 0), none, none, some (.bipush (-9), 2, 0, 0, 0, 0), none, some (.ireturn, 1, 0, 0, 0, 0), some (.iconst 0, 1, 0, 0, 0, 0), some (.istore 4, 2, 0, 0, 0, 0), none, some (.iload 4, 2, 0, 0, 0, 0), none, some (.iconst 5, 1, 0, 0, 0, 0), some (.if_icmp .ge 43, 3, 62, 0, 0, 0), none, none, some (.aload_n 1, 1, 0, 0, 0, 0), some (.iload_n 2, 1, 0, 0, 0, 0), some (.iload 4, 2, 0, 0, 0, 0), none, some (.invokevirtual 40, 3, 506, 2, 0, 860), none, none, some (.istore 5, 2, 0, 0, 0, 0), none, some (.iload 5, 2, 0, 0, 0, 0), none, some (.bipush (-9), 2, 0, 0, 0, 0), none, some (.if_icmp .eq 21, 3, 56, 0, 0, 0), none, none, some (.aload_n 0, 1, 0, 0, 0, 0), some (.getfield 15, 3, 0, 1, 2, 263), none, none, some (.iload 5, 2, 0, 0, 0, 0), none, some (.iaload, 1, 0, 0, 0, 0), some (.iload_n 3, 1, 0, 0, 0, 0), some (.iushr, 1, 0, 0, 0, 0), some (.iconst 1, 1, 0, 0, 0, 0), some (.iand, 1, 0, 0, 0, 0), some (.iconst 1, 1, 0, 0, 0, 0), some (.if_icmp .ne 6, 3, 56, 0, 0, 0), none, none, some (.iload 4, 2, 0, 0, 0, 0), none, some (.ireturn, 1, 0, 0, 0, 0), some (.iinc 4 1, 3, 0, 0, 0, 0), none, none, some (.goto (-43), 3, 16, 0, 0, 0), none, none, some (.bipush (-9), 2, 0, 0, 0, 0), none, some (.ireturn, 1, 0, 0, 0, 0)]
/-- X0_letHareStep(LSeenADayLate$Moor;)V -/
def am_c3 : List (Option am_En) := [some (.iconst 0, 1, 0, 0, 0, 0), some (.istore_n 2, 1, 0, 0, 0, 0), some (.iload_n 2, 1, 0, 0, 0, 0), some (.aload_n 1, 1, 0, 0, 0, 0), some (.getfield 24, 3, 5, 2, 0, 126), none, none, some (.if_icmp .ge 72, 3, 79, 0, 0, 0), none, none, some (.iconst 1, 1, 0, 0, 0, 0), some (.iload_n 2, 1, 0, 0, 0, 0), some (.ishl, 1, 0, 0, 0, 0), some (.istore_n 3, 1, 0, 0, 0, 0), some (.iconst 0, 1, 0, 0, 0, 0), some (.istore 4, 2, 0, 0, 0, 0), none, some (.iload 4, 2, 0, 0, 0, 0), none, some (.aload_n 1, 1, 0, 0, 0, 0), some (.getfield 24, 3, 5, 2, 0, 126), none, none, some (.if_icmp .ge 43, 3, 66, 0, 0, 0), none, none, some (.aload_n 1, 1, 0, 0, 0, 0), some (.iload 4, 2, 0, 0, 0, 0), none, some (.invokevirtual 18, 3, 504, 1, 0, 847), none, none, some (.ifCond .eq 28, 3, 60, 0, 0, 0), none, none, some (.aload_n 1, 1, 0, 0, 0, 0), some (.iload 4, 2, 0, 0, 0, 0), none, some (.invokevirtual 44, 3, 507, 1, 0, 852), none, none, some (.aload_n 0, 1, 0, 0, 0, 0), some (.getfield 9, 3, 0, 0, 2, 262), none, none, some (.iload_n 2, 1, 0, 0, 0, 0), some (.iaload, 1, 0, 0, 0, 0), some (.iconst (-1), 1, 0, 0, 0, 0), some (.ixor, 1, 0, 0, 0, 0), some (.iand, 1, 0, 0, 0, 0), some (.ifCond .ne 10, 3, 60, 0, 0, 0), none, none, some (.iload_n 3, 1, 0, 0, 0, 0), some (.iconst 1, 1, 0, 0, 0, 0), some (.iload 4, 2, 0, 0, 0, 0), none, some (.ishl, 1, 0, 0, 0, 0), some (.ior, 1, 0, 0, 0, 0), some (.istore_n 3, 1, 0, 0, 0, 0), some (.iinc 4 1, 3, 0, 0, 0, 0), none, none, some (.goto (-46), 3, 17, 0, 0, 0), none, none, some (.aload_n 0, 1, 0, 0, 0, 0), some (.getfield 15, 3, 0, 1, 2, 263), none, none, some (.iload_n 2, 1, 0, 0, 0, 0), some (.iload_n 3, 1, 0, 0, 0, 0), some (.iastore, 1, 0, 0, 0, 0), some (.iinc 2 1, 3, 0, 0, 0, 0), none, none, some (.goto (-74), 3, 2, 0, 0, 0), none, none, some (.return_, 1, 0, 0, 0, 0)]
/-- X0_letHunterStep(LSeenADayLate$Moor;)Z -/
def am_c4 : List (Option am_En) := [some (.iconst 0, 1, 0, 0, 0, 0), some (.istore_n 2, 1, 0, 0, 0, 0), some (.iconst 0, 1, 0, 0, 0, 0), some (.istore_n 3, 1, 0, 0, 0, 0), some (.iload_n 3, 1, 0, 0, 0, 0), some (.aload_n 1, 1, 0, 0, 0, 0), some (.getfield 24, 3, 5, 2, 0, 126), none, none, some (.if_icmp .ge 91, 3, 100, 0, 0, 0), none, none, some (.aload_n 0, 1, 0, 0, 0, 0), some (.getfield 9, 3, 0, 0, 2, 262), none, none, some (.iload_n 3, 1, 0, 0, 0, 0), some (.iaload, 1, 0, 0, 0, 0), some (.istore 4, 2, 0, 0, 0, 0), none, some (.iconst 0, 1, 0, 0, 0, 0), some (.istore 5, 2, 0, 0, 0, 0), none, some (.iload 5, 2, 0, 0, 0, 0), none, some (.iconst 5, 1, 0, 0, 0, 0), some (.if_icmp .ge 41, 3, 67, 0, 0, 0), none, none, some (.aload_n 1, 1, 0, 0, 0, 0), some (.iload_n 3, 1, 0, 0, 0, 0), some (.iload 5, 2, 0, 0, 0, 0), none, some (.invokevirtual 40, 3, 506, 2, 0, 860), none, none, some (.istore 6, 2, 0, 0, 0, 0), none, some (.iload 4, 2, 0, 0, 0, 0), none, some (.iload 6, 2, 0, 0, 0, 0), none, some (.bipush (-9), 2, 0, 0, 0, 0), none, some (.if_icmp .ne 7, 3, 51, 0, 0, 0), none, none, some (.iconst 0, 1, 0, 0, 0, 0), some (.goto 10, 3, 58, 0, 0, 0), none, none, some (.aload_n 0, 1, 0, 0, 0, 0), some (.getfield 15, 3, 0, 1, 2, 263), none, none, some (.iload 6, 2, 0, 0, 0, 0), none, some (.iaload, 1, 0, 0, 0, 0), some (.ior, 1, 0, 0, 0, 0), some (.istore 4, 2, 0, 0, 0, 0), none, some (.iinc 5 1, 3, 0, 0, 0, 0), none, none, some (.goto (-41), 3, 23, 0, 0, 0), none, none, some (.iload_n 2, 1, 0, 0, 0, 0), some (.iload 4, 2, 0, 0, 0, 0), none, some (.aload_n 0, 1, 0, 0, 0, 0), some (.getfield 9, 3, 0, 0, 2, 262), none, none, some (.iload_n 3, 1, 0, 0, 0, 0), some (.iaload, 1, 0, 0, 0, 0), some (.if_icmp .eq 7, 3, 83, 0, 0, 0), none, none, some (.iconst 1, 1, 0, 0, 0, 0), some (.goto 4, 3, 84, 0, 0, 0), none, none, some (.iconst 0, 1, 0, 0, 0, 0), some (.ior, 1, 0, 0, 0, 0), some (.istore_n 2, 1, 0, 0, 0, 0), some (.aload_n 0, 1, 0, 0, 0, 0), some (.getfield 9, 3, 0, 0, 2, 262), none, none, some (.iload_n 3, 1, 0, 0, 0, 0), some (.iload 4, 2, 0, 0, 0, 0), none, some (.iastore, 1, 0, 0, 0, 0), some (.iinc 3 1, 3, 0, 0, 0, 0), none, none, some (.goto (-93), 3, 4, 0, 0, 0), none, none, some (.iload_n 2, 1, 0, 0, 0, 0), some (.ireturn, 1, 1, 0, 0, 0)]
/-- X1_init(I[I)V -/
def am_c100 : List (Option am_En) := [some (.aload_n 0, 1, 0, 0, 0, 0), some (.iload_n 1, 1, 0, 0, 0, 0), some (.aload_n 2, 1, 0, 0, 0, 0), some (.invokespecial 1, 3, 300, 2, 0, 519), none, none, some (.return_, 1, 0, 0, 0, 0)]
/-- X1_kind()I -/
def am_c101 : List (Option am_En) := [some (.iconst 3, 1, 0, 0, 0, 0), some (.ireturn, 1, 0, 0, 0, 0)]
/-- X1_aim(LSeenADayLate$World;II)I -/
def am_c102 : List (Option am_En) := [some (.aload_n 1, 1, 0, 0, 0, 0), some (.iload_n 2, 1, 0, 0, 0, 0), some (.iload_n 3, 1, 0, 0, 0, 0), some (.iconst 1, 1, 0, 0, 0, 0), some (.isub, 1, 0, 0, 0, 0), some (.invokevirtual 7, 3, 1007, 2, 0, 627), none, none, some (.ireturn, 1, 0, 0, 0, 0)]
/-- X2_init(I[I)V -/
def am_c200 : List (Option am_En) := [some (.aload_n 0, 1, 0, 0, 0, 0), some (.iload_n 1, 1, 0, 0, 0, 0), some (.aload_n 2, 1, 0, 0, 0, 0), some (.invokespecial 3, 3, 900, 2, 0, 510), none, none, some (.return_, 1, 0, 0, 0, 0)]
/-- X2_kind()I -/
def am_c201 : List (Option am_En) := [some (.iconst 2, 1, 0, 0, 0, 0), some (.ireturn, 1, 0, 0, 0, 0)]
/-- X2_chooses(LSeenADayLate$World;II)I -/
def am_c202 : List (Option am_En) := [some (.aload_n 1, 1, 0, 0, 0, 0), some (.getfield 9, 3, 10, 3, 0, 180), none, none, some (.iconst 1, 1, 0, 0, 0, 0), some (.if_icmp .gt 11, 3, 16, 0, 0, 0), none, none, some (.aload_n 0, 1, 0, 0, 0, 0), some (.aload_n 1, 1, 0, 0, 0, 0), some (.iload_n 2, 1, 0, 0, 0, 0), some (.iload_n 3, 1, 0, 0, 0, 0), some (.invokevirtual 15, 3, 5, 3, 1, 654), none, none, some (.ireturn, 1, 0, 0, 0, 0), some (.aload_n 1, 1, 0, 0, 0, 0), some (.iload_n 2, 1, 0, 0, 0, 0), some (.iload_n 3, 1, 0, 0, 0, 0), some (.invokevirtual 21, 3, 1006, 2, 0, 657), none, none, some (.istore 4, 2, 0, 0, 0, 0), none, some (.iconst 4, 1, 0, 0, 0, 0), some (.istore 5, 2, 0, 0, 0, 0), none, some (.iconst (-1), 1, 0, 0, 0, 0), some (.istore 6, 2, 0, 0, 0, 0), none, some (.iconst 0, 1, 0, 0, 0, 0), some (.istore 7, 2, 0, 0, 0, 0), none, some (.iload 7, 2, 0, 0, 0, 0), none, some (.iconst 5, 1, 0, 0, 0, 0), some (.if_icmp .ge 54, 3, 90, 0, 0, 0), none, none, some (.aload_n 1, 1, 0, 0, 0, 0), some (.getfield 25, 3, 10, 0, 2, 168), none, none, some (.iload 4, 2, 0, 0, 0, 0), none, some (.iload 7, 2, 0, 0, 0, 0), none, some (.invokevirtual 29, 3, 506, 2, 0, 658), none, none, some (.istore 8, 2, 0, 0, 0, 0), none, some (.iload 8, 2, 0, 0, 0, 0), none, some (.bipush (-9), 2, 0, 0, 0, 0), none, some (.if_icmp .eq 28, 3, 84, 0, 0, 0), none, none, some (.aload_n 1, 1, 0, 0, 0, 0), some (.iload 8, 2, 0, 0, 0, 0), none, some (.iload_n 2, 1, 0, 0, 0, 0), some (.iload_n 3, 1, 0, 0, 0, 0), some (.invokevirtual 34, 3, 1008, 3, 0, 659), none, none, some (.istore 9, 2, 0, 0, 0, 0), none, some (.iload 9, 2, 0, 0, 0, 0), none, some (.iload 6, 2, 0, 0, 0, 0), none, some (.if_icmp .le 11, 3, 84, 0, 0, 0), none, none, some (.iload 7, 2, 0, 0, 0, 0), none, some (.istore 5, 2, 0, 0, 0, 0), none, some (.iload 9, 2, 0, 0, 0, 0), none, some (.istore 6, 2, 0, 0, 0, 0), none, some (.iinc 7 1, 3, 0, 0, 0, 0), none, none, some (.goto (-54), 3, 33, 0, 0, 0), none, none, some (.iload 5, 2, 0, 0, 0, 0), none, some (.ireturn, 1, 0, 0, 0, 0)]
/-- X3_init(I[I)V -/
def am_c300 : List (Option am_En) := [some (.aload_n 0, 1, 0, 0, 0, 0), some (.iload_n 1, 1, 0, 0, 0, 0), some (.aload_n 2, 1, 0, 0, 0, 0), some (.invokespecial 3, 3, 900, 2, 0, 501), none, none, some (.return_, 1, 0, 0, 0, 0)]
/-- X3_kind()I -/
def am_c301 : List (Option am_En) := [some (.iconst 1, 1, 0, 0, 0, 0), some (.ireturn, 1, 0, 0, 0, 0)]
/-- X3_chooses(LSeenADayLate$World;II)I -/
def am_c302 : List (Option am_En) := [some (.aload_n 1, 1, 0, 0, 0, 0), some (.getfield 9, 3, 10, 3, 0, 179), none, none, some (.ifCond .le 15, 3, 19, 0, 0, 0), none, none, some (.aload_n 0, 1, 0, 0, 0, 0), some (.getfield 15, 3, 9, 0, 0, 485), none, none, some (.aload_n 1, 1, 0, 0, 0, 0), some (.getfield 9, 3, 10, 3, 0, 179), none, none, some (.irem, 1, 0, 0, 0, 0), some (.goto 4, 3, 20, 0, 0, 0), none, none, some (.iload_n 2, 1, 0, 0, 0, 0), some (.istore 4, 2, 0, 0, 0, 0), none, some (.iload 4, 2, 0, 0, 0, 0), none, some (.iload_n 2, 1, 0, 0, 0, 0), some (.if_icmp .ne 11, 3, 36, 0, 0, 0), none, none, some (.aload_n 0, 1, 0, 0, 0, 0), some (.aload_n 1, 1, 0, 0, 0, 0), some (.iload_n 2, 1, 0, 0, 0, 0), some (.iload_n 3, 1, 0, 0, 0, 0), some (.invokevirtual 20, 3, 4, 3, 1, 603), none, none, some (.ireturn, 1, 0, 0, 0, 0), some (.aload_n 0, 1, 0, 0, 0, 0), some (.aload_n 1, 1, 0, 0, 0, 0), some (.iload 4, 2, 0, 0, 0, 0), none, some (.iload_n 3, 1, 0, 0, 0, 0), some (.invokevirtual 24, 3, 3, 3, 1, 620), none, none, some (.istore 5, 2, 0, 0, 0, 0), none, some (.aload_n 1, 1, 0, 0, 0, 0), some (.iload_n 2, 1, 0, 0, 0, 0), some (.iload_n 3, 1, 0, 0, 0, 0), some (.invokevirtual 27, 3, 1006, 2, 0, 641), none, none, some (.istore 6, 2, 0, 0, 0, 0), none, some (.iconst 4, 1, 0, 0, 0, 0), some (.istore 7, 2, 0, 0, 0, 0), none, some (.ldc 33, 2, 2147483647, 0, 0, 642), none, some (.istore 8, 2, 0, 0, 0, 0), none, some (.iconst 0, 1, 0, 0, 0, 0), some (.istore 9, 2, 0, 0, 0, 0), none, some (.iload 9, 2, 0, 0, 0, 0), none, some (.iconst 5, 1, 0, 0, 0, 0), some (.if_icmp .ge 57, 3, 124, 0, 0, 0), none, none, some (.aload_n 1, 1, 0, 0, 0, 0), some (.getfield 34, 3, 10, 0, 2, 169), none, none, some (.iload 6, 2, 0, 0, 0, 0), none, some (.iload 9, 2, 0, 0, 0, 0), none, some (.invokevirtual 38, 3, 506, 2, 0, 643), none, none, some (.istore 10, 2, 0, 0, 0, 0), none, some (.iload 10, 2, 0, 0, 0, 0), none, some (.bipush (-9), 2, 0, 0, 0, 0), none, some (.if_icmp .eq 31, 3, 118, 0, 0, 0), none, none, some (.aload_n 1, 1, 0, 0, 0, 0), some (.getfield 34, 3, 10, 0, 2, 169), none, none, some (.iload 10, 2, 0, 0, 0, 0), none, some (.iload 5, 2, 0, 0, 0, 0), none, some (.invokevirtual 43, 3, 508, 2, 0, 644), none, none, some (.istore 11, 2, 0, 0, 0, 0), none, some (.iload 11, 2, 0, 0, 0, 0), none, some (.iload 8, 2, 0, 0, 0, 0), none, some (.if_icmp .ge 11, 3, 118, 0, 0, 0), none, none, some (.iload 9, 2, 0, 0, 0, 0), none, some (.istore 7, 2, 0, 0, 0, 0), none, some (.iload 11, 2, 0, 0, 0, 0), none, some (.istore 8, 2, 0, 0, 0, 0), none, some (.iinc 9 1, 3, 0, 0, 0, 0), none, none, some (.goto (-57), 3, 64, 0, 0, 0), none, none, some (.iload 7, 2, 0, 0, 0, 0), none, some (.ireturn, 1, 0, 0, 0, 0)]
/-- X3_aim(LSeenADayLate$World;II)I -/
def am_c303 : List (Option am_En) := [some (.aload_n 1, 1, 0, 0, 0, 0), some (.iload_n 2, 1, 0, 0, 0, 0), some (.iload_n 3, 1, 0, 0, 0, 0), some (.invokevirtual 46, 3, 1007, 2, 0, 640), none, none, some (.ireturn, 1, 0, 0, 0, 0)]
/-- X4_init()V -/
def am_c400 : List (Option am_En) := [some (.aload_n 0, 1, 0, 0, 0, 0), some (.invokespecial 3, 3, 0, 0, 1, 202), none, none, some (.aload_n 0, 1, 0, 0, 0, 0), some (.bipush 80, 2, 0, 0, 0, 0), none, some (.newarray .int, 2, 0, 0, 0, 0), none, some (.putfield 9, 3, 4, 1, 2, 209), none, none, some (.aload_n 0, 1, 0, 0, 0, 0), some (.invokevirtual 15, 3, 401, 0, 0, 203), none, none, some (.return_, 1, 0, 0, 0, 0)]
/-- X4_clear()V -/
def am_c401 : List (Option am_En) := [some (.aload_n 0, 1, 0, 0, 0, 0), some (.iconst 0, 1, 0, 0, 0, 0), some (.putfield 18, 3, 4, 0, 0, 207), none, none, some (.aload_n 0, 1, 0, 0, 0, 0), some (.iconst 0, 1, 0, 0, 0, 0), some (.putfield 22, 3, 4, 2, 0, 210), none, none, some (.return_, 1, 0, 0, 0, 0)]
/-- X4_isFull()Z -/
def am_c402 : List (Option am_En) := [some (.aload_n 0, 1, 0, 0, 0, 0), some (.getfield 18, 3, 4, 0, 0, 207), none, none, some (.aload_n 0, 1, 0, 0, 0, 0), some (.getfield 9, 3, 4, 1, 2, 209), none, none, some (.arraylength, 1, 0, 0, 0, 0), some (.if_icmp .lt 7, 3, 16, 0, 0, 0), none, none, some (.iconst 1, 1, 0, 0, 0, 0), some (.goto 4, 3, 17, 0, 0, 0), none, none, some (.iconst 0, 1, 0, 0, 0, 0), some (.ireturn, 1, 1, 0, 0, 0)]
/-- X4_take(I)I -/
def am_c403 : List (Option am_En) := [some (.aload_n 0, 1, 0, 0, 0, 0), some (.invokevirtual 25, 3, 402, 0, 0, 319), none, none, some (.ifCond .ne 23, 3, 27, 0, 0, 0), none, none, some (.aload_n 0, 1, 0, 0, 0, 0), some (.getfield 9, 3, 4, 1, 2, 209), none, none, some (.aload_n 0, 1, 0, 0, 0, 0), some (.getfield 18, 3, 4, 0, 0, 207), none, none, some (.iload_n 1, 1, 0, 0, 0, 0), some (.iastore, 1, 0, 0, 0, 0), some (.aload_n 0, 1, 0, 0, 0, 0), some (.dup, 1, 0, 0, 0, 0), some (.getfield 18, 3, 4, 0, 0, 207), none, none, some (.iconst 1, 1, 0, 0, 0, 0), some (.iadd, 1, 0, 0, 0, 0), some (.putfield 18, 3, 4, 0, 0, 207), none, none, some (.aload_n 0, 1, 0, 0, 0, 0), some (.getfield 18, 3, 4, 0, 0, 207), none, none, some (.ireturn, 1, 0, 0, 0, 0)]
/-- X4_firstBadPlace()I -/
def am_c404 : List (Option am_En) := [some (.aload_n 0, 1, 0, 0, 0, 0), some (.iconst 0, 1, 0, 0, 0, 0), some (.putfield 22, 3, 4, 2, 0, 210), none, none, some (.iconst 0, 1, 0, 0, 0, 0), some (.istore_n 1, 1, 0, 0, 0, 0), some (.iload_n 1, 1, 0, 0, 0, 0), some (.aload_n 0, 1, 0, 0, 0, 0), some (.getfield 18, 3, 4, 0, 0, 207), none, none, some (.if_icmp .ge 24, 3, 36, 0, 0, 0), none, none, some (.aload_n 0, 1, 0, 0, 0, 0), some (.aload_n 0, 1, 0, 0, 0, 0), some (.getfield 9, 3, 4, 1, 2, 209), none, none, some (.iload_n 1, 1, 0, 0, 0, 0), some (.iaload, 1, 0, 0, 0, 0), some (.invokevirtual 29, 3, 405, 1, 0, 328), none, none, some (.ifCond .ne 5, 3, 30, 0, 0, 0), none, none, some (.iload_n 1, 1, 0, 0, 0, 0), some (.ireturn, 1, 0, 0, 0, 0), some (.iinc 1 1, 3, 0, 0, 0, 0), none, none, some (.goto (-26), 3, 7, 0, 0, 0), none, none, some (.aload_n 0, 1, 0, 0, 0, 0), some (.getfield 18, 3, 4, 0, 0, 207), none, none, some (.ifCond .le 14, 3, 54, 0, 0, 0), none, none, some (.aload_n 0, 1, 0, 0, 0, 0), some (.getfield 22, 3, 4, 2, 0, 210), none, none, some (.ifCond .ne 7, 3, 54, 0, 0, 0), none, none, some (.iconst (-1), 1, 0, 0, 0, 0), some (.goto 7, 3, 58, 0, 0, 0), none, none, some (.aload_n 0, 1, 0, 0, 0, 0), some (.getfield 18, 3, 4, 0, 0, 207), none, none, some (.ireturn, 1, 0, 0, 0, 0)]
/-- X4_goesOn(I)Z -/
def am_c405 : List (Option am_En) := [some (.aload_n 0, 1, 0, 0, 0, 0), some (.getfield 22, 3, 4, 2, 0, 210), none, none, some (.tableswitch 119 0 7 #[48, 54, 60, 67, 74, 81, 105, 111], 48, 0, 0, 0, 0), none, none, none, none, none, none, none, none, none, none, none, none, none, none, none, none, none, none, none, none, none, none, none, none, none, none, none, none, none, none, none, none, none, none, none, none, none, none, none, none, none, none, none, none, none, none, none, some (.aload_n 0, 1, 0, 0, 0, 0), some (.iload_n 1, 1, 0, 0, 0, 0), some (.invokevirtual 33, 3, 406, 1, 0, 332), none, none, some (.ireturn, 1, 1, 0, 0, 0), some (.aload_n 0, 1, 0, 0, 0, 0), some (.iload_n 1, 1, 0, 0, 0, 0), some (.invokevirtual 36, 3, 408, 1, 0, 336), none, none, some (.ireturn, 1, 1, 0, 0, 0), some (.aload_n 0, 1, 0, 0, 0, 0), some (.iload_n 1, 1, 0, 0, 0, 0), some (.iconst 3, 1, 0, 0, 0, 0), some (.invokevirtual 39, 3, 410, 2, 0, 344), none, none, some (.ireturn, 1, 1, 0, 0, 0), some (.aload_n 0, 1, 0, 0, 0, 0), some (.iload_n 1, 1, 0, 0, 0, 0), some (.iconst 4, 1, 0, 0, 0, 0), some (.invokevirtual 39, 3, 410, 2, 0, 344), none, none, some (.ireturn, 1, 1, 0, 0, 0), some (.aload_n 0, 1, 0, 0, 0, 0), some (.iload_n 1, 1, 0, 0, 0, 0), some (.iconst 5, 1, 0, 0, 0, 0), some (.invokevirtual 39, 3, 410, 2, 0, 344), none, none, some (.ireturn, 1, 1, 0, 0, 0), some (.aload_n 0, 1, 0, 0, 0, 0), some (.iload_n 1, 1, 0, 0, 0, 0), some (.bipush 6, 2, 0, 0, 0, 0), none, some (.invokevirtual 39, 3, 410, 2, 0, 344), none, none, some (.ifCond .ne 11, 3, 103, 0, 0, 0), none, none, some (.aload_n 0, 1, 0, 0, 0, 0), some (.iload_n 1, 1, 0, 0, 0, 0), some (.invokevirtual 43, 3, 409, 1, 0, 351), none, none, some (.ifCond .eq 7, 3, 107, 0, 0, 0), none, none, some (.iconst 1, 1, 0, 0, 0, 0), some (.goto 4, 3, 108, 0, 0, 0), none, none, some (.iconst 0, 1, 0, 0, 0, 0), some (.ireturn, 1, 1, 0, 0, 0), some (.aload_n 0, 1, 0, 0, 0, 0), some (.iload_n 1, 1, 0, 0, 0, 0), some (.invokevirtual 43, 3, 409, 1, 0, 351), none, none, some (.ireturn, 1, 1, 0, 0, 0), some (.aload_n 0, 1, 0, 0, 0, 0), some (.iload_n 1, 1, 0, 0, 0, 0), some (.bipush 8, 2, 0, 0, 0, 0), none, some (.invokevirtual 39, 3, 410, 2, 0, 344), none, none, some (.ireturn, 1, 1, 0, 0, 0), some (.aload_n 0, 1, 0, 0, 0, 0), some (.iload_n 1, 1, 0, 0, 0, 0), some (.invokevirtual 46, 3, 407, 1, 0, 340), none, none, some (.ireturn, 1, 1, 0, 0, 0)]
/-- X4_opens(I)Z -/
def am_c406 : List (Option am_En) := [some (.aload_n 0, 1, 0, 0, 0, 0), some (.iconst 0, 1, 0, 0, 0, 0), some (.putfield 49, 3, 4, 3, 0, 211), none, none, some (.aload_n 0, 1, 0, 0, 0, 0), some (.bipush 6, 2, 0, 0, 0, 0), none, some (.putfield 52, 3, 4, 4, 0, 212), none, none, some (.aload_n 0, 1, 0, 0, 0, 0), some (.iconst 0, 1, 0, 0, 0, 0), some (.putfield 55, 3, 4, 5, 0, 213), none, none, some (.aload_n 0, 1, 0, 0, 0, 0), some (.iconst 0, 1, 0, 0, 0, 0), some (.putfield 58, 3, 4, 6, 0, 214), none, none, some (.iload_n 1, 1, 0, 0, 0, 0), some (.lookupswitch 56 #[(100, 48), (109, 34), (112, 41)], 34, 0, 0, 0, 0), none, none, none, none, none, none, none, none, none, none, none, none, none, none, none, none, none, none, none, none, none, none, none, none, none, none, none, none, none, none, none, none, none, some (.aload_n 0, 1, 0, 0, 0, 0), some (.iconst 1, 1, 0, 0, 0, 0), some (.putfield 22, 3, 4, 2, 0, 210), none, none, some (.iconst 1, 1, 0, 0, 0, 0), some (.ireturn, 1, 1, 0, 0, 0), some (.aload_n 0, 1, 0, 0, 0, 0), some (.iconst 2, 1, 0, 0, 0, 0), some (.putfield 22, 3, 4, 2, 0, 210), none, none, some (.iconst 1, 1, 0, 0, 0, 0), some (.ireturn, 1, 1, 0, 0, 0), some (.aload_n 0, 1, 0, 0, 0, 0), some (.bipush 7, 2, 0, 0, 0, 0), none, some (.putfield 22, 3, 4, 2, 0, 210), none, none, some (.iconst 1, 1, 0, 0, 0, 0), some (.ireturn, 1, 1, 0, 0, 0), some (.iconst 0, 1, 0, 0, 0, 0), some (.ireturn, 1, 1, 0, 0, 0)]
/-- X4_closes(I)Z -/
def am_c407 : List (Option am_En) := [some (.aload_n 0, 1, 0, 0, 0, 0), some (.iconst 0, 1, 0, 0, 0, 0), some (.putfield 22, 3, 4, 2, 0, 210), none, none, some (.iload_n 1, 1, 0, 0, 0, 0), some (.bipush 59, 2, 0, 0, 0, 0), none, some (.if_icmp .ne 7, 3, 15, 0, 0, 0), none, none, some (.iconst 1, 1, 0, 0, 0, 0), some (.goto 4, 3, 16, 0, 0, 0), none, none, some (.iconst 0, 1, 0, 0, 0, 0), some (.ireturn, 1, 1, 0, 0, 0)]
/-- X4_goesOnInRows(I)Z -/
def am_c408 : List (Option am_En) := [some (.iload_n 1, 1, 0, 0, 0, 0), some (.bipush 46, 2, 0, 0, 0, 0), none, some (.if_icmp .eq 9, 3, 12, 0, 0, 0), none, none, some (.iload_n 1, 1, 0, 0, 0, 0), some (.bipush 35, 2, 0, 0, 0, 0), none, some (.if_icmp .ne 30, 3, 39, 0, 0, 0), none, none, some (.aload_n 0, 1, 0, 0, 0, 0), some (.dup, 1, 0, 0, 0, 0), some (.getfield 55, 3, 4, 5, 0, 213), none, none, some (.iconst 1, 1, 0, 0, 0, 0), some (.iadd, 1, 0, 0, 0, 0), some (.putfield 55, 3, 4, 5, 0, 213), none, none, some (.aload_n 0, 1, 0, 0, 0, 0), some (.getfield 55, 3, 4, 5, 0, 213), none, none, some (.aload_n 0, 1, 0, 0, 0, 0), some (.getfield 52, 3, 4, 4, 0, 212), none, none, some (.if_icmp .gt 7, 3, 37, 0, 0, 0), none, none, some (.iconst 1, 1, 0, 0, 0, 0), some (.goto 4, 3, 38, 0, 0, 0), none, none, some (.iconst 0, 1, 0, 0, 0, 0), some (.ireturn, 1, 1, 0, 0, 0), some (.iload_n 1, 1, 0, 0, 0, 0), some (.bipush 47, 2, 0, 0, 0, 0), none, some (.if_icmp .ne 84, 3, 126, 0, 0, 0), none, none, some (.aload_n 0, 1, 0, 0, 0, 0), some (.getfield 49, 3, 4, 3, 0, 211), none, none, some (.ifCond .ne 19, 3, 68, 0, 0, 0), none, none, some (.aload_n 0, 1, 0, 0, 0, 0), some (.getfield 55, 3, 4, 5, 0, 213), none, none, some (.iconst 2, 1, 0, 0, 0, 0), some (.if_icmp .lt 7, 3, 64, 0, 0, 0), none, none, some (.iconst 1, 1, 0, 0, 0, 0), some (.goto 23, 3, 84, 0, 0, 0), none, none, some (.iconst 0, 1, 0, 0, 0, 0), some (.goto 19, 3, 84, 0, 0, 0), none, none, some (.aload_n 0, 1, 0, 0, 0, 0), some (.getfield 55, 3, 4, 5, 0, 213), none, none, some (.aload_n 0, 1, 0, 0, 0, 0), some (.getfield 52, 3, 4, 4, 0, 212), none, none, some (.if_icmp .ne 7, 3, 83, 0, 0, 0), none, none, some (.iconst 1, 1, 0, 0, 0, 0), some (.goto 4, 3, 84, 0, 0, 0), none, none, some (.iconst 0, 1, 0, 0, 0, 0), some (.istore_n 2, 1, 0, 0, 0, 0), some (.aload_n 0, 1, 0, 0, 0, 0), some (.aload_n 0, 1, 0, 0, 0, 0), some (.getfield 55, 3, 4, 5, 0, 213), none, none, some (.putfield 52, 3, 4, 4, 0, 212), none, none, some (.aload_n 0, 1, 0, 0, 0, 0), some (.iconst 0, 1, 0, 0, 0, 0), some (.putfield 55, 3, 4, 5, 0, 213), none, none, some (.aload_n 0, 1, 0, 0, 0, 0), some (.dup, 1, 0, 0, 0, 0), some (.getfield 49, 3, 4, 3, 0, 211), none, none, some (.iconst 1, 1, 0, 0, 0, 0), some (.iadd, 1, 0, 0, 0, 0), some (.putfield 49, 3, 4, 3, 0, 211), none, none, some (.iload_n 2, 1, 0, 0, 0, 0), some (.ifCond .eq 15, 3, 124, 0, 0, 0), none, none, some (.aload_n 0, 1, 0, 0, 0, 0), some (.getfield 49, 3, 4, 3, 0, 211), none, none, some (.iconst 5, 1, 0, 0, 0, 0), some (.if_icmp .ge 7, 3, 124, 0, 0, 0), none, none, some (.iconst 1, 1, 0, 0, 0, 0), some (.goto 4, 3, 125, 0, 0, 0), none, none, some (.iconst 0, 1, 0, 0, 0, 0), some (.ireturn, 1, 1, 0, 0, 0), some (.aload_n 0, 1, 0, 0, 0, 0), some (.getfield 49, 3, 4, 3, 0, 211), none, none, some (.ifCond .le 26, 3, 156, 0, 0, 0), none, none, some (.aload_n 0, 1, 0, 0, 0, 0), some (.getfield 55, 3, 4, 5, 0, 213), none, none, some (.aload_n 0, 1, 0, 0, 0, 0), some (.getfield 52, 3, 4, 4, 0, 212), none, none, some (.if_icmp .ne 15, 3, 156, 0, 0, 0), none, none, some (.aload_n 0, 1, 0, 0, 0, 0), some (.iload_n 1, 1, 0, 0, 0, 0), some (.invokevirtual 46, 3, 407, 1, 0, 340), none, none, some (.ifCond .eq 7, 3, 156, 0, 0, 0), none, none, some (.iconst 1, 1, 0, 0, 0, 0), some (.goto 4, 3, 157, 0, 0, 0), none, none, some (.iconst 0, 1, 0, 0, 0, 0), some (.ireturn, 1, 1, 0, 0, 0)]
/-- X4_goesOnInPlan(I)Z -/
def am_c409 : List (Option am_En) := [some (.iload_n 1, 1, 0, 0, 0, 0), some (.invokestatic 61, 3, 0, 1, 5, 355), none, none, some (.ifCond .ge 9, 3, 13, 0, 0, 0), none, none, some (.aload_n 0, 1, 0, 0, 0, 0), some (.iload_n 1, 1, 0, 0, 0, 0), some (.invokevirtual 46, 3, 407, 1, 0, 340), none, none, some (.ireturn, 1, 1, 0, 0, 0), some (.aload_n 0, 1, 0, 0, 0, 0), some (.bipush 6, 2, 0, 0, 0, 0), none, some (.putfield 22, 3, 4, 2, 0, 210), none, none, some (.aload_n 0, 1, 0, 0, 0, 0), some (.dup, 1, 0, 0, 0, 0), some (.getfield 58, 3, 4, 6, 0, 214), none, none, some (.iconst 1, 1, 0, 0, 0, 0), some (.iadd, 1, 0, 0, 0, 0), some (.putfield 58, 3, 4, 6, 0, 214), none, none, some (.aload_n 0, 1, 0, 0, 0, 0), some (.getfield 58, 3, 4, 6, 0, 214), none, none, some (.bipush 6, 2, 0, 0, 0, 0), none, some (.if_icmp .gt 7, 3, 42, 0, 0, 0), none, none, some (.iconst 1, 1, 0, 0, 0, 0), some (.goto 4, 3, 43, 0, 0, 0), none, none, some (.iconst 0, 1, 0, 0, 0, 0), some (.ireturn, 1, 1, 0, 0, 0)]
/-- X4_isDigitThen(II)Z -/
def am_c410 : List (Option am_En) := [some (.iload_n 1, 1, 0, 0, 0, 0), some (.invokestatic 65, 3, 411, 1, 0, 348), none, none, some (.ifCond .ne 5, 3, 9, 0, 0, 0), none, none, some (.iconst 0, 1, 0, 0, 0, 0), some (.ireturn, 1, 1, 0, 0, 0), some (.aload_n 0, 1, 0, 0, 0, 0), some (.iload_n 2, 1, 0, 0, 0, 0), some (.putfield 22, 3, 4, 2, 0, 210), none, none, some (.iconst 1, 1, 0, 0, 0, 0), some (.ireturn, 1, 1, 0, 0, 0)]
/-- X4_isDigit(I)Z -/
def am_c411 : List (Option am_En) := [some (.iload_n 0, 1, 0, 0, 0, 0), some (.bipush 48, 2, 0, 0, 0, 0), none, some (.if_icmp .lt 13, 3, 16, 0, 0, 0), none, none, some (.iload_n 0, 1, 0, 0, 0, 0), some (.bipush 57, 2, 0, 0, 0, 0), none, some (.if_icmp .gt 7, 3, 16, 0, 0, 0), none, none, some (.iconst 1, 1, 0, 0, 0, 0), some (.goto 4, 3, 17, 0, 0, 0), none, none, some (.iconst 0, 1, 0, 0, 0, 0), some (.ireturn, 1, 1, 0, 0, 0)]
/-- X4_stepOf(I)I -/
def am_c412 : List (Option am_En) := []
/-- X4_signAt(I)I -/
def am_c413 : List (Option am_En) := [some (.iload_n 1, 1, 0, 0, 0, 0), some (.ifCond .lt 20, 3, 21, 0, 0, 0), none, none, some (.iload_n 1, 1, 0, 0, 0, 0), some (.aload_n 0, 1, 0, 0, 0, 0), some (.getfield 18, 3, 4, 0, 0, 207), none, none, some (.if_icmp .ge 12, 3, 21, 0, 0, 0), none, none, some (.aload_n 0, 1, 0, 0, 0, 0), some (.getfield 9, 3, 4, 1, 2, 209), none, none, some (.iload_n 1, 1, 0, 0, 0, 0), some (.iaload, 1, 0, 0, 0, 0), some (.goto 4, 3, 22, 0, 0, 0), none, none, some (.iconst 0, 1, 0, 0, 0, 0), some (.ireturn, 1, 0, 0, 0, 0)]
/-- X4_digitAt(I)I -/
def am_c414 : List (Option am_En) := [some (.aload_n 0, 1, 0, 0, 0, 0), some (.iload_n 1, 1, 0, 0, 0, 0), some (.invokevirtual 75, 3, 413, 1, 0, 456), none, none, some (.bipush 48, 2, 0, 0, 0, 0), none, some (.isub, 1, 0, 0, 0, 0), some (.ireturn, 1, 0, 0, 0, 0)]
/-- X4_tellTo(LSeenADayLate$World;)I -/
def am_c415 : List (Option am_En) := [some (.iconst 0, 1, 0, 0, 0, 0), some (.istore_n 2, 1, 0, 0, 0, 0), some (.iconst 0, 1, 0, 0, 0, 0), some (.istore_n 3, 1, 0, 0, 0, 0), some (.iconst 0, 1, 0, 0, 0, 0), some (.istore 4, 2, 0, 0, 0, 0), none, some (.iload 4, 2, 0, 0, 0, 0), none, some (.aload_n 0, 1, 0, 0, 0, 0), some (.getfield 18, 3, 4, 0, 0, 207), none, none, some (.if_icmp .ge 108, 3, 121, 0, 0, 0), none, none, some (.aload_n 0, 1, 0, 0, 0, 0), some (.getfield 9, 3, 4, 1, 2, 209), none, none, some (.iload 4, 2, 0, 0, 0, 0), none, some (.iaload, 1, 0, 0, 0, 0), some (.bipush 59, 2, 0, 0, 0, 0), none, some (.if_icmp .ne 90, 3, 115, 0, 0, 0), none, none, some (.iconst 1, 1, 0, 0, 0, 0), some (.istore 5, 2, 0, 0, 0, 0), none, some (.aload_n 0, 1, 0, 0, 0, 0), some (.getfield 9, 3, 4, 1, 2, 209), none, none, some (.iload_n 3, 1, 0, 0, 0, 0), some (.iaload, 1, 0, 0, 0, 0), some (.lookupswitch 51 #[(109, 27), (112, 38)], 27, 0, 0, 0, 0), none, none, none, none, none, none, none, none, none, none, none, none, none, none, none, none, none, none, none, none, none, none, none, none, none, none, some (.aload_n 0, 1, 0, 0, 0, 0), some (.aload_n 1, 1, 0, 0, 0, 0), some (.iload_n 3, 1, 0, 0, 0, 0), some (.iload 4, 2, 0, 0, 0, 0), none, some (.invokevirtual 78, 3, 416, 3, 0, 452), none, none, some (.goto 24, 3, 96, 0, 0, 0), none, none, some (.aload_n 0, 1, 0, 0, 0, 0), some (.aload_n 1, 1, 0, 0, 0, 0), some (.iload_n 3, 1, 0, 0, 0, 0), some (.iload 4, 2, 0, 0, 0, 0), none, some (.invokevirtual 82, 3, 417, 3, 0, 466), none, none, some (.istore 5, 2, 0, 0, 0, 0), none, some (.goto 11, 3, 96, 0, 0, 0), none, none, some (.aload_n 0, 1, 0, 0, 0, 0), some (.aload_n 1, 1, 0, 0, 0, 0), some (.iload_n 3, 1, 0, 0, 0, 0), some (.invokevirtual 86, 3, 418, 2, 0, 547), none, none, some (.istore 5, 2, 0, 0, 0, 0), none, some (.iload 5, 2, 0, 0, 0, 0), none, some (.ifCond .ne 9, 3, 107, 0, 0, 0), none, none, some (.sipush (-2000), 3, 0, 0, 0, 0), none, none, some (.iload_n 3, 1, 0, 0, 0, 0), some (.isub, 1, 0, 0, 0, 0), some (.ireturn, 1, 0, 0, 0, 0), some (.iinc 2 1, 3, 0, 0, 0, 0), none, none, some (.iload 4, 2, 0, 0, 0, 0), none, some (.iconst 1, 1, 0, 0, 0, 0), some (.iadd, 1, 0, 0, 0, 0), some (.istore_n 3, 1, 0, 0, 0, 0), some (.iinc 4 1, 3, 0, 0, 0, 0), none, none, some (.goto (-111), 3, 7, 0, 0, 0), none, none, some (.iload_n 2, 1, 0, 0, 0, 0), some (.ireturn, 1, 0, 0, 0, 0)]
/-- X4_tellMoor(LSeenADayLate$World;II)V -/
def am_c416 : List (Option am_En) := [some (.iconst 1, 1, 0, 0, 0, 0), some (.istore 4, 2, 0, 0, 0, 0), none, some (.iconst 0, 1, 0, 0, 0, 0), some (.istore 5, 2, 0, 0, 0, 0), none, some (.iconst 0, 1, 0, 0, 0, 0), some (.istore 6, 2, 0, 0, 0, 0), none, some (.iconst 0, 1, 0, 0, 0, 0), some (.istore 7, 2, 0, 0, 0, 0), none, some (.iload_n 2, 1, 0, 0, 0, 0), some (.iconst 1, 1, 0, 0, 0, 0), some (.iadd, 1, 0, 0, 0, 0), some (.istore 8, 2, 0, 0, 0, 0), none, some (.iload 8, 2, 0, 0, 0, 0), none, some (.iload_n 3, 1, 0, 0, 0, 0), some (.if_icmp .ge 69, 3, 89, 0, 0, 0), none, none, some (.aload_n 0, 1, 0, 0, 0, 0), some (.iload 8, 2, 0, 0, 0, 0), none, some (.invokevirtual 75, 3, 413, 1, 0, 456), none, none, some (.bipush 47, 2, 0, 0, 0, 0), none, some (.if_icmp .ne 9, 3, 40, 0, 0, 0), none, none, some (.iinc 4 1, 3, 0, 0, 0, 0), none, none, some (.goto 46, 3, 83, 0, 0, 0), none, none, some (.iload 7, 2, 0, 0, 0, 0), none, some (.aload_n 0, 1, 0, 0, 0, 0), some (.iload 8, 2, 0, 0, 0, 0), none, some (.invokevirtual 75, 3, 413, 1, 0, 456), none, none, some (.bipush 35, 2, 0, 0, 0, 0), none, some (.if_icmp .ne 10, 3, 60, 0, 0, 0), none, none, some (.iconst 1, 1, 0, 0, 0, 0), some (.iload 6, 2, 0, 0, 0, 0), none, some (.ishl, 1, 0, 0, 0, 0), some (.goto 4, 3, 61, 0, 0, 0), none, none, some (.iconst 0, 1, 0, 0, 0, 0), some (.ior, 1, 0, 0, 0, 0), some (.istore 7, 2, 0, 0, 0, 0), none, some (.iinc 6 1, 3, 0, 0, 0, 0), none, none, some (.iload 5, 2, 0, 0, 0, 0), none, some (.iload 4, 2, 0, 0, 0, 0), none, some (.iconst 1, 1, 0, 0, 0, 0), some (.if_icmp .ne 7, 3, 79, 0, 0, 0), none, none, some (.iconst 1, 1, 0, 0, 0, 0), some (.goto 4, 3, 80, 0, 0, 0), none, none, some (.iconst 0, 1, 0, 0, 0, 0), some (.iadd, 1, 0, 0, 0, 0), some (.istore 5, 2, 0, 0, 0, 0), none, some (.iinc 8 1, 3, 0, 0, 0, 0), none, none, some (.goto (-69), 3, 17, 0, 0, 0), none, none, some (.aload_n 1, 1, 0, 0, 0, 0), some (.new 90, 3, 5, 9, 0, 460), none, none, some (.dup, 1, 0, 0, 0, 0), some (.iload 4, 2, 0, 0, 0, 0), none, some (.iload 5, 2, 0, 0, 0, 0), none, some (.iload 7, 2, 0, 0, 0, 0), none, some (.invokespecial 92, 3, 500, 3, 0, 461), none, none, some (.invokevirtual 95, 3, 1002, 1, 0, 462), none, none, some (.return_, 1, 0, 0, 0, 0)]
/-- X4_tellPerson(LSeenADayLate$World;II)Z -/
def am_c417 : List (Option am_En) := [some (.aload_n 0, 1, 0, 0, 0, 0), some (.iload_n 2, 1, 0, 0, 0, 0), some (.iconst 3, 1, 0, 0, 0, 0), some (.iadd, 1, 0, 0, 0, 0), some (.invokevirtual 101, 3, 414, 1, 0, 470), none, none, some (.istore 4, 2, 0, 0, 0, 0), none, some (.iload_n 2, 1, 0, 0, 0, 0), some (.iconst 4, 1, 0, 0, 0, 0), some (.iadd, 1, 0, 0, 0, 0), some (.istore 5, 2, 0, 0, 0, 0), none, some (.aload_n 0, 1, 0, 0, 0, 0), some (.iload 5, 2, 0, 0, 0, 0), none, some (.invokevirtual 75, 3, 413, 1, 0, 456), none, none, some (.invokestatic 65, 3, 411, 1, 0, 348), none, none, some (.ifCond .eq 20, 3, 43, 0, 0, 0), none, none, some (.iload 4, 2, 0, 0, 0, 0), none, some (.bipush 10, 2, 0, 0, 0, 0), none, some (.imul, 1, 0, 0, 0, 0), some (.aload_n 0, 1, 0, 0, 0, 0), some (.iload 5, 2, 0, 0, 0, 0), none, some (.invokevirtual 101, 3, 414, 1, 0, 470), none, none, some (.iadd, 1, 0, 0, 0, 0), some (.istore 4, 2, 0, 0, 0, 0), none, some (.iinc 5 1, 3, 0, 0, 0, 0), none, none, some (.iconst 0, 1, 0, 0, 0, 0), some (.iload_n 3, 1, 0, 0, 0, 0), some (.iload 5, 2, 0, 0, 0, 0), none, some (.isub, 1, 0, 0, 0, 0), some (.invokestatic 104, 3, 0, 2, 1, 474), none, none, some (.newarray .int, 2, 0, 0, 0, 0), none, some (.astore 6, 2, 0, 0, 0, 0), none, some (.iconst 0, 1, 0, 0, 0, 0), some (.istore 7, 2, 0, 0, 0, 0), none, some (.iload 7, 2, 0, 0, 0, 0), none, some (.aload 6, 2, 0, 0, 0, 0), none, some (.arraylength, 1, 0, 0, 0, 0), some (.if_icmp .ge 26, 3, 89, 0, 0, 0), none, none, some (.aload 6, 2, 0, 0, 0, 0), none, some (.iload 7, 2, 0, 0, 0, 0), none, some (.aload_n 0, 1, 0, 0, 0, 0), some (.iload 5, 2, 0, 0, 0, 0), none, some (.iload 7, 2, 0, 0, 0, 0), none, some (.iadd, 1, 0, 0, 0, 0), some (.invokevirtual 75, 3, 413, 1, 0, 456), none, none, some (.invokestatic 61, 3, 0, 1, 5, 355), none, none, some (.iastore, 1, 0, 0, 0, 0), some (.iinc 7 1, 3, 0, 0, 0, 0), none, none, some (.goto (-28), 3, 58, 0, 0, 0), none, none, some (.aload_n 1, 1, 0, 0, 0, 0), some (.aload_n 0, 1, 0, 0, 0, 0), some (.iload_n 2, 1, 0, 0, 0, 0), some (.iconst 1, 1, 0, 0, 0, 0), some (.iadd, 1, 0, 0, 0, 0), some (.invokevirtual 101, 3, 414, 1, 0, 470), none, none, some (.aload_n 0, 1, 0, 0, 0, 0), some (.iload_n 2, 1, 0, 0, 0, 0), some (.iconst 2, 1, 0, 0, 0, 0), some (.iadd, 1, 0, 0, 0, 0), some (.invokevirtual 101, 3, 414, 1, 0, 470), none, none, some (.aload 6, 2, 0, 0, 0, 0), none, some (.invokestatic 110, 3, 901, 3, 0, 475), none, none, some (.iload 4, 2, 0, 0, 0, 0), none, some (.invokevirtual 116, 3, 1003, 2, 0, 541), none, none, some (.ireturn, 1, 1, 0, 0, 0)]
/-- X4_tellDelay(LSeenADayLate$World;I)Z -/
def am_c418 : List (Option am_En) := [some (.aload_n 0, 1, 0, 0, 0, 0), some (.iload_n 2, 1, 0, 0, 0, 0), some (.iconst 1, 1, 0, 0, 0, 0), some (.iadd, 1, 0, 0, 0, 0), some (.invokevirtual 101, 3, 414, 1, 0, 470), none, none, some (.istore_n 3, 1, 0, 0, 0, 0), some (.iload_n 3, 1, 0, 0, 0, 0), some (.ifCond .lt 8, 3, 17, 0, 0, 0), none, none, some (.iload_n 3, 1, 0, 0, 0, 0), some (.iconst 3, 1, 0, 0, 0, 0), some (.if_icmp .le 5, 3, 19, 0, 0, 0), none, none, some (.iconst 0, 1, 0, 0, 0, 0), some (.ireturn, 1, 1, 0, 0, 0), some (.aload_n 1, 1, 0, 0, 0, 0), some (.iload_n 3, 1, 0, 0, 0, 0), some (.putfield 120, 3, 10, 1, 0, 175), none, none, some (.iconst 1, 1, 0, 0, 0, 0), some (.ireturn, 1, 1, 0, 0, 0)]
/-- X5_init(III)V -/
def am_c500 : List (Option am_En) := [some (.aload_n 0, 1, 0, 0, 0, 0), some (.invokespecial 3, 3, 0, 0, 1, 99), none, none, some (.aload_n 0, 1, 0, 0, 0, 0), some (.iconst 0, 1, 0, 0, 0, 0), some (.iload_n 1, 1, 0, 0, 0, 0), some (.iconst 5, 1, 0, 0, 0, 0), some (.invokestatic 9, 3, 0, 2, 2, 100), none, none, some (.invokestatic 15, 3, 0, 2, 1, 103), none, none, some (.putfield 18, 3, 5, 0, 0, 121), none, none, some (.aload_n 0, 1, 0, 0, 0, 0), some (.iconst 0, 1, 0, 0, 0, 0), some (.iload_n 2, 1, 0, 0, 0, 0), some (.bipush 6, 2, 0, 0, 0, 0), none, some (.invokestatic 9, 3, 0, 2, 2, 100), none, none, some (.invokestatic 15, 3, 0, 2, 1, 103), none, none, some (.putfield 24, 3, 5, 1, 0, 123), none, none, some (.aload_n 0, 1, 0, 0, 0, 0), some (.aload_n 0, 1, 0, 0, 0, 0), some (.getfield 18, 3, 5, 0, 0, 121), none, none, some (.aload_n 0, 1, 0, 0, 0, 0), some (.getfield 24, 3, 5, 1, 0, 123), none, none, some (.imul, 1, 0, 0, 0, 0), some (.putfield 27, 3, 5, 2, 0, 125), none, none, some (.aload_n 0, 1, 0, 0, 0, 0), some (.iload_n 3, 1, 0, 0, 0, 0), some (.iconst (-1), 1, 0, 0, 0, 0), some (.ixor, 1, 0, 0, 0, 0), some (.iconst 1, 1, 0, 0, 0, 0), some (.aload_n 0, 1, 0, 0, 0, 0), some (.getfield 27, 3, 5, 2, 0, 125), none, none, some (.ishl, 1, 0, 0, 0, 0), some (.iconst 1, 1, 0, 0, 0, 0), some (.isub, 1, 0, 0, 0, 0), some (.iand, 1, 0, 0, 0, 0), some (.putfield 30, 3, 5, 3, 0, 129), none, none, some (.aload_n 0, 1, 0, 0, 0, 0), some (.bipush 30, 2, 0, 0, 0, 0), none, some (.newarray .int, 2, 0, 0, 0, 0), none, some (.putfield 33, 3, 5, 4, 2, 131), none, none, some (.aload_n 0, 1, 0, 0, 0, 0), some (.bipush 30, 2, 0, 0, 0, 0), none, some (.newarray .int, 2, 0, 0, 0, 0), none, some (.putfield 37, 3, 5, 5, 2, 132), none, none, some (.aload_n 0, 1, 0, 0, 0, 0), some (.sipush 150, 3, 0, 0, 0, 0), none, none, some (.newarray .int, 2, 0, 0, 0, 0), none, some (.putfield 40, 3, 5, 6, 2, 133), none, none, some (.aload_n 0, 1, 0, 0, 0, 0), some (.bipush 30, 2, 0, 0, 0, 0), none, some (.newarray .int, 2, 0, 0, 0, 0), none, some (.putfield 43, 3, 5, 7, 2, 134), none, none, some (.aload_n 0, 1, 0, 0, 0, 0), some (.bipush 30, 2, 0, 0, 0, 0), none, some (.newarray .int, 2, 0, 0, 0, 0), none, some (.putfield 46, 3, 5, 8, 2, 135), none, none, some (.aload_n 0, 1, 0, 0, 0, 0), some (.getfield 40, 3, 5, 6, 2, 133), none, none, some (.bipush (-9), 2, 0, 0, 0, 0), none, some (.invokestatic 49, 3, 1400, 2, 0, 106), none, none, some (.iconst 0, 1, 0, 0, 0, 0), some (.istore 4, 2, 0, 0, 0, 0), none, some (.iload 4, 2, 0, 0, 0, 0), none, some (.aload_n 0, 1, 0, 0, 0, 0), some (.getfield 18, 3, 5, 0, 0, 121), none, none, some (.if_icmp .ge 61, 3, 180, 0, 0, 0), none, none, some (.iconst 0, 1, 0, 0, 0, 0), some (.istore 5, 2, 0, 0, 0, 0), none, some (.iload 5, 2, 0, 0, 0, 0), none, some (.aload_n 0, 1, 0, 0, 0, 0), some (.getfield 24, 3, 5, 1, 0, 123), none, none, some (.if_icmp .ge 43, 3, 174, 0, 0, 0), none, none, some (.aload_n 0, 1, 0, 0, 0, 0), some (.getfield 33, 3, 5, 4, 2, 131), none, none, some (.iload 4, 2, 0, 0, 0, 0), none, some (.aload_n 0, 1, 0, 0, 0, 0), some (.getfield 24, 3, 5, 1, 0, 123), none, none, some (.imul, 1, 0, 0, 0, 0), some (.iload 5, 2, 0, 0, 0, 0), none, some (.iadd, 1, 0, 0, 0, 0), some (.iload 4, 2, 0, 0, 0, 0), none, some (.iastore, 1, 0, 0, 0, 0), some (.aload_n 0, 1, 0, 0, 0, 0), some (.getfield 37, 3, 5, 5, 2, 132), none, none, some (.iload 4, 2, 0, 0, 0, 0), none, some (.aload_n 0, 1, 0, 0, 0, 0), some (.getfield 24, 3, 5, 1, 0, 123), none, none, some (.imul, 1, 0, 0, 0, 0), some (.iload 5, 2, 0, 0, 0, 0), none, some (.iadd, 1, 0, 0, 0, 0), some (.iload 5, 2, 0, 0, 0, 0), none, some (.iastore, 1, 0, 0, 0, 0), some (.iinc 5 1, 3, 0, 0, 0, 0), none, none, some (.goto (-46), 3, 125, 0, 0, 0), none, none, some (.iinc 4 1, 3, 0, 0, 0, 0), none, none, some (.goto (-64), 3, 113, 0, 0, 0), none, none, some (.iconst 0, 1, 0, 0, 0, 0), some (.istore 4, 2, 0, 0, 0, 0), none, some (.iload 4, 2, 0, 0, 0, 0), none, some (.aload_n 0, 1, 0, 0, 0, 0), some (.getfield 27, 3, 5, 2, 0, 125), none, none, some (.if_icmp .ge 15, 3, 204, 0, 0, 0), none, none, some (.aload_n 0, 1, 0, 0, 0, 0), some (.iload 4, 2, 0, 0, 0, 0), none, some (.invokevirtual 55, 3, 501, 1, 0, 109), none, none, some (.iinc 4 1, 3, 0, 0, 0, 0), none, none, some (.goto (-18), 3, 183, 0, 0, 0), none, none, some (.return_, 1, 0, 0, 0, 0)]
/-- X5_layOutSteps(I)V -/
def am_c501 : List (Option am_En) := [some (.iconst 0, 1, 0, 0, 0, 0), some (.istore_n 2, 1, 0, 0, 0, 0), some (.iload_n 2, 1, 0, 0, 0, 0), some (.iconst 5, 1, 0, 0, 0, 0), some (.if_icmp .ge 55, 3, 59, 0, 0, 0), none, none, some (.aload_n 0, 1, 0, 0, 0, 0), some (.iload_n 1, 1, 0, 0, 0, 0), some (.invokevirtual 59, 3, 504, 1, 0, 113), none, none, some (.ifCond .eq 47, 3, 59, 0, 0, 0), none, none, some (.aload_n 0, 1, 0, 0, 0, 0), some (.iload_n 1, 1, 0, 0, 0, 0), some (.iload_n 2, 1, 0, 0, 0, 0), some (.invokevirtual 63, 3, 502, 2, 0, 117), none, none, some (.istore_n 3, 1, 0, 0, 0, 0), some (.aload_n 0, 1, 0, 0, 0, 0), some (.iload_n 3, 1, 0, 0, 0, 0), some (.invokevirtual 59, 3, 504, 1, 0, 113), none, none, some (.ifCond .eq 26, 3, 53, 0, 0, 0), none, none, some (.aload_n 0, 1, 0, 0, 0, 0), some (.getfield 40, 3, 5, 6, 2, 133), none, none, some (.iload_n 1, 1, 0, 0, 0, 0), some (.iconst 5, 1, 0, 0, 0, 0), some (.imul, 1, 0, 0, 0, 0), some (.iload_n 2, 1, 0, 0, 0, 0), some (.iadd, 1, 0, 0, 0, 0), some (.iload_n 3, 1, 0, 0, 0, 0), some (.iastore, 1, 0, 0, 0, 0), some (.aload_n 0, 1, 0, 0, 0, 0), some (.getfield 43, 3, 5, 7, 2, 134), none, none, some (.iload_n 1, 1, 0, 0, 0, 0), some (.dup2, 1, 0, 0, 0, 0), some (.iaload, 1, 0, 0, 0, 0), some (.iconst 1, 1, 0, 0, 0, 0), some (.iload_n 3, 1, 0, 0, 0, 0), some (.ishl, 1, 0, 0, 0, 0), some (.ior, 1, 0, 0, 0, 0), some (.iastore, 1, 0, 0, 0, 0), some (.iinc 2 1, 3, 0, 0, 0, 0), none, none, some (.goto (-54), 3, 2, 0, 0, 0), none, none, some (.return_, 1, 0, 0, 0, 0)]
/-- X5_neighbour(II)I -/
def am_c502 : List (Option am_En) := [some (.aload_n 0, 1, 0, 0, 0, 0), some (.getfield 33, 3, 5, 4, 2, 131), none, none, some (.iload_n 1, 1, 0, 0, 0, 0), some (.iaload, 1, 0, 0, 0, 0), some (.istore_n 3, 1, 0, 0, 0, 0), some (.aload_n 0, 1, 0, 0, 0, 0), some (.getfield 37, 3, 5, 5, 2, 132), none, none, some (.iload_n 1, 1, 0, 0, 0, 0), some (.iaload, 1, 0, 0, 0, 0), some (.istore 4, 2, 0, 0, 0, 0), none, some (.iload_n 2, 1, 0, 0, 0, 0), some (.tableswitch 104 0 3 #[32, 48, 68, 90], 32, 0, 0, 0, 0), none, none, none, none, none, none, none, none, none, none, none, none, none, none, none, none, none, none, none, none, none, none, none, none, none, none, none, none, none, none, none, some (.iload_n 3, 1, 0, 0, 0, 0), some (.ifCond .le 12, 3, 61, 0, 0, 0), none, none, some (.iload_n 1, 1, 0, 0, 0, 0), some (.aload_n 0, 1, 0, 0, 0, 0), some (.getfield 24, 3, 5, 1, 0, 123), none, none, some (.isub, 1, 0, 0, 0, 0), some (.goto 5, 3, 63, 0, 0, 0), none, none, some (.bipush (-9), 2, 0, 0, 0, 0), none, some (.ireturn, 1, 0, 0, 0, 0), some (.iload 4, 2, 0, 0, 0, 0), none, some (.aload_n 0, 1, 0, 0, 0, 0), some (.getfield 24, 3, 5, 1, 0, 123), none, none, some (.iconst 1, 1, 0, 0, 0, 0), some (.isub, 1, 0, 0, 0, 0), some (.if_icmp .ge 9, 3, 81, 0, 0, 0), none, none, some (.iload_n 1, 1, 0, 0, 0, 0), some (.iconst 1, 1, 0, 0, 0, 0), some (.iadd, 1, 0, 0, 0, 0), some (.goto 5, 3, 83, 0, 0, 0), none, none, some (.bipush (-9), 2, 0, 0, 0, 0), none, some (.ireturn, 1, 0, 0, 0, 0), some (.iload_n 3, 1, 0, 0, 0, 0), some (.aload_n 0, 1, 0, 0, 0, 0), some (.getfield 18, 3, 5, 0, 0, 121), none, none, some (.iconst 1, 1, 0, 0, 0, 0), some (.isub, 1, 0, 0, 0, 0), some (.if_icmp .ge 12, 3, 103, 0, 0, 0), none, none, some (.iload_n 1, 1, 0, 0, 0, 0), some (.aload_n 0, 1, 0, 0, 0, 0), some (.getfield 24, 3, 5, 1, 0, 123), none, none, some (.iadd, 1, 0, 0, 0, 0), some (.goto 5, 3, 105, 0, 0, 0), none, none, some (.bipush (-9), 2, 0, 0, 0, 0), none, some (.ireturn, 1, 0, 0, 0, 0), some (.iload 4, 2, 0, 0, 0, 0), none, some (.ifCond .le 9, 3, 117, 0, 0, 0), none, none, some (.iload_n 1, 1, 0, 0, 0, 0), some (.iconst 1, 1, 0, 0, 0, 0), some (.isub, 1, 0, 0, 0, 0), some (.goto 5, 3, 119, 0, 0, 0), none, none, some (.bipush (-9), 2, 0, 0, 0, 0), none, some (.ireturn, 1, 0, 0, 0, 0), some (.iload_n 1, 1, 0, 0, 0, 0), some (.ireturn, 1, 0, 0, 0, 0)]
/-- X5_isCell(I)Z -/
def am_c503 : List (Option am_En) := [some (.iload_n 1, 1, 0, 0, 0, 0), some (.ifCond .lt 15, 3, 16, 0, 0, 0), none, none, some (.iload_n 1, 1, 0, 0, 0, 0), some (.aload_n 0, 1, 0, 0, 0, 0), some (.getfield 27, 3, 5, 2, 0, 125), none, none, some (.if_icmp .ge 7, 3, 16, 0, 0, 0), none, none, some (.iconst 1, 1, 0, 0, 0, 0), some (.goto 4, 3, 17, 0, 0, 0), none, none, some (.iconst 0, 1, 0, 0, 0, 0), some (.ireturn, 1, 1, 0, 0, 0)]
/-- X5_isFree(I)Z -/
def am_c504 : List (Option am_En) := [some (.iload_n 1, 1, 0, 0, 0, 0), some (.ifCond .lt 27, 3, 28, 0, 0, 0), none, none, some (.iload_n 1, 1, 0, 0, 0, 0), some (.aload_n 0, 1, 0, 0, 0, 0), some (.getfield 27, 3, 5, 2, 0, 125), none, none, some (.if_icmp .ge 19, 3, 28, 0, 0, 0), none, none, some (.aload_n 0, 1, 0, 0, 0, 0), some (.getfield 30, 3, 5, 3, 0, 129), none, none, some (.iload_n 1, 1, 0, 0, 0, 0), some (.iushr, 1, 0, 0, 0, 0), some (.iconst 1, 1, 0, 0, 0, 0), some (.iand, 1, 0, 0, 0, 0), some (.iconst 1, 1, 0, 0, 0, 0), some (.if_icmp .ne 7, 3, 28, 0, 0, 0), none, none, some (.iconst 1, 1, 0, 0, 0, 0), some (.goto 4, 3, 29, 0, 0, 0), none, none, some (.iconst 0, 1, 0, 0, 0, 0), some (.ireturn, 1, 1, 0, 0, 0)]
/-- X5_hillCount()I -/
def am_c505 : List (Option am_En) := [some (.aload_n 0, 1, 0, 0, 0, 0), some (.getfield 27, 3, 5, 2, 0, 125), none, none, some (.aload_n 0, 1, 0, 0, 0, 0), some (.getfield 30, 3, 5, 3, 0, 129), none, none, some (.invokestatic 66, 3, 1300, 1, 0, 911), none, none, some (.isub, 1, 0, 0, 0, 0), some (.ireturn, 1, 0, 0, 0, 0)]
/-- X5_leadsTo(II)I -/
def am_c506 : List (Option am_En) := [some (.aload_n 0, 1, 0, 0, 0, 0), some (.iload_n 1, 1, 0, 0, 0, 0), some (.invokevirtual 72, 3, 503, 1, 0, 616), none, none, some (.ifCond .eq 12, 3, 17, 0, 0, 0), none, none, some (.iload_n 2, 1, 0, 0, 0, 0), some (.ifCond .lt 8, 3, 17, 0, 0, 0), none, none, some (.iload_n 2, 1, 0, 0, 0, 0), some (.iconst 5, 1, 0, 0, 0, 0), some (.if_icmp .lt 6, 3, 20, 0, 0, 0), none, none, some (.bipush (-9), 2, 0, 0, 0, 0), none, some (.ireturn, 1, 0, 0, 0, 0), some (.aload_n 0, 1, 0, 0, 0, 0), some (.getfield 40, 3, 5, 6, 2, 133), none, none, some (.iload_n 1, 1, 0, 0, 0, 0), some (.iconst 5, 1, 0, 0, 0, 0), some (.imul, 1, 0, 0, 0, 0), some (.iload_n 2, 1, 0, 0, 0, 0), some (.iadd, 1, 0, 0, 0, 0), some (.iaload, 1, 0, 0, 0, 0), some (.ireturn, 1, 0, 0, 0, 0)]
/-- X5_stepsAround(I)I -/
def am_c507 : List (Option am_En) := [some (.aload_n 0, 1, 0, 0, 0, 0), some (.iload_n 1, 1, 0, 0, 0, 0), some (.invokevirtual 72, 3, 503, 1, 0, 616), none, none, some (.ifCond .eq 12, 3, 17, 0, 0, 0), none, none, some (.aload_n 0, 1, 0, 0, 0, 0), some (.getfield 43, 3, 5, 7, 2, 134), none, none, some (.iload_n 1, 1, 0, 0, 0, 0), some (.iaload, 1, 0, 0, 0, 0), some (.goto 4, 3, 18, 0, 0, 0), none, none, some (.iconst 0, 1, 0, 0, 0, 0), some (.ireturn, 1, 0, 0, 0, 0)]
/-- X5_distance(II)I -/
def am_c508 : List (Option am_En) := [some (.aload_n 0, 1, 0, 0, 0, 0), some (.iload_n 1, 1, 0, 0, 0, 0), some (.invokevirtual 72, 3, 503, 1, 0, 616), none, none, some (.ifCond .eq 11, 3, 16, 0, 0, 0), none, none, some (.aload_n 0, 1, 0, 0, 0, 0), some (.iload_n 2, 1, 0, 0, 0, 0), some (.invokevirtual 72, 3, 503, 1, 0, 616), none, none, some (.ifCond .ne 5, 3, 18, 0, 0, 0), none, none, some (.iconst 0, 1, 0, 0, 0, 0), some (.ireturn, 1, 0, 0, 0, 0), some (.aload_n 0, 1, 0, 0, 0, 0), some (.getfield 33, 3, 5, 4, 2, 131), none, none, some (.iload_n 1, 1, 0, 0, 0, 0), some (.iaload, 1, 0, 0, 0, 0), some (.aload_n 0, 1, 0, 0, 0, 0), some (.getfield 33, 3, 5, 4, 2, 131), none, none, some (.iload_n 2, 1, 0, 0, 0, 0), some (.iaload, 1, 0, 0, 0, 0), some (.isub, 1, 0, 0, 0, 0), some (.invokestatic 75, 3, 0, 1, 3, 648), none, none, some (.aload_n 0, 1, 0, 0, 0, 0), some (.getfield 37, 3, 5, 5, 2, 132), none, none, some (.iload_n 1, 1, 0, 0, 0, 0), some (.iaload, 1, 0, 0, 0, 0), some (.aload_n 0, 1, 0, 0, 0, 0), some (.getfield 37, 3, 5, 5, 2, 132), none, none, some (.iload_n 2, 1, 0, 0, 0, 0), some (.iaload, 1, 0, 0, 0, 0), some (.isub, 1, 0, 0, 0, 0), some (.invokestatic 75, 3, 0, 1, 3, 648), none, none, some (.iadd, 1, 0, 0, 0, 0), some (.ireturn, 1, 0, 0, 0, 0)]
/-- X5_goingOn(III)I -/
def am_c509 : List (Option am_En) := [some (.aload_n 0, 1, 0, 0, 0, 0), some (.iload_n 1, 1, 0, 0, 0, 0), some (.invokevirtual 72, 3, 503, 1, 0, 616), none, none, some (.ifCond .eq 11, 3, 16, 0, 0, 0), none, none, some (.aload_n 0, 1, 0, 0, 0, 0), some (.iload_n 2, 1, 0, 0, 0, 0), some (.invokevirtual 72, 3, 503, 1, 0, 616), none, none, some (.ifCond .ne 5, 3, 18, 0, 0, 0), none, none, some (.iload_n 2, 1, 0, 0, 0, 0), some (.ireturn, 1, 0, 0, 0, 0), some (.aload_n 0, 1, 0, 0, 0, 0), some (.getfield 33, 3, 5, 4, 2, 131), none, none, some (.iload_n 2, 1, 0, 0, 0, 0), some (.iaload, 1, 0, 0, 0, 0), some (.iload_n 3, 1, 0, 0, 0, 0), some (.aload_n 0, 1, 0, 0, 0, 0), some (.getfield 33, 3, 5, 4, 2, 131), none, none, some (.iload_n 2, 1, 0, 0, 0, 0), some (.iaload, 1, 0, 0, 0, 0), some (.aload_n 0, 1, 0, 0, 0, 0), some (.getfield 33, 3, 5, 4, 2, 131), none, none, some (.iload_n 1, 1, 0, 0, 0, 0), some (.iaload, 1, 0, 0, 0, 0), some (.isub, 1, 0, 0, 0, 0), some (.imul, 1, 0, 0, 0, 0), some (.iadd, 1, 0, 0, 0, 0), some (.istore 4, 2, 0, 0, 0, 0), none, some (.aload_n 0, 1, 0, 0, 0, 0), some (.getfield 37, 3, 5, 5, 2, 132), none, none, some (.iload_n 2, 1, 0, 0, 0, 0), some (.iaload, 1, 0, 0, 0, 0), some (.iload_n 3, 1, 0, 0, 0, 0), some (.aload_n 0, 1, 0, 0, 0, 0), some (.getfield 37, 3, 5, 5, 2, 132), none, none, some (.iload_n 2, 1, 0, 0, 0, 0), some (.iaload, 1, 0, 0, 0, 0), some (.aload_n 0, 1, 0, 0, 0, 0), some (.getfield 37, 3, 5, 5, 2, 132), none, none, some (.iload_n 1, 1, 0, 0, 0, 0), some (.iaload, 1, 0, 0, 0, 0), some (.isub, 1, 0, 0, 0, 0), some (.imul, 1, 0, 0, 0, 0), some (.iadd, 1, 0, 0, 0, 0), some (.istore 5, 2, 0, 0, 0, 0), none, some (.iconst 0, 1, 0, 0, 0, 0), some (.iload 4, 2, 0, 0, 0, 0), none, some (.aload_n 0, 1, 0, 0, 0, 0), some (.getfield 18, 3, 5, 0, 0, 121), none, none, some (.iconst 1, 1, 0, 0, 0, 0), some (.isub, 1, 0, 0, 0, 0), some (.invokestatic 9, 3, 0, 2, 2, 100), none, none, some (.invokestatic 15, 3, 0, 2, 1, 103), none, none, some (.istore 4, 2, 0, 0, 0, 0), none, some (.iconst 0, 1, 0, 0, 0, 0), some (.iload 5, 2, 0, 0, 0, 0), none, some (.aload_n 0, 1, 0, 0, 0, 0), some (.getfield 24, 3, 5, 1, 0, 123), none, none, some (.iconst 1, 1, 0, 0, 0, 0), some (.isub, 1, 0, 0, 0, 0), some (.invokestatic 9, 3, 0, 2, 2, 100), none, none, some (.invokestatic 15, 3, 0, 2, 1, 103), none, none, some (.istore 5, 2, 0, 0, 0, 0), none, some (.iload 4, 2, 0, 0, 0, 0), none, some (.aload_n 0, 1, 0, 0, 0, 0), some (.getfield 24, 3, 5, 1, 0, 123), none, none, some (.imul, 1, 0, 0, 0, 0), some (.iload 5, 2, 0, 0, 0, 0), none, some (.iadd, 1, 0, 0, 0, 0), some (.ireturn, 1, 0, 0, 0, 0)]
/-- X5_spread(II)I -/
def am_c510 : List (Option am_En) := [some (.aload_n 0, 1, 0, 0, 0, 0), some (.iload_n 1, 1, 0, 0, 0, 0), some (.invokevirtual 59, 3, 504, 1, 0, 113), none, none, some (.ifCond .eq 9, 3, 14, 0, 0, 0), none, none, some (.iconst 1, 1, 0, 0, 0, 0), some (.iload_n 1, 1, 0, 0, 0, 0), some (.ishl, 1, 0, 0, 0, 0), some (.goto 4, 3, 15, 0, 0, 0), none, none, some (.iconst 0, 1, 0, 0, 0, 0), some (.istore_n 3, 1, 0, 0, 0, 0), some (.iconst 0, 1, 0, 0, 0, 0), some (.istore 4, 2, 0, 0, 0, 0), none, some (.iload 4, 2, 0, 0, 0, 0), none, some (.iload_n 2, 1, 0, 0, 0, 0), some (.if_icmp .ge 63, 3, 85, 0, 0, 0), none, none, some (.iload_n 3, 1, 0, 0, 0, 0), some (.istore 5, 2, 0, 0, 0, 0), none, some (.iconst 0, 1, 0, 0, 0, 0), some (.istore 6, 2, 0, 0, 0, 0), none, some (.iload 6, 2, 0, 0, 0, 0), none, some (.aload_n 0, 1, 0, 0, 0, 0), some (.getfield 27, 3, 5, 2, 0, 125), none, none, some (.if_icmp .ge 31, 3, 68, 0, 0, 0), none, none, some (.iload_n 3, 1, 0, 0, 0, 0), some (.iload 6, 2, 0, 0, 0, 0), none, some (.iushr, 1, 0, 0, 0, 0), some (.iconst 1, 1, 0, 0, 0, 0), some (.iand, 1, 0, 0, 0, 0), some (.iconst 1, 1, 0, 0, 0, 0), some (.if_icmp .ne 15, 3, 62, 0, 0, 0), none, none, some (.iload 5, 2, 0, 0, 0, 0), none, some (.aload_n 0, 1, 0, 0, 0, 0), some (.getfield 43, 3, 5, 7, 2, 134), none, none, some (.iload 6, 2, 0, 0, 0, 0), none, some (.iaload, 1, 0, 0, 0, 0), some (.ior, 1, 0, 0, 0, 0), some (.istore 5, 2, 0, 0, 0, 0), none, some (.iinc 6 1, 3, 0, 0, 0, 0), none, none, some (.goto (-34), 3, 31, 0, 0, 0), none, none, some (.iload 5, 2, 0, 0, 0, 0), none, some (.iload_n 3, 1, 0, 0, 0, 0), some (.if_icmp .ne 5, 3, 76, 0, 0, 0), none, none, some (.iload_n 3, 1, 0, 0, 0, 0), some (.ireturn, 1, 0, 0, 0, 0), some (.iload 5, 2, 0, 0, 0, 0), none, some (.istore_n 3, 1, 0, 0, 0, 0), some (.iinc 4 1, 3, 0, 0, 0, 0), none, none, some (.goto (-63), 3, 19, 0, 0, 0), none, none, some (.iload_n 3, 1, 0, 0, 0, 0), some (.ireturn, 1, 0, 0, 0, 0)]
/-- X5_drawnStep(II)I -/
def am_c511 : List (Option am_En) := [some (.aload_n 0, 1, 0, 0, 0, 0), some (.iload_n 1, 1, 0, 0, 0, 0), some (.invokevirtual 78, 3, 507, 1, 0, 910), none, none, some (.invokestatic 66, 3, 1300, 1, 0, 911), none, none, some (.istore_n 3, 1, 0, 0, 0, 0), some (.iload_n 3, 1, 0, 0, 0, 0), some (.ifCond .eq 7, 3, 17, 0, 0, 0), none, none, some (.iload_n 2, 1, 0, 0, 0, 0), some (.ifCond .ge 5, 3, 19, 0, 0, 0), none, none, some (.iload_n 1, 1, 0, 0, 0, 0), some (.ireturn, 1, 0, 0, 0, 0), some (.iload_n 2, 1, 0, 0, 0, 0), some (.iload_n 3, 1, 0, 0, 0, 0), some (.irem, 1, 0, 0, 0, 0), some (.istore 4, 2, 0, 0, 0, 0), none, some (.iconst 0, 1, 0, 0, 0, 0), some (.istore 5, 2, 0, 0, 0, 0), none, some (.iload 5, 2, 0, 0, 0, 0), none, some (.iconst 5, 1, 0, 0, 0, 0), some (.if_icmp .ge 43, 3, 73, 0, 0, 0), none, none, some (.aload_n 0, 1, 0, 0, 0, 0), some (.iload_n 1, 1, 0, 0, 0, 0), some (.iload 5, 2, 0, 0, 0, 0), none, some (.invokevirtual 81, 3, 506, 2, 0, 878), none, none, some (.istore 6, 2, 0, 0, 0, 0), none, some (.iload 6, 2, 0, 0, 0, 0), none, some (.bipush (-9), 2, 0, 0, 0, 0), none, some (.if_icmp .eq 11, 3, 57, 0, 0, 0), none, none, some (.iload 4, 2, 0, 0, 0, 0), none, some (.ifCond .ne 6, 3, 57, 0, 0, 0), none, none, some (.iload 6, 2, 0, 0, 0, 0), none, some (.ireturn, 1, 0, 0, 0, 0), some (.iload 6, 2, 0, 0, 0, 0), none, some (.bipush (-9), 2, 0, 0, 0, 0), none, some (.if_icmp .eq 6, 3, 67, 0, 0, 0), none, none, some (.iinc 4 (-1), 3, 0, 0, 0, 0), none, none, some (.iinc 5 1, 3, 0, 0, 0, 0), none, none, some (.goto (-43), 3, 27, 0, 0, 0), none, none, some (.iload_n 1, 1, 0, 0, 0, 0), some (.ireturn, 1, 0, 0, 0, 0)]
/-- X5_fewestWatchers(I)I -/
def am_c512 : List (Option am_En) := [some (.aload_n 0, 1, 0, 0, 0, 0), some (.getfield 30, 3, 5, 3, 0, 129), none, none, some (.ifCond .ne 6, 3, 10, 0, 0, 0), none, none, some (.bipush (-9), 2, 0, 0, 0, 0), none, some (.ireturn, 1, 0, 0, 0, 0), some (.iconst 0, 1, 0, 0, 0, 0), some (.istore_n 2, 1, 0, 0, 0, 0), some (.iload_n 2, 1, 0, 0, 0, 0), some (.aload_n 0, 1, 0, 0, 0, 0), some (.getfield 27, 3, 5, 2, 0, 125), none, none, some (.if_icmp .ge 33, 3, 50, 0, 0, 0), none, none, some (.aload_n 0, 1, 0, 0, 0, 0), some (.getfield 46, 3, 5, 8, 2, 135), none, none, some (.iload_n 2, 1, 0, 0, 0, 0), some (.aload_n 0, 1, 0, 0, 0, 0), some (.iload_n 2, 1, 0, 0, 0, 0), some (.invokevirtual 59, 3, 504, 1, 0, 113), none, none, some (.ifCond .eq 12, 3, 42, 0, 0, 0), none, none, some (.aload_n 0, 1, 0, 0, 0, 0), some (.iload_n 2, 1, 0, 0, 0, 0), some (.iload_n 1, 1, 0, 0, 0, 0), some (.invokevirtual 84, 3, 513, 2, 0, 874), none, none, some (.goto 4, 3, 43, 0, 0, 0), none, none, some (.iconst 0, 1, 0, 0, 0, 0), some (.iastore, 1, 0, 0, 0, 0), some (.iinc 2 1, 3, 0, 0, 0, 0), none, none, some (.goto (-35), 3, 12, 0, 0, 0), none, none, some (.iconst 1, 1, 0, 0, 0, 0), some (.istore_n 2, 1, 0, 0, 0, 0), some (.iload_n 2, 1, 0, 0, 0, 0), some (.iconst 4, 1, 0, 0, 0, 0), some (.if_icmp .gt 28, 3, 82, 0, 0, 0), none, none, some (.aload_n 0, 1, 0, 0, 0, 0), some (.aload_n 0, 1, 0, 0, 0, 0), some (.getfield 30, 3, 5, 3, 0, 129), none, none, some (.iconst 0, 1, 0, 0, 0, 0), some (.iload_n 2, 1, 0, 0, 0, 0), some (.invokestatic 87, 3, 514, 4, 0, 879), none, none, some (.istore_n 3, 1, 0, 0, 0, 0), some (.iload_n 3, 1, 0, 0, 0, 0), some (.bipush (-9), 2, 0, 0, 0, 0), none, some (.if_icmp .eq 5, 3, 76, 0, 0, 0), none, none, some (.iload_n 3, 1, 0, 0, 0, 0), some (.ireturn, 1, 0, 0, 0, 0), some (.iinc 2 1, 3, 0, 0, 0, 0), none, none, some (.goto (-27), 3, 52, 0, 0, 0), none, none, some (.bipush (-9), 2, 0, 0, 0, 0), none, some (.ireturn, 1, 0, 0, 0, 0)]
/-- X5_lookedAt(II)I -/
def am_c513 : List (Option am_En) := [some (.iconst 1, 1, 0, 0, 0, 0), some (.iload_n 1, 1, 0, 0, 0, 0), some (.ishl, 1, 0, 0, 0, 0), some (.istore_n 3, 1, 0, 0, 0, 0), some (.iconst 0, 1, 0, 0, 0, 0), some (.istore 4, 2, 0, 0, 0, 0), none, some (.iload 4, 2, 0, 0, 0, 0), none, some (.iconst 4, 1, 0, 0, 0, 0), some (.if_icmp .ge 58, 3, 68, 0, 0, 0), none, none, some (.iload_n 1, 1, 0, 0, 0, 0), some (.istore 5, 2, 0, 0, 0, 0), none, some (.iconst 0, 1, 0, 0, 0, 0), some (.istore 6, 2, 0, 0, 0, 0), none, some (.iload 6, 2, 0, 0, 0, 0), none, some (.iload_n 2, 1, 0, 0, 0, 0), some (.if_icmp .ge 40, 3, 62, 0, 0, 0), none, none, some (.iload 5, 2, 0, 0, 0, 0), none, some (.bipush (-9), 2, 0, 0, 0, 0), none, some (.if_icmp .eq 33, 3, 62, 0, 0, 0), none, none, some (.aload_n 0, 1, 0, 0, 0, 0), some (.iload 5, 2, 0, 0, 0, 0), none, some (.iload 4, 2, 0, 0, 0, 0), none, some (.invokevirtual 81, 3, 506, 2, 0, 878), none, none, some (.istore 5, 2, 0, 0, 0, 0), none, some (.iload 5, 2, 0, 0, 0, 0), none, some (.bipush (-9), 2, 0, 0, 0, 0), none, some (.if_icmp .eq 10, 3, 56, 0, 0, 0), none, none, some (.iload_n 3, 1, 0, 0, 0, 0), some (.iconst 1, 1, 0, 0, 0, 0), some (.iload 5, 2, 0, 0, 0, 0), none, some (.ishl, 1, 0, 0, 0, 0), some (.ior, 1, 0, 0, 0, 0), some (.istore_n 3, 1, 0, 0, 0, 0), some (.iinc 6 1, 3, 0, 0, 0, 0), none, none, some (.goto (-40), 3, 19, 0, 0, 0), none, none, some (.iinc 4 1, 3, 0, 0, 0, 0), none, none, some (.goto (-58), 3, 7, 0, 0, 0), none, none, some (.iload_n 3, 1, 0, 0, 0, 0), some (.ireturn, 1, 0, 0, 0, 0)]
/-- X5_watchersFor(LSeenADayLate$Moor;III)I -/
def am_c514 : List (Option am_En) := [some (.iload_n 3, 1, 0, 0, 0, 0), some (.iconst 1, 1, 0, 0, 0, 0), some (.if_icmp .gt 10, 3, 12, 0, 0, 0), none, none, some (.aload_n 0, 1, 0, 0, 0, 0), some (.iload_n 1, 1, 0, 0, 0, 0), some (.iload_n 2, 1, 0, 0, 0, 0), some (.invokevirtual 91, 3, 515, 2, 0, 882), none, none, some (.ireturn, 1, 0, 0, 0, 0), some (.iload_n 2, 1, 0, 0, 0, 0), some (.istore 4, 2, 0, 0, 0, 0), none, some (.iload 4, 2, 0, 0, 0, 0), none, some (.aload_n 0, 1, 0, 0, 0, 0), some (.getfield 27, 3, 5, 2, 0, 125), none, none, some (.if_icmp .ge 57, 3, 78, 0, 0, 0), none, none, some (.aload_n 0, 1, 0, 0, 0, 0), some (.iload 4, 2, 0, 0, 0, 0), none, some (.invokevirtual 59, 3, 504, 1, 0, 113), none, none, some (.ifCond .eq 42, 3, 72, 0, 0, 0), none, none, some (.aload_n 0, 1, 0, 0, 0, 0), some (.iload_n 1, 1, 0, 0, 0, 0), some (.aload_n 0, 1, 0, 0, 0, 0), some (.getfield 46, 3, 5, 8, 2, 135), none, none, some (.iload 4, 2, 0, 0, 0, 0), none, some (.iaload, 1, 0, 0, 0, 0), some (.iconst (-1), 1, 0, 0, 0, 0), some (.ixor, 1, 0, 0, 0, 0), some (.iand, 1, 0, 0, 0, 0), some (.iload 4, 2, 0, 0, 0, 0), none, some (.iconst 1, 1, 0, 0, 0, 0), some (.iadd, 1, 0, 0, 0, 0), some (.iload_n 3, 1, 0, 0, 0, 0), some (.iconst 1, 1, 0, 0, 0, 0), some (.isub, 1, 0, 0, 0, 0), some (.invokestatic 87, 3, 514, 4, 0, 879), none, none, some (.istore 5, 2, 0, 0, 0, 0), none, some (.iload 5, 2, 0, 0, 0, 0), none, some (.bipush (-9), 2, 0, 0, 0, 0), none, some (.if_icmp .eq 11, 3, 72, 0, 0, 0), none, none, some (.iload 5, 2, 0, 0, 0, 0), none, some (.iconst 1, 1, 0, 0, 0, 0), some (.iload 4, 2, 0, 0, 0, 0), none, some (.ishl, 1, 0, 0, 0, 0), some (.ior, 1, 0, 0, 0, 0), some (.ireturn, 1, 0, 0, 0, 0), some (.iinc 4 1, 3, 0, 0, 0, 0), none, none, some (.goto (-60), 3, 15, 0, 0, 0), none, none, some (.bipush (-9), 2, 0, 0, 0, 0), none, some (.ireturn, 1, 0, 0, 0, 0)]
/-- X5_lastWatcher(II)I -/
def am_c515 : List (Option am_En) := [some (.iload_n 2, 1, 0, 0, 0, 0), some (.istore_n 3, 1, 0, 0, 0, 0), some (.iload_n 3, 1, 0, 0, 0, 0), some (.aload_n 0, 1, 0, 0, 0, 0), some (.getfield 27, 3, 5, 2, 0, 125), none, none, some (.if_icmp .ge 26, 3, 33, 0, 0, 0), none, none, some (.iload_n 1, 1, 0, 0, 0, 0), some (.aload_n 0, 1, 0, 0, 0, 0), some (.getfield 46, 3, 5, 8, 2, 135), none, none, some (.iload_n 3, 1, 0, 0, 0, 0), some (.iaload, 1, 0, 0, 0, 0), some (.iconst (-1), 1, 0, 0, 0, 0), some (.ixor, 1, 0, 0, 0, 0), some (.iand, 1, 0, 0, 0, 0), some (.ifCond .ne 7, 3, 27, 0, 0, 0), none, none, some (.iconst 1, 1, 0, 0, 0, 0), some (.iload_n 3, 1, 0, 0, 0, 0), some (.ishl, 1, 0, 0, 0, 0), some (.ireturn, 1, 0, 0, 0, 0), some (.iinc 3 1, 3, 0, 0, 0, 0), none, none, some (.goto (-28), 3, 2, 0, 0, 0), none, none, some (.bipush (-9), 2, 0, 0, 0, 0), none, some (.ireturn, 1, 0, 0, 0, 0)]
/-- X6_init(I[I)V -/
def am_c600 : List (Option am_En) := [some (.aload_n 0, 1, 0, 0, 0, 0), some (.iload_n 1, 1, 0, 0, 0, 0), some (.aload_n 2, 1, 0, 0, 0, 0), some (.invokespecial 1, 3, 300, 2, 0, 537), none, none, some (.return_, 1, 0, 0, 0, 0)]
/-- X6_kind()I -/
def am_c601 : List (Option am_En) := [some (.iconst 5, 1, 0, 0, 0, 0), some (.ireturn, 1, 0, 0, 0, 0)]
/-- X6_aim(LSeenADayLate$World;II)I -/
def am_c602 : List (Option am_En) := [some (.aload_n 1, 1, 0, 0, 0, 0), some (.getfield 7, 3, 10, 0, 2, 167), none, none, some (.aload_n 1, 1, 0, 0, 0, 0), some (.iload_n 2, 1, 0, 0, 0, 0), some (.iload_n 3, 1, 0, 0, 0, 0), some (.iconst 1, 1, 0, 0, 0, 0), some (.isub, 1, 0, 0, 0, 0), some (.invokevirtual 13, 3, 1007, 2, 0, 634), none, none, some (.aload_n 1, 1, 0, 0, 0, 0), some (.iload_n 2, 1, 0, 0, 0, 0), some (.iload_n 3, 1, 0, 0, 0, 0), some (.invokevirtual 13, 3, 1007, 2, 0, 634), none, none, some (.aload_n 1, 1, 0, 0, 0, 0), some (.getfield 17, 3, 10, 1, 0, 173), none, none, some (.invokevirtual 21, 3, 509, 3, 0, 635), none, none, some (.ireturn, 1, 0, 0, 0, 0)]
/-- X7_init()V -/
def am_c700 : List (Option am_En) := [some (.aload_n 0, 1, 0, 0, 0, 0), some (.invokespecial 3, 3, 0, 0, 1, 235), none, none, some (.aload_n 0, 1, 0, 0, 0, 0), some (.iconst 0, 1, 0, 0, 0, 0), some (.putfield 9, 3, 7, 0, 0, 236), none, none, some (.aload_n 0, 1, 0, 0, 0, 0), some (.bipush 6, 2, 0, 0, 0, 0), none, some (.newarray .int, 2, 0, 0, 0, 0), none, some (.putfield 15, 3, 7, 1, 2, 238), none, none, some (.aload_n 0, 1, 0, 0, 0, 0), some (.bipush 6, 2, 0, 0, 0, 0), none, some (.newarray .int, 2, 0, 0, 0, 0), none, some (.putfield 19, 3, 7, 2, 2, 239), none, none, some (.aload_n 0, 1, 0, 0, 0, 0), some (.bipush 30, 2, 0, 0, 0, 0), none, some (.newarray .int, 2, 0, 0, 0, 0), none, some (.putfield 22, 3, 7, 3, 2, 240), none, none, some (.aload_n 0, 1, 0, 0, 0, 0), some (.bipush 30, 2, 0, 0, 0, 0), none, some (.newarray .int, 2, 0, 0, 0, 0), none, some (.putfield 25, 3, 7, 4, 2, 241), none, none, some (.aload_n 0, 1, 0, 0, 0, 0), some (.bipush 30, 2, 0, 0, 0, 0), none, some (.newarray .int, 2, 0, 0, 0, 0), none, some (.putfield 28, 3, 7, 5, 2, 242), none, none, some (.return_, 1, 0, 0, 0, 0)]
/-- X7_isFull()Z -/
def am_c701 : List (Option am_En) := [some (.aload_n 0, 1, 0, 0, 0, 0), some (.getfield 9, 3, 7, 0, 0, 236), none, none, some (.bipush 6, 2, 0, 0, 0, 0), none, some (.if_icmp .lt 7, 3, 13, 0, 0, 0), none, none, some (.iconst 1, 1, 0, 0, 0, 0), some (.goto 4, 3, 14, 0, 0, 0), none, none, some (.iconst 0, 1, 0, 0, 0, 0), some (.ireturn, 1, 1, 0, 0, 0)]
/-- X7_add(II)I -/
def am_c702 : List (Option am_En) := [some (.aload_n 0, 1, 0, 0, 0, 0), some (.invokevirtual 31, 3, 701, 0, 0, 796), none, none, some (.ifCond .ne 33, 3, 37, 0, 0, 0), none, none, some (.aload_n 0, 1, 0, 0, 0, 0), some (.getfield 15, 3, 7, 1, 2, 238), none, none, some (.aload_n 0, 1, 0, 0, 0, 0), some (.getfield 9, 3, 7, 0, 0, 236), none, none, some (.iload_n 1, 1, 0, 0, 0, 0), some (.iastore, 1, 0, 0, 0, 0), some (.aload_n 0, 1, 0, 0, 0, 0), some (.getfield 19, 3, 7, 2, 2, 239), none, none, some (.aload_n 0, 1, 0, 0, 0, 0), some (.getfield 9, 3, 7, 0, 0, 236), none, none, some (.iload_n 2, 1, 0, 0, 0, 0), some (.iastore, 1, 0, 0, 0, 0), some (.aload_n 0, 1, 0, 0, 0, 0), some (.dup, 1, 0, 0, 0, 0), some (.getfield 9, 3, 7, 0, 0, 236), none, none, some (.iconst 1, 1, 0, 0, 0, 0), some (.iadd, 1, 0, 0, 0, 0), some (.putfield 9, 3, 7, 0, 0, 236), none, none, some (.aload_n 0, 1, 0, 0, 0, 0), some (.getfield 9, 3, 7, 0, 0, 236), none, none, some (.ireturn, 1, 0, 0, 0, 0)]
/-- X7_clear()I -/
def am_c703 : List (Option am_En) := [some (.aload_n 0, 1, 0, 0, 0, 0), some (.getfield 9, 3, 7, 0, 0, 236), none, none, some (.istore_n 1, 1, 0, 0, 0, 0), some (.aload_n 0, 1, 0, 0, 0, 0), some (.iconst 0, 1, 0, 0, 0, 0), some (.putfield 9, 3, 7, 0, 0, 236), none, none, some (.iload_n 1, 1, 0, 0, 0, 0), some (.ireturn, 1, 0, 0, 0, 0)]
/-- X7_latest()I -/
def am_c704 : List (Option am_En) := [some (.iconst 0, 1, 0, 0, 0, 0), some (.istore_n 1, 1, 0, 0, 0, 0), some (.iconst 0, 1, 0, 0, 0, 0), some (.istore_n 2, 1, 0, 0, 0, 0), some (.iload_n 2, 1, 0, 0, 0, 0), some (.aload_n 0, 1, 0, 0, 0, 0), some (.getfield 9, 3, 7, 0, 0, 236), none, none, some (.if_icmp .ge 20, 3, 29, 0, 0, 0), none, none, some (.iload_n 1, 1, 0, 0, 0, 0), some (.aload_n 0, 1, 0, 0, 0, 0), some (.getfield 15, 3, 7, 1, 2, 238), none, none, some (.iload_n 2, 1, 0, 0, 0, 0), some (.iaload, 1, 0, 0, 0, 0), some (.invokestatic 35, 3, 0, 2, 1, 809), none, none, some (.istore_n 1, 1, 0, 0, 0, 0), some (.iinc 2 1, 3, 0, 0, 0, 0), none, none, some (.goto (-22), 3, 4, 0, 0, 0), none, none, some (.iload_n 1, 1, 0, 0, 0, 0), some (.ireturn, 1, 0, 0, 0, 0)]
/-- X7_walks(LSeenADayLate$Moor;III)I -/
def am_c705 : List (Option am_En) := [some (.aload_n 0, 1, 0, 0, 0, 0), some (.aload_n 1, 1, 0, 0, 0, 0), some (.iload_n 2, 1, 0, 0, 0, 0), some (.invokevirtual 41, 3, 708, 2, 0, 771), none, none, some (.iconst 0, 1, 0, 0, 0, 0), some (.istore 5, 2, 0, 0, 0, 0), none, some (.iload 5, 2, 0, 0, 0, 0), none, some (.iload 4, 2, 0, 0, 0, 0), none, some (.if_icmp .ge 18, 3, 31, 0, 0, 0), none, none, some (.aload_n 0, 1, 0, 0, 0, 0), some (.aload_n 1, 1, 0, 0, 0, 0), some (.aload_n 0, 1, 0, 0, 0, 0), some (.getfield 22, 3, 7, 3, 2, 240), none, none, some (.invokevirtual 45, 3, 711, 2, 0, 777), none, none, some (.iinc 5 1, 3, 0, 0, 0, 0), none, none, some (.goto (-19), 3, 9, 0, 0, 0), none, none, some (.aload_n 1, 1, 0, 0, 0, 0), some (.iload_n 3, 1, 0, 0, 0, 0), some (.invokevirtual 49, 3, 503, 1, 0, 783), none, none, some (.ifCond .eq 12, 3, 48, 0, 0, 0), none, none, some (.aload_n 0, 1, 0, 0, 0, 0), some (.getfield 22, 3, 7, 3, 2, 240), none, none, some (.iload_n 3, 1, 0, 0, 0, 0), some (.iaload, 1, 0, 0, 0, 0), some (.goto 4, 3, 49, 0, 0, 0), none, none, some (.iconst 0, 1, 0, 0, 0, 0), some (.ireturn, 1, 0, 0, 0, 0)]
/-- X7_fittingWalks(LSeenADayLate$Moor;I)I -/
def am_c706 : List (Option am_En) := [some (.aload_n 0, 1, 0, 0, 0, 0), some (.aload_n 1, 1, 0, 0, 0, 0), some (.iload_n 2, 1, 0, 0, 0, 0), some (.aload_n 0, 1, 0, 0, 0, 0), some (.invokevirtual 55, 3, 704, 0, 0, 805), none, none, some (.invokevirtual 59, 3, 709, 3, 0, 810), none, none, some (.iconst 0, 1, 0, 0, 0, 0), some (.istore_n 3, 1, 0, 0, 0, 0), some (.iconst 0, 1, 0, 0, 0, 0), some (.istore 4, 2, 0, 0, 0, 0), none, some (.iload 4, 2, 0, 0, 0, 0), none, some (.aload_n 1, 1, 0, 0, 0, 0), some (.getfield 63, 3, 5, 2, 0, 127), none, none, some (.if_icmp .ge 19, 3, 40, 0, 0, 0), none, none, some (.iload_n 3, 1, 0, 0, 0, 0), some (.aload_n 0, 1, 0, 0, 0, 0), some (.getfield 22, 3, 7, 3, 2, 240), none, none, some (.iload 4, 2, 0, 0, 0, 0), none, some (.iaload, 1, 0, 0, 0, 0), some (.iadd, 1, 0, 0, 0, 0), some (.istore_n 3, 1, 0, 0, 0, 0), some (.iinc 4 1, 3, 0, 0, 0, 0), none, none, some (.goto (-22), 3, 15, 0, 0, 0), none, none, some (.iload_n 3, 1, 0, 0, 0, 0), some (.ireturn, 1, 0, 0, 0, 0)]
/-- X7_likeliestCell(LSeenADayLate$Moor;II)I -/
def am_c707 : List (Option am_En) := [some (.aload_n 0, 1, 0, 0, 0, 0), some (.aload_n 1, 1, 0, 0, 0, 0), some (.iload_n 2, 1, 0, 0, 0, 0), some (.iload_n 3, 1, 0, 0, 0, 0), some (.invokevirtual 59, 3, 709, 3, 0, 810), none, none, some (.aload_n 0, 1, 0, 0, 0, 0), some (.aload_n 1, 1, 0, 0, 0, 0), some (.iload_n 3, 1, 0, 0, 0, 0), some (.invokevirtual 65, 3, 710, 2, 0, 827), none, none, some (.bipush (-9), 2, 0, 0, 0, 0), none, some (.istore 4, 2, 0, 0, 0, 0), none, some (.iconst 0, 1, 0, 0, 0, 0), some (.istore 5, 2, 0, 0, 0, 0), none, some (.iconst 0, 1, 0, 0, 0, 0), some (.istore 6, 2, 0, 0, 0, 0), none, some (.iload 6, 2, 0, 0, 0, 0), none, some (.aload_n 1, 1, 0, 0, 0, 0), some (.getfield 63, 3, 5, 2, 0, 127), none, none, some (.if_icmp .ge 41, 3, 70, 0, 0, 0), none, none, some (.aload_n 0, 1, 0, 0, 0, 0), some (.getfield 22, 3, 7, 3, 2, 240), none, none, some (.iload 6, 2, 0, 0, 0, 0), none, some (.iaload, 1, 0, 0, 0, 0), some (.aload_n 0, 1, 0, 0, 0, 0), some (.getfield 25, 3, 7, 4, 2, 241), none, none, some (.iload 6, 2, 0, 0, 0, 0), none, some (.iaload, 1, 0, 0, 0, 0), some (.imul, 1, 0, 0, 0, 0), some (.istore 7, 2, 0, 0, 0, 0), none, some (.iload 7, 2, 0, 0, 0, 0), none, some (.iload 5, 2, 0, 0, 0, 0), none, some (.if_icmp .le 11, 3, 64, 0, 0, 0), none, none, some (.iload 6, 2, 0, 0, 0, 0), none, some (.istore 4, 2, 0, 0, 0, 0), none, some (.iload 7, 2, 0, 0, 0, 0), none, some (.istore 5, 2, 0, 0, 0, 0), none, some (.iinc 6 1, 3, 0, 0, 0, 0), none, none, some (.goto (-44), 3, 23, 0, 0, 0), none, none, some (.iload 4, 2, 0, 0, 0, 0), none, some (.ireturn, 1, 0, 0, 0, 0)]
/-- X7_startFrom(LSeenADayLate$Moor;I)V -/
def am_c708 : List (Option am_En) := [some (.aload_n 0, 1, 0, 0, 0, 0), some (.getfield 22, 3, 7, 3, 2, 240), none, none, some (.iconst 0, 1, 0, 0, 0, 0), some (.invokestatic 68, 3, 1400, 2, 0, 775), none, none, some (.aload_n 1, 1, 0, 0, 0, 0), some (.iload_n 2, 1, 0, 0, 0, 0), some (.invokevirtual 74, 3, 504, 1, 0, 776), none, none, some (.ifCond .eq 10, 3, 23, 0, 0, 0), none, none, some (.aload_n 0, 1, 0, 0, 0, 0), some (.getfield 22, 3, 7, 3, 2, 240), none, none, some (.iload_n 2, 1, 0, 0, 0, 0), some (.iconst 1, 1, 0, 0, 0, 0), some (.iastore, 1, 0, 0, 0, 0), some (.return_, 1, 0, 0, 0, 0)]
/-- X7_countUpTo(LSeenADayLate$Moor;II)V -/
def am_c709 : List (Option am_En) := [some (.aload_n 0, 1, 0, 0, 0, 0), some (.aload_n 1, 1, 0, 0, 0, 0), some (.iload_n 2, 1, 0, 0, 0, 0), some (.invokevirtual 41, 3, 708, 2, 0, 771), none, none, some (.aload_n 0, 1, 0, 0, 0, 0), some (.aload_n 0, 1, 0, 0, 0, 0), some (.getfield 22, 3, 7, 3, 2, 240), none, none, some (.iconst 0, 1, 0, 0, 0, 0), some (.invokevirtual 77, 3, 712, 2, 0, 814), none, none, some (.iconst 1, 1, 0, 0, 0, 0), some (.istore 4, 2, 0, 0, 0, 0), none, some (.iload 4, 2, 0, 0, 0, 0), none, some (.iload_n 3, 1, 0, 0, 0, 0), some (.if_icmp .gt 28, 3, 49, 0, 0, 0), none, none, some (.aload_n 0, 1, 0, 0, 0, 0), some (.aload_n 1, 1, 0, 0, 0, 0), some (.aload_n 0, 1, 0, 0, 0, 0), some (.getfield 22, 3, 7, 3, 2, 240), none, none, some (.invokevirtual 45, 3, 711, 2, 0, 777), none, none, some (.aload_n 0, 1, 0, 0, 0, 0), some (.aload_n 0, 1, 0, 0, 0, 0), some (.getfield 22, 3, 7, 3, 2, 240), none, none, some (.iload 4, 2, 0, 0, 0, 0), none, some (.invokevirtual 77, 3, 712, 2, 0, 814), none, none, some (.iinc 4 1, 3, 0, 0, 0, 0), none, none, some (.goto (-28), 3, 18, 0, 0, 0), none, none, some (.return_, 1, 0, 0, 0, 0)]
/-- X7_countBackTo(LSeenADayLate$Moor;I)V -/
def am_c710 : List (Option am_En) := [some (.aload_n 0, 1, 0, 0, 0, 0), some (.invokevirtual 55, 3, 704, 0, 0, 805), none, none, some (.istore_n 3, 1, 0, 0, 0, 0), some (.aload_n 0, 1, 0, 0, 0, 0), some (.getfield 25, 3, 7, 4, 2, 241), none, none, some (.iconst 0, 1, 0, 0, 0, 0), some (.invokestatic 68, 3, 1400, 2, 0, 775), none, none, some (.iconst 0, 1, 0, 0, 0, 0), some (.istore 4, 2, 0, 0, 0, 0), none, some (.iload 4, 2, 0, 0, 0, 0), none, some (.aload_n 1, 1, 0, 0, 0, 0), some (.getfield 63, 3, 5, 2, 0, 127), none, none, some (.if_icmp .ge 30, 3, 52, 0, 0, 0), none, none, some (.aload_n 0, 1, 0, 0, 0, 0), some (.getfield 25, 3, 7, 4, 2, 241), none, none, some (.iload 4, 2, 0, 0, 0, 0), none, some (.aload_n 1, 1, 0, 0, 0, 0), some (.iload 4, 2, 0, 0, 0, 0), none, some (.invokevirtual 74, 3, 504, 1, 0, 776), none, none, some (.ifCond .eq 7, 3, 44, 0, 0, 0), none, none, some (.iconst 1, 1, 0, 0, 0, 0), some (.goto 4, 3, 45, 0, 0, 0), none, none, some (.iconst 0, 1, 0, 0, 0, 0), some (.iastore, 1, 0, 0, 0, 0), some (.iinc 4 1, 3, 0, 0, 0, 0), none, none, some (.goto (-33), 3, 16, 0, 0, 0), none, none, some (.aload_n 0, 1, 0, 0, 0, 0), some (.aload_n 0, 1, 0, 0, 0, 0), some (.getfield 25, 3, 7, 4, 2, 241), none, none, some (.iload_n 3, 1, 0, 0, 0, 0), some (.invokevirtual 77, 3, 712, 2, 0, 814), none, none, some (.iload_n 3, 1, 0, 0, 0, 0), some (.iconst 1, 1, 0, 0, 0, 0), some (.isub, 1, 0, 0, 0, 0), some (.istore 4, 2, 0, 0, 0, 0), none, some (.iload 4, 2, 0, 0, 0, 0), none, some (.iload_n 2, 1, 0, 0, 0, 0), some (.if_icmp .lt 28, 3, 97, 0, 0, 0), none, none, some (.aload_n 0, 1, 0, 0, 0, 0), some (.aload_n 1, 1, 0, 0, 0, 0), some (.aload_n 0, 1, 0, 0, 0, 0), some (.getfield 25, 3, 7, 4, 2, 241), none, none, some (.invokevirtual 45, 3, 711, 2, 0, 777), none, none, some (.aload_n 0, 1, 0, 0, 0, 0), some (.aload_n 0, 1, 0, 0, 0, 0), some (.getfield 25, 3, 7, 4, 2, 241), none, none, some (.iload 4, 2, 0, 0, 0, 0), none, some (.invokevirtual 77, 3, 712, 2, 0, 814), none, none, some (.iinc 4 (-1), 3, 0, 0, 0, 0), none, none, some (.goto (-28), 3, 66, 0, 0, 0), none, none, some (.return_, 1, 0, 0, 0, 0)]
/-- X7_addStep(LSeenADayLate$Moor;[I)V -/
def am_c711 : List (Option am_En) := [some (.aload_n 2, 1, 0, 0, 0, 0), some (.iconst 0, 1, 0, 0, 0, 0), some (.aload_n 0, 1, 0, 0, 0, 0), some (.getfield 28, 3, 7, 5, 2, 242), none, none, some (.iconst 0, 1, 0, 0, 0, 0), some (.bipush 30, 2, 0, 0, 0, 0), none, some (.invokestatic 80, 3, 0, 5, 4, 781), none, none, some (.iconst 0, 1, 0, 0, 0, 0), some (.istore_n 3, 1, 0, 0, 0, 0), some (.iload_n 3, 1, 0, 0, 0, 0), some (.aload_n 1, 1, 0, 0, 0, 0), some (.getfield 63, 3, 5, 2, 0, 127), none, none, some (.if_icmp .ge 64, 3, 83, 0, 0, 0), none, none, some (.iconst 0, 1, 0, 0, 0, 0), some (.istore 4, 2, 0, 0, 0, 0), none, some (.iconst 0, 1, 0, 0, 0, 0), some (.istore 5, 2, 0, 0, 0, 0), none, some (.iload 5, 2, 0, 0, 0, 0), none, some (.iconst 5, 1, 0, 0, 0, 0), some (.if_icmp .ge 41, 3, 72, 0, 0, 0), none, none, some (.aload_n 1, 1, 0, 0, 0, 0), some (.iload_n 3, 1, 0, 0, 0, 0), some (.iload 5, 2, 0, 0, 0, 0), none, some (.invokevirtual 86, 3, 506, 2, 0, 782), none, none, some (.istore 6, 2, 0, 0, 0, 0), none, some (.iload 4, 2, 0, 0, 0, 0), none, some (.iload 6, 2, 0, 0, 0, 0), none, some (.bipush (-9), 2, 0, 0, 0, 0), none, some (.if_icmp .ne 7, 3, 56, 0, 0, 0), none, none, some (.iconst 0, 1, 0, 0, 0, 0), some (.goto 10, 3, 63, 0, 0, 0), none, none, some (.aload_n 0, 1, 0, 0, 0, 0), some (.getfield 28, 3, 7, 5, 2, 242), none, none, some (.iload 6, 2, 0, 0, 0, 0), none, some (.iaload, 1, 0, 0, 0, 0), some (.iadd, 1, 0, 0, 0, 0), some (.istore 4, 2, 0, 0, 0, 0), none, some (.iinc 5 1, 3, 0, 0, 0, 0), none, none, some (.goto (-41), 3, 28, 0, 0, 0), none, none, some (.aload_n 2, 1, 0, 0, 0, 0), some (.iload_n 3, 1, 0, 0, 0, 0), some (.iload 4, 2, 0, 0, 0, 0), none, some (.iastore, 1, 0, 0, 0, 0), some (.iinc 3 1, 3, 0, 0, 0, 0), none, none, some (.goto (-66), 3, 14, 0, 0, 0), none, none, some (.return_, 1, 0, 0, 0, 0)]
/-- X7_strikeOut([II)V -/
def am_c712 : List (Option am_En) := [some (.iconst 0, 1, 0, 0, 0, 0), some (.istore_n 3, 1, 0, 0, 0, 0), some (.iload_n 3, 1, 0, 0, 0, 0), some (.aload_n 0, 1, 0, 0, 0, 0), some (.getfield 9, 3, 7, 0, 0, 236), none, none, some (.if_icmp .ge 51, 3, 58, 0, 0, 0), none, none, some (.iconst 0, 1, 0, 0, 0, 0), some (.istore 4, 2, 0, 0, 0, 0), none, some (.iload 4, 2, 0, 0, 0, 0), none, some (.bipush 30, 2, 0, 0, 0, 0), none, some (.if_icmp .ge 35, 3, 52, 0, 0, 0), none, none, some (.aload_n 0, 1, 0, 0, 0, 0), some (.getfield 15, 3, 7, 1, 2, 238), none, none, some (.iload_n 3, 1, 0, 0, 0, 0), some (.iaload, 1, 0, 0, 0, 0), some (.iload_n 2, 1, 0, 0, 0, 0), some (.if_icmp .ne 25, 3, 52, 0, 0, 0), none, none, some (.iload 4, 2, 0, 0, 0, 0), none, some (.aload_n 0, 1, 0, 0, 0, 0), some (.getfield 19, 3, 7, 2, 2, 239), none, none, some (.iload_n 3, 1, 0, 0, 0, 0), some (.iaload, 1, 0, 0, 0, 0), some (.if_icmp .eq 8, 3, 46, 0, 0, 0), none, none, some (.aload_n 1, 1, 0, 0, 0, 0), some (.iload 4, 2, 0, 0, 0, 0), none, some (.iconst 0, 1, 0, 0, 0, 0), some (.iastore, 1, 0, 0, 0, 0), some (.iinc 4 1, 3, 0, 0, 0, 0), none, none, some (.goto (-36), 3, 13, 0, 0, 0), none, none, some (.iinc 3 1, 3, 0, 0, 0, 0), none, none, some (.goto (-53), 3, 2, 0, 0, 0), none, none, some (.return_, 1, 0, 0, 0, 0)]
/-- X8_init(I[I)V -/
def am_c800 : List (Option am_En) := [some (.aload_n 0, 1, 0, 0, 0, 0), some (.iload_n 1, 1, 0, 0, 0, 0), some (.aload_n 2, 1, 0, 0, 0, 0), some (.invokespecial 3, 3, 900, 2, 0, 528), none, none, some (.return_, 1, 0, 0, 0, 0)]
/-- X8_kind()I -/
def am_c801 : List (Option am_En) := [some (.iconst 4, 1, 0, 0, 0, 0), some (.ireturn, 1, 0, 0, 0, 0)]
/-- X8_chooses(LSeenADayLate$World;II)I -/
def am_c802 : List (Option am_En) := [some (.iconst 4, 1, 0, 0, 0, 0), some (.ireturn, 1, 0, 0, 0, 0)]
/-- X9_init(I[I)V -/
def am_c900 : List (Option am_En) := [some (.aload_n 0, 1, 0, 0, 0, 0), some (.invokespecial 3, 3, 0, 0, 1, 483), none, none, some (.aload_n 0, 1, 0, 0, 0, 0), some (.iload_n 1, 1, 0, 0, 0, 0), some (.putfield 9, 3, 9, 0, 0, 484), none, none, some (.aload_n 0, 1, 0, 0, 0, 0), some (.aload_n 2, 1, 0, 0, 0, 0), some (.putfield 15, 3, 9, 1, 2, 488), none, none, some (.return_, 1, 0, 0, 0, 0)]
/-- X9_ofKind(II[I)LSeenADayLate$Walker; -/
def am_c901 : List (Option am_En) := [some (.iload_n 0, 1, 0, 0, 0, 0), some (.tableswitch 99 0 5 #[39, 49, 59, 69, 79, 89], 39, 0, 0, 0, 0), none, none, none, none, none, none, none, none, none, none, none, none, none, none, none, none, none, none, none, none, none, none, none, none, none, none, none, none, none, none, none, none, none, none, none, none, none, none, some (.new 10, 3, 9, 2, 0, 478), none, none, some (.dup, 1, 0, 0, 0, 0), some (.iload_n 1, 1, 0, 0, 0, 0), some (.aload_n 2, 1, 0, 0, 0, 0), some (.invokespecial 19, 3, 900, 2, 0, 480), none, none, some (.areturn, 1, 0, 0, 0, 0), some (.new 22, 3, 3, 2, 0, 496), none, none, some (.dup, 1, 0, 0, 0, 0), some (.iload_n 1, 1, 0, 0, 0, 0), some (.aload_n 2, 1, 0, 0, 0, 0), some (.invokespecial 24, 3, 300, 2, 0, 498), none, none, some (.areturn, 1, 0, 0, 0, 0), some (.new 25, 3, 2, 2, 0, 505), none, none, some (.dup, 1, 0, 0, 0, 0), some (.iload_n 1, 1, 0, 0, 0, 0), some (.aload_n 2, 1, 0, 0, 0, 0), some (.invokespecial 27, 3, 200, 2, 0, 507), none, none, some (.areturn, 1, 0, 0, 0, 0), some (.new 28, 3, 1, 2, 0, 514), none, none, some (.dup, 1, 0, 0, 0, 0), some (.iload_n 1, 1, 0, 0, 0, 0), some (.aload_n 2, 1, 0, 0, 0, 0), some (.invokespecial 30, 3, 100, 2, 0, 516), none, none, some (.areturn, 1, 0, 0, 0, 0), some (.new 31, 3, 8, 2, 0, 523), none, none, some (.dup, 1, 0, 0, 0, 0), some (.iload_n 1, 1, 0, 0, 0, 0), some (.aload_n 2, 1, 0, 0, 0, 0), some (.invokespecial 33, 3, 800, 2, 0, 525), none, none, some (.areturn, 1, 0, 0, 0, 0), some (.new 34, 3, 6, 2, 0, 532), none, none, some (.dup, 1, 0, 0, 0, 0), some (.iload_n 1, 1, 0, 0, 0, 0), some (.aload_n 2, 1, 0, 0, 0, 0), some (.invokespecial 36, 3, 600, 2, 0, 534), none, none, some (.areturn, 1, 0, 0, 0, 0), some (.aconst_null, 1, 0, 0, 0, 0), some (.areturn, 1, 0, 0, 0, 0)]
/-- X9_kind()I -/
def am_c902 : List (Option am_En) := [some (.iconst 0, 1, 0, 0, 0, 0), some (.ireturn, 1, 0, 0, 0, 0)]
/-- X9_chooses(LSeenADayLate$World;II)I -/
def am_c903 : List (Option am_En) := [some (.aload_n 0, 1, 0, 0, 0, 0), some (.aload_n 1, 1, 0, 0, 0, 0), some (.iload_n 2, 1, 0, 0, 0, 0), some (.iload_n 3, 1, 0, 0, 0, 0), some (.invokevirtual 37, 3, 2, 3, 1, 673), none, none, some (.ireturn, 1, 0, 0, 0, 0)]
/-- X9_byPlan(LSeenADayLate$World;II)I -/
def am_c904 : List (Option am_En) := [some (.aload_n 0, 1, 0, 0, 0, 0), some (.getfield 15, 3, 9, 1, 2, 488), none, none, some (.arraylength, 1, 0, 0, 0, 0), some (.ifCond .eq 7, 3, 12, 0, 0, 0), none, none, some (.iload_n 3, 1, 0, 0, 0, 0), some (.ifCond .ge 5, 3, 14, 0, 0, 0), none, none, some (.iconst 4, 1, 0, 0, 0, 0), some (.ireturn, 1, 0, 0, 0, 0), some (.aload_n 0, 1, 0, 0, 0, 0), some (.getfield 15, 3, 9, 1, 2, 488), none, none, some (.iload_n 3, 1, 0, 0, 0, 0), some (.aload_n 0, 1, 0, 0, 0, 0), some (.getfield 15, 3, 9, 1, 2, 488), none, none, some (.arraylength, 1, 0, 0, 0, 0), some (.irem, 1, 0, 0, 0, 0), some (.iaload, 1, 0, 0, 0, 0), some (.istore 4, 2, 0, 0, 0, 0), none, some (.aload_n 1, 1, 0, 0, 0, 0), some (.getfield 41, 3, 10, 0, 2, 170), none, none, some (.aload_n 1, 1, 0, 0, 0, 0), some (.iload_n 2, 1, 0, 0, 0, 0), some (.iload_n 3, 1, 0, 0, 0, 0), some (.invokevirtual 47, 3, 1006, 2, 0, 611), none, none, some (.iload 4, 2, 0, 0, 0, 0), none, some (.invokevirtual 51, 3, 506, 2, 0, 612), none, none, some (.bipush (-9), 2, 0, 0, 0, 0), none, some (.if_icmp .ne 7, 3, 52, 0, 0, 0), none, none, some (.iconst 4, 1, 0, 0, 0, 0), some (.goto 5, 3, 54, 0, 0, 0), none, none, some (.iload 4, 2, 0, 0, 0, 0), none, some (.ireturn, 1, 0, 0, 0, 0)]
/-- X10_init(LSeenADayLate$Moor;)V -/
def am_c1000 : List (Option am_En) := [some (.aload_n 0, 1, 0, 0, 0, 0), some (.invokespecial 3, 3, 0, 0, 1, 161), none, none, some (.aload_n 0, 1, 0, 0, 0, 0), some (.aload_n 1, 1, 0, 0, 0, 0), some (.putfield 9, 3, 10, 0, 2, 166), none, none, some (.aload_n 0, 1, 0, 0, 0, 0), some (.iconst 1, 1, 0, 0, 0, 0), some (.putfield 15, 3, 10, 1, 0, 172), none, none, some (.aload_n 0, 1, 0, 0, 0, 0), some (.iconst 0, 1, 0, 0, 0, 0), some (.putfield 19, 3, 10, 2, 0, 176), none, none, some (.aload_n 0, 1, 0, 0, 0, 0), some (.iconst 0, 1, 0, 0, 0, 0), some (.putfield 22, 3, 10, 3, 0, 178), none, none, some (.aload_n 0, 1, 0, 0, 0, 0), some (.iconst 5, 1, 0, 0, 0, 0), some (.anewarray 25, 3, 0, 0, 0, 162), none, none, some (.putfield 27, 3, 10, 4, 2, 182), none, none, some (.aload_n 0, 1, 0, 0, 0, 0), some (.iconst 5, 1, 0, 0, 0, 0), some (.bipush 121, 2, 0, 0, 0, 0), none, some (.multianewarray 31 2, 4, 0, 0, 0, 164), none, none, none, some (.putfield 33, 3, 10, 5, 2, 183), none, none, some (.return_, 1, 0, 0, 0, 0)]
/-- X10_become(LSeenADayLate$World;)V -/
def am_c1001 : List (Option am_En) := [some (.aload_n 0, 1, 0, 0, 0, 0), some (.aload_n 1, 1, 0, 0, 0, 0), some (.getfield 9, 3, 10, 0, 2, 166), none, none, some (.putfield 9, 3, 10, 0, 2, 166), none, none, some (.aload_n 0, 1, 0, 0, 0, 0), some (.aload_n 1, 1, 0, 0, 0, 0), some (.getfield 15, 3, 10, 1, 0, 172), none, none, some (.putfield 15, 3, 10, 1, 0, 172), none, none, some (.aload_n 0, 1, 0, 0, 0, 0), some (.aload_n 1, 1, 0, 0, 0, 0), some (.getfield 19, 3, 10, 2, 0, 176), none, none, some (.putfield 19, 3, 10, 2, 0, 176), none, none, some (.aload_n 0, 1, 0, 0, 0, 0), some (.aload_n 1, 1, 0, 0, 0, 0), some (.getfield 22, 3, 10, 3, 0, 178), none, none, some (.putfield 22, 3, 10, 3, 0, 178), none, none, some (.iconst 0, 1, 0, 0, 0, 0), some (.istore_n 2, 1, 0, 0, 0, 0), some (.iload_n 2, 1, 0, 0, 0, 0), some (.iconst 5, 1, 0, 0, 0, 0), some (.if_icmp .ge 40, 3, 76, 0, 0, 0), none, none, some (.aload_n 0, 1, 0, 0, 0, 0), some (.getfield 27, 3, 10, 4, 2, 182), none, none, some (.iload_n 2, 1, 0, 0, 0, 0), some (.aload_n 1, 1, 0, 0, 0, 0), some (.getfield 27, 3, 10, 4, 2, 182), none, none, some (.iload_n 2, 1, 0, 0, 0, 0), some (.aaload, 1, 0, 0, 0, 0), some (.aastore, 1, 0, 0, 0, 0), some (.aload_n 1, 1, 0, 0, 0, 0), some (.getfield 33, 3, 10, 5, 2, 183), none, none, some (.iload_n 2, 1, 0, 0, 0, 0), some (.aaload, 1, 0, 0, 0, 0), some (.iconst 0, 1, 0, 0, 0, 0), some (.aload_n 0, 1, 0, 0, 0, 0), some (.getfield 33, 3, 10, 5, 2, 183), none, none, some (.iload_n 2, 1, 0, 0, 0, 0), some (.aaload, 1, 0, 0, 0, 0), some (.iconst 0, 1, 0, 0, 0, 0), some (.bipush 61, 2, 0, 0, 0, 0), none, some (.invokestatic 36, 3, 0, 5, 4, 445), none, none, some (.iinc 2 1, 3, 0, 0, 0, 0), none, none, some (.goto (-39), 3, 34, 0, 0, 0), none, none, some (.return_, 1, 0, 0, 0, 0)]
/-- X10_settleOn(LSeenADayLate$Moor;)V -/
def am_c1002 : List (Option am_En) := [some (.aload_n 0, 1, 0, 0, 0, 0), some (.aload_n 1, 1, 0, 0, 0, 0), some (.putfield 9, 3, 10, 0, 2, 166), none, none, some (.aload_n 0, 1, 0, 0, 0, 0), some (.iconst 0, 1, 0, 0, 0, 0), some (.putfield 19, 3, 10, 2, 0, 176), none, none, some (.aload_n 0, 1, 0, 0, 0, 0), some (.iconst 0, 1, 0, 0, 0, 0), some (.putfield 22, 3, 10, 3, 0, 178), none, none, some (.return_, 1, 0, 0, 0, 0)]
/-- X10_receive(LSeenADayLate$Walker;I)Z -/
def am_c1003 : List (Option am_En) := [some (.aload_n 1, 1, 0, 0, 0, 0), some (.ifnull 22, 3, 23, 0, 0, 0), none, none, some (.aload_n 0, 1, 0, 0, 0, 0), some (.getfield 22, 3, 10, 3, 0, 178), none, none, some (.iconst 5, 1, 0, 0, 0, 0), some (.if_icmp .ge 14, 3, 23, 0, 0, 0), none, none, some (.aload_n 0, 1, 0, 0, 0, 0), some (.getfield 9, 3, 10, 0, 2, 166), none, none, some (.iload_n 2, 1, 0, 0, 0, 0), some (.invokevirtual 42, 3, 504, 1, 0, 545), none, none, some (.ifCond .ne 5, 3, 25, 0, 0, 0), none, none, some (.iconst 0, 1, 0, 0, 0, 0), some (.ireturn, 1, 1, 0, 0, 0), some (.aload_n 0, 1, 0, 0, 0, 0), some (.getfield 27, 3, 10, 4, 2, 182), none, none, some (.aload_n 0, 1, 0, 0, 0, 0), some (.getfield 22, 3, 10, 3, 0, 178), none, none, some (.aload_n 1, 1, 0, 0, 0, 0), some (.aastore, 1, 0, 0, 0, 0), some (.aload_n 0, 1, 0, 0, 0, 0), some (.getfield 33, 3, 10, 5, 2, 183), none, none, some (.aload_n 0, 1, 0, 0, 0, 0), some (.getfield 22, 3, 10, 3, 0, 178), none, none, some (.aaload, 1, 0, 0, 0, 0), some (.iload_n 2, 1, 0, 0, 0, 0), some (.invokestatic 48, 3, 1400, 2, 0, 546), none, none, some (.aload_n 0, 1, 0, 0, 0, 0), some (.dup, 1, 0, 0, 0, 0), some (.getfield 22, 3, 10, 3, 0, 178), none, none, some (.iconst 1, 1, 0, 0, 0, 0), some (.iadd, 1, 0, 0, 0, 0), some (.putfield 22, 3, 10, 3, 0, 178), none, none, some (.iconst 1, 1, 0, 0, 0, 0), some (.ireturn, 1, 1, 0, 0, 0)]
/-- X10_personAt(I)LSeenADayLate$Walker; -/
def am_c1004 : List (Option am_En) := [some (.iload_n 1, 1, 0, 0, 0, 0), some (.ifCond .lt 20, 3, 21, 0, 0, 0), none, none, some (.iload_n 1, 1, 0, 0, 0, 0), some (.aload_n 0, 1, 0, 0, 0, 0), some (.getfield 22, 3, 10, 3, 0, 178), none, none, some (.if_icmp .ge 12, 3, 21, 0, 0, 0), none, none, some (.aload_n 0, 1, 0, 0, 0, 0), some (.getfield 27, 3, 10, 4, 2, 182), none, none, some (.iload_n 1, 1, 0, 0, 0, 0), some (.aaload, 1, 0, 0, 0, 0), some (.goto 4, 3, 22, 0, 0, 0), none, none, some (.aconst_null, 1, 0, 0, 0, 0), some (.areturn, 1, 0, 0, 0, 0)]
/-- X10_tellOf(II)I -/
def am_c1005 : List (Option am_En) := [some (.aload_n 0, 1, 0, 0, 0, 0), some (.iload_n 1, 1, 0, 0, 0, 0), some (.invokevirtual 54, 3, 1004, 1, 0, 571), none, none, some (.astore_n 3, 1, 0, 0, 0, 0), some (.aload_n 3, 1, 0, 0, 0, 0), some (.ifnonnull 5, 3, 12, 0, 0, 0), none, none, some (.iconst (-1), 1, 0, 0, 0, 0), some (.ireturn, 1, 0, 0, 0, 0), some (.iload_n 2, 1, 0, 0, 0, 0), some (.tableswitch 57 0 3 #[31, 36, 41, 51], 31, 0, 0, 0, 0), none, none, none, none, none, none, none, none, none, none, none, none, none, none, none, none, none, none, none, none, none, none, none, none, none, none, none, none, none, none, some (.aload_n 3, 1, 0, 0, 0, 0), some (.invokevirtual 58, 3, 0, 0, 1, 572), none, none, some (.ireturn, 1, 0, 0, 0, 0), some (.aload_n 3, 1, 0, 0, 0, 0), some (.getfield 62, 3, 9, 0, 0, 487), none, none, some (.ireturn, 1, 0, 0, 0, 0), some (.aload_n 0, 1, 0, 0, 0, 0), some (.iload_n 1, 1, 0, 0, 0, 0), some (.aload_n 0, 1, 0, 0, 0, 0), some (.getfield 19, 3, 10, 2, 0, 176), none, none, some (.invokevirtual 65, 3, 1006, 2, 0, 592), none, none, some (.ireturn, 1, 0, 0, 0, 0), some (.aload_n 3, 1, 0, 0, 0, 0), some (.getfield 69, 3, 9, 1, 2, 489), none, none, some (.arraylength, 1, 0, 0, 0, 0), some (.ireturn, 1, 0, 0, 0, 0), some (.aload_n 3, 1, 0, 0, 0, 0), some (.aload_n 0, 1, 0, 0, 0, 0), some (.iload_n 1, 1, 0, 0, 0, 0), some (.aload_n 0, 1, 0, 0, 0, 0), some (.getfield 19, 3, 10, 2, 0, 176), none, none, some (.invokevirtual 73, 3, 1, 3, 1, 596), none, none, some (.ireturn, 1, 0, 0, 0, 0)]
/-- X10_placeOf(II)I -/
def am_c1006 : List (Option am_En) := [some (.iload_n 1, 1, 0, 0, 0, 0), some (.ifCond .lt 22, 3, 23, 0, 0, 0), none, none, some (.iload_n 1, 1, 0, 0, 0, 0), some (.aload_n 0, 1, 0, 0, 0, 0), some (.getfield 22, 3, 10, 3, 0, 178), none, none, some (.if_icmp .ge 14, 3, 23, 0, 0, 0), none, none, some (.iload_n 2, 1, 0, 0, 0, 0), some (.aload_n 0, 1, 0, 0, 0, 0), some (.getfield 33, 3, 10, 5, 2, 183), none, none, some (.iload_n 1, 1, 0, 0, 0, 0), some (.aaload, 1, 0, 0, 0, 0), some (.arraylength, 1, 0, 0, 0, 0), some (.if_icmp .lt 6, 3, 26, 0, 0, 0), none, none, some (.bipush (-9), 2, 0, 0, 0, 0), none, some (.ireturn, 1, 0, 0, 0, 0), some (.aload_n 0, 1, 0, 0, 0, 0), some (.getfield 33, 3, 10, 5, 2, 183), none, none, some (.iload_n 1, 1, 0, 0, 0, 0), some (.aaload, 1, 0, 0, 0, 0), some (.iload_n 2, 1, 0, 0, 0, 0), some (.ifCond .ge 7, 3, 40, 0, 0, 0), none, none, some (.iconst 0, 1, 0, 0, 0, 0), some (.goto 4, 3, 41, 0, 0, 0), none, none, some (.iload_n 2, 1, 0, 0, 0, 0), some (.iaload, 1, 0, 0, 0, 0), some (.ireturn, 1, 0, 0, 0, 0)]
/-- X10_sightOf(II)I -/
def am_c1007 : List (Option am_En) := [some (.aload_n 0, 1, 0, 0, 0, 0), some (.iload_n 1, 1, 0, 0, 0, 0), some (.iload_n 2, 1, 0, 0, 0, 0), some (.aload_n 0, 1, 0, 0, 0, 0), some (.getfield 15, 3, 10, 1, 0, 172), none, none, some (.isub, 1, 0, 0, 0, 0), some (.invokevirtual 65, 3, 1006, 2, 0, 592), none, none, some (.ireturn, 1, 0, 0, 0, 0)]
/-- X10_leastDistance(III)I -/
def am_c1008 : List (Option am_En) := [some (.ldc 79, 2, 2147483647, 0, 0, 663), none, some (.istore 4, 2, 0, 0, 0, 0), none, some (.iconst 0, 1, 0, 0, 0, 0), some (.istore 5, 2, 0, 0, 0, 0), none, some (.iload 5, 2, 0, 0, 0, 0), none, some (.aload_n 0, 1, 0, 0, 0, 0), some (.getfield 22, 3, 10, 3, 0, 178), none, none, some (.if_icmp .ge 37, 3, 50, 0, 0, 0), none, none, some (.iload 5, 2, 0, 0, 0, 0), none, some (.iload_n 2, 1, 0, 0, 0, 0), some (.if_icmp .eq 25, 3, 44, 0, 0, 0), none, none, some (.iload 4, 2, 0, 0, 0, 0), none, some (.aload_n 0, 1, 0, 0, 0, 0), some (.getfield 9, 3, 10, 0, 2, 166), none, none, some (.iload_n 1, 1, 0, 0, 0, 0), some (.aload_n 0, 1, 0, 0, 0, 0), some (.iload 5, 2, 0, 0, 0, 0), none, some (.iload_n 3, 1, 0, 0, 0, 0), some (.invokevirtual 80, 3, 1007, 2, 0, 664), none, none, some (.invokevirtual 83, 3, 508, 2, 0, 665), none, none, some (.invokestatic 86, 3, 0, 2, 2, 666), none, none, some (.istore 4, 2, 0, 0, 0, 0), none, some (.iinc 5 1, 3, 0, 0, 0, 0), none, none, some (.goto (-40), 3, 7, 0, 0, 0), none, none, some (.iload 4, 2, 0, 0, 0, 0), none, some (.ireturn, 1, 0, 0, 0, 0)]
/-- X10_liveOneDay()I -/
def am_c1009 : List (Option am_En) := [some (.aload_n 0, 1, 0, 0, 0, 0), some (.aload_n 0, 1, 0, 0, 0, 0), some (.getfield 19, 3, 10, 2, 0, 176), none, none, some (.invokevirtual 91, 3, 1011, 1, 0, 686), none, none, some (.iconst 0, 1, 0, 0, 0, 0), some (.istore_n 1, 1, 0, 0, 0, 0), some (.iconst 0, 1, 0, 0, 0, 0), some (.istore_n 2, 1, 0, 0, 0, 0), some (.iload_n 2, 1, 0, 0, 0, 0), some (.aload_n 0, 1, 0, 0, 0, 0), some (.getfield 22, 3, 10, 3, 0, 178), none, none, some (.if_icmp .ge 35, 3, 52, 0, 0, 0), none, none, some (.aload_n 0, 1, 0, 0, 0, 0), some (.iload_n 2, 1, 0, 0, 0, 0), some (.aload_n 0, 1, 0, 0, 0, 0), some (.getfield 19, 3, 10, 2, 0, 176), none, none, some (.invokevirtual 65, 3, 1006, 2, 0, 592), none, none, some (.aload_n 0, 1, 0, 0, 0, 0), some (.iload_n 2, 1, 0, 0, 0, 0), some (.aload_n 0, 1, 0, 0, 0, 0), some (.getfield 19, 3, 10, 2, 0, 176), none, none, some (.iconst 1, 1, 0, 0, 0, 0), some (.iadd, 1, 0, 0, 0, 0), some (.invokevirtual 65, 3, 1006, 2, 0, 592), none, none, some (.if_icmp .eq 6, 3, 46, 0, 0, 0), none, none, some (.iinc 1 1, 3, 0, 0, 0, 0), none, none, some (.iinc 2 1, 3, 0, 0, 0, 0), none, none, some (.goto (-37), 3, 12, 0, 0, 0), none, none, some (.aload_n 0, 1, 0, 0, 0, 0), some (.dup, 1, 0, 0, 0, 0), some (.getfield 19, 3, 10, 2, 0, 176), none, none, some (.iconst 1, 1, 0, 0, 0, 0), some (.iadd, 1, 0, 0, 0, 0), some (.putfield 19, 3, 10, 2, 0, 176), none, none, some (.iload_n 1, 1, 0, 0, 0, 0), some (.ireturn, 1, 0, 0, 0, 0)]
/-- X10_foresee(I)V -/
def am_c1010 : List (Option am_En) := [some (.iconst 0, 1, 0, 0, 0, 0), some (.istore_n 2, 1, 0, 0, 0, 0), some (.iload_n 2, 1, 0, 0, 0, 0), some (.iload_n 1, 1, 0, 0, 0, 0), some (.if_icmp .ge 19, 3, 23, 0, 0, 0), none, none, some (.aload_n 0, 1, 0, 0, 0, 0), some (.aload_n 0, 1, 0, 0, 0, 0), some (.getfield 19, 3, 10, 2, 0, 176), none, none, some (.iload_n 2, 1, 0, 0, 0, 0), some (.iadd, 1, 0, 0, 0, 0), some (.invokevirtual 91, 3, 1011, 1, 0, 686), none, none, some (.iinc 2 1, 3, 0, 0, 0, 0), none, none, some (.goto (-18), 3, 2, 0, 0, 0), none, none, some (.return_, 1, 0, 0, 0, 0)]
/-- X10_allStep(I)V -/
def am_c1011 : List (Option am_En) := [some (.iload_n 1, 1, 0, 0, 0, 0), some (.ifCond .lt 9, 3, 10, 0, 0, 0), none, none, some (.iload_n 1, 1, 0, 0, 0, 0), some (.bipush 120, 2, 0, 0, 0, 0), none, some (.if_icmp .lt 4, 3, 11, 0, 0, 0), none, none, some (.return_, 1, 0, 0, 0, 0), some (.iconst 0, 1, 0, 0, 0, 0), some (.istore_n 2, 1, 0, 0, 0, 0), some (.iload_n 2, 1, 0, 0, 0, 0), some (.aload_n 0, 1, 0, 0, 0, 0), some (.getfield 22, 3, 10, 3, 0, 178), none, none, some (.if_icmp .ge 76, 3, 94, 0, 0, 0), none, none, some (.aload_n 0, 1, 0, 0, 0, 0), some (.getfield 33, 3, 10, 5, 2, 183), none, none, some (.iload_n 2, 1, 0, 0, 0, 0), some (.aaload, 1, 0, 0, 0, 0), some (.iload_n 1, 1, 0, 0, 0, 0), some (.iaload, 1, 0, 0, 0, 0), some (.istore_n 3, 1, 0, 0, 0, 0), some (.aload_n 0, 1, 0, 0, 0, 0), some (.getfield 27, 3, 10, 4, 2, 182), none, none, some (.iload_n 2, 1, 0, 0, 0, 0), some (.aaload, 1, 0, 0, 0, 0), some (.ifnonnull 7, 3, 43, 0, 0, 0), none, none, some (.iload_n 3, 1, 0, 0, 0, 0), some (.goto 23, 3, 63, 0, 0, 0), none, none, some (.aload_n 0, 1, 0, 0, 0, 0), some (.getfield 9, 3, 10, 0, 2, 166), none, none, some (.iload_n 3, 1, 0, 0, 0, 0), some (.aload_n 0, 1, 0, 0, 0, 0), some (.getfield 27, 3, 10, 4, 2, 182), none, none, some (.iload_n 2, 1, 0, 0, 0, 0), some (.aaload, 1, 0, 0, 0, 0), some (.aload_n 0, 1, 0, 0, 0, 0), some (.iload_n 2, 1, 0, 0, 0, 0), some (.iload_n 1, 1, 0, 0, 0, 0), some (.invokevirtual 73, 3, 1, 3, 1, 596), none, none, some (.invokevirtual 95, 3, 506, 2, 0, 690), none, none, some (.istore 4, 2, 0, 0, 0, 0), none, some (.aload_n 0, 1, 0, 0, 0, 0), some (.getfield 33, 3, 10, 5, 2, 183), none, none, some (.iload_n 2, 1, 0, 0, 0, 0), some (.aaload, 1, 0, 0, 0, 0), some (.iload_n 1, 1, 0, 0, 0, 0), some (.iconst 1, 1, 0, 0, 0, 0), some (.iadd, 1, 0, 0, 0, 0), some (.iload 4, 2, 0, 0, 0, 0), none, some (.bipush (-9), 2, 0, 0, 0, 0), none, some (.if_icmp .ne 7, 3, 85, 0, 0, 0), none, none, some (.iload_n 3, 1, 0, 0, 0, 0), some (.goto 5, 3, 87, 0, 0, 0), none, none, some (.iload 4, 2, 0, 0, 0, 0), none, some (.iastore, 1, 0, 0, 0, 0), some (.iinc 2 1, 3, 0, 0, 0, 0), none, none, some (.goto (-78), 3, 13, 0, 0, 0), none, none, some (.return_, 1, 0, 0, 0, 0)]
/-- X10_firstMeeting(II)I -/
def am_c1012 : List (Option am_En) := [some (.iconst 0, 1, 0, 0, 0, 0), some (.istore_n 3, 1, 0, 0, 0, 0), some (.iload_n 3, 1, 0, 0, 0, 0), some (.bipush 60, 2, 0, 0, 0, 0), none, some (.if_icmp .gt 36, 3, 41, 0, 0, 0), none, none, some (.aload_n 0, 1, 0, 0, 0, 0), some (.iload_n 1, 1, 0, 0, 0, 0), some (.aload_n 0, 1, 0, 0, 0, 0), some (.getfield 19, 3, 10, 2, 0, 176), none, none, some (.iload_n 3, 1, 0, 0, 0, 0), some (.iadd, 1, 0, 0, 0, 0), some (.invokevirtual 65, 3, 1006, 2, 0, 592), none, none, some (.aload_n 0, 1, 0, 0, 0, 0), some (.iload_n 2, 1, 0, 0, 0, 0), some (.aload_n 0, 1, 0, 0, 0, 0), some (.getfield 19, 3, 10, 2, 0, 176), none, none, some (.iload_n 3, 1, 0, 0, 0, 0), some (.iadd, 1, 0, 0, 0, 0), some (.invokevirtual 65, 3, 1006, 2, 0, 592), none, none, some (.if_icmp .ne 5, 3, 35, 0, 0, 0), none, none, some (.iload_n 3, 1, 0, 0, 0, 0), some (.ireturn, 1, 0, 0, 0, 0), some (.iinc 3 1, 3, 0, 0, 0, 0), none, none, some (.goto (-36), 3, 2, 0, 0, 0), none, none, some (.bipush (-9), 2, 0, 0, 0, 0), none, some (.ireturn, 1, 0, 0, 0, 0)]
/-- X10_firstPassing(II)I -/
def am_c1013 : List (Option am_En) := [some (.iconst 1, 1, 0, 0, 0, 0), some (.istore_n 3, 1, 0, 0, 0, 0), some (.iload_n 3, 1, 0, 0, 0, 0), some (.bipush 60, 2, 0, 0, 0, 0), none, some (.if_icmp .gt 92, 3, 97, 0, 0, 0), none, none, some (.aload_n 0, 1, 0, 0, 0, 0), some (.iload_n 1, 1, 0, 0, 0, 0), some (.aload_n 0, 1, 0, 0, 0, 0), some (.getfield 19, 3, 10, 2, 0, 176), none, none, some (.iload_n 3, 1, 0, 0, 0, 0), some (.iadd, 1, 0, 0, 0, 0), some (.iconst 1, 1, 0, 0, 0, 0), some (.isub, 1, 0, 0, 0, 0), some (.invokevirtual 65, 3, 1006, 2, 0, 592), none, none, some (.istore 4, 2, 0, 0, 0, 0), none, some (.aload_n 0, 1, 0, 0, 0, 0), some (.iload_n 2, 1, 0, 0, 0, 0), some (.aload_n 0, 1, 0, 0, 0, 0), some (.getfield 19, 3, 10, 2, 0, 176), none, none, some (.iload_n 3, 1, 0, 0, 0, 0), some (.iadd, 1, 0, 0, 0, 0), some (.iconst 1, 1, 0, 0, 0, 0), some (.isub, 1, 0, 0, 0, 0), some (.invokevirtual 65, 3, 1006, 2, 0, 592), none, none, some (.istore 5, 2, 0, 0, 0, 0), none, some (.aload_n 0, 1, 0, 0, 0, 0), some (.iload_n 1, 1, 0, 0, 0, 0), some (.aload_n 0, 1, 0, 0, 0, 0), some (.getfield 19, 3, 10, 2, 0, 176), none, none, some (.iload_n 3, 1, 0, 0, 0, 0), some (.iadd, 1, 0, 0, 0, 0), some (.invokevirtual 65, 3, 1006, 2, 0, 592), none, none, some (.iload 5, 2, 0, 0, 0, 0), none, some (.if_icmp .ne 23, 3, 74, 0, 0, 0), none, none, some (.aload_n 0, 1, 0, 0, 0, 0), some (.iload_n 2, 1, 0, 0, 0, 0), some (.aload_n 0, 1, 0, 0, 0, 0), some (.getfield 19, 3, 10, 2, 0, 176), none, none, some (.iload_n 3, 1, 0, 0, 0, 0), some (.iadd, 1, 0, 0, 0, 0), some (.invokevirtual 65, 3, 1006, 2, 0, 592), none, none, some (.iload 4, 2, 0, 0, 0, 0), none, some (.if_icmp .ne 7, 3, 74, 0, 0, 0), none, none, some (.iconst 1, 1, 0, 0, 0, 0), some (.goto 4, 3, 75, 0, 0, 0), none, none, some (.iconst 0, 1, 0, 0, 0, 0), some (.istore 6, 2, 0, 0, 0, 0), none, some (.iload 6, 2, 0, 0, 0, 0), none, some (.ifCond .eq 12, 3, 91, 0, 0, 0), none, none, some (.iload 4, 2, 0, 0, 0, 0), none, some (.iload 5, 2, 0, 0, 0, 0), none, some (.if_icmp .eq 5, 3, 91, 0, 0, 0), none, none, some (.iload_n 3, 1, 0, 0, 0, 0), some (.ireturn, 1, 0, 0, 0, 0), some (.iinc 3 1, 3, 0, 0, 0, 0), none, none, some (.goto (-92), 3, 2, 0, 0, 0), none, none, some (.bipush (-9), 2, 0, 0, 0, 0), none, some (.ireturn, 1, 0, 0, 0, 0)]
/-- X10_placesOf(II)I -/
def am_c1014 : List (Option am_En) := [some (.iconst 0, 1, 0, 0, 0, 0), some (.istore_n 3, 1, 0, 0, 0, 0), some (.iconst 0, 1, 0, 0, 0, 0), some (.istore 4, 2, 0, 0, 0, 0), none, some (.iload 4, 2, 0, 0, 0, 0), none, some (.iload_n 2, 1, 0, 0, 0, 0), some (.if_icmp .gt 37, 3, 45, 0, 0, 0), none, none, some (.aload_n 0, 1, 0, 0, 0, 0), some (.iload_n 1, 1, 0, 0, 0, 0), some (.aload_n 0, 1, 0, 0, 0, 0), some (.getfield 19, 3, 10, 2, 0, 176), none, none, some (.iload 4, 2, 0, 0, 0, 0), none, some (.iadd, 1, 0, 0, 0, 0), some (.invokevirtual 65, 3, 1006, 2, 0, 592), none, none, some (.istore 5, 2, 0, 0, 0, 0), none, some (.iload 5, 2, 0, 0, 0, 0), none, some (.bipush (-9), 2, 0, 0, 0, 0), none, some (.if_icmp .eq 10, 3, 39, 0, 0, 0), none, none, some (.iload_n 3, 1, 0, 0, 0, 0), some (.iconst 1, 1, 0, 0, 0, 0), some (.iload 5, 2, 0, 0, 0, 0), none, some (.ishl, 1, 0, 0, 0, 0), some (.ior, 1, 0, 0, 0, 0), some (.istore_n 3, 1, 0, 0, 0, 0), some (.iinc 4 1, 3, 0, 0, 0, 0), none, none, some (.goto (-37), 3, 5, 0, 0, 0), none, none, some (.iload_n 3, 1, 0, 0, 0, 0), some (.ireturn, 1, 0, 0, 0, 0)]
/-- X10_howManyIn(II)I -/
def am_c1015 : List (Option am_En) := [some (.iconst 0, 1, 0, 0, 0, 0), some (.istore_n 3, 1, 0, 0, 0, 0), some (.iconst 0, 1, 0, 0, 0, 0), some (.istore 4, 2, 0, 0, 0, 0), none, some (.iload 4, 2, 0, 0, 0, 0), none, some (.aload_n 0, 1, 0, 0, 0, 0), some (.getfield 22, 3, 10, 3, 0, 178), none, none, some (.if_icmp .ge 23, 3, 34, 0, 0, 0), none, none, some (.aload_n 0, 1, 0, 0, 0, 0), some (.iload 4, 2, 0, 0, 0, 0), none, some (.iload_n 2, 1, 0, 0, 0, 0), some (.invokevirtual 65, 3, 1006, 2, 0, 592), none, none, some (.iload_n 1, 1, 0, 0, 0, 0), some (.if_icmp .ne 6, 3, 28, 0, 0, 0), none, none, some (.iinc 3 1, 3, 0, 0, 0, 0), none, none, some (.iinc 4 1, 3, 0, 0, 0, 0), none, none, some (.goto (-26), 3, 5, 0, 0, 0), none, none, some (.iload_n 3, 1, 0, 0, 0, 0), some (.ireturn, 1, 0, 0, 0, 0)]
/-- X10_fullestCell(I)I -/
def am_c1016 : List (Option am_En) := [some (.bipush (-9), 2, 0, 0, 0, 0), none, some (.istore_n 2, 1, 0, 0, 0, 0), some (.iconst 0, 1, 0, 0, 0, 0), some (.istore_n 3, 1, 0, 0, 0, 0), some (.iconst 0, 1, 0, 0, 0, 0), some (.istore 4, 2, 0, 0, 0, 0), none, some (.iload 4, 2, 0, 0, 0, 0), none, some (.aload_n 0, 1, 0, 0, 0, 0), some (.getfield 9, 3, 10, 0, 2, 166), none, none, some (.getfield 98, 3, 5, 2, 0, 128), none, none, some (.if_icmp .ge 30, 3, 47, 0, 0, 0), none, none, some (.aload_n 0, 1, 0, 0, 0, 0), some (.iload 4, 2, 0, 0, 0, 0), none, some (.iload_n 1, 1, 0, 0, 0, 0), some (.invokevirtual 101, 3, 1015, 2, 0, 741), none, none, some (.istore 5, 2, 0, 0, 0, 0), none, some (.iload 5, 2, 0, 0, 0, 0), none, some (.iload_n 3, 1, 0, 0, 0, 0), some (.if_icmp .le 9, 3, 41, 0, 0, 0), none, none, some (.iload 4, 2, 0, 0, 0, 0), none, some (.istore_n 2, 1, 0, 0, 0, 0), some (.iload 5, 2, 0, 0, 0, 0), none, some (.istore_n 3, 1, 0, 0, 0, 0), some (.iinc 4 1, 3, 0, 0, 0, 0), none, none, some (.goto (-36), 3, 8, 0, 0, 0), none, none, some (.iload_n 2, 1, 0, 0, 0, 0), some (.ireturn, 1, 0, 0, 0, 0)]
/-- X11_init()V -/
def am_c1100 : List (Option am_En) := [some (.aload_n 0, 1, 0, 0, 0, 0), some (.invokespecial 1, 3, 0, 0, 1, 91), none, none, some (.new 7, 3, 5, 9, 0, 94), none, none, some (.dup, 1, 0, 0, 0, 0), some (.iconst 3, 1, 0, 0, 0, 0), some (.iconst 3, 1, 0, 0, 0, 0), some (.iconst 0, 1, 0, 0, 0, 0), some (.invokespecial 9, 3, 500, 3, 0, 96), none, none, some (.astore_n 1, 1, 0, 0, 0, 0), some (.aload_n 0, 1, 0, 0, 0, 0), some (.new 12, 3, 10, 6, 0, 156), none, none, some (.dup, 1, 0, 0, 0, 0), some (.aload_n 1, 1, 0, 0, 0, 0), some (.invokespecial 14, 3, 1000, 1, 0, 158), none, none, some (.putfield 17, 3, 11, 0, 2, 269), none, none, some (.aload_n 0, 1, 0, 0, 0, 0), some (.new 12, 3, 10, 6, 0, 156), none, none, some (.dup, 1, 0, 0, 0, 0), some (.aload_n 1, 1, 0, 0, 0, 0), some (.invokespecial 14, 3, 1000, 1, 0, 158), none, none, some (.putfield 23, 3, 11, 1, 2, 270), none, none, some (.aload_n 0, 1, 0, 0, 0, 0), some (.new 12, 3, 10, 6, 0, 156), none, none, some (.dup, 1, 0, 0, 0, 0), some (.aload_n 1, 1, 0, 0, 0, 0), some (.invokespecial 14, 3, 1000, 1, 0, 158), none, none, some (.putfield 26, 3, 11, 2, 2, 271), none, none, some (.aload_n 0, 1, 0, 0, 0, 0), some (.iconst 0, 1, 0, 0, 0, 0), some (.putfield 29, 3, 11, 3, 1, 272), none, none, some (.aload_n 0, 1, 0, 0, 0, 0), some (.new 33, 3, 4, 7, 0, 197), none, none, some (.dup, 1, 0, 0, 0, 0), some (.invokespecial 35, 3, 400, 0, 0, 199), none, none, some (.putfield 36, 3, 11, 4, 2, 273), none, none, some (.aload_n 0, 1, 0, 0, 0, 0), some (.new 40, 3, 7, 6, 0, 230), none, none, some (.dup, 1, 0, 0, 0, 0), some (.invokespecial 42, 3, 700, 0, 0, 232), none, none, some (.putfield 43, 3, 11, 5, 2, 274), none, none, some (.aload_n 0, 1, 0, 0, 0, 0), some (.new 47, 3, 0, 2, 0, 256), none, none, some (.dup, 1, 0, 0, 0, 0), some (.invokespecial 49, 3, 0, 0, 0, 258), none, none, some (.putfield 50, 3, 11, 6, 2, 275), none, none, some (.aload_n 0, 1, 0, 0, 0, 0), some (.bipush 12, 2, 0, 0, 0, 0), none, some (.newarray .int, 2, 0, 0, 0, 0), none, some (.putfield 54, 3, 11, 7, 2, 276), none, none, some (.aload_n 0, 1, 0, 0, 0, 0), some (.iconst 0, 1, 0, 0, 0, 0), some (.putfield 58, 3, 11, 8, 0, 277), none, none, some (.aload_n 0, 1, 0, 0, 0, 0), some (.bipush 7, 2, 0, 0, 0, 0), none, some (.newarray .int, 2, 0, 0, 0, 0), none, some (.putfield 62, 3, 11, 9, 2, 278), none, none, some (.return_, 1, 0, 0, 0, 0)]
/-- X11_feed(I)I -/
def am_c1101 : List (Option am_En) := [some (.iload_n 1, 1, 0, 0, 0, 0), some (.iconst 0, 1, 0, 0, 0, 0), some (.sipush 255, 3, 0, 0, 0, 0), none, none, some (.invokestatic 65, 3, 1129, 3, 0, 304), none, none, some (.istore_n 2, 1, 0, 0, 0, 0), some (.iload_n 2, 1, 0, 0, 0, 0), some (.ifCond .ne 16, 3, 26, 0, 0, 0), none, none, some (.aload_n 0, 1, 0, 0, 0, 0), some (.getfield 36, 3, 11, 4, 2, 273), none, none, some (.invokevirtual 69, 3, 402, 0, 0, 307), none, none, some (.ifCond .eq 6, 3, 26, 0, 0, 0), none, none, some (.bipush (-6), 2, 0, 0, 0, 0), none, some (.istore_n 2, 1, 0, 0, 0, 0), some (.iload_n 2, 1, 0, 0, 0, 0), some (.ifCond .eq 9, 3, 36, 0, 0, 0), none, none, some (.aload_n 0, 1, 0, 0, 0, 0), some (.iload_n 2, 1, 0, 0, 0, 0), some (.invokevirtual 73, 3, 1128, 1, 0, 311), none, none, some (.ireturn, 1, 0, 0, 0, 0), some (.aload_n 0, 1, 0, 0, 0, 0), some (.getfield 36, 3, 11, 4, 2, 273), none, none, some (.iload_n 1, 1, 0, 0, 0, 0), some (.invokevirtual 77, 3, 403, 1, 0, 315), none, none, some (.ireturn, 1, 0, 0, 0, 0)]
/-- X11_moor()I -/
def am_c1102 : List (Option am_En) := [some (.aload_n 0, 1, 0, 0, 0, 0), some (.getfield 36, 3, 11, 4, 2, 273), none, none, some (.invokevirtual 80, 3, 404, 0, 0, 324), none, none, some (.istore_n 2, 1, 0, 0, 0, 0), some (.iload_n 2, 1, 0, 0, 0, 0), some (.ifCond .lt 12, 3, 21, 0, 0, 0), none, none, some (.sipush (-1000), 3, 0, 0, 0, 0), none, none, some (.iload_n 2, 1, 0, 0, 0, 0), some (.isub, 1, 0, 0, 0, 0), some (.istore_n 1, 1, 0, 0, 0, 0), some (.goto 48, 3, 66, 0, 0, 0), none, none, some (.aload_n 0, 1, 0, 0, 0, 0), some (.getfield 23, 3, 11, 1, 2, 270), none, none, some (.aload_n 0, 1, 0, 0, 0, 0), some (.getfield 17, 3, 11, 0, 2, 269), none, none, some (.invokevirtual 84, 3, 1001, 1, 0, 441), none, none, some (.aload_n 0, 1, 0, 0, 0, 0), some (.getfield 36, 3, 11, 4, 2, 273), none, none, some (.aload_n 0, 1, 0, 0, 0, 0), some (.getfield 23, 3, 11, 1, 2, 270), none, none, some (.invokevirtual 88, 3, 415, 1, 0, 448), none, none, some (.istore_n 1, 1, 0, 0, 0, 0), some (.iload_n 1, 1, 0, 0, 0, 0), some (.ifCond .lt 21, 3, 66, 0, 0, 0), none, none, some (.aload_n 0, 1, 0, 0, 0, 0), some (.getfield 17, 3, 11, 0, 2, 269), none, none, some (.astore_n 3, 1, 0, 0, 0, 0), some (.aload_n 0, 1, 0, 0, 0, 0), some (.aload_n 0, 1, 0, 0, 0, 0), some (.getfield 23, 3, 11, 1, 2, 270), none, none, some (.putfield 17, 3, 11, 0, 2, 269), none, none, some (.aload_n 0, 1, 0, 0, 0, 0), some (.aload_n 3, 1, 0, 0, 0, 0), some (.putfield 23, 3, 11, 1, 2, 270), none, none, some (.aload_n 0, 1, 0, 0, 0, 0), some (.getfield 36, 3, 11, 4, 2, 273), none, none, some (.invokevirtual 92, 3, 401, 0, 0, 551), none, none, some (.iload_n 1, 1, 0, 0, 0, 0), some (.ireturn, 1, 0, 0, 0, 0)]
/-- X11_person(II)I -/
def am_c1103 : List (Option am_En) := [some (.aload_n 0, 1, 0, 0, 0, 0), some (.iload_n 1, 1, 0, 0, 0, 0), some (.invokevirtual 95, 3, 1131, 1, 0, 556), none, none, some (.istore_n 3, 1, 0, 0, 0, 0), some (.iload_n 3, 1, 0, 0, 0, 0), some (.ifCond .ne 9, 3, 16, 0, 0, 0), none, none, some (.iload_n 2, 1, 0, 0, 0, 0), some (.iconst 4, 1, 0, 0, 0, 0), some (.invokestatic 98, 3, 1130, 2, 0, 564), none, none, some (.istore_n 3, 1, 0, 0, 0, 0), some (.iload_n 3, 1, 0, 0, 0, 0), some (.ifCond .eq 9, 3, 26, 0, 0, 0), none, none, some (.aload_n 0, 1, 0, 0, 0, 0), some (.iload_n 3, 1, 0, 0, 0, 0), some (.invokevirtual 73, 3, 1128, 1, 0, 311), none, none, some (.ireturn, 1, 0, 0, 0, 0), some (.aload_n 0, 1, 0, 0, 0, 0), some (.getfield 17, 3, 11, 0, 2, 269), none, none, some (.iload_n 1, 1, 0, 0, 0, 0), some (.iload_n 2, 1, 0, 0, 0, 0), some (.invokevirtual 102, 3, 1005, 2, 0, 567), none, none, some (.ireturn, 1, 0, 0, 0, 0)]
/-- X11_delay(I)I -/
def am_c1104 : List (Option am_En) := [some (.iload_n 1, 1, 0, 0, 0, 0), some (.iconst 0, 1, 0, 0, 0, 0), some (.iconst 3, 1, 0, 0, 0, 0), some (.invokestatic 65, 3, 1129, 3, 0, 304), none, none, some (.istore_n 2, 1, 0, 0, 0, 0), some (.iload_n 2, 1, 0, 0, 0, 0), some (.ifCond .eq 9, 3, 17, 0, 0, 0), none, none, some (.aload_n 0, 1, 0, 0, 0, 0), some (.iload_n 2, 1, 0, 0, 0, 0), some (.invokevirtual 73, 3, 1128, 1, 0, 311), none, none, some (.ireturn, 1, 0, 0, 0, 0), some (.aload_n 0, 1, 0, 0, 0, 0), some (.getfield 17, 3, 11, 0, 2, 269), none, none, some (.getfield 105, 3, 10, 1, 0, 174), none, none, some (.istore_n 3, 1, 0, 0, 0, 0), some (.aload_n 0, 1, 0, 0, 0, 0), some (.getfield 17, 3, 11, 0, 2, 269), none, none, some (.iload_n 1, 1, 0, 0, 0, 0), some (.putfield 105, 3, 10, 1, 0, 174), none, none, some (.iload_n 3, 1, 0, 0, 0, 0), some (.ireturn, 1, 0, 0, 0, 0)]
/-- X11_day()I -/
def am_c1105 : List (Option am_En) := [some (.aload_n 0, 1, 0, 0, 0, 0), some (.getfield 17, 3, 11, 0, 2, 269), none, none, some (.getfield 108, 3, 10, 2, 0, 177), none, none, some (.bipush 60, 2, 0, 0, 0, 0), none, some (.if_icmp .lt 10, 3, 19, 0, 0, 0), none, none, some (.aload_n 0, 1, 0, 0, 0, 0), some (.bipush (-6), 2, 0, 0, 0, 0), none, some (.invokevirtual 73, 3, 1128, 1, 0, 311), none, none, some (.ireturn, 1, 0, 0, 0, 0), some (.aload_n 0, 1, 0, 0, 0, 0), some (.getfield 17, 3, 11, 0, 2, 269), none, none, some (.invokevirtual 111, 3, 1009, 0, 0, 682), none, none, some (.ireturn, 1, 0, 0, 0, 0)]
/-- X11_was(II)I -/
def am_c1106 : List (Option am_En) := [some (.aload_n 0, 1, 0, 0, 0, 0), some (.iload_n 1, 1, 0, 0, 0, 0), some (.invokevirtual 95, 3, 1131, 1, 0, 556), none, none, some (.istore_n 3, 1, 0, 0, 0, 0), some (.iload_n 3, 1, 0, 0, 0, 0), some (.ifCond .ne 16, 3, 23, 0, 0, 0), none, none, some (.iload_n 2, 1, 0, 0, 0, 0), some (.iconst 0, 1, 0, 0, 0, 0), some (.aload_n 0, 1, 0, 0, 0, 0), some (.getfield 17, 3, 11, 0, 2, 269), none, none, some (.getfield 108, 3, 10, 2, 0, 177), none, none, some (.invokestatic 65, 3, 1129, 3, 0, 304), none, none, some (.istore_n 3, 1, 0, 0, 0, 0), some (.iload_n 3, 1, 0, 0, 0, 0), some (.ifCond .eq 9, 3, 33, 0, 0, 0), none, none, some (.aload_n 0, 1, 0, 0, 0, 0), some (.iload_n 3, 1, 0, 0, 0, 0), some (.invokevirtual 73, 3, 1128, 1, 0, 311), none, none, some (.ireturn, 1, 0, 0, 0, 0), some (.aload_n 0, 1, 0, 0, 0, 0), some (.getfield 17, 3, 11, 0, 2, 269), none, none, some (.iload_n 1, 1, 0, 0, 0, 0), some (.iload_n 2, 1, 0, 0, 0, 0), some (.invokevirtual 114, 3, 1006, 2, 0, 695), none, none, some (.ireturn, 1, 0, 0, 0, 0)]
/-- X11_sees(II)I -/
def am_c1107 : List (Option am_En) := [some (.aload_n 0, 1, 0, 0, 0, 0), some (.iload_n 1, 1, 0, 0, 0, 0), some (.iload_n 2, 1, 0, 0, 0, 0), some (.invokevirtual 117, 3, 1132, 2, 0, 700), none, none, some (.istore_n 3, 1, 0, 0, 0, 0), some (.iload_n 3, 1, 0, 0, 0, 0), some (.ifCond .eq 9, 3, 17, 0, 0, 0), none, none, some (.aload_n 0, 1, 0, 0, 0, 0), some (.iload_n 3, 1, 0, 0, 0, 0), some (.invokevirtual 73, 3, 1128, 1, 0, 311), none, none, some (.ireturn, 1, 0, 0, 0, 0), some (.aload_n 0, 1, 0, 0, 0, 0), some (.getfield 17, 3, 11, 0, 2, 269), none, none, some (.iload_n 2, 1, 0, 0, 0, 0), some (.aload_n 0, 1, 0, 0, 0, 0), some (.getfield 17, 3, 11, 0, 2, 269), none, none, some (.getfield 108, 3, 10, 2, 0, 177), none, none, some (.invokevirtual 120, 3, 1007, 2, 0, 704), none, none, some (.ireturn, 1, 0, 0, 0, 0)]
/-- X11_behind(II)I -/
def am_c1108 : List (Option am_En) := [some (.aload_n 0, 1, 0, 0, 0, 0), some (.iload_n 1, 1, 0, 0, 0, 0), some (.invokevirtual 95, 3, 1131, 1, 0, 556), none, none, some (.istore_n 3, 1, 0, 0, 0, 0), some (.iload_n 3, 1, 0, 0, 0, 0), some (.ifCond .ne 11, 3, 18, 0, 0, 0), none, none, some (.iload_n 2, 1, 0, 0, 0, 0), some (.iconst 0, 1, 0, 0, 0, 0), some (.bipush 60, 2, 0, 0, 0, 0), none, some (.invokestatic 65, 3, 1129, 3, 0, 304), none, none, some (.istore_n 3, 1, 0, 0, 0, 0), some (.iload_n 3, 1, 0, 0, 0, 0), some (.ifCond .eq 9, 3, 28, 0, 0, 0), none, none, some (.aload_n 0, 1, 0, 0, 0, 0), some (.iload_n 3, 1, 0, 0, 0, 0), some (.invokevirtual 73, 3, 1128, 1, 0, 311), none, none, some (.ireturn, 1, 0, 0, 0, 0), some (.aload_n 0, 1, 0, 0, 0, 0), some (.getfield 17, 3, 11, 0, 2, 269), none, none, some (.iload_n 2, 1, 0, 0, 0, 0), some (.invokevirtual 123, 3, 1010, 1, 0, 709), none, none, some (.aload_n 0, 1, 0, 0, 0, 0), some (.getfield 17, 3, 11, 0, 2, 269), none, none, some (.iload_n 1, 1, 0, 0, 0, 0), some (.aload_n 0, 1, 0, 0, 0, 0), some (.getfield 17, 3, 11, 0, 2, 269), none, none, some (.getfield 108, 3, 10, 2, 0, 177), none, none, some (.iload_n 2, 1, 0, 0, 0, 0), some (.iadd, 1, 0, 0, 0, 0), some (.invokevirtual 114, 3, 1006, 2, 0, 695), none, none, some (.ireturn, 1, 0, 0, 0, 0)]
/-- X11_meet(III)I -/
def am_c1109 : List (Option am_En) := [some (.aload_n 0, 1, 0, 0, 0, 0), some (.iload_n 1, 1, 0, 0, 0, 0), some (.iload_n 2, 1, 0, 0, 0, 0), some (.invokevirtual 117, 3, 1132, 2, 0, 700), none, none, some (.istore 4, 2, 0, 0, 0, 0), none, some (.iload 4, 2, 0, 0, 0, 0), none, some (.ifCond .ne 10, 3, 20, 0, 0, 0), none, none, some (.iload_n 3, 1, 0, 0, 0, 0), some (.iconst 1, 1, 0, 0, 0, 0), some (.invokestatic 98, 3, 1130, 2, 0, 564), none, none, some (.istore 4, 2, 0, 0, 0, 0), none, some (.iload 4, 2, 0, 0, 0, 0), none, some (.ifCond .eq 10, 3, 32, 0, 0, 0), none, none, some (.aload_n 0, 1, 0, 0, 0, 0), some (.iload 4, 2, 0, 0, 0, 0), none, some (.invokevirtual 73, 3, 1128, 1, 0, 311), none, none, some (.ireturn, 1, 0, 0, 0, 0), some (.aload_n 0, 1, 0, 0, 0, 0), some (.getfield 17, 3, 11, 0, 2, 269), none, none, some (.bipush 60, 2, 0, 0, 0, 0), none, some (.invokevirtual 123, 3, 1010, 1, 0, 709), none, none, some (.iload_n 3, 1, 0, 0, 0, 0), some (.ifCond .ne 15, 3, 57, 0, 0, 0), none, none, some (.aload_n 0, 1, 0, 0, 0, 0), some (.getfield 17, 3, 11, 0, 2, 269), none, none, some (.iload_n 1, 1, 0, 0, 0, 0), some (.iload_n 2, 1, 0, 0, 0, 0), some (.invokevirtual 127, 3, 1012, 2, 0, 717), none, none, some (.goto 12, 3, 66, 0, 0, 0), none, none, some (.aload_n 0, 1, 0, 0, 0, 0), some (.getfield 17, 3, 11, 0, 2, 269), none, none, some (.iload_n 1, 1, 0, 0, 0, 0), some (.iload_n 2, 1, 0, 0, 0, 0), some (.invokevirtual 130, 3, 1013, 2, 0, 721), none, none, some (.ireturn, 1, 0, 0, 0, 0)]
/-- X11_never(II)I -/
def am_c1110 : List (Option am_En) := [some (.aload_n 0, 1, 0, 0, 0, 0), some (.iload_n 1, 1, 0, 0, 0, 0), some (.invokevirtual 95, 3, 1131, 1, 0, 556), none, none, some (.istore_n 3, 1, 0, 0, 0, 0), some (.iload_n 3, 1, 0, 0, 0, 0), some (.ifCond .ne 11, 3, 18, 0, 0, 0), none, none, some (.iload_n 2, 1, 0, 0, 0, 0), some (.iconst 0, 1, 0, 0, 0, 0), some (.bipush 60, 2, 0, 0, 0, 0), none, some (.invokestatic 65, 3, 1129, 3, 0, 304), none, none, some (.istore_n 3, 1, 0, 0, 0, 0), some (.iload_n 3, 1, 0, 0, 0, 0), some (.ifCond .eq 9, 3, 28, 0, 0, 0), none, none, some (.aload_n 0, 1, 0, 0, 0, 0), some (.iload_n 3, 1, 0, 0, 0, 0), some (.invokevirtual 73, 3, 1128, 1, 0, 311), none, none, some (.ireturn, 1, 0, 0, 0, 0), some (.aload_n 0, 1, 0, 0, 0, 0), some (.getfield 17, 3, 11, 0, 2, 269), none, none, some (.iload_n 2, 1, 0, 0, 0, 0), some (.invokevirtual 123, 3, 1010, 1, 0, 709), none, none, some (.aload_n 0, 1, 0, 0, 0, 0), some (.getfield 17, 3, 11, 0, 2, 269), none, none, some (.getfield 133, 3, 10, 0, 2, 171), none, none, some (.getfield 137, 3, 5, 3, 0, 130), none, none, some (.aload_n 0, 1, 0, 0, 0, 0), some (.getfield 17, 3, 11, 0, 2, 269), none, none, some (.iload_n 1, 1, 0, 0, 0, 0), some (.iload_n 2, 1, 0, 0, 0, 0), some (.invokevirtual 140, 3, 1014, 2, 0, 729), none, none, some (.iconst (-1), 1, 0, 0, 0, 0), some (.ixor, 1, 0, 0, 0, 0), some (.iand, 1, 0, 0, 0, 0), some (.ireturn, 1, 0, 0, 0, 0)]
/-- X11_crowd(II)I -/
def am_c1111 : List (Option am_En) := [some (.iload_n 2, 1, 0, 0, 0, 0), some (.iconst 1, 1, 0, 0, 0, 0), some (.invokestatic 98, 3, 1130, 2, 0, 564), none, none, some (.istore_n 3, 1, 0, 0, 0, 0), some (.iload_n 3, 1, 0, 0, 0, 0), some (.ifCond .ne 11, 3, 18, 0, 0, 0), none, none, some (.iload_n 1, 1, 0, 0, 0, 0), some (.iconst 0, 1, 0, 0, 0, 0), some (.bipush 60, 2, 0, 0, 0, 0), none, some (.invokestatic 65, 3, 1129, 3, 0, 304), none, none, some (.istore_n 3, 1, 0, 0, 0, 0), some (.iload_n 3, 1, 0, 0, 0, 0), some (.ifCond .eq 9, 3, 28, 0, 0, 0), none, none, some (.aload_n 0, 1, 0, 0, 0, 0), some (.iload_n 3, 1, 0, 0, 0, 0), some (.invokevirtual 73, 3, 1128, 1, 0, 311), none, none, some (.ireturn, 1, 0, 0, 0, 0), some (.aload_n 0, 1, 0, 0, 0, 0), some (.getfield 17, 3, 11, 0, 2, 269), none, none, some (.iload_n 1, 1, 0, 0, 0, 0), some (.invokevirtual 123, 3, 1010, 1, 0, 709), none, none, some (.aload_n 0, 1, 0, 0, 0, 0), some (.getfield 17, 3, 11, 0, 2, 269), none, none, some (.aload_n 0, 1, 0, 0, 0, 0), some (.getfield 17, 3, 11, 0, 2, 269), none, none, some (.getfield 108, 3, 10, 2, 0, 177), none, none, some (.iload_n 1, 1, 0, 0, 0, 0), some (.iadd, 1, 0, 0, 0, 0), some (.invokevirtual 143, 3, 1016, 1, 0, 737), none, none, some (.istore 4, 2, 0, 0, 0, 0), none, some (.iload_n 2, 1, 0, 0, 0, 0), some (.iconst 1, 1, 0, 0, 0, 0), some (.if_icmp .ne 6, 3, 62, 0, 0, 0), none, none, some (.iload 4, 2, 0, 0, 0, 0), none, some (.ireturn, 1, 0, 0, 0, 0), some (.iload 4, 2, 0, 0, 0, 0), none, some (.bipush (-9), 2, 0, 0, 0, 0), none, some (.if_icmp .ne 7, 3, 73, 0, 0, 0), none, none, some (.iconst 0, 1, 0, 0, 0, 0), some (.goto 21, 3, 91, 0, 0, 0), none, none, some (.aload_n 0, 1, 0, 0, 0, 0), some (.getfield 17, 3, 11, 0, 2, 269), none, none, some (.iload 4, 2, 0, 0, 0, 0), none, some (.aload_n 0, 1, 0, 0, 0, 0), some (.getfield 17, 3, 11, 0, 2, 269), none, none, some (.getfield 108, 3, 10, 2, 0, 177), none, none, some (.iload_n 1, 1, 0, 0, 0, 0), some (.iadd, 1, 0, 0, 0, 0), some (.invokevirtual 146, 3, 1015, 2, 0, 745), none, none, some (.ireturn, 1, 0, 0, 0, 0)]
/-- X11_reach(II)I -/
def am_c1112 : List (Option am_En) := [some (.aload_n 0, 1, 0, 0, 0, 0), some (.iload_n 1, 1, 0, 0, 0, 0), some (.invokevirtual 149, 3, 1133, 1, 0, 750), none, none, some (.istore_n 3, 1, 0, 0, 0, 0), some (.iload_n 3, 1, 0, 0, 0, 0), some (.ifCond .ne 11, 3, 18, 0, 0, 0), none, none, some (.iload_n 2, 1, 0, 0, 0, 0), some (.iconst 0, 1, 0, 0, 0, 0), some (.bipush 30, 2, 0, 0, 0, 0), none, some (.invokestatic 65, 3, 1129, 3, 0, 304), none, none, some (.istore_n 3, 1, 0, 0, 0, 0), some (.iload_n 3, 1, 0, 0, 0, 0), some (.ifCond .eq 9, 3, 28, 0, 0, 0), none, none, some (.aload_n 0, 1, 0, 0, 0, 0), some (.iload_n 3, 1, 0, 0, 0, 0), some (.invokevirtual 73, 3, 1128, 1, 0, 311), none, none, some (.ireturn, 1, 0, 0, 0, 0), some (.aload_n 0, 1, 0, 0, 0, 0), some (.getfield 17, 3, 11, 0, 2, 269), none, none, some (.getfield 133, 3, 10, 0, 2, 171), none, none, some (.iload_n 1, 1, 0, 0, 0, 0), some (.iload_n 2, 1, 0, 0, 0, 0), some (.invokevirtual 152, 3, 510, 2, 0, 755), none, none, some (.ireturn, 1, 0, 0, 0, 0)]
/-- X11_can(II)I -/
def am_c1113 : List (Option am_En) := [some (.aload_n 0, 1, 0, 0, 0, 0), some (.iload_n 1, 1, 0, 0, 0, 0), some (.iload_n 2, 1, 0, 0, 0, 0), some (.invokevirtual 117, 3, 1132, 2, 0, 700), none, none, some (.istore_n 3, 1, 0, 0, 0, 0), some (.iload_n 3, 1, 0, 0, 0, 0), some (.ifCond .eq 9, 3, 17, 0, 0, 0), none, none, some (.aload_n 0, 1, 0, 0, 0, 0), some (.iload_n 3, 1, 0, 0, 0, 0), some (.invokevirtual 73, 3, 1128, 1, 0, 311), none, none, some (.ireturn, 1, 0, 0, 0, 0), some (.aload_n 0, 1, 0, 0, 0, 0), some (.getfield 17, 3, 11, 0, 2, 269), none, none, some (.getfield 133, 3, 10, 0, 2, 171), none, none, some (.aload_n 0, 1, 0, 0, 0, 0), some (.getfield 17, 3, 11, 0, 2, 269), none, none, some (.iload_n 2, 1, 0, 0, 0, 0), some (.aload_n 0, 1, 0, 0, 0, 0), some (.getfield 17, 3, 11, 0, 2, 269), none, none, some (.getfield 108, 3, 10, 2, 0, 177), none, none, some (.invokevirtual 120, 3, 1007, 2, 0, 704), none, none, some (.aload_n 0, 1, 0, 0, 0, 0), some (.getfield 17, 3, 11, 0, 2, 269), none, none, some (.getfield 105, 3, 10, 1, 0, 174), none, none, some (.invokevirtual 152, 3, 510, 2, 0, 755), none, none, some (.ireturn, 1, 0, 0, 0, 0)]
/-- X11_ways(III)I -/
def am_c1114 : List (Option am_En) := [some (.aload_n 0, 1, 0, 0, 0, 0), some (.iload_n 1, 1, 0, 0, 0, 0), some (.invokevirtual 149, 3, 1133, 1, 0, 750), none, none, some (.istore 4, 2, 0, 0, 0, 0), none, some (.iload 4, 2, 0, 0, 0, 0), none, some (.ifCond .ne 10, 3, 19, 0, 0, 0), none, none, some (.aload_n 0, 1, 0, 0, 0, 0), some (.iload_n 2, 1, 0, 0, 0, 0), some (.invokevirtual 149, 3, 1133, 1, 0, 750), none, none, some (.istore 4, 2, 0, 0, 0, 0), none, some (.iload 4, 2, 0, 0, 0, 0), none, some (.ifCond .ne 12, 3, 33, 0, 0, 0), none, none, some (.iload_n 3, 1, 0, 0, 0, 0), some (.iconst 0, 1, 0, 0, 0, 0), some (.bipush 10, 2, 0, 0, 0, 0), none, some (.invokestatic 65, 3, 1129, 3, 0, 304), none, none, some (.istore 4, 2, 0, 0, 0, 0), none, some (.iload 4, 2, 0, 0, 0, 0), none, some (.ifCond .eq 10, 3, 45, 0, 0, 0), none, none, some (.aload_n 0, 1, 0, 0, 0, 0), some (.iload 4, 2, 0, 0, 0, 0), none, some (.invokevirtual 73, 3, 1128, 1, 0, 311), none, none, some (.ireturn, 1, 0, 0, 0, 0), some (.aload_n 0, 1, 0, 0, 0, 0), some (.getfield 43, 3, 11, 5, 2, 274), none, none, some (.aload_n 0, 1, 0, 0, 0, 0), some (.getfield 17, 3, 11, 0, 2, 269), none, none, some (.getfield 133, 3, 10, 0, 2, 171), none, none, some (.iload_n 1, 1, 0, 0, 0, 0), some (.iload_n 2, 1, 0, 0, 0, 0), some (.iload_n 3, 1, 0, 0, 0, 0), some (.invokevirtual 155, 3, 705, 4, 0, 767), none, none, some (.ireturn, 1, 0, 0, 0, 0)]
/-- X11_sight(II)I -/
def am_c1115 : List (Option am_En) := [some (.iload_n 1, 1, 0, 0, 0, 0), some (.ifCond .ge 8, 3, 9, 0, 0, 0), none, none, some (.bipush (-4), 2, 0, 0, 0, 0), none, some (.goto 8, 3, 14, 0, 0, 0), none, none, some (.aload_n 0, 1, 0, 0, 0, 0), some (.iload_n 2, 1, 0, 0, 0, 0), some (.invokevirtual 149, 3, 1133, 1, 0, 750), none, none, some (.istore_n 3, 1, 0, 0, 0, 0), some (.iload_n 3, 1, 0, 0, 0, 0), some (.ifCond .ne 22, 3, 38, 0, 0, 0), none, none, some (.iload_n 1, 1, 0, 0, 0, 0), some (.bipush 10, 2, 0, 0, 0, 0), none, some (.if_icmp .gt 13, 3, 35, 0, 0, 0), none, none, some (.aload_n 0, 1, 0, 0, 0, 0), some (.getfield 43, 3, 11, 5, 2, 274), none, none, some (.invokevirtual 159, 3, 701, 0, 0, 788), none, none, some (.ifCond .eq 6, 3, 38, 0, 0, 0), none, none, some (.bipush (-6), 2, 0, 0, 0, 0), none, some (.istore_n 3, 1, 0, 0, 0, 0), some (.iload_n 3, 1, 0, 0, 0, 0), some (.ifCond .eq 9, 3, 48, 0, 0, 0), none, none, some (.aload_n 0, 1, 0, 0, 0, 0), some (.iload_n 3, 1, 0, 0, 0, 0), some (.invokevirtual 73, 3, 1128, 1, 0, 311), none, none, some (.ireturn, 1, 0, 0, 0, 0), some (.aload_n 0, 1, 0, 0, 0, 0), some (.getfield 43, 3, 11, 5, 2, 274), none, none, some (.iload_n 1, 1, 0, 0, 0, 0), some (.iload_n 2, 1, 0, 0, 0, 0), some (.invokevirtual 160, 3, 702, 2, 0, 792), none, none, some (.ireturn, 1, 0, 0, 0, 0)]
/-- X11_fits(I)I -/
def am_c1116 : List (Option am_En) := [some (.aload_n 0, 1, 0, 0, 0, 0), some (.iload_n 1, 1, 0, 0, 0, 0), some (.invokevirtual 149, 3, 1133, 1, 0, 750), none, none, some (.istore_n 2, 1, 0, 0, 0, 0), some (.iload_n 2, 1, 0, 0, 0, 0), some (.ifCond .eq 9, 3, 16, 0, 0, 0), none, none, some (.aload_n 0, 1, 0, 0, 0, 0), some (.iload_n 2, 1, 0, 0, 0, 0), some (.invokevirtual 73, 3, 1128, 1, 0, 311), none, none, some (.ireturn, 1, 0, 0, 0, 0), some (.aload_n 0, 1, 0, 0, 0, 0), some (.getfield 43, 3, 11, 5, 2, 274), none, none, some (.aload_n 0, 1, 0, 0, 0, 0), some (.getfield 17, 3, 11, 0, 2, 269), none, none, some (.getfield 133, 3, 10, 0, 2, 171), none, none, some (.iload_n 1, 1, 0, 0, 0, 0), some (.invokevirtual 163, 3, 706, 2, 0, 801), none, none, some (.ireturn, 1, 0, 0, 0, 0)]
/-- X11_guess(II)I -/
def am_c1117 : List (Option am_En) := [some (.aload_n 0, 1, 0, 0, 0, 0), some (.iload_n 1, 1, 0, 0, 0, 0), some (.invokevirtual 149, 3, 1133, 1, 0, 750), none, none, some (.istore_n 3, 1, 0, 0, 0, 0), some (.iload_n 3, 1, 0, 0, 0, 0), some (.ifCond .ne 16, 3, 23, 0, 0, 0), none, none, some (.iload_n 2, 1, 0, 0, 0, 0), some (.iconst 0, 1, 0, 0, 0, 0), some (.aload_n 0, 1, 0, 0, 0, 0), some (.getfield 43, 3, 11, 5, 2, 274), none, none, some (.invokevirtual 167, 3, 704, 0, 0, 822), none, none, some (.invokestatic 65, 3, 1129, 3, 0, 304), none, none, some (.istore_n 3, 1, 0, 0, 0, 0), some (.iload_n 3, 1, 0, 0, 0, 0), some (.ifCond .eq 9, 3, 33, 0, 0, 0), none, none, some (.aload_n 0, 1, 0, 0, 0, 0), some (.iload_n 3, 1, 0, 0, 0, 0), some (.invokevirtual 73, 3, 1128, 1, 0, 311), none, none, some (.ireturn, 1, 0, 0, 0, 0), some (.aload_n 0, 1, 0, 0, 0, 0), some (.getfield 43, 3, 11, 5, 2, 274), none, none, some (.aload_n 0, 1, 0, 0, 0, 0), some (.getfield 17, 3, 11, 0, 2, 269), none, none, some (.getfield 133, 3, 10, 0, 2, 171), none, none, some (.iload_n 1, 1, 0, 0, 0, 0), some (.iload_n 2, 1, 0, 0, 0, 0), some (.invokevirtual 170, 3, 707, 3, 0, 823), none, none, some (.ireturn, 1, 0, 0, 0, 0)]
/-- X11_forget()I -/
def am_c1118 : List (Option am_En) := [some (.aload_n 0, 1, 0, 0, 0, 0), some (.getfield 43, 3, 11, 5, 2, 274), none, none, some (.invokevirtual 174, 3, 703, 0, 0, 835), none, none, some (.ireturn, 1, 0, 0, 0, 0)]
/-- X11_game(III)I -/
def am_c1119 : List (Option am_En) := [some (.aload_n 0, 1, 0, 0, 0, 0), some (.iload_n 1, 1, 0, 0, 0, 0), some (.invokevirtual 149, 3, 1133, 1, 0, 750), none, none, some (.istore 4, 2, 0, 0, 0, 0), none, some (.iload 4, 2, 0, 0, 0, 0), none, some (.ifCond .ne 10, 3, 19, 0, 0, 0), none, none, some (.aload_n 0, 1, 0, 0, 0, 0), some (.iload_n 2, 1, 0, 0, 0, 0), some (.invokevirtual 149, 3, 1133, 1, 0, 750), none, none, some (.istore 4, 2, 0, 0, 0, 0), none, some (.iload 4, 2, 0, 0, 0, 0), none, some (.ifCond .ne 10, 3, 31, 0, 0, 0), none, none, some (.iload_n 3, 1, 0, 0, 0, 0), some (.iconst 1, 1, 0, 0, 0, 0), some (.invokestatic 98, 3, 1130, 2, 0, 564), none, none, some (.istore 4, 2, 0, 0, 0, 0), none, some (.iload 4, 2, 0, 0, 0, 0), none, some (.ifCond .eq 10, 3, 43, 0, 0, 0), none, none, some (.aload_n 0, 1, 0, 0, 0, 0), some (.iload 4, 2, 0, 0, 0, 0), none, some (.invokevirtual 73, 3, 1128, 1, 0, 311), none, none, some (.ireturn, 1, 0, 0, 0, 0), some (.iload_n 3, 1, 0, 0, 0, 0), some (.ifCond .ne 20, 3, 64, 0, 0, 0), none, none, some (.aload_n 0, 1, 0, 0, 0, 0), some (.getfield 50, 3, 11, 6, 2, 275), none, none, some (.aload_n 0, 1, 0, 0, 0, 0), some (.getfield 17, 3, 11, 0, 2, 269), none, none, some (.getfield 133, 3, 10, 0, 2, 171), none, none, some (.iload_n 1, 1, 0, 0, 0, 0), some (.iload_n 2, 1, 0, 0, 0, 0), some (.invokevirtual 176, 3, 1, 3, 0, 843), none, none, some (.ireturn, 1, 0, 0, 0, 0), some (.aload_n 0, 1, 0, 0, 0, 0), some (.getfield 50, 3, 11, 6, 2, 275), none, none, some (.aload_n 0, 1, 0, 0, 0, 0), some (.getfield 17, 3, 11, 0, 2, 269), none, none, some (.getfield 133, 3, 10, 0, 2, 171), none, none, some (.iload_n 1, 1, 0, 0, 0, 0), some (.iload_n 2, 1, 0, 0, 0, 0), some (.invokevirtual 179, 3, 2, 3, 0, 861), none, none, some (.ireturn, 1, 0, 0, 0, 0)]
/-- X11_watchers(II)I -/
def am_c1120 : List (Option am_En) := [some (.iload_n 1, 1, 0, 0, 0, 0), some (.iconst 1, 1, 0, 0, 0, 0), some (.iconst 5, 1, 0, 0, 0, 0), some (.invokestatic 65, 3, 1129, 3, 0, 304), none, none, some (.istore_n 3, 1, 0, 0, 0, 0), some (.iload_n 3, 1, 0, 0, 0, 0), some (.ifCond .ne 9, 3, 17, 0, 0, 0), none, none, some (.iload_n 2, 1, 0, 0, 0, 0), some (.iconst 1, 1, 0, 0, 0, 0), some (.invokestatic 98, 3, 1130, 2, 0, 564), none, none, some (.istore_n 3, 1, 0, 0, 0, 0), some (.iload_n 3, 1, 0, 0, 0, 0), some (.ifCond .eq 9, 3, 27, 0, 0, 0), none, none, some (.aload_n 0, 1, 0, 0, 0, 0), some (.iload_n 3, 1, 0, 0, 0, 0), some (.invokevirtual 73, 3, 1128, 1, 0, 311), none, none, some (.ireturn, 1, 0, 0, 0, 0), some (.aload_n 0, 1, 0, 0, 0, 0), some (.getfield 17, 3, 11, 0, 2, 269), none, none, some (.getfield 133, 3, 10, 0, 2, 171), none, none, some (.iload_n 1, 1, 0, 0, 0, 0), some (.invokevirtual 182, 3, 512, 1, 0, 870), none, none, some (.istore 4, 2, 0, 0, 0, 0), none, some (.iload_n 2, 1, 0, 0, 0, 0), some (.iconst 1, 1, 0, 0, 0, 0), some (.if_icmp .eq 10, 3, 52, 0, 0, 0), none, none, some (.iload 4, 2, 0, 0, 0, 0), none, some (.bipush (-9), 2, 0, 0, 0, 0), none, some (.if_icmp .ne 8, 3, 57, 0, 0, 0), none, none, some (.iload 4, 2, 0, 0, 0, 0), none, some (.goto 8, 3, 62, 0, 0, 0), none, none, some (.iload 4, 2, 0, 0, 0, 0), none, some (.invokestatic 185, 3, 1300, 1, 0, 886), none, none, some (.ireturn, 1, 0, 0, 0, 0)]
/-- X11_row(I)I -/
def am_c1121 : List (Option am_En) := [some (.iload_n 1, 1, 0, 0, 0, 0), some (.iconst 0, 1, 0, 0, 0, 0), some (.bipush 29, 2, 0, 0, 0, 0), none, some (.invokestatic 65, 3, 1129, 3, 0, 304), none, none, some (.istore_n 2, 1, 0, 0, 0, 0), some (.iload_n 2, 1, 0, 0, 0, 0), some (.ifCond .ne 18, 3, 27, 0, 0, 0), none, none, some (.aload_n 0, 1, 0, 0, 0, 0), some (.getfield 58, 3, 11, 8, 0, 277), none, none, some (.aload_n 0, 1, 0, 0, 0, 0), some (.getfield 54, 3, 11, 7, 2, 276), none, none, some (.arraylength, 1, 0, 0, 0, 0), some (.if_icmp .lt 6, 3, 27, 0, 0, 0), none, none, some (.bipush (-6), 2, 0, 0, 0, 0), none, some (.istore_n 2, 1, 0, 0, 0, 0), some (.iload_n 2, 1, 0, 0, 0, 0), some (.ifCond .eq 9, 3, 37, 0, 0, 0), none, none, some (.aload_n 0, 1, 0, 0, 0, 0), some (.iload_n 2, 1, 0, 0, 0, 0), some (.invokevirtual 73, 3, 1128, 1, 0, 311), none, none, some (.ireturn, 1, 0, 0, 0, 0), some (.aload_n 0, 1, 0, 0, 0, 0), some (.getfield 54, 3, 11, 7, 2, 276), none, none, some (.aload_n 0, 1, 0, 0, 0, 0), some (.getfield 58, 3, 11, 8, 0, 277), none, none, some (.iload_n 1, 1, 0, 0, 0, 0), some (.iastore, 1, 0, 0, 0, 0), some (.aload_n 0, 1, 0, 0, 0, 0), some (.dup, 1, 0, 0, 0, 0), some (.getfield 58, 3, 11, 8, 0, 277), none, none, some (.iconst 1, 1, 0, 0, 0, 0), some (.iadd, 1, 0, 0, 0, 0), some (.putfield 58, 3, 11, 8, 0, 277), none, none, some (.aload_n 0, 1, 0, 0, 0, 0), some (.getfield 58, 3, 11, 8, 0, 277), none, none, some (.ireturn, 1, 0, 0, 0, 0)]
/-- X11_judge(I)I -/
def am_c1122 : List (Option am_En) := [some (.aload_n 0, 1, 0, 0, 0, 0), some (.iload_n 1, 1, 0, 0, 0, 0), some (.invokevirtual 95, 3, 1131, 1, 0, 556), none, none, some (.istore_n 2, 1, 0, 0, 0, 0), some (.iload_n 2, 1, 0, 0, 0, 0), some (.ifCond .eq 9, 3, 16, 0, 0, 0), none, none, some (.aload_n 0, 1, 0, 0, 0, 0), some (.iload_n 2, 1, 0, 0, 0, 0), some (.invokevirtual 73, 3, 1128, 1, 0, 311), none, none, some (.ireturn, 1, 0, 0, 0, 0), some (.aload_n 0, 1, 0, 0, 0, 0), some (.getfield 17, 3, 11, 0, 2, 269), none, none, some (.aload_n 0, 1, 0, 0, 0, 0), some (.getfield 58, 3, 11, 8, 0, 277), none, none, some (.invokevirtual 123, 3, 1010, 1, 0, 709), none, none, some (.bipush (-9), 2, 0, 0, 0, 0), none, some (.istore_n 3, 1, 0, 0, 0, 0), some (.aload_n 0, 1, 0, 0, 0, 0), some (.getfield 58, 3, 11, 8, 0, 277), none, none, some (.iconst 1, 1, 0, 0, 0, 0), some (.isub, 1, 0, 0, 0, 0), some (.istore 4, 2, 0, 0, 0, 0), none, some (.iload 4, 2, 0, 0, 0, 0), none, some (.ifCond .lt 40, 3, 80, 0, 0, 0), none, none, some (.aload_n 0, 1, 0, 0, 0, 0), some (.getfield 54, 3, 11, 7, 2, 276), none, none, some (.iload 4, 2, 0, 0, 0, 0), none, some (.iaload, 1, 0, 0, 0, 0), some (.aload_n 0, 1, 0, 0, 0, 0), some (.getfield 17, 3, 11, 0, 2, 269), none, none, some (.iload_n 1, 1, 0, 0, 0, 0), some (.aload_n 0, 1, 0, 0, 0, 0), some (.getfield 17, 3, 11, 0, 2, 269), none, none, some (.getfield 108, 3, 10, 2, 0, 177), none, none, some (.iload 4, 2, 0, 0, 0, 0), none, some (.iadd, 1, 0, 0, 0, 0), some (.invokevirtual 114, 3, 1006, 2, 0, 695), none, none, some (.if_icmp .eq 6, 3, 74, 0, 0, 0), none, none, some (.iload 4, 2, 0, 0, 0, 0), none, some (.istore_n 3, 1, 0, 0, 0, 0), some (.iinc 4 (-1), 3, 0, 0, 0, 0), none, none, some (.goto (-39), 3, 38, 0, 0, 0), none, none, some (.aload_n 0, 1, 0, 0, 0, 0), some (.iconst 0, 1, 0, 0, 0, 0), some (.putfield 58, 3, 11, 8, 0, 277), none, none, some (.iload_n 3, 1, 0, 0, 0, 0), some (.ireturn, 1, 0, 0, 0, 0)]
/-- X11_seeds(IIII)I -/
def am_c1123 : List (Option am_En) := [some (.aload_n 0, 1, 0, 0, 0, 0), some (.iload_n 1, 1, 0, 0, 0, 0), some (.invokevirtual 149, 3, 1133, 1, 0, 750), none, none, some (.istore 5, 2, 0, 0, 0, 0), none, some (.iload 5, 2, 0, 0, 0, 0), none, some (.ifCond .ne 12, 3, 21, 0, 0, 0), none, none, some (.iload_n 2, 1, 0, 0, 0, 0), some (.iconst 1, 1, 0, 0, 0, 0), some (.bipush 60, 2, 0, 0, 0, 0), none, some (.invokestatic 65, 3, 1129, 3, 0, 304), none, none, some (.istore 5, 2, 0, 0, 0, 0), none, some (.iload 5, 2, 0, 0, 0, 0), none, some (.ifCond .ne 11, 3, 34, 0, 0, 0), none, none, some (.iload 4, 2, 0, 0, 0, 0), none, some (.iconst 1, 1, 0, 0, 0, 0), some (.invokestatic 98, 3, 1130, 2, 0, 564), none, none, some (.istore 5, 2, 0, 0, 0, 0), none, some (.iload 5, 2, 0, 0, 0, 0), none, some (.ifCond .eq 10, 3, 46, 0, 0, 0), none, none, some (.aload_n 0, 1, 0, 0, 0, 0), some (.iload 5, 2, 0, 0, 0, 0), none, some (.invokevirtual 73, 3, 1128, 1, 0, 311), none, none, some (.ireturn, 1, 0, 0, 0, 0), some (.iload_n 1, 1, 0, 0, 0, 0), some (.istore 6, 2, 0, 0, 0, 0), none, some (.iload_n 3, 1, 0, 0, 0, 0), some (.istore 7, 2, 0, 0, 0, 0), none, some (.iconst 1, 1, 0, 0, 0, 0), some (.iload_n 1, 1, 0, 0, 0, 0), some (.ishl, 1, 0, 0, 0, 0), some (.istore 8, 2, 0, 0, 0, 0), none, some (.iconst 0, 1, 0, 0, 0, 0), some (.istore 9, 2, 0, 0, 0, 0), none, some (.iload 9, 2, 0, 0, 0, 0), none, some (.iload_n 2, 1, 0, 0, 0, 0), some (.if_icmp .ge 51, 3, 114, 0, 0, 0), none, none, some (.iload 7, 2, 0, 0, 0, 0), none, some (.ldc 190, 2, 1103515245, 0, 0, 904), none, some (.imul, 1, 0, 0, 0, 0), some (.sipush 12345, 3, 0, 0, 0, 0), none, none, some (.iadd, 1, 0, 0, 0, 0), some (.istore 7, 2, 0, 0, 0, 0), none, some (.aload_n 0, 1, 0, 0, 0, 0), some (.getfield 17, 3, 11, 0, 2, 269), none, none, some (.getfield 133, 3, 10, 0, 2, 171), none, none, some (.iload 6, 2, 0, 0, 0, 0), none, some (.iload 7, 2, 0, 0, 0, 0), none, some (.ldc 191, 2, 2147483647, 0, 0, 905), none, some (.iand, 1, 0, 0, 0, 0), some (.bipush 16, 2, 0, 0, 0, 0), none, some (.iushr, 1, 0, 0, 0, 0), some (.invokevirtual 192, 3, 511, 2, 0, 906), none, none, some (.istore 6, 2, 0, 0, 0, 0), none, some (.iload 8, 2, 0, 0, 0, 0), none, some (.iconst 1, 1, 0, 0, 0, 0), some (.iload 6, 2, 0, 0, 0, 0), none, some (.ishl, 1, 0, 0, 0, 0), some (.ior, 1, 0, 0, 0, 0), some (.istore 8, 2, 0, 0, 0, 0), none, some (.iinc 9 1, 3, 0, 0, 0, 0), none, none, some (.goto (-51), 3, 60, 0, 0, 0), none, none, some (.iload 4, 2, 0, 0, 0, 0), none, some (.ifCond .ne 8, 3, 124, 0, 0, 0), none, none, some (.iload 6, 2, 0, 0, 0, 0), none, some (.goto 8, 3, 129, 0, 0, 0), none, none, some (.iload 8, 2, 0, 0, 0, 0), none, some (.invokestatic 185, 3, 1300, 1, 0, 886), none, none, some (.ireturn, 1, 0, 0, 0, 0)]
/-- X11_image()I -/
def am_c1124 : List (Option am_En) := [some (.aload_n 0, 1, 0, 0, 0, 0), some (.getfield 26, 3, 11, 2, 2, 271), none, none, some (.aload_n 0, 1, 0, 0, 0, 0), some (.getfield 17, 3, 11, 0, 2, 269), none, none, some (.invokevirtual 84, 3, 1001, 1, 0, 441), none, none, some (.aload_n 0, 1, 0, 0, 0, 0), some (.iconst 1, 1, 0, 0, 0, 0), some (.putfield 29, 3, 11, 3, 1, 272), none, none, some (.aload_n 0, 1, 0, 0, 0, 0), some (.getfield 17, 3, 11, 0, 2, 269), none, none, some (.getfield 108, 3, 10, 2, 0, 177), none, none, some (.ireturn, 1, 0, 0, 0, 0)]
/-- X11_restore()I -/
def am_c1125 : List (Option am_En) := [some (.aload_n 0, 1, 0, 0, 0, 0), some (.getfield 29, 3, 11, 3, 1, 272), none, none, some (.ifCond .ne 10, 3, 14, 0, 0, 0), none, none, some (.aload_n 0, 1, 0, 0, 0, 0), some (.bipush (-3), 2, 0, 0, 0, 0), none, some (.invokevirtual 73, 3, 1128, 1, 0, 311), none, none, some (.ireturn, 1, 0, 0, 0, 0), some (.aload_n 0, 1, 0, 0, 0, 0), some (.getfield 17, 3, 11, 0, 2, 269), none, none, some (.aload_n 0, 1, 0, 0, 0, 0), some (.getfield 26, 3, 11, 2, 2, 271), none, none, some (.invokevirtual 84, 3, 1001, 1, 0, 441), none, none, some (.aload_n 0, 1, 0, 0, 0, 0), some (.getfield 17, 3, 11, 0, 2, 269), none, none, some (.getfield 108, 3, 10, 2, 0, 177), none, none, some (.ireturn, 1, 0, 0, 0, 0)]
/-- X11_count(I)I -/
def am_c1126 : List (Option am_En) := [some (.iload_n 1, 1, 0, 0, 0, 0), some (.tableswitch 129 0 8 #[51, 62, 73, 81, 92, 100, 108, 116, 124], 51, 0, 0, 0, 0), none, none, none, none, none, none, none, none, none, none, none, none, none, none, none, none, none, none, none, none, none, none, none, none, none, none, none, none, none, none, none, none, none, none, none, none, none, none, none, none, none, none, none, none, none, none, none, none, none, none, some (.aload_n 0, 1, 0, 0, 0, 0), some (.getfield 17, 3, 11, 0, 2, 269), none, none, some (.getfield 133, 3, 10, 0, 2, 171), none, none, some (.getfield 195, 3, 5, 0, 0, 122), none, none, some (.ireturn, 1, 0, 0, 0, 0), some (.aload_n 0, 1, 0, 0, 0, 0), some (.getfield 17, 3, 11, 0, 2, 269), none, none, some (.getfield 133, 3, 10, 0, 2, 171), none, none, some (.getfield 198, 3, 5, 1, 0, 124), none, none, some (.ireturn, 1, 0, 0, 0, 0), some (.aload_n 0, 1, 0, 0, 0, 0), some (.getfield 17, 3, 11, 0, 2, 269), none, none, some (.getfield 201, 3, 10, 3, 0, 181), none, none, some (.ireturn, 1, 0, 0, 0, 0), some (.aload_n 0, 1, 0, 0, 0, 0), some (.getfield 17, 3, 11, 0, 2, 269), none, none, some (.getfield 133, 3, 10, 0, 2, 171), none, none, some (.invokevirtual 204, 3, 505, 0, 0, 924), none, none, some (.ireturn, 1, 0, 0, 0, 0), some (.aload_n 0, 1, 0, 0, 0, 0), some (.getfield 17, 3, 11, 0, 2, 269), none, none, some (.getfield 108, 3, 10, 2, 0, 177), none, none, some (.ireturn, 1, 0, 0, 0, 0), some (.aload_n 0, 1, 0, 0, 0, 0), some (.getfield 17, 3, 11, 0, 2, 269), none, none, some (.getfield 105, 3, 10, 1, 0, 174), none, none, some (.ireturn, 1, 0, 0, 0, 0), some (.aload_n 0, 1, 0, 0, 0, 0), some (.getfield 43, 3, 11, 5, 2, 274), none, none, some (.getfield 207, 3, 7, 0, 0, 237), none, none, some (.ireturn, 1, 0, 0, 0, 0), some (.aload_n 0, 1, 0, 0, 0, 0), some (.getfield 36, 3, 11, 4, 2, 273), none, none, some (.getfield 208, 3, 4, 0, 0, 208), none, none, some (.ireturn, 1, 0, 0, 0, 0), some (.aload_n 0, 1, 0, 0, 0, 0), some (.getfield 58, 3, 11, 8, 0, 277), none, none, some (.ireturn, 1, 0, 0, 0, 0), some (.aload_n 0, 1, 0, 0, 0, 0), some (.iload_n 1, 1, 0, 0, 0, 0), some (.invokevirtual 209, 3, 1127, 1, 0, 928), none, none, some (.ireturn, 1, 0, 0, 0, 0)]
/-- X11_refusalsOf(I)I -/
def am_c1127 : List (Option am_En) := [some (.iload_n 1, 1, 0, 0, 0, 0), some (.bipush 10, 2, 0, 0, 0, 0), none, some (.if_icmp .le 9, 3, 12, 0, 0, 0), none, none, some (.iload_n 1, 1, 0, 0, 0, 0), some (.bipush 16, 2, 0, 0, 0, 0), none, some (.if_icmp .le 6, 3, 15, 0, 0, 0), none, none, some (.bipush (-9), 2, 0, 0, 0, 0), none, some (.ireturn, 1, 0, 0, 0, 0), some (.aload_n 0, 1, 0, 0, 0, 0), some (.getfield 62, 3, 11, 9, 2, 278), none, none, some (.iload_n 1, 1, 0, 0, 0, 0), some (.bipush 10, 2, 0, 0, 0, 0), none, some (.isub, 1, 0, 0, 0, 0), some (.iaload, 1, 0, 0, 0, 0), some (.ireturn, 1, 0, 0, 0, 0)]
/-- X11_refuse(I)I -/
def am_c1128 : List (Option am_En) := [some (.iload_n 1, 1, 0, 0, 0, 0), some (.ifCond .ge 20, 3, 21, 0, 0, 0), none, none, some (.iload_n 1, 1, 0, 0, 0, 0), some (.bipush (-6), 2, 0, 0, 0, 0), none, some (.if_icmp .lt 14, 3, 21, 0, 0, 0), none, none, some (.aload_n 0, 1, 0, 0, 0, 0), some (.getfield 62, 3, 11, 9, 2, 278), none, none, some (.iload_n 1, 1, 0, 0, 0, 0), some (.ineg, 1, 0, 0, 0, 0), some (.dup2, 1, 0, 0, 0, 0), some (.iaload, 1, 0, 0, 0, 0), some (.iconst 1, 1, 0, 0, 0, 0), some (.iadd, 1, 0, 0, 0, 0), some (.iastore, 1, 0, 0, 0, 0), some (.iload_n 1, 1, 0, 0, 0, 0), some (.ireturn, 1, 0, 0, 0, 0)]
/-- X11_outside(III)I -/
def am_c1129 : List (Option am_En) := [some (.iload_n 0, 1, 0, 0, 0, 0), some (.iload_n 1, 1, 0, 0, 0, 0), some (.if_icmp .ge 6, 3, 8, 0, 0, 0), none, none, some (.bipush (-4), 2, 0, 0, 0, 0), none, some (.ireturn, 1, 0, 0, 0, 0), some (.iload_n 0, 1, 0, 0, 0, 0), some (.iload_n 2, 1, 0, 0, 0, 0), some (.if_icmp .le 8, 3, 18, 0, 0, 0), none, none, some (.bipush (-6), 2, 0, 0, 0, 0), none, some (.goto 4, 3, 19, 0, 0, 0), none, none, some (.iconst 0, 1, 0, 0, 0, 0), some (.ireturn, 1, 0, 0, 0, 0)]
/-- X11_notAsked(II)I -/
def am_c1130 : List (Option am_En) := [some (.iload_n 0, 1, 0, 0, 0, 0), some (.ifCond .lt 8, 3, 9, 0, 0, 0), none, none, some (.iload_n 0, 1, 0, 0, 0, 0), some (.iload_n 1, 1, 0, 0, 0, 0), some (.if_icmp .le 8, 3, 14, 0, 0, 0), none, none, some (.bipush (-2), 2, 0, 0, 0, 0), none, some (.goto 4, 3, 15, 0, 0, 0), none, none, some (.iconst 0, 1, 0, 0, 0, 0), some (.ireturn, 1, 0, 0, 0, 0)]
/-- X11_notHere(I)I -/
def am_c1131 : List (Option am_En) := [some (.aload_n 0, 1, 0, 0, 0, 0), some (.getfield 17, 3, 11, 0, 2, 269), none, none, some (.iload_n 1, 1, 0, 0, 0, 0), some (.invokevirtual 212, 3, 1004, 1, 0, 560), none, none, some (.ifnonnull 7, 3, 15, 0, 0, 0), none, none, some (.iconst (-1), 1, 0, 0, 0, 0), some (.goto 4, 3, 16, 0, 0, 0), none, none, some (.iconst 0, 1, 0, 0, 0, 0), some (.ireturn, 1, 0, 0, 0, 0)]
/-- X11_notTwo(II)I -/
def am_c1132 : List (Option am_En) := [some (.iload_n 1, 1, 0, 0, 0, 0), some (.iload_n 2, 1, 0, 0, 0, 0), some (.if_icmp .eq 19, 3, 21, 0, 0, 0), none, none, some (.aload_n 0, 1, 0, 0, 0, 0), some (.iload_n 1, 1, 0, 0, 0, 0), some (.invokevirtual 95, 3, 1131, 1, 0, 556), none, none, some (.ifCond .ne 11, 3, 21, 0, 0, 0), none, none, some (.aload_n 0, 1, 0, 0, 0, 0), some (.iload_n 2, 1, 0, 0, 0, 0), some (.invokevirtual 95, 3, 1131, 1, 0, 556), none, none, some (.ifCond .eq 7, 3, 25, 0, 0, 0), none, none, some (.iconst (-1), 1, 0, 0, 0, 0), some (.goto 4, 3, 26, 0, 0, 0), none, none, some (.iconst 0, 1, 0, 0, 0, 0), some (.ireturn, 1, 0, 0, 0, 0)]
/-- X11_notFree(I)I -/
def am_c1133 : List (Option am_En) := [some (.aload_n 0, 1, 0, 0, 0, 0), some (.getfield 17, 3, 11, 0, 2, 269), none, none, some (.getfield 133, 3, 10, 0, 2, 171), none, none, some (.iload_n 1, 1, 0, 0, 0, 0), some (.invokevirtual 216, 3, 504, 1, 0, 754), none, none, some (.ifCond .eq 7, 3, 18, 0, 0, 0), none, none, some (.iconst 0, 1, 0, 0, 0, 0), some (.goto 4, 3, 19, 0, 0, 0), none, none, some (.iconst (-1), 1, 0, 0, 0, 0), some (.ireturn, 1, 0, 0, 0, 0)]
/-- X12_init()V -/
def am_c1200 : List (Option am_En) := [some (.aload_n 0, 1, 0, 0, 0, 0), some (.invokespecial 1, 3, 0, 0, 1, 937), none, none, some (.aload_n 0, 1, 0, 0, 0, 0), some (.iconst 3, 1, 0, 0, 0, 0), some (.putfield 7, 3, 12, 0, 0, 938), none, none, some (.aload_n 0, 1, 0, 0, 0, 0), some (.iconst 3, 1, 0, 0, 0, 0), some (.putfield 13, 3, 12, 1, 0, 939), none, none, some (.aload_n 0, 1, 0, 0, 0, 0), some (.iconst 1, 1, 0, 0, 0, 0), some (.putfield 16, 3, 12, 4, 0, 942), none, none, some (.aload_n 0, 1, 0, 0, 0, 0), some (.iconst 5, 1, 0, 0, 0, 0), some (.newarray .int, 2, 0, 0, 0, 0), none, some (.putfield 19, 3, 12, 6, 2, 944), none, none, some (.aload_n 0, 1, 0, 0, 0, 0), some (.iconst 5, 1, 0, 0, 0, 0), some (.newarray .int, 2, 0, 0, 0, 0), none, some (.putfield 23, 3, 12, 7, 2, 945), none, none, some (.aload_n 0, 1, 0, 0, 0, 0), some (.iconst 5, 1, 0, 0, 0, 0), some (.newarray .int, 2, 0, 0, 0, 0), none, some (.putfield 26, 3, 12, 8, 2, 946), none, none, some (.aload_n 0, 1, 0, 0, 0, 0), some (.bipush 30, 2, 0, 0, 0, 0), none, some (.newarray .int, 2, 0, 0, 0, 0), none, some (.putfield 29, 3, 12, 9, 2, 947), none, none, some (.aload_n 0, 1, 0, 0, 0, 0), some (.iconst 5, 1, 0, 0, 0, 0), some (.newarray .int, 2, 0, 0, 0, 0), none, some (.putfield 32, 3, 12, 10, 2, 948), none, none, some (.aload_n 0, 1, 0, 0, 0, 0), some (.sipush 650, 3, 0, 0, 0, 0), none, none, some (.newarray .int, 2, 0, 0, 0, 0), none, some (.putfield 35, 3, 12, 11, 2, 949), none, none, some (.aload_n 0, 1, 0, 0, 0, 0), some (.bipush 7, 2, 0, 0, 0, 0), none, some (.newarray .int, 2, 0, 0, 0, 0), none, some (.putfield 38, 3, 12, 13, 2, 951), none, none, some (.aload_n 0, 1, 0, 0, 0, 0), some (.sipush 706, 3, 0, 0, 0, 0), none, none, some (.newarray .int, 2, 0, 0, 0, 0), none, some (.putfield 41, 3, 12, 14, 2, 952), none, none, some (.aload_n 0, 1, 0, 0, 0, 0), some (.sipush 706, 3, 0, 0, 0, 0), none, none, some (.newarray .int, 2, 0, 0, 0, 0), none, some (.putfield 44, 3, 12, 15, 2, 953), none, none, some (.aload_n 0, 1, 0, 0, 0, 0), some (.bipush 80, 2, 0, 0, 0, 0), none, some (.newarray .int, 2, 0, 0, 0, 0), none, some (.putfield 47, 3, 12, 20, 2, 958), none, none, some (.aload_n 0, 1, 0, 0, 0, 0), some (.bipush 28, 2, 0, 0, 0, 0), none, some (.newarray .int, 2, 0, 0, 0, 0), none, some (.putfield 50, 3, 12, 25, 2, 963), none, none, some (.aload_n 0, 1, 0, 0, 0, 0), some (.bipush 28, 2, 0, 0, 0, 0), none, some (.newarray .int, 2, 0, 0, 0, 0), none, some (.putfield 53, 3, 12, 26, 2, 964), none, none, some (.aload_n 0, 1, 0, 0, 0, 0), some (.bipush 28, 2, 0, 0, 0, 0), none, some (.newarray .int, 2, 0, 0, 0, 0), none, some (.putfield 56, 3, 12, 27, 2, 965), none, none, some (.aload_n 0, 1, 0, 0, 0, 0), some (.bipush 28, 2, 0, 0, 0, 0), none, some (.newarray .int, 2, 0, 0, 0, 0), none, some (.putfield 59, 3, 12, 28, 2, 966), none, none, some (.aload_n 0, 1, 0, 0, 0, 0), some (.bipush 28, 2, 0, 0, 0, 0), none, some (.newarray .int, 2, 0, 0, 0, 0), none, some (.putfield 62, 3, 12, 29, 2, 967), none, none, some (.aload_n 0, 1, 0, 0, 0, 0), some (.bipush 28, 2, 0, 0, 0, 0), none, some (.newarray .int, 2, 0, 0, 0, 0), none, some (.putfield 65, 3, 12, 30, 2, 968), none, none, some (.aload_n 0, 1, 0, 0, 0, 0), some (.sipush 168, 3, 0, 0, 0, 0), none, none, some (.newarray .int, 2, 0, 0, 0, 0), none, some (.putfield 68, 3, 12, 31, 2, 969), none, none, some (.aload_n 0, 1, 0, 0, 0, 0), some (.sipush 330, 3, 0, 0, 0, 0), none, none, some (.newarray .int, 2, 0, 0, 0, 0), none, some (.putfield 71, 3, 12, 32, 2, 970), none, none, some (.aload_n 0, 1, 0, 0, 0, 0), some (.sipush 330, 3, 0, 0, 0, 0), none, none, some (.newarray .int, 2, 0, 0, 0, 0), none, some (.putfield 74, 3, 12, 33, 2, 971), none, none, some (.aload_n 0, 1, 0, 0, 0, 0), some (.bipush 6, 2, 0, 0, 0, 0), none, some (.newarray .int, 2, 0, 0, 0, 0), none, some (.putfield 77, 3, 12, 34, 2, 972), none, none, some (.aload_n 0, 1, 0, 0, 0, 0), some (.bipush 6, 2, 0, 0, 0, 0), none, some (.newarray .int, 2, 0, 0, 0, 0), none, some (.putfield 80, 3, 12, 35, 2, 973), none, none, some (.aload_n 0, 1, 0, 0, 0, 0), some (.sipush 900, 3, 0, 0, 0, 0), none, none, some (.newarray .int, 2, 0, 0, 0, 0), none, some (.putfield 83, 3, 12, 37, 2, 975), none, none, some (.aload_n 0, 1, 0, 0, 0, 0), some (.bipush 30, 2, 0, 0, 0, 0), none, some (.newarray .int, 2, 0, 0, 0, 0), none, some (.putfield 86, 3, 12, 38, 2, 976), none, none, some (.aload_n 0, 1, 0, 0, 0, 0), some (.iconst 4, 1, 0, 0, 0, 0), some (.newarray .int, 2, 0, 0, 0, 0), none, some (.putfield 89, 3, 12, 40, 2, 978), none, none, some (.aload_n 0, 1, 0, 0, 0, 0), some (.bipush 12, 2, 0, 0, 0, 0), none, some (.newarray .int, 2, 0, 0, 0, 0), none, some (.putfield 92, 3, 12, 41, 2, 979), none, none, some (.aload_n 0, 1, 0, 0, 0, 0), some (.iconst 0, 1, 0, 0, 0, 0), some (.putfield 95, 3, 12, 12, 0, 950), none, none, some (.return_, 1, 0, 0, 0, 0)]
/-- X12_in(JJJ)Z -/
def am_c1201 : List (Option am_En) := [some (.lload_n 0, 1, 0, 0, 0, 0), some (.lload_n 2, 1, 0, 0, 0, 0), some (.lcmp, 1, 0, 0, 0, 0), some (.ifCond .lt 14, 3, 17, 0, 0, 0), none, none, some (.lload_n 0, 1, 0, 0, 0, 0), some (.lload 4, 2, 0, 0, 0, 0), none, some (.lcmp, 1, 0, 0, 0, 0), some (.ifCond .gt 7, 3, 17, 0, 0, 0), none, none, some (.iconst 1, 1, 0, 0, 0, 0), some (.goto 4, 3, 18, 0, 0, 0), none, none, some (.iconst 0, 1, 0, 0, 0, 0), some (.ireturn, 1, 1, 0, 0, 0)]
/-- X12_refuse(I)I -/
def am_c1202 : List (Option am_En) := [some (.aload_n 0, 1, 0, 0, 0, 0), some (.getfield 38, 3, 12, 13, 2, 951), none, none, some (.iload_n 1, 1, 0, 0, 0, 0), some (.ineg, 1, 0, 0, 0, 0), some (.dup2, 1, 0, 0, 0, 0), some (.iaload, 1, 0, 0, 0, 0), some (.iconst 1, 1, 0, 0, 0, 0), some (.iadd, 1, 0, 0, 0, 0), some (.iastore, 1, 0, 0, 0, 0), some (.iload_n 1, 1, 0, 0, 0, 0), some (.ireturn, 1, 0, 0, 0, 0)]
/-- X12_isFree(I)Z -/
def am_c1203 : List (Option am_En) := [some (.iload_n 1, 1, 0, 0, 0, 0), some (.i2l, 1, 0, 0, 0, 0), some (.lconst 0, 1, 0, 0, 0, 0), some (.aload_n 0, 1, 0, 0, 0, 0), some (.getfield 7, 3, 12, 0, 0, 938), none, none, some (.aload_n 0, 1, 0, 0, 0, 0), some (.getfield 13, 3, 12, 1, 0, 939), none, none, some (.imul, 1, 0, 0, 0, 0), some (.iconst 1, 1, 0, 0, 0, 0), some (.isub, 1, 0, 0, 0, 0), some (.i2l, 1, 0, 0, 0, 0), some (.invokestatic 98, 3, 1201, 3, 0, 1122), none, none, some (.ifCond .eq 18, 3, 36, 0, 0, 0), none, none, some (.aload_n 0, 1, 0, 0, 0, 0), some (.getfield 102, 3, 12, 2, 0, 940), none, none, some (.iload_n 1, 1, 0, 0, 0, 0), some (.ishr, 1, 0, 0, 0, 0), some (.iconst 1, 1, 0, 0, 0, 0), some (.iand, 1, 0, 0, 0, 0), some (.ifCond .ne 7, 3, 36, 0, 0, 0), none, none, some (.iconst 1, 1, 0, 0, 0, 0), some (.goto 4, 3, 37, 0, 0, 0), none, none, some (.iconst 0, 1, 0, 0, 0, 0), some (.ireturn, 1, 1, 0, 0, 0)]
/-- X12_isPerson(I)Z -/
def am_c1204 : List (Option am_En) := [some (.iload_n 1, 1, 0, 0, 0, 0), some (.i2l, 1, 0, 0, 0, 0), some (.lconst 0, 1, 0, 0, 0, 0), some (.aload_n 0, 1, 0, 0, 0, 0), some (.getfield 105, 3, 12, 3, 0, 941), none, none, some (.iconst 1, 1, 0, 0, 0, 0), some (.isub, 1, 0, 0, 0, 0), some (.i2l, 1, 0, 0, 0, 0), some (.invokestatic 98, 3, 1201, 3, 0, 1122), none, none, some (.ireturn, 1, 1, 0, 0, 0)]
/-- X12_areTwo(II)Z -/
def am_c1205 : List (Option am_En) := [some (.aload_n 0, 1, 0, 0, 0, 0), some (.iload_n 1, 1, 0, 0, 0, 0), some (.invokevirtual 108, 3, 1204, 1, 0, 1144), none, none, some (.ifCond .eq 20, 3, 25, 0, 0, 0), none, none, some (.aload_n 0, 1, 0, 0, 0, 0), some (.iload_n 2, 1, 0, 0, 0, 0), some (.invokevirtual 108, 3, 1204, 1, 0, 1144), none, none, some (.ifCond .eq 12, 3, 25, 0, 0, 0), none, none, some (.iload_n 1, 1, 0, 0, 0, 0), some (.iload_n 2, 1, 0, 0, 0, 0), some (.if_icmp .eq 7, 3, 25, 0, 0, 0), none, none, some (.iconst 1, 1, 0, 0, 0, 0), some (.goto 4, 3, 26, 0, 0, 0), none, none, some (.iconst 0, 1, 0, 0, 0, 0), some (.ireturn, 1, 1, 0, 0, 0)]
/-- X12_stepFrom(II)I -/
def am_c1206 : List (Option am_En) := [some (.iload_n 1, 1, 0, 0, 0, 0), some (.aload_n 0, 1, 0, 0, 0, 0), some (.getfield 13, 3, 12, 1, 0, 939), none, none, some (.idiv, 1, 0, 0, 0, 0), some (.istore_n 3, 1, 0, 0, 0, 0), some (.iload_n 1, 1, 0, 0, 0, 0), some (.aload_n 0, 1, 0, 0, 0, 0), some (.getfield 13, 3, 12, 1, 0, 939), none, none, some (.irem, 1, 0, 0, 0, 0), some (.istore 4, 2, 0, 0, 0, 0), none, some (.iload_n 3, 1, 0, 0, 0, 0), some (.iload_n 2, 1, 0, 0, 0, 0), some (.ifCond .ne 7, 3, 24, 0, 0, 0), none, none, some (.iconst (-1), 1, 0, 0, 0, 0), some (.goto 13, 3, 34, 0, 0, 0), none, none, some (.iload_n 2, 1, 0, 0, 0, 0), some (.iconst 2, 1, 0, 0, 0, 0), some (.if_icmp .ne 7, 3, 33, 0, 0, 0), none, none, some (.iconst 1, 1, 0, 0, 0, 0), some (.goto 4, 3, 34, 0, 0, 0), none, none, some (.iconst 0, 1, 0, 0, 0, 0), some (.iadd, 1, 0, 0, 0, 0), some (.istore_n 3, 1, 0, 0, 0, 0), some (.iload 4, 2, 0, 0, 0, 0), none, some (.iload_n 2, 1, 0, 0, 0, 0), some (.iconst 1, 1, 0, 0, 0, 0), some (.if_icmp .ne 7, 3, 47, 0, 0, 0), none, none, some (.iconst 1, 1, 0, 0, 0, 0), some (.goto 13, 3, 57, 0, 0, 0), none, none, some (.iload_n 2, 1, 0, 0, 0, 0), some (.iconst 3, 1, 0, 0, 0, 0), some (.if_icmp .ne 7, 3, 56, 0, 0, 0), none, none, some (.iconst (-1), 1, 0, 0, 0, 0), some (.goto 4, 3, 57, 0, 0, 0), none, none, some (.iconst 0, 1, 0, 0, 0, 0), some (.iadd, 1, 0, 0, 0, 0), some (.istore 4, 2, 0, 0, 0, 0), none, some (.iload_n 3, 1, 0, 0, 0, 0), some (.i2l, 1, 0, 0, 0, 0), some (.lconst 0, 1, 0, 0, 0, 0), some (.aload_n 0, 1, 0, 0, 0, 0), some (.getfield 7, 3, 12, 0, 0, 938), none, none, some (.iconst 1, 1, 0, 0, 0, 0), some (.isub, 1, 0, 0, 0, 0), some (.i2l, 1, 0, 0, 0, 0), some (.invokestatic 98, 3, 1201, 3, 0, 1122), none, none, some (.ifCond .eq 24, 3, 97, 0, 0, 0), none, none, some (.iload 4, 2, 0, 0, 0, 0), none, some (.i2l, 1, 0, 0, 0, 0), some (.lconst 0, 1, 0, 0, 0, 0), some (.aload_n 0, 1, 0, 0, 0, 0), some (.getfield 13, 3, 12, 1, 0, 939), none, none, some (.iconst 1, 1, 0, 0, 0, 0), some (.isub, 1, 0, 0, 0, 0), some (.i2l, 1, 0, 0, 0, 0), some (.invokestatic 98, 3, 1201, 3, 0, 1122), none, none, some (.ifCond .eq 7, 3, 97, 0, 0, 0), none, none, some (.iconst 1, 1, 0, 0, 0, 0), some (.goto 4, 3, 98, 0, 0, 0), none, none, some (.iconst 0, 1, 0, 0, 0, 0), some (.istore 5, 2, 0, 0, 0, 0), none, some (.iload_n 3, 1, 0, 0, 0, 0), some (.aload_n 0, 1, 0, 0, 0, 0), some (.getfield 13, 3, 12, 1, 0, 939), none, none, some (.imul, 1, 0, 0, 0, 0), some (.iload 4, 2, 0, 0, 0, 0), none, some (.iadd, 1, 0, 0, 0, 0), some (.istore 6, 2, 0, 0, 0, 0), none, some (.iload 5, 2, 0, 0, 0, 0), none, some (.ifCond .eq 17, 3, 130, 0, 0, 0), none, none, some (.aload_n 0, 1, 0, 0, 0, 0), some (.iload 6, 2, 0, 0, 0, 0), none, some (.invokevirtual 112, 3, 1203, 1, 0, 1136), none, none, some (.ifCond .eq 8, 3, 130, 0, 0, 0), none, none, some (.iload 6, 2, 0, 0, 0, 0), none, some (.goto 4, 3, 131, 0, 0, 0), none, none, some (.iconst (-1), 1, 0, 0, 0, 0), some (.ireturn, 1, 0, 0, 0, 0)]
/-- X12_apart(II)I -/
def am_c1207 : List (Option am_En) := [some (.iload_n 0, 1, 0, 0, 0, 0), some (.iload_n 1, 1, 0, 0, 0, 0), some (.if_icmp .ge 9, 3, 11, 0, 0, 0), none, none, some (.iload_n 1, 1, 0, 0, 0, 0), some (.iload_n 0, 1, 0, 0, 0, 0), some (.isub, 1, 0, 0, 0, 0), some (.goto 6, 3, 14, 0, 0, 0), none, none, some (.iload_n 0, 1, 0, 0, 0, 0), some (.iload_n 1, 1, 0, 0, 0, 0), some (.isub, 1, 0, 0, 0, 0), some (.ireturn, 1, 0, 0, 0, 0)]
/-- X12_wayBetween(II)I -/
def am_c1208 : List (Option am_En) := [some (.iload_n 1, 1, 0, 0, 0, 0), some (.aload_n 0, 1, 0, 0, 0, 0), some (.getfield 13, 3, 12, 1, 0, 939), none, none, some (.idiv, 1, 0, 0, 0, 0), some (.iload_n 2, 1, 0, 0, 0, 0), some (.aload_n 0, 1, 0, 0, 0, 0), some (.getfield 13, 3, 12, 1, 0, 939), none, none, some (.idiv, 1, 0, 0, 0, 0), some (.invokestatic 115, 3, 1207, 2, 0, 1177), none, none, some (.iload_n 1, 1, 0, 0, 0, 0), some (.aload_n 0, 1, 0, 0, 0, 0), some (.getfield 13, 3, 12, 1, 0, 939), none, none, some (.irem, 1, 0, 0, 0, 0), some (.iload_n 2, 1, 0, 0, 0, 0), some (.aload_n 0, 1, 0, 0, 0, 0), some (.getfield 13, 3, 12, 1, 0, 939), none, none, some (.irem, 1, 0, 0, 0, 0), some (.invokestatic 115, 3, 1207, 2, 0, 1177), none, none, some (.iadd, 1, 0, 0, 0, 0), some (.ireturn, 1, 0, 0, 0, 0)]
/-- X12_wasOn(II)I -/
def am_c1209 : List (Option am_En) := [some (.aload_n 0, 1, 0, 0, 0, 0), some (.getfield 35, 3, 12, 11, 2, 949), none, none, some (.sipush 130, 3, 0, 0, 0, 0), none, none, some (.iload_n 1, 1, 0, 0, 0, 0), some (.imul, 1, 0, 0, 0, 0), some (.iload_n 2, 1, 0, 0, 0, 0), some (.aload_n 0, 1, 0, 0, 0, 0), some (.getfield 32, 3, 12, 10, 2, 948), none, none, some (.iload_n 1, 1, 0, 0, 0, 0), some (.iaload, 1, 0, 0, 0, 0), some (.if_icmp .ge 12, 3, 28, 0, 0, 0), none, none, some (.aload_n 0, 1, 0, 0, 0, 0), some (.getfield 32, 3, 12, 10, 2, 948), none, none, some (.iload_n 1, 1, 0, 0, 0, 0), some (.iaload, 1, 0, 0, 0, 0), some (.goto 4, 3, 29, 0, 0, 0), none, none, some (.iload_n 2, 1, 0, 0, 0, 0), some (.iadd, 1, 0, 0, 0, 0), some (.iaload, 1, 0, 0, 0, 0), some (.ireturn, 1, 0, 0, 0, 0)]
/-- X12_cellOf(I)I -/
def am_c1210 : List (Option am_En) := [some (.aload_n 0, 1, 0, 0, 0, 0), some (.getfield 35, 3, 12, 11, 2, 949), none, none, some (.sipush 130, 3, 0, 0, 0, 0), none, none, some (.iload_n 1, 1, 0, 0, 0, 0), some (.imul, 1, 0, 0, 0, 0), some (.aload_n 0, 1, 0, 0, 0, 0), some (.getfield 119, 3, 12, 5, 0, 943), none, none, some (.iadd, 1, 0, 0, 0, 0), some (.iaload, 1, 0, 0, 0, 0), some (.ireturn, 1, 0, 0, 0, 0)]
/-- X12_walks(I)I -/
def am_c1211 : List (Option am_En) := [some (.aload_n 0, 1, 0, 0, 0, 0), some (.getfield 26, 3, 12, 8, 2, 946), none, none, some (.iload_n 1, 1, 0, 0, 0, 0), some (.iaload, 1, 0, 0, 0, 0), some (.ifCond .ne 5, 3, 11, 0, 0, 0), none, none, some (.iconst 4, 1, 0, 0, 0, 0), some (.ireturn, 1, 0, 0, 0, 0), some (.aload_n 0, 1, 0, 0, 0, 0), some (.getfield 29, 3, 12, 9, 2, 947), none, none, some (.bipush 6, 2, 0, 0, 0, 0), none, some (.iload_n 1, 1, 0, 0, 0, 0), some (.imul, 1, 0, 0, 0, 0), some (.aload_n 0, 1, 0, 0, 0, 0), some (.getfield 119, 3, 12, 5, 0, 943), none, none, some (.aload_n 0, 1, 0, 0, 0, 0), some (.getfield 26, 3, 12, 8, 2, 946), none, none, some (.iload_n 1, 1, 0, 0, 0, 0), some (.iaload, 1, 0, 0, 0, 0), some (.irem, 1, 0, 0, 0, 0), some (.iadd, 1, 0, 0, 0, 0), some (.iaload, 1, 0, 0, 0, 0), some (.istore_n 2, 1, 0, 0, 0, 0), some (.aload_n 0, 1, 0, 0, 0, 0), some (.aload_n 0, 1, 0, 0, 0, 0), some (.iload_n 1, 1, 0, 0, 0, 0), some (.invokevirtual 122, 3, 1210, 1, 0, 1149), none, none, some (.iload_n 2, 1, 0, 0, 0, 0), some (.invokevirtual 126, 3, 1206, 2, 0, 1161), none, none, some (.ifCond .ge 7, 3, 50, 0, 0, 0), none, none, some (.iconst 4, 1, 0, 0, 0, 0), some (.goto 4, 3, 51, 0, 0, 0), none, none, some (.iload_n 2, 1, 0, 0, 0, 0), some (.ireturn, 1, 0, 0, 0, 0)]
/-- X12_hunts(II)I -/
def am_c1212 : List (Option am_En) := [some (.iconst (-1), 1, 0, 0, 0, 0), some (.istore_n 3, 1, 0, 0, 0, 0), some (.iconst 0, 1, 0, 0, 0, 0), some (.istore 4, 2, 0, 0, 0, 0), none, some (.iconst 0, 1, 0, 0, 0, 0), some (.istore 5, 2, 0, 0, 0, 0), none, some (.iload 5, 2, 0, 0, 0, 0), none, some (.iconst 5, 1, 0, 0, 0, 0), some (.if_icmp .ge 80, 3, 91, 0, 0, 0), none, none, some (.aload_n 0, 1, 0, 0, 0, 0), some (.aload_n 0, 1, 0, 0, 0, 0), some (.iload_n 1, 1, 0, 0, 0, 0), some (.invokevirtual 122, 3, 1210, 1, 0, 1149), none, none, some (.iload 5, 2, 0, 0, 0, 0), none, some (.invokevirtual 126, 3, 1206, 2, 0, 1161), none, none, some (.istore 6, 2, 0, 0, 0, 0), none, some (.iload 6, 2, 0, 0, 0, 0), none, some (.ifCond .lt 56, 3, 85, 0, 0, 0), none, none, some (.aload_n 0, 1, 0, 0, 0, 0), some (.iload 6, 2, 0, 0, 0, 0), none, some (.iload_n 2, 1, 0, 0, 0, 0), some (.invokevirtual 129, 3, 1208, 2, 0, 1173), none, none, some (.istore 7, 2, 0, 0, 0, 0), none, some (.iload_n 3, 1, 0, 0, 0, 0), some (.ifCond .lt 10, 3, 52, 0, 0, 0), none, none, some (.iload 7, 2, 0, 0, 0, 0), none, some (.iload 4, 2, 0, 0, 0, 0), none, some (.if_icmp .ge 7, 3, 56, 0, 0, 0), none, none, some (.iconst 1, 1, 0, 0, 0, 0), some (.goto 4, 3, 57, 0, 0, 0), none, none, some (.iconst 0, 1, 0, 0, 0, 0), some (.istore 8, 2, 0, 0, 0, 0), none, some (.iload 8, 2, 0, 0, 0, 0), none, some (.ifCond .eq 8, 3, 69, 0, 0, 0), none, none, some (.iload 5, 2, 0, 0, 0, 0), none, some (.goto 4, 3, 70, 0, 0, 0), none, none, some (.iload_n 3, 1, 0, 0, 0, 0), some (.istore_n 3, 1, 0, 0, 0, 0), some (.iload 8, 2, 0, 0, 0, 0), none, some (.ifCond .eq 8, 3, 81, 0, 0, 0), none, none, some (.iload 7, 2, 0, 0, 0, 0), none, some (.goto 5, 3, 83, 0, 0, 0), none, none, some (.iload 4, 2, 0, 0, 0, 0), none, some (.istore 4, 2, 0, 0, 0, 0), none, some (.iinc 5 1, 3, 0, 0, 0, 0), none, none, some (.goto (-80), 3, 8, 0, 0, 0), none, none, some (.iload_n 3, 1, 0, 0, 0, 0), some (.ireturn, 1, 0, 0, 0, 0)]
/-- X12_flees(I)I -/
def am_c1213 : List (Option am_En) := [some (.iconst (-1), 1, 0, 0, 0, 0), some (.istore_n 2, 1, 0, 0, 0, 0), some (.iconst 0, 1, 0, 0, 0, 0), some (.istore_n 3, 1, 0, 0, 0, 0), some (.iconst 0, 1, 0, 0, 0, 0), some (.istore 4, 2, 0, 0, 0, 0), none, some (.iload 4, 2, 0, 0, 0, 0), none, some (.iconst 5, 1, 0, 0, 0, 0), some (.if_icmp .ge 145, 3, 155, 0, 0, 0), none, none, some (.aload_n 0, 1, 0, 0, 0, 0), some (.aload_n 0, 1, 0, 0, 0, 0), some (.iload_n 1, 1, 0, 0, 0, 0), some (.invokevirtual 122, 3, 1210, 1, 0, 1149), none, none, some (.iload 4, 2, 0, 0, 0, 0), none, some (.invokevirtual 126, 3, 1206, 2, 0, 1161), none, none, some (.istore 5, 2, 0, 0, 0, 0), none, some (.bipush 99, 2, 0, 0, 0, 0), none, some (.istore 6, 2, 0, 0, 0, 0), none, some (.iconst 0, 1, 0, 0, 0, 0), some (.istore 7, 2, 0, 0, 0, 0), none, some (.iload 7, 2, 0, 0, 0, 0), none, some (.aload_n 0, 1, 0, 0, 0, 0), some (.getfield 105, 3, 12, 3, 0, 941), none, none, some (.if_icmp .ge 64, 3, 103, 0, 0, 0), none, none, some (.iload 7, 2, 0, 0, 0, 0), none, some (.iload_n 1, 1, 0, 0, 0, 0), some (.if_icmp .eq 8, 3, 53, 0, 0, 0), none, none, some (.iload 5, 2, 0, 0, 0, 0), none, some (.ifCond .ge 8, 3, 58, 0, 0, 0), none, none, some (.bipush 99, 2, 0, 0, 0, 0), none, some (.goto 24, 3, 79, 0, 0, 0), none, none, some (.aload_n 0, 1, 0, 0, 0, 0), some (.iload 5, 2, 0, 0, 0, 0), none, some (.aload_n 0, 1, 0, 0, 0, 0), some (.iload 7, 2, 0, 0, 0, 0), none, some (.aload_n 0, 1, 0, 0, 0, 0), some (.getfield 119, 3, 12, 5, 0, 943), none, none, some (.aload_n 0, 1, 0, 0, 0, 0), some (.getfield 16, 3, 12, 4, 0, 942), none, none, some (.isub, 1, 0, 0, 0, 0), some (.invokevirtual 132, 3, 1209, 2, 0, 1169), none, none, some (.invokevirtual 129, 3, 1208, 2, 0, 1173), none, none, some (.istore 8, 2, 0, 0, 0, 0), none, some (.iload 8, 2, 0, 0, 0, 0), none, some (.iload 6, 2, 0, 0, 0, 0), none, some (.if_icmp .ge 8, 3, 93, 0, 0, 0), none, none, some (.iload 8, 2, 0, 0, 0, 0), none, some (.goto 5, 3, 95, 0, 0, 0), none, none, some (.iload 6, 2, 0, 0, 0, 0), none, some (.istore 6, 2, 0, 0, 0, 0), none, some (.iinc 7 1, 3, 0, 0, 0, 0), none, none, some (.goto (-67), 3, 33, 0, 0, 0), none, none, some (.iload 5, 2, 0, 0, 0, 0), none, some (.ifCond .lt 17, 3, 122, 0, 0, 0), none, none, some (.iload_n 2, 1, 0, 0, 0, 0), some (.ifCond .lt 9, 3, 118, 0, 0, 0), none, none, some (.iload 6, 2, 0, 0, 0, 0), none, some (.iload_n 3, 1, 0, 0, 0, 0), some (.if_icmp .le 7, 3, 122, 0, 0, 0), none, none, some (.iconst 1, 1, 0, 0, 0, 0), some (.goto 4, 3, 123, 0, 0, 0), none, none, some (.iconst 0, 1, 0, 0, 0, 0), some (.istore 7, 2, 0, 0, 0, 0), none, some (.iload 7, 2, 0, 0, 0, 0), none, some (.ifCond .eq 8, 3, 135, 0, 0, 0), none, none, some (.iload 4, 2, 0, 0, 0, 0), none, some (.goto 4, 3, 136, 0, 0, 0), none, none, some (.iload_n 2, 1, 0, 0, 0, 0), some (.istore_n 2, 1, 0, 0, 0, 0), some (.iload 7, 2, 0, 0, 0, 0), none, some (.ifCond .eq 8, 3, 147, 0, 0, 0), none, none, some (.iload 6, 2, 0, 0, 0, 0), none, some (.goto 4, 3, 148, 0, 0, 0), none, none, some (.iload_n 3, 1, 0, 0, 0, 0), some (.istore_n 3, 1, 0, 0, 0, 0), some (.iinc 4 1, 3, 0, 0, 0, 0), none, none, some (.goto (-145), 3, 7, 0, 0, 0), none, none, some (.iload_n 2, 1, 0, 0, 0, 0), some (.ireturn, 1, 0, 0, 0, 0)]
/-- X12_held(II)I -/
def am_c1214 : List (Option am_En) := [some (.iload_n 0, 1, 0, 0, 0, 0), some (.ifCond .ge 7, 3, 8, 0, 0, 0), none, none, some (.iconst 0, 1, 0, 0, 0, 0), some (.goto 15, 3, 20, 0, 0, 0), none, none, some (.iload_n 0, 1, 0, 0, 0, 0), some (.iload_n 1, 1, 0, 0, 0, 0), some (.if_icmp .lt 9, 3, 19, 0, 0, 0), none, none, some (.iload_n 1, 1, 0, 0, 0, 0), some (.iconst 1, 1, 0, 0, 0, 0), some (.isub, 1, 0, 0, 0, 0), some (.goto 4, 3, 20, 0, 0, 0), none, none, some (.iload_n 0, 1, 0, 0, 0, 0), some (.ireturn, 1, 0, 0, 0, 0)]
/-- X12_reckoned(I)I -/
def am_c1215 : List (Option am_En) := [some (.aload_n 0, 1, 0, 0, 0, 0), some (.iload_n 1, 1, 0, 0, 0, 0), some (.aload_n 0, 1, 0, 0, 0, 0), some (.getfield 119, 3, 12, 5, 0, 943), none, none, some (.aload_n 0, 1, 0, 0, 0, 0), some (.getfield 16, 3, 12, 4, 0, 942), none, none, some (.isub, 1, 0, 0, 0, 0), some (.invokevirtual 132, 3, 1209, 2, 0, 1169), none, none, some (.istore_n 2, 1, 0, 0, 0, 0), some (.aload_n 0, 1, 0, 0, 0, 0), some (.iload_n 1, 1, 0, 0, 0, 0), some (.aload_n 0, 1, 0, 0, 0, 0), some (.getfield 119, 3, 12, 5, 0, 943), none, none, some (.aload_n 0, 1, 0, 0, 0, 0), some (.getfield 16, 3, 12, 4, 0, 942), none, none, some (.isub, 1, 0, 0, 0, 0), some (.iconst 1, 1, 0, 0, 0, 0), some (.isub, 1, 0, 0, 0, 0), some (.invokevirtual 132, 3, 1209, 2, 0, 1169), none, none, some (.istore_n 3, 1, 0, 0, 0, 0), some (.iload_n 2, 1, 0, 0, 0, 0), some (.aload_n 0, 1, 0, 0, 0, 0), some (.getfield 13, 3, 12, 1, 0, 939), none, none, some (.idiv, 1, 0, 0, 0, 0), some (.aload_n 0, 1, 0, 0, 0, 0), some (.getfield 16, 3, 12, 4, 0, 942), none, none, some (.iload_n 2, 1, 0, 0, 0, 0), some (.aload_n 0, 1, 0, 0, 0, 0), some (.getfield 13, 3, 12, 1, 0, 939), none, none, some (.idiv, 1, 0, 0, 0, 0), some (.iload_n 3, 1, 0, 0, 0, 0), some (.aload_n 0, 1, 0, 0, 0, 0), some (.getfield 13, 3, 12, 1, 0, 939), none, none, some (.idiv, 1, 0, 0, 0, 0), some (.isub, 1, 0, 0, 0, 0), some (.imul, 1, 0, 0, 0, 0), some (.iadd, 1, 0, 0, 0, 0), some (.istore 4, 2, 0, 0, 0, 0), none, some (.iload_n 2, 1, 0, 0, 0, 0), some (.aload_n 0, 1, 0, 0, 0, 0), some (.getfield 13, 3, 12, 1, 0, 939), none, none, some (.irem, 1, 0, 0, 0, 0), some (.aload_n 0, 1, 0, 0, 0, 0), some (.getfield 16, 3, 12, 4, 0, 942), none, none, some (.iload_n 2, 1, 0, 0, 0, 0), some (.aload_n 0, 1, 0, 0, 0, 0), some (.getfield 13, 3, 12, 1, 0, 939), none, none, some (.irem, 1, 0, 0, 0, 0), some (.iload_n 3, 1, 0, 0, 0, 0), some (.aload_n 0, 1, 0, 0, 0, 0), some (.getfield 13, 3, 12, 1, 0, 939), none, none, some (.irem, 1, 0, 0, 0, 0), some (.isub, 1, 0, 0, 0, 0), some (.imul, 1, 0, 0, 0, 0), some (.iadd, 1, 0, 0, 0, 0), some (.istore 5, 2, 0, 0, 0, 0), none, some (.iload 4, 2, 0, 0, 0, 0), none, some (.aload_n 0, 1, 0, 0, 0, 0), some (.getfield 7, 3, 12, 0, 0, 938), none, none, some (.invokestatic 135, 3, 1214, 2, 0, 1184), none, none, some (.aload_n 0, 1, 0, 0, 0, 0), some (.getfield 13, 3, 12, 1, 0, 939), none, none, some (.imul, 1, 0, 0, 0, 0), some (.iload 5, 2, 0, 0, 0, 0), none, some (.aload_n 0, 1, 0, 0, 0, 0), some (.getfield 13, 3, 12, 1, 0, 939), none, none, some (.invokestatic 135, 3, 1214, 2, 0, 1184), none, none, some (.iadd, 1, 0, 0, 0, 0), some (.ireturn, 1, 0, 0, 0, 0)]
/-- X12_stepOf(I)I -/
def am_c1216 : List (Option am_En) := [some (.aload_n 0, 1, 0, 0, 0, 0), some (.getfield 19, 3, 12, 6, 2, 944), none, none, some (.iload_n 1, 1, 0, 0, 0, 0), some (.iaload, 1, 0, 0, 0, 0), some (.istore_n 2, 1, 0, 0, 0, 0), some (.aload_n 0, 1, 0, 0, 0, 0), some (.getfield 23, 3, 12, 7, 2, 945), none, none, some (.iload_n 1, 1, 0, 0, 0, 0), some (.iaload, 1, 0, 0, 0, 0), some (.aload_n 0, 1, 0, 0, 0, 0), some (.getfield 105, 3, 12, 3, 0, 941), none, none, some (.irem, 1, 0, 0, 0, 0), some (.istore_n 3, 1, 0, 0, 0, 0), some (.iload_n 2, 1, 0, 0, 0, 0), some (.iconst 4, 1, 0, 0, 0, 0), some (.if_icmp .ne 5, 3, 26, 0, 0, 0), none, none, some (.iconst 4, 1, 0, 0, 0, 0), some (.ireturn, 1, 0, 0, 0, 0), some (.iload_n 2, 1, 0, 0, 0, 0), some (.iconst 2, 1, 0, 0, 0, 0), some (.if_icmp .ne 25, 3, 53, 0, 0, 0), none, none, some (.aload_n 0, 1, 0, 0, 0, 0), some (.getfield 105, 3, 12, 3, 0, 941), none, none, some (.iconst 1, 1, 0, 0, 0, 0), some (.if_icmp .ne 11, 3, 47, 0, 0, 0), none, none, some (.aload_n 0, 1, 0, 0, 0, 0), some (.iload_n 1, 1, 0, 0, 0, 0), some (.invokevirtual 138, 3, 1211, 1, 0, 1157), none, none, some (.goto 8, 3, 52, 0, 0, 0), none, none, some (.aload_n 0, 1, 0, 0, 0, 0), some (.iload_n 1, 1, 0, 0, 0, 0), some (.invokevirtual 141, 3, 1213, 1, 0, 1165), none, none, some (.ireturn, 1, 0, 0, 0, 0), some (.iload_n 2, 1, 0, 0, 0, 0), some (.ifCond .eq 8, 3, 62, 0, 0, 0), none, none, some (.iload_n 3, 1, 0, 0, 0, 0), some (.iload_n 1, 1, 0, 0, 0, 0), some (.if_icmp .ne 9, 3, 68, 0, 0, 0), none, none, some (.aload_n 0, 1, 0, 0, 0, 0), some (.iload_n 1, 1, 0, 0, 0, 0), some (.invokevirtual 138, 3, 1211, 1, 0, 1157), none, none, some (.ireturn, 1, 0, 0, 0, 0), some (.aload_n 0, 1, 0, 0, 0, 0), some (.iload_n 1, 1, 0, 0, 0, 0), some (.iload_n 2, 1, 0, 0, 0, 0), some (.iconst 5, 1, 0, 0, 0, 0), some (.if_icmp .ne 11, 3, 83, 0, 0, 0), none, none, some (.aload_n 0, 1, 0, 0, 0, 0), some (.iload_n 3, 1, 0, 0, 0, 0), some (.invokevirtual 144, 3, 1215, 1, 0, 1180), none, none, some (.goto 36, 3, 116, 0, 0, 0), none, none, some (.aload_n 0, 1, 0, 0, 0, 0), some (.iload_n 3, 1, 0, 0, 0, 0), some (.iload_n 2, 1, 0, 0, 0, 0), some (.iconst 3, 1, 0, 0, 0, 0), some (.if_icmp .ne 17, 3, 104, 0, 0, 0), none, none, some (.aload_n 0, 1, 0, 0, 0, 0), some (.getfield 119, 3, 12, 5, 0, 943), none, none, some (.aload_n 0, 1, 0, 0, 0, 0), some (.getfield 16, 3, 12, 4, 0, 942), none, none, some (.isub, 1, 0, 0, 0, 0), some (.iconst 1, 1, 0, 0, 0, 0), some (.isub, 1, 0, 0, 0, 0), some (.goto 12, 3, 113, 0, 0, 0), none, none, some (.aload_n 0, 1, 0, 0, 0, 0), some (.getfield 119, 3, 12, 5, 0, 943), none, none, some (.aload_n 0, 1, 0, 0, 0, 0), some (.getfield 16, 3, 12, 4, 0, 942), none, none, some (.isub, 1, 0, 0, 0, 0), some (.invokevirtual 132, 3, 1209, 2, 0, 1169), none, none, some (.invokevirtual 147, 3, 1212, 2, 0, 1187), none, none, some (.ireturn, 1, 0, 0, 0, 0)]
/-- X12_dayOn()I -/
def am_c1217 : List (Option am_En) := [some (.iconst 0, 1, 0, 0, 0, 0), some (.istore_n 1, 1, 0, 0, 0, 0), some (.iconst 0, 1, 0, 0, 0, 0), some (.istore_n 2, 1, 0, 0, 0, 0), some (.iload_n 2, 1, 0, 0, 0, 0), some (.aload_n 0, 1, 0, 0, 0, 0), some (.getfield 105, 3, 12, 3, 0, 941), none, none, some (.if_icmp .ge 59, 3, 68, 0, 0, 0), none, none, some (.aload_n 0, 1, 0, 0, 0, 0), some (.aload_n 0, 1, 0, 0, 0, 0), some (.iload_n 2, 1, 0, 0, 0, 0), some (.invokevirtual 122, 3, 1210, 1, 0, 1149), none, none, some (.aload_n 0, 1, 0, 0, 0, 0), some (.iload_n 2, 1, 0, 0, 0, 0), some (.invokevirtual 150, 3, 1216, 1, 0, 1153), none, none, some (.invokevirtual 126, 3, 1206, 2, 0, 1161), none, none, some (.istore_n 3, 1, 0, 0, 0, 0), some (.aload_n 0, 1, 0, 0, 0, 0), some (.getfield 35, 3, 12, 11, 2, 949), none, none, some (.sipush 130, 3, 0, 0, 0, 0), none, none, some (.iload_n 2, 1, 0, 0, 0, 0), some (.imul, 1, 0, 0, 0, 0), some (.aload_n 0, 1, 0, 0, 0, 0), some (.getfield 119, 3, 12, 5, 0, 943), none, none, some (.iadd, 1, 0, 0, 0, 0), some (.iconst 1, 1, 0, 0, 0, 0), some (.iadd, 1, 0, 0, 0, 0), some (.iload_n 3, 1, 0, 0, 0, 0), some (.iastore, 1, 0, 0, 0, 0), some (.iload_n 1, 1, 0, 0, 0, 0), some (.iload_n 3, 1, 0, 0, 0, 0), some (.aload_n 0, 1, 0, 0, 0, 0), some (.iload_n 2, 1, 0, 0, 0, 0), some (.invokevirtual 122, 3, 1210, 1, 0, 1149), none, none, some (.if_icmp .ne 7, 3, 59, 0, 0, 0), none, none, some (.iconst 0, 1, 0, 0, 0, 0), some (.goto 4, 3, 60, 0, 0, 0), none, none, some (.iconst 1, 1, 0, 0, 0, 0), some (.iadd, 1, 0, 0, 0, 0), some (.istore_n 1, 1, 0, 0, 0, 0), some (.iinc 2 1, 3, 0, 0, 0, 0), none, none, some (.goto (-61), 3, 4, 0, 0, 0), none, none, some (.aload_n 0, 1, 0, 0, 0, 0), some (.dup, 1, 0, 0, 0, 0), some (.getfield 119, 3, 12, 5, 0, 943), none, none, some (.iconst 1, 1, 0, 0, 0, 0), some (.iadd, 1, 0, 0, 0, 0), some (.putfield 119, 3, 12, 5, 0, 943), none, none, some (.iload_n 1, 1, 0, 0, 0, 0), some (.ireturn, 1, 0, 0, 0, 0)]
/-- X12_daysOn(I)V -/
def am_c1218 : List (Option am_En) := [some (.iconst 0, 1, 0, 0, 0, 0), some (.istore_n 2, 1, 0, 0, 0, 0), some (.iload_n 2, 1, 0, 0, 0, 0), some (.iload_n 1, 1, 0, 0, 0, 0), some (.if_icmp .ge 14, 3, 18, 0, 0, 0), none, none, some (.aload_n 0, 1, 0, 0, 0, 0), some (.invokevirtual 153, 3, 1217, 0, 0, 1199), none, none, some (.pop, 1, 0, 0, 0, 0), some (.iinc 2 1, 3, 0, 0, 0, 0), none, none, some (.goto (-13), 3, 2, 0, 0, 0), none, none, some (.return_, 1, 0, 0, 0, 0)]
/-- X12_carry(I)I -/
def am_c1219 : List (Option am_En) := [some (.aload_n 0, 1, 0, 0, 0, 0), some (.getfield 157, 3, 12, 18, 1, 956), none, none, some (.ifCond .eq 13, 3, 17, 0, 0, 0), none, none, some (.aload_n 0, 1, 0, 0, 0, 0), some (.getfield 161, 3, 12, 19, 2, 957), none, none, some (.aload_n 0, 1, 0, 0, 0, 0), some (.getfield 164, 3, 12, 17, 0, 955), none, none, some (.iload_n 1, 1, 0, 0, 0, 0), some (.iastore, 1, 0, 0, 0, 0), some (.aload_n 0, 1, 0, 0, 0, 0), some (.dup, 1, 0, 0, 0, 0), some (.getfield 164, 3, 12, 17, 0, 955), none, none, some (.iconst 1, 1, 0, 0, 0, 0), some (.iadd, 1, 0, 0, 0, 0), some (.putfield 164, 3, 12, 17, 0, 955), none, none, some (.aload_n 0, 1, 0, 0, 0, 0), some (.getfield 161, 3, 12, 19, 2, 957), none, none, some (.aload_n 0, 1, 0, 0, 0, 0), some (.getfield 164, 3, 12, 17, 0, 955), none, none, some (.iconst 1, 1, 0, 0, 0, 0), some (.isub, 1, 0, 0, 0, 0), some (.iaload, 1, 0, 0, 0, 0), some (.ireturn, 1, 0, 0, 0, 0)]
/-- X12_carryAll([IZ)V -/
def am_c1220 : List (Option am_En) := [some (.aload_n 0, 1, 0, 0, 0, 0), some (.aload_n 1, 1, 0, 0, 0, 0), some (.putfield 161, 3, 12, 19, 2, 957), none, none, some (.aload_n 0, 1, 0, 0, 0, 0), some (.iload_n 2, 1, 0, 0, 0, 0), some (.putfield 157, 3, 12, 18, 1, 956), none, none, some (.aload_n 0, 1, 0, 0, 0, 0), some (.iconst 0, 1, 0, 0, 0, 0), some (.putfield 164, 3, 12, 17, 0, 955), none, none, some (.aload_n 0, 1, 0, 0, 0, 0), some (.aload_n 0, 1, 0, 0, 0, 0), some (.aload_n 0, 1, 0, 0, 0, 0), some (.getfield 7, 3, 12, 0, 0, 938), none, none, some (.invokevirtual 167, 3, 1219, 1, 0, 1076), none, none, some (.putfield 7, 3, 12, 0, 0, 938), none, none, some (.aload_n 0, 1, 0, 0, 0, 0), some (.aload_n 0, 1, 0, 0, 0, 0), some (.aload_n 0, 1, 0, 0, 0, 0), some (.getfield 13, 3, 12, 1, 0, 939), none, none, some (.invokevirtual 167, 3, 1219, 1, 0, 1076), none, none, some (.putfield 13, 3, 12, 1, 0, 939), none, none, some (.aload_n 0, 1, 0, 0, 0, 0), some (.aload_n 0, 1, 0, 0, 0, 0), some (.aload_n 0, 1, 0, 0, 0, 0), some (.getfield 102, 3, 12, 2, 0, 940), none, none, some (.invokevirtual 167, 3, 1219, 1, 0, 1076), none, none, some (.putfield 102, 3, 12, 2, 0, 940), none, none, some (.aload_n 0, 1, 0, 0, 0, 0), some (.aload_n 0, 1, 0, 0, 0, 0), some (.aload_n 0, 1, 0, 0, 0, 0), some (.getfield 105, 3, 12, 3, 0, 941), none, none, some (.invokevirtual 167, 3, 1219, 1, 0, 1076), none, none, some (.putfield 105, 3, 12, 3, 0, 941), none, none, some (.aload_n 0, 1, 0, 0, 0, 0), some (.aload_n 0, 1, 0, 0, 0, 0), some (.aload_n 0, 1, 0, 0, 0, 0), some (.getfield 16, 3, 12, 4, 0, 942), none, none, some (.invokevirtual 167, 3, 1219, 1, 0, 1076), none, none, some (.putfield 16, 3, 12, 4, 0, 942), none, none, some (.aload_n 0, 1, 0, 0, 0, 0), some (.aload_n 0, 1, 0, 0, 0, 0), some (.aload_n 0, 1, 0, 0, 0, 0), some (.getfield 119, 3, 12, 5, 0, 943), none, none, some (.invokevirtual 167, 3, 1219, 1, 0, 1076), none, none, some (.putfield 119, 3, 12, 5, 0, 943), none, none, some (.iconst 0, 1, 0, 0, 0, 0), some (.istore_n 3, 1, 0, 0, 0, 0), some (.iload_n 3, 1, 0, 0, 0, 0), some (.iconst 5, 1, 0, 0, 0, 0), some (.if_icmp .ge 73, 3, 164, 0, 0, 0), none, none, some (.aload_n 0, 1, 0, 0, 0, 0), some (.getfield 19, 3, 12, 6, 2, 944), none, none, some (.iload_n 3, 1, 0, 0, 0, 0), some (.aload_n 0, 1, 0, 0, 0, 0), some (.aload_n 0, 1, 0, 0, 0, 0), some (.getfield 19, 3, 12, 6, 2, 944), none, none, some (.iload_n 3, 1, 0, 0, 0, 0), some (.iaload, 1, 0, 0, 0, 0), some (.invokevirtual 167, 3, 1219, 1, 0, 1076), none, none, some (.iastore, 1, 0, 0, 0, 0), some (.aload_n 0, 1, 0, 0, 0, 0), some (.getfield 23, 3, 12, 7, 2, 945), none, none, some (.iload_n 3, 1, 0, 0, 0, 0), some (.aload_n 0, 1, 0, 0, 0, 0), some (.aload_n 0, 1, 0, 0, 0, 0), some (.getfield 23, 3, 12, 7, 2, 945), none, none, some (.iload_n 3, 1, 0, 0, 0, 0), some (.iaload, 1, 0, 0, 0, 0), some (.invokevirtual 167, 3, 1219, 1, 0, 1076), none, none, some (.iastore, 1, 0, 0, 0, 0), some (.aload_n 0, 1, 0, 0, 0, 0), some (.getfield 26, 3, 12, 8, 2, 946), none, none, some (.iload_n 3, 1, 0, 0, 0, 0), some (.aload_n 0, 1, 0, 0, 0, 0), some (.aload_n 0, 1, 0, 0, 0, 0), some (.getfield 26, 3, 12, 8, 2, 946), none, none, some (.iload_n 3, 1, 0, 0, 0, 0), some (.iaload, 1, 0, 0, 0, 0), some (.invokevirtual 167, 3, 1219, 1, 0, 1076), none, none, some (.iastore, 1, 0, 0, 0, 0), some (.aload_n 0, 1, 0, 0, 0, 0), some (.getfield 32, 3, 12, 10, 2, 948), none, none, some (.iload_n 3, 1, 0, 0, 0, 0), some (.aload_n 0, 1, 0, 0, 0, 0), some (.aload_n 0, 1, 0, 0, 0, 0), some (.getfield 32, 3, 12, 10, 2, 948), none, none, some (.iload_n 3, 1, 0, 0, 0, 0), some (.iaload, 1, 0, 0, 0, 0), some (.invokevirtual 167, 3, 1219, 1, 0, 1076), none, none, some (.iastore, 1, 0, 0, 0, 0), some (.iinc 3 1, 3, 0, 0, 0, 0), none, none, some (.goto (-72), 3, 89, 0, 0, 0), none, none, some (.iconst 0, 1, 0, 0, 0, 0), some (.istore_n 3, 1, 0, 0, 0, 0), some (.iload_n 3, 1, 0, 0, 0, 0), some (.bipush 30, 2, 0, 0, 0, 0), none, some (.if_icmp .ge 25, 3, 194, 0, 0, 0), none, none, some (.aload_n 0, 1, 0, 0, 0, 0), some (.getfield 29, 3, 12, 9, 2, 947), none, none, some (.iload_n 3, 1, 0, 0, 0, 0), some (.aload_n 0, 1, 0, 0, 0, 0), some (.aload_n 0, 1, 0, 0, 0, 0), some (.getfield 29, 3, 12, 9, 2, 947), none, none, some (.iload_n 3, 1, 0, 0, 0, 0), some (.iaload, 1, 0, 0, 0, 0), some (.invokevirtual 167, 3, 1219, 1, 0, 1076), none, none, some (.iastore, 1, 0, 0, 0, 0), some (.iinc 3 1, 3, 0, 0, 0, 0), none, none, some (.goto (-25), 3, 166, 0, 0, 0), none, none, some (.iconst 0, 1, 0, 0, 0, 0), some (.istore_n 3, 1, 0, 0, 0, 0), some (.iload_n 3, 1, 0, 0, 0, 0), some (.sipush 650, 3, 0, 0, 0, 0), none, none, some (.if_icmp .ge 25, 3, 225, 0, 0, 0), none, none, some (.aload_n 0, 1, 0, 0, 0, 0), some (.getfield 35, 3, 12, 11, 2, 949), none, none, some (.iload_n 3, 1, 0, 0, 0, 0), some (.aload_n 0, 1, 0, 0, 0, 0), some (.aload_n 0, 1, 0, 0, 0, 0), some (.getfield 35, 3, 12, 11, 2, 949), none, none, some (.iload_n 3, 1, 0, 0, 0, 0), some (.iaload, 1, 0, 0, 0, 0), some (.invokevirtual 167, 3, 1219, 1, 0, 1076), none, none, some (.iastore, 1, 0, 0, 0, 0), some (.iinc 3 1, 3, 0, 0, 0, 0), none, none, some (.goto (-26), 3, 196, 0, 0, 0), none, none, some (.return_, 1, 0, 0, 0, 0)]
/-- X12_image()I -/
def am_c1221 : List (Option am_En) := [some (.aload_n 0, 1, 0, 0, 0, 0), some (.iconst 0, 1, 0, 0, 0, 0), some (.putfield 95, 3, 12, 12, 0, 950), none, none, some (.aload_n 0, 1, 0, 0, 0, 0), some (.iconst 1, 1, 0, 0, 0, 0), some (.putfield 170, 3, 12, 16, 1, 954), none, none, some (.aload_n 0, 1, 0, 0, 0, 0), some (.aload_n 0, 1, 0, 0, 0, 0), some (.getfield 44, 3, 12, 15, 2, 953), none, none, some (.iconst 1, 1, 0, 0, 0, 0), some (.invokevirtual 173, 3, 1220, 2, 0, 1072), none, none, some (.aload_n 0, 1, 0, 0, 0, 0), some (.getfield 119, 3, 12, 5, 0, 943), none, none, some (.ireturn, 1, 0, 0, 0, 0)]
/-- X12_restore()I -/
def am_c1222 : List (Option am_En) := [some (.aload_n 0, 1, 0, 0, 0, 0), some (.iconst 0, 1, 0, 0, 0, 0), some (.putfield 95, 3, 12, 12, 0, 950), none, none, some (.aload_n 0, 1, 0, 0, 0, 0), some (.getfield 170, 3, 12, 16, 1, 954), none, none, some (.ifCond .ne 10, 3, 19, 0, 0, 0), none, none, some (.aload_n 0, 1, 0, 0, 0, 0), some (.bipush (-3), 2, 0, 0, 0, 0), none, some (.invokevirtual 177, 3, 1202, 1, 0, 1084), none, none, some (.ireturn, 1, 0, 0, 0, 0), some (.aload_n 0, 1, 0, 0, 0, 0), some (.aload_n 0, 1, 0, 0, 0, 0), some (.getfield 44, 3, 12, 15, 2, 953), none, none, some (.iconst 0, 1, 0, 0, 0, 0), some (.invokevirtual 173, 3, 1220, 2, 0, 1072), none, none, some (.aload_n 0, 1, 0, 0, 0, 0), some (.getfield 119, 3, 12, 5, 0, 943), none, none, some (.ireturn, 1, 0, 0, 0, 0)]
/-- X12_feed(I)I -/
def am_c1223 : List (Option am_En) := [some (.aload_n 0, 1, 0, 0, 0, 0), some (.iconst 0, 1, 0, 0, 0, 0), some (.putfield 95, 3, 12, 12, 0, 950), none, none, some (.iload_n 1, 1, 0, 0, 0, 0), some (.ifCond .ge 10, 3, 16, 0, 0, 0), none, none, some (.aload_n 0, 1, 0, 0, 0, 0), some (.bipush (-4), 2, 0, 0, 0, 0), none, some (.invokevirtual 177, 3, 1202, 1, 0, 1084), none, none, some (.ireturn, 1, 0, 0, 0, 0), some (.iload_n 1, 1, 0, 0, 0, 0), some (.sipush 255, 3, 0, 0, 0, 0), none, none, some (.if_icmp .gt 12, 3, 32, 0, 0, 0), none, none, some (.aload_n 0, 1, 0, 0, 0, 0), some (.getfield 180, 3, 12, 21, 0, 959), none, none, some (.bipush 80, 2, 0, 0, 0, 0), none, some (.if_icmp .ne 10, 3, 39, 0, 0, 0), none, none, some (.aload_n 0, 1, 0, 0, 0, 0), some (.bipush (-6), 2, 0, 0, 0, 0), none, some (.invokevirtual 177, 3, 1202, 1, 0, 1084), none, none, some (.ireturn, 1, 0, 0, 0, 0), some (.aload_n 0, 1, 0, 0, 0, 0), some (.getfield 47, 3, 12, 20, 2, 958), none, none, some (.aload_n 0, 1, 0, 0, 0, 0), some (.getfield 180, 3, 12, 21, 0, 959), none, none, some (.iload_n 1, 1, 0, 0, 0, 0), some (.iastore, 1, 0, 0, 0, 0), some (.aload_n 0, 1, 0, 0, 0, 0), some (.dup, 1, 0, 0, 0, 0), some (.getfield 180, 3, 12, 21, 0, 959), none, none, some (.iconst 1, 1, 0, 0, 0, 0), some (.iadd, 1, 0, 0, 0, 0), some (.putfield 180, 3, 12, 21, 0, 959), none, none, some (.aload_n 0, 1, 0, 0, 0, 0), some (.getfield 180, 3, 12, 21, 0, 959), none, none, some (.ireturn, 1, 0, 0, 0, 0)]
/-- X12_here()I -/
def am_c1224 : List (Option am_En) := [some (.aload_n 0, 1, 0, 0, 0, 0), some (.getfield 183, 3, 12, 22, 0, 960), none, none, some (.aload_n 0, 1, 0, 0, 0, 0), some (.getfield 180, 3, 12, 21, 0, 959), none, none, some (.if_icmp .ge 15, 3, 23, 0, 0, 0), none, none, some (.aload_n 0, 1, 0, 0, 0, 0), some (.getfield 47, 3, 12, 20, 2, 958), none, none, some (.aload_n 0, 1, 0, 0, 0, 0), some (.getfield 183, 3, 12, 22, 0, 960), none, none, some (.iaload, 1, 0, 0, 0, 0), some (.goto 4, 3, 24, 0, 0, 0), none, none, some (.iconst (-1), 1, 0, 0, 0, 0), some (.ireturn, 1, 0, 0, 0, 0)]
/-- X12_readDigit()I -/
def am_c1225 : List (Option am_En) := [some (.aload_n 0, 1, 0, 0, 0, 0), some (.aload_n 0, 1, 0, 0, 0, 0), some (.getfield 186, 3, 12, 23, 1, 961), none, none, some (.ifCond .ne 20, 3, 25, 0, 0, 0), none, none, some (.aload_n 0, 1, 0, 0, 0, 0), some (.invokevirtual 189, 3, 1224, 0, 0, 1100), none, none, some (.i2l, 1, 0, 0, 0, 0), some (.ldc2_w 192, 3, 48, 0, 0, 1120), none, none, some (.ldc2_w 194, 3, 57, 0, 0, 1121), none, none, some (.invokestatic 98, 3, 1201, 3, 0, 1122), none, none, some (.ifCond .ne 7, 3, 29, 0, 0, 0), none, none, some (.iconst 1, 1, 0, 0, 0, 0), some (.goto 4, 3, 30, 0, 0, 0), none, none, some (.iconst 0, 1, 0, 0, 0, 0), some (.putfield 186, 3, 12, 23, 1, 961), none, none, some (.aload_n 0, 1, 0, 0, 0, 0), some (.getfield 186, 3, 12, 23, 1, 961), none, none, some (.ifCond .eq 5, 3, 42, 0, 0, 0), none, none, some (.iconst 0, 1, 0, 0, 0, 0), some (.ireturn, 1, 0, 0, 0, 0), some (.aload_n 0, 1, 0, 0, 0, 0), some (.dup, 1, 0, 0, 0, 0), some (.getfield 183, 3, 12, 22, 0, 960), none, none, some (.iconst 1, 1, 0, 0, 0, 0), some (.iadd, 1, 0, 0, 0, 0), some (.putfield 183, 3, 12, 22, 0, 960), none, none, some (.aload_n 0, 1, 0, 0, 0, 0), some (.getfield 47, 3, 12, 20, 2, 958), none, none, some (.aload_n 0, 1, 0, 0, 0, 0), some (.getfield 183, 3, 12, 22, 0, 960), none, none, some (.iconst 1, 1, 0, 0, 0, 0), some (.isub, 1, 0, 0, 0, 0), some (.iaload, 1, 0, 0, 0, 0), some (.bipush 48, 2, 0, 0, 0, 0), none, some (.isub, 1, 0, 0, 0, 0), some (.ireturn, 1, 0, 0, 0, 0)]
/-- X12_stepOfLetter(I)I -/
def am_c1226 : List (Option am_En) := [some (.iload_n 0, 1, 0, 0, 0, 0), some (.bipush 110, 2, 0, 0, 0, 0), none, some (.if_icmp .ne 7, 3, 10, 0, 0, 0), none, none, some (.iconst 0, 1, 0, 0, 0, 0), some (.goto 44, 3, 51, 0, 0, 0), none, none, some (.iload_n 0, 1, 0, 0, 0, 0), some (.bipush 101, 2, 0, 0, 0, 0), none, some (.if_icmp .ne 7, 3, 20, 0, 0, 0), none, none, some (.iconst 1, 1, 0, 0, 0, 0), some (.goto 34, 3, 51, 0, 0, 0), none, none, some (.iload_n 0, 1, 0, 0, 0, 0), some (.bipush 115, 2, 0, 0, 0, 0), none, some (.if_icmp .ne 7, 3, 30, 0, 0, 0), none, none, some (.iconst 2, 1, 0, 0, 0, 0), some (.goto 24, 3, 51, 0, 0, 0), none, none, some (.iload_n 0, 1, 0, 0, 0, 0), some (.bipush 119, 2, 0, 0, 0, 0), none, some (.if_icmp .ne 7, 3, 40, 0, 0, 0), none, none, some (.iconst 3, 1, 0, 0, 0, 0), some (.goto 14, 3, 51, 0, 0, 0), none, none, some (.iload_n 0, 1, 0, 0, 0, 0), some (.bipush 45, 2, 0, 0, 0, 0), none, some (.if_icmp .ne 7, 3, 50, 0, 0, 0), none, none, some (.iconst 4, 1, 0, 0, 0, 0), some (.goto 4, 3, 51, 0, 0, 0), none, none, some (.iconst (-1), 1, 0, 0, 0, 0), some (.ireturn, 1, 0, 0, 0, 0)]
/-- X12_isGround()Z -/
def am_c1227 : List (Option am_En) := [some (.aload_n 0, 1, 0, 0, 0, 0), some (.invokevirtual 189, 3, 1224, 0, 0, 1100), none, none, some (.bipush 46, 2, 0, 0, 0, 0), none, some (.if_icmp .eq 12, 3, 18, 0, 0, 0), none, none, some (.aload_n 0, 1, 0, 0, 0, 0), some (.invokevirtual 189, 3, 1224, 0, 0, 1100), none, none, some (.bipush 35, 2, 0, 0, 0, 0), none, some (.if_icmp .ne 7, 3, 22, 0, 0, 0), none, none, some (.iconst 1, 1, 0, 0, 0, 0), some (.goto 4, 3, 23, 0, 0, 0), none, none, some (.iconst 0, 1, 0, 0, 0, 0), some (.ireturn, 1, 1, 0, 0, 0)]
/-- X12_readMoor(I)V -/
def am_c1228 : List (Option am_En) := [some (.iconst 0, 1, 0, 0, 0, 0), some (.istore_n 2, 1, 0, 0, 0, 0), some (.iconst 0, 1, 0, 0, 0, 0), some (.istore_n 3, 1, 0, 0, 0, 0), some (.iconst 0, 1, 0, 0, 0, 0), some (.istore 4, 2, 0, 0, 0, 0), none, some (.aload_n 0, 1, 0, 0, 0, 0), some (.invokevirtual 196, 3, 1227, 0, 0, 1108), none, none, some (.ifCond .eq 48, 3, 59, 0, 0, 0), none, none, some (.iload_n 2, 1, 0, 0, 0, 0), some (.bipush 6, 2, 0, 0, 0, 0), none, some (.if_icmp .ge 42, 3, 59, 0, 0, 0), none, none, some (.iload_n 3, 1, 0, 0, 0, 0), some (.aload_n 0, 1, 0, 0, 0, 0), some (.invokevirtual 189, 3, 1224, 0, 0, 1100), none, none, some (.bipush 35, 2, 0, 0, 0, 0), none, some (.if_icmp .ne 10, 3, 37, 0, 0, 0), none, none, some (.iconst 1, 1, 0, 0, 0, 0), some (.iload 4, 2, 0, 0, 0, 0), none, some (.ishl, 1, 0, 0, 0, 0), some (.goto 4, 3, 38, 0, 0, 0), none, none, some (.iconst 0, 1, 0, 0, 0, 0), some (.ior, 1, 0, 0, 0, 0), some (.istore_n 3, 1, 0, 0, 0, 0), some (.iinc 4 1, 3, 0, 0, 0, 0), none, none, some (.iinc 2 1, 3, 0, 0, 0, 0), none, none, some (.aload_n 0, 1, 0, 0, 0, 0), some (.dup, 1, 0, 0, 0, 0), some (.getfield 183, 3, 12, 22, 0, 960), none, none, some (.iconst 1, 1, 0, 0, 0, 0), some (.iadd, 1, 0, 0, 0, 0), some (.putfield 183, 3, 12, 22, 0, 960), none, none, some (.goto (-49), 3, 7, 0, 0, 0), none, none, some (.aload_n 0, 1, 0, 0, 0, 0), some (.iload_n 2, 1, 0, 0, 0, 0), some (.iconst 2, 1, 0, 0, 0, 0), some (.if_icmp .lt 12, 3, 74, 0, 0, 0), none, none, some (.aload_n 0, 1, 0, 0, 0, 0), some (.invokevirtual 189, 3, 1224, 0, 0, 1100), none, none, some (.bipush 47, 2, 0, 0, 0, 0), none, some (.if_icmp .eq 7, 3, 78, 0, 0, 0), none, none, some (.iconst 1, 1, 0, 0, 0, 0), some (.goto 4, 3, 79, 0, 0, 0), none, none, some (.iconst 0, 1, 0, 0, 0, 0), some (.putfield 186, 3, 12, 23, 1, 961), none, none, some (.iconst 1, 1, 0, 0, 0, 0), some (.istore 5, 2, 0, 0, 0, 0), none, some (.aload_n 0, 1, 0, 0, 0, 0), some (.getfield 186, 3, 12, 23, 1, 961), none, none, some (.ifCond .ne 116, 3, 205, 0, 0, 0), none, none, some (.aload_n 0, 1, 0, 0, 0, 0), some (.invokevirtual 189, 3, 1224, 0, 0, 1100), none, none, some (.bipush 47, 2, 0, 0, 0, 0), none, some (.if_icmp .ne 107, 3, 205, 0, 0, 0), none, none, some (.iload 5, 2, 0, 0, 0, 0), none, some (.iconst 5, 1, 0, 0, 0, 0), some (.if_icmp .ge 101, 3, 205, 0, 0, 0), none, none, some (.aload_n 0, 1, 0, 0, 0, 0), some (.dup, 1, 0, 0, 0, 0), some (.getfield 183, 3, 12, 22, 0, 960), none, none, some (.iconst 1, 1, 0, 0, 0, 0), some (.iadd, 1, 0, 0, 0, 0), some (.putfield 183, 3, 12, 22, 0, 960), none, none, some (.iinc 5 1, 3, 0, 0, 0, 0), none, none, some (.iconst 0, 1, 0, 0, 0, 0), some (.istore 6, 2, 0, 0, 0, 0), none, some (.iload 6, 2, 0, 0, 0, 0), none, some (.iload_n 2, 1, 0, 0, 0, 0), some (.if_icmp .ge 76, 3, 202, 0, 0, 0), none, none, some (.aload_n 0, 1, 0, 0, 0, 0), some (.getfield 186, 3, 12, 23, 1, 961), none, none, some (.ifCond .ne 69, 3, 202, 0, 0, 0), none, none, some (.aload_n 0, 1, 0, 0, 0, 0), some (.aload_n 0, 1, 0, 0, 0, 0), some (.invokevirtual 196, 3, 1227, 0, 0, 1108), none, none, some (.ifCond .ne 7, 3, 148, 0, 0, 0), none, none, some (.iconst 1, 1, 0, 0, 0, 0), some (.goto 4, 3, 149, 0, 0, 0), none, none, some (.iconst 0, 1, 0, 0, 0, 0), some (.putfield 186, 3, 12, 23, 1, 961), none, none, some (.iload_n 3, 1, 0, 0, 0, 0), some (.aload_n 0, 1, 0, 0, 0, 0), some (.invokevirtual 189, 3, 1224, 0, 0, 1100), none, none, some (.bipush 35, 2, 0, 0, 0, 0), none, some (.if_icmp .ne 10, 3, 169, 0, 0, 0), none, none, some (.iconst 1, 1, 0, 0, 0, 0), some (.iload 4, 2, 0, 0, 0, 0), none, some (.ishl, 1, 0, 0, 0, 0), some (.goto 4, 3, 170, 0, 0, 0), none, none, some (.iconst 0, 1, 0, 0, 0, 0), some (.ior, 1, 0, 0, 0, 0), some (.istore_n 3, 1, 0, 0, 0, 0), some (.iinc 4 1, 3, 0, 0, 0, 0), none, none, some (.aload_n 0, 1, 0, 0, 0, 0), some (.dup, 1, 0, 0, 0, 0), some (.getfield 183, 3, 12, 22, 0, 960), none, none, some (.aload_n 0, 1, 0, 0, 0, 0), some (.getfield 186, 3, 12, 23, 1, 961), none, none, some (.ifCond .eq 7, 3, 191, 0, 0, 0), none, none, some (.iconst 0, 1, 0, 0, 0, 0), some (.goto 4, 3, 192, 0, 0, 0), none, none, some (.iconst 1, 1, 0, 0, 0, 0), some (.iadd, 1, 0, 0, 0, 0), some (.putfield 183, 3, 12, 22, 0, 960), none, none, some (.iinc 6 1, 3, 0, 0, 0, 0), none, none, some (.goto (-76), 3, 123, 0, 0, 0), none, none, some (.goto (-117), 3, 85, 0, 0, 0), none, none, some (.aload_n 0, 1, 0, 0, 0, 0), some (.getfield 56, 3, 12, 27, 2, 965), none, none, some (.iload_n 1, 1, 0, 0, 0, 0), some (.iload 5, 2, 0, 0, 0, 0), none, some (.iastore, 1, 0, 0, 0, 0), some (.aload_n 0, 1, 0, 0, 0, 0), some (.getfield 59, 3, 12, 28, 2, 966), none, none, some (.iload_n 1, 1, 0, 0, 0, 0), some (.iload_n 2, 1, 0, 0, 0, 0), some (.iastore, 1, 0, 0, 0, 0), some (.aload_n 0, 1, 0, 0, 0, 0), some (.getfield 62, 3, 12, 29, 2, 967), none, none, some (.iload_n 1, 1, 0, 0, 0, 0), some (.iload_n 3, 1, 0, 0, 0, 0), some (.iastore, 1, 0, 0, 0, 0), some (.return_, 1, 0, 0, 0, 0)]
/-- X12_readPerson(I)V -/
def am_c1229 : List (Option am_En) := [some (.aload_n 0, 1, 0, 0, 0, 0), some (.getfield 56, 3, 12, 27, 2, 965), none, none, some (.iload_n 1, 1, 0, 0, 0, 0), some (.aload_n 0, 1, 0, 0, 0, 0), some (.invokevirtual 200, 3, 1225, 0, 0, 1116), none, none, some (.iastore, 1, 0, 0, 0, 0), some (.aload_n 0, 1, 0, 0, 0, 0), some (.getfield 59, 3, 12, 28, 2, 966), none, none, some (.iload_n 1, 1, 0, 0, 0, 0), some (.aload_n 0, 1, 0, 0, 0, 0), some (.invokevirtual 200, 3, 1225, 0, 0, 1116), none, none, some (.iastore, 1, 0, 0, 0, 0), some (.aload_n 0, 1, 0, 0, 0, 0), some (.getfield 62, 3, 12, 29, 2, 967), none, none, some (.iload_n 1, 1, 0, 0, 0, 0), some (.aload_n 0, 1, 0, 0, 0, 0), some (.invokevirtual 200, 3, 1225, 0, 0, 1116), none, none, some (.iastore, 1, 0, 0, 0, 0), some (.aload_n 0, 1, 0, 0, 0, 0), some (.getfield 186, 3, 12, 23, 1, 961), none, none, some (.ifCond .ne 40, 3, 74, 0, 0, 0), none, none, some (.aload_n 0, 1, 0, 0, 0, 0), some (.invokevirtual 189, 3, 1224, 0, 0, 1100), none, none, some (.i2l, 1, 0, 0, 0, 0), some (.ldc2_w 192, 3, 48, 0, 0, 1120), none, none, some (.ldc2_w 194, 3, 57, 0, 0, 1121), none, none, some (.invokestatic 98, 3, 1201, 3, 0, 1122), none, none, some (.ifCond .eq 23, 3, 74, 0, 0, 0), none, none, some (.aload_n 0, 1, 0, 0, 0, 0), some (.getfield 62, 3, 12, 29, 2, 967), none, none, some (.iload_n 1, 1, 0, 0, 0, 0), some (.bipush 10, 2, 0, 0, 0, 0), none, some (.aload_n 0, 1, 0, 0, 0, 0), some (.getfield 62, 3, 12, 29, 2, 967), none, none, some (.iload_n 1, 1, 0, 0, 0, 0), some (.iaload, 1, 0, 0, 0, 0), some (.imul, 1, 0, 0, 0, 0), some (.aload_n 0, 1, 0, 0, 0, 0), some (.invokevirtual 200, 3, 1225, 0, 0, 1116), none, none, some (.iadd, 1, 0, 0, 0, 0), some (.iastore, 1, 0, 0, 0, 0), some (.aload_n 0, 1, 0, 0, 0, 0), some (.getfield 65, 3, 12, 30, 2, 968), none, none, some (.iload_n 1, 1, 0, 0, 0, 0), some (.iconst 0, 1, 0, 0, 0, 0), some (.iastore, 1, 0, 0, 0, 0), some (.aload_n 0, 1, 0, 0, 0, 0), some (.getfield 186, 3, 12, 23, 1, 961), none, none, some (.ifCond .ne 70, 3, 155, 0, 0, 0), none, none, some (.aload_n 0, 1, 0, 0, 0, 0), some (.getfield 65, 3, 12, 30, 2, 968), none, none, some (.iload_n 1, 1, 0, 0, 0, 0), some (.iaload, 1, 0, 0, 0, 0), some (.bipush 6, 2, 0, 0, 0, 0), none, some (.if_icmp .ge 59, 3, 155, 0, 0, 0), none, none, some (.aload_n 0, 1, 0, 0, 0, 0), some (.invokevirtual 189, 3, 1224, 0, 0, 1100), none, none, some (.invokestatic 203, 3, 1226, 1, 0, 1125), none, none, some (.ifCond .lt 49, 3, 155, 0, 0, 0), none, none, some (.aload_n 0, 1, 0, 0, 0, 0), some (.getfield 68, 3, 12, 31, 2, 969), none, none, some (.bipush 6, 2, 0, 0, 0, 0), none, some (.iload_n 1, 1, 0, 0, 0, 0), some (.imul, 1, 0, 0, 0, 0), some (.aload_n 0, 1, 0, 0, 0, 0), some (.getfield 65, 3, 12, 30, 2, 968), none, none, some (.iload_n 1, 1, 0, 0, 0, 0), some (.iaload, 1, 0, 0, 0, 0), some (.iadd, 1, 0, 0, 0, 0), some (.aload_n 0, 1, 0, 0, 0, 0), some (.invokevirtual 189, 3, 1224, 0, 0, 1100), none, none, some (.invokestatic 203, 3, 1226, 1, 0, 1125), none, none, some (.iastore, 1, 0, 0, 0, 0), some (.aload_n 0, 1, 0, 0, 0, 0), some (.getfield 65, 3, 12, 30, 2, 968), none, none, some (.iload_n 1, 1, 0, 0, 0, 0), some (.dup2, 1, 0, 0, 0, 0), some (.iaload, 1, 0, 0, 0, 0), some (.iconst 1, 1, 0, 0, 0, 0), some (.iadd, 1, 0, 0, 0, 0), some (.iastore, 1, 0, 0, 0, 0), some (.aload_n 0, 1, 0, 0, 0, 0), some (.dup, 1, 0, 0, 0, 0), some (.getfield 183, 3, 12, 22, 0, 960), none, none, some (.iconst 1, 1, 0, 0, 0, 0), some (.iadd, 1, 0, 0, 0, 0), some (.putfield 183, 3, 12, 22, 0, 960), none, none, some (.goto (-71), 3, 81, 0, 0, 0), none, none, some (.return_, 1, 0, 0, 0, 0)]
/-- X12_readStatement()V -/
def am_c1230 : List (Option am_En) := [some (.aload_n 0, 1, 0, 0, 0, 0), some (.getfield 206, 3, 12, 24, 0, 962), none, none, some (.istore_n 1, 1, 0, 0, 0, 0), some (.aload_n 0, 1, 0, 0, 0, 0), some (.invokevirtual 189, 3, 1224, 0, 0, 1100), none, none, some (.istore_n 2, 1, 0, 0, 0, 0), some (.aload_n 0, 1, 0, 0, 0, 0), some (.getfield 50, 3, 12, 25, 2, 963), none, none, some (.iload_n 1, 1, 0, 0, 0, 0), some (.aload_n 0, 1, 0, 0, 0, 0), some (.getfield 183, 3, 12, 22, 0, 960), none, none, some (.iastore, 1, 0, 0, 0, 0), some (.aload_n 0, 1, 0, 0, 0, 0), some (.getfield 53, 3, 12, 26, 2, 964), none, none, some (.iload_n 1, 1, 0, 0, 0, 0), some (.iload_n 2, 1, 0, 0, 0, 0), some (.iastore, 1, 0, 0, 0, 0), some (.aload_n 0, 1, 0, 0, 0, 0), some (.aload_n 0, 1, 0, 0, 0, 0), some (.getfield 186, 3, 12, 23, 1, 961), none, none, some (.ifCond .ne 21, 3, 53, 0, 0, 0), none, none, some (.iload_n 2, 1, 0, 0, 0, 0), some (.bipush 109, 2, 0, 0, 0, 0), none, some (.if_icmp .eq 19, 3, 57, 0, 0, 0), none, none, some (.iload_n 2, 1, 0, 0, 0, 0), some (.bipush 112, 2, 0, 0, 0, 0), none, some (.if_icmp .eq 13, 3, 57, 0, 0, 0), none, none, some (.iload_n 2, 1, 0, 0, 0, 0), some (.bipush 100, 2, 0, 0, 0, 0), none, some (.if_icmp .eq 7, 3, 57, 0, 0, 0), none, none, some (.iconst 1, 1, 0, 0, 0, 0), some (.goto 4, 3, 58, 0, 0, 0), none, none, some (.iconst 0, 1, 0, 0, 0, 0), some (.putfield 186, 3, 12, 23, 1, 961), none, none, some (.aload_n 0, 1, 0, 0, 0, 0), some (.dup, 1, 0, 0, 0, 0), some (.getfield 183, 3, 12, 22, 0, 960), none, none, some (.aload_n 0, 1, 0, 0, 0, 0), some (.getfield 186, 3, 12, 23, 1, 961), none, none, some (.ifCond .eq 7, 3, 77, 0, 0, 0), none, none, some (.iconst 0, 1, 0, 0, 0, 0), some (.goto 4, 3, 78, 0, 0, 0), none, none, some (.iconst 1, 1, 0, 0, 0, 0), some (.iadd, 1, 0, 0, 0, 0), some (.putfield 183, 3, 12, 22, 0, 960), none, none, some (.aload_n 0, 1, 0, 0, 0, 0), some (.getfield 186, 3, 12, 23, 1, 961), none, none, some (.ifCond .ne 14, 3, 100, 0, 0, 0), none, none, some (.iload_n 2, 1, 0, 0, 0, 0), some (.bipush 109, 2, 0, 0, 0, 0), none, some (.if_icmp .ne 8, 3, 100, 0, 0, 0), none, none, some (.aload_n 0, 1, 0, 0, 0, 0), some (.iload_n 1, 1, 0, 0, 0, 0), some (.invokevirtual 209, 3, 1228, 1, 0, 1104), none, none, some (.aload_n 0, 1, 0, 0, 0, 0), some (.getfield 186, 3, 12, 23, 1, 961), none, none, some (.ifCond .ne 14, 3, 118, 0, 0, 0), none, none, some (.iload_n 2, 1, 0, 0, 0, 0), some (.bipush 112, 2, 0, 0, 0, 0), none, some (.if_icmp .ne 8, 3, 118, 0, 0, 0), none, none, some (.aload_n 0, 1, 0, 0, 0, 0), some (.iload_n 1, 1, 0, 0, 0, 0), some (.invokevirtual 213, 3, 1229, 1, 0, 1112), none, none, some (.aload_n 0, 1, 0, 0, 0, 0), some (.getfield 186, 3, 12, 23, 1, 961), none, none, some (.ifCond .ne 19, 3, 141, 0, 0, 0), none, none, some (.iload_n 2, 1, 0, 0, 0, 0), some (.bipush 100, 2, 0, 0, 0, 0), none, some (.if_icmp .ne 13, 3, 141, 0, 0, 0), none, none, some (.aload_n 0, 1, 0, 0, 0, 0), some (.getfield 56, 3, 12, 27, 2, 965), none, none, some (.iload_n 1, 1, 0, 0, 0, 0), some (.aload_n 0, 1, 0, 0, 0, 0), some (.invokevirtual 200, 3, 1225, 0, 0, 1116), none, none, some (.iastore, 1, 0, 0, 0, 0), some (.aload_n 0, 1, 0, 0, 0, 0), some (.aload_n 0, 1, 0, 0, 0, 0), some (.getfield 186, 3, 12, 23, 1, 961), none, none, some (.ifCond .ne 12, 3, 158, 0, 0, 0), none, none, some (.aload_n 0, 1, 0, 0, 0, 0), some (.invokevirtual 189, 3, 1224, 0, 0, 1100), none, none, some (.bipush 59, 2, 0, 0, 0, 0), none, some (.if_icmp .eq 7, 3, 162, 0, 0, 0), none, none, some (.iconst 1, 1, 0, 0, 0, 0), some (.goto 4, 3, 163, 0, 0, 0), none, none, some (.iconst 0, 1, 0, 0, 0, 0), some (.putfield 186, 3, 12, 23, 1, 961), none, none, some (.aload_n 0, 1, 0, 0, 0, 0), some (.dup, 1, 0, 0, 0, 0), some (.getfield 183, 3, 12, 22, 0, 960), none, none, some (.aload_n 0, 1, 0, 0, 0, 0), some (.getfield 186, 3, 12, 23, 1, 961), none, none, some (.ifCond .eq 7, 3, 182, 0, 0, 0), none, none, some (.iconst 0, 1, 0, 0, 0, 0), some (.goto 4, 3, 183, 0, 0, 0), none, none, some (.iconst 1, 1, 0, 0, 0, 0), some (.iadd, 1, 0, 0, 0, 0), some (.putfield 183, 3, 12, 22, 0, 960), none, none, some (.aload_n 0, 1, 0, 0, 0, 0), some (.dup, 1, 0, 0, 0, 0), some (.getfield 206, 3, 12, 24, 0, 962), none, none, some (.iconst 1, 1, 0, 0, 0, 0), some (.iadd, 1, 0, 0, 0, 0), some (.putfield 206, 3, 12, 24, 0, 962), none, none, some (.return_, 1, 0, 0, 0, 0)]
/-- X12_moorComes(I)Z -/
def am_c1231 : List (Option am_En) := [some (.aload_n 0, 1, 0, 0, 0, 0), some (.aload_n 0, 1, 0, 0, 0, 0), some (.getfield 56, 3, 12, 27, 2, 965), none, none, some (.iload_n 1, 1, 0, 0, 0, 0), some (.iaload, 1, 0, 0, 0, 0), some (.putfield 7, 3, 12, 0, 0, 938), none, none, some (.aload_n 0, 1, 0, 0, 0, 0), some (.aload_n 0, 1, 0, 0, 0, 0), some (.getfield 59, 3, 12, 28, 2, 966), none, none, some (.iload_n 1, 1, 0, 0, 0, 0), some (.iaload, 1, 0, 0, 0, 0), some (.putfield 13, 3, 12, 1, 0, 939), none, none, some (.aload_n 0, 1, 0, 0, 0, 0), some (.aload_n 0, 1, 0, 0, 0, 0), some (.getfield 62, 3, 12, 29, 2, 967), none, none, some (.iload_n 1, 1, 0, 0, 0, 0), some (.iaload, 1, 0, 0, 0, 0), some (.putfield 102, 3, 12, 2, 0, 940), none, none, some (.aload_n 0, 1, 0, 0, 0, 0), some (.iconst 0, 1, 0, 0, 0, 0), some (.putfield 105, 3, 12, 3, 0, 941), none, none, some (.aload_n 0, 1, 0, 0, 0, 0), some (.iconst 0, 1, 0, 0, 0, 0), some (.putfield 119, 3, 12, 5, 0, 943), none, none, some (.iconst 1, 1, 0, 0, 0, 0), some (.ireturn, 1, 1, 0, 0, 0)]
/-- X12_comes(I)Z -/
def am_c1232 : List (Option am_En) := [some (.aload_n 0, 1, 0, 0, 0, 0), some (.getfield 53, 3, 12, 26, 2, 964), none, none, some (.iload_n 1, 1, 0, 0, 0, 0), some (.iaload, 1, 0, 0, 0, 0), some (.bipush 109, 2, 0, 0, 0, 0), none, some (.if_icmp .ne 9, 3, 17, 0, 0, 0), none, none, some (.aload_n 0, 1, 0, 0, 0, 0), some (.iload_n 1, 1, 0, 0, 0, 0), some (.invokevirtual 216, 3, 1231, 1, 0, 1132), none, none, some (.ireturn, 1, 1, 0, 0, 0), some (.aload_n 0, 1, 0, 0, 0, 0), some (.getfield 53, 3, 12, 26, 2, 964), none, none, some (.iload_n 1, 1, 0, 0, 0, 0), some (.iaload, 1, 0, 0, 0, 0), some (.bipush 100, 2, 0, 0, 0, 0), none, some (.if_icmp .ne 29, 3, 54, 0, 0, 0), none, none, some (.aload_n 0, 1, 0, 0, 0, 0), some (.aload_n 0, 1, 0, 0, 0, 0), some (.getfield 56, 3, 12, 27, 2, 965), none, none, some (.iload_n 1, 1, 0, 0, 0, 0), some (.iaload, 1, 0, 0, 0, 0), some (.putfield 16, 3, 12, 4, 0, 942), none, none, some (.aload_n 0, 1, 0, 0, 0, 0), some (.getfield 56, 3, 12, 27, 2, 965), none, none, some (.iload_n 1, 1, 0, 0, 0, 0), some (.iaload, 1, 0, 0, 0, 0), some (.iconst 4, 1, 0, 0, 0, 0), some (.if_icmp .ge 7, 3, 52, 0, 0, 0), none, none, some (.iconst 1, 1, 0, 0, 0, 0), some (.goto 4, 3, 53, 0, 0, 0), none, none, some (.iconst 0, 1, 0, 0, 0, 0), some (.ireturn, 1, 1, 0, 0, 0), some (.aload_n 0, 1, 0, 0, 0, 0), some (.getfield 56, 3, 12, 27, 2, 965), none, none, some (.iload_n 1, 1, 0, 0, 0, 0), some (.iaload, 1, 0, 0, 0, 0), some (.iconst 5, 1, 0, 0, 0, 0), some (.if_icmp .gt 24, 3, 85, 0, 0, 0), none, none, some (.aload_n 0, 1, 0, 0, 0, 0), some (.aload_n 0, 1, 0, 0, 0, 0), some (.getfield 62, 3, 12, 29, 2, 967), none, none, some (.iload_n 1, 1, 0, 0, 0, 0), some (.iaload, 1, 0, 0, 0, 0), some (.invokevirtual 112, 3, 1203, 1, 0, 1136), none, none, some (.ifCond .eq 11, 3, 85, 0, 0, 0), none, none, some (.aload_n 0, 1, 0, 0, 0, 0), some (.getfield 105, 3, 12, 3, 0, 941), none, none, some (.iconst 5, 1, 0, 0, 0, 0), some (.if_icmp .ne 5, 3, 87, 0, 0, 0), none, none, some (.iconst 0, 1, 0, 0, 0, 0), some (.ireturn, 1, 1, 0, 0, 0), some (.aload_n 0, 1, 0, 0, 0, 0), some (.getfield 19, 3, 12, 6, 2, 944), none, none, some (.aload_n 0, 1, 0, 0, 0, 0), some (.getfield 105, 3, 12, 3, 0, 941), none, none, some (.aload_n 0, 1, 0, 0, 0, 0), some (.getfield 56, 3, 12, 27, 2, 965), none, none, some (.iload_n 1, 1, 0, 0, 0, 0), some (.iaload, 1, 0, 0, 0, 0), some (.iastore, 1, 0, 0, 0, 0), some (.aload_n 0, 1, 0, 0, 0, 0), some (.getfield 23, 3, 12, 7, 2, 945), none, none, some (.aload_n 0, 1, 0, 0, 0, 0), some (.getfield 105, 3, 12, 3, 0, 941), none, none, some (.aload_n 0, 1, 0, 0, 0, 0), some (.getfield 59, 3, 12, 28, 2, 966), none, none, some (.iload_n 1, 1, 0, 0, 0, 0), some (.iaload, 1, 0, 0, 0, 0), some (.iastore, 1, 0, 0, 0, 0), some (.aload_n 0, 1, 0, 0, 0, 0), some (.getfield 26, 3, 12, 8, 2, 946), none, none, some (.aload_n 0, 1, 0, 0, 0, 0), some (.getfield 105, 3, 12, 3, 0, 941), none, none, some (.aload_n 0, 1, 0, 0, 0, 0), some (.getfield 65, 3, 12, 30, 2, 968), none, none, some (.iload_n 1, 1, 0, 0, 0, 0), some (.iaload, 1, 0, 0, 0, 0), some (.iastore, 1, 0, 0, 0, 0), some (.iconst 0, 1, 0, 0, 0, 0), some (.istore_n 2, 1, 0, 0, 0, 0), some (.iload_n 2, 1, 0, 0, 0, 0), some (.bipush 6, 2, 0, 0, 0, 0), none, some (.if_icmp .ge 34, 3, 171, 0, 0, 0), none, none, some (.aload_n 0, 1, 0, 0, 0, 0), some (.getfield 29, 3, 12, 9, 2, 947), none, none, some (.bipush 6, 2, 0, 0, 0, 0), none, some (.aload_n 0, 1, 0, 0, 0, 0), some (.getfield 105, 3, 12, 3, 0, 941), none, none, some (.imul, 1, 0, 0, 0, 0), some (.iload_n 2, 1, 0, 0, 0, 0), some (.iadd, 1, 0, 0, 0, 0), some (.aload_n 0, 1, 0, 0, 0, 0), some (.getfield 68, 3, 12, 31, 2, 969), none, none, some (.bipush 6, 2, 0, 0, 0, 0), none, some (.iload_n 1, 1, 0, 0, 0, 0), some (.imul, 1, 0, 0, 0, 0), some (.iload_n 2, 1, 0, 0, 0, 0), some (.iadd, 1, 0, 0, 0, 0), some (.iaload, 1, 0, 0, 0, 0), some (.iastore, 1, 0, 0, 0, 0), some (.iinc 2 1, 3, 0, 0, 0, 0), none, none, some (.goto (-34), 3, 134, 0, 0, 0), none, none, some (.aload_n 0, 1, 0, 0, 0, 0), some (.getfield 32, 3, 12, 10, 2, 948), none, none, some (.aload_n 0, 1, 0, 0, 0, 0), some (.getfield 105, 3, 12, 3, 0, 941), none, none, some (.aload_n 0, 1, 0, 0, 0, 0), some (.getfield 119, 3, 12, 5, 0, 943), none, none, some (.iastore, 1, 0, 0, 0, 0), some (.aload_n 0, 1, 0, 0, 0, 0), some (.getfield 35, 3, 12, 11, 2, 949), none, none, some (.sipush 130, 3, 0, 0, 0, 0), none, none, some (.aload_n 0, 1, 0, 0, 0, 0), some (.getfield 105, 3, 12, 3, 0, 941), none, none, some (.imul, 1, 0, 0, 0, 0), some (.aload_n 0, 1, 0, 0, 0, 0), some (.getfield 119, 3, 12, 5, 0, 943), none, none, some (.iadd, 1, 0, 0, 0, 0), some (.aload_n 0, 1, 0, 0, 0, 0), some (.getfield 62, 3, 12, 29, 2, 967), none, none, some (.iload_n 1, 1, 0, 0, 0, 0), some (.iaload, 1, 0, 0, 0, 0), some (.iastore, 1, 0, 0, 0, 0), some (.aload_n 0, 1, 0, 0, 0, 0), some (.dup, 1, 0, 0, 0, 0), some (.getfield 105, 3, 12, 3, 0, 941), none, none, some (.iconst 1, 1, 0, 0, 0, 0), some (.iadd, 1, 0, 0, 0, 0), some (.putfield 105, 3, 12, 3, 0, 941), none, none, some (.iconst 1, 1, 0, 0, 0, 0), some (.ireturn, 1, 1, 0, 0, 0)]
/-- X12_moor()I -/
def am_c1233 : List (Option am_En) := [some (.aload_n 0, 1, 0, 0, 0, 0), some (.iconst 0, 1, 0, 0, 0, 0), some (.putfield 95, 3, 12, 12, 0, 950), none, none, some (.aload_n 0, 1, 0, 0, 0, 0), some (.iconst 0, 1, 0, 0, 0, 0), some (.putfield 183, 3, 12, 22, 0, 960), none, none, some (.aload_n 0, 1, 0, 0, 0, 0), some (.iconst 0, 1, 0, 0, 0, 0), some (.putfield 186, 3, 12, 23, 1, 961), none, none, some (.aload_n 0, 1, 0, 0, 0, 0), some (.iconst 0, 1, 0, 0, 0, 0), some (.putfield 206, 3, 12, 24, 0, 962), none, none, some (.aload_n 0, 1, 0, 0, 0, 0), some (.getfield 186, 3, 12, 23, 1, 961), none, none, some (.ifCond .ne 28, 3, 52, 0, 0, 0), none, none, some (.aload_n 0, 1, 0, 0, 0, 0), some (.getfield 206, 3, 12, 24, 0, 962), none, none, some (.ifCond .eq 14, 3, 45, 0, 0, 0), none, none, some (.aload_n 0, 1, 0, 0, 0, 0), some (.getfield 183, 3, 12, 22, 0, 960), none, none, some (.aload_n 0, 1, 0, 0, 0, 0), some (.getfield 180, 3, 12, 21, 0, 959), none, none, some (.if_icmp .ge 10, 3, 52, 0, 0, 0), none, none, some (.aload_n 0, 1, 0, 0, 0, 0), some (.invokevirtual 219, 3, 1230, 0, 0, 1096), none, none, some (.goto (-29), 3, 20, 0, 0, 0), none, none, some (.aload_n 0, 1, 0, 0, 0, 0), some (.iconst 0, 1, 0, 0, 0, 0), some (.putfield 180, 3, 12, 21, 0, 959), none, none, some (.aload_n 0, 1, 0, 0, 0, 0), some (.getfield 186, 3, 12, 23, 1, 961), none, none, some (.ifCond .eq 12, 3, 73, 0, 0, 0), none, none, some (.sipush (-1000), 3, 0, 0, 0, 0), none, none, some (.aload_n 0, 1, 0, 0, 0, 0), some (.getfield 183, 3, 12, 22, 0, 960), none, none, some (.isub, 1, 0, 0, 0, 0), some (.ireturn, 1, 0, 0, 0, 0), some (.aload_n 0, 1, 0, 0, 0, 0), some (.aload_n 0, 1, 0, 0, 0, 0), some (.getfield 41, 3, 12, 14, 2, 952), none, none, some (.iconst 1, 1, 0, 0, 0, 0), some (.invokevirtual 173, 3, 1220, 2, 0, 1072), none, none, some (.iconst 0, 1, 0, 0, 0, 0), some (.istore_n 1, 1, 0, 0, 0, 0), some (.iload_n 1, 1, 0, 0, 0, 0), some (.aload_n 0, 1, 0, 0, 0, 0), some (.getfield 206, 3, 12, 24, 0, 962), none, none, some (.if_icmp .ge 37, 3, 126, 0, 0, 0), none, none, some (.aload_n 0, 1, 0, 0, 0, 0), some (.iload_n 1, 1, 0, 0, 0, 0), some (.invokevirtual 222, 3, 1232, 1, 0, 1128), none, none, some (.ifCond .ne 23, 3, 120, 0, 0, 0), none, none, some (.aload_n 0, 1, 0, 0, 0, 0), some (.aload_n 0, 1, 0, 0, 0, 0), some (.getfield 41, 3, 12, 14, 2, 952), none, none, some (.iconst 0, 1, 0, 0, 0, 0), some (.invokevirtual 173, 3, 1220, 2, 0, 1072), none, none, some (.sipush (-2000), 3, 0, 0, 0, 0), none, none, some (.aload_n 0, 1, 0, 0, 0, 0), some (.getfield 50, 3, 12, 25, 2, 963), none, none, some (.iload_n 1, 1, 0, 0, 0, 0), some (.iaload, 1, 0, 0, 0, 0), some (.isub, 1, 0, 0, 0, 0), some (.ireturn, 1, 0, 0, 0, 0), some (.iinc 1 1, 3, 0, 0, 0, 0), none, none, some (.goto (-39), 3, 84, 0, 0, 0), none, none, some (.aload_n 0, 1, 0, 0, 0, 0), some (.getfield 206, 3, 12, 24, 0, 962), none, none, some (.ireturn, 1, 0, 0, 0, 0)]
/-- X12_person(II)I -/
def am_c1234 : List (Option am_En) := [some (.aload_n 0, 1, 0, 0, 0, 0), some (.iconst 0, 1, 0, 0, 0, 0), some (.putfield 95, 3, 12, 12, 0, 950), none, none, some (.aload_n 0, 1, 0, 0, 0, 0), some (.iload_n 1, 1, 0, 0, 0, 0), some (.invokevirtual 108, 3, 1204, 1, 0, 1144), none, none, some (.ifCond .eq 15, 3, 25, 0, 0, 0), none, none, some (.iload_n 2, 1, 0, 0, 0, 0), some (.i2l, 1, 0, 0, 0, 0), some (.lconst 0, 1, 0, 0, 0, 0), some (.ldc2_w 225, 3, 4, 0, 0, 1148), none, none, some (.invokestatic 98, 3, 1201, 3, 0, 1122), none, none, some (.ifCond .ne 22, 3, 44, 0, 0, 0), none, none, some (.aload_n 0, 1, 0, 0, 0, 0), some (.aload_n 0, 1, 0, 0, 0, 0), some (.iload_n 1, 1, 0, 0, 0, 0), some (.invokevirtual 108, 3, 1204, 1, 0, 1144), none, none, some (.ifCond .eq 8, 3, 39, 0, 0, 0), none, none, some (.bipush (-2), 2, 0, 0, 0, 0), none, some (.goto 4, 3, 40, 0, 0, 0), none, none, some (.iconst (-1), 1, 0, 0, 0, 0), some (.invokevirtual 177, 3, 1202, 1, 0, 1084), none, none, some (.ireturn, 1, 0, 0, 0, 0), some (.iload_n 2, 1, 0, 0, 0, 0), some (.ifCond .ne 12, 3, 57, 0, 0, 0), none, none, some (.aload_n 0, 1, 0, 0, 0, 0), some (.getfield 19, 3, 12, 6, 2, 944), none, none, some (.iload_n 1, 1, 0, 0, 0, 0), some (.iaload, 1, 0, 0, 0, 0), some (.goto 49, 3, 103, 0, 0, 0), none, none, some (.iload_n 2, 1, 0, 0, 0, 0), some (.iconst 1, 1, 0, 0, 0, 0), some (.if_icmp .ne 12, 3, 71, 0, 0, 0), none, none, some (.aload_n 0, 1, 0, 0, 0, 0), some (.getfield 23, 3, 12, 7, 2, 945), none, none, some (.iload_n 1, 1, 0, 0, 0, 0), some (.iaload, 1, 0, 0, 0, 0), some (.goto 35, 3, 103, 0, 0, 0), none, none, some (.iload_n 2, 1, 0, 0, 0, 0), some (.iconst 2, 1, 0, 0, 0, 0), some (.if_icmp .ne 11, 3, 84, 0, 0, 0), none, none, some (.aload_n 0, 1, 0, 0, 0, 0), some (.iload_n 1, 1, 0, 0, 0, 0), some (.invokevirtual 122, 3, 1210, 1, 0, 1149), none, none, some (.goto 22, 3, 103, 0, 0, 0), none, none, some (.iload_n 2, 1, 0, 0, 0, 0), some (.iconst 3, 1, 0, 0, 0, 0), some (.if_icmp .ne 12, 3, 98, 0, 0, 0), none, none, some (.aload_n 0, 1, 0, 0, 0, 0), some (.getfield 26, 3, 12, 8, 2, 946), none, none, some (.iload_n 1, 1, 0, 0, 0, 0), some (.iaload, 1, 0, 0, 0, 0), some (.goto 8, 3, 103, 0, 0, 0), none, none, some (.aload_n 0, 1, 0, 0, 0, 0), some (.iload_n 1, 1, 0, 0, 0, 0), some (.invokevirtual 150, 3, 1216, 1, 0, 1153), none, none, some (.ireturn, 1, 0, 0, 0, 0)]
/-- X12_delay(I)I -/
def am_c1235 : List (Option am_En) := [some (.aload_n 0, 1, 0, 0, 0, 0), some (.iconst 0, 1, 0, 0, 0, 0), some (.putfield 95, 3, 12, 12, 0, 950), none, none, some (.iload_n 1, 1, 0, 0, 0, 0), some (.ifCond .lt 8, 3, 14, 0, 0, 0), none, none, some (.iload_n 1, 1, 0, 0, 0, 0), some (.iconst 3, 1, 0, 0, 0, 0), some (.if_icmp .le 19, 3, 30, 0, 0, 0), none, none, some (.aload_n 0, 1, 0, 0, 0, 0), some (.iload_n 1, 1, 0, 0, 0, 0), some (.ifCond .ge 8, 3, 24, 0, 0, 0), none, none, some (.bipush (-4), 2, 0, 0, 0, 0), none, some (.goto 5, 3, 26, 0, 0, 0), none, none, some (.bipush (-6), 2, 0, 0, 0, 0), none, some (.invokevirtual 177, 3, 1202, 1, 0, 1084), none, none, some (.ireturn, 1, 0, 0, 0, 0), some (.aload_n 0, 1, 0, 0, 0, 0), some (.getfield 16, 3, 12, 4, 0, 942), none, none, some (.istore_n 2, 1, 0, 0, 0, 0), some (.aload_n 0, 1, 0, 0, 0, 0), some (.iload_n 1, 1, 0, 0, 0, 0), some (.putfield 16, 3, 12, 4, 0, 942), none, none, some (.iload_n 2, 1, 0, 0, 0, 0), some (.ireturn, 1, 0, 0, 0, 0)]
/-- X12_day()I -/
def am_c1236 : List (Option am_En) := [some (.aload_n 0, 1, 0, 0, 0, 0), some (.iconst 0, 1, 0, 0, 0, 0), some (.putfield 95, 3, 12, 12, 0, 950), none, none, some (.aload_n 0, 1, 0, 0, 0, 0), some (.getfield 119, 3, 12, 5, 0, 943), none, none, some (.bipush 60, 2, 0, 0, 0, 0), none, some (.if_icmp .ne 12, 3, 23, 0, 0, 0), none, none, some (.aload_n 0, 1, 0, 0, 0, 0), some (.bipush (-6), 2, 0, 0, 0, 0), none, some (.invokevirtual 177, 3, 1202, 1, 0, 1084), none, none, some (.goto 7, 3, 27, 0, 0, 0), none, none, some (.aload_n 0, 1, 0, 0, 0, 0), some (.invokevirtual 153, 3, 1217, 0, 0, 1199), none, none, some (.ireturn, 1, 0, 0, 0, 0)]
/-- X12_was(II)I -/
def am_c1237 : List (Option am_En) := [some (.aload_n 0, 1, 0, 0, 0, 0), some (.iconst 0, 1, 0, 0, 0, 0), some (.putfield 95, 3, 12, 12, 0, 950), none, none, some (.aload_n 0, 1, 0, 0, 0, 0), some (.iload_n 1, 1, 0, 0, 0, 0), some (.invokevirtual 108, 3, 1204, 1, 0, 1144), none, none, some (.ifCond .ne 7, 3, 17, 0, 0, 0), none, none, some (.iconst (-1), 1, 0, 0, 0, 0), some (.goto 26, 3, 40, 0, 0, 0), none, none, some (.iload_n 2, 1, 0, 0, 0, 0), some (.ifCond .ge 8, 3, 26, 0, 0, 0), none, none, some (.bipush (-4), 2, 0, 0, 0, 0), none, some (.goto 17, 3, 40, 0, 0, 0), none, none, some (.iload_n 2, 1, 0, 0, 0, 0), some (.aload_n 0, 1, 0, 0, 0, 0), some (.getfield 119, 3, 12, 5, 0, 943), none, none, some (.if_icmp .le 8, 3, 39, 0, 0, 0), none, none, some (.bipush (-6), 2, 0, 0, 0, 0), none, some (.goto 4, 3, 40, 0, 0, 0), none, none, some (.iconst 0, 1, 0, 0, 0, 0), some (.istore_n 3, 1, 0, 0, 0, 0), some (.iload_n 3, 1, 0, 0, 0, 0), some (.ifCond .ge 11, 3, 53, 0, 0, 0), none, none, some (.aload_n 0, 1, 0, 0, 0, 0), some (.iload_n 3, 1, 0, 0, 0, 0), some (.invokevirtual 177, 3, 1202, 1, 0, 1084), none, none, some (.goto 9, 3, 59, 0, 0, 0), none, none, some (.aload_n 0, 1, 0, 0, 0, 0), some (.iload_n 1, 1, 0, 0, 0, 0), some (.iload_n 2, 1, 0, 0, 0, 0), some (.invokevirtual 132, 3, 1209, 2, 0, 1169), none, none, some (.ireturn, 1, 0, 0, 0, 0)]
/-- X12_sees(II)I -/
def am_c1238 : List (Option am_En) := [some (.aload_n 0, 1, 0, 0, 0, 0), some (.iconst 0, 1, 0, 0, 0, 0), some (.putfield 95, 3, 12, 12, 0, 950), none, none, some (.aload_n 0, 1, 0, 0, 0, 0), some (.iload_n 1, 1, 0, 0, 0, 0), some (.iload_n 2, 1, 0, 0, 0, 0), some (.invokevirtual 227, 3, 1205, 2, 0, 1211), none, none, some (.ifCond .eq 20, 3, 31, 0, 0, 0), none, none, some (.aload_n 0, 1, 0, 0, 0, 0), some (.iload_n 2, 1, 0, 0, 0, 0), some (.aload_n 0, 1, 0, 0, 0, 0), some (.getfield 119, 3, 12, 5, 0, 943), none, none, some (.aload_n 0, 1, 0, 0, 0, 0), some (.getfield 16, 3, 12, 4, 0, 942), none, none, some (.isub, 1, 0, 0, 0, 0), some (.invokevirtual 132, 3, 1209, 2, 0, 1169), none, none, some (.goto 8, 3, 36, 0, 0, 0), none, none, some (.aload_n 0, 1, 0, 0, 0, 0), some (.iconst (-1), 1, 0, 0, 0, 0), some (.invokevirtual 177, 3, 1202, 1, 0, 1084), none, none, some (.ireturn, 1, 0, 0, 0, 0)]
/-- X12_wrongDays(III)I -/
def am_c1239 : List (Option am_En) := [some (.iload_n 0, 1, 0, 0, 0, 0), some (.iload_n 1, 1, 0, 0, 0, 0), some (.if_icmp .ge 8, 3, 10, 0, 0, 0), none, none, some (.bipush (-4), 2, 0, 0, 0, 0), none, some (.goto 14, 3, 21, 0, 0, 0), none, none, some (.iload_n 0, 1, 0, 0, 0, 0), some (.iload_n 2, 1, 0, 0, 0, 0), some (.if_icmp .le 8, 3, 20, 0, 0, 0), none, none, some (.bipush (-6), 2, 0, 0, 0, 0), none, some (.goto 4, 3, 21, 0, 0, 0), none, none, some (.iconst 0, 1, 0, 0, 0, 0), some (.ireturn, 1, 0, 0, 0, 0)]
/-- X12_behind(II)I -/
def am_c1240 : List (Option am_En) := [some (.aload_n 0, 1, 0, 0, 0, 0), some (.iconst 0, 1, 0, 0, 0, 0), some (.putfield 95, 3, 12, 12, 0, 950), none, none, some (.aload_n 0, 1, 0, 0, 0, 0), some (.iload_n 1, 1, 0, 0, 0, 0), some (.invokevirtual 108, 3, 1204, 1, 0, 1144), none, none, some (.ifCond .eq 13, 3, 23, 0, 0, 0), none, none, some (.iload_n 2, 1, 0, 0, 0, 0), some (.iconst 0, 1, 0, 0, 0, 0), some (.bipush 60, 2, 0, 0, 0, 0), none, some (.invokestatic 231, 3, 1239, 3, 0, 1219), none, none, some (.goto 4, 3, 24, 0, 0, 0), none, none, some (.iconst (-1), 1, 0, 0, 0, 0), some (.istore_n 3, 1, 0, 0, 0, 0), some (.iload_n 3, 1, 0, 0, 0, 0), some (.ifCond .ge 9, 3, 35, 0, 0, 0), none, none, some (.aload_n 0, 1, 0, 0, 0, 0), some (.iload_n 3, 1, 0, 0, 0, 0), some (.invokevirtual 177, 3, 1202, 1, 0, 1084), none, none, some (.ireturn, 1, 0, 0, 0, 0), some (.aload_n 0, 1, 0, 0, 0, 0), some (.getfield 119, 3, 12, 5, 0, 943), none, none, some (.istore 4, 2, 0, 0, 0, 0), none, some (.aload_n 0, 1, 0, 0, 0, 0), some (.iload_n 2, 1, 0, 0, 0, 0), some (.invokevirtual 235, 3, 1218, 1, 0, 1222), none, none, some (.aload_n 0, 1, 0, 0, 0, 0), some (.iload_n 1, 1, 0, 0, 0, 0), some (.invokevirtual 122, 3, 1210, 1, 0, 1149), none, none, some (.istore 5, 2, 0, 0, 0, 0), none, some (.aload_n 0, 1, 0, 0, 0, 0), some (.iload 4, 2, 0, 0, 0, 0), none, some (.putfield 119, 3, 12, 5, 0, 943), none, none, some (.iload 5, 2, 0, 0, 0, 0), none, some (.ireturn, 1, 0, 0, 0, 0)]
/-- X12_meet(III)I -/
def am_c1241 : List (Option am_En) := [some (.aload_n 0, 1, 0, 0, 0, 0), some (.iconst 0, 1, 0, 0, 0, 0), some (.putfield 95, 3, 12, 12, 0, 950), none, none, some (.aload_n 0, 1, 0, 0, 0, 0), some (.iload_n 1, 1, 0, 0, 0, 0), some (.iload_n 2, 1, 0, 0, 0, 0), some (.invokevirtual 227, 3, 1205, 2, 0, 1211), none, none, some (.ifCond .eq 13, 3, 24, 0, 0, 0), none, none, some (.iload_n 3, 1, 0, 0, 0, 0), some (.i2l, 1, 0, 0, 0, 0), some (.lconst 0, 1, 0, 0, 0, 0), some (.lconst 1, 1, 0, 0, 0, 0), some (.invokestatic 98, 3, 1201, 3, 0, 1122), none, none, some (.ifCond .ne 23, 3, 44, 0, 0, 0), none, none, some (.aload_n 0, 1, 0, 0, 0, 0), some (.aload_n 0, 1, 0, 0, 0, 0), some (.iload_n 1, 1, 0, 0, 0, 0), some (.iload_n 2, 1, 0, 0, 0, 0), some (.invokevirtual 227, 3, 1205, 2, 0, 1211), none, none, some (.ifCond .eq 8, 3, 39, 0, 0, 0), none, none, some (.bipush (-2), 2, 0, 0, 0, 0), none, some (.goto 4, 3, 40, 0, 0, 0), none, none, some (.iconst (-1), 1, 0, 0, 0, 0), some (.invokevirtual 177, 3, 1202, 1, 0, 1084), none, none, some (.ireturn, 1, 0, 0, 0, 0), some (.aload_n 0, 1, 0, 0, 0, 0), some (.getfield 119, 3, 12, 5, 0, 943), none, none, some (.istore 4, 2, 0, 0, 0, 0), none, some (.iload_n 3, 1, 0, 0, 0, 0), some (.ifCond .ne 20, 3, 71, 0, 0, 0), none, none, some (.aload_n 0, 1, 0, 0, 0, 0), some (.iload_n 1, 1, 0, 0, 0, 0), some (.invokevirtual 122, 3, 1210, 1, 0, 1149), none, none, some (.aload_n 0, 1, 0, 0, 0, 0), some (.iload_n 2, 1, 0, 0, 0, 0), some (.invokevirtual 122, 3, 1210, 1, 0, 1149), none, none, some (.if_icmp .ne 7, 3, 71, 0, 0, 0), none, none, some (.iconst 0, 1, 0, 0, 0, 0), some (.goto 5, 3, 73, 0, 0, 0), none, none, some (.bipush (-9), 2, 0, 0, 0, 0), none, some (.istore 5, 2, 0, 0, 0, 0), none, some (.iconst 1, 1, 0, 0, 0, 0), some (.istore 6, 2, 0, 0, 0, 0), none, some (.iload 6, 2, 0, 0, 0, 0), none, some (.bipush 60, 2, 0, 0, 0, 0), none, some (.if_icmp .gt 115, 3, 197, 0, 0, 0), none, none, some (.iload 5, 2, 0, 0, 0, 0), none, some (.ifCond .ge 110, 3, 197, 0, 0, 0), none, none, some (.aload_n 0, 1, 0, 0, 0, 0), some (.iload_n 1, 1, 0, 0, 0, 0), some (.invokevirtual 122, 3, 1210, 1, 0, 1149), none, none, some (.istore 7, 2, 0, 0, 0, 0), none, some (.aload_n 0, 1, 0, 0, 0, 0), some (.iload_n 2, 1, 0, 0, 0, 0), some (.invokevirtual 122, 3, 1210, 1, 0, 1149), none, none, some (.istore 8, 2, 0, 0, 0, 0), none, some (.aload_n 0, 1, 0, 0, 0, 0), some (.invokevirtual 153, 3, 1217, 0, 0, 1199), none, none, some (.pop, 1, 0, 0, 0, 0), some (.aload_n 0, 1, 0, 0, 0, 0), some (.iload_n 1, 1, 0, 0, 0, 0), some (.invokevirtual 122, 3, 1210, 1, 0, 1149), none, none, some (.aload_n 0, 1, 0, 0, 0, 0), some (.iload_n 2, 1, 0, 0, 0, 0), some (.invokevirtual 122, 3, 1210, 1, 0, 1149), none, none, some (.if_icmp .ne 7, 3, 126, 0, 0, 0), none, none, some (.iconst 1, 1, 0, 0, 0, 0), some (.goto 4, 3, 127, 0, 0, 0), none, none, some (.iconst 0, 1, 0, 0, 0, 0), some (.istore 9, 2, 0, 0, 0, 0), none, some (.iload 7, 2, 0, 0, 0, 0), none, some (.iload 8, 2, 0, 0, 0, 0), none, some (.if_icmp .eq 27, 3, 160, 0, 0, 0), none, none, some (.aload_n 0, 1, 0, 0, 0, 0), some (.iload_n 1, 1, 0, 0, 0, 0), some (.invokevirtual 122, 3, 1210, 1, 0, 1149), none, none, some (.iload 8, 2, 0, 0, 0, 0), none, some (.if_icmp .ne 17, 3, 160, 0, 0, 0), none, none, some (.aload_n 0, 1, 0, 0, 0, 0), some (.iload_n 2, 1, 0, 0, 0, 0), some (.invokevirtual 122, 3, 1210, 1, 0, 1149), none, none, some (.iload 7, 2, 0, 0, 0, 0), none, some (.if_icmp .ne 7, 3, 160, 0, 0, 0), none, none, some (.iconst 1, 1, 0, 0, 0, 0), some (.goto 4, 3, 161, 0, 0, 0), none, none, some (.iconst 0, 1, 0, 0, 0, 0), some (.istore 10, 2, 0, 0, 0, 0), none, some (.iload_n 3, 1, 0, 0, 0, 0), some (.ifCond .ne 8, 3, 172, 0, 0, 0), none, none, some (.iload 9, 2, 0, 0, 0, 0), none, some (.ifCond .ne 13, 3, 182, 0, 0, 0), none, none, some (.iload_n 3, 1, 0, 0, 0, 0), some (.iconst 1, 1, 0, 0, 0, 0), some (.if_icmp .ne 13, 3, 187, 0, 0, 0), none, none, some (.iload 10, 2, 0, 0, 0, 0), none, some (.ifCond .eq 8, 3, 187, 0, 0, 0), none, none, some (.iload 6, 2, 0, 0, 0, 0), none, some (.goto 5, 3, 189, 0, 0, 0), none, none, some (.bipush (-9), 2, 0, 0, 0, 0), none, some (.istore 5, 2, 0, 0, 0, 0), none, some (.iinc 6 1, 3, 0, 0, 0, 0), none, none, some (.goto (-116), 3, 78, 0, 0, 0), none, none, some (.aload_n 0, 1, 0, 0, 0, 0), some (.iload 4, 2, 0, 0, 0, 0), none, some (.putfield 119, 3, 12, 5, 0, 943), none, none, some (.iload 5, 2, 0, 0, 0, 0), none, some (.ireturn, 1, 0, 0, 0, 0)]
/-- X12_freeBits()I -/
def am_c1242 : List (Option am_En) := [some (.iconst 1, 1, 0, 0, 0, 0), some (.aload_n 0, 1, 0, 0, 0, 0), some (.getfield 7, 3, 12, 0, 0, 938), none, none, some (.aload_n 0, 1, 0, 0, 0, 0), some (.getfield 13, 3, 12, 1, 0, 939), none, none, some (.imul, 1, 0, 0, 0, 0), some (.ishl, 1, 0, 0, 0, 0), some (.iconst 1, 1, 0, 0, 0, 0), some (.isub, 1, 0, 0, 0, 0), some (.aload_n 0, 1, 0, 0, 0, 0), some (.getfield 102, 3, 12, 2, 0, 940), none, none, some (.iconst (-1), 1, 0, 0, 0, 0), some (.ixor, 1, 0, 0, 0, 0), some (.iand, 1, 0, 0, 0, 0), some (.ireturn, 1, 0, 0, 0, 0)]
/-- X12_never(II)I -/
def am_c1243 : List (Option am_En) := [some (.aload_n 0, 1, 0, 0, 0, 0), some (.iconst 0, 1, 0, 0, 0, 0), some (.putfield 95, 3, 12, 12, 0, 950), none, none, some (.aload_n 0, 1, 0, 0, 0, 0), some (.iload_n 1, 1, 0, 0, 0, 0), some (.invokevirtual 108, 3, 1204, 1, 0, 1144), none, none, some (.ifCond .eq 13, 3, 23, 0, 0, 0), none, none, some (.iload_n 2, 1, 0, 0, 0, 0), some (.iconst 0, 1, 0, 0, 0, 0), some (.bipush 60, 2, 0, 0, 0, 0), none, some (.invokestatic 231, 3, 1239, 3, 0, 1219), none, none, some (.goto 4, 3, 24, 0, 0, 0), none, none, some (.iconst (-1), 1, 0, 0, 0, 0), some (.istore_n 3, 1, 0, 0, 0, 0), some (.iload_n 3, 1, 0, 0, 0, 0), some (.ifCond .ge 9, 3, 35, 0, 0, 0), none, none, some (.aload_n 0, 1, 0, 0, 0, 0), some (.iload_n 3, 1, 0, 0, 0, 0), some (.invokevirtual 177, 3, 1202, 1, 0, 1084), none, none, some (.ireturn, 1, 0, 0, 0, 0), some (.aload_n 0, 1, 0, 0, 0, 0), some (.getfield 119, 3, 12, 5, 0, 943), none, none, some (.istore 4, 2, 0, 0, 0, 0), none, some (.aload_n 0, 1, 0, 0, 0, 0), some (.invokevirtual 238, 3, 1242, 0, 0, 1234), none, none, some (.iconst 1, 1, 0, 0, 0, 0), some (.aload_n 0, 1, 0, 0, 0, 0), some (.iload_n 1, 1, 0, 0, 0, 0), some (.invokevirtual 122, 3, 1210, 1, 0, 1149), none, none, some (.ishl, 1, 0, 0, 0, 0), some (.iconst (-1), 1, 0, 0, 0, 0), some (.ixor, 1, 0, 0, 0, 0), some (.iand, 1, 0, 0, 0, 0), some (.istore 5, 2, 0, 0, 0, 0), none, some (.iconst 0, 1, 0, 0, 0, 0), some (.istore 6, 2, 0, 0, 0, 0), none, some (.iload 6, 2, 0, 0, 0, 0), none, some (.iload_n 2, 1, 0, 0, 0, 0), some (.if_icmp .ge 28, 3, 91, 0, 0, 0), none, none, some (.aload_n 0, 1, 0, 0, 0, 0), some (.invokevirtual 153, 3, 1217, 0, 0, 1199), none, none, some (.pop, 1, 0, 0, 0, 0), some (.iload 5, 2, 0, 0, 0, 0), none, some (.iconst 1, 1, 0, 0, 0, 0), some (.aload_n 0, 1, 0, 0, 0, 0), some (.iload_n 1, 1, 0, 0, 0, 0), some (.invokevirtual 122, 3, 1210, 1, 0, 1149), none, none, some (.ishl, 1, 0, 0, 0, 0), some (.iconst (-1), 1, 0, 0, 0, 0), some (.ixor, 1, 0, 0, 0, 0), some (.iand, 1, 0, 0, 0, 0), some (.istore 5, 2, 0, 0, 0, 0), none, some (.iinc 6 1, 3, 0, 0, 0, 0), none, none, some (.goto (-28), 3, 60, 0, 0, 0), none, none, some (.aload_n 0, 1, 0, 0, 0, 0), some (.iload 4, 2, 0, 0, 0, 0), none, some (.putfield 119, 3, 12, 5, 0, 943), none, none, some (.iload 5, 2, 0, 0, 0, 0), none, some (.ireturn, 1, 0, 0, 0, 0)]
/-- X12_crowd(II)I -/
def am_c1244 : List (Option am_En) := [some (.aload_n 0, 1, 0, 0, 0, 0), some (.iconst 0, 1, 0, 0, 0, 0), some (.putfield 95, 3, 12, 12, 0, 950), none, none, some (.iload_n 2, 1, 0, 0, 0, 0), some (.i2l, 1, 0, 0, 0, 0), some (.lconst 0, 1, 0, 0, 0, 0), some (.lconst 1, 1, 0, 0, 0, 0), some (.invokestatic 98, 3, 1201, 3, 0, 1122), none, none, some (.ifCond .eq 13, 3, 25, 0, 0, 0), none, none, some (.iload_n 1, 1, 0, 0, 0, 0), some (.iconst 0, 1, 0, 0, 0, 0), some (.bipush 60, 2, 0, 0, 0, 0), none, some (.invokestatic 231, 3, 1239, 3, 0, 1219), none, none, some (.goto 5, 3, 27, 0, 0, 0), none, none, some (.bipush (-2), 2, 0, 0, 0, 0), none, some (.istore_n 3, 1, 0, 0, 0, 0), some (.iload_n 3, 1, 0, 0, 0, 0), some (.ifCond .ge 9, 3, 38, 0, 0, 0), none, none, some (.aload_n 0, 1, 0, 0, 0, 0), some (.iload_n 3, 1, 0, 0, 0, 0), some (.invokevirtual 177, 3, 1202, 1, 0, 1084), none, none, some (.ireturn, 1, 0, 0, 0, 0), some (.aload_n 0, 1, 0, 0, 0, 0), some (.getfield 119, 3, 12, 5, 0, 943), none, none, some (.istore 4, 2, 0, 0, 0, 0), none, some (.aload_n 0, 1, 0, 0, 0, 0), some (.iload_n 1, 1, 0, 0, 0, 0), some (.invokevirtual 235, 3, 1218, 1, 0, 1222), none, none, some (.iconst 0, 1, 0, 0, 0, 0), some (.istore 5, 2, 0, 0, 0, 0), none, some (.bipush (-9), 2, 0, 0, 0, 0), none, some (.istore 6, 2, 0, 0, 0, 0), none, some (.iconst 0, 1, 0, 0, 0, 0), some (.istore 7, 2, 0, 0, 0, 0), none, some (.iload 7, 2, 0, 0, 0, 0), none, some (.aload_n 0, 1, 0, 0, 0, 0), some (.getfield 7, 3, 12, 0, 0, 938), none, none, some (.aload_n 0, 1, 0, 0, 0, 0), some (.getfield 13, 3, 12, 1, 0, 939), none, none, some (.imul, 1, 0, 0, 0, 0), some (.if_icmp .ge 83, 3, 153, 0, 0, 0), none, none, some (.iconst 0, 1, 0, 0, 0, 0), some (.istore 8, 2, 0, 0, 0, 0), none, some (.iconst 0, 1, 0, 0, 0, 0), some (.istore 9, 2, 0, 0, 0, 0), none, some (.iload 9, 2, 0, 0, 0, 0), none, some (.aload_n 0, 1, 0, 0, 0, 0), some (.getfield 105, 3, 12, 3, 0, 941), none, none, some (.if_icmp .ge 30, 3, 115, 0, 0, 0), none, none, some (.iload 8, 2, 0, 0, 0, 0), none, some (.aload_n 0, 1, 0, 0, 0, 0), some (.iload 9, 2, 0, 0, 0, 0), none, some (.invokevirtual 122, 3, 1210, 1, 0, 1149), none, none, some (.iload 7, 2, 0, 0, 0, 0), none, some (.if_icmp .ne 7, 3, 105, 0, 0, 0), none, none, some (.iconst 1, 1, 0, 0, 0, 0), some (.goto 4, 3, 106, 0, 0, 0), none, none, some (.iconst 0, 1, 0, 0, 0, 0), some (.iadd, 1, 0, 0, 0, 0), some (.istore 8, 2, 0, 0, 0, 0), none, some (.iinc 9 1, 3, 0, 0, 0, 0), none, none, some (.goto (-33), 3, 79, 0, 0, 0), none, none, some (.iload 8, 2, 0, 0, 0, 0), none, some (.iload 5, 2, 0, 0, 0, 0), none, some (.if_icmp .le 8, 3, 127, 0, 0, 0), none, none, some (.iload 7, 2, 0, 0, 0, 0), none, some (.goto 5, 3, 129, 0, 0, 0), none, none, some (.iload 6, 2, 0, 0, 0, 0), none, some (.istore 6, 2, 0, 0, 0, 0), none, some (.iload 8, 2, 0, 0, 0, 0), none, some (.iload 5, 2, 0, 0, 0, 0), none, some (.if_icmp .le 8, 3, 143, 0, 0, 0), none, none, some (.iload 8, 2, 0, 0, 0, 0), none, some (.goto 5, 3, 145, 0, 0, 0), none, none, some (.iload 5, 2, 0, 0, 0, 0), none, some (.istore 5, 2, 0, 0, 0, 0), none, some (.iinc 7 1, 3, 0, 0, 0, 0), none, none, some (.goto (-91), 3, 59, 0, 0, 0), none, none, some (.aload_n 0, 1, 0, 0, 0, 0), some (.iload 4, 2, 0, 0, 0, 0), none, some (.putfield 119, 3, 12, 5, 0, 943), none, none, some (.iload_n 2, 1, 0, 0, 0, 0), some (.ifCond .ne 8, 3, 168, 0, 0, 0), none, none, some (.iload 5, 2, 0, 0, 0, 0), none, some (.goto 5, 3, 170, 0, 0, 0), none, none, some (.iload 6, 2, 0, 0, 0, 0), none, some (.ireturn, 1, 0, 0, 0, 0)]
/-- X12_reachIn(II)I -/
def am_c1245 : List (Option am_En) := [some (.iconst 1, 1, 0, 0, 0, 0), some (.iload_n 1, 1, 0, 0, 0, 0), some (.ishl, 1, 0, 0, 0, 0), some (.istore_n 3, 1, 0, 0, 0, 0), some (.iconst 0, 1, 0, 0, 0, 0), some (.istore 4, 2, 0, 0, 0, 0), none, some (.iload 4, 2, 0, 0, 0, 0), none, some (.iload_n 2, 1, 0, 0, 0, 0), some (.if_icmp .ge 95, 3, 105, 0, 0, 0), none, none, some (.iload_n 3, 1, 0, 0, 0, 0), some (.istore 5, 2, 0, 0, 0, 0), none, some (.iconst 0, 1, 0, 0, 0, 0), some (.istore 6, 2, 0, 0, 0, 0), none, some (.iload 6, 2, 0, 0, 0, 0), none, some (.aload_n 0, 1, 0, 0, 0, 0), some (.getfield 7, 3, 12, 0, 0, 938), none, none, some (.aload_n 0, 1, 0, 0, 0, 0), some (.getfield 13, 3, 12, 1, 0, 939), none, none, some (.imul, 1, 0, 0, 0, 0), some (.if_icmp .ge 66, 3, 96, 0, 0, 0), none, none, some (.iconst 0, 1, 0, 0, 0, 0), some (.istore 7, 2, 0, 0, 0, 0), none, some (.iload 7, 2, 0, 0, 0, 0), none, some (.iconst 4, 1, 0, 0, 0, 0), some (.if_icmp .ge 51, 3, 90, 0, 0, 0), none, none, some (.iload_n 3, 1, 0, 0, 0, 0), some (.iload 6, 2, 0, 0, 0, 0), none, some (.ishr, 1, 0, 0, 0, 0), some (.iconst 1, 1, 0, 0, 0, 0), some (.iand, 1, 0, 0, 0, 0), some (.iconst 1, 1, 0, 0, 0, 0), some (.if_icmp .ne 14, 3, 63, 0, 0, 0), none, none, some (.aload_n 0, 1, 0, 0, 0, 0), some (.iload 6, 2, 0, 0, 0, 0), none, some (.iload 7, 2, 0, 0, 0, 0), none, some (.invokevirtual 126, 3, 1206, 2, 0, 1161), none, none, some (.goto 4, 3, 64, 0, 0, 0), none, none, some (.iconst (-1), 1, 0, 0, 0, 0), some (.istore 8, 2, 0, 0, 0, 0), none, some (.iload 5, 2, 0, 0, 0, 0), none, some (.iload 8, 2, 0, 0, 0, 0), none, some (.ifCond .ge 7, 3, 77, 0, 0, 0), none, none, some (.iconst 0, 1, 0, 0, 0, 0), some (.goto 7, 3, 81, 0, 0, 0), none, none, some (.iconst 1, 1, 0, 0, 0, 0), some (.iload 8, 2, 0, 0, 0, 0), none, some (.ishl, 1, 0, 0, 0, 0), some (.ior, 1, 0, 0, 0, 0), some (.istore 5, 2, 0, 0, 0, 0), none, some (.iinc 7 1, 3, 0, 0, 0, 0), none, none, some (.goto (-51), 3, 36, 0, 0, 0), none, none, some (.iinc 6 1, 3, 0, 0, 0, 0), none, none, some (.goto (-74), 3, 19, 0, 0, 0), none, none, some (.iload 5, 2, 0, 0, 0, 0), none, some (.istore_n 3, 1, 0, 0, 0, 0), some (.iinc 4 1, 3, 0, 0, 0, 0), none, none, some (.goto (-95), 3, 7, 0, 0, 0), none, none, some (.iload_n 3, 1, 0, 0, 0, 0), some (.ireturn, 1, 0, 0, 0, 0)]
/-- X12_reach(II)I -/
def am_c1246 : List (Option am_En) := [some (.aload_n 0, 1, 0, 0, 0, 0), some (.iconst 0, 1, 0, 0, 0, 0), some (.putfield 95, 3, 12, 12, 0, 950), none, none, some (.aload_n 0, 1, 0, 0, 0, 0), some (.iload_n 1, 1, 0, 0, 0, 0), some (.invokevirtual 112, 3, 1203, 1, 0, 1136), none, none, some (.ifCond .eq 13, 3, 23, 0, 0, 0), none, none, some (.iload_n 2, 1, 0, 0, 0, 0), some (.iconst 0, 1, 0, 0, 0, 0), some (.bipush 30, 2, 0, 0, 0, 0), none, some (.invokestatic 231, 3, 1239, 3, 0, 1219), none, none, some (.goto 4, 3, 24, 0, 0, 0), none, none, some (.iconst (-1), 1, 0, 0, 0, 0), some (.istore_n 3, 1, 0, 0, 0, 0), some (.iload_n 3, 1, 0, 0, 0, 0), some (.ifCond .ge 11, 3, 37, 0, 0, 0), none, none, some (.aload_n 0, 1, 0, 0, 0, 0), some (.iload_n 3, 1, 0, 0, 0, 0), some (.invokevirtual 177, 3, 1202, 1, 0, 1084), none, none, some (.goto 9, 3, 43, 0, 0, 0), none, none, some (.aload_n 0, 1, 0, 0, 0, 0), some (.iload_n 1, 1, 0, 0, 0, 0), some (.iload_n 2, 1, 0, 0, 0, 0), some (.invokevirtual 241, 3, 1245, 2, 0, 1246), none, none, some (.ireturn, 1, 0, 0, 0, 0)]
/-- X12_can(II)I -/
def am_c1247 : List (Option am_En) := [some (.aload_n 0, 1, 0, 0, 0, 0), some (.iconst 0, 1, 0, 0, 0, 0), some (.putfield 95, 3, 12, 12, 0, 950), none, none, some (.aload_n 0, 1, 0, 0, 0, 0), some (.iload_n 1, 1, 0, 0, 0, 0), some (.iload_n 2, 1, 0, 0, 0, 0), some (.invokevirtual 227, 3, 1205, 2, 0, 1211), none, none, some (.ifCond .eq 28, 3, 39, 0, 0, 0), none, none, some (.aload_n 0, 1, 0, 0, 0, 0), some (.aload_n 0, 1, 0, 0, 0, 0), some (.iload_n 2, 1, 0, 0, 0, 0), some (.aload_n 0, 1, 0, 0, 0, 0), some (.getfield 119, 3, 12, 5, 0, 943), none, none, some (.aload_n 0, 1, 0, 0, 0, 0), some (.getfield 16, 3, 12, 4, 0, 942), none, none, some (.isub, 1, 0, 0, 0, 0), some (.invokevirtual 132, 3, 1209, 2, 0, 1169), none, none, some (.aload_n 0, 1, 0, 0, 0, 0), some (.getfield 16, 3, 12, 4, 0, 942), none, none, some (.invokevirtual 241, 3, 1245, 2, 0, 1246), none, none, some (.goto 8, 3, 44, 0, 0, 0), none, none, some (.aload_n 0, 1, 0, 0, 0, 0), some (.iconst (-1), 1, 0, 0, 0, 0), some (.invokevirtual 177, 3, 1202, 1, 0, 1084), none, none, some (.ireturn, 1, 0, 0, 0, 0)]
/-- X12_isSeen(IIZ)Z -/
def am_c1248 : List (Option am_En) := [some (.iconst 1, 1, 0, 0, 0, 0), some (.istore 4, 2, 0, 0, 0, 0), none, some (.iconst 0, 1, 0, 0, 0, 0), some (.istore 5, 2, 0, 0, 0, 0), none, some (.iload 5, 2, 0, 0, 0, 0), none, some (.aload_n 0, 1, 0, 0, 0, 0), some (.getfield 244, 3, 12, 36, 0, 974), none, none, some (.if_icmp .ge 47, 3, 59, 0, 0, 0), none, none, some (.iload_n 3, 1, 0, 0, 0, 0), some (.ifCond .eq 43, 3, 59, 0, 0, 0), none, none, some (.iload 4, 2, 0, 0, 0, 0), none, some (.ifCond .eq 29, 3, 50, 0, 0, 0), none, none, some (.aload_n 0, 1, 0, 0, 0, 0), some (.getfield 77, 3, 12, 34, 2, 972), none, none, some (.iload 5, 2, 0, 0, 0, 0), none, some (.iaload, 1, 0, 0, 0, 0), some (.iload_n 1, 1, 0, 0, 0, 0), some (.if_icmp .ne 14, 3, 46, 0, 0, 0), none, none, some (.aload_n 0, 1, 0, 0, 0, 0), some (.getfield 80, 3, 12, 35, 2, 973), none, none, some (.iload 5, 2, 0, 0, 0, 0), none, some (.iaload, 1, 0, 0, 0, 0), some (.iload_n 2, 1, 0, 0, 0, 0), some (.if_icmp .ne 7, 3, 50, 0, 0, 0), none, none, some (.iconst 1, 1, 0, 0, 0, 0), some (.goto 4, 3, 51, 0, 0, 0), none, none, some (.iconst 0, 1, 0, 0, 0, 0), some (.istore 4, 2, 0, 0, 0, 0), none, some (.iinc 5 1, 3, 0, 0, 0, 0), none, none, some (.goto (-50), 3, 6, 0, 0, 0), none, none, some (.iload 4, 2, 0, 0, 0, 0), none, some (.ireturn, 1, 1, 0, 0, 0)]
/-- X12_countWays(IIZ)V -/
def am_c1249 : List (Option am_En) := [some (.aload_n 0, 1, 0, 0, 0, 0), some (.getfield 7, 3, 12, 0, 0, 938), none, none, some (.aload_n 0, 1, 0, 0, 0, 0), some (.getfield 13, 3, 12, 1, 0, 939), none, none, some (.imul, 1, 0, 0, 0, 0), some (.istore 4, 2, 0, 0, 0, 0), none, some (.iconst 0, 1, 0, 0, 0, 0), some (.istore 5, 2, 0, 0, 0, 0), none, some (.iload 5, 2, 0, 0, 0, 0), none, some (.iload_n 2, 1, 0, 0, 0, 0), some (.if_icmp .gt 142, 3, 159, 0, 0, 0), none, none, some (.iconst 0, 1, 0, 0, 0, 0), some (.istore 6, 2, 0, 0, 0, 0), none, some (.iload 6, 2, 0, 0, 0, 0), none, some (.iload 4, 2, 0, 0, 0, 0), none, some (.if_icmp .ge 126, 3, 153, 0, 0, 0), none, none, some (.iload 5, 2, 0, 0, 0, 0), none, some (.ifCond .ne 13, 3, 45, 0, 0, 0), none, none, some (.iload 6, 2, 0, 0, 0, 0), none, some (.iload_n 1, 1, 0, 0, 0, 0), some (.if_icmp .ne 7, 3, 45, 0, 0, 0), none, none, some (.iconst 1, 1, 0, 0, 0, 0), some (.goto 4, 3, 46, 0, 0, 0), none, none, some (.iconst 0, 1, 0, 0, 0, 0), some (.istore 7, 2, 0, 0, 0, 0), none, some (.iconst 0, 1, 0, 0, 0, 0), some (.istore 8, 2, 0, 0, 0, 0), none, some (.iload 8, 2, 0, 0, 0, 0), none, some (.iconst 5, 1, 0, 0, 0, 0), some (.if_icmp .ge 62, 3, 116, 0, 0, 0), none, none, some (.iload 5, 2, 0, 0, 0, 0), none, some (.ifCond .le 57, 3, 116, 0, 0, 0), none, none, some (.aload_n 0, 1, 0, 0, 0, 0), some (.iload 6, 2, 0, 0, 0, 0), none, some (.invokevirtual 112, 3, 1203, 1, 0, 1136), none, none, some (.ifCond .eq 48, 3, 116, 0, 0, 0), none, none, some (.aload_n 0, 1, 0, 0, 0, 0), some (.iload 6, 2, 0, 0, 0, 0), none, some (.iload 8, 2, 0, 0, 0, 0), none, some (.invokevirtual 126, 3, 1206, 2, 0, 1161), none, none, some (.istore 9, 2, 0, 0, 0, 0), none, some (.iload 7, 2, 0, 0, 0, 0), none, some (.iload 9, 2, 0, 0, 0, 0), none, some (.ifCond .ge 7, 3, 92, 0, 0, 0), none, none, some (.iconst 0, 1, 0, 0, 0, 0), some (.goto 18, 3, 107, 0, 0, 0), none, none, some (.aload_n 0, 1, 0, 0, 0, 0), some (.getfield 71, 3, 12, 32, 2, 970), none, none, some (.bipush 30, 2, 0, 0, 0, 0), none, some (.iload 5, 2, 0, 0, 0, 0), none, some (.iconst 1, 1, 0, 0, 0, 0), some (.isub, 1, 0, 0, 0, 0), some (.imul, 1, 0, 0, 0, 0), some (.iload 9, 2, 0, 0, 0, 0), none, some (.iadd, 1, 0, 0, 0, 0), some (.iaload, 1, 0, 0, 0, 0), some (.iadd, 1, 0, 0, 0, 0), some (.istore 7, 2, 0, 0, 0, 0), none, some (.iinc 8 1, 3, 0, 0, 0, 0), none, none, some (.goto (-62), 3, 51, 0, 0, 0), none, none, some (.aload_n 0, 1, 0, 0, 0, 0), some (.getfield 71, 3, 12, 32, 2, 970), none, none, some (.bipush 30, 2, 0, 0, 0, 0), none, some (.iload 5, 2, 0, 0, 0, 0), none, some (.imul, 1, 0, 0, 0, 0), some (.iload 6, 2, 0, 0, 0, 0), none, some (.iadd, 1, 0, 0, 0, 0), some (.aload_n 0, 1, 0, 0, 0, 0), some (.iload 5, 2, 0, 0, 0, 0), none, some (.iload 6, 2, 0, 0, 0, 0), none, some (.iload_n 3, 1, 0, 0, 0, 0), some (.invokevirtual 247, 3, 1248, 3, 0, 1262), none, none, some (.ifCond .eq 8, 3, 145, 0, 0, 0), none, none, some (.iload 7, 2, 0, 0, 0, 0), none, some (.goto 4, 3, 146, 0, 0, 0), none, none, some (.iconst 0, 1, 0, 0, 0, 0), some (.iastore, 1, 0, 0, 0, 0), some (.iinc 6 1, 3, 0, 0, 0, 0), none, none, some (.goto (-127), 3, 23, 0, 0, 0), none, none, some (.iinc 5 1, 3, 0, 0, 0, 0), none, none, some (.goto (-142), 3, 14, 0, 0, 0), none, none, some (.return_, 1, 0, 0, 0, 0)]
/-- X12_countBack(I)V -/
def am_c1250 : List (Option am_En) := [some (.aload_n 0, 1, 0, 0, 0, 0), some (.getfield 7, 3, 12, 0, 0, 938), none, none, some (.aload_n 0, 1, 0, 0, 0, 0), some (.getfield 13, 3, 12, 1, 0, 939), none, none, some (.imul, 1, 0, 0, 0, 0), some (.istore_n 2, 1, 0, 0, 0, 0), some (.iload_n 1, 1, 0, 0, 0, 0), some (.istore_n 3, 1, 0, 0, 0, 0), some (.iload_n 3, 1, 0, 0, 0, 0), some (.ifCond .lt 141, 3, 154, 0, 0, 0), none, none, some (.iconst 0, 1, 0, 0, 0, 0), some (.istore 4, 2, 0, 0, 0, 0), none, some (.iload 4, 2, 0, 0, 0, 0), none, some (.iload_n 2, 1, 0, 0, 0, 0), some (.if_icmp .ge 126, 3, 148, 0, 0, 0), none, none, some (.iload_n 3, 1, 0, 0, 0, 0), some (.iload_n 1, 1, 0, 0, 0, 0), some (.if_icmp .ne 16, 3, 43, 0, 0, 0), none, none, some (.aload_n 0, 1, 0, 0, 0, 0), some (.iload 4, 2, 0, 0, 0, 0), none, some (.invokevirtual 112, 3, 1203, 1, 0, 1136), none, none, some (.ifCond .eq 7, 3, 43, 0, 0, 0), none, none, some (.iconst 1, 1, 0, 0, 0, 0), some (.goto 4, 3, 44, 0, 0, 0), none, none, some (.iconst 0, 1, 0, 0, 0, 0), some (.istore 5, 2, 0, 0, 0, 0), none, some (.iconst 0, 1, 0, 0, 0, 0), some (.istore 6, 2, 0, 0, 0, 0), none, some (.iload 6, 2, 0, 0, 0, 0), none, some (.iconst 5, 1, 0, 0, 0, 0), some (.if_icmp .ge 61, 3, 113, 0, 0, 0), none, none, some (.iload_n 3, 1, 0, 0, 0, 0), some (.iload_n 1, 1, 0, 0, 0, 0), some (.if_icmp .ge 56, 3, 113, 0, 0, 0), none, none, some (.aload_n 0, 1, 0, 0, 0, 0), some (.iload 4, 2, 0, 0, 0, 0), none, some (.invokevirtual 112, 3, 1203, 1, 0, 1136), none, none, some (.ifCond .eq 47, 3, 113, 0, 0, 0), none, none, some (.aload_n 0, 1, 0, 0, 0, 0), some (.iload 4, 2, 0, 0, 0, 0), none, some (.iload 6, 2, 0, 0, 0, 0), none, some (.invokevirtual 126, 3, 1206, 2, 0, 1161), none, none, some (.istore 7, 2, 0, 0, 0, 0), none, some (.iload 5, 2, 0, 0, 0, 0), none, some (.iload 7, 2, 0, 0, 0, 0), none, some (.ifCond .ge 7, 3, 90, 0, 0, 0), none, none, some (.iconst 0, 1, 0, 0, 0, 0), some (.goto 17, 3, 104, 0, 0, 0), none, none, some (.aload_n 0, 1, 0, 0, 0, 0), some (.getfield 74, 3, 12, 33, 2, 971), none, none, some (.bipush 30, 2, 0, 0, 0, 0), none, some (.iload_n 3, 1, 0, 0, 0, 0), some (.iconst 1, 1, 0, 0, 0, 0), some (.iadd, 1, 0, 0, 0, 0), some (.imul, 1, 0, 0, 0, 0), some (.iload 7, 2, 0, 0, 0, 0), none, some (.iadd, 1, 0, 0, 0, 0), some (.iaload, 1, 0, 0, 0, 0), some (.iadd, 1, 0, 0, 0, 0), some (.istore 5, 2, 0, 0, 0, 0), none, some (.iinc 6 1, 3, 0, 0, 0, 0), none, none, some (.goto (-61), 3, 49, 0, 0, 0), none, none, some (.aload_n 0, 1, 0, 0, 0, 0), some (.getfield 74, 3, 12, 33, 2, 971), none, none, some (.bipush 30, 2, 0, 0, 0, 0), none, some (.iload_n 3, 1, 0, 0, 0, 0), some (.imul, 1, 0, 0, 0, 0), some (.iload 4, 2, 0, 0, 0, 0), none, some (.iadd, 1, 0, 0, 0, 0), some (.aload_n 0, 1, 0, 0, 0, 0), some (.iload_n 3, 1, 0, 0, 0, 0), some (.iload 4, 2, 0, 0, 0, 0), none, some (.iconst 1, 1, 0, 0, 0, 0), some (.invokevirtual 247, 3, 1248, 3, 0, 1262), none, none, some (.ifCond .eq 8, 3, 140, 0, 0, 0), none, none, some (.iload 5, 2, 0, 0, 0, 0), none, some (.goto 4, 3, 141, 0, 0, 0), none, none, some (.iconst 0, 1, 0, 0, 0, 0), some (.iastore, 1, 0, 0, 0, 0), some (.iinc 4 1, 3, 0, 0, 0, 0), none, none, some (.goto (-126), 3, 19, 0, 0, 0), none, none, some (.iinc 3 (-1), 3, 0, 0, 0, 0), none, none, some (.goto (-139), 3, 12, 0, 0, 0), none, none, some (.return_, 1, 0, 0, 0, 0)]
/-- X12_ways(III)I -/
def am_c1251 : List (Option am_En) := [some (.aload_n 0, 1, 0, 0, 0, 0), some (.iconst 0, 1, 0, 0, 0, 0), some (.putfield 95, 3, 12, 12, 0, 950), none, none, some (.aload_n 0, 1, 0, 0, 0, 0), some (.iload_n 1, 1, 0, 0, 0, 0), some (.invokevirtual 112, 3, 1203, 1, 0, 1136), none, none, some (.ifCond .eq 21, 3, 31, 0, 0, 0), none, none, some (.aload_n 0, 1, 0, 0, 0, 0), some (.iload_n 2, 1, 0, 0, 0, 0), some (.invokevirtual 112, 3, 1203, 1, 0, 1136), none, none, some (.ifCond .eq 13, 3, 31, 0, 0, 0), none, none, some (.iload_n 3, 1, 0, 0, 0, 0), some (.iconst 0, 1, 0, 0, 0, 0), some (.bipush 10, 2, 0, 0, 0, 0), none, some (.invokestatic 231, 3, 1239, 3, 0, 1219), none, none, some (.goto 4, 3, 32, 0, 0, 0), none, none, some (.iconst (-1), 1, 0, 0, 0, 0), some (.istore 4, 2, 0, 0, 0, 0), none, some (.iload 4, 2, 0, 0, 0, 0), none, some (.ifCond .ge 10, 3, 46, 0, 0, 0), none, none, some (.aload_n 0, 1, 0, 0, 0, 0), some (.iload 4, 2, 0, 0, 0, 0), none, some (.invokevirtual 177, 3, 1202, 1, 0, 1084), none, none, some (.ireturn, 1, 0, 0, 0, 0), some (.aload_n 0, 1, 0, 0, 0, 0), some (.iload_n 1, 1, 0, 0, 0, 0), some (.iload_n 3, 1, 0, 0, 0, 0), some (.iconst 0, 1, 0, 0, 0, 0), some (.invokevirtual 251, 3, 1249, 3, 0, 1258), none, none, some (.aload_n 0, 1, 0, 0, 0, 0), some (.getfield 71, 3, 12, 32, 2, 970), none, none, some (.bipush 30, 2, 0, 0, 0, 0), none, some (.iload_n 3, 1, 0, 0, 0, 0), some (.imul, 1, 0, 0, 0, 0), some (.iload_n 2, 1, 0, 0, 0, 0), some (.iadd, 1, 0, 0, 0, 0), some (.iaload, 1, 0, 0, 0, 0), some (.ireturn, 1, 0, 0, 0, 0)]
/-- X12_sight(II)I -/
def am_c1252 : List (Option am_En) := [some (.aload_n 0, 1, 0, 0, 0, 0), some (.iconst 0, 1, 0, 0, 0, 0), some (.putfield 95, 3, 12, 12, 0, 950), none, none, some (.iload_n 1, 1, 0, 0, 0, 0), some (.ifCond .ge 8, 3, 14, 0, 0, 0), none, none, some (.bipush (-4), 2, 0, 0, 0, 0), none, some (.goto 36, 3, 47, 0, 0, 0), none, none, some (.aload_n 0, 1, 0, 0, 0, 0), some (.iload_n 2, 1, 0, 0, 0, 0), some (.invokevirtual 112, 3, 1203, 1, 0, 1136), none, none, some (.ifCond .ne 7, 3, 26, 0, 0, 0), none, none, some (.iconst (-1), 1, 0, 0, 0, 0), some (.goto 24, 3, 47, 0, 0, 0), none, none, some (.iload_n 1, 1, 0, 0, 0, 0), some (.bipush 10, 2, 0, 0, 0, 0), none, some (.if_icmp .gt 12, 3, 41, 0, 0, 0), none, none, some (.aload_n 0, 1, 0, 0, 0, 0), some (.getfield 244, 3, 12, 36, 0, 974), none, none, some (.bipush 6, 2, 0, 0, 0, 0), none, some (.if_icmp .ne 8, 3, 46, 0, 0, 0), none, none, some (.bipush (-6), 2, 0, 0, 0, 0), none, some (.goto 4, 3, 47, 0, 0, 0), none, none, some (.iconst 0, 1, 0, 0, 0, 0), some (.istore_n 3, 1, 0, 0, 0, 0), some (.iload_n 3, 1, 0, 0, 0, 0), some (.ifCond .ge 9, 3, 58, 0, 0, 0), none, none, some (.aload_n 0, 1, 0, 0, 0, 0), some (.iload_n 3, 1, 0, 0, 0, 0), some (.invokevirtual 177, 3, 1202, 1, 0, 1084), none, none, some (.ireturn, 1, 0, 0, 0, 0), some (.aload_n 0, 1, 0, 0, 0, 0), some (.getfield 77, 3, 12, 34, 2, 972), none, none, some (.aload_n 0, 1, 0, 0, 0, 0), some (.getfield 244, 3, 12, 36, 0, 974), none, none, some (.iload_n 1, 1, 0, 0, 0, 0), some (.iastore, 1, 0, 0, 0, 0), some (.aload_n 0, 1, 0, 0, 0, 0), some (.getfield 80, 3, 12, 35, 2, 973), none, none, some (.aload_n 0, 1, 0, 0, 0, 0), some (.getfield 244, 3, 12, 36, 0, 974), none, none, some (.iload_n 2, 1, 0, 0, 0, 0), some (.iastore, 1, 0, 0, 0, 0), some (.aload_n 0, 1, 0, 0, 0, 0), some (.dup, 1, 0, 0, 0, 0), some (.getfield 244, 3, 12, 36, 0, 974), none, none, some (.iconst 1, 1, 0, 0, 0, 0), some (.iadd, 1, 0, 0, 0, 0), some (.putfield 244, 3, 12, 36, 0, 974), none, none, some (.aload_n 0, 1, 0, 0, 0, 0), some (.getfield 244, 3, 12, 36, 0, 974), none, none, some (.ireturn, 1, 0, 0, 0, 0)]
/-- X12_latest()I -/
def am_c1253 : List (Option am_En) := [some (.iconst 0, 1, 0, 0, 0, 0), some (.istore_n 1, 1, 0, 0, 0, 0), some (.iconst 0, 1, 0, 0, 0, 0), some (.istore_n 2, 1, 0, 0, 0, 0), some (.iload_n 2, 1, 0, 0, 0, 0), some (.aload_n 0, 1, 0, 0, 0, 0), some (.getfield 244, 3, 12, 36, 0, 974), none, none, some (.if_icmp .ge 30, 3, 39, 0, 0, 0), none, none, some (.aload_n 0, 1, 0, 0, 0, 0), some (.getfield 77, 3, 12, 34, 2, 972), none, none, some (.iload_n 2, 1, 0, 0, 0, 0), some (.iaload, 1, 0, 0, 0, 0), some (.iload_n 1, 1, 0, 0, 0, 0), some (.if_icmp .le 12, 3, 31, 0, 0, 0), none, none, some (.aload_n 0, 1, 0, 0, 0, 0), some (.getfield 77, 3, 12, 34, 2, 972), none, none, some (.iload_n 2, 1, 0, 0, 0, 0), some (.iaload, 1, 0, 0, 0, 0), some (.goto 4, 3, 32, 0, 0, 0), none, none, some (.iload_n 1, 1, 0, 0, 0, 0), some (.istore_n 1, 1, 0, 0, 0, 0), some (.iinc 2 1, 3, 0, 0, 0, 0), none, none, some (.goto (-32), 3, 4, 0, 0, 0), none, none, some (.iload_n 1, 1, 0, 0, 0, 0), some (.ireturn, 1, 0, 0, 0, 0)]
/-- X12_fits(I)I -/
def am_c1254 : List (Option am_En) := [some (.aload_n 0, 1, 0, 0, 0, 0), some (.iconst 0, 1, 0, 0, 0, 0), some (.putfield 95, 3, 12, 12, 0, 950), none, none, some (.aload_n 0, 1, 0, 0, 0, 0), some (.iload_n 1, 1, 0, 0, 0, 0), some (.invokevirtual 112, 3, 1203, 1, 0, 1136), none, none, some (.ifCond .ne 9, 3, 19, 0, 0, 0), none, none, some (.aload_n 0, 1, 0, 0, 0, 0), some (.iconst (-1), 1, 0, 0, 0, 0), some (.invokevirtual 177, 3, 1202, 1, 0, 1084), none, none, some (.ireturn, 1, 0, 0, 0, 0), some (.aload_n 0, 1, 0, 0, 0, 0), some (.invokevirtual 255, 3, 1253, 0, 0, 1274), none, none, some (.istore_n 2, 1, 0, 0, 0, 0), some (.aload_n 0, 1, 0, 0, 0, 0), some (.iload_n 1, 1, 0, 0, 0, 0), some (.iload_n 2, 1, 0, 0, 0, 0), some (.iconst 1, 1, 0, 0, 0, 0), some (.invokevirtual 251, 3, 1249, 3, 0, 1258), none, none, some (.iconst 0, 1, 0, 0, 0, 0), some (.istore_n 3, 1, 0, 0, 0, 0), some (.iconst 0, 1, 0, 0, 0, 0), some (.istore 4, 2, 0, 0, 0, 0), none, some (.iload 4, 2, 0, 0, 0, 0), none, some (.aload_n 0, 1, 0, 0, 0, 0), some (.getfield 7, 3, 12, 0, 0, 938), none, none, some (.aload_n 0, 1, 0, 0, 0, 0), some (.getfield 13, 3, 12, 1, 0, 939), none, none, some (.imul, 1, 0, 0, 0, 0), some (.if_icmp .ge 24, 3, 71, 0, 0, 0), none, none, some (.iload_n 3, 1, 0, 0, 0, 0), some (.aload_n 0, 1, 0, 0, 0, 0), some (.getfield 71, 3, 12, 32, 2, 970), none, none, some (.bipush 30, 2, 0, 0, 0, 0), none, some (.iload_n 2, 1, 0, 0, 0, 0), some (.imul, 1, 0, 0, 0, 0), some (.iload 4, 2, 0, 0, 0, 0), none, some (.iadd, 1, 0, 0, 0, 0), some (.iaload, 1, 0, 0, 0, 0), some (.iadd, 1, 0, 0, 0, 0), some (.istore_n 3, 1, 0, 0, 0, 0), some (.iinc 4 1, 3, 0, 0, 0, 0), none, none, some (.goto (-32), 3, 36, 0, 0, 0), none, none, some (.iload_n 3, 1, 0, 0, 0, 0), some (.ireturn, 1, 0, 0, 0, 0)]
/-- X12_guess(II)I -/
def am_c1255 : List (Option am_En) := [some (.aload_n 0, 1, 0, 0, 0, 0), some (.iconst 0, 1, 0, 0, 0, 0), some (.putfield 95, 3, 12, 12, 0, 950), none, none, some (.aload_n 0, 1, 0, 0, 0, 0), some (.iload_n 1, 1, 0, 0, 0, 0), some (.invokevirtual 112, 3, 1203, 1, 0, 1136), none, none, some (.ifCond .eq 15, 3, 25, 0, 0, 0), none, none, some (.iload_n 2, 1, 0, 0, 0, 0), some (.iconst 0, 1, 0, 0, 0, 0), some (.aload_n 0, 1, 0, 0, 0, 0), some (.invokevirtual 255, 3, 1253, 0, 0, 1274), none, none, some (.invokestatic 231, 3, 1239, 3, 0, 1219), none, none, some (.goto 4, 3, 26, 0, 0, 0), none, none, some (.iconst (-1), 1, 0, 0, 0, 0), some (.istore_n 3, 1, 0, 0, 0, 0), some (.iload_n 3, 1, 0, 0, 0, 0), some (.ifCond .ge 9, 3, 37, 0, 0, 0), none, none, some (.aload_n 0, 1, 0, 0, 0, 0), some (.iload_n 3, 1, 0, 0, 0, 0), some (.invokevirtual 177, 3, 1202, 1, 0, 1084), none, none, some (.ireturn, 1, 0, 0, 0, 0), some (.aload_n 0, 1, 0, 0, 0, 0), some (.iload_n 1, 1, 0, 0, 0, 0), some (.iload_n 2, 1, 0, 0, 0, 0), some (.iconst 1, 1, 0, 0, 0, 0), some (.invokevirtual 251, 3, 1249, 3, 0, 1258), none, none, some (.aload_n 0, 1, 0, 0, 0, 0), some (.aload_n 0, 1, 0, 0, 0, 0), some (.invokevirtual 255, 3, 1253, 0, 0, 1274), none, none, some (.invokevirtual 258, 3, 1250, 1, 0, 1282), none, none, some (.lconst 0, 1, 0, 0, 0, 0), some (.lstore 4, 2, 0, 0, 0, 0), none, some (.bipush (-9), 2, 0, 0, 0, 0), none, some (.istore 6, 2, 0, 0, 0, 0), none, some (.iconst 0, 1, 0, 0, 0, 0), some (.istore 7, 2, 0, 0, 0, 0), none, some (.iload 7, 2, 0, 0, 0, 0), none, some (.aload_n 0, 1, 0, 0, 0, 0), some (.getfield 7, 3, 12, 0, 0, 938), none, none, some (.aload_n 0, 1, 0, 0, 0, 0), some (.getfield 13, 3, 12, 1, 0, 939), none, none, some (.imul, 1, 0, 0, 0, 0), some (.if_icmp .ge 72, 3, 145, 0, 0, 0), none, none, some (.aload_n 0, 1, 0, 0, 0, 0), some (.getfield 71, 3, 12, 32, 2, 970), none, none, some (.bipush 30, 2, 0, 0, 0, 0), none, some (.iload_n 2, 1, 0, 0, 0, 0), some (.imul, 1, 0, 0, 0, 0), some (.iload 7, 2, 0, 0, 0, 0), none, some (.iadd, 1, 0, 0, 0, 0), some (.iaload, 1, 0, 0, 0, 0), some (.i2l, 1, 0, 0, 0, 0), some (.aload_n 0, 1, 0, 0, 0, 0), some (.getfield 74, 3, 12, 33, 2, 971), none, none, some (.bipush 30, 2, 0, 0, 0, 0), none, some (.iload_n 2, 1, 0, 0, 0, 0), some (.imul, 1, 0, 0, 0, 0), some (.iload 7, 2, 0, 0, 0, 0), none, some (.iadd, 1, 0, 0, 0, 0), some (.iaload, 1, 0, 0, 0, 0), some (.i2l, 1, 0, 0, 0, 0), some (.lmul, 1, 0, 0, 0, 0), some (.lstore 8, 2, 0, 0, 0, 0), none, some (.lload 8, 2, 0, 0, 0, 0), none, some (.lload 4, 2, 0, 0, 0, 0), none, some (.lcmp, 1, 0, 0, 0, 0), some (.ifCond .le 8, 3, 118, 0, 0, 0), none, none, some (.iload 7, 2, 0, 0, 0, 0), none, some (.goto 5, 3, 120, 0, 0, 0), none, none, some (.iload 6, 2, 0, 0, 0, 0), none, some (.istore 6, 2, 0, 0, 0, 0), none, some (.lload 8, 2, 0, 0, 0, 0), none, some (.lload 4, 2, 0, 0, 0, 0), none, some (.lcmp, 1, 0, 0, 0, 0), some (.ifCond .le 8, 3, 135, 0, 0, 0), none, none, some (.lload 8, 2, 0, 0, 0, 0), none, some (.goto 5, 3, 137, 0, 0, 0), none, none, some (.lload 4, 2, 0, 0, 0, 0), none, some (.lstore 4, 2, 0, 0, 0, 0), none, some (.iinc 7 1, 3, 0, 0, 0, 0), none, none, some (.goto (-80), 3, 62, 0, 0, 0), none, none, some (.iload 6, 2, 0, 0, 0, 0), none, some (.ireturn, 1, 0, 0, 0, 0)]
/-- X12_forget()I -/
def am_c1256 : List (Option am_En) := [some (.aload_n 0, 1, 0, 0, 0, 0), some (.iconst 0, 1, 0, 0, 0, 0), some (.putfield 95, 3, 12, 12, 0, 950), none, none, some (.aload_n 0, 1, 0, 0, 0, 0), some (.getfield 244, 3, 12, 36, 0, 974), none, none, some (.istore_n 1, 1, 0, 0, 0, 0), some (.aload_n 0, 1, 0, 0, 0, 0), some (.iconst 0, 1, 0, 0, 0, 0), some (.putfield 244, 3, 12, 36, 0, 974), none, none, some (.iload_n 1, 1, 0, 0, 0, 0), some (.ireturn, 1, 0, 0, 0, 0)]
/-- X12_worst(II)I -/
def am_c1257 : List (Option am_En) := [some (.iload_n 1, 1, 0, 0, 0, 0), some (.iload_n 2, 1, 0, 0, 0, 0), some (.if_icmp .ne 5, 3, 7, 0, 0, 0), none, none, some (.iconst 0, 1, 0, 0, 0, 0), some (.ireturn, 1, 0, 0, 0, 0), some (.iconst 0, 1, 0, 0, 0, 0), some (.istore_n 3, 1, 0, 0, 0, 0), some (.iconst 0, 1, 0, 0, 0, 0), some (.istore 4, 2, 0, 0, 0, 0), none, some (.iload 4, 2, 0, 0, 0, 0), none, some (.iconst 5, 1, 0, 0, 0, 0), some (.if_icmp .ge 67, 3, 82, 0, 0, 0), none, none, some (.iload_n 3, 1, 0, 0, 0, 0), some (.ifCond .lt 63, 3, 82, 0, 0, 0), none, none, some (.aload_n 0, 1, 0, 0, 0, 0), some (.iload_n 2, 1, 0, 0, 0, 0), some (.iload 4, 2, 0, 0, 0, 0), none, some (.invokevirtual 126, 3, 1206, 2, 0, 1161), none, none, some (.istore 5, 2, 0, 0, 0, 0), none, some (.iload 5, 2, 0, 0, 0, 0), none, some (.ifCond .ge 7, 3, 40, 0, 0, 0), none, none, some (.iconst 0, 1, 0, 0, 0, 0), some (.goto 15, 3, 52, 0, 0, 0), none, none, some (.aload_n 0, 1, 0, 0, 0, 0), some (.getfield 83, 3, 12, 37, 2, 975), none, none, some (.bipush 30, 2, 0, 0, 0, 0), none, some (.iload_n 1, 1, 0, 0, 0, 0), some (.imul, 1, 0, 0, 0, 0), some (.iload 5, 2, 0, 0, 0, 0), none, some (.iadd, 1, 0, 0, 0, 0), some (.iaload, 1, 0, 0, 0, 0), some (.istore 6, 2, 0, 0, 0, 0), none, some (.iload 6, 2, 0, 0, 0, 0), none, some (.ifCond .ge 7, 3, 63, 0, 0, 0), none, none, some (.iconst (-1), 1, 0, 0, 0, 0), some (.goto 15, 3, 75, 0, 0, 0), none, none, some (.iload 6, 2, 0, 0, 0, 0), none, some (.iload_n 3, 1, 0, 0, 0, 0), some (.if_icmp .le 8, 3, 74, 0, 0, 0), none, none, some (.iload 6, 2, 0, 0, 0, 0), none, some (.goto 4, 3, 75, 0, 0, 0), none, none, some (.iload_n 3, 1, 0, 0, 0, 0), some (.istore_n 3, 1, 0, 0, 0, 0), some (.iinc 4 1, 3, 0, 0, 0, 0), none, none, some (.goto (-67), 3, 12, 0, 0, 0), none, none, some (.iload_n 3, 1, 0, 0, 0, 0), some (.ireturn, 1, 0, 0, 0, 0)]
/-- X12_solve()V -/
def am_c1258 : List (Option am_En) := [some (.aload_n 0, 1, 0, 0, 0, 0), some (.getfield 7, 3, 12, 0, 0, 938), none, none, some (.aload_n 0, 1, 0, 0, 0, 0), some (.getfield 13, 3, 12, 1, 0, 939), none, none, some (.imul, 1, 0, 0, 0, 0), some (.istore_n 1, 1, 0, 0, 0, 0), some (.iconst 0, 1, 0, 0, 0, 0), some (.istore_n 2, 1, 0, 0, 0, 0), some (.iload_n 2, 1, 0, 0, 0, 0), some (.sipush 900, 3, 0, 0, 0, 0), none, none, some (.if_icmp .ge 31, 3, 47, 0, 0, 0), none, none, some (.aload_n 0, 1, 0, 0, 0, 0), some (.getfield 83, 3, 12, 37, 2, 975), none, none, some (.iload_n 2, 1, 0, 0, 0, 0), some (.iload_n 2, 1, 0, 0, 0, 0), some (.bipush 30, 2, 0, 0, 0, 0), none, some (.idiv, 1, 0, 0, 0, 0), some (.iload_n 2, 1, 0, 0, 0, 0), some (.bipush 30, 2, 0, 0, 0, 0), none, some (.irem, 1, 0, 0, 0, 0), some (.if_icmp .ne 7, 3, 39, 0, 0, 0), none, none, some (.iconst 0, 1, 0, 0, 0, 0), some (.goto 4, 3, 40, 0, 0, 0), none, none, some (.iconst (-1), 1, 0, 0, 0, 0), some (.iastore, 1, 0, 0, 0, 0), some (.iinc 2 1, 3, 0, 0, 0, 0), none, none, some (.goto (-32), 3, 12, 0, 0, 0), none, none, some (.iconst 1, 1, 0, 0, 0, 0), some (.istore_n 2, 1, 0, 0, 0, 0), some (.iconst 1, 1, 0, 0, 0, 0), some (.istore_n 3, 1, 0, 0, 0, 0), some (.iload_n 2, 1, 0, 0, 0, 0), some (.ifCond .eq 160, 3, 212, 0, 0, 0), none, none, some (.iconst 0, 1, 0, 0, 0, 0), some (.istore_n 2, 1, 0, 0, 0, 0), some (.iconst 0, 1, 0, 0, 0, 0), some (.istore 4, 2, 0, 0, 0, 0), none, some (.iload 4, 2, 0, 0, 0, 0), none, some (.iload_n 1, 1, 0, 0, 0, 0), some (.iload_n 1, 1, 0, 0, 0, 0), some (.imul, 1, 0, 0, 0, 0), some (.if_icmp .ge 141, 3, 206, 0, 0, 0), none, none, some (.iload 4, 2, 0, 0, 0, 0), none, some (.iload_n 1, 1, 0, 0, 0, 0), some (.idiv, 1, 0, 0, 0, 0), some (.istore 5, 2, 0, 0, 0, 0), none, some (.iload 4, 2, 0, 0, 0, 0), none, some (.iload_n 1, 1, 0, 0, 0, 0), some (.irem, 1, 0, 0, 0, 0), some (.istore 6, 2, 0, 0, 0, 0), none, some (.aload_n 0, 1, 0, 0, 0, 0), some (.getfield 83, 3, 12, 37, 2, 975), none, none, some (.bipush 30, 2, 0, 0, 0, 0), none, some (.iload 5, 2, 0, 0, 0, 0), none, some (.imul, 1, 0, 0, 0, 0), some (.iload 6, 2, 0, 0, 0, 0), none, some (.iadd, 1, 0, 0, 0, 0), some (.iaload, 1, 0, 0, 0, 0), some (.ifCond .ge 25, 3, 118, 0, 0, 0), none, none, some (.aload_n 0, 1, 0, 0, 0, 0), some (.iload 5, 2, 0, 0, 0, 0), none, some (.invokevirtual 112, 3, 1203, 1, 0, 1136), none, none, some (.ifCond .eq 16, 3, 118, 0, 0, 0), none, none, some (.aload_n 0, 1, 0, 0, 0, 0), some (.iload 6, 2, 0, 0, 0, 0), none, some (.invokevirtual 112, 3, 1203, 1, 0, 1136), none, none, some (.ifCond .eq 7, 3, 118, 0, 0, 0), none, none, some (.iconst 1, 1, 0, 0, 0, 0), some (.goto 4, 3, 119, 0, 0, 0), none, none, some (.iconst 0, 1, 0, 0, 0, 0), some (.istore 7, 2, 0, 0, 0, 0), none, some (.iconst 0, 1, 0, 0, 0, 0), some (.istore 8, 2, 0, 0, 0, 0), none, some (.iload 8, 2, 0, 0, 0, 0), none, some (.iconst 5, 1, 0, 0, 0, 0), some (.if_icmp .ge 73, 3, 200, 0, 0, 0), none, none, some (.iload 7, 2, 0, 0, 0, 0), none, some (.ifCond .eq 68, 3, 200, 0, 0, 0), none, none, some (.aload_n 0, 1, 0, 0, 0, 0), some (.iload 5, 2, 0, 0, 0, 0), none, some (.iload 8, 2, 0, 0, 0, 0), none, some (.invokevirtual 126, 3, 1206, 2, 0, 1161), none, none, some (.istore 9, 2, 0, 0, 0, 0), none, some (.iload 9, 2, 0, 0, 0, 0), none, some (.ifCond .ge 7, 3, 154, 0, 0, 0), none, none, some (.iconst (-1), 1, 0, 0, 0, 0), some (.goto 11, 3, 162, 0, 0, 0), none, none, some (.aload_n 0, 1, 0, 0, 0, 0), some (.iload 9, 2, 0, 0, 0, 0), none, some (.iload 6, 2, 0, 0, 0, 0), none, some (.invokevirtual 261, 3, 1257, 2, 0, 1298), none, none, some (.istore 10, 2, 0, 0, 0, 0), none, some (.iload 10, 2, 0, 0, 0, 0), none, some (.ifCond .lt 28, 3, 194, 0, 0, 0), none, none, some (.iload 10, 2, 0, 0, 0, 0), none, some (.iload_n 3, 1, 0, 0, 0, 0), some (.if_icmp .ge 22, 3, 194, 0, 0, 0), none, none, some (.aload_n 0, 1, 0, 0, 0, 0), some (.getfield 83, 3, 12, 37, 2, 975), none, none, some (.bipush 30, 2, 0, 0, 0, 0), none, some (.iload 5, 2, 0, 0, 0, 0), none, some (.imul, 1, 0, 0, 0, 0), some (.iload 6, 2, 0, 0, 0, 0), none, some (.iadd, 1, 0, 0, 0, 0), some (.iload_n 3, 1, 0, 0, 0, 0), some (.iastore, 1, 0, 0, 0, 0), some (.iconst 0, 1, 0, 0, 0, 0), some (.istore 7, 2, 0, 0, 0, 0), none, some (.iconst 1, 1, 0, 0, 0, 0), some (.istore_n 2, 1, 0, 0, 0, 0), some (.iinc 8 1, 3, 0, 0, 0, 0), none, none, some (.goto (-73), 3, 124, 0, 0, 0), none, none, some (.iinc 4 1, 3, 0, 0, 0, 0), none, none, some (.goto (-143), 3, 60, 0, 0, 0), none, none, some (.iinc 3 1, 3, 0, 0, 0, 0), none, none, some (.goto (-158), 3, 51, 0, 0, 0), none, none, some (.return_, 1, 0, 0, 0, 0)]
/-- X12_game(III)I -/
def am_c1259 : List (Option am_En) := [some (.aload_n 0, 1, 0, 0, 0, 0), some (.iconst 0, 1, 0, 0, 0, 0), some (.putfield 95, 3, 12, 12, 0, 950), none, none, some (.aload_n 0, 1, 0, 0, 0, 0), some (.iload_n 1, 1, 0, 0, 0, 0), some (.invokevirtual 112, 3, 1203, 1, 0, 1136), none, none, some (.ifCond .eq 15, 3, 25, 0, 0, 0), none, none, some (.aload_n 0, 1, 0, 0, 0, 0), some (.iload_n 2, 1, 0, 0, 0, 0), some (.invokevirtual 112, 3, 1203, 1, 0, 1136), none, none, some (.ifCond .eq 7, 3, 25, 0, 0, 0), none, none, some (.iconst 1, 1, 0, 0, 0, 0), some (.goto 4, 3, 26, 0, 0, 0), none, none, some (.iconst 0, 1, 0, 0, 0, 0), some (.istore 4, 2, 0, 0, 0, 0), none, some (.iload 4, 2, 0, 0, 0, 0), none, some (.ifCond .eq 13, 3, 43, 0, 0, 0), none, none, some (.iload_n 3, 1, 0, 0, 0, 0), some (.i2l, 1, 0, 0, 0, 0), some (.lconst 0, 1, 0, 0, 0, 0), some (.lconst 1, 1, 0, 0, 0, 0), some (.invokestatic 98, 3, 1201, 3, 0, 1122), none, none, some (.ifCond .ne 19, 3, 59, 0, 0, 0), none, none, some (.aload_n 0, 1, 0, 0, 0, 0), some (.iload 4, 2, 0, 0, 0, 0), none, some (.ifCond .eq 8, 3, 54, 0, 0, 0), none, none, some (.bipush (-2), 2, 0, 0, 0, 0), none, some (.goto 4, 3, 55, 0, 0, 0), none, none, some (.iconst (-1), 1, 0, 0, 0, 0), some (.invokevirtual 177, 3, 1202, 1, 0, 1084), none, none, some (.ireturn, 1, 0, 0, 0, 0), some (.aload_n 0, 1, 0, 0, 0, 0), some (.invokevirtual 264, 3, 1258, 0, 0, 1294), none, none, some (.aload_n 0, 1, 0, 0, 0, 0), some (.getfield 83, 3, 12, 37, 2, 975), none, none, some (.bipush 30, 2, 0, 0, 0, 0), none, some (.iload_n 1, 1, 0, 0, 0, 0), some (.imul, 1, 0, 0, 0, 0), some (.iload_n 2, 1, 0, 0, 0, 0), some (.iadd, 1, 0, 0, 0, 0), some (.iaload, 1, 0, 0, 0, 0), some (.istore 5, 2, 0, 0, 0, 0), none, some (.iload_n 3, 1, 0, 0, 0, 0), some (.ifCond .ne 16, 3, 93, 0, 0, 0), none, none, some (.iload 5, 2, 0, 0, 0, 0), none, some (.ifCond .ge 8, 3, 90, 0, 0, 0), none, none, some (.bipush (-9), 2, 0, 0, 0, 0), none, some (.goto 5, 3, 92, 0, 0, 0), none, none, some (.iload 5, 2, 0, 0, 0, 0), none, some (.ireturn, 1, 0, 0, 0, 0), some (.iconst 0, 1, 0, 0, 0, 0), some (.istore 6, 2, 0, 0, 0, 0), none, some (.iload 6, 2, 0, 0, 0, 0), none, some (.iconst 5, 1, 0, 0, 0, 0), some (.if_icmp .ge 45, 3, 144, 0, 0, 0), none, none, some (.iload 5, 2, 0, 0, 0, 0), none, some (.ifCond .le 40, 3, 144, 0, 0, 0), none, none, some (.aload_n 0, 1, 0, 0, 0, 0), some (.iload_n 1, 1, 0, 0, 0, 0), some (.iload 6, 2, 0, 0, 0, 0), none, some (.invokevirtual 126, 3, 1206, 2, 0, 1161), none, none, some (.istore 7, 2, 0, 0, 0, 0), none, some (.iload 7, 2, 0, 0, 0, 0), none, some (.ifCond .lt 20, 3, 138, 0, 0, 0), none, none, some (.aload_n 0, 1, 0, 0, 0, 0), some (.iload 7, 2, 0, 0, 0, 0), none, some (.iload_n 2, 1, 0, 0, 0, 0), some (.invokevirtual 261, 3, 1257, 2, 0, 1298), none, none, some (.iload 5, 2, 0, 0, 0, 0), none, some (.iconst 1, 1, 0, 0, 0, 0), some (.isub, 1, 0, 0, 0, 0), some (.if_icmp .ne 6, 3, 138, 0, 0, 0), none, none, some (.iload 6, 2, 0, 0, 0, 0), none, some (.ireturn, 1, 0, 0, 0, 0), some (.iinc 6 1, 3, 0, 0, 0, 0), none, none, some (.goto (-45), 3, 96, 0, 0, 0), none, none, some (.bipush (-9), 2, 0, 0, 0, 0), none, some (.ireturn, 1, 0, 0, 0, 0)]
/-- X12_lookAll(I)V -/
def am_c1260 : List (Option am_En) := [some (.iconst 0, 1, 0, 0, 0, 0), some (.istore_n 2, 1, 0, 0, 0, 0), some (.iload_n 2, 1, 0, 0, 0, 0), some (.aload_n 0, 1, 0, 0, 0, 0), some (.getfield 7, 3, 12, 0, 0, 938), none, none, some (.aload_n 0, 1, 0, 0, 0, 0), some (.getfield 13, 3, 12, 1, 0, 939), none, none, some (.imul, 1, 0, 0, 0, 0), some (.if_icmp .ge 101, 3, 113, 0, 0, 0), none, none, some (.aload_n 0, 1, 0, 0, 0, 0), some (.getfield 86, 3, 12, 38, 2, 976), none, none, some (.iload_n 2, 1, 0, 0, 0, 0), some (.aload_n 0, 1, 0, 0, 0, 0), some (.iload_n 2, 1, 0, 0, 0, 0), some (.invokevirtual 112, 3, 1203, 1, 0, 1136), none, none, some (.ifCond .eq 9, 3, 34, 0, 0, 0), none, none, some (.iconst 1, 1, 0, 0, 0, 0), some (.iload_n 2, 1, 0, 0, 0, 0), some (.ishl, 1, 0, 0, 0, 0), some (.goto 4, 3, 35, 0, 0, 0), none, none, some (.iconst 0, 1, 0, 0, 0, 0), some (.iastore, 1, 0, 0, 0, 0), some (.iconst 0, 1, 0, 0, 0, 0), some (.istore_n 3, 1, 0, 0, 0, 0), some (.iload_n 3, 1, 0, 0, 0, 0), some (.iconst 4, 1, 0, 0, 0, 0), some (.if_icmp .ge 67, 3, 107, 0, 0, 0), none, none, some (.aload_n 0, 1, 0, 0, 0, 0), some (.iload_n 2, 1, 0, 0, 0, 0), some (.invokevirtual 112, 3, 1203, 1, 0, 1136), none, none, some (.ifCond .eq 59, 3, 107, 0, 0, 0), none, none, some (.aload_n 0, 1, 0, 0, 0, 0), some (.iload_n 2, 1, 0, 0, 0, 0), some (.iload_n 3, 1, 0, 0, 0, 0), some (.invokevirtual 126, 3, 1206, 2, 0, 1161), none, none, some (.istore 4, 2, 0, 0, 0, 0), none, some (.iconst 0, 1, 0, 0, 0, 0), some (.istore 5, 2, 0, 0, 0, 0), none, some (.iload 5, 2, 0, 0, 0, 0), none, some (.iload_n 1, 1, 0, 0, 0, 0), some (.if_icmp .ge 36, 3, 101, 0, 0, 0), none, none, some (.iload 4, 2, 0, 0, 0, 0), none, some (.ifCond .lt 31, 3, 101, 0, 0, 0), none, none, some (.aload_n 0, 1, 0, 0, 0, 0), some (.getfield 86, 3, 12, 38, 2, 976), none, none, some (.iload_n 2, 1, 0, 0, 0, 0), some (.dup2, 1, 0, 0, 0, 0), some (.iaload, 1, 0, 0, 0, 0), some (.iconst 1, 1, 0, 0, 0, 0), some (.iload 4, 2, 0, 0, 0, 0), none, some (.ishl, 1, 0, 0, 0, 0), some (.ior, 1, 0, 0, 0, 0), some (.iastore, 1, 0, 0, 0, 0), some (.aload_n 0, 1, 0, 0, 0, 0), some (.iload 4, 2, 0, 0, 0, 0), none, some (.iload_n 3, 1, 0, 0, 0, 0), some (.invokevirtual 126, 3, 1206, 2, 0, 1161), none, none, some (.istore 4, 2, 0, 0, 0, 0), none, some (.iinc 5 1, 3, 0, 0, 0, 0), none, none, some (.goto (-36), 3, 62, 0, 0, 0), none, none, some (.iinc 3 1, 3, 0, 0, 0, 0), none, none, some (.goto (-66), 3, 38, 0, 0, 0), none, none, some (.iinc 2 1, 3, 0, 0, 0, 0), none, none, some (.goto (-108), 3, 2, 0, 0, 0), none, none, some (.return_, 1, 0, 0, 0, 0)]
/-- X12_findSet(I)Z -/
def am_c1261 : List (Option am_En) := [some (.aload_n 0, 1, 0, 0, 0, 0), some (.getfield 7, 3, 12, 0, 0, 938), none, none, some (.aload_n 0, 1, 0, 0, 0, 0), some (.getfield 13, 3, 12, 1, 0, 939), none, none, some (.imul, 1, 0, 0, 0, 0), some (.istore_n 2, 1, 0, 0, 0, 0), some (.aload_n 0, 1, 0, 0, 0, 0), some (.invokevirtual 238, 3, 1242, 0, 0, 1234), none, none, some (.istore_n 3, 1, 0, 0, 0, 0), some (.iconst 0, 1, 0, 0, 0, 0), some (.istore 4, 2, 0, 0, 0, 0), none, some (.iload 4, 2, 0, 0, 0, 0), none, some (.iload_n 1, 1, 0, 0, 0, 0), some (.if_icmp .ge 18, 3, 39, 0, 0, 0), none, none, some (.aload_n 0, 1, 0, 0, 0, 0), some (.getfield 89, 3, 12, 40, 2, 978), none, none, some (.iload 4, 2, 0, 0, 0, 0), none, some (.iload 4, 2, 0, 0, 0, 0), none, some (.iastore, 1, 0, 0, 0, 0), some (.iinc 4 1, 3, 0, 0, 0, 0), none, none, some (.goto (-18), 3, 18, 0, 0, 0), none, none, some (.iload_n 1, 1, 0, 0, 0, 0), some (.iload_n 2, 1, 0, 0, 0, 0), some (.if_icmp .gt 7, 3, 48, 0, 0, 0), none, none, some (.iconst 1, 1, 0, 0, 0, 0), some (.goto 4, 3, 49, 0, 0, 0), none, none, some (.iconst 0, 1, 0, 0, 0, 0), some (.istore 4, 2, 0, 0, 0, 0), none, some (.iload 4, 2, 0, 0, 0, 0), none, some (.ifCond .eq 208, 3, 261, 0, 0, 0), none, none, some (.iconst 0, 1, 0, 0, 0, 0), some (.istore 5, 2, 0, 0, 0, 0), none, some (.iconst 0, 1, 0, 0, 0, 0), some (.istore 6, 2, 0, 0, 0, 0), none, some (.iconst 1, 1, 0, 0, 0, 0), some (.istore 7, 2, 0, 0, 0, 0), none, some (.iconst 0, 1, 0, 0, 0, 0), some (.istore 8, 2, 0, 0, 0, 0), none, some (.iload 8, 2, 0, 0, 0, 0), none, some (.iload_n 1, 1, 0, 0, 0, 0), some (.if_icmp .ge 66, 3, 137, 0, 0, 0), none, none, some (.iload 7, 2, 0, 0, 0, 0), none, some (.ifCond .eq 21, 3, 97, 0, 0, 0), none, none, some (.aload_n 0, 1, 0, 0, 0, 0), some (.aload_n 0, 1, 0, 0, 0, 0), some (.getfield 89, 3, 12, 40, 2, 978), none, none, some (.iload 8, 2, 0, 0, 0, 0), none, some (.iaload, 1, 0, 0, 0, 0), some (.invokevirtual 112, 3, 1203, 1, 0, 1136), none, none, some (.ifCond .eq 7, 3, 97, 0, 0, 0), none, none, some (.iconst 1, 1, 0, 0, 0, 0), some (.goto 4, 3, 98, 0, 0, 0), none, none, some (.iconst 0, 1, 0, 0, 0, 0), some (.istore 7, 2, 0, 0, 0, 0), none, some (.iload 5, 2, 0, 0, 0, 0), none, some (.iconst 1, 1, 0, 0, 0, 0), some (.aload_n 0, 1, 0, 0, 0, 0), some (.getfield 89, 3, 12, 40, 2, 978), none, none, some (.iload 8, 2, 0, 0, 0, 0), none, some (.iaload, 1, 0, 0, 0, 0), some (.ishl, 1, 0, 0, 0, 0), some (.ior, 1, 0, 0, 0, 0), some (.istore 5, 2, 0, 0, 0, 0), none, some (.iload 6, 2, 0, 0, 0, 0), none, some (.aload_n 0, 1, 0, 0, 0, 0), some (.getfield 86, 3, 12, 38, 2, 976), none, none, some (.aload_n 0, 1, 0, 0, 0, 0), some (.getfield 89, 3, 12, 40, 2, 978), none, none, some (.iload 8, 2, 0, 0, 0, 0), none, some (.iaload, 1, 0, 0, 0, 0), some (.iaload, 1, 0, 0, 0, 0), some (.ior, 1, 0, 0, 0, 0), some (.istore 6, 2, 0, 0, 0, 0), none, some (.iinc 8 1, 3, 0, 0, 0, 0), none, none, some (.goto (-66), 3, 68, 0, 0, 0), none, none, some (.iload 7, 2, 0, 0, 0, 0), none, some (.ifCond .eq 17, 3, 156, 0, 0, 0), none, none, some (.iload 6, 2, 0, 0, 0, 0), none, some (.iload_n 3, 1, 0, 0, 0, 0), some (.if_icmp .ne 11, 3, 156, 0, 0, 0), none, none, some (.aload_n 0, 1, 0, 0, 0, 0), some (.iload 5, 2, 0, 0, 0, 0), none, some (.putfield 267, 3, 12, 39, 0, 977), none, none, some (.iconst 1, 1, 0, 0, 0, 0), some (.ireturn, 1, 1, 0, 0, 0), some (.iload_n 1, 1, 0, 0, 0, 0), some (.iconst 1, 1, 0, 0, 0, 0), some (.isub, 1, 0, 0, 0, 0), some (.istore 8, 2, 0, 0, 0, 0), none, some (.iload 8, 2, 0, 0, 0, 0), none, some (.ifCond .lt 25, 3, 188, 0, 0, 0), none, none, some (.aload_n 0, 1, 0, 0, 0, 0), some (.getfield 89, 3, 12, 40, 2, 978), none, none, some (.iload 8, 2, 0, 0, 0, 0), none, some (.iaload, 1, 0, 0, 0, 0), some (.iload_n 2, 1, 0, 0, 0, 0), some (.iload_n 1, 1, 0, 0, 0, 0), some (.isub, 1, 0, 0, 0, 0), some (.iload 8, 2, 0, 0, 0, 0), none, some (.iadd, 1, 0, 0, 0, 0), some (.if_icmp .ne 9, 3, 188, 0, 0, 0), none, none, some (.iinc 8 (-1), 3, 0, 0, 0, 0), none, none, some (.goto (-24), 3, 161, 0, 0, 0), none, none, some (.iload 8, 2, 0, 0, 0, 0), none, some (.ifCond .lt 7, 3, 197, 0, 0, 0), none, none, some (.iconst 1, 1, 0, 0, 0, 0), some (.goto 4, 3, 198, 0, 0, 0), none, none, some (.iconst 0, 1, 0, 0, 0, 0), some (.istore 4, 2, 0, 0, 0, 0), none, some (.iload 8, 2, 0, 0, 0, 0), none, some (.istore 9, 2, 0, 0, 0, 0), none, some (.iload 9, 2, 0, 0, 0, 0), none, some (.iload_n 1, 1, 0, 0, 0, 0), some (.if_icmp .ge 51, 3, 258, 0, 0, 0), none, none, some (.iload 4, 2, 0, 0, 0, 0), none, some (.ifCond .eq 46, 3, 258, 0, 0, 0), none, none, some (.aload_n 0, 1, 0, 0, 0, 0), some (.getfield 89, 3, 12, 40, 2, 978), none, none, some (.iload 9, 2, 0, 0, 0, 0), none, some (.iload 9, 2, 0, 0, 0, 0), none, some (.iload 8, 2, 0, 0, 0, 0), none, some (.if_icmp .ne 15, 3, 240, 0, 0, 0), none, none, some (.aload_n 0, 1, 0, 0, 0, 0), some (.getfield 89, 3, 12, 40, 2, 978), none, none, some (.iload 9, 2, 0, 0, 0, 0), none, some (.iaload, 1, 0, 0, 0, 0), some (.iconst 1, 1, 0, 0, 0, 0), some (.iadd, 1, 0, 0, 0, 0), some (.goto 14, 3, 251, 0, 0, 0), none, none, some (.aload_n 0, 1, 0, 0, 0, 0), some (.getfield 89, 3, 12, 40, 2, 978), none, none, some (.iload 9, 2, 0, 0, 0, 0), none, some (.iconst 1, 1, 0, 0, 0, 0), some (.isub, 1, 0, 0, 0, 0), some (.iaload, 1, 0, 0, 0, 0), some (.iconst 1, 1, 0, 0, 0, 0), some (.iadd, 1, 0, 0, 0, 0), some (.iastore, 1, 0, 0, 0, 0), some (.iinc 9 1, 3, 0, 0, 0, 0), none, none, some (.goto (-51), 3, 204, 0, 0, 0), none, none, some (.goto (-207), 3, 51, 0, 0, 0), none, none, some (.iconst 0, 1, 0, 0, 0, 0), some (.ireturn, 1, 1, 0, 0, 0)]
/-- X12_watchers(II)I -/
def am_c1262 : List (Option am_En) := [some (.aload_n 0, 1, 0, 0, 0, 0), some (.iconst 0, 1, 0, 0, 0, 0), some (.putfield 95, 3, 12, 12, 0, 950), none, none, some (.iload_n 1, 1, 0, 0, 0, 0), some (.iconst 1, 1, 0, 0, 0, 0), some (.iconst 5, 1, 0, 0, 0, 0), some (.invokestatic 231, 3, 1239, 3, 0, 1219), none, none, some (.istore_n 3, 1, 0, 0, 0, 0), some (.iload_n 3, 1, 0, 0, 0, 0), some (.ifCond .ne 18, 3, 31, 0, 0, 0), none, none, some (.iload_n 2, 1, 0, 0, 0, 0), some (.i2l, 1, 0, 0, 0, 0), some (.lconst 0, 1, 0, 0, 0, 0), some (.lconst 1, 1, 0, 0, 0, 0), some (.invokestatic 98, 3, 1201, 3, 0, 1122), none, none, some (.ifCond .ne 8, 3, 31, 0, 0, 0), none, none, some (.bipush (-2), 2, 0, 0, 0, 0), none, some (.goto 4, 3, 32, 0, 0, 0), none, none, some (.iload_n 3, 1, 0, 0, 0, 0), some (.istore_n 3, 1, 0, 0, 0, 0), some (.iload_n 3, 1, 0, 0, 0, 0), some (.ifCond .ge 9, 3, 43, 0, 0, 0), none, none, some (.aload_n 0, 1, 0, 0, 0, 0), some (.iload_n 3, 1, 0, 0, 0, 0), some (.invokevirtual 177, 3, 1202, 1, 0, 1084), none, none, some (.ireturn, 1, 0, 0, 0, 0), some (.aload_n 0, 1, 0, 0, 0, 0), some (.iload_n 1, 1, 0, 0, 0, 0), some (.invokevirtual 270, 3, 1260, 1, 0, 1306), none, none, some (.iconst 1, 1, 0, 0, 0, 0), some (.istore 4, 2, 0, 0, 0, 0), none, some (.iload 4, 2, 0, 0, 0, 0), none, some (.iconst 5, 1, 0, 0, 0, 0), some (.if_icmp .ge 39, 3, 93, 0, 0, 0), none, none, some (.aload_n 0, 1, 0, 0, 0, 0), some (.invokevirtual 238, 3, 1242, 0, 0, 1234), none, none, some (.ifCond .eq 32, 3, 93, 0, 0, 0), none, none, some (.aload_n 0, 1, 0, 0, 0, 0), some (.iload 4, 2, 0, 0, 0, 0), none, some (.invokevirtual 273, 3, 1261, 1, 0, 1310), none, none, some (.ifCond .eq 17, 3, 87, 0, 0, 0), none, none, some (.iload_n 2, 1, 0, 0, 0, 0), some (.ifCond .ne 8, 3, 82, 0, 0, 0), none, none, some (.iload 4, 2, 0, 0, 0, 0), none, some (.goto 7, 3, 86, 0, 0, 0), none, none, some (.aload_n 0, 1, 0, 0, 0, 0), some (.getfield 267, 3, 12, 39, 0, 977), none, none, some (.ireturn, 1, 0, 0, 0, 0), some (.iinc 4 1, 3, 0, 0, 0, 0), none, none, some (.goto (-39), 3, 51, 0, 0, 0), none, none, some (.bipush (-9), 2, 0, 0, 0, 0), none, some (.ireturn, 1, 0, 0, 0, 0)]
/-- X12_row(I)I -/
def am_c1263 : List (Option am_En) := [some (.aload_n 0, 1, 0, 0, 0, 0), some (.iconst 0, 1, 0, 0, 0, 0), some (.putfield 95, 3, 12, 12, 0, 950), none, none, some (.iload_n 1, 1, 0, 0, 0, 0), some (.ifCond .ge 10, 3, 16, 0, 0, 0), none, none, some (.aload_n 0, 1, 0, 0, 0, 0), some (.bipush (-4), 2, 0, 0, 0, 0), none, some (.invokevirtual 177, 3, 1202, 1, 0, 1084), none, none, some (.ireturn, 1, 0, 0, 0, 0), some (.iload_n 1, 1, 0, 0, 0, 0), some (.bipush 29, 2, 0, 0, 0, 0), none, some (.if_icmp .gt 12, 3, 31, 0, 0, 0), none, none, some (.aload_n 0, 1, 0, 0, 0, 0), some (.getfield 276, 3, 12, 42, 0, 980), none, none, some (.bipush 12, 2, 0, 0, 0, 0), none, some (.if_icmp .ne 10, 3, 38, 0, 0, 0), none, none, some (.aload_n 0, 1, 0, 0, 0, 0), some (.bipush (-6), 2, 0, 0, 0, 0), none, some (.invokevirtual 177, 3, 1202, 1, 0, 1084), none, none, some (.ireturn, 1, 0, 0, 0, 0), some (.aload_n 0, 1, 0, 0, 0, 0), some (.getfield 92, 3, 12, 41, 2, 979), none, none, some (.aload_n 0, 1, 0, 0, 0, 0), some (.getfield 276, 3, 12, 42, 0, 980), none, none, some (.iload_n 1, 1, 0, 0, 0, 0), some (.iastore, 1, 0, 0, 0, 0), some (.aload_n 0, 1, 0, 0, 0, 0), some (.dup, 1, 0, 0, 0, 0), some (.getfield 276, 3, 12, 42, 0, 980), none, none, some (.iconst 1, 1, 0, 0, 0, 0), some (.iadd, 1, 0, 0, 0, 0), some (.putfield 276, 3, 12, 42, 0, 980), none, none, some (.aload_n 0, 1, 0, 0, 0, 0), some (.getfield 276, 3, 12, 42, 0, 980), none, none, some (.ireturn, 1, 0, 0, 0, 0)]
/-- X12_judge(I)I -/
def am_c1264 : List (Option am_En) := [some (.aload_n 0, 1, 0, 0, 0, 0), some (.iconst 0, 1, 0, 0, 0, 0), some (.putfield 95, 3, 12, 12, 0, 950), none, none, some (.aload_n 0, 1, 0, 0, 0, 0), some (.iload_n 1, 1, 0, 0, 0, 0), some (.invokevirtual 108, 3, 1204, 1, 0, 1144), none, none, some (.ifCond .ne 9, 3, 19, 0, 0, 0), none, none, some (.aload_n 0, 1, 0, 0, 0, 0), some (.iconst (-1), 1, 0, 0, 0, 0), some (.invokevirtual 177, 3, 1202, 1, 0, 1084), none, none, some (.ireturn, 1, 0, 0, 0, 0), some (.aload_n 0, 1, 0, 0, 0, 0), some (.getfield 276, 3, 12, 42, 0, 980), none, none, some (.istore_n 2, 1, 0, 0, 0, 0), some (.aload_n 0, 1, 0, 0, 0, 0), some (.iconst 0, 1, 0, 0, 0, 0), some (.putfield 276, 3, 12, 42, 0, 980), none, none, some (.aload_n 0, 1, 0, 0, 0, 0), some (.getfield 119, 3, 12, 5, 0, 943), none, none, some (.istore_n 3, 1, 0, 0, 0, 0), some (.bipush (-9), 2, 0, 0, 0, 0), none, some (.istore 4, 2, 0, 0, 0, 0), none, some (.iconst 0, 1, 0, 0, 0, 0), some (.istore 5, 2, 0, 0, 0, 0), none, some (.iload 5, 2, 0, 0, 0, 0), none, some (.iload_n 2, 1, 0, 0, 0, 0), some (.if_icmp .ge 43, 3, 87, 0, 0, 0), none, none, some (.iload 4, 2, 0, 0, 0, 0), none, some (.ifCond .ge 38, 3, 87, 0, 0, 0), none, none, some (.aload_n 0, 1, 0, 0, 0, 0), some (.getfield 92, 3, 12, 41, 2, 979), none, none, some (.iload 5, 2, 0, 0, 0, 0), none, some (.iaload, 1, 0, 0, 0, 0), some (.aload_n 0, 1, 0, 0, 0, 0), some (.iload_n 1, 1, 0, 0, 0, 0), some (.invokevirtual 122, 3, 1210, 1, 0, 1149), none, none, some (.if_icmp .ne 8, 3, 72, 0, 0, 0), none, none, some (.bipush (-9), 2, 0, 0, 0, 0), none, some (.goto 5, 3, 74, 0, 0, 0), none, none, some (.iload 5, 2, 0, 0, 0, 0), none, some (.istore 4, 2, 0, 0, 0, 0), none, some (.aload_n 0, 1, 0, 0, 0, 0), some (.invokevirtual 153, 3, 1217, 0, 0, 1199), none, none, some (.pop, 1, 0, 0, 0, 0), some (.iinc 5 1, 3, 0, 0, 0, 0), none, none, some (.goto (-43), 3, 41, 0, 0, 0), none, none, some (.aload_n 0, 1, 0, 0, 0, 0), some (.iload_n 3, 1, 0, 0, 0, 0), some (.putfield 119, 3, 12, 5, 0, 943), none, none, some (.iload 4, 2, 0, 0, 0, 0), none, some (.ireturn, 1, 0, 0, 0, 0)]
/-- X12_seeds(IIII)I -/
def am_c1265 : List (Option am_En) := [some (.aload_n 0, 1, 0, 0, 0, 0), some (.iconst 0, 1, 0, 0, 0, 0), some (.putfield 95, 3, 12, 12, 0, 950), none, none, some (.aload_n 0, 1, 0, 0, 0, 0), some (.iload_n 1, 1, 0, 0, 0, 0), some (.invokevirtual 112, 3, 1203, 1, 0, 1136), none, none, some (.ifCond .eq 13, 3, 23, 0, 0, 0), none, none, some (.iload_n 2, 1, 0, 0, 0, 0), some (.iconst 1, 1, 0, 0, 0, 0), some (.bipush 60, 2, 0, 0, 0, 0), none, some (.invokestatic 231, 3, 1239, 3, 0, 1219), none, none, some (.goto 4, 3, 24, 0, 0, 0), none, none, some (.iconst (-1), 1, 0, 0, 0, 0), some (.istore 5, 2, 0, 0, 0, 0), none, some (.iload 5, 2, 0, 0, 0, 0), none, some (.ifCond .ne 19, 3, 47, 0, 0, 0), none, none, some (.iload 4, 2, 0, 0, 0, 0), none, some (.i2l, 1, 0, 0, 0, 0), some (.lconst 0, 1, 0, 0, 0, 0), some (.lconst 1, 1, 0, 0, 0, 0), some (.invokestatic 98, 3, 1201, 3, 0, 1122), none, none, some (.ifCond .ne 8, 3, 47, 0, 0, 0), none, none, some (.bipush (-2), 2, 0, 0, 0, 0), none, some (.goto 5, 3, 49, 0, 0, 0), none, none, some (.iload 5, 2, 0, 0, 0, 0), none, some (.istore 5, 2, 0, 0, 0, 0), none, some (.iload 5, 2, 0, 0, 0, 0), none, some (.ifCond .ge 10, 3, 63, 0, 0, 0), none, none, some (.aload_n 0, 1, 0, 0, 0, 0), some (.iload 5, 2, 0, 0, 0, 0), none, some (.invokevirtual 177, 3, 1202, 1, 0, 1084), none, none, some (.ireturn, 1, 0, 0, 0, 0), some (.iload_n 3, 1, 0, 0, 0, 0), some (.istore 6, 2, 0, 0, 0, 0), none, some (.iload_n 1, 1, 0, 0, 0, 0), some (.istore 7, 2, 0, 0, 0, 0), none, some (.iconst 1, 1, 0, 0, 0, 0), some (.iload_n 1, 1, 0, 0, 0, 0), some (.ishl, 1, 0, 0, 0, 0), some (.istore 8, 2, 0, 0, 0, 0), none, some (.iconst 0, 1, 0, 0, 0, 0), some (.istore 9, 2, 0, 0, 0, 0), none, some (.iload 9, 2, 0, 0, 0, 0), none, some (.iload_n 2, 1, 0, 0, 0, 0), some (.if_icmp .ge 136, 3, 216, 0, 0, 0), none, none, some (.iconst 0, 1, 0, 0, 0, 0), some (.istore 10, 2, 0, 0, 0, 0), none, some (.iconst 0, 1, 0, 0, 0, 0), some (.istore 11, 2, 0, 0, 0, 0), none, some (.iload 11, 2, 0, 0, 0, 0), none, some (.iconst 5, 1, 0, 0, 0, 0), some (.if_icmp .ge 30, 3, 122, 0, 0, 0), none, none, some (.iload 10, 2, 0, 0, 0, 0), none, some (.aload_n 0, 1, 0, 0, 0, 0), some (.iload 7, 2, 0, 0, 0, 0), none, some (.iload 11, 2, 0, 0, 0, 0), none, some (.invokevirtual 126, 3, 1206, 2, 0, 1161), none, none, some (.ifCond .ge 7, 3, 112, 0, 0, 0), none, none, some (.iconst 0, 1, 0, 0, 0, 0), some (.goto 4, 3, 113, 0, 0, 0), none, none, some (.iconst 1, 1, 0, 0, 0, 0), some (.iadd, 1, 0, 0, 0, 0), some (.istore 10, 2, 0, 0, 0, 0), none, some (.iinc 11 1, 3, 0, 0, 0, 0), none, none, some (.goto (-30), 3, 89, 0, 0, 0), none, none, some (.iload 6, 2, 0, 0, 0, 0), none, some (.ldc_w 279, 3, 1103515245, 0, 0, 1326), none, none, some (.imul, 1, 0, 0, 0, 0), some (.sipush 12345, 3, 0, 0, 0, 0), none, none, some (.iadd, 1, 0, 0, 0, 0), some (.istore 6, 2, 0, 0, 0, 0), none, some (.iload 6, 2, 0, 0, 0, 0), none, some (.ldc_w 280, 3, 2147483647, 0, 0, 1327), none, none, some (.iand, 1, 0, 0, 0, 0), some (.ldc_w 281, 3, 65536, 0, 0, 1328), none, none, some (.idiv, 1, 0, 0, 0, 0), some (.iload 10, 2, 0, 0, 0, 0), none, some (.irem, 1, 0, 0, 0, 0), some (.istore 11, 2, 0, 0, 0, 0), none, some (.iconst (-1), 1, 0, 0, 0, 0), some (.istore 12, 2, 0, 0, 0, 0), none, some (.iconst 0, 1, 0, 0, 0, 0), some (.istore 13, 2, 0, 0, 0, 0), none, some (.iload 13, 2, 0, 0, 0, 0), none, some (.iconst 5, 1, 0, 0, 0, 0), some (.if_icmp .ge 39, 3, 197, 0, 0, 0), none, none, some (.iload 11, 2, 0, 0, 0, 0), none, some (.ifCond .lt 34, 3, 197, 0, 0, 0), none, none, some (.aload_n 0, 1, 0, 0, 0, 0), some (.iload 7, 2, 0, 0, 0, 0), none, some (.iload 13, 2, 0, 0, 0, 0), none, some (.invokevirtual 126, 3, 1206, 2, 0, 1161), none, none, some (.istore 12, 2, 0, 0, 0, 0), none, some (.iload 11, 2, 0, 0, 0, 0), none, some (.iload 12, 2, 0, 0, 0, 0), none, some (.ifCond .ge 7, 3, 187, 0, 0, 0), none, none, some (.iconst 0, 1, 0, 0, 0, 0), some (.goto 4, 3, 188, 0, 0, 0), none, none, some (.iconst 1, 1, 0, 0, 0, 0), some (.isub, 1, 0, 0, 0, 0), some (.istore 11, 2, 0, 0, 0, 0), none, some (.iinc 13 1, 3, 0, 0, 0, 0), none, none, some (.goto (-39), 3, 155, 0, 0, 0), none, none, some (.iload 12, 2, 0, 0, 0, 0), none, some (.istore 7, 2, 0, 0, 0, 0), none, some (.iload 8, 2, 0, 0, 0, 0), none, some (.iconst 1, 1, 0, 0, 0, 0), some (.iload 12, 2, 0, 0, 0, 0), none, some (.ishl, 1, 0, 0, 0, 0), some (.ior, 1, 0, 0, 0, 0), some (.istore 8, 2, 0, 0, 0, 0), none, some (.iinc 9 1, 3, 0, 0, 0, 0), none, none, some (.goto (-136), 3, 77, 0, 0, 0), none, none, some (.iload 4, 2, 0, 0, 0, 0), none, some (.ifCond .ne 8, 3, 226, 0, 0, 0), none, none, some (.iload 7, 2, 0, 0, 0, 0), none, some (.goto 8, 3, 231, 0, 0, 0), none, none, some (.iload 8, 2, 0, 0, 0, 0), none, some (.invokestatic 282, 3, 1266, 1, 0, 1329), none, none, some (.ireturn, 1, 0, 0, 0, 0)]
/-- X12_ones(I)I -/
def am_c1266 : List (Option am_En) := [some (.iconst 0, 1, 0, 0, 0, 0), some (.istore_n 1, 1, 0, 0, 0, 0), some (.iconst 0, 1, 0, 0, 0, 0), some (.istore_n 2, 1, 0, 0, 0, 0), some (.iload_n 2, 1, 0, 0, 0, 0), some (.bipush 30, 2, 0, 0, 0, 0), none, some (.if_icmp .ge 17, 3, 24, 0, 0, 0), none, none, some (.iload_n 1, 1, 0, 0, 0, 0), some (.iload_n 0, 1, 0, 0, 0, 0), some (.iload_n 2, 1, 0, 0, 0, 0), some (.ishr, 1, 0, 0, 0, 0), some (.iconst 1, 1, 0, 0, 0, 0), some (.iand, 1, 0, 0, 0, 0), some (.iadd, 1, 0, 0, 0, 0), some (.istore_n 1, 1, 0, 0, 0, 0), some (.iinc 2 1, 3, 0, 0, 0, 0), none, none, some (.goto (-17), 3, 4, 0, 0, 0), none, none, some (.iload_n 1, 1, 0, 0, 0, 0), some (.ireturn, 1, 0, 0, 0, 0)]
/-- X12_count(I)I -/
def am_c1267 : List (Option am_En) := [some (.aload_n 0, 1, 0, 0, 0, 0), some (.iconst 0, 1, 0, 0, 0, 0), some (.putfield 95, 3, 12, 12, 0, 950), none, none, some (.iload_n 1, 1, 0, 0, 0, 0), some (.tableswitch 98 0 8 #[50, 55, 60, 65, 73, 78, 83, 88, 93], 50, 0, 0, 0, 0), none, none, none, none, none, none, none, none, none, none, none, none, none, none, none, none, none, none, none, none, none, none, none, none, none, none, none, none, none, none, none, none, none, none, none, none, none, none, none, none, none, none, none, none, none, none, none, none, none, some (.aload_n 0, 1, 0, 0, 0, 0), some (.getfield 7, 3, 12, 0, 0, 938), none, none, some (.ireturn, 1, 0, 0, 0, 0), some (.aload_n 0, 1, 0, 0, 0, 0), some (.getfield 13, 3, 12, 1, 0, 939), none, none, some (.ireturn, 1, 0, 0, 0, 0), some (.aload_n 0, 1, 0, 0, 0, 0), some (.getfield 105, 3, 12, 3, 0, 941), none, none, some (.ireturn, 1, 0, 0, 0, 0), some (.aload_n 0, 1, 0, 0, 0, 0), some (.getfield 102, 3, 12, 2, 0, 940), none, none, some (.invokestatic 282, 3, 1266, 1, 0, 1329), none, none, some (.ireturn, 1, 0, 0, 0, 0), some (.aload_n 0, 1, 0, 0, 0, 0), some (.getfield 119, 3, 12, 5, 0, 943), none, none, some (.ireturn, 1, 0, 0, 0, 0), some (.aload_n 0, 1, 0, 0, 0, 0), some (.getfield 16, 3, 12, 4, 0, 942), none, none, some (.ireturn, 1, 0, 0, 0, 0), some (.aload_n 0, 1, 0, 0, 0, 0), some (.getfield 244, 3, 12, 36, 0, 974), none, none, some (.ireturn, 1, 0, 0, 0, 0), some (.aload_n 0, 1, 0, 0, 0, 0), some (.getfield 180, 3, 12, 21, 0, 959), none, none, some (.ireturn, 1, 0, 0, 0, 0), some (.aload_n 0, 1, 0, 0, 0, 0), some (.getfield 276, 3, 12, 42, 0, 980), none, none, some (.ireturn, 1, 0, 0, 0, 0), some (.iload_n 1, 1, 0, 0, 0, 0), some (.i2l, 1, 0, 0, 0, 0), some (.ldc2_w 285, 3, 11, 0, 0, 1336), none, none, some (.ldc2_w 287, 3, 16, 0, 0, 1337), none, none, some (.invokestatic 98, 3, 1201, 3, 0, 1122), none, none, some (.ifCond .eq 15, 3, 130, 0, 0, 0), none, none, some (.aload_n 0, 1, 0, 0, 0, 0), some (.getfield 38, 3, 12, 13, 2, 951), none, none, some (.iload_n 1, 1, 0, 0, 0, 0), some (.bipush 10, 2, 0, 0, 0, 0), none, some (.isub, 1, 0, 0, 0, 0), some (.iaload, 1, 0, 0, 0, 0), some (.goto 5, 3, 132, 0, 0, 0), none, none, some (.bipush (-9), 2, 0, 0, 0, 0), none, some (.ireturn, 1, 0, 0, 0, 0)]
/-- J6_bitCount_0f7a4(I)I -/
def am_c1300 : List (Option am_En) := [some (.iload_n 0, 1, 0, 0, 0, 0), some (.iload_n 0, 1, 0, 0, 0, 0), some (.iconst 1, 1, 0, 0, 0, 0), some (.iushr, 1, 0, 0, 0, 0), some (.ldc_w 265, 3, 1431655765, 0, 0, 889), none, none, some (.iand, 1, 0, 0, 0, 0), some (.isub, 1, 0, 0, 0, 0), some (.istore_n 0, 1, 0, 0, 0, 0), some (.iload_n 0, 1, 0, 0, 0, 0), some (.ldc_w 266, 3, 858993459, 0, 0, 890), none, none, some (.iand, 1, 0, 0, 0, 0), some (.iload_n 0, 1, 0, 0, 0, 0), some (.iconst 2, 1, 0, 0, 0, 0), some (.iushr, 1, 0, 0, 0, 0), some (.ldc_w 266, 3, 858993459, 0, 0, 890), none, none, some (.iand, 1, 0, 0, 0, 0), some (.iadd, 1, 0, 0, 0, 0), some (.istore_n 0, 1, 0, 0, 0, 0), some (.iload_n 0, 1, 0, 0, 0, 0), some (.iload_n 0, 1, 0, 0, 0, 0), some (.iconst 4, 1, 0, 0, 0, 0), some (.iushr, 1, 0, 0, 0, 0), some (.iadd, 1, 0, 0, 0, 0), some (.ldc_w 267, 3, 252645135, 0, 0, 891), none, none, some (.iand, 1, 0, 0, 0, 0), some (.istore_n 0, 1, 0, 0, 0, 0), some (.iload_n 0, 1, 0, 0, 0, 0), some (.iload_n 0, 1, 0, 0, 0, 0), some (.bipush 8, 2, 0, 0, 0, 0), none, some (.iushr, 1, 0, 0, 0, 0), some (.iadd, 1, 0, 0, 0, 0), some (.istore_n 0, 1, 0, 0, 0, 0), some (.iload_n 0, 1, 0, 0, 0, 0), some (.iload_n 0, 1, 0, 0, 0, 0), some (.bipush 16, 2, 0, 0, 0, 0), none, some (.iushr, 1, 0, 0, 0, 0), some (.iadd, 1, 0, 0, 0, 0), some (.istore_n 0, 1, 0, 0, 0, 0), some (.iload_n 0, 1, 0, 0, 0, 0), some (.bipush 63, 2, 0, 0, 0, 0), none, some (.iand, 1, 0, 0, 0, 0), some (.ireturn, 1, 0, 0, 0, 0)]
/-- J7_fill_53178([II)V -/
def am_c1400 : List (Option am_En) := [some (.iconst 0, 1, 0, 0, 0, 0), some (.istore_n 2, 1, 0, 0, 0, 0), some (.aload_n 0, 1, 0, 0, 0, 0), some (.arraylength, 1, 0, 0, 0, 0), some (.istore_n 3, 1, 0, 0, 0, 0), some (.iload_n 2, 1, 0, 0, 0, 0), some (.iload_n 3, 1, 0, 0, 0, 0), some (.if_icmp .ge 13, 3, 20, 0, 0, 0), none, none, some (.aload_n 0, 1, 0, 0, 0, 0), some (.iload_n 2, 1, 0, 0, 0, 0), some (.iload_n 1, 1, 0, 0, 0, 0), some (.iastore, 1, 0, 0, 0, 0), some (.iinc 2 1, 3, 0, 0, 0, 0), none, none, some (.goto (-12), 3, 5, 0, 0, 0), none, none, some (.return_, 1, 0, 0, 0, 0)]
def am_code (m : Nat) : List (Option am_En) := if m < 1106 then (if m < 514 then (if m < 409 then (if m < 301 then (if m < 101 then (if m < 3 then (if m < 1 then (am_c0) else (if m < 2 then (am_c1) else (am_c2))) else (if m < 4 then (am_c3) else (if m < 100 then (am_c4) else (am_c100)))) else (if m < 201 then (if m < 102 then (am_c101) else (if m < 200 then (am_c102) else (am_c200))) else (if m < 202 then (am_c201) else (if m < 300 then (am_c202) else (am_c300))))) else (if m < 403 then (if m < 400 then (if m < 302 then (am_c301) else (if m < 303 then (am_c302) else (am_c303))) else (if m < 401 then (am_c400) else (if m < 402 then (am_c401) else (am_c402)))) else (if m < 406 then (if m < 404 then (am_c403) else (if m < 405 then (am_c404) else (am_c405))) else (if m < 407 then (am_c406) else (if m < 408 then (am_c407) else (am_c408)))))) else (if m < 502 then (if m < 415 then (if m < 412 then (if m < 410 then (am_c409) else (if m < 411 then (am_c410) else (am_c411))) else (if m < 413 then (am_c412) else (if m < 414 then (am_c413) else (am_c414)))) else (if m < 418 then (if m < 416 then (am_c415) else (if m < 417 then (am_c416) else (am_c417))) else (if m < 500 then (am_c418) else (if m < 501 then (am_c500) else (am_c501))))) else (if m < 508 then (if m < 505 then (if m < 503 then (am_c502) else (if m < 504 then (am_c503) else (am_c504))) else (if m < 506 then (am_c505) else (if m < 507 then (am_c506) else (am_c507)))) else (if m < 511 then (if m < 509 then (am_c508) else (if m < 510 then (am_c509) else (am_c510))) else (if m < 512 then (am_c511) else (if m < 513 then (am_c512) else (am_c513))))))) else (if m < 903 then (if m < 707 then (if m < 701 then (if m < 601 then (if m < 515 then (am_c514) else (if m < 600 then (am_c515) else (am_c600))) else (if m < 602 then (am_c601) else (if m < 700 then (am_c602) else (am_c700)))) else (if m < 704 then (if m < 702 then (am_c701) else (if m < 703 then (am_c702) else (am_c703))) else (if m < 705 then (am_c704) else (if m < 706 then (am_c705) else (am_c706))))) else (if m < 800 then (if m < 710 then (if m < 708 then (am_c707) else (if m < 709 then (am_c708) else (am_c709))) else (if m < 711 then (am_c710) else (if m < 712 then (am_c711) else (am_c712)))) else (if m < 900 then (if m < 801 then (am_c800) else (if m < 802 then (am_c801) else (am_c802))) else (if m < 901 then (am_c900) else (if m < 902 then (am_c901) else (am_c902)))))) else (if m < 1010 then (if m < 1004 then (if m < 1001 then (if m < 904 then (am_c903) else (if m < 1000 then (am_c904) else (am_c1000))) else (if m < 1002 then (am_c1001) else (if m < 1003 then (am_c1002) else (am_c1003)))) else (if m < 1007 then (if m < 1005 then (am_c1004) else (if m < 1006 then (am_c1005) else (am_c1006))) else (if m < 1008 then (am_c1007) else (if m < 1009 then (am_c1008) else (am_c1009))))) else (if m < 1016 then (if m < 1013 then (if m < 1011 then (am_c1010) else (if m < 1012 then (am_c1011) else (am_c1012))) else (if m < 1014 then (am_c1013) else (if m < 1015 then (am_c1014) else (am_c1015)))) else (if m < 1102 then (if m < 1100 then (am_c1016) else (if m < 1101 then (am_c1100) else (am_c1101))) else (if m < 1104 then (if m < 1103 then (am_c1102) else (am_c1103)) else (if m < 1105 then (am_c1104) else (am_c1105)))))))) else (if m < 1221 then (if m < 1130 then (if m < 1118 then (if m < 1112 then (if m < 1109 then (if m < 1107 then (am_c1106) else (if m < 1108 then (am_c1107) else (am_c1108))) else (if m < 1110 then (am_c1109) else (if m < 1111 then (am_c1110) else (am_c1111)))) else (if m < 1115 then (if m < 1113 then (am_c1112) else (if m < 1114 then (am_c1113) else (am_c1114))) else (if m < 1116 then (am_c1115) else (if m < 1117 then (am_c1116) else (am_c1117))))) else (if m < 1124 then (if m < 1121 then (if m < 1119 then (am_c1118) else (if m < 1120 then (am_c1119) else (am_c1120))) else (if m < 1122 then (am_c1121) else (if m < 1123 then (am_c1122) else (am_c1123)))) else (if m < 1127 then (if m < 1125 then (am_c1124) else (if m < 1126 then (am_c1125) else (am_c1126))) else (if m < 1128 then (am_c1127) else (if m < 1129 then (am_c1128) else (am_c1129)))))) else (if m < 1208 then (if m < 1202 then (if m < 1133 then (if m < 1131 then (am_c1130) else (if m < 1132 then (am_c1131) else (am_c1132))) else (if m < 1200 then (am_c1133) else (if m < 1201 then (am_c1200) else (am_c1201)))) else (if m < 1205 then (if m < 1203 then (am_c1202) else (if m < 1204 then (am_c1203) else (am_c1204))) else (if m < 1206 then (am_c1205) else (if m < 1207 then (am_c1206) else (am_c1207))))) else (if m < 1214 then (if m < 1211 then (if m < 1209 then (am_c1208) else (if m < 1210 then (am_c1209) else (am_c1210))) else (if m < 1212 then (am_c1211) else (if m < 1213 then (am_c1212) else (am_c1213)))) else (if m < 1217 then (if m < 1215 then (am_c1214) else (if m < 1216 then (am_c1215) else (am_c1216))) else (if m < 1219 then (if m < 1218 then (am_c1217) else (am_c1218)) else (if m < 1220 then (am_c1219) else (am_c1220))))))) else (if m < 1245 then (if m < 1233 then (if m < 1227 then (if m < 1224 then (if m < 1222 then (am_c1221) else (if m < 1223 then (am_c1222) else (am_c1223))) else (if m < 1225 then (am_c1224) else (if m < 1226 then (am_c1225) else (am_c1226)))) else (if m < 1230 then (if m < 1228 then (am_c1227) else (if m < 1229 then (am_c1228) else (am_c1229))) else (if m < 1231 then (am_c1230) else (if m < 1232 then (am_c1231) else (am_c1232))))) else (if m < 1239 then (if m < 1236 then (if m < 1234 then (am_c1233) else (if m < 1235 then (am_c1234) else (am_c1235))) else (if m < 1237 then (am_c1236) else (if m < 1238 then (am_c1237) else (am_c1238)))) else (if m < 1242 then (if m < 1240 then (am_c1239) else (if m < 1241 then (am_c1240) else (am_c1241))) else (if m < 1243 then (am_c1242) else (if m < 1244 then (am_c1243) else (am_c1244)))))) else (if m < 1257 then (if m < 1251 then (if m < 1248 then (if m < 1246 then (am_c1245) else (if m < 1247 then (am_c1246) else (am_c1247))) else (if m < 1249 then (am_c1248) else (if m < 1250 then (am_c1249) else (am_c1250)))) else (if m < 1254 then (if m < 1252 then (am_c1251) else (if m < 1253 then (am_c1252) else (am_c1253))) else (if m < 1255 then (am_c1254) else (if m < 1256 then (am_c1255) else (am_c1256))))) else (if m < 1263 then (if m < 1260 then (if m < 1258 then (am_c1257) else (if m < 1259 then (am_c1258) else (am_c1259))) else (if m < 1261 then (am_c1260) else (if m < 1262 then (am_c1261) else (am_c1262)))) else (if m < 1266 then (if m < 1264 then (am_c1263) else (if m < 1265 then (am_c1264) else (am_c1265))) else (if m < 1300 then (if m < 1267 then (am_c1266) else (am_c1267)) else (if m < 1400 then (am_c1300) else (am_c1400))))))))
def am_mx (m : Nat) : Nat := if m < 1106 then (if m < 514 then (if m < 409 then (if m < 301 then (if m < 101 then (if m < 3 then (if m < 1 then (1) else (if m < 2 then (6) else (6))) else (if m < 4 then (5) else (if m < 100 then (7) else (3)))) else (if m < 201 then (if m < 102 then (1) else (if m < 200 then (4) else (3))) else (if m < 202 then (1) else (if m < 300 then (10) else (3))))) else (if m < 403 then (if m < 400 then (if m < 302 then (1) else (if m < 303 then (12) else (4))) else (if m < 401 then (1) else (if m < 402 then (1) else (1)))) else (if m < 406 then (if m < 404 then (2) else (if m < 405 then (2) else (2))) else (if m < 407 then (2) else (if m < 408 then (2) else (3)))))) else (if m < 502 then (if m < 415 then (if m < 412 then (if m < 410 then (2) else (if m < 411 then (3) else (1))) else (if m < 413 then (1) else (if m < 414 then (2) else (2)))) else (if m < 418 then (if m < 416 then (6) else (if m < 417 then (9) else (8))) else (if m < 500 then (4) else (if m < 501 then (6) else (4))))) else (if m < 508 then (if m < 505 then (if m < 503 then (5) else (if m < 504 then (2) else (2))) else (if m < 506 then (1) else (if m < 507 then (3) else (2)))) else (if m < 511 then (if m < 509 then (3) else (if m < 510 then (6) else (7))) else (if m < 512 then (7) else (if m < 513 then (4) else (7))))))) else (if m < 903 then (if m < 707 then (if m < 701 then (if m < 601 then (if m < 515 then (6) else (if m < 600 then (4) else (3))) else (if m < 602 then (1) else (if m < 700 then (4) else (1)))) else (if m < 704 then (if m < 702 then (1) else (if m < 703 then (3) else (2))) else (if m < 705 then (3) else (if m < 706 then (6) else (5))))) else (if m < 800 then (if m < 710 then (if m < 708 then (8) else (if m < 709 then (3) else (5))) else (if m < 711 then (5) else (if m < 712 then (7) else (5)))) else (if m < 900 then (if m < 801 then (3) else (if m < 802 then (1) else (4))) else (if m < 901 then (3) else (if m < 902 then (3) else (1)))))) else (if m < 1010 then (if m < 1004 then (if m < 1001 then (if m < 904 then (4) else (if m < 1000 then (5) else (2))) else (if m < 1002 then (3) else (if m < 1003 then (2) else (3)))) else (if m < 1007 then (if m < 1005 then (2) else (if m < 1006 then (4) else (3))) else (if m < 1008 then (3) else (if m < 1009 then (6) else (3))))) else (if m < 1016 then (if m < 1013 then (if m < 1011 then (3) else (if m < 1012 then (5) else (4))) else (if m < 1014 then (7) else (if m < 1015 then (6) else (5)))) else (if m < 1102 then (if m < 1100 then (6) else (if m < 1101 then (2) else (3))) else (if m < 1104 then (if m < 1103 then (4) else (4)) else (if m < 1105 then (4) else (1)))))))) else (if m < 1221 then (if m < 1130 then (if m < 1118 then (if m < 1112 then (if m < 1109 then (if m < 1107 then (4) else (if m < 1108 then (4) else (4))) else (if m < 1110 then (5) else (if m < 1111 then (4) else (5)))) else (if m < 1115 then (if m < 1113 then (4) else (if m < 1114 then (4) else (5))) else (if m < 1116 then (4) else (if m < 1117 then (3) else (4))))) else (if m < 1124 then (if m < 1121 then (if m < 1119 then (1) else (if m < 1120 then (5) else (5))) else (if m < 1122 then (3) else (if m < 1123 then (5) else (10)))) else (if m < 1127 then (if m < 1125 then (1) else (if m < 1126 then (1) else (2))) else (if m < 1128 then (2) else (if m < 1129 then (2) else (3)))))) else (if m < 1208 then (if m < 1202 then (if m < 1133 then (if m < 1131 then (2) else (if m < 1132 then (2) else (3))) else (if m < 1200 then (2) else (if m < 1201 then (1) else (6)))) else (if m < 1205 then (if m < 1203 then (2) else (if m < 1204 then (2) else (2))) else (if m < 1206 then (3) else (if m < 1207 then (7) else (2))))) else (if m < 1214 then (if m < 1211 then (if m < 1209 then (3) else (if m < 1210 then (3) else (2))) else (if m < 1212 then (3) else (if m < 1213 then (9) else (9)))) else (if m < 1217 then (if m < 1215 then (2) else (if m < 1216 then (6) else (4))) else (if m < 1219 then (if m < 1218 then (4) else (3)) else (if m < 1220 then (2) else (4))))))) else (if m < 1245 then (if m < 1233 then (if m < 1227 then (if m < 1224 then (if m < 1222 then (1) else (if m < 1223 then (1) else (2))) else (if m < 1225 then (1) else (if m < 1226 then (1) else (1)))) else (if m < 1230 then (if m < 1228 then (1) else (if m < 1229 then (7) else (2))) else (if m < 1231 then (3) else (if m < 1232 then (2) else (3))))) else (if m < 1239 then (if m < 1236 then (if m < 1234 then (2) else (if m < 1235 then (3) else (3))) else (if m < 1237 then (1) else (if m < 1238 then (4) else (3)))) else (if m < 1242 then (if m < 1240 then (3) else (if m < 1241 then (6) else (11))) else (if m < 1243 then (1) else (if m < 1244 then (7) else (10)))))) else (if m < 1257 then (if m < 1251 then (if m < 1248 then (if m < 1246 then (9) else (if m < 1247 then (4) else (3))) else (if m < 1249 then (6) else (if m < 1250 then (10) else (8)))) else (if m < 1254 then (if m < 1252 then (5) else (if m < 1253 then (4) else (3))) else (if m < 1255 then (5) else (if m < 1256 then (10) else (2))))) else (if m < 1263 then (if m < 1260 then (if m < 1258 then (7) else (if m < 1259 then (11) else (8))) else (if m < 1261 then (6) else (if m < 1262 then (10) else (5)))) else (if m < 1266 then (if m < 1264 then (2) else (if m < 1265 then (6) else (14))) else (if m < 1300 then (if m < 1267 then (3) else (2)) else (if m < 1400 then (1) else (4))))))))
def am_cd (m pc : Nat) : Option am_En := match (am_code m)[pc]? with
  | some (some e) => some e
  | _ => none
end
section
/-! the rank of a method bounds how deep its calls go; watchersFor's grows with its last argument -/
def am_r0 (m : Nat) : Nat := if m < 1106 then (if m < 514 then (if m < 409 then (if m < 301 then (if m < 101 then (if m < 3 then (if m < 1 then (0) else (if m < 2 then (3) else (4))) else (if m < 4 then (2) else (if m < 100 then (2) else (2)))) else (if m < 201 then (if m < 102 then (0) else (if m < 200 then (2) else (1))) else (if m < 202 then (0) else (if m < 300 then (3) else (1))))) else (if m < 403 then (if m < 400 then (if m < 302 then (0) else (if m < 303 then (3) else (2))) else (if m < 401 then (1) else (if m < 402 then (0) else (0)))) else (if m < 406 then (if m < 404 then (1) else (if m < 405 then (3) else (2))) else (if m < 407 then (0) else (if m < 408 then (0) else (1)))))) else (if m < 502 then (if m < 415 then (if m < 412 then (if m < 410 then (1) else (if m < 411 then (1) else (0))) else (if m < 413 then (0) else (if m < 414 then (0) else (1)))) else (if m < 418 then (if m < 416 then (5) else (if m < 417 then (3) else (4))) else (if m < 500 then (2) else (if m < 501 then (2) else (1))))) else (if m < 508 then (if m < 505 then (if m < 503 then (0) else (if m < 504 then (0) else (0))) else (if m < 506 then (1) else (if m < 507 then (1) else (1)))) else (if m < 511 then (if m < 509 then (1) else (if m < 510 then (1) else (1))) else (if m < 512 then (2) else (if m < 513 then (10) else (2))))))) else (if m < 903 then (if m < 707 then (if m < 701 then (if m < 601 then (if m < 515 then (1) else (if m < 600 then (0) else (2))) else (if m < 602 then (0) else (if m < 700 then (2) else (0)))) else (if m < 704 then (if m < 702 then (0) else (if m < 703 then (1) else (0))) else (if m < 705 then (0) else (if m < 706 then (3) else (4))))) else (if m < 800 then (if m < 710 then (if m < 708 then (4) else (if m < 709 then (1) else (3))) else (if m < 711 then (3) else (if m < 712 then (2) else (0)))) else (if m < 900 then (if m < 801 then (1) else (if m < 802 then (0) else (0))) else (if m < 901 then (0) else (if m < 902 then (3) else (0)))))) else (if m < 1010 then (if m < 1004 then (if m < 1001 then (if m < 904 then (3) else (if m < 1000 then (2) else (0))) else (if m < 1002 then (0) else (if m < 1003 then (0) else (1)))) else (if m < 1007 then (if m < 1005 then (0) else (if m < 1006 then (4) else (0))) else (if m < 1008 then (1) else (if m < 1009 then (2) else (5))))) else (if m < 1016 then (if m < 1013 then (if m < 1011 then (5) else (if m < 1012 then (4) else (1))) else (if m < 1014 then (1) else (if m < 1015 then (1) else (1)))) else (if m < 1102 then (if m < 1100 then (2) else (if m < 1101 then (3) else (2))) else (if m < 1104 then (if m < 1103 then (6) else (5)) else (if m < 1105 then (1) else (6)))))))) else (if m < 1221 then (if m < 1130 then (if m < 1118 then (if m < 1112 then (if m < 1109 then (if m < 1107 then (2) else (if m < 1108 then (3) else (6))) else (if m < 1110 then (6) else (if m < 1111 then (6) else (6)))) else (if m < 1115 then (if m < 1113 then (2) else (if m < 1114 then (3) else (4))) else (if m < 1116 then (2) else (if m < 1117 then (5) else (5))))) else (if m < 1124 then (if m < 1121 then (if m < 1119 then (1) else (if m < 1120 then (5) else (11))) else (if m < 1122 then (1) else (if m < 1123 then (6) else (3)))) else (if m < 1127 then (if m < 1125 then (1) else (if m < 1126 then (1) else (2))) else (if m < 1128 then (0) else (if m < 1129 then (0) else (0)))))) else (if m < 1208 then (if m < 1202 then (if m < 1133 then (if m < 1131 then (0) else (if m < 1132 then (1) else (2))) else (if m < 1200 then (1) else (if m < 1201 then (0) else (0)))) else (if m < 1205 then (if m < 1203 then (0) else (if m < 1204 then (1) else (1))) else (if m < 1206 then (2) else (if m < 1207 then (2) else (0))))) else (if m < 1214 then (if m < 1211 then (if m < 1209 then (1) else (if m < 1210 then (0) else (0))) else (if m < 1212 then (3) else (if m < 1213 then (3) else (3)))) else (if m < 1217 then (if m < 1215 then (0) else (if m < 1216 then (1) else (4))) else (if m < 1219 then (if m < 1218 then (5) else (6)) else (if m < 1220 then (0) else (1))))))) else (if m < 1245 then (if m < 1233 then (if m < 1227 then (if m < 1224 then (if m < 1222 then (2) else (if m < 1223 then (2) else (1))) else (if m < 1225 then (0) else (if m < 1226 then (1) else (0)))) else (if m < 1230 then (if m < 1228 then (1) else (if m < 1229 then (2) else (2))) else (if m < 1231 then (3) else (if m < 1232 then (0) else (2))))) else (if m < 1239 then (if m < 1236 then (if m < 1234 then (4) else (if m < 1235 then (5) else (1))) else (if m < 1237 then (6) else (if m < 1238 then (2) else (3)))) else (if m < 1242 then (if m < 1240 then (0) else (if m < 1241 then (7) else (6))) else (if m < 1243 then (0) else (if m < 1244 then (6) else (7)))))) else (if m < 1257 then (if m < 1251 then (if m < 1248 then (if m < 1246 then (3) else (if m < 1247 then (4) else (4))) else (if m < 1249 then (0) else (if m < 1250 then (3) else (3)))) else (if m < 1254 then (if m < 1252 then (4) else (if m < 1253 then (2) else (0))) else (if m < 1255 then (4) else (if m < 1256 then (4) else (0))))) else (if m < 1263 then (if m < 1260 then (if m < 1258 then (3) else (if m < 1259 then (4) else (5))) else (if m < 1261 then (3) else (if m < 1262 then (2) else (4)))) else (if m < 1266 then (if m < 1264 then (1) else (if m < 1265 then (6) else (3))) else (if m < 1300 then (if m < 1267 then (0) else (1)) else (if m < 1400 then (0) else (0))))))))
def am_rk (m : Nat) (as : List AV) : Nat := if m = 514 then am_r0 m + (match as with
  | [_, _, _, .inl x] => x.toNatClampNeg
  | _ => 0) else am_r0 m
def am_al : List AV → Lc
  | [] => []
  | .inl x :: r => some (.inl x) :: am_al r
  | .inr (.inl x) :: r => some (.inr (.inl x)) :: none :: am_al r
  | .inr (.inr x) :: r => some (.inr (.inr x)) :: am_al r
def am_en (m : Nat) (as : List AV) : Lc := am_al as ++ List.replicate (am_mx m - (am_al as).length) none
def ev : Nat → Nat → Nat → Nat → Lc → List AV → Hp → Option (Option AV × Hp)
  | 0, _, _, _, _, _, _ => none
  | n + 1, d, m, pc, ls, st, h => match am_cd m pc with
    | none => none
    | some (i, len, a, b, c, _) => match am_stp pc i len a b c ls st h with
      | none => none
      | some (.inl (pc2, ls2, st2, h2)) => ev n d m pc2 ls2 st2 h2
      | some (.inr (.inl v)) => some (v, h)
      | some (.inr (.inr (m2, as, r))) => if am_rk m2 as < d ∧ (am_al as).length ≤ am_mx m2 then (match ev n (am_rk m2 as) m2 0 (am_en m2 as) [] h with
        | none => none
        | some (v, h2) => ev n d m (pc + len) ls (v.toList ++ r) h2) else none
theorem ev_succ {n d m pc : Nat} {ls : Lc} {st : List AV} {h : Hp} {i : Instr} {len a b c q : Nat} (hc : am_cd m pc = some (i, len, a, b, c, q)) : ev (n + 1) d m pc ls st h = (match am_stp pc i len a b c ls st h with
      | none => none
      | some (.inl (pc2, ls2, st2, h2)) => ev n d m pc2 ls2 st2 h2
      | some (.inr (.inl v)) => some (v, h)
      | some (.inr (.inr (m2, as, r))) => if am_rk m2 as < d ∧ (am_al as).length ≤ am_mx m2 then (match ev n (am_rk m2 as) m2 0 (am_en m2 as) [] h with
        | none => none
        | some (v, h2) => ev n d m (pc + len) ls (v.toList ++ r) h2) else none) := by
  rw [ev, hc]
theorem ev_mono1 : ∀ (n d m pc : Nat) (ls : Lc) (st : List AV) (h : Hp) (r : Option AV × Hp), ev n d m pc ls st h = some r → ev (n + 1) d m pc ls st h = some r := by
  intro n
  induction n with
  | zero => intro d m pc ls st h r hr; simp [ev] at hr
  | succ n ih =>
    intro d m pc ls st h r hr
    cases hc : am_cd m pc with
    | none => rw [ev, hc] at hr; simp at hr
    | some e =>
      obtain ⟨i, len, a, b, c, q⟩ := e
      rw [ev_succ hc] at hr ⊢
      cases hs : am_stp pc i len a b c ls st h with
      | none => rw [hs] at hr; simp at hr
      | some o =>
        rw [hs] at hr
        rcases o with ⟨pc2, ls2, st2, h2⟩ | v | ⟨m2, as, rs⟩
        · exact ih _ _ _ _ _ _ _ hr
        · exact hr
        · dsimp only at hr ⊢
          by_cases hd : am_rk m2 as < d ∧ (am_al as).length ≤ am_mx m2
          · rw [if_pos hd] at hr ⊢
            cases h1 : ev n (am_rk m2 as) m2 0 (am_en m2 as) [] h with
            | none => rw [h1] at hr; simp at hr
            | some v =>
              rw [h1] at hr
              rw [ih _ _ _ _ _ _ _ h1]
              exact ih _ _ _ _ _ _ _ hr
          · rw [if_neg hd] at hr; cases hr
theorem ev_mono {n k d m pc : Nat} {ls : Lc} {st : List AV} {h : Hp} {r : Option AV × Hp} (hn : n ≤ k) (hr : ev n d m pc ls st h = some r) : ev k d m pc ls st h = some r := by
  induction k with
  | zero => rw [show n = 0 by omega] at hr; exact hr
  | succ k ih =>
    by_cases hk : n ≤ k
    · exact ev_mono1 _ _ _ _ _ _ _ _ (ih hk)
    · rw [show n = k + 1 by omega] at hr; exact hr
noncomputable def run (d m pc : Nat) (ls : Lc) (st : List AV) (h : Hp) : Option (Option AV × Hp) :=
  @dite _ (∃ n, (ev n d m pc ls st h).isSome = true) (Classical.propDecidable _) (fun q => ev (Classical.choose q) d m pc ls st h) (fun _ => none)
theorem run_iff {d m pc : Nat} {ls : Lc} {st : List AV} {h : Hp} {r : Option AV × Hp} : run d m pc ls st h = some r ↔ ∃ n, ev n d m pc ls st h = some r := by
  unfold run
  by_cases q : ∃ n, (ev n d m pc ls st h).isSome = true
  · rw [dif_pos q]
    constructor
    · intro e; exact ⟨_, e⟩
    · rintro ⟨n, e⟩
      obtain ⟨v, hv⟩ := Option.isSome_iff_exists.mp (Classical.choose_spec q)
      have e1 := ev_mono (Nat.le_max_left n (Classical.choose q)) e
      have e2 := ev_mono (Nat.le_max_right n (Classical.choose q)) hv
      rw [hv]
      exact e2.symm.trans e1
  · rw [dif_neg q]
    constructor
    · intro e; cases e
    · rintro ⟨n, e⟩
      exact absurd ⟨n, by rw [e]; rfl⟩ q
theorem run_ext {x y : Option (Option AV × Hp)} (h : ∀ r, x = some r ↔ y = some r) : x = y := by
  cases x with
  | none =>
    cases y with
    | none => rfl
    | some v => exact ((h v).mpr rfl)
  | some v => exact ((h v).mp rfl).symm
section RUN
variable {d m pc : Nat} {ls : Lc} {st : List AV} {h : Hp} {i : Instr} {len a b c q : Nat}
theorem run_next {pc2 : Nat} {ls2 : Lc} {st2 : List AV} {h2 : Hp} (hc : am_cd m pc = some (i, len, a, b, c, q)) (hs : am_stp pc i len a b c ls st h = some (.inl (pc2, ls2, st2, h2))) : run d m pc ls st h = run d m pc2 ls2 st2 h2 := by
  refine run_ext fun r => ?_
  rw [run_iff, run_iff]
  constructor
  · rintro ⟨n, e⟩
    cases n with
    | zero => simp [ev] at e
    | succ n => rw [ev_succ hc, hs] at e; exact ⟨n, e⟩
  · rintro ⟨n, e⟩
    exact ⟨n + 1, by rw [ev_succ hc, hs]; exact e⟩
theorem run_fail (hc : am_cd m pc = some (i, len, a, b, c, q)) (hs : am_stp pc i len a b c ls st h = none) : run d m pc ls st h = none := by
  refine run_ext fun r => ?_
  rw [run_iff]
  constructor
  · rintro ⟨n, e⟩
    cases n with
    | zero => simp [ev] at e
    | succ n => rw [ev_succ hc, hs] at e; cases e
  · intro e; cases e
theorem run_ret {v : Option AV} (hc : am_cd m pc = some (i, len, a, b, c, q)) (hs : am_stp pc i len a b c ls st h = some (.inr (.inl v))) : run d m pc ls st h = some (v, h) := by
  rw [run_iff]
  exact ⟨1, by rw [ev_succ hc, hs]⟩
theorem run_call {m2 : Nat} {as r : List AV} (hc : am_cd m pc = some (i, len, a, b, c, q)) (hs : am_stp pc i len a b c ls st h = some (.inr (.inr (m2, as, r)))) (hd : am_rk m2 as < d) (hl : (am_al as).length ≤ am_mx m2) :
    run d m pc ls st h = (run (am_rk m2 as) m2 0 (am_en m2 as) [] h).bind (fun z => run d m (pc + len) ls (z.1.toList ++ r) z.2) := by
  refine run_ext fun y => ?_
  rw [run_iff, Option.bind_eq_some_iff]
  constructor
  · rintro ⟨n, e⟩
    cases n with
    | zero => simp [ev] at e
    | succ n =>
      rw [ev_succ hc, hs] at e
      dsimp only at e
      rw [if_pos ⟨hd, hl⟩] at e
      cases h1 : ev n (am_rk m2 as) m2 0 (am_en m2 as) [] h with
      | none => rw [h1] at e; cases e
      | some v =>
        rw [h1] at e
        exact ⟨v, run_iff.mpr ⟨n, h1⟩, run_iff.mpr ⟨n, e⟩⟩
  · rintro ⟨v, h1, h2⟩
    obtain ⟨n1, e1⟩ := run_iff.mp h1
    obtain ⟨n2, e2⟩ := run_iff.mp h2
    refine ⟨max n1 n2 + 1, ?_⟩
    rw [ev_succ hc, hs]
    dsimp only
    rw [if_pos ⟨hd, hl⟩, ev_mono (Nat.le_max_left n1 n2) e1]
    exact ev_mono (Nat.le_max_right n1 n2) e2
/-- a choice of two ways on -/
theorem run_if {p : Prop} [Decidable p] {x y : Option am_Out} (hc : am_cd m pc = some (i, len, a, b, c, q)) (hs : am_stp pc i len a b c ls st h = if p then x else y) {u v : Option (Option AV × Hp)}
    (hx : am_stp pc i len a b c ls st h = x → run d m pc ls st h = u) (hy : am_stp pc i len a b c ls st h = y → run d m pc ls st h = v) : run d m pc ls st h = if p then u else v := by
  by_cases hp : p
  · rw [if_pos hp]; rw [if_pos hp] at hs; exact hx hs
  · rw [if_neg hp]; rw [if_neg hp] at hs; exact hy hs
end RUN
/-- several plain instructions on end -/
def am_go : Nat → Nat → Nat → Lc → List AV → Hp → Option (Nat × Lc × List AV × Hp)
  | 0, _, pc, ls, st, h => some (pc, ls, st, h)
  | n + 1, m, pc, ls, st, h => match am_cd m pc with
    | some (i, len, a, b, c, _) => match am_stp pc i len a b c ls st h with
      | some (.inl (pc2, ls2, st2, h2)) => am_go n m pc2 ls2 st2 h2
      | _ => none
    | none => none
theorem run_go : ∀ (n : Nat) {d m pc pc2 : Nat} {ls ls2 : Lc} {st st2 : List AV} {h h2 : Hp}, am_go n m pc ls st h = some (pc2, ls2, st2, h2) → run d m pc ls st h = run d m pc2 ls2 st2 h2 := by
  intro n
  induction n with
  | zero =>
    intro d m pc pc2 ls ls2 st st2 h h2 e
    simp only [am_go, Option.some.injEq, Prod.mk.injEq] at e
    obtain ⟨rfl, rfl, rfl, rfl⟩ := e
    rfl
  | succ n ih =>
    intro d m pc pc2 ls ls2 st st2 h h2 e
    rw [am_go] at e
    cases hc : am_cd m pc with
    | none => rw [hc] at e; cases e
    | some x =>
      obtain ⟨i, len, a, b, c, q⟩ := x
      rw [hc] at e
      dsimp only at e
      cases hs : am_stp pc i len a b c ls st h with
      | none => rw [hs] at e; cases e
      | some o =>
        rw [hs] at e
        rcases o with ⟨pc3, ls3, st3, h3⟩ | v | ⟨m2, as, rs⟩
        · rw [run_next hc hs]; exact ih e
        · cases e
        · cases e
end
section
def RX0 : String := "SeenADayLate$Chase"
def TX0 : u_T := fun k => match k with
  | 0 => ("SeenADayLate$Chase", "won", "[I", true)
  | _ => ("SeenADayLate$Chase", "held", "[I", true)
def tyX0 : Nat → FieldType := fun k => match k with
  | 0 => .array .int
  | _ => .array .int
theorem nmX0 : ∀ a, a < 2 → ∀ b, b < 2 → a ≠ b → (TX0 a).2.1 ≠ (TX0 b).2.1 := by decide +kernel
theorem tyX0_ok : ∀ k, k < 2 → parseFieldDescriptor (TX0 k).2.2.1 = some (tyX0 k) := by decide +kernel
def RX1 : String := "SeenADayLate$Dog"
def TX1 : u_T := fun k => match k with
  | 0 => ("SeenADayLate$Walker", "figure", "I", true)
  | _ => ("SeenADayLate$Walker", "plan", "[I", true)
def tyX1 : Nat → FieldType := fun k => match k with
  | 0 => .int
  | _ => .array .int
theorem nmX1 : ∀ a, a < 2 → ∀ b, b < 2 → a ≠ b → (TX1 a).2.1 ≠ (TX1 b).2.1 := by decide +kernel
theorem tyX1_ok : ∀ k, k < 2 → parseFieldDescriptor (TX1 k).2.2.1 = some (tyX1 k) := by decide +kernel
def RX2 : String := "SeenADayLate$Hare"
def TX2 : u_T := fun k => match k with
  | 0 => ("SeenADayLate$Walker", "figure", "I", true)
  | _ => ("SeenADayLate$Walker", "plan", "[I", true)
def tyX2 : Nat → FieldType := fun k => match k with
  | 0 => .int
  | _ => .array .int
theorem nmX2 : ∀ a, a < 2 → ∀ b, b < 2 → a ≠ b → (TX2 a).2.1 ≠ (TX2 b).2.1 := by decide +kernel
theorem tyX2_ok : ∀ k, k < 2 → parseFieldDescriptor (TX2 k).2.2.1 = some (tyX2 k) := by decide +kernel
def RX3 : String := "SeenADayLate$Hunter"
def TX3 : u_T := fun k => match k with
  | 0 => ("SeenADayLate$Walker", "figure", "I", true)
  | _ => ("SeenADayLate$Walker", "plan", "[I", true)
def tyX3 : Nat → FieldType := fun k => match k with
  | 0 => .int
  | _ => .array .int
theorem nmX3 : ∀ a, a < 2 → ∀ b, b < 2 → a ≠ b → (TX3 a).2.1 ≠ (TX3 b).2.1 := by decide +kernel
theorem tyX3_ok : ∀ k, k < 2 → parseFieldDescriptor (TX3 k).2.2.1 = some (tyX3 k) := by decide +kernel
def RX4 : String := "SeenADayLate$Letters"
def TX4 : u_T := fun k => match k with
  | 0 => ("SeenADayLate$Letters", "size", "I", false)
  | 1 => ("SeenADayLate$Letters", "signs", "[I", true)
  | 2 => ("SeenADayLate$Letters", "phase", "I", false)
  | 3 => ("SeenADayLate$Letters", "rowsBefore", "I", false)
  | 4 => ("SeenADayLate$Letters", "width", "I", false)
  | 5 => ("SeenADayLate$Letters", "column", "I", false)
  | _ => ("SeenADayLate$Letters", "planned", "I", false)
def tyX4 : Nat → FieldType := fun k => match k with
  | 0 => .int
  | 1 => .array .int
  | 2 => .int
  | 3 => .int
  | 4 => .int
  | 5 => .int
  | _ => .int
theorem nmX4 : ∀ a, a < 7 → ∀ b, b < 7 → a ≠ b → (TX4 a).2.1 ≠ (TX4 b).2.1 := by decide +kernel
theorem tyX4_ok : ∀ k, k < 7 → parseFieldDescriptor (TX4 k).2.2.1 = some (tyX4 k) := by decide +kernel
def RX5 : String := "SeenADayLate$Moor"
def TX5 : u_T := fun k => match k with
  | 0 => ("SeenADayLate$Moor", "rows", "I", true)
  | 1 => ("SeenADayLate$Moor", "columns", "I", true)
  | 2 => ("SeenADayLate$Moor", "cells", "I", true)
  | 3 => ("SeenADayLate$Moor", "free", "I", true)
  | 4 => ("SeenADayLate$Moor", "rowOf", "[I", true)
  | 5 => ("SeenADayLate$Moor", "columnOf", "[I", true)
  | 6 => ("SeenADayLate$Moor", "next", "[I", true)
  | 7 => ("SeenADayLate$Moor", "around", "[I", true)
  | _ => ("SeenADayLate$Moor", "looks", "[I", true)
def tyX5 : Nat → FieldType := fun k => match k with
  | 0 => .int
  | 1 => .int
  | 2 => .int
  | 3 => .int
  | 4 => .array .int
  | 5 => .array .int
  | 6 => .array .int
  | 7 => .array .int
  | _ => .array .int
theorem nmX5 : ∀ a, a < 9 → ∀ b, b < 9 → a ≠ b → (TX5 a).2.1 ≠ (TX5 b).2.1 := by decide +kernel
theorem tyX5_ok : ∀ k, k < 9 → parseFieldDescriptor (TX5 k).2.2.1 = some (tyX5 k) := by decide +kernel
def RX6 : String := "SeenADayLate$Reckoner"
def TX6 : u_T := fun k => match k with
  | 0 => ("SeenADayLate$Walker", "figure", "I", true)
  | _ => ("SeenADayLate$Walker", "plan", "[I", true)
def tyX6 : Nat → FieldType := fun k => match k with
  | 0 => .int
  | _ => .array .int
theorem nmX6 : ∀ a, a < 2 → ∀ b, b < 2 → a ≠ b → (TX6 a).2.1 ≠ (TX6 b).2.1 := by decide +kernel
theorem tyX6_ok : ∀ k, k < 2 → parseFieldDescriptor (TX6 k).2.2.1 = some (tyX6 k) := by decide +kernel
def RX7 : String := "SeenADayLate$Sights"
def TX7 : u_T := fun k => match k with
  | 0 => ("SeenADayLate$Sights", "size", "I", false)
  | 1 => ("SeenADayLate$Sights", "steps", "[I", true)
  | 2 => ("SeenADayLate$Sights", "cells", "[I", true)
  | 3 => ("SeenADayLate$Sights", "counts", "[I", true)
  | 4 => ("SeenADayLate$Sights", "rest", "[I", true)
  | _ => ("SeenADayLate$Sights", "before", "[I", true)
def tyX7 : Nat → FieldType := fun k => match k with
  | 0 => .int
  | 1 => .array .int
  | 2 => .array .int
  | 3 => .array .int
  | 4 => .array .int
  | _ => .array .int
theorem nmX7 : ∀ a, a < 6 → ∀ b, b < 6 → a ≠ b → (TX7 a).2.1 ≠ (TX7 b).2.1 := by decide +kernel
theorem tyX7_ok : ∀ k, k < 6 → parseFieldDescriptor (TX7 k).2.2.1 = some (tyX7 k) := by decide +kernel
def RX8 : String := "SeenADayLate$Still"
def TX8 : u_T := fun k => match k with
  | 0 => ("SeenADayLate$Walker", "figure", "I", true)
  | _ => ("SeenADayLate$Walker", "plan", "[I", true)
def tyX8 : Nat → FieldType := fun k => match k with
  | 0 => .int
  | _ => .array .int
theorem nmX8 : ∀ a, a < 2 → ∀ b, b < 2 → a ≠ b → (TX8 a).2.1 ≠ (TX8 b).2.1 := by decide +kernel
theorem tyX8_ok : ∀ k, k < 2 → parseFieldDescriptor (TX8 k).2.2.1 = some (tyX8 k) := by decide +kernel
def RX9 : String := "SeenADayLate$Walker"
def TX9 : u_T := fun k => match k with
  | 0 => ("SeenADayLate$Walker", "figure", "I", true)
  | _ => ("SeenADayLate$Walker", "plan", "[I", true)
def tyX9 : Nat → FieldType := fun k => match k with
  | 0 => .int
  | _ => .array .int
theorem nmX9 : ∀ a, a < 2 → ∀ b, b < 2 → a ≠ b → (TX9 a).2.1 ≠ (TX9 b).2.1 := by decide +kernel
theorem tyX9_ok : ∀ k, k < 2 → parseFieldDescriptor (TX9 k).2.2.1 = some (tyX9 k) := by decide +kernel
def RX10 : String := "SeenADayLate$World"
def TX10 : u_T := fun k => match k with
  | 0 => ("SeenADayLate$World", "moor", "LSeenADayLate$Moor;", false)
  | 1 => ("SeenADayLate$World", "lag", "I", false)
  | 2 => ("SeenADayLate$World", "today", "I", false)
  | 3 => ("SeenADayLate$World", "size", "I", false)
  | 4 => ("SeenADayLate$World", "people", "[LSeenADayLate$Walker;", true)
  | _ => ("SeenADayLate$World", "places", "[[I", true)
def tyX10 : Nat → FieldType := fun k => match k with
  | 0 => .object "SeenADayLate$Moor"
  | 1 => .int
  | 2 => .int
  | 3 => .int
  | 4 => .array (.object "SeenADayLate$Walker")
  | _ => .array (.array .int)
theorem nmX10 : ∀ a, a < 6 → ∀ b, b < 6 → a ≠ b → (TX10 a).2.1 ≠ (TX10 b).2.1 := by decide +kernel
theorem tyX10_ok : ∀ k, k < 6 → parseFieldDescriptor (TX10 k).2.2.1 = some (tyX10 k) := by decide +kernel
def RX11 : String := "SeenADayLate"
def TX11 : u_T := fun k => match k with
  | 0 => ("SeenADayLate", "now", "LSeenADayLate$World;", false)
  | 1 => ("SeenADayLate", "spare", "LSeenADayLate$World;", false)
  | 2 => ("SeenADayLate", "kept", "LSeenADayLate$World;", true)
  | 3 => ("SeenADayLate", "hasImage", "Z", false)
  | 4 => ("SeenADayLate", "letters", "LSeenADayLate$Letters;", true)
  | 5 => ("SeenADayLate", "sights", "LSeenADayLate$Sights;", true)
  | 6 => ("SeenADayLate", "chase", "LSeenADayLate$Chase;", true)
  | 7 => ("SeenADayLate", "told", "[I", true)
  | 8 => ("SeenADayLate", "toldSize", "I", false)
  | _ => ("SeenADayLate", "refusals", "[I", true)
def tyX11 : Nat → FieldType := fun k => match k with
  | 0 => .object "SeenADayLate$World"
  | 1 => .object "SeenADayLate$World"
  | 2 => .object "SeenADayLate$World"
  | 3 => .boolean
  | 4 => .object "SeenADayLate$Letters"
  | 5 => .object "SeenADayLate$Sights"
  | 6 => .object "SeenADayLate$Chase"
  | 7 => .array .int
  | 8 => .int
  | _ => .array .int
theorem nmX11 : ∀ a, a < 10 → ∀ b, b < 10 → a ≠ b → (TX11 a).2.1 ≠ (TX11 b).2.1 := by decide +kernel
theorem tyX11_ok : ∀ k, k < 10 → parseFieldDescriptor (TX11 k).2.2.1 = some (tyX11 k) := by decide +kernel
def RX12 : String := "SeenADayLateModel"
def TX12 : u_T := fun k => match k with
  | 0 => ("SeenADayLateModel", "rows", "I", false)
  | 1 => ("SeenADayLateModel", "columns", "I", false)
  | 2 => ("SeenADayLateModel", "hills", "I", false)
  | 3 => ("SeenADayLateModel", "people", "I", false)
  | 4 => ("SeenADayLateModel", "delay", "I", false)
  | 5 => ("SeenADayLateModel", "days", "I", false)
  | 6 => ("SeenADayLateModel", "kinds", "[I", true)
  | 7 => ("SeenADayLateModel", "figures", "[I", true)
  | 8 => ("SeenADayLateModel", "planMany", "[I", true)
  | 9 => ("SeenADayLateModel", "plans", "[I", true)
  | 10 => ("SeenADayLateModel", "came", "[I", true)
  | 11 => ("SeenADayLateModel", "trail", "[I", true)
  | 12 => ("SeenADayLateModel", "thrown", "I", false)
  | 13 => ("SeenADayLateModel", "refusals", "[I", true)
  | 14 => ("SeenADayLateModel", "kept", "[I", true)
  | 15 => ("SeenADayLateModel", "imaged", "[I", true)
  | 16 => ("SeenADayLateModel", "hasImage", "Z", false)
  | 17 => ("SeenADayLateModel", "place", "I", false)
  | 18 => ("SeenADayLateModel", "isTaking", "Z", false)
  | 19 => ("SeenADayLateModel", "keptIn", "[I", false)
  | 20 => ("SeenADayLateModel", "letters", "[I", true)
  | 21 => ("SeenADayLateModel", "letterMany", "I", false)
  | 22 => ("SeenADayLateModel", "at", "I", false)
  | 23 => ("SeenADayLateModel", "isBad", "Z", false)
  | 24 => ("SeenADayLateModel", "statements", "I", false)
  | 25 => ("SeenADayLateModel", "placeOf", "[I", true)
  | 26 => ("SeenADayLateModel", "letterOf", "[I", true)
  | 27 => ("SeenADayLateModel", "first", "[I", true)
  | 28 => ("SeenADayLateModel", "second", "[I", true)
  | 29 => ("SeenADayLateModel", "third", "[I", true)
  | 30 => ("SeenADayLateModel", "stepMany", "[I", true)
  | 31 => ("SeenADayLateModel", "steps", "[I", true)
  | 32 => ("SeenADayLateModel", "wayMany", "[I", true)
  | 33 => ("SeenADayLateModel", "wayBack", "[I", true)
  | 34 => ("SeenADayLateModel", "sightSteps", "[I", true)
  | 35 => ("SeenADayLateModel", "sightCells", "[I", true)
  | 36 => ("SeenADayLateModel", "sightMany", "I", false)
  | 37 => ("SeenADayLateModel", "games", "[I", true)
  | 38 => ("SeenADayLateModel", "looks", "[I", true)
  | 39 => ("SeenADayLateModel", "foundSet", "I", false)
  | 40 => ("SeenADayLateModel", "chosen", "[I", true)
  | 41 => ("SeenADayLateModel", "row", "[I", true)
  | _ => ("SeenADayLateModel", "rowMany", "I", false)
def tyX12 : Nat → FieldType := fun k => match k with
  | 0 => .int
  | 1 => .int
  | 2 => .int
  | 3 => .int
  | 4 => .int
  | 5 => .int
  | 6 => .array .int
  | 7 => .array .int
  | 8 => .array .int
  | 9 => .array .int
  | 10 => .array .int
  | 11 => .array .int
  | 12 => .int
  | 13 => .array .int
  | 14 => .array .int
  | 15 => .array .int
  | 16 => .boolean
  | 17 => .int
  | 18 => .boolean
  | 19 => .array .int
  | 20 => .array .int
  | 21 => .int
  | 22 => .int
  | 23 => .boolean
  | 24 => .int
  | 25 => .array .int
  | 26 => .array .int
  | 27 => .array .int
  | 28 => .array .int
  | 29 => .array .int
  | 30 => .array .int
  | 31 => .array .int
  | 32 => .array .int
  | 33 => .array .int
  | 34 => .array .int
  | 35 => .array .int
  | 36 => .int
  | 37 => .array .int
  | 38 => .array .int
  | 39 => .int
  | 40 => .array .int
  | 41 => .array .int
  | _ => .int
theorem nmX12 : ∀ a, a < 43 → ∀ b, b < 43 → a ≠ b → (TX12 a).2.1 ≠ (TX12 b).2.1 := by decide +kernel
theorem tyX12_ok : ∀ k, k < 43 → parseFieldDescriptor (TX12 k).2.2.1 = some (tyX12 k) := by decide +kernel
def sd_y (m : Nat) : MethodName := if m < 1106 then (if m < 514 then (if m < 409 then (if m < 301 then (if m < 101 then (if m < 3 then (if m < 1 then (⟨"SeenADayLate$Chase", "<init>", "()V"⟩) else (if m < 2 then (⟨"SeenADayLate$Chase", "stepsToCatch", "(LSeenADayLate$Moor;II)I"⟩) else (⟨"SeenADayLate$Chase", "firstStep", "(LSeenADayLate$Moor;II)I"⟩))) else (if m < 4 then (⟨"SeenADayLate$Chase", "letHareStep", "(LSeenADayLate$Moor;)V"⟩) else (if m < 100 then (⟨"SeenADayLate$Chase", "letHunterStep", "(LSeenADayLate$Moor;)Z"⟩) else (⟨"SeenADayLate$Dog", "<init>", "(I[I)V"⟩)))) else (if m < 201 then (if m < 102 then (⟨"SeenADayLate$Dog", "kind", "()I"⟩) else (if m < 200 then (⟨"SeenADayLate$Dog", "aim", "(LSeenADayLate$World;II)I"⟩) else (⟨"SeenADayLate$Hare", "<init>", "(I[I)V"⟩))) else (if m < 202 then (⟨"SeenADayLate$Hare", "kind", "()I"⟩) else (if m < 300 then (⟨"SeenADayLate$Hare", "chooses", "(LSeenADayLate$World;II)I"⟩) else (⟨"SeenADayLate$Hunter", "<init>", "(I[I)V"⟩))))) else (if m < 403 then (if m < 400 then (if m < 302 then (⟨"SeenADayLate$Hunter", "kind", "()I"⟩) else (if m < 303 then (⟨"SeenADayLate$Hunter", "chooses", "(LSeenADayLate$World;II)I"⟩) else (⟨"SeenADayLate$Hunter", "aim", "(LSeenADayLate$World;II)I"⟩))) else (if m < 401 then (⟨"SeenADayLate$Letters", "<init>", "()V"⟩) else (if m < 402 then (⟨"SeenADayLate$Letters", "clear", "()V"⟩) else (⟨"SeenADayLate$Letters", "isFull", "()Z"⟩)))) else (if m < 406 then (if m < 404 then (⟨"SeenADayLate$Letters", "take", "(I)I"⟩) else (if m < 405 then (⟨"SeenADayLate$Letters", "firstBadPlace", "()I"⟩) else (⟨"SeenADayLate$Letters", "goesOn", "(I)Z"⟩))) else (if m < 407 then (⟨"SeenADayLate$Letters", "opens", "(I)Z"⟩) else (if m < 408 then (⟨"SeenADayLate$Letters", "closes", "(I)Z"⟩) else (⟨"SeenADayLate$Letters", "goesOnInRows", "(I)Z"⟩)))))) else (if m < 502 then (if m < 415 then (if m < 412 then (if m < 410 then (⟨"SeenADayLate$Letters", "goesOnInPlan", "(I)Z"⟩) else (if m < 411 then (⟨"SeenADayLate$Letters", "isDigitThen", "(II)Z"⟩) else (⟨"SeenADayLate$Letters", "isDigit", "(I)Z"⟩))) else (if m < 413 then (⟨"SeenADayLate$Letters", "stepOf", "(I)I"⟩) else (if m < 414 then (⟨"SeenADayLate$Letters", "signAt", "(I)I"⟩) else (⟨"SeenADayLate$Letters", "digitAt", "(I)I"⟩)))) else (if m < 418 then (if m < 416 then (⟨"SeenADayLate$Letters", "tellTo", "(LSeenADayLate$World;)I"⟩) else (if m < 417 then (⟨"SeenADayLate$Letters", "tellMoor", "(LSeenADayLate$World;II)V"⟩) else (⟨"SeenADayLate$Letters", "tellPerson", "(LSeenADayLate$World;II)Z"⟩))) else (if m < 500 then (⟨"SeenADayLate$Letters", "tellDelay", "(LSeenADayLate$World;I)Z"⟩) else (if m < 501 then (⟨"SeenADayLate$Moor", "<init>", "(III)V"⟩) else (⟨"SeenADayLate$Moor", "layOutSteps", "(I)V"⟩))))) else (if m < 508 then (if m < 505 then (if m < 503 then (⟨"SeenADayLate$Moor", "neighbour", "(II)I"⟩) else (if m < 504 then (⟨"SeenADayLate$Moor", "isCell", "(I)Z"⟩) else (⟨"SeenADayLate$Moor", "isFree", "(I)Z"⟩))) else (if m < 506 then (⟨"SeenADayLate$Moor", "hillCount", "()I"⟩) else (if m < 507 then (⟨"SeenADayLate$Moor", "leadsTo", "(II)I"⟩) else (⟨"SeenADayLate$Moor", "stepsAround", "(I)I"⟩)))) else (if m < 511 then (if m < 509 then (⟨"SeenADayLate$Moor", "distance", "(II)I"⟩) else (if m < 510 then (⟨"SeenADayLate$Moor", "goingOn", "(III)I"⟩) else (⟨"SeenADayLate$Moor", "spread", "(II)I"⟩))) else (if m < 512 then (⟨"SeenADayLate$Moor", "drawnStep", "(II)I"⟩) else (if m < 513 then (⟨"SeenADayLate$Moor", "fewestWatchers", "(I)I"⟩) else (⟨"SeenADayLate$Moor", "lookedAt", "(II)I"⟩))))))) else (if m < 903 then (if m < 707 then (if m < 701 then (if m < 601 then (if m < 515 then (⟨"SeenADayLate$Moor", "watchersFor", "(LSeenADayLate$Moor;III)I"⟩) else (if m < 600 then (⟨"SeenADayLate$Moor", "lastWatcher", "(II)I"⟩) else (⟨"SeenADayLate$Reckoner", "<init>", "(I[I)V"⟩))) else (if m < 602 then (⟨"SeenADayLate$Reckoner", "kind", "()I"⟩) else (if m < 700 then (⟨"SeenADayLate$Reckoner", "aim", "(LSeenADayLate$World;II)I"⟩) else (⟨"SeenADayLate$Sights", "<init>", "()V"⟩)))) else (if m < 704 then (if m < 702 then (⟨"SeenADayLate$Sights", "isFull", "()Z"⟩) else (if m < 703 then (⟨"SeenADayLate$Sights", "add", "(II)I"⟩) else (⟨"SeenADayLate$Sights", "clear", "()I"⟩))) else (if m < 705 then (⟨"SeenADayLate$Sights", "latest", "()I"⟩) else (if m < 706 then (⟨"SeenADayLate$Sights", "walks", "(LSeenADayLate$Moor;III)I"⟩) else (⟨"SeenADayLate$Sights", "fittingWalks", "(LSeenADayLate$Moor;I)I"⟩))))) else (if m < 800 then (if m < 710 then (if m < 708 then (⟨"SeenADayLate$Sights", "likeliestCell", "(LSeenADayLate$Moor;II)I"⟩) else (if m < 709 then (⟨"SeenADayLate$Sights", "startFrom", "(LSeenADayLate$Moor;I)V"⟩) else (⟨"SeenADayLate$Sights", "countUpTo", "(LSeenADayLate$Moor;II)V"⟩))) else (if m < 711 then (⟨"SeenADayLate$Sights", "countBackTo", "(LSeenADayLate$Moor;I)V"⟩) else (if m < 712 then (⟨"SeenADayLate$Sights", "addStep", "(LSeenADayLate$Moor;[I)V"⟩) else (⟨"SeenADayLate$Sights", "strikeOut", "([II)V"⟩)))) else (if m < 900 then (if m < 801 then (⟨"SeenADayLate$Still", "<init>", "(I[I)V"⟩) else (if m < 802 then (⟨"SeenADayLate$Still", "kind", "()I"⟩) else (⟨"SeenADayLate$Still", "chooses", "(LSeenADayLate$World;II)I"⟩))) else (if m < 901 then (⟨"SeenADayLate$Walker", "<init>", "(I[I)V"⟩) else (if m < 902 then (⟨"SeenADayLate$Walker", "ofKind", "(II[I)LSeenADayLate$Walker;"⟩) else (⟨"SeenADayLate$Walker", "kind", "()I"⟩)))))) else (if m < 1010 then (if m < 1004 then (if m < 1001 then (if m < 904 then (⟨"SeenADayLate$Walker", "chooses", "(LSeenADayLate$World;II)I"⟩) else (if m < 1000 then (⟨"SeenADayLate$Walker", "byPlan", "(LSeenADayLate$World;II)I"⟩) else (⟨"SeenADayLate$World", "<init>", "(LSeenADayLate$Moor;)V"⟩))) else (if m < 1002 then (⟨"SeenADayLate$World", "become", "(LSeenADayLate$World;)V"⟩) else (if m < 1003 then (⟨"SeenADayLate$World", "settleOn", "(LSeenADayLate$Moor;)V"⟩) else (⟨"SeenADayLate$World", "receive", "(LSeenADayLate$Walker;I)Z"⟩)))) else (if m < 1007 then (if m < 1005 then (⟨"SeenADayLate$World", "personAt", "(I)LSeenADayLate$Walker;"⟩) else (if m < 1006 then (⟨"SeenADayLate$World", "tellOf", "(II)I"⟩) else (⟨"SeenADayLate$World", "placeOf", "(II)I"⟩))) else (if m < 1008 then (⟨"SeenADayLate$World", "sightOf", "(II)I"⟩) else (if m < 1009 then (⟨"SeenADayLate$World", "leastDistance", "(III)I"⟩) else (⟨"SeenADayLate$World", "liveOneDay", "()I"⟩))))) else (if m < 1016 then (if m < 1013 then (if m < 1011 then (⟨"SeenADayLate$World", "foresee", "(I)V"⟩) else (if m < 1012 then (⟨"SeenADayLate$World", "allStep", "(I)V"⟩) else (⟨"SeenADayLate$World", "firstMeeting", "(II)I"⟩))) else (if m < 1014 then (⟨"SeenADayLate$World", "firstPassing", "(II)I"⟩) else (if m < 1015 then (⟨"SeenADayLate$World", "placesOf", "(II)I"⟩) else (⟨"SeenADayLate$World", "howManyIn", "(II)I"⟩)))) else (if m < 1102 then (if m < 1100 then (⟨"SeenADayLate$World", "fullestCell", "(I)I"⟩) else (if m < 1101 then (⟨"SeenADayLate", "<init>", "()V"⟩) else (⟨"SeenADayLate", "feed", "(I)I"⟩))) else (if m < 1104 then (if m < 1103 then (⟨"SeenADayLate", "moor", "()I"⟩) else (⟨"SeenADayLate", "person", "(II)I"⟩)) else (if m < 1105 then (⟨"SeenADayLate", "delay", "(I)I"⟩) else (⟨"SeenADayLate", "day", "()I"⟩)))))))) else (if m < 1221 then (if m < 1130 then (if m < 1118 then (if m < 1112 then (if m < 1109 then (if m < 1107 then (⟨"SeenADayLate", "was", "(II)I"⟩) else (if m < 1108 then (⟨"SeenADayLate", "sees", "(II)I"⟩) else (⟨"SeenADayLate", "behind", "(II)I"⟩))) else (if m < 1110 then (⟨"SeenADayLate", "meet", "(III)I"⟩) else (if m < 1111 then (⟨"SeenADayLate", "never", "(II)I"⟩) else (⟨"SeenADayLate", "crowd", "(II)I"⟩)))) else (if m < 1115 then (if m < 1113 then (⟨"SeenADayLate", "reach", "(II)I"⟩) else (if m < 1114 then (⟨"SeenADayLate", "can", "(II)I"⟩) else (⟨"SeenADayLate", "ways", "(III)I"⟩))) else (if m < 1116 then (⟨"SeenADayLate", "sight", "(II)I"⟩) else (if m < 1117 then (⟨"SeenADayLate", "fits", "(I)I"⟩) else (⟨"SeenADayLate", "guess", "(II)I"⟩))))) else (if m < 1124 then (if m < 1121 then (if m < 1119 then (⟨"SeenADayLate", "forget", "()I"⟩) else (if m < 1120 then (⟨"SeenADayLate", "game", "(III)I"⟩) else (⟨"SeenADayLate", "watchers", "(II)I"⟩))) else (if m < 1122 then (⟨"SeenADayLate", "row", "(I)I"⟩) else (if m < 1123 then (⟨"SeenADayLate", "judge", "(I)I"⟩) else (⟨"SeenADayLate", "seeds", "(IIII)I"⟩)))) else (if m < 1127 then (if m < 1125 then (⟨"SeenADayLate", "image", "()I"⟩) else (if m < 1126 then (⟨"SeenADayLate", "restore", "()I"⟩) else (⟨"SeenADayLate", "count", "(I)I"⟩))) else (if m < 1128 then (⟨"SeenADayLate", "refusalsOf", "(I)I"⟩) else (if m < 1129 then (⟨"SeenADayLate", "refuse", "(I)I"⟩) else (⟨"SeenADayLate", "outside", "(III)I"⟩)))))) else (if m < 1208 then (if m < 1202 then (if m < 1133 then (if m < 1131 then (⟨"SeenADayLate", "notAsked", "(II)I"⟩) else (if m < 1132 then (⟨"SeenADayLate", "notHere", "(I)I"⟩) else (⟨"SeenADayLate", "notTwo", "(II)I"⟩))) else (if m < 1200 then (⟨"SeenADayLate", "notFree", "(I)I"⟩) else (if m < 1201 then (⟨"SeenADayLateModel", "<init>", "()V"⟩) else (⟨"SeenADayLateModel", "in", "(JJJ)Z"⟩)))) else (if m < 1205 then (if m < 1203 then (⟨"SeenADayLateModel", "refuse", "(I)I"⟩) else (if m < 1204 then (⟨"SeenADayLateModel", "isFree", "(I)Z"⟩) else (⟨"SeenADayLateModel", "isPerson", "(I)Z"⟩))) else (if m < 1206 then (⟨"SeenADayLateModel", "areTwo", "(II)Z"⟩) else (if m < 1207 then (⟨"SeenADayLateModel", "stepFrom", "(II)I"⟩) else (⟨"SeenADayLateModel", "apart", "(II)I"⟩))))) else (if m < 1214 then (if m < 1211 then (if m < 1209 then (⟨"SeenADayLateModel", "wayBetween", "(II)I"⟩) else (if m < 1210 then (⟨"SeenADayLateModel", "wasOn", "(II)I"⟩) else (⟨"SeenADayLateModel", "cellOf", "(I)I"⟩))) else (if m < 1212 then (⟨"SeenADayLateModel", "walks", "(I)I"⟩) else (if m < 1213 then (⟨"SeenADayLateModel", "hunts", "(II)I"⟩) else (⟨"SeenADayLateModel", "flees", "(I)I"⟩)))) else (if m < 1217 then (if m < 1215 then (⟨"SeenADayLateModel", "held", "(II)I"⟩) else (if m < 1216 then (⟨"SeenADayLateModel", "reckoned", "(I)I"⟩) else (⟨"SeenADayLateModel", "stepOf", "(I)I"⟩))) else (if m < 1219 then (if m < 1218 then (⟨"SeenADayLateModel", "dayOn", "()I"⟩) else (⟨"SeenADayLateModel", "daysOn", "(I)V"⟩)) else (if m < 1220 then (⟨"SeenADayLateModel", "carry", "(I)I"⟩) else (⟨"SeenADayLateModel", "carryAll", "([IZ)V"⟩))))))) else (if m < 1245 then (if m < 1233 then (if m < 1227 then (if m < 1224 then (if m < 1222 then (⟨"SeenADayLateModel", "image", "()I"⟩) else (if m < 1223 then (⟨"SeenADayLateModel", "restore", "()I"⟩) else (⟨"SeenADayLateModel", "feed", "(I)I"⟩))) else (if m < 1225 then (⟨"SeenADayLateModel", "here", "()I"⟩) else (if m < 1226 then (⟨"SeenADayLateModel", "readDigit", "()I"⟩) else (⟨"SeenADayLateModel", "stepOfLetter", "(I)I"⟩)))) else (if m < 1230 then (if m < 1228 then (⟨"SeenADayLateModel", "isGround", "()Z"⟩) else (if m < 1229 then (⟨"SeenADayLateModel", "readMoor", "(I)V"⟩) else (⟨"SeenADayLateModel", "readPerson", "(I)V"⟩))) else (if m < 1231 then (⟨"SeenADayLateModel", "readStatement", "()V"⟩) else (if m < 1232 then (⟨"SeenADayLateModel", "moorComes", "(I)Z"⟩) else (⟨"SeenADayLateModel", "comes", "(I)Z"⟩))))) else (if m < 1239 then (if m < 1236 then (if m < 1234 then (⟨"SeenADayLateModel", "moor", "()I"⟩) else (if m < 1235 then (⟨"SeenADayLateModel", "person", "(II)I"⟩) else (⟨"SeenADayLateModel", "delay", "(I)I"⟩))) else (if m < 1237 then (⟨"SeenADayLateModel", "day", "()I"⟩) else (if m < 1238 then (⟨"SeenADayLateModel", "was", "(II)I"⟩) else (⟨"SeenADayLateModel", "sees", "(II)I"⟩)))) else (if m < 1242 then (if m < 1240 then (⟨"SeenADayLateModel", "wrongDays", "(III)I"⟩) else (if m < 1241 then (⟨"SeenADayLateModel", "behind", "(II)I"⟩) else (⟨"SeenADayLateModel", "meet", "(III)I"⟩))) else (if m < 1243 then (⟨"SeenADayLateModel", "freeBits", "()I"⟩) else (if m < 1244 then (⟨"SeenADayLateModel", "never", "(II)I"⟩) else (⟨"SeenADayLateModel", "crowd", "(II)I"⟩)))))) else (if m < 1257 then (if m < 1251 then (if m < 1248 then (if m < 1246 then (⟨"SeenADayLateModel", "reachIn", "(II)I"⟩) else (if m < 1247 then (⟨"SeenADayLateModel", "reach", "(II)I"⟩) else (⟨"SeenADayLateModel", "can", "(II)I"⟩))) else (if m < 1249 then (⟨"SeenADayLateModel", "isSeen", "(IIZ)Z"⟩) else (if m < 1250 then (⟨"SeenADayLateModel", "countWays", "(IIZ)V"⟩) else (⟨"SeenADayLateModel", "countBack", "(I)V"⟩)))) else (if m < 1254 then (if m < 1252 then (⟨"SeenADayLateModel", "ways", "(III)I"⟩) else (if m < 1253 then (⟨"SeenADayLateModel", "sight", "(II)I"⟩) else (⟨"SeenADayLateModel", "latest", "()I"⟩))) else (if m < 1255 then (⟨"SeenADayLateModel", "fits", "(I)I"⟩) else (if m < 1256 then (⟨"SeenADayLateModel", "guess", "(II)I"⟩) else (⟨"SeenADayLateModel", "forget", "()I"⟩))))) else (if m < 1263 then (if m < 1260 then (if m < 1258 then (⟨"SeenADayLateModel", "worst", "(II)I"⟩) else (if m < 1259 then (⟨"SeenADayLateModel", "solve", "()V"⟩) else (⟨"SeenADayLateModel", "game", "(III)I"⟩))) else (if m < 1261 then (⟨"SeenADayLateModel", "lookAll", "(I)V"⟩) else (if m < 1262 then (⟨"SeenADayLateModel", "findSet", "(I)Z"⟩) else (⟨"SeenADayLateModel", "watchers", "(II)I"⟩)))) else (if m < 1266 then (if m < 1264 then (⟨"SeenADayLateModel", "row", "(I)I"⟩) else (if m < 1265 then (⟨"SeenADayLateModel", "judge", "(I)I"⟩) else (⟨"SeenADayLateModel", "seeds", "(IIII)I"⟩))) else (if m < 1300 then (if m < 1267 then (⟨"SeenADayLateModel", "ones", "(I)I"⟩) else (⟨"SeenADayLateModel", "count", "(I)I"⟩)) else (if m < 1400 then (⟨"java/lang/Integer", "bitCount", "(I)I"⟩) else (⟨"java/util/Arrays", "fill", "([II)V"⟩))))))))
def sd_b (m : Nat) : ByteArray := if m < 1106 then (if m < 514 then (if m < 409 then (if m < 301 then (if m < 101 then (if m < 3 then (if m < 1 then (prog_2_method_1_code) else (if m < 2 then (prog_2_method_2_code) else (prog_2_method_3_code))) else (if m < 4 then (prog_2_method_4_code) else (if m < 100 then (prog_2_method_5_code) else (prog_3_method_1_code)))) else (if m < 201 then (if m < 102 then (prog_3_method_2_code) else (if m < 200 then (prog_3_method_3_code) else (prog_4_method_1_code))) else (if m < 202 then (prog_4_method_2_code) else (if m < 300 then (prog_4_method_3_code) else (prog_5_method_1_code))))) else (if m < 403 then (if m < 400 then (if m < 302 then (prog_5_method_2_code) else (if m < 303 then (prog_5_method_3_code) else (prog_5_method_4_code))) else (if m < 401 then (prog_6_method_1_code) else (if m < 402 then (prog_6_method_2_code) else (prog_6_method_3_code)))) else (if m < 406 then (if m < 404 then (prog_6_method_4_code) else (if m < 405 then (prog_6_method_5_code) else (prog_6_method_6_code))) else (if m < 407 then (prog_6_method_7_code) else (if m < 408 then (prog_6_method_8_code) else (prog_6_method_9_code)))))) else (if m < 502 then (if m < 415 then (if m < 412 then (if m < 410 then (prog_6_method_10_code) else (if m < 411 then (prog_6_method_11_code) else (prog_6_method_12_code))) else (if m < 413 then (prog_6_method_13_code) else (if m < 414 then (prog_6_method_14_code) else (prog_6_method_15_code)))) else (if m < 418 then (if m < 416 then (prog_6_method_16_code) else (if m < 417 then (prog_6_method_17_code) else (prog_6_method_18_code))) else (if m < 500 then (prog_6_method_19_code) else (if m < 501 then (prog_7_method_1_code) else (prog_7_method_2_code))))) else (if m < 508 then (if m < 505 then (if m < 503 then (prog_7_method_3_code) else (if m < 504 then (prog_7_method_4_code) else (prog_7_method_5_code))) else (if m < 506 then (prog_7_method_6_code) else (if m < 507 then (prog_7_method_7_code) else (prog_7_method_8_code)))) else (if m < 511 then (if m < 509 then (prog_7_method_9_code) else (if m < 510 then (prog_7_method_10_code) else (prog_7_method_11_code))) else (if m < 512 then (prog_7_method_12_code) else (if m < 513 then (prog_7_method_13_code) else (prog_7_method_14_code))))))) else (if m < 903 then (if m < 707 then (if m < 701 then (if m < 601 then (if m < 515 then (prog_7_method_15_code) else (if m < 600 then (prog_7_method_16_code) else (prog_8_method_1_code))) else (if m < 602 then (prog_8_method_2_code) else (if m < 700 then (prog_8_method_3_code) else (prog_9_method_1_code)))) else (if m < 704 then (if m < 702 then (prog_9_method_2_code) else (if m < 703 then (prog_9_method_3_code) else (prog_9_method_4_code))) else (if m < 705 then (prog_9_method_5_code) else (if m < 706 then (prog_9_method_6_code) else (prog_9_method_7_code))))) else (if m < 800 then (if m < 710 then (if m < 708 then (prog_9_method_8_code) else (if m < 709 then (prog_9_method_9_code) else (prog_9_method_10_code))) else (if m < 711 then (prog_9_method_11_code) else (if m < 712 then (prog_9_method_12_code) else (prog_9_method_13_code)))) else (if m < 900 then (if m < 801 then (prog_10_method_1_code) else (if m < 802 then (prog_10_method_2_code) else (prog_10_method_3_code))) else (if m < 901 then (prog_11_method_1_code) else (if m < 902 then (prog_11_method_2_code) else (prog_11_method_3_code)))))) else (if m < 1010 then (if m < 1004 then (if m < 1001 then (if m < 904 then (prog_11_method_4_code) else (if m < 1000 then (prog_11_method_5_code) else (prog_12_method_1_code))) else (if m < 1002 then (prog_12_method_2_code) else (if m < 1003 then (prog_12_method_3_code) else (prog_12_method_4_code)))) else (if m < 1007 then (if m < 1005 then (prog_12_method_5_code) else (if m < 1006 then (prog_12_method_6_code) else (prog_12_method_7_code))) else (if m < 1008 then (prog_12_method_8_code) else (if m < 1009 then (prog_12_method_9_code) else (prog_12_method_10_code))))) else (if m < 1016 then (if m < 1013 then (if m < 1011 then (prog_12_method_11_code) else (if m < 1012 then (prog_12_method_12_code) else (prog_12_method_13_code))) else (if m < 1014 then (prog_12_method_14_code) else (if m < 1015 then (prog_12_method_15_code) else (prog_12_method_16_code)))) else (if m < 1102 then (if m < 1100 then (prog_12_method_17_code) else (if m < 1101 then (prog_1_method_1_code) else (prog_1_method_2_code))) else (if m < 1104 then (if m < 1103 then (prog_1_method_3_code) else (prog_1_method_4_code)) else (if m < 1105 then (prog_1_method_5_code) else (prog_1_method_6_code)))))))) else (if m < 1221 then (if m < 1130 then (if m < 1118 then (if m < 1112 then (if m < 1109 then (if m < 1107 then (prog_1_method_7_code) else (if m < 1108 then (prog_1_method_8_code) else (prog_1_method_9_code))) else (if m < 1110 then (prog_1_method_10_code) else (if m < 1111 then (prog_1_method_11_code) else (prog_1_method_12_code)))) else (if m < 1115 then (if m < 1113 then (prog_1_method_13_code) else (if m < 1114 then (prog_1_method_14_code) else (prog_1_method_15_code))) else (if m < 1116 then (prog_1_method_16_code) else (if m < 1117 then (prog_1_method_17_code) else (prog_1_method_18_code))))) else (if m < 1124 then (if m < 1121 then (if m < 1119 then (prog_1_method_19_code) else (if m < 1120 then (prog_1_method_20_code) else (prog_1_method_21_code))) else (if m < 1122 then (prog_1_method_22_code) else (if m < 1123 then (prog_1_method_23_code) else (prog_1_method_24_code)))) else (if m < 1127 then (if m < 1125 then (prog_1_method_25_code) else (if m < 1126 then (prog_1_method_26_code) else (prog_1_method_27_code))) else (if m < 1128 then (prog_1_method_28_code) else (if m < 1129 then (prog_1_method_29_code) else (prog_1_method_30_code)))))) else (if m < 1208 then (if m < 1202 then (if m < 1133 then (if m < 1131 then (prog_1_method_31_code) else (if m < 1132 then (prog_1_method_32_code) else (prog_1_method_33_code))) else (if m < 1200 then (prog_1_method_34_code) else (if m < 1201 then (prog_14_method_1_code) else (prog_14_method_3_code)))) else (if m < 1205 then (if m < 1203 then (prog_14_method_4_code) else (if m < 1204 then (prog_14_method_5_code) else (prog_14_method_6_code))) else (if m < 1206 then (prog_14_method_7_code) else (if m < 1207 then (prog_14_method_8_code) else (prog_14_method_9_code))))) else (if m < 1214 then (if m < 1211 then (if m < 1209 then (prog_14_method_10_code) else (if m < 1210 then (prog_14_method_11_code) else (prog_14_method_12_code))) else (if m < 1212 then (prog_14_method_13_code) else (if m < 1213 then (prog_14_method_14_code) else (prog_14_method_15_code)))) else (if m < 1217 then (if m < 1215 then (prog_14_method_16_code) else (if m < 1216 then (prog_14_method_17_code) else (prog_14_method_18_code))) else (if m < 1219 then (if m < 1218 then (prog_14_method_19_code) else (prog_14_method_20_code)) else (if m < 1220 then (prog_14_method_21_code) else (prog_14_method_22_code))))))) else (if m < 1245 then (if m < 1233 then (if m < 1227 then (if m < 1224 then (if m < 1222 then (prog_14_method_23_code) else (if m < 1223 then (prog_14_method_24_code) else (prog_14_method_25_code))) else (if m < 1225 then (prog_14_method_26_code) else (if m < 1226 then (prog_14_method_27_code) else (prog_14_method_28_code)))) else (if m < 1230 then (if m < 1228 then (prog_14_method_29_code) else (if m < 1229 then (prog_14_method_30_code) else (prog_14_method_31_code))) else (if m < 1231 then (prog_14_method_32_code) else (if m < 1232 then (prog_14_method_33_code) else (prog_14_method_34_code))))) else (if m < 1239 then (if m < 1236 then (if m < 1234 then (prog_14_method_35_code) else (if m < 1235 then (prog_14_method_36_code) else (prog_14_method_37_code))) else (if m < 1237 then (prog_14_method_38_code) else (if m < 1238 then (prog_14_method_39_code) else (prog_14_method_40_code)))) else (if m < 1242 then (if m < 1240 then (prog_14_method_41_code) else (if m < 1241 then (prog_14_method_42_code) else (prog_14_method_43_code))) else (if m < 1243 then (prog_14_method_44_code) else (if m < 1244 then (prog_14_method_45_code) else (prog_14_method_46_code)))))) else (if m < 1257 then (if m < 1251 then (if m < 1248 then (if m < 1246 then (prog_14_method_47_code) else (if m < 1247 then (prog_14_method_48_code) else (prog_14_method_49_code))) else (if m < 1249 then (prog_14_method_50_code) else (if m < 1250 then (prog_14_method_51_code) else (prog_14_method_52_code)))) else (if m < 1254 then (if m < 1252 then (prog_14_method_53_code) else (if m < 1253 then (prog_14_method_54_code) else (prog_14_method_55_code))) else (if m < 1255 then (prog_14_method_56_code) else (if m < 1256 then (prog_14_method_57_code) else (prog_14_method_58_code))))) else (if m < 1263 then (if m < 1260 then (if m < 1258 then (prog_14_method_59_code) else (if m < 1259 then (prog_14_method_60_code) else (prog_14_method_61_code))) else (if m < 1261 then (prog_14_method_62_code) else (if m < 1262 then (prog_14_method_63_code) else (prog_14_method_64_code)))) else (if m < 1266 then (if m < 1264 then (prog_14_method_65_code) else (if m < 1265 then (prog_14_method_66_code) else (prog_14_method_67_code))) else (if m < 1300 then (if m < 1267 then (prog_14_method_68_code) else (prog_14_method_69_code)) else (if m < 1400 then (prog_16_method_49_code) else (prog_22_method_103_code))))))))
def sd_rt (m : Nat) : Option FieldType := if m < 1106 then (if m < 514 then (if m < 409 then (if m < 301 then (if m < 101 then (if m < 3 then (if m < 1 then (none) else (if m < 2 then ((some .int)) else ((some .int)))) else (if m < 4 then (none) else (if m < 100 then ((some .boolean)) else (none)))) else (if m < 201 then (if m < 102 then ((some .int)) else (if m < 200 then ((some .int)) else (none))) else (if m < 202 then ((some .int)) else (if m < 300 then ((some .int)) else (none))))) else (if m < 403 then (if m < 400 then (if m < 302 then ((some .int)) else (if m < 303 then ((some .int)) else ((some .int)))) else (if m < 401 then (none) else (if m < 402 then (none) else ((some .boolean))))) else (if m < 406 then (if m < 404 then ((some .int)) else (if m < 405 then ((some .int)) else ((some .boolean)))) else (if m < 407 then ((some .boolean)) else (if m < 408 then ((some .boolean)) else ((some .boolean))))))) else (if m < 502 then (if m < 415 then (if m < 412 then (if m < 410 then ((some .boolean)) else (if m < 411 then ((some .boolean)) else ((some .boolean)))) else (if m < 413 then ((some .int)) else (if m < 414 then ((some .int)) else ((some .int))))) else (if m < 418 then (if m < 416 then ((some .int)) else (if m < 417 then (none) else ((some .boolean)))) else (if m < 500 then ((some .boolean)) else (if m < 501 then (none) else (none))))) else (if m < 508 then (if m < 505 then (if m < 503 then ((some .int)) else (if m < 504 then ((some .boolean)) else ((some .boolean)))) else (if m < 506 then ((some .int)) else (if m < 507 then ((some .int)) else ((some .int))))) else (if m < 511 then (if m < 509 then ((some .int)) else (if m < 510 then ((some .int)) else ((some .int)))) else (if m < 512 then ((some .int)) else (if m < 513 then ((some .int)) else ((some .int)))))))) else (if m < 903 then (if m < 707 then (if m < 701 then (if m < 601 then (if m < 515 then ((some .int)) else (if m < 600 then ((some .int)) else (none))) else (if m < 602 then ((some .int)) else (if m < 700 then ((some .int)) else (none)))) else (if m < 704 then (if m < 702 then ((some .boolean)) else (if m < 703 then ((some .int)) else ((some .int)))) else (if m < 705 then ((some .int)) else (if m < 706 then ((some .int)) else ((some .int)))))) else (if m < 800 then (if m < 710 then (if m < 708 then ((some .int)) else (if m < 709 then (none) else (none))) else (if m < 711 then (none) else (if m < 712 then (none) else (none)))) else (if m < 900 then (if m < 801 then (none) else (if m < 802 then ((some .int)) else ((some .int)))) else (if m < 901 then (none) else (if m < 902 then ((some (.object "SeenADayLate$Walker"))) else ((some .int))))))) else (if m < 1010 then (if m < 1004 then (if m < 1001 then (if m < 904 then ((some .int)) else (if m < 1000 then ((some .int)) else (none))) else (if m < 1002 then (none) else (if m < 1003 then (none) else ((some .boolean))))) else (if m < 1007 then (if m < 1005 then ((some (.object "SeenADayLate$Walker"))) else (if m < 1006 then ((some .int)) else ((some .int)))) else (if m < 1008 then ((some .int)) else (if m < 1009 then ((some .int)) else ((some .int)))))) else (if m < 1016 then (if m < 1013 then (if m < 1011 then (none) else (if m < 1012 then (none) else ((some .int)))) else (if m < 1014 then ((some .int)) else (if m < 1015 then ((some .int)) else ((some .int))))) else (if m < 1102 then (if m < 1100 then ((some .int)) else (if m < 1101 then (none) else ((some .int)))) else (if m < 1104 then (if m < 1103 then ((some .int)) else ((some .int))) else (if m < 1105 then ((some .int)) else ((some .int))))))))) else (if m < 1221 then (if m < 1130 then (if m < 1118 then (if m < 1112 then (if m < 1109 then (if m < 1107 then ((some .int)) else (if m < 1108 then ((some .int)) else ((some .int)))) else (if m < 1110 then ((some .int)) else (if m < 1111 then ((some .int)) else ((some .int))))) else (if m < 1115 then (if m < 1113 then ((some .int)) else (if m < 1114 then ((some .int)) else ((some .int)))) else (if m < 1116 then ((some .int)) else (if m < 1117 then ((some .int)) else ((some .int)))))) else (if m < 1124 then (if m < 1121 then (if m < 1119 then ((some .int)) else (if m < 1120 then ((some .int)) else ((some .int)))) else (if m < 1122 then ((some .int)) else (if m < 1123 then ((some .int)) else ((some .int))))) else (if m < 1127 then (if m < 1125 then ((some .int)) else (if m < 1126 then ((some .int)) else ((some .int)))) else (if m < 1128 then ((some .int)) else (if m < 1129 then ((some .int)) else ((some .int))))))) else (if m < 1208 then (if m < 1202 then (if m < 1133 then (if m < 1131 then ((some .int)) else (if m < 1132 then ((some .int)) else ((some .int)))) else (if m < 1200 then ((some .int)) else (if m < 1201 then (none) else ((some .boolean))))) else (if m < 1205 then (if m < 1203 then ((some .int)) else (if m < 1204 then ((some .boolean)) else ((some .boolean)))) else (if m < 1206 then ((some .boolean)) else (if m < 1207 then ((some .int)) else ((some .int)))))) else (if m < 1214 then (if m < 1211 then (if m < 1209 then ((some .int)) else (if m < 1210 then ((some .int)) else ((some .int)))) else (if m < 1212 then ((some .int)) else (if m < 1213 then ((some .int)) else ((some .int))))) else (if m < 1217 then (if m < 1215 then ((some .int)) else (if m < 1216 then ((some .int)) else ((some .int)))) else (if m < 1219 then (if m < 1218 then ((some .int)) else (none)) else (if m < 1220 then ((some .int)) else (none))))))) else (if m < 1245 then (if m < 1233 then (if m < 1227 then (if m < 1224 then (if m < 1222 then ((some .int)) else (if m < 1223 then ((some .int)) else ((some .int)))) else (if m < 1225 then ((some .int)) else (if m < 1226 then ((some .int)) else ((some .int))))) else (if m < 1230 then (if m < 1228 then ((some .boolean)) else (if m < 1229 then (none) else (none))) else (if m < 1231 then (none) else (if m < 1232 then ((some .boolean)) else ((some .boolean)))))) else (if m < 1239 then (if m < 1236 then (if m < 1234 then ((some .int)) else (if m < 1235 then ((some .int)) else ((some .int)))) else (if m < 1237 then ((some .int)) else (if m < 1238 then ((some .int)) else ((some .int))))) else (if m < 1242 then (if m < 1240 then ((some .int)) else (if m < 1241 then ((some .int)) else ((some .int)))) else (if m < 1243 then ((some .int)) else (if m < 1244 then ((some .int)) else ((some .int))))))) else (if m < 1257 then (if m < 1251 then (if m < 1248 then (if m < 1246 then ((some .int)) else (if m < 1247 then ((some .int)) else ((some .int)))) else (if m < 1249 then ((some .boolean)) else (if m < 1250 then (none) else (none)))) else (if m < 1254 then (if m < 1252 then ((some .int)) else (if m < 1253 then ((some .int)) else ((some .int)))) else (if m < 1255 then ((some .int)) else (if m < 1256 then ((some .int)) else ((some .int)))))) else (if m < 1263 then (if m < 1260 then (if m < 1258 then ((some .int)) else (if m < 1259 then (none) else ((some .int)))) else (if m < 1261 then (none) else (if m < 1262 then ((some .boolean)) else ((some .int))))) else (if m < 1266 then (if m < 1264 then ((some .int)) else (if m < 1265 then ((some .int)) else ((some .int)))) else (if m < 1300 then (if m < 1267 then ((some .int)) else ((some .int))) else (if m < 1400 then ((some .int)) else (none))))))))
def sd_ids : List Nat := [0, 1, 2, 3, 4, 100, 101, 102, 200, 201, 202, 300, 301, 302, 303, 400, 401, 402, 403, 404, 405, 406, 407, 408, 409, 410, 411, 412, 413, 414, 415, 416, 417, 418, 500, 501, 502, 503, 504, 505, 506, 507, 508, 509, 510, 511, 512, 513, 514, 515, 600, 601, 602, 700, 701, 702, 703, 704, 705, 706, 707, 708, 709, 710, 711, 712, 800, 801, 802, 900, 901, 902, 903, 904, 1000, 1001, 1002, 1003, 1004, 1005, 1006, 1007, 1008, 1009, 1010, 1011, 1012, 1013, 1014, 1015, 1016, 1100, 1101, 1102, 1103, 1104, 1105, 1106, 1107, 1108, 1109, 1110, 1111, 1112, 1113, 1114, 1115, 1116, 1117, 1118, 1119, 1120, 1121, 1122, 1123, 1124, 1125, 1126, 1127, 1128, 1129, 1130, 1131, 1132, 1133, 1200, 1201, 1202, 1203, 1204, 1205, 1206, 1207, 1208, 1209, 1210, 1211, 1212, 1213, 1214, 1215, 1216, 1217, 1218, 1219, 1220, 1221, 1222, 1223, 1224, 1225, 1226, 1227, 1228, 1229, 1230, 1231, 1232, 1233, 1234, 1235, 1236, 1237, 1238, 1239, 1240, 1241, 1242, 1243, 1244, 1245, 1246, 1247, 1248, 1249, 1250, 1251, 1252, 1253, 1254, 1255, 1256, 1257, 1258, 1259, 1260, 1261, 1262, 1263, 1264, 1265, 1266, 1267, 1300, 1400]
def sd_R (k : Nat) : String := match k with
  | 0 => RX0
  | 1 => RX1
  | 2 => RX2
  | 3 => RX3
  | 4 => RX4
  | 5 => RX5
  | 6 => RX6
  | 7 => RX7
  | 8 => RX8
  | 9 => RX9
  | 10 => RX10
  | 11 => RX11
  | 12 => RX12
  | _ => RX0
def sd_T (k : Nat) : u_T := match k with
  | 0 => TX0
  | 1 => TX1
  | 2 => TX2
  | 3 => TX3
  | 4 => TX4
  | 5 => TX5
  | 6 => TX6
  | 7 => TX7
  | 8 => TX8
  | 9 => TX9
  | 10 => TX10
  | 11 => TX11
  | 12 => TX12
  | _ => TX0
def sd_N (k : Nat) : Nat := match k with
  | 0 => 2
  | 1 => 2
  | 2 => 2
  | 3 => 2
  | 4 => 7
  | 5 => 9
  | 6 => 2
  | 7 => 6
  | 8 => 2
  | 9 => 2
  | 10 => 6
  | 11 => 10
  | 12 => 43
  | _ => 0
def sd_ty (k : Nat) : Nat → FieldType := match k with
  | 0 => tyX0
  | 1 => tyX1
  | 2 => tyX2
  | 3 => tyX3
  | 4 => tyX4
  | 5 => tyX5
  | 6 => tyX6
  | 7 => tyX7
  | 8 => tyX8
  | 9 => tyX9
  | 10 => tyX10
  | 11 => tyX11
  | 12 => tyX12
  | _ => tyX0
def sd_cl : List vw_C := [(RX0, TX0, 2), (RX1, TX1, 2), (RX2, TX2, 2), (RX3, TX3, 2), (RX4, TX4, 7), (RX5, TX5, 9), (RX6, TX6, 2), (RX7, TX7, 6), (RX8, TX8, 2), (RX9, TX9, 2), (RX10, TX10, 6), (RX11, TX11, 10), (RX12, TX12, 43)]
def sd_tb : List Cond := lw_tbl.filter goodWord
theorem sd_in {w : Cond} (p : Nat) (h : lw_tbl[p]? = some w) (g : goodWord w = true) : w ∈ sd_tb := List.mem_filter.mpr ⟨List.mem_of_getElem? h, g⟩
theorem sd_clk {k : Nat} (hk : k < 13) : sd_cl[k]? = some (sd_R k, sd_T k, sd_N k) := by
  match k, hk with
  | 0, _ => rfl
  | 1, _ => rfl
  | 2, _ => rfl
  | 3, _ => rfl
  | 4, _ => rfl
  | 5, _ => rfl
  | 6, _ => rfl
  | 7, _ => rfl
  | 8, _ => rfl
  | 9, _ => rfl
  | 10, _ => rfl
  | 11, _ => rfl
  | 12, _ => rfl
theorem sd_i0 : ∀ w ∈ u_ws RX0 TX0 2, w ∈ sd_tb := by decide +kernel
theorem sd_i1 : ∀ w ∈ u_ws RX1 TX1 2, w ∈ sd_tb := by decide +kernel
theorem sd_i2 : ∀ w ∈ u_ws RX2 TX2 2, w ∈ sd_tb := by decide +kernel
theorem sd_i3 : ∀ w ∈ u_ws RX3 TX3 2, w ∈ sd_tb := by decide +kernel
theorem sd_i4 : ∀ w ∈ u_ws RX4 TX4 7, w ∈ sd_tb := by decide +kernel
theorem sd_i5 : ∀ w ∈ u_ws RX5 TX5 9, w ∈ sd_tb := by decide +kernel
theorem sd_i6 : ∀ w ∈ u_ws RX6 TX6 2, w ∈ sd_tb := by decide +kernel
theorem sd_i7 : ∀ w ∈ u_ws RX7 TX7 6, w ∈ sd_tb := by decide +kernel
theorem sd_i8 : ∀ w ∈ u_ws RX8 TX8 2, w ∈ sd_tb := by decide +kernel
theorem sd_i9 : ∀ w ∈ u_ws RX9 TX9 2, w ∈ sd_tb := by decide +kernel
theorem sd_i10 : ∀ w ∈ u_ws RX10 TX10 6, w ∈ sd_tb := by decide +kernel
theorem sd_i11 : ∀ w ∈ u_ws RX11 TX11 10, w ∈ sd_tb := by decide +kernel
theorem sd_i12 : ∀ w ∈ u_ws RX12 TX12 43, w ∈ sd_tb := by decide +kernel
theorem sd_inT {k : Nat} (hk : k < 13) : ∀ w ∈ u_ws (sd_R k) (sd_T k) (sd_N k), w ∈ sd_tb := by
  match k, hk with
  | 0, _ => exact sd_i0
  | 1, _ => exact sd_i1
  | 2, _ => exact sd_i2
  | 3, _ => exact sd_i3
  | 4, _ => exact sd_i4
  | 5, _ => exact sd_i5
  | 6, _ => exact sd_i6
  | 7, _ => exact sd_i7
  | 8, _ => exact sd_i8
  | 9, _ => exact sd_i9
  | 10, _ => exact sd_i10
  | 11, _ => exact sd_i11
  | 12, _ => exact sd_i12
theorem sd_tyo {k : Nat} (hk : k < 13) : ∀ j, j < sd_N k → parseFieldDescriptor (sd_T k j).2.2.1 = some (sd_ty k j) := by
  match k, hk with
  | 0, _ => exact tyX0_ok
  | 1, _ => exact tyX1_ok
  | 2, _ => exact tyX2_ok
  | 3, _ => exact tyX3_ok
  | 4, _ => exact tyX4_ok
  | 5, _ => exact tyX5_ok
  | 6, _ => exact tyX6_ok
  | 7, _ => exact tyX7_ok
  | 8, _ => exact tyX8_ok
  | 9, _ => exact tyX9_ok
  | 10, _ => exact tyX10_ok
  | 11, _ => exact tyX11_ok
  | 12, _ => exact tyX12_ok
theorem sd_nm {k : Nat} (hk : k < 13) : ∀ a, a < sd_N k → ∀ b, b < sd_N k → a ≠ b → (sd_T k a).2.1 ≠ (sd_T k b).2.1 := by
  match k, hk with
  | 0, _ => exact nmX0
  | 1, _ => exact nmX1
  | 2, _ => exact nmX2
  | 3, _ => exact nmX3
  | 4, _ => exact nmX4
  | 5, _ => exact nmX5
  | 6, _ => exact nmX6
  | 7, _ => exact nmX7
  | 8, _ => exact nmX8
  | 9, _ => exact nmX9
  | 10, _ => exact nmX10
  | 11, _ => exact nmX11
  | 12, _ => exact nmX12
end
section
def sd_pc (m : Nat) : Nat := if m < 1106 then (if m < 514 then (if m < 409 then (if m < 301 then (if m < 101 then (if m < 3 then (if m < 1 then (260) else (if m < 2 then (846) else (864))) else (if m < 4 then (851) else (if m < 100 then (859) else (518)))) else (if m < 201 then (if m < 102 then (578) else (if m < 200 then (626) else (509))) else (if m < 202 then (581) else (if m < 300 then (653) else (500))))) else (if m < 403 then (if m < 400 then (if m < 302 then (584) else (if m < 303 then (602) else (639))) else (if m < 401 then (201) else (if m < 402 then (206) else (310)))) else (if m < 406 then (if m < 404 then (318) else (if m < 405 then (327) else (331))) else (if m < 407 then (335) else (if m < 408 then (343) else (339)))))) else (if m < 502 then (if m < 415 then (if m < 412 then (if m < 410 then (354) else (if m < 411 then (347) else (350))) else (if m < 413 then (357) else (if m < 414 then (459) else (473)))) else (if m < 418 then (if m < 416 then (451) else (if m < 417 then (455) else (469))) else (if m < 500 then (550) else (if m < 501 then (98) else (112))))) else (if m < 508 then (if m < 505 then (if m < 503 then (120) else (if m < 504 then (619) else (116))) else (if m < 506 then (927) else (if m < 507 then (615) else (855)))) else (if m < 511 then (if m < 509 then (647) else (if m < 510 then (638) else (758))) else (if m < 512 then (909) else (if m < 513 then (873) else (877))))))) else (if m < 903 then (if m < 707 then (if m < 701 then (if m < 601 then (if m < 515 then (881) else (if m < 600 then (885) else (536))) else (if m < 602 then (587) else (if m < 700 then (633) else (234)))) else (if m < 704 then (if m < 702 then (791) else (if m < 703 then (795) else (838))) else (if m < 705 then (808) else (if m < 706 then (770) else (804))))) else (if m < 800 then (if m < 710 then (if m < 708 then (826) else (if m < 709 then (774) else (813))) else (if m < 711 then (830) else (if m < 712 then (780) else (817)))) else (if m < 900 then (if m < 801 then (527) else (if m < 802 then (590) else (671))) else (if m < 901 then (482) else (if m < 902 then (477) else (591)))))) else (if m < 1010 then (if m < 1004 then (if m < 1001 then (if m < 904 then (672) else (if m < 1000 then (610) else (160))) else (if m < 1002 then (444) else (if m < 1003 then (465) else (544)))) else (if m < 1007 then (if m < 1005 then (563) else (if m < 1006 then (570) else (595))) else (if m < 1008 then (630) else (if m < 1009 then (662) else (685))))) else (if m < 1016 then (if m < 1013 then (if m < 1011 then (712) else (if m < 1012 then (689) else (720))) else (if m < 1014 then (724) else (if m < 1015 then (732) else (744)))) else (if m < 1102 then (if m < 1100 then (740) else (if m < 1101 then (90) else (303))) else (if m < 1104 then (if m < 1103 then (323) else (555)) else (if m < 1105 then (677) else (681)))))))) else (if m < 1221 then (if m < 1130 then (if m < 1118 then (if m < 1112 then (if m < 1109 then (if m < 1107 then (694) else (if m < 1108 then (699) else (708))) else (if m < 1110 then (716) else (if m < 1111 then (728) else (736)))) else (if m < 1115 then (if m < 1113 then (749) else (if m < 1114 then (762) else (766))) else (if m < 1116 then (787) else (if m < 1117 then (800) else (821))))) else (if m < 1124 then (if m < 1121 then (if m < 1119 then (834) else (if m < 1120 then (842) else (869))) else (if m < 1122 then (895) else (if m < 1123 then (899) else (903)))) else (if m < 1127 then (if m < 1125 then (915) else (if m < 1126 then (919) else (923))) else (if m < 1128 then (931) else (if m < 1129 then (314) else (306)))))) else (if m < 1208 then (if m < 1202 then (if m < 1133 then (if m < 1131 then (566) else (if m < 1132 then (559) else (703))) else (if m < 1200 then (753) else (if m < 1201 then (936) else (1124)))) else (if m < 1205 then (if m < 1203 then (1087) else (if m < 1204 then (1139) else (1147))) else (if m < 1206 then (1214) else (if m < 1207 then (1164) else (1179))))) else (if m < 1214 then (if m < 1211 then (if m < 1209 then (1176) else (if m < 1210 then (1172) else (1152))) else (if m < 1212 then (1160) else (if m < 1213 then (1190) else (1168)))) else (if m < 1217 then (if m < 1215 then (1186) else (if m < 1216 then (1183) else (1156))) else (if m < 1219 then (if m < 1218 then (1202) else (1225)) else (if m < 1220 then (1079) else (1075))))))) else (if m < 1245 then (if m < 1233 then (if m < 1227 then (if m < 1224 then (if m < 1222 then (1071) else (if m < 1223 then (1083) else (1091))) else (if m < 1225 then (1103) else (if m < 1226 then (1119) else (1127)))) else (if m < 1230 then (if m < 1228 then (1111) else (if m < 1229 then (1107) else (1115))) else (if m < 1231 then (1099) else (if m < 1232 then (1135) else (1131))))) else (if m < 1239 then (if m < 1236 then (if m < 1234 then (1095) else (if m < 1235 then (1143) else (1194))) else (if m < 1237 then (1198) else (if m < 1238 then (1206) else (1210)))) else (if m < 1242 then (if m < 1240 then (1221) else (if m < 1241 then (1218) else (1229))) else (if m < 1243 then (1237) else (if m < 1244 then (1233) else (1241)))))) else (if m < 1257 then (if m < 1251 then (if m < 1248 then (if m < 1246 then (1249) else (if m < 1247 then (1245) else (1253))) else (if m < 1249 then (1265) else (if m < 1250 then (1261) else (1285)))) else (if m < 1254 then (if m < 1252 then (1257) else (if m < 1253 then (1269) else (1277))) else (if m < 1255 then (1273) else (if m < 1256 then (1281) else (1289))))) else (if m < 1263 then (if m < 1260 then (if m < 1258 then (1301) else (if m < 1259 then (1297) else (1293))) else (if m < 1261 then (1309) else (if m < 1262 then (1313) else (1305)))) else (if m < 1266 then (if m < 1264 then (1317) else (if m < 1265 then (1321) else (1325))) else (if m < 1300 then (if m < 1267 then (1331) else (1335)) else (if m < 1400 then (888) else (108))))))))
def sd_pi (m : Nat) : Nat := if m < 1106 then (if m < 514 then (if m < 409 then (if m < 301 then (if m < 101 then (if m < 3 then (if m < 1 then (71) else (if m < 2 then (71) else (71))) else (if m < 4 then (71) else (if m < 100 then (71) else (82)))) else (if m < 201 then (if m < 102 then (82) else (if m < 200 then (82) else (81))) else (if m < 202 then (81) else (if m < 300 then (81) else (80))))) else (if m < 403 then (if m < 400 then (if m < 302 then (80) else (if m < 303 then (80) else (80))) else (if m < 401 then (69) else (if m < 402 then (69) else (69)))) else (if m < 406 then (if m < 404 then (69) else (if m < 405 then (69) else (69))) else (if m < 407 then (69) else (if m < 408 then (69) else (69)))))) else (if m < 502 then (if m < 415 then (if m < 412 then (if m < 410 then (69) else (if m < 411 then (69) else (69))) else (if m < 413 then (69) else (if m < 414 then (69) else (69)))) else (if m < 418 then (if m < 416 then (69) else (if m < 417 then (69) else (69))) else (if m < 500 then (69) else (if m < 501 then (65) else (65))))) else (if m < 508 then (if m < 505 then (if m < 503 then (65) else (if m < 504 then (65) else (65))) else (if m < 506 then (65) else (if m < 507 then (65) else (65)))) else (if m < 511 then (if m < 509 then (65) else (if m < 510 then (65) else (65))) else (if m < 512 then (65) else (if m < 513 then (65) else (65))))))) else (if m < 903 then (if m < 707 then (if m < 701 then (if m < 601 then (if m < 515 then (65) else (if m < 600 then (65) else (84))) else (if m < 602 then (84) else (if m < 700 then (84) else (70)))) else (if m < 704 then (if m < 702 then (70) else (if m < 703 then (70) else (70))) else (if m < 705 then (70) else (if m < 706 then (70) else (70))))) else (if m < 800 then (if m < 710 then (if m < 708 then (70) else (if m < 709 then (70) else (70))) else (if m < 711 then (70) else (if m < 712 then (70) else (70)))) else (if m < 900 then (if m < 801 then (83) else (if m < 802 then (83) else (83))) else (if m < 901 then (79) else (if m < 902 then (79) else (79)))))) else (if m < 1010 then (if m < 1004 then (if m < 1001 then (if m < 904 then (79) else (if m < 1000 then (79) else (68))) else (if m < 1002 then (68) else (if m < 1003 then (68) else (68)))) else (if m < 1007 then (if m < 1005 then (68) else (if m < 1006 then (68) else (68))) else (if m < 1008 then (68) else (if m < 1009 then (68) else (68))))) else (if m < 1016 then (if m < 1013 then (if m < 1011 then (68) else (if m < 1012 then (68) else (68))) else (if m < 1014 then (68) else (if m < 1015 then (68) else (68)))) else (if m < 1102 then (if m < 1100 then (68) else (if m < 1101 then (64) else (64))) else (if m < 1104 then (if m < 1103 then (64) else (64)) else (if m < 1105 then (64) else (64)))))))) else (if m < 1221 then (if m < 1130 then (if m < 1118 then (if m < 1112 then (if m < 1109 then (if m < 1107 then (64) else (if m < 1108 then (64) else (64))) else (if m < 1110 then (64) else (if m < 1111 then (64) else (64)))) else (if m < 1115 then (if m < 1113 then (64) else (if m < 1114 then (64) else (64))) else (if m < 1116 then (64) else (if m < 1117 then (64) else (64))))) else (if m < 1124 then (if m < 1121 then (if m < 1119 then (64) else (if m < 1120 then (64) else (64))) else (if m < 1122 then (64) else (if m < 1123 then (64) else (64)))) else (if m < 1127 then (if m < 1125 then (64) else (if m < 1126 then (64) else (64))) else (if m < 1128 then (64) else (if m < 1129 then (64) else (64)))))) else (if m < 1208 then (if m < 1202 then (if m < 1133 then (if m < 1131 then (64) else (if m < 1132 then (64) else (64))) else (if m < 1200 then (64) else (if m < 1201 then (72) else (72)))) else (if m < 1205 then (if m < 1203 then (72) else (if m < 1204 then (72) else (72))) else (if m < 1206 then (72) else (if m < 1207 then (72) else (72))))) else (if m < 1214 then (if m < 1211 then (if m < 1209 then (72) else (if m < 1210 then (72) else (72))) else (if m < 1212 then (72) else (if m < 1213 then (72) else (72)))) else (if m < 1217 then (if m < 1215 then (72) else (if m < 1216 then (72) else (72))) else (if m < 1219 then (if m < 1218 then (72) else (72)) else (if m < 1220 then (72) else (72))))))) else (if m < 1245 then (if m < 1233 then (if m < 1227 then (if m < 1224 then (if m < 1222 then (72) else (if m < 1223 then (72) else (72))) else (if m < 1225 then (72) else (if m < 1226 then (72) else (72)))) else (if m < 1230 then (if m < 1228 then (72) else (if m < 1229 then (72) else (72))) else (if m < 1231 then (72) else (if m < 1232 then (72) else (72))))) else (if m < 1239 then (if m < 1236 then (if m < 1234 then (72) else (if m < 1235 then (72) else (72))) else (if m < 1237 then (72) else (if m < 1238 then (72) else (72)))) else (if m < 1242 then (if m < 1240 then (72) else (if m < 1241 then (72) else (72))) else (if m < 1243 then (72) else (if m < 1244 then (72) else (72)))))) else (if m < 1257 then (if m < 1251 then (if m < 1248 then (if m < 1246 then (72) else (if m < 1247 then (72) else (72))) else (if m < 1249 then (72) else (if m < 1250 then (72) else (72)))) else (if m < 1254 then (if m < 1252 then (72) else (if m < 1253 then (72) else (72))) else (if m < 1255 then (72) else (if m < 1256 then (72) else (72))))) else (if m < 1263 then (if m < 1260 then (if m < 1258 then (72) else (if m < 1259 then (72) else (72))) else (if m < 1261 then (72) else (if m < 1262 then (72) else (72)))) else (if m < 1266 then (if m < 1264 then (72) else (if m < 1265 then (72) else (72))) else (if m < 1300 then (if m < 1267 then (72) else (72)) else (if m < 1400 then (85) else (67))))))))
def sd_pk (m : Nat) : Nat := if m < 1106 then (if m < 514 then (if m < 409 then (if m < 301 then (if m < 101 then (if m < 3 then (if m < 1 then (259) else (if m < 2 then (844) else (862))) else (if m < 4 then (850) else (if m < 100 then (858) else (517)))) else (if m < 201 then (if m < 102 then (577) else (if m < 200 then (625) else (508))) else (if m < 202 then (580) else (if m < 300 then (652) else (499))))) else (if m < 403 then (if m < 400 then (if m < 302 then (583) else (if m < 303 then (601) else (621))) else (if m < 401 then (200) else (if m < 402 then (204) else (308)))) else (if m < 406 then (if m < 404 then (316) else (if m < 405 then (325) else (330))) else (if m < 407 then (334) else (if m < 408 then (342) else (338)))))) else (if m < 502 then (if m < 415 then (if m < 412 then (if m < 410 then (353) else (if m < 411 then (346) else (349))) else (if m < 413 then (356) else (if m < 414 then (458) else (472)))) else (if m < 418 then (if m < 416 then (449) else (if m < 417 then (454) else (468))) else (if m < 500 then (549) else (if m < 501 then (97) else (111))))) else (if m < 508 then (if m < 505 then (if m < 503 then (119) else (if m < 504 then (617) else (114))) else (if m < 506 then (925) else (if m < 507 then (613) else (853)))) else (if m < 511 then (if m < 509 then (645) else (if m < 510 then (636) else (756))) else (if m < 512 then (907) else (if m < 513 then (871) else (876))))))) else (if m < 903 then (if m < 707 then (if m < 701 then (if m < 601 then (if m < 515 then (880) else (if m < 600 then (884) else (535))) else (if m < 602 then (586) else (if m < 700 then (632) else (233)))) else (if m < 704 then (if m < 702 then (789) else (if m < 703 then (793) else (836))) else (if m < 705 then (806) else (if m < 706 then (768) else (802))))) else (if m < 800 then (if m < 710 then (if m < 708 then (824) else (if m < 709 then (773) else (812))) else (if m < 711 then (829) else (if m < 712 then (779) else (816)))) else (if m < 900 then (if m < 801 then (526) else (if m < 802 then (589) else (670))) else (if m < 901 then (481) else (if m < 902 then (476) else (573)))))) else (if m < 1010 then (if m < 1004 then (if m < 1001 then (if m < 904 then (597) else (if m < 1000 then (609) else (159))) else (if m < 1002 then (442) else (if m < 1003 then (463) else (542)))) else (if m < 1007 then (if m < 1005 then (561) else (if m < 1006 then (568) else (593))) else (if m < 1008 then (628) else (if m < 1009 then (660) else (683))))) else (if m < 1016 then (if m < 1013 then (if m < 1011 then (710) else (if m < 1012 then (688) else (718))) else (if m < 1014 then (722) else (if m < 1015 then (730) else (742)))) else (if m < 1102 then (if m < 1100 then (738) else (if m < 1101 then (89) else (301))) else (if m < 1104 then (if m < 1103 then (321) else (553)) else (if m < 1105 then (675) else (679)))))))) else (if m < 1221 then (if m < 1130 then (if m < 1118 then (if m < 1112 then (if m < 1109 then (if m < 1107 then (692) else (if m < 1108 then (697) else (706))) else (if m < 1110 then (714) else (if m < 1111 then (726) else (734)))) else (if m < 1115 then (if m < 1113 then (747) else (if m < 1114 then (760) else (764))) else (if m < 1116 then (785) else (if m < 1117 then (798) else (819))))) else (if m < 1124 then (if m < 1121 then (if m < 1119 then (832) else (if m < 1120 then (840) else (867))) else (if m < 1122 then (893) else (if m < 1123 then (897) else (901)))) else (if m < 1127 then (if m < 1125 then (913) else (if m < 1126 then (917) else (921))) else (if m < 1128 then (930) else (if m < 1129 then (313) else (305)))))) else (if m < 1208 then (if m < 1202 then (if m < 1133 then (if m < 1131 then (565) else (if m < 1132 then (558) else (702))) else (if m < 1200 then (752) else (if m < 1201 then (935) else (1123)))) else (if m < 1205 then (if m < 1203 then (1086) else (if m < 1204 then (1138) else (1146))) else (if m < 1206 then (1213) else (if m < 1207 then (1163) else (1178))))) else (if m < 1214 then (if m < 1211 then (if m < 1209 then (1175) else (if m < 1210 then (1171) else (1151))) else (if m < 1212 then (1159) else (if m < 1213 then (1189) else (1167)))) else (if m < 1217 then (if m < 1215 then (1185) else (if m < 1216 then (1182) else (1155))) else (if m < 1219 then (if m < 1218 then (1201) else (1224)) else (if m < 1220 then (1078) else (1074))))))) else (if m < 1245 then (if m < 1233 then (if m < 1227 then (if m < 1224 then (if m < 1222 then (1069) else (if m < 1223 then (1081) else (1089))) else (if m < 1225 then (1102) else (if m < 1226 then (1118) else (1126)))) else (if m < 1230 then (if m < 1228 then (1110) else (if m < 1229 then (1106) else (1114))) else (if m < 1231 then (1098) else (if m < 1232 then (1134) else (1130))))) else (if m < 1239 then (if m < 1236 then (if m < 1234 then (1093) else (if m < 1235 then (1141) else (1192))) else (if m < 1237 then (1196) else (if m < 1238 then (1204) else (1208)))) else (if m < 1242 then (if m < 1240 then (1220) else (if m < 1241 then (1216) else (1227))) else (if m < 1243 then (1236) else (if m < 1244 then (1231) else (1239)))))) else (if m < 1257 then (if m < 1251 then (if m < 1248 then (if m < 1246 then (1248) else (if m < 1247 then (1243) else (1251))) else (if m < 1249 then (1264) else (if m < 1250 then (1260) else (1284)))) else (if m < 1254 then (if m < 1252 then (1255) else (if m < 1253 then (1267) else (1276))) else (if m < 1255 then (1271) else (if m < 1256 then (1279) else (1287))))) else (if m < 1263 then (if m < 1260 then (if m < 1258 then (1300) else (if m < 1259 then (1296) else (1291))) else (if m < 1261 then (1308) else (if m < 1262 then (1312) else (1303)))) else (if m < 1266 then (if m < 1264 then (1315) else (if m < 1265 then (1319) else (1323))) else (if m < 1300 then (if m < 1267 then (1330) else (1333)) else (if m < 1400 then (887) else (107))))))))
def sd_ps (m : Nat) : Nat := if m < 1106 then (if m < 514 then (if m < 409 then (if m < 301 then (if m < 101 then (if m < 3 then (if m < 1 then (0) else (if m < 2 then (846) else (864))) else (if m < 4 then (24) else (if m < 100 then (25) else (0)))) else (if m < 201 then (if m < 102 then (0) else (if m < 200 then (0) else (0))) else (if m < 202 then (0) else (if m < 300 then (0) else (0))))) else (if m < 403 then (if m < 400 then (if m < 302 then (0) else (if m < 303 then (0) else (623))) else (if m < 401 then (0) else (if m < 402 then (206) else (310)))) else (if m < 406 then (if m < 404 then (318) else (if m < 405 then (327) else (4))) else (if m < 407 then (5) else (if m < 408 then (7) else (6)))))) else (if m < 502 then (if m < 415 then (if m < 412 then (if m < 410 then (9) else (if m < 411 then (8) else (0))) else (if m < 413 then (0) else (if m < 414 then (11) else (13)))) else (if m < 418 then (if m < 416 then (451) else (if m < 417 then (10) else (12))) else (if m < 500 then (14) else (if m < 501 then (0) else (1))))) else (if m < 508 then (if m < 505 then (if m < 503 then (2) else (if m < 504 then (619) else (116))) else (if m < 506 then (927) else (if m < 507 then (615) else (855)))) else (if m < 511 then (if m < 509 then (647) else (if m < 510 then (638) else (758))) else (if m < 512 then (909) else (if m < 513 then (873) else (26))))))) else (if m < 903 then (if m < 707 then (if m < 701 then (if m < 601 then (if m < 515 then (0) else (if m < 600 then (27) else (0))) else (if m < 602 then (0) else (if m < 700 then (0) else (0)))) else (if m < 704 then (if m < 702 then (791) else (if m < 703 then (795) else (838))) else (if m < 705 then (808) else (if m < 706 then (770) else (804))))) else (if m < 800 then (if m < 710 then (if m < 708 then (826) else (if m < 709 then (19) else (21))) else (if m < 711 then (23) else (if m < 712 then (20) else (22)))) else (if m < 900 then (if m < 801 then (0) else (if m < 802 then (0) else (0))) else (if m < 901 then (0) else (if m < 902 then (0) else (575)))))) else (if m < 1010 then (if m < 1004 then (if m < 1001 then (if m < 904 then (599) else (if m < 1000 then (1345) else (0))) else (if m < 1002 then (444) else (if m < 1003 then (465) else (544)))) else (if m < 1007 then (if m < 1005 then (563) else (if m < 1006 then (570) else (595))) else (if m < 1008 then (630) else (if m < 1009 then (662) else (685))))) else (if m < 1016 then (if m < 1013 then (if m < 1011 then (712) else (if m < 1012 then (16) else (720))) else (if m < 1014 then (724) else (if m < 1015 then (732) else (744)))) else (if m < 1102 then (if m < 1100 then (740) else (if m < 1101 then (0) else (303))) else (if m < 1104 then (if m < 1103 then (323) else (555)) else (if m < 1105 then (677) else (681)))))))) else (if m < 1221 then (if m < 1130 then (if m < 1118 then (if m < 1112 then (if m < 1109 then (if m < 1107 then (694) else (if m < 1108 then (699) else (708))) else (if m < 1110 then (716) else (if m < 1111 then (728) else (736)))) else (if m < 1115 then (if m < 1113 then (749) else (if m < 1114 then (762) else (766))) else (if m < 1116 then (787) else (if m < 1117 then (800) else (821))))) else (if m < 1124 then (if m < 1121 then (if m < 1119 then (834) else (if m < 1120 then (842) else (869))) else (if m < 1122 then (895) else (if m < 1123 then (899) else (903)))) else (if m < 1127 then (if m < 1125 then (915) else (if m < 1126 then (919) else (923))) else (if m < 1128 then (28) else (if m < 1129 then (3) else (0)))))) else (if m < 1208 then (if m < 1202 then (if m < 1133 then (if m < 1131 then (0) else (if m < 1132 then (15) else (17))) else (if m < 1200 then (18) else (if m < 1201 then (0) else (0)))) else (if m < 1205 then (if m < 1203 then (31) else (if m < 1204 then (40) else (41))) else (if m < 1206 then (52) else (if m < 1207 then (45) else (0))))) else (if m < 1214 then (if m < 1211 then (if m < 1209 then (48) else (if m < 1210 then (47) else (42))) else (if m < 1212 then (44) else (if m < 1213 then (50) else (46)))) else (if m < 1217 then (if m < 1215 then (0) else (if m < 1216 then (49) else (43))) else (if m < 1219 then (if m < 1218 then (51) else (53)) else (if m < 1220 then (30) else (29))))))) else (if m < 1245 then (if m < 1233 then (if m < 1227 then (if m < 1224 then (if m < 1222 then (1071) else (if m < 1223 then (1083) else (1091))) else (if m < 1225 then (33) else (if m < 1226 then (37) else (0)))) else (if m < 1230 then (if m < 1228 then (35) else (if m < 1229 then (34) else (36))) else (if m < 1231 then (32) else (if m < 1232 then (39) else (38))))) else (if m < 1239 then (if m < 1236 then (if m < 1234 then (1095) else (if m < 1235 then (1143) else (1194))) else (if m < 1237 then (1198) else (if m < 1238 then (1206) else (1210)))) else (if m < 1242 then (if m < 1240 then (0) else (if m < 1241 then (1218) else (1229))) else (if m < 1243 then (54) else (if m < 1244 then (1233) else (1241)))))) else (if m < 1257 then (if m < 1251 then (if m < 1248 then (if m < 1246 then (55) else (if m < 1247 then (1245) else (1253))) else (if m < 1249 then (57) else (if m < 1250 then (56) else (59)))) else (if m < 1254 then (if m < 1252 then (1257) else (if m < 1253 then (1269) else (58))) else (if m < 1255 then (1273) else (if m < 1256 then (1281) else (1289))))) else (if m < 1263 then (if m < 1260 then (if m < 1258 then (61) else (if m < 1259 then (60) else (1293))) else (if m < 1261 then (62) else (if m < 1262 then (63) else (1305)))) else (if m < 1266 then (if m < 1264 then (1317) else (if m < 1265 then (1321) else (1325))) else (if m < 1300 then (if m < 1267 then (0) else (1335)) else (if m < 1400 then (0) else (0))))))))
def sd_sf (m : Nat) : Bool := if m < 1106 then (if m < 514 then (if m < 409 then (if m < 301 then (if m < 101 then (if m < 3 then (if m < 1 then (false) else (if m < 2 then (false) else (false))) else (if m < 4 then (false) else (if m < 100 then (false) else (false)))) else (if m < 201 then (if m < 102 then (false) else (if m < 200 then (false) else (false))) else (if m < 202 then (false) else (if m < 300 then (false) else (false))))) else (if m < 403 then (if m < 400 then (if m < 302 then (false) else (if m < 303 then (false) else (false))) else (if m < 401 then (false) else (if m < 402 then (false) else (false)))) else (if m < 406 then (if m < 404 then (false) else (if m < 405 then (false) else (false))) else (if m < 407 then (false) else (if m < 408 then (false) else (false)))))) else (if m < 502 then (if m < 415 then (if m < 412 then (if m < 410 then (false) else (if m < 411 then (false) else (true))) else (if m < 413 then (true) else (if m < 414 then (false) else (false)))) else (if m < 418 then (if m < 416 then (false) else (if m < 417 then (false) else (false))) else (if m < 500 then (false) else (if m < 501 then (false) else (false))))) else (if m < 508 then (if m < 505 then (if m < 503 then (false) else (if m < 504 then (false) else (false))) else (if m < 506 then (false) else (if m < 507 then (false) else (false)))) else (if m < 511 then (if m < 509 then (false) else (if m < 510 then (false) else (false))) else (if m < 512 then (false) else (if m < 513 then (false) else (false))))))) else (if m < 903 then (if m < 707 then (if m < 701 then (if m < 601 then (if m < 515 then (true) else (if m < 600 then (false) else (false))) else (if m < 602 then (false) else (if m < 700 then (false) else (false)))) else (if m < 704 then (if m < 702 then (false) else (if m < 703 then (false) else (false))) else (if m < 705 then (false) else (if m < 706 then (false) else (false))))) else (if m < 800 then (if m < 710 then (if m < 708 then (false) else (if m < 709 then (false) else (false))) else (if m < 711 then (false) else (if m < 712 then (false) else (false)))) else (if m < 900 then (if m < 801 then (false) else (if m < 802 then (false) else (false))) else (if m < 901 then (false) else (if m < 902 then (true) else (false)))))) else (if m < 1010 then (if m < 1004 then (if m < 1001 then (if m < 904 then (false) else (if m < 1000 then (false) else (false))) else (if m < 1002 then (false) else (if m < 1003 then (false) else (false)))) else (if m < 1007 then (if m < 1005 then (false) else (if m < 1006 then (false) else (false))) else (if m < 1008 then (false) else (if m < 1009 then (false) else (false))))) else (if m < 1016 then (if m < 1013 then (if m < 1011 then (false) else (if m < 1012 then (false) else (false))) else (if m < 1014 then (false) else (if m < 1015 then (false) else (false)))) else (if m < 1102 then (if m < 1100 then (false) else (if m < 1101 then (false) else (false))) else (if m < 1104 then (if m < 1103 then (false) else (false)) else (if m < 1105 then (false) else (false)))))))) else (if m < 1221 then (if m < 1130 then (if m < 1118 then (if m < 1112 then (if m < 1109 then (if m < 1107 then (false) else (if m < 1108 then (false) else (false))) else (if m < 1110 then (false) else (if m < 1111 then (false) else (false)))) else (if m < 1115 then (if m < 1113 then (false) else (if m < 1114 then (false) else (false))) else (if m < 1116 then (false) else (if m < 1117 then (false) else (false))))) else (if m < 1124 then (if m < 1121 then (if m < 1119 then (false) else (if m < 1120 then (false) else (false))) else (if m < 1122 then (false) else (if m < 1123 then (false) else (false)))) else (if m < 1127 then (if m < 1125 then (false) else (if m < 1126 then (false) else (false))) else (if m < 1128 then (false) else (if m < 1129 then (false) else (true)))))) else (if m < 1208 then (if m < 1202 then (if m < 1133 then (if m < 1131 then (true) else (if m < 1132 then (false) else (false))) else (if m < 1200 then (false) else (if m < 1201 then (false) else (true)))) else (if m < 1205 then (if m < 1203 then (false) else (if m < 1204 then (false) else (false))) else (if m < 1206 then (false) else (if m < 1207 then (false) else (true))))) else (if m < 1214 then (if m < 1211 then (if m < 1209 then (false) else (if m < 1210 then (false) else (false))) else (if m < 1212 then (false) else (if m < 1213 then (false) else (false)))) else (if m < 1217 then (if m < 1215 then (true) else (if m < 1216 then (false) else (false))) else (if m < 1219 then (if m < 1218 then (false) else (false)) else (if m < 1220 then (false) else (false))))))) else (if m < 1245 then (if m < 1233 then (if m < 1227 then (if m < 1224 then (if m < 1222 then (false) else (if m < 1223 then (false) else (false))) else (if m < 1225 then (false) else (if m < 1226 then (false) else (true)))) else (if m < 1230 then (if m < 1228 then (false) else (if m < 1229 then (false) else (false))) else (if m < 1231 then (false) else (if m < 1232 then (false) else (false))))) else (if m < 1239 then (if m < 1236 then (if m < 1234 then (false) else (if m < 1235 then (false) else (false))) else (if m < 1237 then (false) else (if m < 1238 then (false) else (false)))) else (if m < 1242 then (if m < 1240 then (true) else (if m < 1241 then (false) else (false))) else (if m < 1243 then (false) else (if m < 1244 then (false) else (false)))))) else (if m < 1257 then (if m < 1251 then (if m < 1248 then (if m < 1246 then (false) else (if m < 1247 then (false) else (false))) else (if m < 1249 then (false) else (if m < 1250 then (false) else (false)))) else (if m < 1254 then (if m < 1252 then (false) else (if m < 1253 then (false) else (false))) else (if m < 1255 then (false) else (if m < 1256 then (false) else (false))))) else (if m < 1263 then (if m < 1260 then (if m < 1258 then (false) else (if m < 1259 then (false) else (false))) else (if m < 1261 then (false) else (if m < 1262 then (false) else (false)))) else (if m < 1266 then (if m < 1264 then (false) else (if m < 1265 then (false) else (false))) else (if m < 1300 then (if m < 1267 then (true) else (false)) else (if m < 1400 then (true) else (true))))))))
def sd_np (m : Nat) : Nat := if m < 1106 then (if m < 514 then (if m < 409 then (if m < 301 then (if m < 101 then (if m < 3 then (if m < 1 then (0) else (if m < 2 then (3) else (3))) else (if m < 4 then (1) else (if m < 100 then (1) else (2)))) else (if m < 201 then (if m < 102 then (0) else (if m < 200 then (3) else (2))) else (if m < 202 then (0) else (if m < 300 then (3) else (2))))) else (if m < 403 then (if m < 400 then (if m < 302 then (0) else (if m < 303 then (3) else (3))) else (if m < 401 then (0) else (if m < 402 then (0) else (0)))) else (if m < 406 then (if m < 404 then (1) else (if m < 405 then (0) else (1))) else (if m < 407 then (1) else (if m < 408 then (1) else (1)))))) else (if m < 502 then (if m < 415 then (if m < 412 then (if m < 410 then (1) else (if m < 411 then (2) else (1))) else (if m < 413 then (1) else (if m < 414 then (1) else (1)))) else (if m < 418 then (if m < 416 then (1) else (if m < 417 then (3) else (3))) else (if m < 500 then (2) else (if m < 501 then (3) else (1))))) else (if m < 508 then (if m < 505 then (if m < 503 then (2) else (if m < 504 then (1) else (1))) else (if m < 506 then (0) else (if m < 507 then (2) else (1)))) else (if m < 511 then (if m < 509 then (2) else (if m < 510 then (3) else (2))) else (if m < 512 then (2) else (if m < 513 then (1) else (2))))))) else (if m < 903 then (if m < 707 then (if m < 701 then (if m < 601 then (if m < 515 then (4) else (if m < 600 then (2) else (2))) else (if m < 602 then (0) else (if m < 700 then (3) else (0)))) else (if m < 704 then (if m < 702 then (0) else (if m < 703 then (2) else (0))) else (if m < 705 then (0) else (if m < 706 then (4) else (2))))) else (if m < 800 then (if m < 710 then (if m < 708 then (3) else (if m < 709 then (2) else (3))) else (if m < 711 then (2) else (if m < 712 then (2) else (2)))) else (if m < 900 then (if m < 801 then (2) else (if m < 802 then (0) else (3))) else (if m < 901 then (2) else (if m < 902 then (3) else (0)))))) else (if m < 1010 then (if m < 1004 then (if m < 1001 then (if m < 904 then (3) else (if m < 1000 then (3) else (1))) else (if m < 1002 then (1) else (if m < 1003 then (1) else (2)))) else (if m < 1007 then (if m < 1005 then (1) else (if m < 1006 then (2) else (2))) else (if m < 1008 then (2) else (if m < 1009 then (3) else (0))))) else (if m < 1016 then (if m < 1013 then (if m < 1011 then (1) else (if m < 1012 then (1) else (2))) else (if m < 1014 then (2) else (if m < 1015 then (2) else (2)))) else (if m < 1102 then (if m < 1100 then (1) else (if m < 1101 then (0) else (1))) else (if m < 1104 then (if m < 1103 then (0) else (2)) else (if m < 1105 then (1) else (0)))))))) else (if m < 1221 then (if m < 1130 then (if m < 1118 then (if m < 1112 then (if m < 1109 then (if m < 1107 then (2) else (if m < 1108 then (2) else (2))) else (if m < 1110 then (3) else (if m < 1111 then (2) else (2)))) else (if m < 1115 then (if m < 1113 then (2) else (if m < 1114 then (2) else (3))) else (if m < 1116 then (2) else (if m < 1117 then (1) else (2))))) else (if m < 1124 then (if m < 1121 then (if m < 1119 then (0) else (if m < 1120 then (3) else (2))) else (if m < 1122 then (1) else (if m < 1123 then (1) else (4)))) else (if m < 1127 then (if m < 1125 then (0) else (if m < 1126 then (0) else (1))) else (if m < 1128 then (1) else (if m < 1129 then (1) else (3)))))) else (if m < 1208 then (if m < 1202 then (if m < 1133 then (if m < 1131 then (2) else (if m < 1132 then (1) else (2))) else (if m < 1200 then (1) else (if m < 1201 then (0) else (3)))) else (if m < 1205 then (if m < 1203 then (1) else (if m < 1204 then (1) else (1))) else (if m < 1206 then (2) else (if m < 1207 then (2) else (2))))) else (if m < 1214 then (if m < 1211 then (if m < 1209 then (2) else (if m < 1210 then (2) else (1))) else (if m < 1212 then (1) else (if m < 1213 then (2) else (1)))) else (if m < 1217 then (if m < 1215 then (2) else (if m < 1216 then (1) else (1))) else (if m < 1219 then (if m < 1218 then (0) else (1)) else (if m < 1220 then (1) else (2))))))) else (if m < 1245 then (if m < 1233 then (if m < 1227 then (if m < 1224 then (if m < 1222 then (0) else (if m < 1223 then (0) else (1))) else (if m < 1225 then (0) else (if m < 1226 then (0) else (1)))) else (if m < 1230 then (if m < 1228 then (0) else (if m < 1229 then (1) else (1))) else (if m < 1231 then (0) else (if m < 1232 then (1) else (1))))) else (if m < 1239 then (if m < 1236 then (if m < 1234 then (0) else (if m < 1235 then (2) else (1))) else (if m < 1237 then (0) else (if m < 1238 then (2) else (2)))) else (if m < 1242 then (if m < 1240 then (3) else (if m < 1241 then (2) else (3))) else (if m < 1243 then (0) else (if m < 1244 then (2) else (2)))))) else (if m < 1257 then (if m < 1251 then (if m < 1248 then (if m < 1246 then (2) else (if m < 1247 then (2) else (2))) else (if m < 1249 then (3) else (if m < 1250 then (3) else (1)))) else (if m < 1254 then (if m < 1252 then (3) else (if m < 1253 then (2) else (0))) else (if m < 1255 then (1) else (if m < 1256 then (2) else (0))))) else (if m < 1263 then (if m < 1260 then (if m < 1258 then (2) else (if m < 1259 then (0) else (3))) else (if m < 1261 then (1) else (if m < 1262 then (1) else (2)))) else (if m < 1266 then (if m < 1264 then (1) else (if m < 1265 then (1) else (4))) else (if m < 1300 then (if m < 1267 then (1) else (1)) else (if m < 1400 then (1) else (2))))))))
/-- a method's own words -/
def sd_mb (m : Nat) : Bool :=
  decide (lw_tbl[sd_pc m]? = some (.code (sd_y m) (sd_b m) (am_mx m) (sd_rt m))) && decide (lw_tbl[sd_pi m]? = some (.initialized (sd_y m).cls)) &&
  (if sd_sf m then decide (lw_tbl[sd_pk m]? = some (.static (sd_y m))) else decide (lw_tbl[sd_pk m]? = some (.instanceMethod (sd_y m)))) &&
  (sd_ps m == 0 || decide (lw_tbl[sd_ps m - 1]? = some (.selects (sd_y m).cls (sd_y m) (sd_y m)))) &&
  decide ((sd_y m).cls ≠ "java/lang/invoke/MethodHandle") && decide ((sd_y m).cls ≠ "java/lang/invoke/VarHandle") && plainName (sd_y m).cls &&
  decide ((parseMethodDescriptor (sd_y m).desc).map (fun d => d.parameters.length) = some (sd_np m)) && decide (am_mx m ≤ 60)
/-- the name under which a virtual method is called, and the class that declares it -/
def sd_vx (a : Nat) : MethodName := match a with
  | 0 => ⟨"SeenADayLate$Walker", "kind", "()I"⟩
  | 1 => ⟨"SeenADayLate$Walker", "chooses", "(LSeenADayLate$World;II)I"⟩
  | 2 => ⟨"SeenADayLate$Walker", "byPlan", "(LSeenADayLate$World;II)I"⟩
  | 3 => ⟨"SeenADayLate$Hunter", "aim", "(LSeenADayLate$World;II)I"⟩
  | 4 => ⟨"SeenADayLate$Hunter", "byPlan", "(LSeenADayLate$World;II)I"⟩
  | _ => ⟨"SeenADayLate$Hare", "byPlan", "(LSeenADayLate$World;II)I"⟩
def sd_vo (a : Nat) : String := if a = 3 then "SeenADayLate$Hunter" else "SeenADayLate$Walker"
def sd_tc (t : FieldType) : Nat := match t with
  | .int => 0
  | .boolean => 1
  | .object _ => 2
  | .array _ => 2
  | _ => 9
def sd_vf (m idx a b c q : Nat) : Bool := match lw_tbl[q]? with
  | some (.fieldLink o ix ref nm ds) => o == (sd_y m).cls && ix == idx && decide (a < 13) && decide (b < sd_N a) && nm == (sd_T a b).2.1 && ds == (sd_T a b).2.2.1 && (ref == (sd_T a b).1 || (ref == "SeenADayLate$Hunter" && (sd_T a b).1 == "SeenADayLate$Walker" && nm == "figure" && ds == "I")) && c == sd_tc (sd_ty a b)
  | _ => false
/-- a site -/
def sd_vb (m pc : Nat) (e : am_En) : Bool := match e with
  | (i, len, a, b, c, q) => decide (decode (sd_b m) pc = .ok (i, len)) && (match i with
    | .aconst_null | .iconst _ | .lconst _ | .iload_n _ | .lload_n _ | .aload_n _ | .istore_n _ | .astore_n _ | .iadd | .isub | .imul | .iand | .ior | .ixor | .idiv | .irem | .ineg | .ishl | .ishr | .iushr | .i2l | .lmul | .lcmp | .dup | .dup2 | .pop | .iaload | .iastore | .aaload | .aastore | .arraylength => len == 1
    | .bipush _ | .iload _ | .lload _ | .aload _ | .istore _ | .lstore _ | .astore _ | .newarray .int => len == 2
    | .sipush _ | .iinc _ _ => len == 3
    | .ldc idx => len == 2 && decide (lw_tbl[q]? = some (.constant (sd_y m).cls idx (Int32.ofNat a)))
    | .ldc_w idx => len == 3 && decide (lw_tbl[q]? = some (.constant (sd_y m).cls idx (Int32.ofNat a)))
    | .ldc2_w idx => len == 3 && decide (lw_tbl[q]? = some (.constantLong (sd_y m).cls idx (Int64.ofNat a)))
    | .goto off | .ifCond _ off | .if_icmp _ off | .ifnull off | .ifnonnull off => len == 3 && decide ((pc : Int) + off = (a : Int))
    | .tableswitch d _ _ offs => decide (0 ≤ (pc : Int) + d) && offs.toList.all (fun o => decide (0 ≤ (pc : Int) + o))
    | .lookupswitch d ps => (ps.toList.zip (ps.toList.drop 1)).all (fun (x, next) => x.1 < next.1) && decide (0 ≤ (pc : Int) + d) && ps.toList.all (fun o => decide (0 ≤ (pc : Int) + o.2))
    | .getfield idx => len == 3 && sd_vf m idx a b c q
    | .putfield idx => len == 3 && sd_vf m idx a b c q && (!(sd_T a b).2.2.2 || ((sd_y m).name == "<init>" && (sd_T a b).1 == (sd_y m).cls))
    | .new idx => len == 3 && decide (a < 13) && b == sd_N a && decide (lw_tbl[q]? = some (.classLink (sd_y m).cls idx (sd_R a)))
    | .anewarray idx => len == 3 && decide (lw_tbl[q]? = some (.classLink (sd_y m).cls idx "SeenADayLate$Walker"))
    | .multianewarray idx dm => len == 4 && dm == 2 && decide (lw_tbl[q]? = some (.classLink (sd_y m).cls idx "[[I"))
    | .ireturn => len == 1 && ((a == 0 && decide (sd_rt m = some .int)) || (a == 1 && decide (sd_rt m = some .boolean)))
    | .areturn => len == 1 && decide (sd_rt m = some (.object "SeenADayLate$Walker"))
    | .return_ => len == 1 && decide (sd_rt m = none)
    | .invokestatic idx => len == 3 && (match c with
      | 0 => sd_ids.contains a && sd_sf a && b == sd_np a && decide (lw_tbl[q]? = some (.methodLink (sd_y m).cls idx (sd_y a)))
      | 1 => decide (lw_tbl[q]? = some (.methodLink (sd_y m).cls idx Lib.Math.max.name))
      | 2 => decide (lw_tbl[q]? = some (.methodLink (sd_y m).cls idx Lib.Math.min.name))
      | 3 => decide (lw_tbl[q]? = some (.methodLink (sd_y m).cls idx Lib.Math.abs.name))
      | 4 => decide (lw_tbl[q]? = some (.methodLink (sd_y m).cls idx arraycopyName))
      | 5 => decide (lw_tbl[q]? = some (.methodLink (sd_y m).cls idx (sd_y 412)))
      | _ => false)
    | .invokespecial idx => len == 3 && (match c with
      | 0 => sd_ids.contains a && !sd_sf a && b == sd_np a && (sd_y a).name == "<init>" && decide (sd_rt a = none) && decide (lw_tbl[q]? = some (.methodLink (sd_y m).cls idx (sd_y a)))
      | _ => decide (lw_tbl[q]? = some (.methodLink (sd_y m).cls idx Lib.objectInit)))
    | .invokevirtual idx => len == 3 && (match c with
      | 0 => sd_ids.contains a && !sd_sf a && b == sd_np a && decide (0 < sd_ps a) && decide ((sd_y a).cls = sd_R (a / 100)) && decide (lw_tbl[q]? = some (.methodLink (sd_y m).cls idx (sd_y a)))
      | _ => decide (a < 6) && decide ((parseMethodDescriptor (sd_vx a).desc).map (fun d => d.parameters.length) = some b) && decide (lw_tbl[q]? = some (.methodLink (sd_y m).cls idx (sd_vx a))))
    | _ => false)
def sd_chk (m : Nat) : Bool := (am_code m).zipIdx.all (fun x => match x.1 with
  | none => true
  | some e => sd_vb m x.2 e)
end
section
theorem sd_mall : ∀ m ∈ sd_ids, sd_mb m = true ∧ sd_chk m = true := sorry
theorem sd_val {m pc : Nat} {e : am_En} (hm : m ∈ sd_ids) (h : am_cd m pc = some e) : sd_vb m pc e = true := sorry
end
section
/-! THE WORLD: how the small machine's heap lies in the JVM's -/
def sd_cv (γ : Nat → Nat) (v : AV) : Value := match v with
  | .inl x => .int x
  | .inr (.inl x) => .long x
  | .inr (.inr o) => va_rf (o.map (fun r => γ r.1))
def sd_rf (k j : Nat) : Bool := sd_tc (sd_ty k j) == 2
def sd_fv (γ : Nat → Nat) (h : Hp) (k i j : Nat) : Value := if sd_rf k j = true then va_rf ((hR h i j).map (fun r => γ r.1)) else .int (hI h i j)
def sd_fs (γ : Nat → Nat) (h : Hp) (k i : Nat) : List Value := (List.range (sd_N k)).map (sd_fv γ h k i)
def sd_qa (γ : Nat → Nat) (h : Hp) (i : Nat) : Nat → Option Nat := fun j => (hR h i j).map (fun r => γ r.1)
def sd_E (γ : Nat → Nat) (κ : Nat → ClassId) (sh : Nat → Nat × Nat) (h : Hp) (i : Nat) : va_E :=
  if (sh i).1 < 13 then .inr ((sh i).1, sd_fs γ h (sh i).1 i) else if (sh i).1 = 13 then .inl (κ i, ((sh i).2, .inl (hI h i))) else .inl (κ i, ((sh i).2, .inr (.inr (.inr (.inr (sd_qa γ h i))))))
def sd_ws (γ : Nat → Nat) (κ : Nat → ClassId) (sh : Nat → Nat × Nat) (h : Hp) : va_W := (List.range h.1.1).map (fun i => (γ i, sd_E γ κ sh h i))
def sd_at (k : Nat) : FieldType := if k = 13 then .int else if k = 14 then .object "SeenADayLate$Walker" else .array .int
def sd_OK (sh : Nat → Nat × Nat) (n : Nat) (v : AV) : Prop := ∀ r : Rf, v = vr r → r.1 < n ∧ sh r.1 = r.2
/-- what of a world is not in its cells: kinds, array classes, where references lead -/
def sd_G (γ : Nat → Nat) (κ : Nat → ClassId) (sh : Nat → Nat × Nat) (h : Hp) (s : State) : Prop :=
  (∀ i, i < h.1.1 → (sh i).1 < 16) ∧ (∀ i, i < h.1.1 → 13 ≤ (sh i).1 → ArrOfT s (κ i) (sd_at (sh i).1) ∧ va_RA s (κ i) (sd_at (sh i).1)) ∧ (∀ i, i < h.1.1 → ∀ (j : Nat) (r : Rf), hR h i j = some r → r.1 < h.1.1 ∧ sh r.1 = r.2)
def sd_Rel (D : va_G) (A : Nat → Prop) (γ : Nat → Nat) (κ : Nat → ClassId) (sh : Nat → Nat × Nat) (h : Hp) (s : State) (H : Heap) : Prop :=
  va_P D sd_cl (sd_ws γ κ sh h) H ∧ va_D A (sd_ws γ κ sh h) ∧ sd_G γ κ sh h s
/-- the locals -/
def sd_LR (γ : Nat → Nat) (sh : Nat → Nat × Nat) (n : Nat) (ls : Lc) (lsC : Array Slot) (nL : Nat) : Prop :=
  ls.length = nL ∧ lsC.size = nL ∧ lv_wf lsC ∧ (∀ (i : Nat) (v : AV), am_ld ls i = some v → sd_OK sh n v ∧ lsC[i]? = some (.val (sd_cv γ v)))
theorem sd_wsL {γ : Nat → Nat} {κ : Nat → ClassId} {sh : Nat → Nat × Nat} {h : Hp} : (sd_ws γ κ sh h).length = h.1.1 := by simp [sd_ws]
theorem sd_wsG {γ : Nat → Nat} {κ : Nat → ClassId} {sh : Nat → Nat × Nat} {h : Hp} {i : Nat} (hi : i < h.1.1) : (sd_ws γ κ sh h)[i]? = some (γ i, sd_E γ κ sh h i) := by
  simp [sd_ws, hi]
theorem sd_wsS {γ : Nat → Nat} {κ : Nat → ClassId} {sh : Nat → Nat × Nat} {h h2 : Hp} {i : Nat} (hn : h2.1.1 = h.1.1) (ho : ∀ j, j ≠ i → sd_E γ κ sh h2 j = sd_E γ κ sh h j) (e : va_E) (he : e = sd_E γ κ sh h2 i) : (sd_ws γ κ sh h).set i (γ i, e) = sd_ws γ κ sh h2 := by
  apply List.ext_getElem?
  intro j
  rw [List.getElem?_set]
  by_cases hj : i = j
  · subst hj
    rw [if_pos rfl]
    by_cases hl : i < (sd_ws γ κ sh h).length
    · rw [if_pos hl]
      rw [sd_wsL] at hl
      rw [sd_wsG (by rw [hn]; exact hl), he]
    · rw [if_neg hl]
      have : (sd_ws γ κ sh h2)[i]? = none := List.getElem?_eq_none (by rw [sd_wsL, hn]; rw [sd_wsL] at hl; omega)
      rw [this]
  · rw [if_neg hj]
    by_cases hl : j < h.1.1
    · rw [sd_wsG hl, sd_wsG (by rw [hn]; exact hl), ho j (fun q => hj q.symm)]
    · rw [List.getElem?_eq_none (by rw [sd_wsL]; omega), List.getElem?_eq_none (by rw [sd_wsL, hn]; omega)]
theorem sd_E_obj {γ : Nat → Nat} {κ : Nat → ClassId} {sh : Nat → Nat × Nat} {h : Hp} {i k z : Nat} (hs : sh i = (k, z)) (hk : k < 13) : sd_E γ κ sh h i = .inr (k, sd_fs γ h k i) := by
  unfold sd_E; rw [hs]; simp only; rw [if_pos hk]
theorem sd_E_int {γ : Nat → Nat} {κ : Nat → ClassId} {sh : Nat → Nat × Nat} {h : Hp} {i z : Nat} (hs : sh i = (13, z)) : sd_E γ κ sh h i = .inl (κ i, (z, .inl (hI h i))) := by
  unfold sd_E; rw [hs]; rfl
theorem sd_E_ref {γ : Nat → Nat} {κ : Nat → ClassId} {sh : Nat → Nat × Nat} {h : Hp} {i k z : Nat} (hs : sh i = (k, z)) (hk : 13 < k) : sd_E γ κ sh h i = .inl (κ i, (z, .inr (.inr (.inr (.inr (sd_qa γ h i)))))) := by
  unfold sd_E; rw [hs]; simp only; rw [if_neg (by omega), if_neg (by omega)]
theorem sd_fsG {γ : Nat → Nat} {h : Hp} {k i j : Nat} (hj : j < sd_N k) : (sd_fs γ h k i)[j]? = some (sd_fv γ h k i j) := by simp [sd_fs, hj]
theorem sd_fsL {γ : Nat → Nat} {h : Hp} {k i : Nat} : (sd_fs γ h k i).length = sd_N k := by simp [sd_fs]
theorem sd_fsS {γ : Nat → Nat} {h h2 : Hp} {k i b : Nat} {v : Value} (hv : v = sd_fv γ h2 k i b) (ho : ∀ j, j ≠ b → sd_fv γ h2 k i j = sd_fv γ h k i j) : (sd_fs γ h k i).set b v = sd_fs γ h2 k i := by
  apply List.ext_getElem?
  intro j
  rw [List.getElem?_set]
  by_cases hj : b = j
  · subst hj
    rw [if_pos rfl]
    by_cases hl : b < (sd_fs γ h k i).length
    · rw [if_pos hl]
      rw [sd_fsL] at hl
      rw [sd_fsG hl, hv]
    · rw [if_neg hl, List.getElem?_eq_none (by rw [sd_fsL]; rw [sd_fsL] at hl; omega)]
  · rw [if_neg hj]
    by_cases hl : j < sd_N k
    · rw [sd_fsG hl, sd_fsG hl, ho j (fun q => hj q.symm)]
    · rw [List.getElem?_eq_none (by rw [sd_fsL]; omega), List.getElem?_eq_none (by rw [sd_fsL]; omega)]
/-- growing worlds: old numbers keep their places -/
theorem sd_cv_ext {γ γ2 : Nat → Nat} {sh : Nat → Nat × Nat} {n : Nat} (hg : ∀ i, i < n → γ2 i = γ i) {v : AV} (hv : sd_OK sh n v) : sd_cv γ2 v = sd_cv γ v := by
  rcases v with x | x | o
  · rfl
  · rfl
  · cases o with
    | none => rfl
    | some r =>
      have h1 := (hv r rfl).1
      simp only [sd_cv, Option.map_some, hg _ h1]
theorem sd_OK_ext {sh sh2 : Nat → Nat × Nat} {n n2 : Nat} (hn : n ≤ n2) (hg : ∀ i, i < n → sh2 i = sh i) {v : AV} (hv : sd_OK sh n v) : sd_OK sh2 n2 v := by
  intro r hr
  obtain ⟨h1, h2⟩ := hv r hr
  exact ⟨by omega, by rw [hg _ h1, h2]⟩
theorem sd_LR_ext {γ γ2 : Nat → Nat} {sh sh2 : Nat → Nat × Nat} {n n2 : Nat} {ls : Lc} {lsC : Array Slot} {nL : Nat} (hn : n ≤ n2) (hg : ∀ i, i < n → γ2 i = γ i) (hs : ∀ i, i < n → sh2 i = sh i) (h : sd_LR γ sh n ls lsC nL) : sd_LR γ2 sh2 n2 ls lsC nL := by
  refine ⟨h.1, h.2.1, h.2.2.1, fun i v hv => ?_⟩
  obtain ⟨h1, h2⟩ := h.2.2.2 i v hv
  exact ⟨sd_OK_ext hn hs h1, by rw [sd_cv_ext hg h1]; exact h2⟩
theorem sd_map_ext {γ γ2 : Nat → Nat} {sh : Nat → Nat × Nat} {n : Nat} (hg : ∀ i, i < n → γ2 i = γ i) {st : List AV} (hv : ∀ v ∈ st, sd_OK sh n v) : st.map (sd_cv γ2) = st.map (sd_cv γ) := List.map_congr_left fun v h => sd_cv_ext hg (hv v h)
theorem sd_OKi {sh : Nat → Nat × Nat} {n : Nat} {x : Int32} : sd_OK sh n (vi x) := fun r h => by cases h
theorem sd_OKl {sh : Nat → Nat × Nat} {n : Nat} {x : Int64} : sd_OK sh n (vl x) := fun r h => by cases h
theorem sd_OKn {sh : Nat → Nat × Nat} {n : Nat} : sd_OK sh n (vo none) := fun r h => by cases h
/-- the locals as the kit lists them -/
def sd_pr (γ : Nat → Nat) (ls : Lc) : List (Nat × Value) := (List.range ls.length).filterMap (fun i => (am_ld ls i).map (fun v => (i, sd_cv γ v)))
theorem sd_ldlt {ls : Lc} {i : Nat} {v : AV} (h : am_ld ls i = some v) : i < ls.length := by
  unfold am_ld at h
  cases hq : ls[i]? with
  | none => rw [hq] at h; cases h
  | some x => exact (List.getElem?_eq_some_iff.mp hq).1
theorem sd_prM {γ : Nat → Nat} {ls : Lc} {q : Nat × Value} : q ∈ sd_pr γ ls ↔ ∃ v, am_ld ls q.1 = some v ∧ q.2 = sd_cv γ v := by
  unfold sd_pr
  rw [List.mem_filterMap]
  constructor
  · rintro ⟨i, hi, h⟩
    cases hv : am_ld ls i with
    | none => rw [hv] at h; cases h
    | some v =>
      rw [hv] at h
      simp only [Option.map_some, Option.some.injEq] at h
      subst h
      exact ⟨v, hv, rfl⟩
  · rintro ⟨v, h1, h2⟩
    refine ⟨q.1, List.mem_range.mpr (sd_ldlt h1), ?_⟩
    rw [h1]
    simp only [Option.map_some, Option.some.injEq]
    rw [← h2]
theorem sd_LRh {γ : Nat → Nat} {sh : Nat → Nat × Nat} {n : Nat} {ls : Lc} {lsC : Array Slot} {nL : Nat} (h : sd_LR γ sh n ls lsC nL) : lv_has lsC nL (sd_pr γ ls) := by
  refine ⟨h.2.1, h.2.2.1, fun q hq => ?_⟩
  obtain ⟨v, h1, h2⟩ := sd_prM.mp hq
  rw [h2]
  exact (h.2.2.2 _ _ h1).2
theorem sd_ldset {ls : Lc} {i j : Nat} {v : Option AV} : am_ld (ls.set i v) j = if i = j ∧ j < ls.length then v else am_ld ls j := by
  unfold am_ld
  rw [List.getElem?_set]
  by_cases h : i = j
  · subst h
    by_cases hl : i < ls.length
    · simp [hl]; cases v <;> rfl
    · simp [hl]
  · simp [h]
theorem sd_cat {γ : Nat → Nat} {v : AV} : (sd_cv γ v).category = 2 ↔ am_wd (some v) = true := by
  rcases v with x | x | o
  · simp [sd_cv, Value.category, am_wd]
  · simp [sd_cv, Value.category, am_wd]
  · cases o <;> simp [sd_cv, va_rf, Value.category, am_wd]
theorem sd_st1 {γ : Nat → Nat} {sh : Nat → Nat × Nat} {n : Nat} {ls l2 : Lc} {lsC : Array Slot} {nL i : Nat} {v : AV} {ls2 : Array Slot} (h : sd_LR γ sh n ls lsC nL) (hs : am_s1 ls i v = some l2) (hv : sd_OK sh n v)
    (h2 : lv_has ls2 nL ((i, sd_cv γ v) :: (sd_pr γ ls).filter (fun q => !(q.1 == i) && !(q.1 + 1 == i && q.2.category == 2)))) : sd_LR γ sh n l2 ls2 nL := by
  unfold am_s1 at hs
  split at hs
  · rename_i hc
    cases hs
    refine ⟨by rw [List.length_set]; exact h.1, h2.1, h2.2.1, fun j w hw => ?_⟩
    rw [sd_ldset] at hw
    by_cases hj : i = j ∧ j < ls.length
    · rw [if_pos hj] at hw
      cases hw
      obtain ⟨rfl, -⟩ := hj
      exact ⟨hv, h2.2.2 (i, sd_cv γ v) List.mem_cons_self⟩
    · rw [if_neg hj] at hw
      refine ⟨(h.2.2.2 j w hw).1, h2.2.2 (j, sd_cv γ w) (List.mem_cons_of_mem _ (List.mem_filter.mpr ⟨sd_prM.mpr ⟨w, hw, rfl⟩, ?_⟩))⟩
      have hne : ¬ j = i := fun q => hj ⟨q.symm, sd_ldlt hw⟩
      simp only [Bool.and_eq_true, Bool.not_eq_true', beq_eq_false_iff_ne, ne_eq, Bool.and_eq_false_iff]
      refine ⟨hne, ?_⟩
      by_cases hji : j + 1 = i
      · right
        intro hcat
        subst hji
        have := sd_cat.mp hcat
        have hp := hc.2
        simp only [am_pw, hw] at hp
        rw [this] at hp
        cases hp
      · left; exact hji
  · cases hs
theorem sd_st2 {γ : Nat → Nat} {sh : Nat → Nat × Nat} {n : Nat} {ls l2 : Lc} {lsC : Array Slot} {nL i : Nat} {v : AV} {ls2 : Array Slot} (h : sd_LR γ sh n ls lsC nL) (hs : am_s2 ls i v = some l2) (hv : sd_OK sh n v)
    (h2 : lv_has ls2 nL ((i, sd_cv γ v) :: (sd_pr γ ls).filter (fun q => !(q.1 == i) && (!(q.1 == i + 1) && !(q.1 + 1 == i && q.2.category == 2))))) : sd_LR γ sh n l2 ls2 nL := by
  unfold am_s2 at hs
  split at hs
  · rename_i hc
    cases hs
    refine ⟨by rw [List.length_set, List.length_set]; exact h.1, h2.1, h2.2.1, fun j w hw => ?_⟩
    rw [sd_ldset] at hw
    by_cases hj1 : i + 1 = j ∧ j < (ls.set i (some v)).length
    · rw [if_pos hj1] at hw
      cases hw
    · rw [if_neg hj1, sd_ldset] at hw
      by_cases hj : i = j ∧ j < ls.length
      · rw [if_pos hj] at hw
        cases hw
        obtain ⟨rfl, -⟩ := hj
        exact ⟨hv, h2.2.2 (i, sd_cv γ v) List.mem_cons_self⟩
      · rw [if_neg hj] at hw
        refine ⟨(h.2.2.2 j w hw).1, h2.2.2 (j, sd_cv γ w) (List.mem_cons_of_mem _ (List.mem_filter.mpr ⟨sd_prM.mpr ⟨w, hw, rfl⟩, ?_⟩))⟩
        have hne : ¬ j = i := fun q => hj ⟨q.symm, sd_ldlt hw⟩
        have hne1 : ¬ j = i + 1 := fun q => hj1 ⟨q.symm, by rw [List.length_set]; exact sd_ldlt hw⟩
        simp only [Bool.and_eq_true, Bool.not_eq_true', beq_eq_false_iff_ne, ne_eq, Bool.and_eq_false_iff]
        refine ⟨hne, hne1, ?_⟩
        by_cases hji : j + 1 = i
        · right
          intro hcat
          subst hji
          have := sd_cat.mp hcat
          have hp := hc.2
          simp only [am_pw, hw] at hp
          rw [this] at hp
          cases hp
        · left; exact hji
  · cases hs
end
section
def sd_KS (A : Nat → Prop) (s : State) : Prop := ∃ aK aV : Nat, (vk_S 1 [5] [[110, 101, 115, 119, 45]] (fun _ => aK) (fun _ => aV) A s s.heap ∧ va_Z "java/lang/String" "COMPACT_STRINGS" "Z" (.int 1) A s s.heap) ∧ vk_R "SeenADayLate$Letters" 68 "nesw-" aK s
/-! THE SIMULATION, plain instructions -/
/-- what holds of the launch's tables all along -/
def sd_KB (D : va_G) (A : Nat → Prop) (s : State) : Prop := (∀ (c : Nat) (q : vw_C), sd_cl[c]? = some q → u_Kn s q.1 q.2.1 q.2.2 (D.1 c) (D.2 c)) ∧ va_AO "SeenADayLate$Walker" s ∧ (Cond.arrayOver (.array .int)).before #[] s = true ∧ sd_KS A s ∧ (∀ k : Nat, (k = 1 ∨ k = 2 ∨ k = 3 ∨ k = 6 ∨ k = 8) → va_Nw (.castable (sd_R k) "SeenADayLate$Walker") s)
def sd_Cx (p : Program) (s : State) (m : MethodId) (args : Array Value) (meth : Method) (c : Code) (j : Nat) (D : va_G) (A : Nat → Prop) : Prop :=
  p.tables.exec = Jvm.exec ∧ c.code = sd_b j ∧ c.maxLocals = am_mx j ∧ meth.sig.returnType = sd_rt j ∧ meth.locks = false ∧ s.vm.findClass (sd_y j).cls = some m.cls ∧ (∀ w ∈ sd_tb, w.before args s = true) ∧ meth.name = (sd_y j).name ∧ sd_KB D A s ∧ (∀ q, s.heap.size ≤ q → A q)
def sd_W (p : Program) (l : Launch) (e : Env) (R : Room) (s : State) (m : MethodId) (args : Array Value) (below : List Frame) (meth : Method) (c : Code) (D : va_G) (A : Nat → Prop) (n0 : Nat) (γ0 : Nat → Nat) (κ0 : Nat → ClassId) (sh0 : Nat → Nat × Nat) (Q : State → Prop) (j cells slots pc : Nat) (ls : Lc) (st : List AV) (h : Hp) : Prop :=
  ∀ (γ : Nat → Nat) (κ : Nat → ClassId) (sh : Nat → Nat × Nat) (H : Heap) (locs : List Loc) (lsC : Array Slot), n0 ≤ h.1.1 → (∀ i, i < n0 → γ i = γ0 i ∧ κ i = κ0 i ∧ sh i = sh0 i) → sd_Rel D A γ κ sh h s H → va_S A s.heap H locs → sd_LR γ sh h.1.1 ls lsC (am_mx j) → (∀ v ∈ st, sd_OK sh h.1.1 v) →
    W p l e R s m args below meth c H locs cells slots Q (F0 m pc lsC (st.map (sd_cv γ)))
theorem sd_Oc {sh : Nat → Nat × Nat} {n : Nat} {v : AV} {r : List AV} (h1 : sd_OK sh n v) (h2 : ∀ w ∈ r, sd_OK sh n w) : ∀ w ∈ v :: r, sd_OK sh n w := fun w hw => (List.mem_cons.mp hw).elim (fun q => q ▸ h1) (h2 w)
theorem sd_Ot {sh : Nat → Nat × Nat} {n : Nat} {v : AV} {r : List AV} (h : ∀ w ∈ v :: r, sd_OK sh n w) : ∀ w ∈ r, sd_OK sh n w := fun w hw => h w (List.mem_cons_of_mem _ hw)
theorem sd_Oh {sh : Nat → Nat × Nat} {n : Nat} {v : AV} {r : List AV} (h : ∀ w ∈ v :: r, sd_OK sh n w) : sd_OK sh n v := h v List.mem_cons_self
theorem sd_s1lt {ls l2 : Lc} {i : Nat} {v : AV} (h : am_s1 ls i v = some l2) : i < ls.length := by
  unfold am_s1 at h
  split at h
  · rename_i q; exact q.1
  · cases h
theorem sd_s2lt {ls l2 : Lc} {i : Nat} {v : AV} (h : am_s2 ls i v = some l2) : i + 1 < ls.length := by
  unfold am_s2 at h
  split at h
  · rename_i q; exact q.1
  · cases h
section SIM
variable {p : Program} {l : Launch} {e : Env} {R : Room} {s : State} {m : MethodId} {args : Array Value} {below : List Frame} {meth : Method} {c : Code} {Q : State → Prop} {D : va_G} {A : Nat → Prop} {n0 : Nat} {γ0 : Nat → Nat} {κ0 : Nat → ClassId} {sh0 : Nat → Nat × Nat} {j cells slots pc pc2 len a b cq q : Nat} {ls ls2 : Lc} {st st2 : List AV} {h h2 : Hp}
theorem sm_aconst_null  (C : sd_Cx p s m args meth c j D A) (hv : sd_vb j pc (.aconst_null, len, a, b, cq, q) = true) (hs : am_stp pc (.aconst_null) len a b cq ls st h = some (.inl (pc2, ls2, st2, h2)))
    (kk : sd_W p l e R s m args below meth c D A n0 γ0 κ0 sh0 Q j (cells + (h2.1.1 - h.1.1)) (slots + (h2.1.2 - h.1.2)) pc2 ls2 st2 h2) : sd_W p l e R s m args below meth c D A n0 γ0 κ0 sh0 Q j cells slots pc ls st h := by
  obtain ⟨hx, hb, hml, hr, hlk, hown, hts, hnm, hKB, hA⟩ := C
  simp only [sd_vb, Bool.and_eq_true, decide_eq_true_eq, beq_iff_eq] at hv
  obtain ⟨hd, rfl⟩ := hv
  simp only [am_stp] at hs
  simp only [am_nx, Option.some.injEq, Sum.inl.injEq, Prod.mk.injEq] at hs
  obtain ⟨rfl, rfl, rfl, rfl⟩ := hs
  simp only [Nat.sub_self, Nat.add_zero] at kk
  intro γ κ sh H locs lsC hn0 hg hR hS hL hO
  refine lv_null hx hb hd ?_
  exact kk γ κ sh H locs lsC hn0 hg hR hS hL (sd_Oc sd_OKn hO)
theorem sm_iconst {n : Int} (C : sd_Cx p s m args meth c j D A) (hv : sd_vb j pc (.iconst n, len, a, b, cq, q) = true) (hs : am_stp pc (.iconst n) len a b cq ls st h = some (.inl (pc2, ls2, st2, h2)))
    (kk : sd_W p l e R s m args below meth c D A n0 γ0 κ0 sh0 Q j (cells + (h2.1.1 - h.1.1)) (slots + (h2.1.2 - h.1.2)) pc2 ls2 st2 h2) : sd_W p l e R s m args below meth c D A n0 γ0 κ0 sh0 Q j cells slots pc ls st h := by
  obtain ⟨hx, hb, hml, hr, hlk, hown, hts, hnm, hKB, hA⟩ := C
  simp only [sd_vb, Bool.and_eq_true, decide_eq_true_eq, beq_iff_eq] at hv
  obtain ⟨hd, rfl⟩ := hv
  simp only [am_stp] at hs
  simp only [am_nx, Option.some.injEq, Sum.inl.injEq, Prod.mk.injEq] at hs
  obtain ⟨rfl, rfl, rfl, rfl⟩ := hs
  simp only [Nat.sub_self, Nat.add_zero] at kk
  intro γ κ sh H locs lsC hn0 hg hR hS hL hO
  refine lv_iconst hx hb hd rfl ?_
  exact kk γ κ sh H locs lsC hn0 hg hR hS hL (sd_Oc sd_OKi hO)
theorem sm_bipush {n : Int} (C : sd_Cx p s m args meth c j D A) (hv : sd_vb j pc (.bipush n, len, a, b, cq, q) = true) (hs : am_stp pc (.bipush n) len a b cq ls st h = some (.inl (pc2, ls2, st2, h2)))
    (kk : sd_W p l e R s m args below meth c D A n0 γ0 κ0 sh0 Q j (cells + (h2.1.1 - h.1.1)) (slots + (h2.1.2 - h.1.2)) pc2 ls2 st2 h2) : sd_W p l e R s m args below meth c D A n0 γ0 κ0 sh0 Q j cells slots pc ls st h := by
  obtain ⟨hx, hb, hml, hr, hlk, hown, hts, hnm, hKB, hA⟩ := C
  simp only [sd_vb, Bool.and_eq_true, decide_eq_true_eq, beq_iff_eq] at hv
  obtain ⟨hd, rfl⟩ := hv
  simp only [am_stp] at hs
  simp only [am_nx, Option.some.injEq, Sum.inl.injEq, Prod.mk.injEq] at hs
  obtain ⟨rfl, rfl, rfl, rfl⟩ := hs
  simp only [Nat.sub_self, Nat.add_zero] at kk
  intro γ κ sh H locs lsC hn0 hg hR hS hL hO
  refine lv_bipush hx hb hd rfl ?_
  exact kk γ κ sh H locs lsC hn0 hg hR hS hL (sd_Oc sd_OKi hO)
theorem sm_sipush {n : Int} (C : sd_Cx p s m args meth c j D A) (hv : sd_vb j pc (.sipush n, len, a, b, cq, q) = true) (hs : am_stp pc (.sipush n) len a b cq ls st h = some (.inl (pc2, ls2, st2, h2)))
    (kk : sd_W p l e R s m args below meth c D A n0 γ0 κ0 sh0 Q j (cells + (h2.1.1 - h.1.1)) (slots + (h2.1.2 - h.1.2)) pc2 ls2 st2 h2) : sd_W p l e R s m args below meth c D A n0 γ0 κ0 sh0 Q j cells slots pc ls st h := by
  obtain ⟨hx, hb, hml, hr, hlk, hown, hts, hnm, hKB, hA⟩ := C
  simp only [sd_vb, Bool.and_eq_true, decide_eq_true_eq, beq_iff_eq] at hv
  obtain ⟨hd, rfl⟩ := hv
  simp only [am_stp] at hs
  simp only [am_nx, Option.some.injEq, Sum.inl.injEq, Prod.mk.injEq] at hs
  obtain ⟨rfl, rfl, rfl, rfl⟩ := hs
  simp only [Nat.sub_self, Nat.add_zero] at kk
  intro γ κ sh H locs lsC hn0 hg hR hS hL hO
  refine lv_sipush hx hb hd rfl ?_
  exact kk γ κ sh H locs lsC hn0 hg hR hS hL (sd_Oc sd_OKi hO)
theorem sm_lconst {n : Fin 2} (C : sd_Cx p s m args meth c j D A) (hv : sd_vb j pc (.lconst n, len, a, b, cq, q) = true) (hs : am_stp pc (.lconst n) len a b cq ls st h = some (.inl (pc2, ls2, st2, h2)))
    (kk : sd_W p l e R s m args below meth c D A n0 γ0 κ0 sh0 Q j (cells + (h2.1.1 - h.1.1)) (slots + (h2.1.2 - h.1.2)) pc2 ls2 st2 h2) : sd_W p l e R s m args below meth c D A n0 γ0 κ0 sh0 Q j cells slots pc ls st h := by
  obtain ⟨hx, hb, hml, hr, hlk, hown, hts, hnm, hKB, hA⟩ := C
  simp only [sd_vb, Bool.and_eq_true, decide_eq_true_eq, beq_iff_eq] at hv
  obtain ⟨hd, rfl⟩ := hv
  simp only [am_stp] at hs
  simp only [am_nx, Option.some.injEq, Sum.inl.injEq, Prod.mk.injEq] at hs
  obtain ⟨rfl, rfl, rfl, rfl⟩ := hs
  simp only [Nat.sub_self, Nat.add_zero] at kk
  intro γ κ sh H locs lsC hn0 hg hR hS hL hO
  refine lv_lconst hx hb hd rfl ?_
  exact kk γ κ sh H locs lsC hn0 hg hR hS hL (sd_Oc sd_OKl hO)
theorem sm_ldc {n : Nat} (C : sd_Cx p s m args meth c j D A) (hv : sd_vb j pc (.ldc n, len, a, b, cq, q) = true) (hs : am_stp pc (.ldc n) len a b cq ls st h = some (.inl (pc2, ls2, st2, h2)))
    (kk : sd_W p l e R s m args below meth c D A n0 γ0 κ0 sh0 Q j (cells + (h2.1.1 - h.1.1)) (slots + (h2.1.2 - h.1.2)) pc2 ls2 st2 h2) : sd_W p l e R s m args below meth c D A n0 γ0 κ0 sh0 Q j cells slots pc ls st h := by
  obtain ⟨hx, hb, hml, hr, hlk, hown, hts, hnm, hKB, hA⟩ := C
  simp only [sd_vb, Bool.and_eq_true, decide_eq_true_eq, beq_iff_eq] at hv
  obtain ⟨hd, rfl, hq⟩ := hv
  simp only [am_stp] at hs
  simp only [am_nx, Option.some.injEq, Sum.inl.injEq, Prod.mk.injEq] at hs
  obtain ⟨rfl, rfl, rfl, rfl⟩ := hs
  simp only [Nat.sub_self, Nat.add_zero] at kk
  intro γ κ sh H locs lsC hn0 hg hR hS hL hO
  refine lv_ldc hx hb hown (hts _ (sd_in q hq rfl)) hd ?_
  exact kk γ κ sh H locs lsC hn0 hg hR hS hL (sd_Oc sd_OKi hO)
theorem sm_ldc2_w {n : Nat} (C : sd_Cx p s m args meth c j D A) (hv : sd_vb j pc (.ldc2_w n, len, a, b, cq, q) = true) (hs : am_stp pc (.ldc2_w n) len a b cq ls st h = some (.inl (pc2, ls2, st2, h2)))
    (kk : sd_W p l e R s m args below meth c D A n0 γ0 κ0 sh0 Q j (cells + (h2.1.1 - h.1.1)) (slots + (h2.1.2 - h.1.2)) pc2 ls2 st2 h2) : sd_W p l e R s m args below meth c D A n0 γ0 κ0 sh0 Q j cells slots pc ls st h := by
  obtain ⟨hx, hb, hml, hr, hlk, hown, hts, hnm, hKB, hA⟩ := C
  simp only [sd_vb, Bool.and_eq_true, decide_eq_true_eq, beq_iff_eq] at hv
  obtain ⟨hd, rfl, hq⟩ := hv
  simp only [am_stp] at hs
  simp only [am_nx, Option.some.injEq, Sum.inl.injEq, Prod.mk.injEq] at hs
  obtain ⟨rfl, rfl, rfl, rfl⟩ := hs
  simp only [Nat.sub_self, Nat.add_zero] at kk
  intro γ κ sh H locs lsC hn0 hg hR hS hL hO
  refine lv_ldc2 hx hb hown (hts _ (sd_in q hq rfl)) hd ?_
  exact kk γ κ sh H locs lsC hn0 hg hR hS hL (sd_Oc sd_OKl hO)
theorem sm_ldc_w {n : Nat} (C : sd_Cx p s m args meth c j D A) (hv : sd_vb j pc (.ldc_w n, len, a, b, cq, q) = true) (hs : am_stp pc (.ldc_w n) len a b cq ls st h = some (.inl (pc2, ls2, st2, h2)))
    (kk : sd_W p l e R s m args below meth c D A n0 γ0 κ0 sh0 Q j (cells + (h2.1.1 - h.1.1)) (slots + (h2.1.2 - h.1.2)) pc2 ls2 st2 h2) : sd_W p l e R s m args below meth c D A n0 γ0 κ0 sh0 Q j cells slots pc ls st h := by
  obtain ⟨hx, hb, hml, hr, hlk, hown, hts, hnm, hKB, hA⟩ := C
  simp only [sd_vb, Bool.and_eq_true, decide_eq_true_eq, beq_iff_eq] at hv
  obtain ⟨hd, rfl, hq⟩ := hv
  simp only [am_stp] at hs
  simp only [am_nx, Option.some.injEq, Sum.inl.injEq, Prod.mk.injEq] at hs
  obtain ⟨rfl, rfl, rfl, rfl⟩ := hs
  simp only [Nat.sub_self, Nat.add_zero] at kk
  intro γ κ sh H locs lsC hn0 hg hR hS hL hO
  intro T hT X
  obtain ⟨t, a1, b1⟩ := kk γ κ sh H locs lsC hn0 hg hR hS hL (sd_Oc sd_OKi hO) T hT X
  exact ⟨t, va_ldcwI X hx hown (hts _ (sd_in q hq rfl)) (g := F0 m pc lsC (st.map (sd_cv γ))) rfl (by rw [hb]; exact hd) t a1, b1⟩
theorem sm_iload {k : Nat} (C : sd_Cx p s m args meth c j D A) (hv : sd_vb j pc (.iload k, len, a, b, cq, q) = true) (hs : am_stp pc (.iload k) len a b cq ls st h = some (.inl (pc2, ls2, st2, h2)))
    (kk : sd_W p l e R s m args below meth c D A n0 γ0 κ0 sh0 Q j (cells + (h2.1.1 - h.1.1)) (slots + (h2.1.2 - h.1.2)) pc2 ls2 st2 h2) : sd_W p l e R s m args below meth c D A n0 γ0 κ0 sh0 Q j cells slots pc ls st h := by
  obtain ⟨hx, hb, hml, hr, hlk, hown, hts, hnm, hKB, hA⟩ := C
  simp only [sd_vb, Bool.and_eq_true, decide_eq_true_eq, beq_iff_eq] at hv
  obtain ⟨hd, rfl⟩ := hv
  simp only [am_stp] at hs
  split at hs
  · rename_i x hld
    simp only [am_nx, Option.some.injEq, Sum.inl.injEq, Prod.mk.injEq] at hs
    obtain ⟨rfl, rfl, rfl, rfl⟩ := hs
    simp only [Nat.sub_self, Nat.add_zero] at kk
    intro γ κ sh H locs lsC hn0 hg hR hS hL hO
    refine lv_iload hx hb hd (hL.2.2.2 _ _ hld).2 ?_
    exact kk γ κ sh H locs lsC hn0 hg hR hS hL (sd_Oc (hL.2.2.2 _ _ hld).1 hO)
  · cases hs
theorem sm_iload_n {k : Fin 4} (C : sd_Cx p s m args meth c j D A) (hv : sd_vb j pc (.iload_n k, len, a, b, cq, q) = true) (hs : am_stp pc (.iload_n k) len a b cq ls st h = some (.inl (pc2, ls2, st2, h2)))
    (kk : sd_W p l e R s m args below meth c D A n0 γ0 κ0 sh0 Q j (cells + (h2.1.1 - h.1.1)) (slots + (h2.1.2 - h.1.2)) pc2 ls2 st2 h2) : sd_W p l e R s m args below meth c D A n0 γ0 κ0 sh0 Q j cells slots pc ls st h := by
  obtain ⟨hx, hb, hml, hr, hlk, hown, hts, hnm, hKB, hA⟩ := C
  simp only [sd_vb, Bool.and_eq_true, decide_eq_true_eq, beq_iff_eq] at hv
  obtain ⟨hd, rfl⟩ := hv
  simp only [am_stp] at hs
  split at hs
  · rename_i x hld
    simp only [am_nx, Option.some.injEq, Sum.inl.injEq, Prod.mk.injEq] at hs
    obtain ⟨rfl, rfl, rfl, rfl⟩ := hs
    simp only [Nat.sub_self, Nat.add_zero] at kk
    intro γ κ sh H locs lsC hn0 hg hR hS hL hO
    refine lv_iload_n hx hb hd rfl (hL.2.2.2 _ _ hld).2 ?_
    exact kk γ κ sh H locs lsC hn0 hg hR hS hL (sd_Oc (hL.2.2.2 _ _ hld).1 hO)
  · cases hs
theorem sm_lload {k : Nat} (C : sd_Cx p s m args meth c j D A) (hv : sd_vb j pc (.lload k, len, a, b, cq, q) = true) (hs : am_stp pc (.lload k) len a b cq ls st h = some (.inl (pc2, ls2, st2, h2)))
    (kk : sd_W p l e R s m args below meth c D A n0 γ0 κ0 sh0 Q j (cells + (h2.1.1 - h.1.1)) (slots + (h2.1.2 - h.1.2)) pc2 ls2 st2 h2) : sd_W p l e R s m args below meth c D A n0 γ0 κ0 sh0 Q j cells slots pc ls st h := by
  obtain ⟨hx, hb, hml, hr, hlk, hown, hts, hnm, hKB, hA⟩ := C
  simp only [sd_vb, Bool.and_eq_true, decide_eq_true_eq, beq_iff_eq] at hv
  obtain ⟨hd, rfl⟩ := hv
  simp only [am_stp] at hs
  split at hs
  · rename_i x hld
    simp only [am_nx, Option.some.injEq, Sum.inl.injEq, Prod.mk.injEq] at hs
    obtain ⟨rfl, rfl, rfl, rfl⟩ := hs
    simp only [Nat.sub_self, Nat.add_zero] at kk
    intro γ κ sh H locs lsC hn0 hg hR hS hL hO
    refine lv_lload hx hb hd (hL.2.2.2 _ _ hld).2 ?_
    exact kk γ κ sh H locs lsC hn0 hg hR hS hL (sd_Oc (hL.2.2.2 _ _ hld).1 hO)
  · cases hs
theorem sm_lload_n {k : Fin 4} (C : sd_Cx p s m args meth c j D A) (hv : sd_vb j pc (.lload_n k, len, a, b, cq, q) = true) (hs : am_stp pc (.lload_n k) len a b cq ls st h = some (.inl (pc2, ls2, st2, h2)))
    (kk : sd_W p l e R s m args below meth c D A n0 γ0 κ0 sh0 Q j (cells + (h2.1.1 - h.1.1)) (slots + (h2.1.2 - h.1.2)) pc2 ls2 st2 h2) : sd_W p l e R s m args below meth c D A n0 γ0 κ0 sh0 Q j cells slots pc ls st h := by
  obtain ⟨hx, hb, hml, hr, hlk, hown, hts, hnm, hKB, hA⟩ := C
  simp only [sd_vb, Bool.and_eq_true, decide_eq_true_eq, beq_iff_eq] at hv
  obtain ⟨hd, rfl⟩ := hv
  simp only [am_stp] at hs
  split at hs
  · rename_i x hld
    simp only [am_nx, Option.some.injEq, Sum.inl.injEq, Prod.mk.injEq] at hs
    obtain ⟨rfl, rfl, rfl, rfl⟩ := hs
    simp only [Nat.sub_self, Nat.add_zero] at kk
    intro γ κ sh H locs lsC hn0 hg hR hS hL hO
    refine lv_lload_n hx hb hd rfl (hL.2.2.2 _ _ hld).2 ?_
    exact kk γ κ sh H locs lsC hn0 hg hR hS hL (sd_Oc (hL.2.2.2 _ _ hld).1 hO)
  · cases hs
theorem sm_aload {k : Nat} (C : sd_Cx p s m args meth c j D A) (hv : sd_vb j pc (.aload k, len, a, b, cq, q) = true) (hs : am_stp pc (.aload k) len a b cq ls st h = some (.inl (pc2, ls2, st2, h2)))
    (kk : sd_W p l e R s m args below meth c D A n0 γ0 κ0 sh0 Q j (cells + (h2.1.1 - h.1.1)) (slots + (h2.1.2 - h.1.2)) pc2 ls2 st2 h2) : sd_W p l e R s m args below meth c D A n0 γ0 κ0 sh0 Q j cells slots pc ls st h := by
  obtain ⟨hx, hb, hml, hr, hlk, hown, hts, hnm, hKB, hA⟩ := C
  simp only [sd_vb, Bool.and_eq_true, decide_eq_true_eq, beq_iff_eq] at hv
  obtain ⟨hd, rfl⟩ := hv
  simp only [am_stp] at hs
  split at hs
  · rename_i x hld
    simp only [am_nx, Option.some.injEq, Sum.inl.injEq, Prod.mk.injEq] at hs
    obtain ⟨rfl, rfl, rfl, rfl⟩ := hs
    simp only [Nat.sub_self, Nat.add_zero] at kk
    intro γ κ sh H locs lsC hn0 hg hR hS hL hO
    have hq := hL.2.2.2 _ _ hld
    cases x with
    | none =>
      refine lv_aloadN hx hb hd hq.2 ?_
      exact kk γ κ sh H locs lsC hn0 hg hR hS hL (sd_Oc hq.1 hO)
    | some x =>
      refine lv_aload hx hb hd hq.2 ?_
      exact kk γ κ sh H locs lsC hn0 hg hR hS hL (sd_Oc hq.1 hO)
  · cases hs
theorem sm_aload_n {k : Fin 4} (C : sd_Cx p s m args meth c j D A) (hv : sd_vb j pc (.aload_n k, len, a, b, cq, q) = true) (hs : am_stp pc (.aload_n k) len a b cq ls st h = some (.inl (pc2, ls2, st2, h2)))
    (kk : sd_W p l e R s m args below meth c D A n0 γ0 κ0 sh0 Q j (cells + (h2.1.1 - h.1.1)) (slots + (h2.1.2 - h.1.2)) pc2 ls2 st2 h2) : sd_W p l e R s m args below meth c D A n0 γ0 κ0 sh0 Q j cells slots pc ls st h := by
  obtain ⟨hx, hb, hml, hr, hlk, hown, hts, hnm, hKB, hA⟩ := C
  simp only [sd_vb, Bool.and_eq_true, decide_eq_true_eq, beq_iff_eq] at hv
  obtain ⟨hd, rfl⟩ := hv
  simp only [am_stp] at hs
  split at hs
  · rename_i x hld
    simp only [am_nx, Option.some.injEq, Sum.inl.injEq, Prod.mk.injEq] at hs
    obtain ⟨rfl, rfl, rfl, rfl⟩ := hs
    simp only [Nat.sub_self, Nat.add_zero] at kk
    intro γ κ sh H locs lsC hn0 hg hR hS hL hO
    have hq := hL.2.2.2 _ _ hld
    cases x with
    | none =>
      refine lv_aload_nN hx hb hd rfl hq.2 ?_
      exact kk γ κ sh H locs lsC hn0 hg hR hS hL (sd_Oc hq.1 hO)
    | some x =>
      refine lv_aload_n hx hb hd rfl hq.2 ?_
      exact kk γ κ sh H locs lsC hn0 hg hR hS hL (sd_Oc hq.1 hO)
  · cases hs
theorem sm_istore {k : Nat} (C : sd_Cx p s m args meth c j D A) (hv : sd_vb j pc (.istore k, len, a, b, cq, q) = true) (hs : am_stp pc (.istore k) len a b cq ls st h = some (.inl (pc2, ls2, st2, h2)))
    (kk : sd_W p l e R s m args below meth c D A n0 γ0 κ0 sh0 Q j (cells + (h2.1.1 - h.1.1)) (slots + (h2.1.2 - h.1.2)) pc2 ls2 st2 h2) : sd_W p l e R s m args below meth c D A n0 γ0 κ0 sh0 Q j cells slots pc ls st h := by
  obtain ⟨hx, hb, hml, hr, hlk, hown, hts, hnm, hKB, hA⟩ := C
  simp only [sd_vb, Bool.and_eq_true, decide_eq_true_eq, beq_iff_eq] at hv
  obtain ⟨hd, rfl⟩ := hv
  simp only [am_stp] at hs
  split at hs
  · rename_i x r
    split at hs
    · rename_i l2 hs1
      simp only [am_nx, Option.some.injEq, Sum.inl.injEq, Prod.mk.injEq] at hs
      obtain ⟨rfl, rfl, rfl, rfl⟩ := hs
      simp only [Nat.sub_self, Nat.add_zero] at kk
      intro γ κ sh H locs lsC hn0 hg hR hS hL hO
      refine lv_istore hx hb hd (sd_LRh hL) (by rw [← hL.1]; exact sd_s1lt hs1) rfl (fun lsD hD => ?_)
      exact kk γ κ sh H locs lsD hn0 hg hR hS (sd_st1 hL hs1 (sd_Oh hO) hD) (sd_Ot hO)
    · cases hs
  · cases hs
theorem sm_istore_n {k : Fin 4} (C : sd_Cx p s m args meth c j D A) (hv : sd_vb j pc (.istore_n k, len, a, b, cq, q) = true) (hs : am_stp pc (.istore_n k) len a b cq ls st h = some (.inl (pc2, ls2, st2, h2)))
    (kk : sd_W p l e R s m args below meth c D A n0 γ0 κ0 sh0 Q j (cells + (h2.1.1 - h.1.1)) (slots + (h2.1.2 - h.1.2)) pc2 ls2 st2 h2) : sd_W p l e R s m args below meth c D A n0 γ0 κ0 sh0 Q j cells slots pc ls st h := by
  obtain ⟨hx, hb, hml, hr, hlk, hown, hts, hnm, hKB, hA⟩ := C
  simp only [sd_vb, Bool.and_eq_true, decide_eq_true_eq, beq_iff_eq] at hv
  obtain ⟨hd, rfl⟩ := hv
  simp only [am_stp] at hs
  split at hs
  · rename_i x r
    split at hs
    · rename_i l2 hs1
      simp only [am_nx, Option.some.injEq, Sum.inl.injEq, Prod.mk.injEq] at hs
      obtain ⟨rfl, rfl, rfl, rfl⟩ := hs
      simp only [Nat.sub_self, Nat.add_zero] at kk
      intro γ κ sh H locs lsC hn0 hg hR hS hL hO
      refine lv_istore_n hx hb hd rfl (sd_LRh hL) (by rw [← hL.1]; exact sd_s1lt hs1) rfl (fun lsD hD => ?_)
      exact kk γ κ sh H locs lsD hn0 hg hR hS (sd_st1 hL hs1 (sd_Oh hO) hD) (sd_Ot hO)
    · cases hs
  · cases hs
theorem sm_lstore {k : Nat} (C : sd_Cx p s m args meth c j D A) (hv : sd_vb j pc (.lstore k, len, a, b, cq, q) = true) (hs : am_stp pc (.lstore k) len a b cq ls st h = some (.inl (pc2, ls2, st2, h2)))
    (kk : sd_W p l e R s m args below meth c D A n0 γ0 κ0 sh0 Q j (cells + (h2.1.1 - h.1.1)) (slots + (h2.1.2 - h.1.2)) pc2 ls2 st2 h2) : sd_W p l e R s m args below meth c D A n0 γ0 κ0 sh0 Q j cells slots pc ls st h := by
  obtain ⟨hx, hb, hml, hr, hlk, hown, hts, hnm, hKB, hA⟩ := C
  simp only [sd_vb, Bool.and_eq_true, decide_eq_true_eq, beq_iff_eq] at hv
  obtain ⟨hd, rfl⟩ := hv
  simp only [am_stp] at hs
  split at hs
  · rename_i x r
    split at hs
    · rename_i l2 hs1
      simp only [am_nx, Option.some.injEq, Sum.inl.injEq, Prod.mk.injEq] at hs
      obtain ⟨rfl, rfl, rfl, rfl⟩ := hs
      simp only [Nat.sub_self, Nat.add_zero] at kk
      intro γ κ sh H locs lsC hn0 hg hR hS hL hO
      refine lv_lstore hx hb hd (sd_LRh hL) (by rw [← hL.1]; exact sd_s2lt hs1) rfl (fun lsD hD => ?_)
      exact kk γ κ sh H locs lsD hn0 hg hR hS (sd_st2 hL hs1 (sd_Oh hO) hD) (sd_Ot hO)
    · cases hs
  · cases hs
theorem sm_astore {k : Nat} (C : sd_Cx p s m args meth c j D A) (hv : sd_vb j pc (.astore k, len, a, b, cq, q) = true) (hs : am_stp pc (.astore k) len a b cq ls st h = some (.inl (pc2, ls2, st2, h2)))
    (kk : sd_W p l e R s m args below meth c D A n0 γ0 κ0 sh0 Q j (cells + (h2.1.1 - h.1.1)) (slots + (h2.1.2 - h.1.2)) pc2 ls2 st2 h2) : sd_W p l e R s m args below meth c D A n0 γ0 κ0 sh0 Q j cells slots pc ls st h := by
  obtain ⟨hx, hb, hml, hr, hlk, hown, hts, hnm, hKB, hA⟩ := C
  simp only [sd_vb, Bool.and_eq_true, decide_eq_true_eq, beq_iff_eq] at hv
  obtain ⟨hd, rfl⟩ := hv
  simp only [am_stp] at hs
  split at hs
  · rename_i x r
    split at hs
    · rename_i l2 hs1
      simp only [am_nx, Option.some.injEq, Sum.inl.injEq, Prod.mk.injEq] at hs
      obtain ⟨rfl, rfl, rfl, rfl⟩ := hs
      simp only [Nat.sub_self, Nat.add_zero] at kk
      intro γ κ sh H locs lsC hn0 hg hR hS hL hO
      cases x with
      | none =>
        refine lv_astoreN hx hb hd (sd_LRh hL) (by rw [← hL.1]; exact sd_s1lt hs1) rfl (fun lsD hD => ?_)
        exact kk γ κ sh H locs lsD hn0 hg hR hS (sd_st1 hL hs1 (sd_Oh hO) hD) (sd_Ot hO)
      | some x =>
        refine lv_astore hx hb hd (sd_LRh hL) (by rw [← hL.1]; exact sd_s1lt hs1) rfl (fun lsD hD => ?_)
        exact kk γ κ sh H locs lsD hn0 hg hR hS (sd_st1 hL hs1 (sd_Oh hO) hD) (sd_Ot hO)
    · cases hs
  · cases hs
theorem sm_astore_n {k : Fin 4} (C : sd_Cx p s m args meth c j D A) (hv : sd_vb j pc (.astore_n k, len, a, b, cq, q) = true) (hs : am_stp pc (.astore_n k) len a b cq ls st h = some (.inl (pc2, ls2, st2, h2)))
    (kk : sd_W p l e R s m args below meth c D A n0 γ0 κ0 sh0 Q j (cells + (h2.1.1 - h.1.1)) (slots + (h2.1.2 - h.1.2)) pc2 ls2 st2 h2) : sd_W p l e R s m args below meth c D A n0 γ0 κ0 sh0 Q j cells slots pc ls st h := by
  obtain ⟨hx, hb, hml, hr, hlk, hown, hts, hnm, hKB, hA⟩ := C
  simp only [sd_vb, Bool.and_eq_true, decide_eq_true_eq, beq_iff_eq] at hv
  obtain ⟨hd, rfl⟩ := hv
  simp only [am_stp] at hs
  split at hs
  · rename_i x r
    split at hs
    · rename_i l2 hs1
      simp only [am_nx, Option.some.injEq, Sum.inl.injEq, Prod.mk.injEq] at hs
      obtain ⟨rfl, rfl, rfl, rfl⟩ := hs
      simp only [Nat.sub_self, Nat.add_zero] at kk
      intro γ κ sh H locs lsC hn0 hg hR hS hL hO
      cases x with
      | none =>
        refine lv_astore_nN hx hb hd rfl (sd_LRh hL) (by rw [← hL.1]; exact sd_s1lt hs1) rfl (fun lsD hD => ?_)
        exact kk γ κ sh H locs lsD hn0 hg hR hS (sd_st1 hL hs1 (sd_Oh hO) hD) (sd_Ot hO)
      | some x =>
        refine lv_astore_n hx hb hd rfl (sd_LRh hL) (by rw [← hL.1]; exact sd_s1lt hs1) rfl (fun lsD hD => ?_)
        exact kk γ κ sh H locs lsD hn0 hg hR hS (sd_st1 hL hs1 (sd_Oh hO) hD) (sd_Ot hO)
    · cases hs
  · cases hs
theorem sm_iinc {k : Nat} {n : Int} (C : sd_Cx p s m args meth c j D A) (hv : sd_vb j pc (.iinc k n, len, a, b, cq, q) = true) (hs : am_stp pc (.iinc k n) len a b cq ls st h = some (.inl (pc2, ls2, st2, h2)))
    (kk : sd_W p l e R s m args below meth c D A n0 γ0 κ0 sh0 Q j (cells + (h2.1.1 - h.1.1)) (slots + (h2.1.2 - h.1.2)) pc2 ls2 st2 h2) : sd_W p l e R s m args below meth c D A n0 γ0 κ0 sh0 Q j cells slots pc ls st h := by
  obtain ⟨hx, hb, hml, hr, hlk, hown, hts, hnm, hKB, hA⟩ := C
  simp only [sd_vb, Bool.and_eq_true, decide_eq_true_eq, beq_iff_eq] at hv
  obtain ⟨hd, rfl⟩ := hv
  simp only [am_stp] at hs
  split at hs
  · rename_i x hld
    split at hs
    · rename_i l2 hs1
      simp only [am_nx, Option.some.injEq, Sum.inl.injEq, Prod.mk.injEq] at hs
      obtain ⟨rfl, rfl, rfl, rfl⟩ := hs
      simp only [Nat.sub_self, Nat.add_zero] at kk
      intro γ κ sh H locs lsC hn0 hg hR hS hL hO
      obtain ⟨z, hz⟩ := List.getElem?_of_mem (sd_prM (γ := γ) (q := (k, .int x)) |>.mpr ⟨_, hld, rfl⟩)
      refine lv_iinc hx hb hd (sd_LRh hL) hz rfl (by rw [← hL.1]; exact sd_s1lt hs1) rfl (fun lsD hD => ?_)
      exact kk γ κ sh H locs lsD hn0 hg hR hS (sd_st1 hL hs1 sd_OKi hD) hO
    · cases hs
  · cases hs
theorem sm_iadd  (C : sd_Cx p s m args meth c j D A) (hv : sd_vb j pc (.iadd, len, a, b, cq, q) = true) (hs : am_stp pc (.iadd) len a b cq ls st h = some (.inl (pc2, ls2, st2, h2)))
    (kk : sd_W p l e R s m args below meth c D A n0 γ0 κ0 sh0 Q j (cells + (h2.1.1 - h.1.1)) (slots + (h2.1.2 - h.1.2)) pc2 ls2 st2 h2) : sd_W p l e R s m args below meth c D A n0 γ0 κ0 sh0 Q j cells slots pc ls st h := by
  obtain ⟨hx, hb, hml, hr, hlk, hown, hts, hnm, hKB, hA⟩ := C
  simp only [sd_vb, Bool.and_eq_true, decide_eq_true_eq, beq_iff_eq] at hv
  obtain ⟨hd, rfl⟩ := hv
  simp only [am_stp] at hs
  split at hs
  · simp only [am_nx, Option.some.injEq, Sum.inl.injEq, Prod.mk.injEq] at hs
    obtain ⟨rfl, rfl, rfl, rfl⟩ := hs
    simp only [Nat.sub_self, Nat.add_zero] at kk
    intro γ κ sh H locs lsC hn0 hg hR hS hL hO
    refine lv_iadd hx hb hd ?_
    exact kk γ κ sh H locs lsC hn0 hg hR hS hL (sd_Oc sd_OKi (sd_Ot (sd_Ot hO)))
  · cases hs
theorem sm_isub  (C : sd_Cx p s m args meth c j D A) (hv : sd_vb j pc (.isub, len, a, b, cq, q) = true) (hs : am_stp pc (.isub) len a b cq ls st h = some (.inl (pc2, ls2, st2, h2)))
    (kk : sd_W p l e R s m args below meth c D A n0 γ0 κ0 sh0 Q j (cells + (h2.1.1 - h.1.1)) (slots + (h2.1.2 - h.1.2)) pc2 ls2 st2 h2) : sd_W p l e R s m args below meth c D A n0 γ0 κ0 sh0 Q j cells slots pc ls st h := by
  obtain ⟨hx, hb, hml, hr, hlk, hown, hts, hnm, hKB, hA⟩ := C
  simp only [sd_vb, Bool.and_eq_true, decide_eq_true_eq, beq_iff_eq] at hv
  obtain ⟨hd, rfl⟩ := hv
  simp only [am_stp] at hs
  split at hs
  · simp only [am_nx, Option.some.injEq, Sum.inl.injEq, Prod.mk.injEq] at hs
    obtain ⟨rfl, rfl, rfl, rfl⟩ := hs
    simp only [Nat.sub_self, Nat.add_zero] at kk
    intro γ κ sh H locs lsC hn0 hg hR hS hL hO
    refine lv_isub hx hb hd ?_
    exact kk γ κ sh H locs lsC hn0 hg hR hS hL (sd_Oc sd_OKi (sd_Ot (sd_Ot hO)))
  · cases hs
theorem sm_imul  (C : sd_Cx p s m args meth c j D A) (hv : sd_vb j pc (.imul, len, a, b, cq, q) = true) (hs : am_stp pc (.imul) len a b cq ls st h = some (.inl (pc2, ls2, st2, h2)))
    (kk : sd_W p l e R s m args below meth c D A n0 γ0 κ0 sh0 Q j (cells + (h2.1.1 - h.1.1)) (slots + (h2.1.2 - h.1.2)) pc2 ls2 st2 h2) : sd_W p l e R s m args below meth c D A n0 γ0 κ0 sh0 Q j cells slots pc ls st h := by
  obtain ⟨hx, hb, hml, hr, hlk, hown, hts, hnm, hKB, hA⟩ := C
  simp only [sd_vb, Bool.and_eq_true, decide_eq_true_eq, beq_iff_eq] at hv
  obtain ⟨hd, rfl⟩ := hv
  simp only [am_stp] at hs
  split at hs
  · simp only [am_nx, Option.some.injEq, Sum.inl.injEq, Prod.mk.injEq] at hs
    obtain ⟨rfl, rfl, rfl, rfl⟩ := hs
    simp only [Nat.sub_self, Nat.add_zero] at kk
    intro γ κ sh H locs lsC hn0 hg hR hS hL hO
    refine lv_imul hx hb hd ?_
    exact kk γ κ sh H locs lsC hn0 hg hR hS hL (sd_Oc sd_OKi (sd_Ot (sd_Ot hO)))
  · cases hs
theorem sm_iand  (C : sd_Cx p s m args meth c j D A) (hv : sd_vb j pc (.iand, len, a, b, cq, q) = true) (hs : am_stp pc (.iand) len a b cq ls st h = some (.inl (pc2, ls2, st2, h2)))
    (kk : sd_W p l e R s m args below meth c D A n0 γ0 κ0 sh0 Q j (cells + (h2.1.1 - h.1.1)) (slots + (h2.1.2 - h.1.2)) pc2 ls2 st2 h2) : sd_W p l e R s m args below meth c D A n0 γ0 κ0 sh0 Q j cells slots pc ls st h := by
  obtain ⟨hx, hb, hml, hr, hlk, hown, hts, hnm, hKB, hA⟩ := C
  simp only [sd_vb, Bool.and_eq_true, decide_eq_true_eq, beq_iff_eq] at hv
  obtain ⟨hd, rfl⟩ := hv
  simp only [am_stp] at hs
  split at hs
  · simp only [am_nx, Option.some.injEq, Sum.inl.injEq, Prod.mk.injEq] at hs
    obtain ⟨rfl, rfl, rfl, rfl⟩ := hs
    simp only [Nat.sub_self, Nat.add_zero] at kk
    intro γ κ sh H locs lsC hn0 hg hR hS hL hO
    refine lv_iand hx hb hd ?_
    exact kk γ κ sh H locs lsC hn0 hg hR hS hL (sd_Oc sd_OKi (sd_Ot (sd_Ot hO)))
  · cases hs
theorem sm_ior  (C : sd_Cx p s m args meth c j D A) (hv : sd_vb j pc (.ior, len, a, b, cq, q) = true) (hs : am_stp pc (.ior) len a b cq ls st h = some (.inl (pc2, ls2, st2, h2)))
    (kk : sd_W p l e R s m args below meth c D A n0 γ0 κ0 sh0 Q j (cells + (h2.1.1 - h.1.1)) (slots + (h2.1.2 - h.1.2)) pc2 ls2 st2 h2) : sd_W p l e R s m args below meth c D A n0 γ0 κ0 sh0 Q j cells slots pc ls st h := by
  obtain ⟨hx, hb, hml, hr, hlk, hown, hts, hnm, hKB, hA⟩ := C
  simp only [sd_vb, Bool.and_eq_true, decide_eq_true_eq, beq_iff_eq] at hv
  obtain ⟨hd, rfl⟩ := hv
  simp only [am_stp] at hs
  split at hs
  · simp only [am_nx, Option.some.injEq, Sum.inl.injEq, Prod.mk.injEq] at hs
    obtain ⟨rfl, rfl, rfl, rfl⟩ := hs
    simp only [Nat.sub_self, Nat.add_zero] at kk
    intro γ κ sh H locs lsC hn0 hg hR hS hL hO
    refine lv_ior hx hb hd ?_
    exact kk γ κ sh H locs lsC hn0 hg hR hS hL (sd_Oc sd_OKi (sd_Ot (sd_Ot hO)))
  · cases hs
theorem sm_ixor  (C : sd_Cx p s m args meth c j D A) (hv : sd_vb j pc (.ixor, len, a, b, cq, q) = true) (hs : am_stp pc (.ixor) len a b cq ls st h = some (.inl (pc2, ls2, st2, h2)))
    (kk : sd_W p l e R s m args below meth c D A n0 γ0 κ0 sh0 Q j (cells + (h2.1.1 - h.1.1)) (slots + (h2.1.2 - h.1.2)) pc2 ls2 st2 h2) : sd_W p l e R s m args below meth c D A n0 γ0 κ0 sh0 Q j cells slots pc ls st h := by
  obtain ⟨hx, hb, hml, hr, hlk, hown, hts, hnm, hKB, hA⟩ := C
  simp only [sd_vb, Bool.and_eq_true, decide_eq_true_eq, beq_iff_eq] at hv
  obtain ⟨hd, rfl⟩ := hv
  simp only [am_stp] at hs
  split at hs
  · simp only [am_nx, Option.some.injEq, Sum.inl.injEq, Prod.mk.injEq] at hs
    obtain ⟨rfl, rfl, rfl, rfl⟩ := hs
    simp only [Nat.sub_self, Nat.add_zero] at kk
    intro γ κ sh H locs lsC hn0 hg hR hS hL hO
    refine lv_ixor hx hb hd ?_
    exact kk γ κ sh H locs lsC hn0 hg hR hS hL (sd_Oc sd_OKi (sd_Ot (sd_Ot hO)))
  · cases hs
theorem sm_ishl  (C : sd_Cx p s m args meth c j D A) (hv : sd_vb j pc (.ishl, len, a, b, cq, q) = true) (hs : am_stp pc (.ishl) len a b cq ls st h = some (.inl (pc2, ls2, st2, h2)))
    (kk : sd_W p l e R s m args below meth c D A n0 γ0 κ0 sh0 Q j (cells + (h2.1.1 - h.1.1)) (slots + (h2.1.2 - h.1.2)) pc2 ls2 st2 h2) : sd_W p l e R s m args below meth c D A n0 γ0 κ0 sh0 Q j cells slots pc ls st h := by
  obtain ⟨hx, hb, hml, hr, hlk, hown, hts, hnm, hKB, hA⟩ := C
  simp only [sd_vb, Bool.and_eq_true, decide_eq_true_eq, beq_iff_eq] at hv
  obtain ⟨hd, rfl⟩ := hv
  simp only [am_stp] at hs
  split at hs
  · simp only [am_nx, Option.some.injEq, Sum.inl.injEq, Prod.mk.injEq] at hs
    obtain ⟨rfl, rfl, rfl, rfl⟩ := hs
    simp only [Nat.sub_self, Nat.add_zero] at kk
    intro γ κ sh H locs lsC hn0 hg hR hS hL hO
    refine lv_ishl hx hb hd ?_
    exact kk γ κ sh H locs lsC hn0 hg hR hS hL (sd_Oc sd_OKi (sd_Ot (sd_Ot hO)))
  · cases hs
theorem sm_ishr  (C : sd_Cx p s m args meth c j D A) (hv : sd_vb j pc (.ishr, len, a, b, cq, q) = true) (hs : am_stp pc (.ishr) len a b cq ls st h = some (.inl (pc2, ls2, st2, h2)))
    (kk : sd_W p l e R s m args below meth c D A n0 γ0 κ0 sh0 Q j (cells + (h2.1.1 - h.1.1)) (slots + (h2.1.2 - h.1.2)) pc2 ls2 st2 h2) : sd_W p l e R s m args below meth c D A n0 γ0 κ0 sh0 Q j cells slots pc ls st h := by
  obtain ⟨hx, hb, hml, hr, hlk, hown, hts, hnm, hKB, hA⟩ := C
  simp only [sd_vb, Bool.and_eq_true, decide_eq_true_eq, beq_iff_eq] at hv
  obtain ⟨hd, rfl⟩ := hv
  simp only [am_stp] at hs
  split at hs
  · simp only [am_nx, Option.some.injEq, Sum.inl.injEq, Prod.mk.injEq] at hs
    obtain ⟨rfl, rfl, rfl, rfl⟩ := hs
    simp only [Nat.sub_self, Nat.add_zero] at kk
    intro γ κ sh H locs lsC hn0 hg hR hS hL hO
    refine lv_ishr hx hb hd ?_
    exact kk γ κ sh H locs lsC hn0 hg hR hS hL (sd_Oc sd_OKi (sd_Ot (sd_Ot hO)))
  · cases hs
theorem sm_iushr  (C : sd_Cx p s m args meth c j D A) (hv : sd_vb j pc (.iushr, len, a, b, cq, q) = true) (hs : am_stp pc (.iushr) len a b cq ls st h = some (.inl (pc2, ls2, st2, h2)))
    (kk : sd_W p l e R s m args below meth c D A n0 γ0 κ0 sh0 Q j (cells + (h2.1.1 - h.1.1)) (slots + (h2.1.2 - h.1.2)) pc2 ls2 st2 h2) : sd_W p l e R s m args below meth c D A n0 γ0 κ0 sh0 Q j cells slots pc ls st h := by
  obtain ⟨hx, hb, hml, hr, hlk, hown, hts, hnm, hKB, hA⟩ := C
  simp only [sd_vb, Bool.and_eq_true, decide_eq_true_eq, beq_iff_eq] at hv
  obtain ⟨hd, rfl⟩ := hv
  simp only [am_stp] at hs
  split at hs
  · simp only [am_nx, Option.some.injEq, Sum.inl.injEq, Prod.mk.injEq] at hs
    obtain ⟨rfl, rfl, rfl, rfl⟩ := hs
    simp only [Nat.sub_self, Nat.add_zero] at kk
    intro γ κ sh H locs lsC hn0 hg hR hS hL hO
    refine lv_iushr hx hb hd rfl ?_
    exact kk γ κ sh H locs lsC hn0 hg hR hS hL (sd_Oc sd_OKi (sd_Ot (sd_Ot hO)))
  · cases hs
theorem sm_ineg  (C : sd_Cx p s m args meth c j D A) (hv : sd_vb j pc (.ineg, len, a, b, cq, q) = true) (hs : am_stp pc (.ineg) len a b cq ls st h = some (.inl (pc2, ls2, st2, h2)))
    (kk : sd_W p l e R s m args below meth c D A n0 γ0 κ0 sh0 Q j (cells + (h2.1.1 - h.1.1)) (slots + (h2.1.2 - h.1.2)) pc2 ls2 st2 h2) : sd_W p l e R s m args below meth c D A n0 γ0 κ0 sh0 Q j cells slots pc ls st h := by
  obtain ⟨hx, hb, hml, hr, hlk, hown, hts, hnm, hKB, hA⟩ := C
  simp only [sd_vb, Bool.and_eq_true, decide_eq_true_eq, beq_iff_eq] at hv
  obtain ⟨hd, rfl⟩ := hv
  simp only [am_stp] at hs
  split at hs
  · simp only [am_nx, Option.some.injEq, Sum.inl.injEq, Prod.mk.injEq] at hs
    obtain ⟨rfl, rfl, rfl, rfl⟩ := hs
    simp only [Nat.sub_self, Nat.add_zero] at kk
    intro γ κ sh H locs lsC hn0 hg hR hS hL hO
    refine lv_ineg hx hb hd ?_
    exact kk γ κ sh H locs lsC hn0 hg hR hS hL (sd_Oc sd_OKi (sd_Ot hO))
  · cases hs
theorem sm_i2l  (C : sd_Cx p s m args meth c j D A) (hv : sd_vb j pc (.i2l, len, a, b, cq, q) = true) (hs : am_stp pc (.i2l) len a b cq ls st h = some (.inl (pc2, ls2, st2, h2)))
    (kk : sd_W p l e R s m args below meth c D A n0 γ0 κ0 sh0 Q j (cells + (h2.1.1 - h.1.1)) (slots + (h2.1.2 - h.1.2)) pc2 ls2 st2 h2) : sd_W p l e R s m args below meth c D A n0 γ0 κ0 sh0 Q j cells slots pc ls st h := by
  obtain ⟨hx, hb, hml, hr, hlk, hown, hts, hnm, hKB, hA⟩ := C
  simp only [sd_vb, Bool.and_eq_true, decide_eq_true_eq, beq_iff_eq] at hv
  obtain ⟨hd, rfl⟩ := hv
  simp only [am_stp] at hs
  split at hs
  · simp only [am_nx, Option.some.injEq, Sum.inl.injEq, Prod.mk.injEq] at hs
    obtain ⟨rfl, rfl, rfl, rfl⟩ := hs
    simp only [Nat.sub_self, Nat.add_zero] at kk
    intro γ κ sh H locs lsC hn0 hg hR hS hL hO
    refine lv_i2l hx hb hd rfl ?_
    exact kk γ κ sh H locs lsC hn0 hg hR hS hL (sd_Oc sd_OKl (sd_Ot hO))
  · cases hs
theorem sm_lmul  (C : sd_Cx p s m args meth c j D A) (hv : sd_vb j pc (.lmul, len, a, b, cq, q) = true) (hs : am_stp pc (.lmul) len a b cq ls st h = some (.inl (pc2, ls2, st2, h2)))
    (kk : sd_W p l e R s m args below meth c D A n0 γ0 κ0 sh0 Q j (cells + (h2.1.1 - h.1.1)) (slots + (h2.1.2 - h.1.2)) pc2 ls2 st2 h2) : sd_W p l e R s m args below meth c D A n0 γ0 κ0 sh0 Q j cells slots pc ls st h := by
  obtain ⟨hx, hb, hml, hr, hlk, hown, hts, hnm, hKB, hA⟩ := C
  simp only [sd_vb, Bool.and_eq_true, decide_eq_true_eq, beq_iff_eq] at hv
  obtain ⟨hd, rfl⟩ := hv
  simp only [am_stp] at hs
  split at hs
  · simp only [am_nx, Option.some.injEq, Sum.inl.injEq, Prod.mk.injEq] at hs
    obtain ⟨rfl, rfl, rfl, rfl⟩ := hs
    simp only [Nat.sub_self, Nat.add_zero] at kk
    intro γ κ sh H locs lsC hn0 hg hR hS hL hO
    refine lv_lmul hx hb hd ?_
    exact kk γ κ sh H locs lsC hn0 hg hR hS hL (sd_Oc sd_OKl (sd_Ot (sd_Ot hO)))
  · cases hs
theorem sm_lcmp  (C : sd_Cx p s m args meth c j D A) (hv : sd_vb j pc (.lcmp, len, a, b, cq, q) = true) (hs : am_stp pc (.lcmp) len a b cq ls st h = some (.inl (pc2, ls2, st2, h2)))
    (kk : sd_W p l e R s m args below meth c D A n0 γ0 κ0 sh0 Q j (cells + (h2.1.1 - h.1.1)) (slots + (h2.1.2 - h.1.2)) pc2 ls2 st2 h2) : sd_W p l e R s m args below meth c D A n0 γ0 κ0 sh0 Q j cells slots pc ls st h := by
  obtain ⟨hx, hb, hml, hr, hlk, hown, hts, hnm, hKB, hA⟩ := C
  simp only [sd_vb, Bool.and_eq_true, decide_eq_true_eq, beq_iff_eq] at hv
  obtain ⟨hd, rfl⟩ := hv
  simp only [am_stp] at hs
  split at hs
  · simp only [am_nx, Option.some.injEq, Sum.inl.injEq, Prod.mk.injEq] at hs
    obtain ⟨rfl, rfl, rfl, rfl⟩ := hs
    simp only [Nat.sub_self, Nat.add_zero] at kk
    intro γ κ sh H locs lsC hn0 hg hR hS hL hO
    refine W.lcmp hx hb hd ?_
    exact kk γ κ sh H locs lsC hn0 hg hR hS hL (sd_Oc sd_OKi (sd_Ot (sd_Ot hO)))
  · cases hs
theorem sm_idiv  (C : sd_Cx p s m args meth c j D A) (hv : sd_vb j pc (.idiv, len, a, b, cq, q) = true) (hs : am_stp pc (.idiv) len a b cq ls st h = some (.inl (pc2, ls2, st2, h2)))
    (kk : sd_W p l e R s m args below meth c D A n0 γ0 κ0 sh0 Q j (cells + (h2.1.1 - h.1.1)) (slots + (h2.1.2 - h.1.2)) pc2 ls2 st2 h2) : sd_W p l e R s m args below meth c D A n0 γ0 κ0 sh0 Q j cells slots pc ls st h := by
  obtain ⟨hx, hb, hml, hr, hlk, hown, hts, hnm, hKB, hA⟩ := C
  simp only [sd_vb, Bool.and_eq_true, decide_eq_true_eq, beq_iff_eq] at hv
  obtain ⟨hd, rfl⟩ := hv
  simp only [am_stp] at hs
  split at hs
  · split at hs
    · cases hs
    · rename_i hne
      simp only [am_nx, Option.some.injEq, Sum.inl.injEq, Prod.mk.injEq] at hs
      obtain ⟨rfl, rfl, rfl, rfl⟩ := hs
      simp only [Nat.sub_self, Nat.add_zero] at kk
      intro γ κ sh H locs lsC hn0 hg hR hS hL hO
      refine lv_idiv hx hb hd hne ?_
      exact kk γ κ sh H locs lsC hn0 hg hR hS hL (sd_Oc sd_OKi (sd_Ot (sd_Ot hO)))
  · cases hs
theorem sm_irem  (C : sd_Cx p s m args meth c j D A) (hv : sd_vb j pc (.irem, len, a, b, cq, q) = true) (hs : am_stp pc (.irem) len a b cq ls st h = some (.inl (pc2, ls2, st2, h2)))
    (kk : sd_W p l e R s m args below meth c D A n0 γ0 κ0 sh0 Q j (cells + (h2.1.1 - h.1.1)) (slots + (h2.1.2 - h.1.2)) pc2 ls2 st2 h2) : sd_W p l e R s m args below meth c D A n0 γ0 κ0 sh0 Q j cells slots pc ls st h := by
  obtain ⟨hx, hb, hml, hr, hlk, hown, hts, hnm, hKB, hA⟩ := C
  simp only [sd_vb, Bool.and_eq_true, decide_eq_true_eq, beq_iff_eq] at hv
  obtain ⟨hd, rfl⟩ := hv
  simp only [am_stp] at hs
  split at hs
  · split at hs
    · cases hs
    · rename_i hne
      simp only [am_nx, Option.some.injEq, Sum.inl.injEq, Prod.mk.injEq] at hs
      obtain ⟨rfl, rfl, rfl, rfl⟩ := hs
      simp only [Nat.sub_self, Nat.add_zero] at kk
      intro γ κ sh H locs lsC hn0 hg hR hS hL hO
      refine lv_irem hx hb hd hne ?_
      exact kk γ κ sh H locs lsC hn0 hg hR hS hL (sd_Oc sd_OKi (sd_Ot (sd_Ot hO)))
  · cases hs
theorem sm_dup  (C : sd_Cx p s m args meth c j D A) (hv : sd_vb j pc (.dup, len, a, b, cq, q) = true) (hs : am_stp pc (.dup) len a b cq ls st h = some (.inl (pc2, ls2, st2, h2)))
    (kk : sd_W p l e R s m args below meth c D A n0 γ0 κ0 sh0 Q j (cells + (h2.1.1 - h.1.1)) (slots + (h2.1.2 - h.1.2)) pc2 ls2 st2 h2) : sd_W p l e R s m args below meth c D A n0 γ0 κ0 sh0 Q j cells slots pc ls st h := by
  obtain ⟨hx, hb, hml, hr, hlk, hown, hts, hnm, hKB, hA⟩ := C
  simp only [sd_vb, Bool.and_eq_true, decide_eq_true_eq, beq_iff_eq] at hv
  obtain ⟨hd, rfl⟩ := hv
  simp only [am_stp] at hs
  split at hs
  · simp only [am_nx, Option.some.injEq, Sum.inl.injEq, Prod.mk.injEq] at hs
    obtain ⟨rfl, rfl, rfl, rfl⟩ := hs
    simp only [Nat.sub_self, Nat.add_zero] at kk
    intro γ κ sh H locs lsC hn0 hg hR hS hL hO
    refine lv_dup hx hb hd rfl ?_
    exact kk γ κ sh H locs lsC hn0 hg hR hS hL (sd_Oc (sd_Oh hO) hO)
  · rename_i x r
    simp only [am_nx, Option.some.injEq, Sum.inl.injEq, Prod.mk.injEq] at hs
    obtain ⟨rfl, rfl, rfl, rfl⟩ := hs
    simp only [Nat.sub_self, Nat.add_zero] at kk
    intro γ κ sh H locs lsC hn0 hg hR hS hL hO
    refine lv_dup hx hb hd (by cases x <;> rfl) ?_
    exact kk γ κ sh H locs lsC hn0 hg hR hS hL (sd_Oc (sd_Oh hO) hO)
  · cases hs
theorem sm_dup2  (C : sd_Cx p s m args meth c j D A) (hv : sd_vb j pc (.dup2, len, a, b, cq, q) = true) (hs : am_stp pc (.dup2) len a b cq ls st h = some (.inl (pc2, ls2, st2, h2)))
    (kk : sd_W p l e R s m args below meth c D A n0 γ0 κ0 sh0 Q j (cells + (h2.1.1 - h.1.1)) (slots + (h2.1.2 - h.1.2)) pc2 ls2 st2 h2) : sd_W p l e R s m args below meth c D A n0 γ0 κ0 sh0 Q j cells slots pc ls st h := by
  obtain ⟨hx, hb, hml, hr, hlk, hown, hts, hnm, hKB, hA⟩ := C
  simp only [sd_vb, Bool.and_eq_true, decide_eq_true_eq, beq_iff_eq] at hv
  obtain ⟨hd, rfl⟩ := hv
  simp only [am_stp] at hs
  split at hs
  · rename_i y x r
    simp only [am_nx, Option.some.injEq, Sum.inl.injEq, Prod.mk.injEq] at hs
    obtain ⟨rfl, rfl, rfl, rfl⟩ := hs
    simp only [Nat.sub_self, Nat.add_zero] at kk
    intro γ κ sh H locs lsC hn0 hg hR hS hL hO
    refine lv_dup2_11 hx hb hd rfl (by cases x <;> rfl) ?_
    exact kk γ κ sh H locs lsC hn0 hg hR hS hL (sd_Oc (sd_Oh hO) (sd_Oc (sd_Oh (sd_Ot hO)) hO))
  · cases hs
theorem sm_pop  (C : sd_Cx p s m args meth c j D A) (hv : sd_vb j pc (.pop, len, a, b, cq, q) = true) (hs : am_stp pc (.pop) len a b cq ls st h = some (.inl (pc2, ls2, st2, h2)))
    (kk : sd_W p l e R s m args below meth c D A n0 γ0 κ0 sh0 Q j (cells + (h2.1.1 - h.1.1)) (slots + (h2.1.2 - h.1.2)) pc2 ls2 st2 h2) : sd_W p l e R s m args below meth c D A n0 γ0 κ0 sh0 Q j cells slots pc ls st h := by
  obtain ⟨hx, hb, hml, hr, hlk, hown, hts, hnm, hKB, hA⟩ := C
  simp only [sd_vb, Bool.and_eq_true, decide_eq_true_eq, beq_iff_eq] at hv
  obtain ⟨hd, rfl⟩ := hv
  simp only [am_stp] at hs
  split at hs
  · simp only [am_nx, Option.some.injEq, Sum.inl.injEq, Prod.mk.injEq] at hs
    obtain ⟨rfl, rfl, rfl, rfl⟩ := hs
    simp only [Nat.sub_self, Nat.add_zero] at kk
    intro γ κ sh H locs lsC hn0 hg hR hS hL hO
    refine lv_pop hx hb hd rfl ?_
    exact kk γ κ sh H locs lsC hn0 hg hR hS hL (sd_Ot hO)
  · rename_i x r
    simp only [am_nx, Option.some.injEq, Sum.inl.injEq, Prod.mk.injEq] at hs
    obtain ⟨rfl, rfl, rfl, rfl⟩ := hs
    simp only [Nat.sub_self, Nat.add_zero] at kk
    intro γ κ sh H locs lsC hn0 hg hR hS hL hO
    refine lv_pop hx hb hd (by cases x <;> rfl) ?_
    exact kk γ κ sh H locs lsC hn0 hg hR hS hL (sd_Ot hO)
  · cases hs
theorem sm_goto {n : Int} (C : sd_Cx p s m args meth c j D A) (hv : sd_vb j pc (.goto n, len, a, b, cq, q) = true) (hs : am_stp pc (.goto n) len a b cq ls st h = some (.inl (pc2, ls2, st2, h2)))
    (kk : sd_W p l e R s m args below meth c D A n0 γ0 κ0 sh0 Q j (cells + (h2.1.1 - h.1.1)) (slots + (h2.1.2 - h.1.2)) pc2 ls2 st2 h2) : sd_W p l e R s m args below meth c D A n0 γ0 κ0 sh0 Q j cells slots pc ls st h := by
  obtain ⟨hx, hb, hml, hr, hlk, hown, hts, hnm, hKB, hA⟩ := C
  simp only [sd_vb, Bool.and_eq_true, decide_eq_true_eq, beq_iff_eq] at hv
  obtain ⟨hd, rfl, ht⟩ := hv
  simp only [am_stp] at hs
  simp only [am_nx, Option.some.injEq, Sum.inl.injEq, Prod.mk.injEq] at hs
  obtain ⟨rfl, rfl, rfl, rfl⟩ := hs
  simp only [Nat.sub_self, Nat.add_zero] at kk
  intro γ κ sh H locs lsC hn0 hg hR hS hL hO
  refine lv_goto hx hb hd ht ?_
  exact kk γ κ sh H locs lsC hn0 hg hR hS hL hO
theorem sm_ifCond {op : Jvm.ClassFile.Cond} {n : Int} (C : sd_Cx p s m args meth c j D A) (hv : sd_vb j pc (.ifCond op n, len, a, b, cq, q) = true) (hs : am_stp pc (.ifCond op n) len a b cq ls st h = some (.inl (pc2, ls2, st2, h2)))
    (kk : sd_W p l e R s m args below meth c D A n0 γ0 κ0 sh0 Q j (cells + (h2.1.1 - h.1.1)) (slots + (h2.1.2 - h.1.2)) pc2 ls2 st2 h2) : sd_W p l e R s m args below meth c D A n0 γ0 κ0 sh0 Q j cells slots pc ls st h := by
  obtain ⟨hx, hb, hml, hr, hlk, hown, hts, hnm, hKB, hA⟩ := C
  simp only [sd_vb, Bool.and_eq_true, decide_eq_true_eq, beq_iff_eq] at hv
  obtain ⟨hd, rfl, ht⟩ := hv
  simp only [am_stp] at hs
  split at hs
  · cases op with
    | eq =>
      simp only at hs
      split at hs
      · rename_i hc
        simp only [am_nx, Option.some.injEq, Sum.inl.injEq, Prod.mk.injEq] at hs
        obtain ⟨rfl, rfl, rfl, rfl⟩ := hs
        simp only [Nat.sub_self, Nat.add_zero] at kk
        intro γ κ sh H locs lsC hn0 hg hR hS hL hO
        exact lv_if_eq hx hb hd ht (fun _ => kk γ κ sh H locs lsC hn0 hg hR hS hL (sd_Ot hO)) (fun z => absurd hc z)
      · rename_i hc
        simp only [am_nx, Option.some.injEq, Sum.inl.injEq, Prod.mk.injEq] at hs
        obtain ⟨rfl, rfl, rfl, rfl⟩ := hs
        simp only [Nat.sub_self, Nat.add_zero] at kk
        intro γ κ sh H locs lsC hn0 hg hR hS hL hO
        exact lv_if_eq hx hb hd ht (fun z => absurd z hc) (fun _ => kk γ κ sh H locs lsC hn0 hg hR hS hL (sd_Ot hO))
    | ne =>
      simp only at hs
      split at hs
      · rename_i hc
        simp only [am_nx, Option.some.injEq, Sum.inl.injEq, Prod.mk.injEq] at hs
        obtain ⟨rfl, rfl, rfl, rfl⟩ := hs
        simp only [Nat.sub_self, Nat.add_zero] at kk
        intro γ κ sh H locs lsC hn0 hg hR hS hL hO
        exact lv_if_ne hx hb hd ht (fun z => absurd hc z) (fun _ => kk γ κ sh H locs lsC hn0 hg hR hS hL (sd_Ot hO))
      · rename_i hc
        simp only [am_nx, Option.some.injEq, Sum.inl.injEq, Prod.mk.injEq] at hs
        obtain ⟨rfl, rfl, rfl, rfl⟩ := hs
        simp only [Nat.sub_self, Nat.add_zero] at kk
        intro γ κ sh H locs lsC hn0 hg hR hS hL hO
        exact lv_if_ne hx hb hd ht (fun _ => kk γ κ sh H locs lsC hn0 hg hR hS hL (sd_Ot hO)) (fun z => absurd z hc)
    | lt =>
      simp only at hs
      split at hs
      · rename_i hc
        simp only [am_nx, Option.some.injEq, Sum.inl.injEq, Prod.mk.injEq] at hs
        obtain ⟨rfl, rfl, rfl, rfl⟩ := hs
        simp only [Nat.sub_self, Nat.add_zero] at kk
        intro γ κ sh H locs lsC hn0 hg hR hS hL hO
        exact lv_if_lt hx hb hd ht (fun _ => kk γ κ sh H locs lsC hn0 hg hR hS hL (sd_Ot hO)) (fun z => absurd hc z)
      · rename_i hc
        simp only [am_nx, Option.some.injEq, Sum.inl.injEq, Prod.mk.injEq] at hs
        obtain ⟨rfl, rfl, rfl, rfl⟩ := hs
        simp only [Nat.sub_self, Nat.add_zero] at kk
        intro γ κ sh H locs lsC hn0 hg hR hS hL hO
        exact lv_if_lt hx hb hd ht (fun z => absurd z hc) (fun _ => kk γ κ sh H locs lsC hn0 hg hR hS hL (sd_Ot hO))
    | ge =>
      simp only at hs
      split at hs
      · rename_i hc
        simp only [am_nx, Option.some.injEq, Sum.inl.injEq, Prod.mk.injEq] at hs
        obtain ⟨rfl, rfl, rfl, rfl⟩ := hs
        simp only [Nat.sub_self, Nat.add_zero] at kk
        intro γ κ sh H locs lsC hn0 hg hR hS hL hO
        exact lv_if_ge hx hb hd ht (fun _ => kk γ κ sh H locs lsC hn0 hg hR hS hL (sd_Ot hO)) (fun z => absurd hc z)
      · rename_i hc
        simp only [am_nx, Option.some.injEq, Sum.inl.injEq, Prod.mk.injEq] at hs
        obtain ⟨rfl, rfl, rfl, rfl⟩ := hs
        simp only [Nat.sub_self, Nat.add_zero] at kk
        intro γ κ sh H locs lsC hn0 hg hR hS hL hO
        exact lv_if_ge hx hb hd ht (fun z => absurd z hc) (fun _ => kk γ κ sh H locs lsC hn0 hg hR hS hL (sd_Ot hO))
    | gt =>
      simp only at hs
      split at hs
      · rename_i hc
        simp only [am_nx, Option.some.injEq, Sum.inl.injEq, Prod.mk.injEq] at hs
        obtain ⟨rfl, rfl, rfl, rfl⟩ := hs
        simp only [Nat.sub_self, Nat.add_zero] at kk
        intro γ κ sh H locs lsC hn0 hg hR hS hL hO
        exact lv_if_gt hx hb hd ht (fun _ => kk γ κ sh H locs lsC hn0 hg hR hS hL (sd_Ot hO)) (fun z => absurd hc z)
      · rename_i hc
        simp only [am_nx, Option.some.injEq, Sum.inl.injEq, Prod.mk.injEq] at hs
        obtain ⟨rfl, rfl, rfl, rfl⟩ := hs
        simp only [Nat.sub_self, Nat.add_zero] at kk
        intro γ κ sh H locs lsC hn0 hg hR hS hL hO
        exact lv_if_gt hx hb hd ht (fun z => absurd z hc) (fun _ => kk γ κ sh H locs lsC hn0 hg hR hS hL (sd_Ot hO))
    | le =>
      simp only at hs
      split at hs
      · rename_i hc
        simp only [am_nx, Option.some.injEq, Sum.inl.injEq, Prod.mk.injEq] at hs
        obtain ⟨rfl, rfl, rfl, rfl⟩ := hs
        simp only [Nat.sub_self, Nat.add_zero] at kk
        intro γ κ sh H locs lsC hn0 hg hR hS hL hO
        exact lv_if_le hx hb hd ht (fun _ => kk γ κ sh H locs lsC hn0 hg hR hS hL (sd_Ot hO)) (fun z => absurd hc z)
      · rename_i hc
        simp only [am_nx, Option.some.injEq, Sum.inl.injEq, Prod.mk.injEq] at hs
        obtain ⟨rfl, rfl, rfl, rfl⟩ := hs
        simp only [Nat.sub_self, Nat.add_zero] at kk
        intro γ κ sh H locs lsC hn0 hg hR hS hL hO
        exact lv_if_le hx hb hd ht (fun z => absurd z hc) (fun _ => kk γ κ sh H locs lsC hn0 hg hR hS hL (sd_Ot hO))
  · cases hs
theorem sm_if_icmp {op : Jvm.ClassFile.Cond} {n : Int} (C : sd_Cx p s m args meth c j D A) (hv : sd_vb j pc (.if_icmp op n, len, a, b, cq, q) = true) (hs : am_stp pc (.if_icmp op n) len a b cq ls st h = some (.inl (pc2, ls2, st2, h2)))
    (kk : sd_W p l e R s m args below meth c D A n0 γ0 κ0 sh0 Q j (cells + (h2.1.1 - h.1.1)) (slots + (h2.1.2 - h.1.2)) pc2 ls2 st2 h2) : sd_W p l e R s m args below meth c D A n0 γ0 κ0 sh0 Q j cells slots pc ls st h := by
  obtain ⟨hx, hb, hml, hr, hlk, hown, hts, hnm, hKB, hA⟩ := C
  simp only [sd_vb, Bool.and_eq_true, decide_eq_true_eq, beq_iff_eq] at hv
  obtain ⟨hd, rfl, ht⟩ := hv
  simp only [am_stp] at hs
  split at hs
  · cases op with
    | eq =>
      simp only at hs
      split at hs
      · rename_i hc
        simp only [am_nx, Option.some.injEq, Sum.inl.injEq, Prod.mk.injEq] at hs
        obtain ⟨rfl, rfl, rfl, rfl⟩ := hs
        simp only [Nat.sub_self, Nat.add_zero] at kk
        intro γ κ sh H locs lsC hn0 hg hR hS hL hO
        exact lv_icmp_eq hx hb hd ht (fun _ => kk γ κ sh H locs lsC hn0 hg hR hS hL (sd_Ot (sd_Ot hO))) (fun z => absurd hc z)
      · rename_i hc
        simp only [am_nx, Option.some.injEq, Sum.inl.injEq, Prod.mk.injEq] at hs
        obtain ⟨rfl, rfl, rfl, rfl⟩ := hs
        simp only [Nat.sub_self, Nat.add_zero] at kk
        intro γ κ sh H locs lsC hn0 hg hR hS hL hO
        exact lv_icmp_eq hx hb hd ht (fun z => absurd z hc) (fun _ => kk γ κ sh H locs lsC hn0 hg hR hS hL (sd_Ot (sd_Ot hO)))
    | ne =>
      simp only at hs
      split at hs
      · rename_i hc
        simp only [am_nx, Option.some.injEq, Sum.inl.injEq, Prod.mk.injEq] at hs
        obtain ⟨rfl, rfl, rfl, rfl⟩ := hs
        simp only [Nat.sub_self, Nat.add_zero] at kk
        intro γ κ sh H locs lsC hn0 hg hR hS hL hO
        exact lv_icmp_ne hx hb hd ht (fun z => absurd hc z) (fun _ => kk γ κ sh H locs lsC hn0 hg hR hS hL (sd_Ot (sd_Ot hO)))
      · rename_i hc
        simp only [am_nx, Option.some.injEq, Sum.inl.injEq, Prod.mk.injEq] at hs
        obtain ⟨rfl, rfl, rfl, rfl⟩ := hs
        simp only [Nat.sub_self, Nat.add_zero] at kk
        intro γ κ sh H locs lsC hn0 hg hR hS hL hO
        exact lv_icmp_ne hx hb hd ht (fun _ => kk γ κ sh H locs lsC hn0 hg hR hS hL (sd_Ot (sd_Ot hO))) (fun z => absurd z hc)
    | lt =>
      simp only at hs
      split at hs
      · rename_i hc
        simp only [am_nx, Option.some.injEq, Sum.inl.injEq, Prod.mk.injEq] at hs
        obtain ⟨rfl, rfl, rfl, rfl⟩ := hs
        simp only [Nat.sub_self, Nat.add_zero] at kk
        intro γ κ sh H locs lsC hn0 hg hR hS hL hO
        exact lv_icmp_lt hx hb hd ht (fun _ => kk γ κ sh H locs lsC hn0 hg hR hS hL (sd_Ot (sd_Ot hO))) (fun z => absurd hc z)
      · rename_i hc
        simp only [am_nx, Option.some.injEq, Sum.inl.injEq, Prod.mk.injEq] at hs
        obtain ⟨rfl, rfl, rfl, rfl⟩ := hs
        simp only [Nat.sub_self, Nat.add_zero] at kk
        intro γ κ sh H locs lsC hn0 hg hR hS hL hO
        exact lv_icmp_lt hx hb hd ht (fun z => absurd z hc) (fun _ => kk γ κ sh H locs lsC hn0 hg hR hS hL (sd_Ot (sd_Ot hO)))
    | ge =>
      simp only at hs
      split at hs
      · rename_i hc
        simp only [am_nx, Option.some.injEq, Sum.inl.injEq, Prod.mk.injEq] at hs
        obtain ⟨rfl, rfl, rfl, rfl⟩ := hs
        simp only [Nat.sub_self, Nat.add_zero] at kk
        intro γ κ sh H locs lsC hn0 hg hR hS hL hO
        exact lv_icmp_ge hx hb hd ht (fun _ => kk γ κ sh H locs lsC hn0 hg hR hS hL (sd_Ot (sd_Ot hO))) (fun z => absurd hc z)
      · rename_i hc
        simp only [am_nx, Option.some.injEq, Sum.inl.injEq, Prod.mk.injEq] at hs
        obtain ⟨rfl, rfl, rfl, rfl⟩ := hs
        simp only [Nat.sub_self, Nat.add_zero] at kk
        intro γ κ sh H locs lsC hn0 hg hR hS hL hO
        exact lv_icmp_ge hx hb hd ht (fun z => absurd z hc) (fun _ => kk γ κ sh H locs lsC hn0 hg hR hS hL (sd_Ot (sd_Ot hO)))
    | gt =>
      simp only at hs
      split at hs
      · rename_i hc
        simp only [am_nx, Option.some.injEq, Sum.inl.injEq, Prod.mk.injEq] at hs
        obtain ⟨rfl, rfl, rfl, rfl⟩ := hs
        simp only [Nat.sub_self, Nat.add_zero] at kk
        intro γ κ sh H locs lsC hn0 hg hR hS hL hO
        exact lv_icmp_gt hx hb hd ht (fun _ => kk γ κ sh H locs lsC hn0 hg hR hS hL (sd_Ot (sd_Ot hO))) (fun z => absurd hc z)
      · rename_i hc
        simp only [am_nx, Option.some.injEq, Sum.inl.injEq, Prod.mk.injEq] at hs
        obtain ⟨rfl, rfl, rfl, rfl⟩ := hs
        simp only [Nat.sub_self, Nat.add_zero] at kk
        intro γ κ sh H locs lsC hn0 hg hR hS hL hO
        exact lv_icmp_gt hx hb hd ht (fun z => absurd z hc) (fun _ => kk γ κ sh H locs lsC hn0 hg hR hS hL (sd_Ot (sd_Ot hO)))
    | le =>
      simp only at hs
      split at hs
      · rename_i hc
        simp only [am_nx, Option.some.injEq, Sum.inl.injEq, Prod.mk.injEq] at hs
        obtain ⟨rfl, rfl, rfl, rfl⟩ := hs
        simp only [Nat.sub_self, Nat.add_zero] at kk
        intro γ κ sh H locs lsC hn0 hg hR hS hL hO
        exact lv_icmp_le hx hb hd ht (fun _ => kk γ κ sh H locs lsC hn0 hg hR hS hL (sd_Ot (sd_Ot hO))) (fun z => absurd hc z)
      · rename_i hc
        simp only [am_nx, Option.some.injEq, Sum.inl.injEq, Prod.mk.injEq] at hs
        obtain ⟨rfl, rfl, rfl, rfl⟩ := hs
        simp only [Nat.sub_self, Nat.add_zero] at kk
        intro γ κ sh H locs lsC hn0 hg hR hS hL hO
        exact lv_icmp_le hx hb hd ht (fun z => absurd z hc) (fun _ => kk γ κ sh H locs lsC hn0 hg hR hS hL (sd_Ot (sd_Ot hO)))
  · cases hs
theorem sm_ifnull {n : Int} (C : sd_Cx p s m args meth c j D A) (hv : sd_vb j pc (.ifnull n, len, a, b, cq, q) = true) (hs : am_stp pc (.ifnull n) len a b cq ls st h = some (.inl (pc2, ls2, st2, h2)))
    (kk : sd_W p l e R s m args below meth c D A n0 γ0 κ0 sh0 Q j (cells + (h2.1.1 - h.1.1)) (slots + (h2.1.2 - h.1.2)) pc2 ls2 st2 h2) : sd_W p l e R s m args below meth c D A n0 γ0 κ0 sh0 Q j cells slots pc ls st h := by
  obtain ⟨hx, hb, hml, hr, hlk, hown, hts, hnm, hKB, hA⟩ := C
  simp only [sd_vb, Bool.and_eq_true, decide_eq_true_eq, beq_iff_eq] at hv
  obtain ⟨hd, rfl, ht⟩ := hv
  simp only [am_stp] at hs
  split at hs
  · simp only [am_nx, Option.some.injEq, Sum.inl.injEq, Prod.mk.injEq] at hs
    obtain ⟨rfl, rfl, rfl, rfl⟩ := hs
    simp only [Nat.sub_self, Nat.add_zero] at kk
    intro γ κ sh H locs lsC hn0 hg hR hS hL hO
    refine lv_ifnullN hx hb hd ht ?_
    exact kk γ κ sh H locs lsC hn0 hg hR hS hL (sd_Ot hO)
  · simp only [am_nx, Option.some.injEq, Sum.inl.injEq, Prod.mk.injEq] at hs
    obtain ⟨rfl, rfl, rfl, rfl⟩ := hs
    simp only [Nat.sub_self, Nat.add_zero] at kk
    intro γ κ sh H locs lsC hn0 hg hR hS hL hO
    refine lv_ifnull hx hb hd ?_
    exact kk γ κ sh H locs lsC hn0 hg hR hS hL (sd_Ot hO)
  · cases hs
theorem sm_ifnonnull {n : Int} (C : sd_Cx p s m args meth c j D A) (hv : sd_vb j pc (.ifnonnull n, len, a, b, cq, q) = true) (hs : am_stp pc (.ifnonnull n) len a b cq ls st h = some (.inl (pc2, ls2, st2, h2)))
    (kk : sd_W p l e R s m args below meth c D A n0 γ0 κ0 sh0 Q j (cells + (h2.1.1 - h.1.1)) (slots + (h2.1.2 - h.1.2)) pc2 ls2 st2 h2) : sd_W p l e R s m args below meth c D A n0 γ0 κ0 sh0 Q j cells slots pc ls st h := by
  obtain ⟨hx, hb, hml, hr, hlk, hown, hts, hnm, hKB, hA⟩ := C
  simp only [sd_vb, Bool.and_eq_true, decide_eq_true_eq, beq_iff_eq] at hv
  obtain ⟨hd, rfl, ht⟩ := hv
  simp only [am_stp] at hs
  split at hs
  · simp only [am_nx, Option.some.injEq, Sum.inl.injEq, Prod.mk.injEq] at hs
    obtain ⟨rfl, rfl, rfl, rfl⟩ := hs
    simp only [Nat.sub_self, Nat.add_zero] at kk
    intro γ κ sh H locs lsC hn0 hg hR hS hL hO
    refine lv_ifnonnullN hx hb hd ?_
    exact kk γ κ sh H locs lsC hn0 hg hR hS hL (sd_Ot hO)
  · simp only [am_nx, Option.some.injEq, Sum.inl.injEq, Prod.mk.injEq] at hs
    obtain ⟨rfl, rfl, rfl, rfl⟩ := hs
    simp only [Nat.sub_self, Nat.add_zero] at kk
    intro γ κ sh H locs lsC hn0 hg hR hS hL hO
    refine lv_ifnonnull hx hb hd ht ?_
    exact kk γ κ sh H locs lsC hn0 hg hR hS hL (sd_Ot hO)
  · cases hs
theorem sm_tableswitch {d lo hi : Int} {offs : Array Int} (C : sd_Cx p s m args meth c j D A) (hv : sd_vb j pc (.tableswitch d lo hi offs, len, a, b, cq, q) = true) (hs : am_stp pc (.tableswitch d lo hi offs) len a b cq ls st h = some (.inl (pc2, ls2, st2, h2)))
    (kk : sd_W p l e R s m args below meth c D A n0 γ0 κ0 sh0 Q j (cells + (h2.1.1 - h.1.1)) (slots + (h2.1.2 - h.1.2)) pc2 ls2 st2 h2) : sd_W p l e R s m args below meth c D A n0 γ0 κ0 sh0 Q j cells slots pc ls st h := by
  obtain ⟨hx, hb, hml, hr, hlk, hown, hts, hnm, hKB, hA⟩ := C
  simp only [sd_vb, Bool.and_eq_true, decide_eq_true_eq, beq_iff_eq] at hv
  obtain ⟨hd, hd0, hof⟩ := hv
  simp only [am_stp] at hs
  split at hs
  · rename_i x r
    split at hs
    · rename_i t hsw
      simp only [am_nx, Option.some.injEq, Sum.inl.injEq, Prod.mk.injEq] at hs
      obtain ⟨rfl, rfl, rfl, rfl⟩ := hs
      simp only [Nat.sub_self, Nat.add_zero] at kk
      intro γ κ sh H locs lsC hn0 hg hR hS hL hO
      unfold am_swT at hsw
      split at hsw
      · rename_i ho
        simp only [Option.some.injEq] at hsw
        refine lv_tableOut hx hb hd ho (tgt := t) (by rw [← hsw, Int.toNat_of_nonneg hd0]) ?_
        exact kk γ κ sh H locs lsC hn0 hg hR hS hL (sd_Ot hO)
      · rename_i ho
        split at hsw
        · rename_i off hoff
          simp only [Option.some.injEq] at hsw
          have h0 : 0 ≤ (pc : Int) + off := by
            have := List.all_eq_true.mp hof off (Array.mem_toList_iff.mpr (Array.mem_of_getElem? hoff))
            simpa using this
          refine lv_tableIn hx hb hd (fun z => ho (Or.inl z)) (fun z => ho (Or.inr z)) hoff (tgt := t) (by rw [← hsw, Int.toNat_of_nonneg h0]) ?_
          exact kk γ κ sh H locs lsC hn0 hg hR hS hL (sd_Ot hO)
        · cases hsw
    · cases hs
  · cases hs
theorem sd_lkin : ∀ (ps : List (Int × Int)) (d x : Int), Op.lookupswitch.offset ps d x = d ∨ ∃ o ∈ ps, Op.lookupswitch.offset ps d x = o.2 := by
  intro ps d x
  induction ps with
  | nil => left; rfl
  | cons y r ih =>
    obtain ⟨v, o⟩ := y
    rw [Op.lookupswitch.offset]
    by_cases hv : v = x
    · rw [if_pos hv]
      right
      exact ⟨(v, o), List.mem_cons_self, rfl⟩
    · rw [if_neg hv]
      rcases ih with h1 | ⟨z, h1, h2⟩
      · exact Or.inl h1
      · exact Or.inr ⟨z, List.mem_cons_of_mem _ h1, h2⟩
theorem sm_lookupswitch {d : Int} {ps : Array (Int × Int)} (C : sd_Cx p s m args meth c j D A) (hv : sd_vb j pc (.lookupswitch d ps, len, a, b, cq, q) = true) (hs : am_stp pc (.lookupswitch d ps) len a b cq ls st h = some (.inl (pc2, ls2, st2, h2)))
    (kk : sd_W p l e R s m args below meth c D A n0 γ0 κ0 sh0 Q j (cells + (h2.1.1 - h.1.1)) (slots + (h2.1.2 - h.1.2)) pc2 ls2 st2 h2) : sd_W p l e R s m args below meth c D A n0 γ0 κ0 sh0 Q j cells slots pc ls st h := by
  obtain ⟨hx, hb, hml, hr, hlk, hown, hts, hnm, hKB, hA⟩ := C
  simp only [sd_vb, Bool.and_eq_true, decide_eq_true_eq, beq_iff_eq] at hv
  obtain ⟨hd, ⟨hp, hd0⟩, hof⟩ := hv
  simp only [am_stp] at hs
  split at hs
  · rename_i x r
    simp only [am_nx, Option.some.injEq, Sum.inl.injEq, Prod.mk.injEq] at hs
    obtain ⟨rfl, rfl, rfl, rfl⟩ := hs
    simp only [Nat.sub_self, Nat.add_zero] at kk
    intro γ κ sh H locs lsC hn0 hg hR hS hL hO
    have h0 : 0 ≤ (pc : Int) + Op.lookupswitch.offset ps.toList d x.toInt := by
      rcases sd_lkin ps.toList d x.toInt with q1 | ⟨o, q1, q2⟩
      · rw [q1]; exact hd0
      · rw [q2]
        have := List.all_eq_true.mp hof o q1
        simpa using this
    refine lv_lookup hx hb hd hp rfl (tgt := ((pc : Int) + Op.lookupswitch.offset ps.toList d x.toInt).toNat) (by rw [Int.toNat_of_nonneg h0]) ?_
    exact kk γ κ sh H locs lsC hn0 hg hR hS hL (sd_Ot hO)
  · cases hs
end SIM
end
section
/-! THE SIMULATION, instructions over the heap -/
theorem sd_vfI {m idx a b c q : Nat} (h : sd_vf m idx a b c q = true) : ∃ ref : String, lw_tbl[q]? = some (.fieldLink (sd_y m).cls idx ref (sd_T a b).2.1 (sd_T a b).2.2.1) ∧ a < 13 ∧ b < sd_N a ∧ (ref = (sd_T a b).1 ∨ (ref = "SeenADayLate$Hunter" ∧ (sd_T a b).1 = "SeenADayLate$Walker" ∧ (sd_T a b).2.1 = "figure" ∧ (sd_T a b).2.2.1 = "I")) ∧ c = sd_tc (sd_ty a b) := by
  unfold sd_vf at h
  split at h
  · rename_i o ix ref nm ds hw
    simp only [Bool.and_eq_true, Bool.or_eq_true, decide_eq_true_eq, beq_iff_eq] at h
    obtain ⟨⟨⟨⟨⟨⟨⟨h1, h2⟩, h3⟩, h4⟩, h5⟩, h6⟩, h7⟩, h8⟩ := h
    subst h1; subst h2; subst h5; subst h6
    refine ⟨ref, hw, h3, h4, ?_, h8⟩
    rcases h7 with h7 | ⟨⟨⟨g1, g2⟩, g3⟩, g4⟩
    · exact Or.inl h7
    · exact Or.inr ⟨g1, g2, g3, g4⟩
  · cases h
theorem sd_subI {k a : Nat} (h : am_sub k a = true) : k = a ∨ (a = 9 ∧ (k = 1 ∨ k = 2 ∨ k = 3 ∨ k = 6 ∨ k = 8)) ∨ (a = 3 ∧ (k = 1 ∨ k = 6)) := by
  simp only [am_sub, Bool.or_eq_true, Bool.and_eq_true, beq_iff_eq] at h
  omega
theorem sd_subT {k a b : Nat} (h : am_sub k a = true) (ha : a < 13) (hb : b < sd_N a) : k < 13 ∧ b < sd_N k ∧ sd_T k b = sd_T a b ∧ sd_ty k b = sd_ty a b := by
  rcases sd_subI h with rfl | ⟨rfl, h2⟩ | ⟨rfl, h2⟩
  · exact ⟨ha, hb, rfl, rfl⟩
  · have hb2 : b = 0 ∨ b = 1 := by
      have : sd_N 9 = 2 := rfl
      omega
    rcases h2 with rfl | rfl | rfl | rfl | rfl <;> rcases hb2 with rfl | rfl <;> exact ⟨by decide, by decide, rfl, rfl⟩
  · have hb2 : b = 0 ∨ b = 1 := by
      have : sd_N 3 = 2 := rfl
      omega
    rcases h2 with rfl | rfl <;> rcases hb2 with rfl | rfl <;> exact ⟨by decide, by decide, rfl, rfl⟩
theorem sd_same {s : State} {args : Array Value} (hts : ∀ w ∈ sd_tb, w.before args s = true) {ref decl nm ds : String} (h : ref = decl ∨ (ref = "SeenADayLate$Hunter" ∧ decl = "SeenADayLate$Walker" ∧ nm = "figure" ∧ ds = "I")) : ∀ x, s.fieldFound? decl nm ds = some x → s.fieldFound? ref nm ds = some x := by
  intro x hx
  rcases h with rfl | ⟨rfl, rfl, rfl, rfl⟩
  · exact hx
  · exact u_same (hts _ (sd_in 486 (by decide +kernel) rfl)) x hx
theorem sd_tc0 {t : FieldType} (h : 0 = sd_tc t) : t = .int := by cases t <;> simp [sd_tc] at h ⊢
theorem sd_tc1 {t : FieldType} (h : 1 = sd_tc t) : t = .boolean := by cases t <;> simp [sd_tc] at h ⊢
theorem sd_tc2 {t : FieldType} (h : 2 = sd_tc t) : (∃ n, t = .object n) ∨ ∃ n, t = .array n := by cases t <;> simp [sd_tc] at h ⊢
theorem sd_hK {D : va_G} {A : Nat → Prop} {s : State} (hKB : sd_KB D A s) {tys : List (ClassId × FieldType)} (h : ∀ (k : Nat) (q : ClassId × FieldType), tys[k]? = some q → ArrOfT s q.1 q.2 ∧ va_RA s q.1 q.2) : va_K D sd_cl tys s := ⟨hKB.1, h⟩
theorem sd_hK0 {D : va_G} {A : Nat → Prop} {s : State} (hKB : sd_KB D A s) : va_K D sd_cl [] s := ⟨hKB.1, fun k q h => by simp at h⟩
theorem sd_hK1 {D : va_G} {A : Nat → Prop} {s : State} (hKB : sd_KB D A s) {cA : ClassId} {ty : FieldType} (h : ArrOfT s cA ty ∧ va_RA s cA ty) : va_K D sd_cl [(cA, ty)] s := ⟨hKB.1, fun k q hq => by
  match k, hq with
  | 0, hq => cases hq; exact h
  | k + 1, hq => simp at hq⟩
theorem sd_hK2 {D : va_G} {A : Nat → Prop} {s : State} (hKB : sd_KB D A s) {cA cB : ClassId} {ty tz : FieldType} (h : ArrOfT s cA ty ∧ va_RA s cA ty) (h2 : ArrOfT s cB tz ∧ va_RA s cB tz) : va_K D sd_cl [(cA, ty), (cB, tz)] s := ⟨hKB.1, fun k q hq => by
  match k, hq with
  | 0, hq => cases hq; exact h
  | 1, hq => cases hq; exact h2
  | k + 2, hq => simp at hq⟩
theorem hI_hsI {h : Hp} {o b i j : Nat} {x : Int32} : hI (hsI h o b x) i j = if i = o ∧ j = b then x else hI h i j := rfl
theorem hR_hsI {h : Hp} {o b i j : Nat} {x : Int32} : hR (hsI h o b x) i j = hR h i j := rfl
theorem hI_hsR {h : Hp} {o b i j : Nat} {x : Option Rf} : hI (hsR h o b x) i j = hI h i j := rfl
theorem hR_hsR {h : Hp} {o b i j : Nat} {x : Option Rf} : hR (hsR h o b x) i j = if i = o ∧ j = b then x else hR h i j := rfl
theorem sd_E_ne {γ : Nat → Nat} {κ : Nat → ClassId} {sh : Nat → Nat × Nat} {h h2 : Hp} {i : Nat} (h1 : ∀ j, hI h2 i j = hI h i j) (h3 : ∀ j, hR h2 i j = hR h i j) : sd_E γ κ sh h2 i = sd_E γ κ sh h i := by
  have e1 : hI h2 i = hI h i := funext h1
  have e2 : hR h2 i = hR h i := funext h3
  have e3 : ∀ k, sd_fv γ h2 k i = sd_fv γ h k i := fun k => by
    funext z
    simp only [sd_fv]
    rw [e1, e2]
  unfold sd_E sd_fs sd_qa
  simp only [e1, e2, e3]
theorem sd_G_I {γ : Nat → Nat} {κ : Nat → ClassId} {sh : Nat → Nat × Nat} {h : Hp} {s : State} {o b : Nat} {x : Int32} (hG : sd_G γ κ sh h s) : sd_G γ κ sh (hsI h o b x) s := hG
theorem sd_G_R {γ : Nat → Nat} {κ : Nat → ClassId} {sh : Nat → Nat × Nat} {h : Hp} {s : State} {o b : Nat} {x : Option Rf} (hG : sd_G γ κ sh h s) (hx : sd_OK sh h.1.1 (vo x)) : sd_G γ κ sh (hsR h o b x) s := by
  refine ⟨hG.1, hG.2.1, fun i hi z r hr => ?_⟩
  rw [hR_hsR] at hr
  split at hr
  · exact hx r (by rw [hr])
  · exact hG.2.2 i hi z r hr
section SIM
variable {p : Program} {l : Launch} {e : Env} {R : Room} {s : State} {m : MethodId} {args : Array Value} {below : List Frame} {meth : Method} {c : Code} {Q : State → Prop} {D : va_G} {A : Nat → Prop} {n0 : Nat} {γ0 : Nat → Nat} {κ0 : Nat → ClassId} {sh0 : Nat → Nat × Nat} {j cells slots pc pc2 len a b cq q : Nat} {ls ls2 : Lc} {st st2 : List AV} {h h2 : Hp}
theorem sm_getfield {n : Nat} (C : sd_Cx p s m args meth c j D A) (hv : sd_vb j pc (.getfield n, len, a, b, cq, q) = true) (hs : am_stp pc (.getfield n) len a b cq ls st h = some (.inl (pc2, ls2, st2, h2)))
    (kk : sd_W p l e R s m args below meth c D A n0 γ0 κ0 sh0 Q j (cells + (h2.1.1 - h.1.1)) (slots + (h2.1.2 - h.1.2)) pc2 ls2 st2 h2) : sd_W p l e R s m args below meth c D A n0 γ0 κ0 sh0 Q j cells slots pc ls st h := by
  obtain ⟨hx, hb, hml, hr, hlk, hown, hts, hnm, hKB, hA⟩ := C
  simp only [sd_vb, Bool.and_eq_true, decide_eq_true_eq, beq_iff_eq] at hv
  obtain ⟨hd, rfl, hf⟩ := hv
  obtain ⟨ref, hw, ha, hb2, href, hty⟩ := sd_vfI hf
  simp only [am_stp] at hs
  split at hs
  · rename_i o k z r
    split at hs
    · rename_i hsub
      obtain ⟨hk, hbk, hT, hTy⟩ := sd_subT hsub ha hb2
      split at hs
      · rename_i hc2
        simp only [am_nx, Option.some.injEq, Sum.inl.injEq, Prod.mk.injEq] at hs
        obtain ⟨rfl, rfl, rfl, rfl⟩ := hs
        intro γ κ sh H locs lsC hn0 hg hRl hS hL hO
        simp only [Nat.sub_self, Nat.add_zero] at kk
        obtain ⟨ho, hsh⟩ := (show o < h.1.1 ∧ sh o = (k, z) from sd_Oh hO (o, k, z) rfl)
        have he := (sd_wsG (γ := γ) (κ := κ) (sh := sh) ho).trans (by rw [sd_E_obj hsh hk])
        have hrf : sd_rf k b = true := by simp [sd_rf, hTy, ← hty, hc2]
        refine va_get (v := sd_fv γ h k o b) hx hb hts (sd_inT hk) hown (sd_hK0 hKB) hRl.1 o he (sd_clk hk) b hbk (hts _ (sd_in q (by rw [hT]; exact hw) rfl)) (by rw [hT]; exact sd_same hts href) (sd_fsG hbk) hd ?_
        have hv2 : sd_fv γ h k o b = sd_cv γ (vo (hR h o b)) := by simp only [sd_fv, hrf, if_true]; rfl
        rw [hv2]
        exact kk γ κ sh H locs lsC hn0 hg hRl hS hL (sd_Oc (fun r hr => hRl.2.2.2.2 o ho b r (by simpa using hr)) (sd_Ot hO))
      · rename_i hc2
        simp only [am_nx, Option.some.injEq, Sum.inl.injEq, Prod.mk.injEq] at hs
        obtain ⟨rfl, rfl, rfl, rfl⟩ := hs
        intro γ κ sh H locs lsC hn0 hg hRl hS hL hO
        simp only [Nat.sub_self, Nat.add_zero] at kk
        obtain ⟨ho, hsh⟩ := (show o < h.1.1 ∧ sh o = (k, z) from sd_Oh hO (o, k, z) rfl)
        have he := (sd_wsG (γ := γ) (κ := κ) (sh := sh) ho).trans (by rw [sd_E_obj hsh hk])
        have hrf : ¬ sd_rf k b = true := by simp [sd_rf, hTy, ← hty, hc2]
        refine va_get (v := sd_fv γ h k o b) hx hb hts (sd_inT hk) hown (sd_hK0 hKB) hRl.1 o he (sd_clk hk) b hbk (hts _ (sd_in q (by rw [hT]; exact hw) rfl)) (by rw [hT]; exact sd_same hts href) (sd_fsG hbk) hd ?_
        have hv2 : sd_fv γ h k o b = sd_cv γ (vi (hI h o b)) := by simp only [sd_fv, hrf]; rfl
        rw [hv2]
        exact kk γ κ sh H locs lsC hn0 hg hRl hS hL (sd_Oc sd_OKi (sd_Ot hO))
    · cases hs
  · cases hs
theorem sd_put {n k o z : Nat} {ref : String} {r : List AV} {v : AV} {γ : Nat → Nat} {κ : Nat → ClassId} {sh : Nat → Nat × Nat} {H : Heap} {locs : List Loc} {lsC : Array Slot} (C : sd_Cx p s m args meth c j D A) (hd : decode (sd_b j) pc = .ok (.putfield n, 3)) (hw : lw_tbl[q]? = some (.fieldLink (sd_y j).cls n ref (sd_T a b).2.1 (sd_T a b).2.2.1)) (ha : a < 13) (hb2 : b < sd_N a)
    (href : ref = (sd_T a b).1 ∨ (ref = "SeenADayLate$Hunter" ∧ (sd_T a b).1 = "SeenADayLate$Walker" ∧ (sd_T a b).2.1 = "figure" ∧ (sd_T a b).2.2.1 = "I")) (hfin : (sd_T a b).2.2.2 = false ∨ ((sd_y j).name = "<init>" ∧ (sd_T a b).1 = (sd_y j).cls)) (hsub : am_sub k a = true)
    (hRl : sd_Rel D A γ κ sh h s H) (hS : va_S A s.heap H locs) (ho : o < h.1.1) (hsh : sh o = (k, z)) (hn : narrow (sd_ty a b) (sd_cv γ v) = sd_cv γ v) (hfit : fits (sd_ty a b) (sd_cv γ v) = true)
    (hn2 : h2.1.1 = h.1.1) (hE : ∀ i, i ≠ o → sd_E γ κ sh h2 i = sd_E γ κ sh h i) (hv : sd_cv γ v = sd_fv γ h2 k o b) (hvo : ∀ i, i ≠ b → sd_fv γ h2 k o i = sd_fv γ h k o i) (hG : sd_G γ κ sh h2 s)
    (kk : ∀ (H1 : Heap) (locs1 : List Loc), sd_Rel D A γ κ sh h2 s H1 → va_S A s.heap H1 locs1 → W p l e R s m args below meth c H1 locs1 cells slots Q (F0 m (pc + 3) lsC (r.map (sd_cv γ)))) : W p l e R s m args below meth c H locs cells slots Q (F0 m pc lsC (sd_cv γ v :: .ref (γ o) :: r.map (sd_cv γ))) := by
  obtain ⟨hx, hb, hml, hr, hlk, hown, hts, hnm, hKB, hA⟩ := C
  obtain ⟨hk, hbk, hT, hTy⟩ := sd_subT hsub ha hb2
  have he := (sd_wsG (γ := γ) (κ := κ) (sh := sh) ho).trans (by rw [sd_E_obj hsh hk])
  have hset : ∀ (e0 : va_E), e0 = .inr (k, (sd_fs γ h k o).set b (sd_cv γ v)) → (sd_ws γ κ sh h).set o (γ o, e0) = sd_ws γ κ sh h2 := fun e0 he0 => sd_wsS hn2 hE e0 (by rw [he0, sd_E_obj hsh hk, sd_fsS hv hvo])
  have key : ∀ (H1 : Heap) (locs1 : List Loc), va_P D sd_cl ((sd_ws γ κ sh h).set o (γ o, .inr (k, (sd_fs γ h k o).set b (sd_cv γ v)))) H1 → va_D A ((sd_ws γ κ sh h).set o (γ o, .inr (k, (sd_fs γ h k o).set b (sd_cv γ v)))) → va_S A s.heap H1 locs1 → W p l e R s m args below meth c H1 locs1 cells slots Q (F0 m (pc + 3) lsC (r.map (sd_cv γ))) := by
    intro H1 locs1 hP hD hS1
    rw [hset _ rfl] at hP hD
    exact kk H1 locs1 ⟨hP, hD, hG⟩ hS1
  have hlink := hts _ (sd_in q (w := .fieldLink (sd_y j).cls n ref (sd_T k b).2.1 (sd_T k b).2.2.1) (by rw [hT]; exact hw) rfl)
  have hsame : ∀ x, s.fieldFound? (sd_T k b).1 (sd_T k b).2.1 (sd_T k b).2.2.1 = some x → s.fieldFound? ref (sd_T k b).2.1 (sd_T k b).2.2.1 = some x := by rw [hT]; exact sd_same hts href
  cases hfl : (sd_T a b).2.2.2 with
  | false => exact va_put (v := sd_cv γ v) (ty := sd_ty k b) hx hb hts (sd_inT hk) (sd_ty k) (sd_tyo hk) (sd_nm hk) hown (sd_hK0 hKB) hRl.1 hRl.2.1 hS o he (sd_clk hk) b hbk hlink hsame (by rw [hT]; exact hfl) (sd_tyo hk b hbk) (by rw [hTy]; exact hn) (by rw [hTy]; exact hfit) (by rw [sd_fsL]; exact hbk) hd key
  | true =>
    rcases hfin with hf | ⟨hi, hdc⟩
    · rw [hf] at hfl; cases hfl
    · exact va_putF (v := sd_cv γ v) (ty := sd_ty k b) hx hb hts (sd_inT hk) (sd_ty k) (sd_tyo hk) (sd_nm hk) hown (sd_hK0 hKB) hRl.1 hRl.2.1 hS o he (sd_clk hk) b hbk hlink hsame (by rw [hT]; exact hfl) (hnm.trans hi) (by rw [hT]; exact hdc) (sd_tyo hk b hbk) (by rw [hTy]; exact hn) (by rw [hTy]; exact hfit) (by rw [sd_fsL]; exact hbk) hd key
theorem sm_putfield {n : Nat} (C : sd_Cx p s m args meth c j D A) (hv : sd_vb j pc (.putfield n, len, a, b, cq, q) = true) (hs : am_stp pc (.putfield n) len a b cq ls st h = some (.inl (pc2, ls2, st2, h2)))
    (kk : sd_W p l e R s m args below meth c D A n0 γ0 κ0 sh0 Q j (cells + (h2.1.1 - h.1.1)) (slots + (h2.1.2 - h.1.2)) pc2 ls2 st2 h2) : sd_W p l e R s m args below meth c D A n0 γ0 κ0 sh0 Q j cells slots pc ls st h := by
  simp only [sd_vb, Bool.and_eq_true, Bool.or_eq_true, decide_eq_true_eq, beq_iff_eq, Bool.not_eq_true'] at hv
  obtain ⟨hd, ⟨rfl, hf⟩, hfin⟩ := hv
  obtain ⟨ref, hw, ha, hb2, href, hty⟩ := sd_vfI hf
  simp only [am_stp] at hs
  split at hs
  · rename_i x o k z r
    split at hs
    · rename_i hc
      obtain ⟨hsub, hc⟩ := hc
      obtain ⟨hk, hbk, hT, hTy⟩ := sd_subT hsub ha hb2
      simp only [am_nx, Option.some.injEq, Sum.inl.injEq, Prod.mk.injEq] at hs
      obtain ⟨rfl, rfl, rfl, rfl⟩ := hs
      intro γ κ sh H locs lsC hn0 hg hRl hS hL hO
      simp only [hsI, Nat.sub_self, Nat.add_zero] at kk
      obtain ⟨ho, hsh⟩ := (show o < h.1.1 ∧ sh o = (k, z) from sd_Oh (sd_Ot hO) (o, k, z) rfl)
      have hfit : narrow (sd_ty a b) (.int x) = .int x ∧ fits (sd_ty a b) (.int x) = true ∧ sd_rf k b = false := by
        rcases hc with rfl | ⟨rfl, hd2⟩
        · have := sd_tc0 hty
          simp [sd_rf, hTy, this, sd_tc, narrow, fits]
        · have h1 := sd_tc1 hty
          have : x = 0 ∨ x = 1 := by simpa [am_isd] using hd2
          rcases this with rfl | rfl <;> simp [sd_rf, hTy, h1, sd_tc, narrow, fits]
      refine sd_put (v := vi x) (r := r) (h2 := hsI h o b x) C hd hw ha hb2 href hfin hsub hRl hS ho hsh hfit.1 hfit.2.1 rfl (fun i hi => sd_E_ne (fun z => by rw [hI_hsI, if_neg (fun q => hi q.1)]) (fun _ => rfl)) ?_ ?_ (sd_G_I hRl.2.2) ?_
      · simp only [sd_fv, hfit.2.2, sd_cv, hI_hsI]; simp
      · intro i hi
        simp only [sd_fv, hI_hsI, hR_hsI, hi, and_false, if_false]
      · intro H1 locs1 hR1 hS1
        exact kk γ κ sh H1 locs1 lsC hn0 hg hR1 hS1 hL (sd_Ot (sd_Ot hO))
    · cases hs
  · rename_i x o k z r
    split at hs
    · rename_i hc
      obtain ⟨hsub, hc⟩ := hc
      obtain ⟨hk, hbk, hT, hTy⟩ := sd_subT hsub ha hb2
      simp only [am_nx, Option.some.injEq, Sum.inl.injEq, Prod.mk.injEq] at hs
      obtain ⟨rfl, rfl, rfl, rfl⟩ := hs
      intro γ κ sh H locs lsC hn0 hg hRl hS hL hO
      simp only [hsR, Nat.sub_self, Nat.add_zero] at kk
      obtain ⟨ho, hsh⟩ := (show o < h.1.1 ∧ sh o = (k, z) from sd_Oh (sd_Ot hO) (o, k, z) rfl)
      subst hc
      have hrf : sd_rf k b = true := by simp [sd_rf, hTy, ← hty]
      have hfit : narrow (sd_ty a b) (sd_cv γ (vo x)) = sd_cv γ (vo x) ∧ fits (sd_ty a b) (sd_cv γ (vo x)) = true := by
        rcases sd_tc2 hty with ⟨n, h1⟩ | ⟨n, h1⟩ <;> cases x <;> simp [h1, sd_cv, va_rf, narrow, fits]
      refine sd_put (v := vo x) (r := r) (h2 := hsR h o b x) C hd hw ha hb2 href hfin hsub hRl hS ho hsh hfit.1 hfit.2 rfl (fun i hi => sd_E_ne (fun _ => rfl) (fun z => by rw [hR_hsR, if_neg (fun q => hi q.1)])) ?_ ?_ (sd_G_R hRl.2.2 (sd_Oh hO)) ?_
      · simp only [sd_fv, hrf, sd_cv, hR_hsR]; simp
      · intro i hi
        simp only [sd_fv, hI_hsR, hR_hsR, hi, and_false, if_false]
      · intro H1 locs1 hR1 hS1
        exact kk γ κ sh H1 locs1 lsC hn0 hg hR1 hS1 hL (sd_Ot (sd_Ot hO))
    · cases hs
  · cases hs
theorem sm_iaload  (C : sd_Cx p s m args meth c j D A) (hv : sd_vb j pc (.iaload, len, a, b, cq, q) = true) (hs : am_stp pc (.iaload) len a b cq ls st h = some (.inl (pc2, ls2, st2, h2)))
    (kk : sd_W p l e R s m args below meth c D A n0 γ0 κ0 sh0 Q j (cells + (h2.1.1 - h.1.1)) (slots + (h2.1.2 - h.1.2)) pc2 ls2 st2 h2) : sd_W p l e R s m args below meth c D A n0 γ0 κ0 sh0 Q j cells slots pc ls st h := by
  obtain ⟨hx, hb, hml, hr, hlk, hown, hts, hnm, hKB, hA⟩ := C
  simp only [sd_vb, Bool.and_eq_true, decide_eq_true_eq, beq_iff_eq] at hv
  obtain ⟨hd, rfl⟩ := hv
  simp only [am_stp] at hs
  split at hs
  · rename_i i o z r
    split at hs
    · cases hs
    · rename_i hin
      simp only [am_nx, Option.some.injEq, Sum.inl.injEq, Prod.mk.injEq] at hs
      obtain ⟨rfl, rfl, rfl, rfl⟩ := hs
      intro γ κ sh H locs lsC hn0 hg hRl hS hL hO
      simp only [Nat.sub_self, Nat.add_zero] at kk
      obtain ⟨ho, hsh⟩ := (show o < h.1.1 ∧ sh o = (13, z) from sd_Oh (sd_Ot hO) (o, 13, z) rfl)
      have he := (sd_wsG (γ := γ) (κ := κ) (sh := sh) ho).trans (by rw [sd_E_int hsh])
      have hka := hRl.2.2.2.1 o ho (by rw [hsh]; exact Nat.le_refl 13)
      rw [hsh] at hka
      refine va_iald hx hb (sd_hK1 hKB hka) hRl.1 o 0 he rfl hin hd ?_
      exact kk γ κ sh H locs lsC hn0 hg hRl hS hL (sd_Oc sd_OKi (sd_Ot (sd_Ot hO)))
  · cases hs
theorem sm_iastore  (C : sd_Cx p s m args meth c j D A) (hv : sd_vb j pc (.iastore, len, a, b, cq, q) = true) (hs : am_stp pc (.iastore) len a b cq ls st h = some (.inl (pc2, ls2, st2, h2)))
    (kk : sd_W p l e R s m args below meth c D A n0 γ0 κ0 sh0 Q j (cells + (h2.1.1 - h.1.1)) (slots + (h2.1.2 - h.1.2)) pc2 ls2 st2 h2) : sd_W p l e R s m args below meth c D A n0 γ0 κ0 sh0 Q j cells slots pc ls st h := by
  obtain ⟨hx, hb, hml, hr, hlk, hown, hts, hnm, hKB, hA⟩ := C
  simp only [sd_vb, Bool.and_eq_true, decide_eq_true_eq, beq_iff_eq] at hv
  obtain ⟨hd, rfl⟩ := hv
  simp only [am_stp] at hs
  split at hs
  · rename_i x i o z r
    split at hs
    · cases hs
    · rename_i hin
      simp only [am_nx, Option.some.injEq, Sum.inl.injEq, Prod.mk.injEq] at hs
      obtain ⟨rfl, rfl, rfl, rfl⟩ := hs
      intro γ κ sh H locs lsC hn0 hg hRl hS hL hO
      simp only [hsI, Nat.sub_self, Nat.add_zero] at kk
      obtain ⟨ho, hsh⟩ := (show o < h.1.1 ∧ sh o = (13, z) from sd_Oh (sd_Ot (sd_Ot hO)) (o, 13, z) rfl)
      have he := (sd_wsG (γ := γ) (κ := κ) (sh := sh) ho).trans (by rw [sd_E_int hsh])
      have hka := hRl.2.2.2.1 o ho (by rw [hsh]; exact Nat.le_refl 13)
      rw [hsh] at hka
      refine va_iast hx hb (sd_hK1 hKB hka) hRl.1 hRl.2.1 hS o 0 he rfl hin hd (fun H1 locs1 hP hD hS1 => ?_)
      have hset : (sd_ws γ κ sh h).set o (γ o, .inl (κ o, z, .inl (upd (hI h o) i.toNatClampNeg x))) = sd_ws γ κ sh (hsI h o i.toNatClampNeg x) := by
        refine sd_wsS (h := h) (h2 := hsI h o i.toNatClampNeg x) rfl (fun w hw => sd_E_ne (fun y => by rw [hI_hsI, if_neg (fun q => hw q.1)]) (fun _ => rfl)) _ ?_
        rw [sd_E_int hsh]
        have : upd (hI h o) i.toNatClampNeg x = hI (hsI h o i.toNatClampNeg x) o := by
          funext w
          rw [hI_hsI]
          by_cases hw : w = i.toNatClampNeg <;> simp [upd, hw]
        rw [this]
      rw [hset] at hP hD
      exact kk γ κ sh H1 locs1 lsC hn0 hg ⟨hP, hD, sd_G_I hRl.2.2⟩ hS1 hL (sd_Ot (sd_Ot (sd_Ot hO)))
  · cases hs
theorem sm_aaload  (C : sd_Cx p s m args meth c j D A) (hv : sd_vb j pc (.aaload, len, a, b, cq, q) = true) (hs : am_stp pc (.aaload) len a b cq ls st h = some (.inl (pc2, ls2, st2, h2)))
    (kk : sd_W p l e R s m args below meth c D A n0 γ0 κ0 sh0 Q j (cells + (h2.1.1 - h.1.1)) (slots + (h2.1.2 - h.1.2)) pc2 ls2 st2 h2) : sd_W p l e R s m args below meth c D A n0 γ0 κ0 sh0 Q j cells slots pc ls st h := by
  obtain ⟨hx, hb, hml, hr, hlk, hown, hts, hnm, hKB, hA⟩ := C
  simp only [sd_vb, Bool.and_eq_true, decide_eq_true_eq, beq_iff_eq] at hv
  obtain ⟨hd, rfl⟩ := hv
  simp only [am_stp] at hs
  split at hs
  · rename_i i o z r
    split at hs
    · cases hs
    · rename_i hin
      simp only [am_nx, Option.some.injEq, Sum.inl.injEq, Prod.mk.injEq] at hs
      obtain ⟨rfl, rfl, rfl, rfl⟩ := hs
      intro γ κ sh H locs lsC hn0 hg hRl hS hL hO
      simp only [Nat.sub_self, Nat.add_zero] at kk
      obtain ⟨ho, hsh⟩ := (show o < h.1.1 ∧ sh o = (14, z) from sd_Oh (sd_Ot hO) (o, 14, z) rfl)
      have he := (sd_wsG (γ := γ) (κ := κ) (sh := sh) ho).trans (by rw [sd_E_ref hsh (by decide)])
      have hka := hRl.2.2.2.1 o ho (by rw [hsh]; exact Nat.le_of_ble_eq_true rfl)
      rw [hsh] at hka
      have hlt : i.toNatClampNeg < z := Nat.not_le.mp fun q => hin (Or.inr q)
      refine W.aald (v := va_rf (sd_qa γ h o i.toNatClampNeg)) (ty := sd_at 14) hx hb (hRl.1 o _ he) (hka.1 z (fun w => va_rf (sd_qa γ h o w))) rfl (fun q => by cases q) (by show ¬ (i < 0 ∨ (arrV _ _ _).slots.size ≤ _); rw [arrV_size]; exact hin) (by show (arrV _ _ _).slots[_]? = _; rw [arrV_read _ _ hlt]) rfl rfl hd ?_
      exact kk γ κ sh H locs lsC hn0 hg hRl hS hL (sd_Oc (fun r hr => hRl.2.2.2.2 o ho _ r (by simpa using hr)) (sd_Ot (sd_Ot hO)))
  · rename_i i o z r
    split at hs
    · cases hs
    · rename_i hin
      simp only [am_nx, Option.some.injEq, Sum.inl.injEq, Prod.mk.injEq] at hs
      obtain ⟨rfl, rfl, rfl, rfl⟩ := hs
      intro γ κ sh H locs lsC hn0 hg hRl hS hL hO
      simp only [Nat.sub_self, Nat.add_zero] at kk
      obtain ⟨ho, hsh⟩ := (show o < h.1.1 ∧ sh o = (15, z) from sd_Oh (sd_Ot hO) (o, 15, z) rfl)
      have he := (sd_wsG (γ := γ) (κ := κ) (sh := sh) ho).trans (by rw [sd_E_ref hsh (by decide)])
      have hka := hRl.2.2.2.1 o ho (by rw [hsh]; exact Nat.le_of_ble_eq_true rfl)
      rw [hsh] at hka
      have hlt : i.toNatClampNeg < z := Nat.not_le.mp fun q => hin (Or.inr q)
      refine W.aald (v := va_rf (sd_qa γ h o i.toNatClampNeg)) (ty := sd_at 15) hx hb (hRl.1 o _ he) (hka.1 z (fun w => va_rf (sd_qa γ h o w))) rfl (fun q => by cases q) (by show ¬ (i < 0 ∨ (arrV _ _ _).slots.size ≤ _); rw [arrV_size]; exact hin) (by show (arrV _ _ _).slots[_]? = _; rw [arrV_read _ _ hlt]) rfl rfl hd ?_
      exact kk γ κ sh H locs lsC hn0 hg hRl hS hL (sd_Oc (fun r hr => hRl.2.2.2.2 o ho _ r (by simpa using hr)) (sd_Ot (sd_Ot hO)))
  · cases hs
theorem sm_arraylength  (C : sd_Cx p s m args meth c j D A) (hv : sd_vb j pc (.arraylength, len, a, b, cq, q) = true) (hs : am_stp pc (.arraylength) len a b cq ls st h = some (.inl (pc2, ls2, st2, h2)))
    (kk : sd_W p l e R s m args below meth c D A n0 γ0 κ0 sh0 Q j (cells + (h2.1.1 - h.1.1)) (slots + (h2.1.2 - h.1.2)) pc2 ls2 st2 h2) : sd_W p l e R s m args below meth c D A n0 γ0 κ0 sh0 Q j cells slots pc ls st h := by
  obtain ⟨hx, hb, hml, hr, hlk, hown, hts, hnm, hKB, hA⟩ := C
  simp only [sd_vb, Bool.and_eq_true, decide_eq_true_eq, beq_iff_eq] at hv
  obtain ⟨hd, rfl⟩ := hv
  simp only [am_stp] at hs
  split at hs
  · rename_i o z r
    simp only [am_nx, Option.some.injEq, Sum.inl.injEq, Prod.mk.injEq] at hs
    obtain ⟨rfl, rfl, rfl, rfl⟩ := hs
    intro γ κ sh H locs lsC hn0 hg hRl hS hL hO
    simp only [Nat.sub_self, Nat.add_zero] at kk
    obtain ⟨ho, hsh⟩ := (show o < h.1.1 ∧ sh o = (13, z) from sd_Oh hO (o, 13, z) rfl)
    have he := (sd_wsG (γ := γ) (κ := κ) (sh := sh) ho).trans (by rw [sd_E_int hsh])
    have hka := hRl.2.2.2.1 o ho (by rw [hsh]; exact Nat.le_of_ble_eq_true rfl)
    rw [hsh] at hka
    refine va_alen hx hb (sd_hK1 hKB hka) hRl.1 o 0 he rfl rfl hd ?_
    exact kk γ κ sh H locs lsC hn0 hg hRl hS hL (sd_Oc sd_OKi (sd_Ot hO))
  · rename_i o z r
    simp only [am_nx, Option.some.injEq, Sum.inl.injEq, Prod.mk.injEq] at hs
    obtain ⟨rfl, rfl, rfl, rfl⟩ := hs
    intro γ κ sh H locs lsC hn0 hg hRl hS hL hO
    simp only [Nat.sub_self, Nat.add_zero] at kk
    obtain ⟨ho, hsh⟩ := (show o < h.1.1 ∧ sh o = (14, z) from sd_Oh hO (o, 14, z) rfl)
    have he := (sd_wsG (γ := γ) (κ := κ) (sh := sh) ho).trans (by rw [sd_E_ref hsh (by decide)])
    have hka := hRl.2.2.2.1 o ho (by rw [hsh]; exact Nat.le_of_ble_eq_true rfl)
    rw [hsh] at hka
    refine va_alen hx hb (sd_hK1 hKB hka) hRl.1 o 0 he rfl rfl hd ?_
    exact kk γ κ sh H locs lsC hn0 hg hRl hS hL (sd_Oc sd_OKi (sd_Ot hO))
  · rename_i o z r
    simp only [am_nx, Option.some.injEq, Sum.inl.injEq, Prod.mk.injEq] at hs
    obtain ⟨rfl, rfl, rfl, rfl⟩ := hs
    intro γ κ sh H locs lsC hn0 hg hRl hS hL hO
    simp only [Nat.sub_self, Nat.add_zero] at kk
    obtain ⟨ho, hsh⟩ := (show o < h.1.1 ∧ sh o = (15, z) from sd_Oh hO (o, 15, z) rfl)
    have he := (sd_wsG (γ := γ) (κ := κ) (sh := sh) ho).trans (by rw [sd_E_ref hsh (by decide)])
    have hka := hRl.2.2.2.1 o ho (by rw [hsh]; exact Nat.le_of_ble_eq_true rfl)
    rw [hsh] at hka
    refine va_alen hx hb (sd_hK1 hKB hka) hRl.1 o 0 he rfl rfl hd ?_
    exact kk γ κ sh H locs lsC hn0 hg hRl hS hL (sd_Oc sd_OKi (sd_Ot hO))
  · cases hs
end SIM
end
section
/-! THE SIMULATION: making cells, storing references, copying, the JDK's small functions -/
def sd_up {α : Type} (f : Nat → α) (n : Nat) (v : α) : Nat → α := fun i => if i = n then v else f i
theorem sd_up_lt {α : Type} {f : Nat → α} {n i : Nat} {v : α} (h : i < n) : sd_up f n v i = f i := if_neg (Nat.ne_of_lt h)
theorem sd_up_eq {α : Type} {f : Nat → α} {n : Nat} {v : α} : sd_up f n v n = v := if_pos rfl
theorem hI_hmk {h : Hp} {w i j : Nat} : hI (hmk h w) i j = if i = h.1.1 then 0 else hI h i j := rfl
theorem hR_hmk {h : Hp} {w i j : Nat} : hR (hmk h w) i j = if i = h.1.1 then none else hR h i j := rfl
theorem sd_fv_ext {γ γ2 : Nat → Nat} {κ : Nat → ClassId} {sh : Nat → Nat × Nat} {h h2 : Hp} {s : State} {i k : Nat} (hG : sd_G γ κ sh h s) (hi : i < h.1.1) (hg : ∀ x, x < h.1.1 → γ2 x = γ x) (e1 : hI h2 i = hI h i) (e2 : hR h2 i = hR h i) : sd_fv γ2 h2 k i = sd_fv γ h k i := by
  funext z
  simp only [sd_fv, e1, e2]
  split
  · cases hq : hR h i z with
    | none => rfl
    | some r => simp only [Option.map_some, hg _ (hG.2.2 i hi z r hq).1]
  · rfl
theorem sd_qa_ext {γ γ2 : Nat → Nat} {κ : Nat → ClassId} {sh : Nat → Nat × Nat} {h h2 : Hp} {s : State} {i : Nat} (hG : sd_G γ κ sh h s) (hi : i < h.1.1) (hg : ∀ x, x < h.1.1 → γ2 x = γ x) (e2 : hR h2 i = hR h i) : sd_qa γ2 h2 i = sd_qa γ h i := by
  funext z
  simp only [sd_qa, e2]
  cases hq : hR h i z with
  | none => rfl
  | some r => simp only [Option.map_some, hg _ (hG.2.2 i hi z r hq).1]
theorem sd_E_ext {γ γ2 : Nat → Nat} {κ κ2 : Nat → ClassId} {sh sh2 : Nat → Nat × Nat} {h h2 : Hp} {s : State} {i : Nat} (hG : sd_G γ κ sh h s) (hi : i < h.1.1) (hg : ∀ x, x < h.1.1 → γ2 x = γ x) (hk : κ2 i = κ i) (hs : sh2 i = sh i) (e1 : hI h2 i = hI h i) (e2 : hR h2 i = hR h i) : sd_E γ2 κ2 sh2 h2 i = sd_E γ κ sh h i := by
  unfold sd_E sd_fs
  rw [hk, hs, e1, sd_qa_ext hG hi hg e2, sd_fv_ext hG hi hg e1 e2]
/-- the world with one more cell -/
theorem sd_wsP {γ : Nat → Nat} {κ : Nat → ClassId} {sh : Nat → Nat × Nat} {h : Hp} {s : State} {w q0 : Nat} {cA : ClassId} {kz : Nat × Nat} (hG : sd_G γ κ sh h s) :
    sd_ws (sd_up γ h.1.1 q0) (sd_up κ h.1.1 cA) (sd_up sh h.1.1 kz) (hmk h w) = sd_ws γ κ sh h ++ [(q0, sd_E (sd_up γ h.1.1 q0) (sd_up κ h.1.1 cA) (sd_up sh h.1.1 kz) (hmk h w) h.1.1)] := by
  show (List.range (h.1.1 + 1)).map _ = _
  rw [List.range_succ, List.map_append]
  congr 1
  · refine List.map_congr_left fun i hi => ?_
    have hi := List.mem_range.mp hi
    rw [sd_up_lt hi, sd_E_ext hG hi (fun x hx => sd_up_lt hx) (sd_up_lt hi) (sd_up_lt hi) (by funext z; rw [hI_hmk, if_neg (Nat.ne_of_lt hi)]) (by funext z; rw [hR_hmk, if_neg (Nat.ne_of_lt hi)])]
  · simp only [List.map_cons, List.map_nil]
    rw [sd_up_eq]
theorem sd_G_mk {γ : Nat → Nat} {κ : Nat → ClassId} {sh : Nat → Nat × Nat} {h : Hp} {s : State} {w q0 : Nat} {cA : ClassId} {kz : Nat × Nat} (hG : sd_G γ κ sh h s) (hk : kz.1 < 16) (ha : 13 ≤ kz.1 → ArrOfT s cA (sd_at kz.1) ∧ va_RA s cA (sd_at kz.1)) : sd_G (sd_up γ h.1.1 q0) (sd_up κ h.1.1 cA) (sd_up sh h.1.1 kz) (hmk h w) s := by
  refine ⟨fun i hi => ?_, fun i hi hk2 => ?_, fun i hi z r hr => ?_⟩
  · have hi : i < h.1.1 + 1 := hi
    by_cases hq : i = h.1.1
    · subst hq; rw [sd_up_eq]; exact hk
    · rw [sd_up_lt (by omega)]; exact hG.1 i (by omega)
  · have hi : i < h.1.1 + 1 := hi
    by_cases hq : i = h.1.1
    · subst hq; rw [sd_up_eq] at hk2 ⊢; rw [sd_up_eq]; exact ha hk2
    · rw [sd_up_lt (show i < h.1.1 by omega)] at hk2
      rw [sd_up_lt (show i < h.1.1 by omega), sd_up_lt (show i < h.1.1 by omega)]; exact hG.2.1 i (by omega) hk2
  · have hi : i < h.1.1 + 1 := hi
    rw [hR_hmk] at hr
    split at hr
    · cases hr
    · rename_i hq
      obtain ⟨h1, h2⟩ := hG.2.2 i (by omega) z r hr
      exact ⟨Nat.lt_succ_of_lt h1, by rw [sd_up_lt h1]; exact h2⟩
theorem sd_cl_nw {s : State} {args : Array Value} (hts : ∀ w ∈ sd_tb, w.before args s = true) {k : Nat} (hk : k < 13) : (Cond.instantiable (sd_R k) (sd_N k)).before args s = true ∧ (Cond.initialized (sd_R k)).before args s = true := by
  match k, hk with
  | 0, _ => exact ⟨hts _ (sd_in 257 (by decide +kernel) rfl), hts _ (sd_in 71 (by decide +kernel) rfl)⟩
  | 1, _ => exact ⟨hts _ (sd_in 515 (by decide +kernel) rfl), hts _ (sd_in 82 (by decide +kernel) rfl)⟩
  | 2, _ => exact ⟨hts _ (sd_in 506 (by decide +kernel) rfl), hts _ (sd_in 81 (by decide +kernel) rfl)⟩
  | 3, _ => exact ⟨hts _ (sd_in 497 (by decide +kernel) rfl), hts _ (sd_in 80 (by decide +kernel) rfl)⟩
  | 4, _ => exact ⟨hts _ (sd_in 198 (by decide +kernel) rfl), hts _ (sd_in 69 (by decide +kernel) rfl)⟩
  | 5, _ => exact ⟨hts _ (sd_in 95 (by decide +kernel) rfl), hts _ (sd_in 65 (by decide +kernel) rfl)⟩
  | 6, _ => exact ⟨hts _ (sd_in 533 (by decide +kernel) rfl), hts _ (sd_in 84 (by decide +kernel) rfl)⟩
  | 7, _ => exact ⟨hts _ (sd_in 231 (by decide +kernel) rfl), hts _ (sd_in 70 (by decide +kernel) rfl)⟩
  | 8, _ => exact ⟨hts _ (sd_in 524 (by decide +kernel) rfl), hts _ (sd_in 83 (by decide +kernel) rfl)⟩
  | 9, _ => exact ⟨hts _ (sd_in 479 (by decide +kernel) rfl), hts _ (sd_in 79 (by decide +kernel) rfl)⟩
  | 10, _ => exact ⟨hts _ (sd_in 157 (by decide +kernel) rfl), hts _ (sd_in 68 (by decide +kernel) rfl)⟩
  | 11, _ => exact ⟨hts _ (sd_in 87 (by decide +kernel) rfl), hts _ (sd_in 64 (by decide +kernel) rfl)⟩
  | 12, _ => exact ⟨hts _ (sd_in 933 (by decide +kernel) rfl), hts _ (sd_in 72 (by decide +kernel) rfl)⟩
theorem sd_dv {k : Nat} (hk : k < 13) : ∀ z, z < sd_N k → defaultValue (sd_ty k z) = (if sd_rf k z = true then .null else .int 0) := by
  match k, hk with
  | 0, _ => exact (by decide +kernel : ∀ z, z < 2 → defaultValue (tyX0 z) = (if sd_rf 0 z = true then .null else .int 0))
  | 1, _ => exact (by decide +kernel : ∀ z, z < 2 → defaultValue (tyX1 z) = (if sd_rf 1 z = true then .null else .int 0))
  | 2, _ => exact (by decide +kernel : ∀ z, z < 2 → defaultValue (tyX2 z) = (if sd_rf 2 z = true then .null else .int 0))
  | 3, _ => exact (by decide +kernel : ∀ z, z < 2 → defaultValue (tyX3 z) = (if sd_rf 3 z = true then .null else .int 0))
  | 4, _ => exact (by decide +kernel : ∀ z, z < 7 → defaultValue (tyX4 z) = (if sd_rf 4 z = true then .null else .int 0))
  | 5, _ => exact (by decide +kernel : ∀ z, z < 9 → defaultValue (tyX5 z) = (if sd_rf 5 z = true then .null else .int 0))
  | 6, _ => exact (by decide +kernel : ∀ z, z < 2 → defaultValue (tyX6 z) = (if sd_rf 6 z = true then .null else .int 0))
  | 7, _ => exact (by decide +kernel : ∀ z, z < 6 → defaultValue (tyX7 z) = (if sd_rf 7 z = true then .null else .int 0))
  | 8, _ => exact (by decide +kernel : ∀ z, z < 2 → defaultValue (tyX8 z) = (if sd_rf 8 z = true then .null else .int 0))
  | 9, _ => exact (by decide +kernel : ∀ z, z < 2 → defaultValue (tyX9 z) = (if sd_rf 9 z = true then .null else .int 0))
  | 10, _ => exact (by decide +kernel : ∀ z, z < 6 → defaultValue (tyX10 z) = (if sd_rf 10 z = true then .null else .int 0))
  | 11, _ => exact (by decide +kernel : ∀ z, z < 10 → defaultValue (tyX11 z) = (if sd_rf 11 z = true then .null else .int 0))
  | 12, _ => exact (by decide +kernel : ∀ z, z < 43 → defaultValue (tyX12 z) = (if sd_rf 12 z = true then .null else .int 0))
section SIM
variable {p : Program} {l : Launch} {e : Env} {R : Room} {s : State} {m : MethodId} {args : Array Value} {below : List Frame} {meth : Method} {c : Code} {Q : State → Prop} {D : va_G} {A : Nat → Prop} {n0 : Nat} {γ0 : Nat → Nat} {κ0 : Nat → ClassId} {sh0 : Nat → Nat × Nat} {j cells slots pc pc2 len a b cq q : Nat} {ls ls2 : Lc} {st st2 : List AV} {h h2 : Hp}
theorem sm_new {n : Nat} (C : sd_Cx p s m args meth c j D A) (hv : sd_vb j pc (.new n, len, a, b, cq, q) = true) (hs : am_stp pc (.new n) len a b cq ls st h = some (.inl (pc2, ls2, st2, h2)))
    (kk : sd_W p l e R s m args below meth c D A n0 γ0 κ0 sh0 Q j (cells + (h2.1.1 - h.1.1)) (slots + (h2.1.2 - h.1.2)) pc2 ls2 st2 h2) (hc1 : cells + (h2.1.1 - h.1.1) ≤ R.cells) (hc2 : slots + (h2.1.2 - h.1.2) ≤ R.slots) : sd_W p l e R s m args below meth c D A n0 γ0 κ0 sh0 Q j cells slots pc ls st h := by
  obtain ⟨hx, hb, hml, hr, hlk, hown, hts, hnm, hKB, hA⟩ := C
  simp only [sd_vb, Bool.and_eq_true, decide_eq_true_eq, beq_iff_eq] at hv
  obtain ⟨hd, ⟨⟨rfl, ha⟩, rfl⟩, hq⟩ := hv
  simp only [am_stp] at hs
  simp only [am_nx, Option.some.injEq, Sum.inl.injEq, Prod.mk.injEq] at hs
  obtain ⟨rfl, rfl, rfl, rfl⟩ := hs
  intro γ κ sh H locs lsC hn0 hg hRl hS hL hO
  have e1 : (hmk h (sd_N a)).1.1 - h.1.1 = 1 := by show h.1.1 + 1 - h.1.1 = 1; omega
  have e2 : (hmk h (sd_N a)).1.2 - h.1.2 = sd_N a := by show h.1.2 + sd_N a - h.1.2 = sd_N a; omega
  rw [e1] at hc1; rw [e2] at hc2; rw [e1, e2] at kk
  refine va_new (ci := a) (fs := sd_fs γ (hmk h (sd_N a)) a h.1.1) (C := sd_R a) (T := sd_T a) (N := sd_N a) hx hb hts (sd_inT ha) (sd_ty a) (sd_tyo ha) hown (hts _ (sd_in q hq rfl)) (sd_cl_nw hts ha).1 (sd_cl_nw hts ha).2 (sd_hK0 hKB) hRl.1 hRl.2.1 hS hA (sd_clk ha) (fun z hz => ?_) hc1 hc2 hd (fun q0 H1 hP hD hS1 => ?_)
  · rw [sd_dv ha z hz]
    have : vp_V (sd_fs γ (hmk h (sd_N a)) a h.1.1) z = sd_fv γ (hmk h (sd_N a)) a h.1.1 z := by simp [vp_V, sd_fsG hz]
    rw [this]
    simp only [sd_fv, hI_hmk, hR_hmk, if_true, Option.map_none]
    rfl
  · have hE : sd_E (sd_up γ h.1.1 q0) (sd_up κ h.1.1 0) (sd_up sh h.1.1 (a, 0)) (hmk h (sd_N a)) h.1.1 = .inr (a, sd_fs γ (hmk h (sd_N a)) a h.1.1) := by
      rw [sd_E_obj (k := a) (z := 0) sd_up_eq ha]
      have : sd_fs (sd_up γ h.1.1 q0) (hmk h (sd_N a)) a h.1.1 = sd_fs γ (hmk h (sd_N a)) a h.1.1 := by
        unfold sd_fs
        refine List.map_congr_left fun z _ => ?_
        simp only [sd_fv, hR_hmk, if_true, Option.map_none]
      rw [this]
    rw [← hE, ← sd_wsP hRl.2.2] at hP hD
    have hok : ∀ v ∈ st, sd_OK (sd_up sh h.1.1 (a, 0)) (h.1.1 + 1) v := fun v hv => sd_OK_ext (Nat.le_succ _) (fun i hi => sd_up_lt hi) (hO v hv)
    have := kk (sd_up γ h.1.1 q0) (sd_up κ h.1.1 0) (sd_up sh h.1.1 (a, 0)) H1 locs lsC (by show n0 ≤ h.1.1 + 1; omega) (fun i hi => by rw [sd_up_lt (show i < h.1.1 by omega), sd_up_lt (show i < h.1.1 by omega), sd_up_lt (show i < h.1.1 by omega)]; exact hg i hi) ⟨hP, hD, sd_G_mk hRl.2.2 (by omega) (fun z => absurd z (by omega))⟩ hS1 (sd_LR_ext (Nat.le_succ _) (fun i hi => sd_up_lt hi) (fun i hi => sd_up_lt hi) hL) (sd_Oc (fun r hr => by cases hr; exact ⟨Nat.lt_succ_self _, sd_up_eq⟩) hok)
    rw [List.map_cons, sd_map_ext (fun i hi => sd_up_lt hi) hO] at this
    have e3 : sd_cv (sd_up γ h.1.1 q0) (vr (h.1.1, a, 0)) = .ref q0 := by simp [sd_cv, va_rf, sd_up_eq]
    rw [e3] at this
    exact this
theorem sm_newarray  (C : sd_Cx p s m args meth c j D A) (hv : sd_vb j pc (.newarray .int, len, a, b, cq, q) = true) (hs : am_stp pc (.newarray .int) len a b cq ls st h = some (.inl (pc2, ls2, st2, h2)))
    (kk : sd_W p l e R s m args below meth c D A n0 γ0 κ0 sh0 Q j (cells + (h2.1.1 - h.1.1)) (slots + (h2.1.2 - h.1.2)) pc2 ls2 st2 h2) (hc1 : cells + (h2.1.1 - h.1.1) ≤ R.cells) (hc2 : slots + (h2.1.2 - h.1.2) ≤ R.slots) : sd_W p l e R s m args below meth c D A n0 γ0 κ0 sh0 Q j cells slots pc ls st h := by
  obtain ⟨hx, hb, hml, hr, hlk, hown, hts, hnm, hKB, hA⟩ := C
  simp only [sd_vb, Bool.and_eq_true, decide_eq_true_eq, beq_iff_eq] at hv
  obtain ⟨hd, rfl⟩ := hv
  simp only [am_stp] at hs
  split at hs
  · rename_i n r
    split at hs
    · cases hs
    · rename_i hin
      simp only [am_nx, Option.some.injEq, Sum.inl.injEq, Prod.mk.injEq] at hs
      obtain ⟨rfl, rfl, rfl, rfl⟩ := hs
      intro γ κ sh H locs lsC hn0 hg hRl hS hL hO
      have hn : ¬ n < 0 := fun z => hin (Or.inl z)
      have hN : n.toNatClampNeg < 100000 := Nat.not_le.mp (fun z => hin (Or.inr z))
      have e1 : (hmk h n.toNatClampNeg).1.1 - h.1.1 = 1 := by show h.1.1 + 1 - h.1.1 = 1; omega
      have e2 : (hmk h n.toNatClampNeg).1.2 - h.1.2 = n.toNatClampNeg := by show h.1.2 + n.toNatClampNeg - h.1.2 = n.toNatClampNeg; omega
      rw [e1] at hc1; rw [e2] at hc2; rw [e1, e2] at kk
      refine va_newa (atype := .int) (ty := .int) (a0 := (n.toNatClampNeg, .inl (fun _ => 0))) hx hb (hts _ (sd_in 155 (by decide +kernel) rfl)) rfl (sd_hK0 hKB) hRl.1 hRl.2.1 hS hA (fun cA => rfl) hn rfl (Nat.le_trans (Nat.mul_le_mul_right _ (Nat.le_of_lt hN)) (Nat.le_of_ble_eq_true rfl)) hc1 hc2 hd (fun q0 cA H1 hK2 hP hD hS1 => ?_)
      have hka := hK2.2 0 _ rfl
      have hE : sd_E (sd_up γ h.1.1 q0) (sd_up κ h.1.1 cA) (sd_up sh h.1.1 (13, n.toNatClampNeg)) (hmk h n.toNatClampNeg) h.1.1 = .inl (cA, (n.toNatClampNeg, .inl (fun _ => 0))) := by
        rw [sd_E_int (z := n.toNatClampNeg) sd_up_eq, sd_up_eq]
        have : hI (hmk h n.toNatClampNeg) h.1.1 = fun _ => 0 := by funext z; rw [hI_hmk, if_pos rfl]
        rw [this]
      rw [← hE, ← sd_wsP hRl.2.2] at hP hD
      have hok : ∀ v ∈ r, sd_OK (sd_up sh h.1.1 (13, n.toNatClampNeg)) (h.1.1 + 1) v := fun v hv => sd_OK_ext (Nat.le_succ _) (fun i hi => sd_up_lt hi) (sd_Ot hO v hv)
      have := kk (sd_up γ h.1.1 q0) (sd_up κ h.1.1 cA) (sd_up sh h.1.1 (13, n.toNatClampNeg)) H1 locs lsC (by show n0 ≤ h.1.1 + 1; omega) (fun i hi => by rw [sd_up_lt (show i < h.1.1 by omega), sd_up_lt (show i < h.1.1 by omega), sd_up_lt (show i < h.1.1 by omega)]; exact hg i hi) ⟨hP, hD, sd_G_mk hRl.2.2 (Nat.le_of_ble_eq_true rfl) (fun _ => hka)⟩ hS1 (sd_LR_ext (Nat.le_succ _) (fun i hi => sd_up_lt hi) (fun i hi => sd_up_lt hi) hL) (sd_Oc (fun r hr => by cases hr; exact ⟨Nat.lt_succ_self _, sd_up_eq⟩) hok)
      rw [List.map_cons, sd_map_ext (fun i hi => sd_up_lt hi) (sd_Ot hO)] at this
      have e3 : sd_cv (sd_up γ h.1.1 q0) (vr (h.1.1, 13, n.toNatClampNeg)) = .ref q0 := by simp [sd_cv, va_rf, sd_up_eq]
      rw [e3] at this
      exact this
  · cases hs
theorem sm_anewarray {k : Nat} (C : sd_Cx p s m args meth c j D A) (hv : sd_vb j pc (.anewarray k, len, a, b, cq, q) = true) (hs : am_stp pc (.anewarray k) len a b cq ls st h = some (.inl (pc2, ls2, st2, h2)))
    (kk : sd_W p l e R s m args below meth c D A n0 γ0 κ0 sh0 Q j (cells + (h2.1.1 - h.1.1)) (slots + (h2.1.2 - h.1.2)) pc2 ls2 st2 h2) (hc1 : cells + (h2.1.1 - h.1.1) ≤ R.cells) (hc2 : slots + (h2.1.2 - h.1.2) ≤ R.slots) : sd_W p l e R s m args below meth c D A n0 γ0 κ0 sh0 Q j cells slots pc ls st h := by
  obtain ⟨hx, hb, hml, hr, hlk, hown, hts, hnm, hKB, hA⟩ := C
  simp only [sd_vb, Bool.and_eq_true, decide_eq_true_eq, beq_iff_eq] at hv
  obtain ⟨hd, rfl, hq⟩ := hv
  simp only [am_stp] at hs
  split at hs
  · rename_i n r
    split at hs
    · cases hs
    · rename_i hin
      simp only [am_nx, Option.some.injEq, Sum.inl.injEq, Prod.mk.injEq] at hs
      obtain ⟨rfl, rfl, rfl, rfl⟩ := hs
      intro γ κ sh H locs lsC hn0 hg hRl hS hL hO
      have hn : ¬ n < 0 := fun z => hin (Or.inl z)
      have hN : n.toNatClampNeg < 100000 := Nat.not_le.mp (fun z => hin (Or.inr z))
      have e1 : (hmk h n.toNatClampNeg).1.1 - h.1.1 = 1 := by show h.1.1 + 1 - h.1.1 = 1; omega
      have e2 : (hmk h n.toNatClampNeg).1.2 - h.1.2 = n.toNatClampNeg := by show h.1.2 + n.toNatClampNeg - h.1.2 = n.toNatClampNeg; omega
      rw [e1] at hc1; rw [e2] at hc2; rw [e1, e2] at kk
      refine va_newq hx hb hown (hts _ (sd_in q hq rfl)) hKB.2.1 (sd_hK0 hKB) hRl.1 hRl.2.1 hS hA hn rfl (Nat.le_trans (Nat.mul_le_mul_right _ (Nat.le_of_lt hN)) (Nat.le_of_ble_eq_true rfl)) hc1 hc2 hd (fun q0 cA H1 hK2 hP hD hS1 => ?_)
      have hka := hK2.2 0 _ rfl
      have hE : sd_E (sd_up γ h.1.1 q0) (sd_up κ h.1.1 cA) (sd_up sh h.1.1 (14, n.toNatClampNeg)) (hmk h n.toNatClampNeg) h.1.1 = .inl (cA, (n.toNatClampNeg, .inr (.inr (.inr (.inr (fun _ => none)))))) := by
        rw [sd_E_ref (k := 14) (z := n.toNatClampNeg) sd_up_eq (by decide), sd_up_eq]
        have : sd_qa (sd_up γ h.1.1 q0) (hmk h n.toNatClampNeg) h.1.1 = fun _ => none := by funext z; simp [sd_qa, hR_hmk]
        rw [this]
      rw [← hE, ← sd_wsP hRl.2.2] at hP hD
      have hok : ∀ v ∈ r, sd_OK (sd_up sh h.1.1 (14, n.toNatClampNeg)) (h.1.1 + 1) v := fun v hv => sd_OK_ext (Nat.le_succ _) (fun i hi => sd_up_lt hi) (sd_Ot hO v hv)
      have := kk (sd_up γ h.1.1 q0) (sd_up κ h.1.1 cA) (sd_up sh h.1.1 (14, n.toNatClampNeg)) H1 locs lsC (by show n0 ≤ h.1.1 + 1; omega) (fun i hi => by rw [sd_up_lt (show i < h.1.1 by omega), sd_up_lt (show i < h.1.1 by omega), sd_up_lt (show i < h.1.1 by omega)]; exact hg i hi) ⟨hP, hD, sd_G_mk hRl.2.2 (Nat.le_of_ble_eq_true rfl) (fun _ => hka)⟩ hS1 (sd_LR_ext (Nat.le_succ _) (fun i hi => sd_up_lt hi) (fun i hi => sd_up_lt hi) hL) (sd_Oc (fun r hr => by cases hr; exact ⟨Nat.lt_succ_self _, sd_up_eq⟩) hok)
      rw [List.map_cons, sd_map_ext (fun i hi => sd_up_lt hi) (sd_Ot hO)] at this
      have e3 : sd_cv (sd_up γ h.1.1 q0) (vr (h.1.1, 14, n.toNatClampNeg)) = .ref q0 := by simp [sd_cv, va_rf, sd_up_eq]
      rw [e3] at this
      exact this
  · cases hs
theorem sm_aastore  (C : sd_Cx p s m args meth c j D A) (hv : sd_vb j pc (.aastore, len, a, b, cq, q) = true) (hs : am_stp pc (.aastore) len a b cq ls st h = some (.inl (pc2, ls2, st2, h2)))
    (kk : sd_W p l e R s m args below meth c D A n0 γ0 κ0 sh0 Q j (cells + (h2.1.1 - h.1.1)) (slots + (h2.1.2 - h.1.2)) pc2 ls2 st2 h2) : sd_W p l e R s m args below meth c D A n0 γ0 κ0 sh0 Q j cells slots pc ls st h := by
  obtain ⟨hx, hb, hml, hr, hlk, hown, hts, hnm, hKB, hA⟩ := C
  simp only [sd_vb, Bool.and_eq_true, decide_eq_true_eq, beq_iff_eq] at hv
  obtain ⟨hd, rfl⟩ := hv
  simp only [am_stp] at hs
  split at hs
  · rename_i i o z r
    split at hs
    · cases hs
    · rename_i hin
      simp only [am_nx, Option.some.injEq, Sum.inl.injEq, Prod.mk.injEq] at hs
      obtain ⟨rfl, rfl, rfl, rfl⟩ := hs
      intro γ κ sh H locs lsC hn0 hg hRl hS hL hO
      simp only [hsR, Nat.sub_self, Nat.add_zero] at kk
      obtain ⟨ho, hsh⟩ := (show o < h.1.1 ∧ sh o = (14, z) from sd_Oh (sd_Ot (sd_Ot hO)) (o, 14, z) rfl)
      have he := (sd_wsG (γ := γ) (κ := κ) (sh := sh) ho).trans (by rw [sd_E_ref hsh (by decide)])
      have hka := hRl.2.2.2.1 o ho (by rw [hsh]; exact Nat.le_of_ble_eq_true rfl)
      rw [hsh] at hka
      have hset : ∀ v : Option Nat, v = (none : Option Rf).map (fun r => γ r.1) → (sd_ws γ κ sh h).set o (γ o, .inl (κ o, z, .inr (.inr (.inr (.inr (va_up (sd_qa γ h o) i.toNatClampNeg v)))))) = sd_ws γ κ sh (hsR h o i.toNatClampNeg none) := by
        intro v hv
        refine sd_wsS (h := h) (h2 := hsR h o i.toNatClampNeg none) rfl (fun w hw => sd_E_ne (fun _ => rfl) (fun y => by rw [hR_hsR, if_neg (fun q => hw q.1)])) _ ?_
        rw [sd_E_ref hsh (by decide)]
        have : va_up (sd_qa γ h o) i.toNatClampNeg v = sd_qa γ (hsR h o i.toNatClampNeg none) o := by
          funext w
          simp only [sd_qa, hR_hsR, va_up]
          by_cases hw : w = i.toNatClampNeg
          · simp [hw, hv]
          · simp [hw]
        rw [this]
      refine va_astqN hx hb (sd_hK1 hKB hka) hRl.1 hRl.2.1 hS o 0 he rfl hin hd (fun H1 locs1 hP hD hS1 => ?_)
      rw [hset none rfl] at hP hD
      exact kk γ κ sh H1 locs1 lsC hn0 hg ⟨hP, hD, sd_G_R hRl.2.2 sd_OKn⟩ hS1 hL (sd_Ot (sd_Ot (sd_Ot hO)))
  · rename_i x k y i o z r
    split at hs
    · cases hs
    · rename_i hin
      simp only [am_nx, Option.some.injEq, Sum.inl.injEq, Prod.mk.injEq] at hs
      obtain ⟨rfl, rfl, rfl, rfl⟩ := hs
      intro γ κ sh H locs lsC hn0 hg hRl hS hL hO
      simp only [hsR, Nat.sub_self, Nat.add_zero] at kk
      obtain ⟨ho, hsh⟩ := (show o < h.1.1 ∧ sh o = (14, z) from sd_Oh (sd_Ot (sd_Ot hO)) (o, 14, z) rfl)
      have he := (sd_wsG (γ := γ) (κ := κ) (sh := sh) ho).trans (by rw [sd_E_ref hsh (by decide)])
      have hka := hRl.2.2.2.1 o ho (by rw [hsh]; exact Nat.le_of_ble_eq_true rfl)
      rw [hsh] at hka
      have hset : ∀ v : Option Nat, v = ((some (x, k, y)) : Option Rf).map (fun r => γ r.1) → (sd_ws γ κ sh h).set o (γ o, .inl (κ o, z, .inr (.inr (.inr (.inr (va_up (sd_qa γ h o) i.toNatClampNeg v)))))) = sd_ws γ κ sh (hsR h o i.toNatClampNeg (some (x, k, y))) := by
        intro v hv
        refine sd_wsS (h := h) (h2 := hsR h o i.toNatClampNeg (some (x, k, y))) rfl (fun w hw => sd_E_ne (fun _ => rfl) (fun y => by rw [hR_hsR, if_neg (fun q => hw q.1)])) _ ?_
        rw [sd_E_ref hsh (by decide)]
        have : va_up (sd_qa γ h o) i.toNatClampNeg v = sd_qa γ (hsR h o i.toNatClampNeg (some (x, k, y))) o := by
          funext w
          simp only [sd_qa, hR_hsR, va_up]
          by_cases hw : w = i.toNatClampNeg
          · simp [hw, hv]
          · simp [hw]
        rw [this]
      obtain ⟨hxo, hxs⟩ := (show x < h.1.1 ∧ sh x = (k, y) from sd_Oh hO (x, k, y) rfl)
      have hin1 : ¬ (i < 0 ∨ z ≤ i.toNatClampNeg) := fun q => hin (q.elim Or.inl (fun w => Or.inr (Or.inl w)))
      have hsub : am_sub k 9 = true := by
        cases hq : am_sub k 9 with
        | true => rfl
        | false => exact absurd (Or.inr (Or.inr hq)) hin
      have hk9 := sd_subI hsub
      have hk13 : k < 13 := by omega
      have hex := (sd_wsG (γ := γ) (κ := κ) (sh := sh) hxo).trans (by rw [sd_E_obj hxs hk13])
      have fin : ∀ (H1 : Heap) (locs1 : List Loc), va_P D sd_cl ((sd_ws γ κ sh h).set o (γ o, .inl (κ o, z, .inr (.inr (.inr (.inr (va_up (sd_qa γ h o) i.toNatClampNeg (some (γ x))))))))) H1 → va_D A ((sd_ws γ κ sh h).set o (γ o, .inl (κ o, z, .inr (.inr (.inr (.inr (va_up (sd_qa γ h o) i.toNatClampNeg (some (γ x))))))))) → va_S A s.heap H1 locs1 → W p l e R s m args below meth c H1 locs1 cells slots Q (F0 m (pc + 1) lsC (r.map (sd_cv γ))) := by
        intro H1 locs1 hP hD hS1
        rw [hset (some (γ x)) rfl] at hP hD
        exact kk γ κ sh H1 locs1 lsC hn0 hg ⟨hP, hD, sd_G_R hRl.2.2 (sd_Oh hO)⟩ hS1 hL (sd_Ot (sd_Ot (sd_Ot hO)))
      by_cases hk : k = 9
      · subst hk
        exact va_astq hx hb (sd_hK1 hKB hka) hRl.1 hRl.2.1 hS o 0 x 9 he rfl hex (sd_clk hk13) hin1 hd fin
      · have hca : va_Nw (.castable (sd_R k) "SeenADayLate$Walker") s := hKB.2.2.2.2 k (by omega)
        exact va_astqO hx hb (sd_hK1 hKB hka) hRl.1 hRl.2.1 hS o 0 x k he rfl hca hex (sd_clk hk13) hin1 hd fin
  · cases hs
end SIM
end
section
/-! THE SIMULATION: System.arraycopy, Math, Object's constructor -/
theorem sd_len4 {γ : Nat → Nat} : ∀ {r : List AV}, r.length ≤ 4 → ((r.map (sd_cv γ)).map fun v => v.category).sum ≤ 8 := by
  have key : ∀ (r : List AV), ((r.map (sd_cv γ)).map fun v => v.category).sum ≤ 2 * r.length := by
    intro r
    induction r with
    | nil => simp
    | cons v r ih =>
      have : (sd_cv γ v).category ≤ 2 := by rcases lv_cat (sd_cv γ v) with h | h <;> omega
      simp only [List.map_cons, List.sum_cons, List.length_cons]
      omega
  intro r h
  have := key r
  omega
theorem sd_n7 : nativeFrameWords "java/lang/System" "arraycopy" 5 = 7 := by decide +kernel
theorem hI_hcp {h : Hp} {o0 sp o1 dp n i j : Nat} : hI (hcp h o0 sp o1 dp n) i j = if i = o1 ∧ dp ≤ j ∧ j < dp + n then hI h o0 (sp + (j - dp)) else hI h i j := rfl
section SIM
variable {p : Program} {l : Launch} {e : Env} {R : Room} {s : State} {m : MethodId} {args : Array Value} {below : List Frame} {meth : Method} {c : Code} {Q : State → Prop} {D : va_G} {A : Nat → Prop} {n0 : Nat} {γ0 : Nat → Nat} {κ0 : Nat → ClassId} {sh0 : Nat → Nat × Nat} {j cells slots pc pc2 len a b cq q : Nat} {ls ls2 : Lc} {st st2 : List AV} {h h2 : Hp}
theorem sm_mmax {n : Nat} (C : sd_Cx p s m args meth c j D A) (hv : sd_vb j pc (.invokestatic n, len, a, b, 1, q) = true) (hs : am_stp pc (.invokestatic n) len a b 1 ls st h = some (.inl (pc2, ls2, st2, h2)))
    (kk : sd_W p l e R s m args below meth c D A n0 γ0 κ0 sh0 Q j (cells + (h2.1.1 - h.1.1)) (slots + (h2.1.2 - h.1.2)) pc2 ls2 st2 h2) (hf : 10 ≤ R.frames) (hlo : 1280 ≤ R.locals) (hc1 : cells ≤ R.cells) (hc2 : slots ≤ R.slots) : sd_W p l e R s m args below meth c D A n0 γ0 κ0 sh0 Q j cells slots pc ls st h := by
  obtain ⟨hx, hb, hml, hr, hlk, hown, hts, hnm, hKB, hA⟩ := C
  simp only [sd_vb, Bool.and_eq_true, decide_eq_true_eq, beq_iff_eq] at hv
  obtain ⟨hd, rfl, hq⟩ := hv
  simp only [am_stp] at hs
  split at hs
  · rename_i y x r
    split at hs
    · rename_i hlen
      simp only [am_nx, Option.some.injEq, Sum.inl.injEq, Prod.mk.injEq] at hs
      obtain ⟨rfl, rfl, rfl, rfl⟩ := hs
      intro γ κ sh H locs lsC hn0 hg hRl hS hL hO
      simp only [Nat.sub_self, Nat.add_zero] at kk
      have h8 := sd_len4 (γ := γ) hlen
      refine va_mmax hx hb (hml.trans hL.2.1.symm) hown (hts _ (sd_in q hq rfl)) (hts _ (sd_in 104 (by decide +kernel) rfl)) (hts _ (sd_in 66 (by decide +kernel) rfl)) (hts _ (sd_in 105 (by decide +kernel) rfl)) (by omega) (by omega) hc1 hc2 hd ?_
      exact kk γ κ sh H locs lsC hn0 hg hRl hS hL (sd_Oc sd_OKi (sd_Ot (sd_Ot hO)))
    · cases hs
  · cases hs
theorem sm_mmin {n : Nat} (C : sd_Cx p s m args meth c j D A) (hv : sd_vb j pc (.invokestatic n, len, a, b, 2, q) = true) (hs : am_stp pc (.invokestatic n) len a b 2 ls st h = some (.inl (pc2, ls2, st2, h2)))
    (kk : sd_W p l e R s m args below meth c D A n0 γ0 κ0 sh0 Q j (cells + (h2.1.1 - h.1.1)) (slots + (h2.1.2 - h.1.2)) pc2 ls2 st2 h2) (hf : 10 ≤ R.frames) (hlo : 1280 ≤ R.locals) (hc1 : cells ≤ R.cells) (hc2 : slots ≤ R.slots) : sd_W p l e R s m args below meth c D A n0 γ0 κ0 sh0 Q j cells slots pc ls st h := by
  obtain ⟨hx, hb, hml, hr, hlk, hown, hts, hnm, hKB, hA⟩ := C
  simp only [sd_vb, Bool.and_eq_true, decide_eq_true_eq, beq_iff_eq] at hv
  obtain ⟨hd, rfl, hq⟩ := hv
  simp only [am_stp] at hs
  split at hs
  · rename_i y x r
    split at hs
    · rename_i hlen
      simp only [am_nx, Option.some.injEq, Sum.inl.injEq, Prod.mk.injEq] at hs
      obtain ⟨rfl, rfl, rfl, rfl⟩ := hs
      intro γ κ sh H locs lsC hn0 hg hRl hS hL hO
      simp only [Nat.sub_self, Nat.add_zero] at kk
      have h8 := sd_len4 (γ := γ) hlen
      refine va_mmin hx hb (hml.trans hL.2.1.symm) hown (hts _ (sd_in q hq rfl)) (hts _ (sd_in 101 (by decide +kernel) rfl)) (hts _ (sd_in 66 (by decide +kernel) rfl)) (hts _ (sd_in 102 (by decide +kernel) rfl)) (by omega) (by omega) hc1 hc2 hd ?_
      exact kk γ κ sh H locs lsC hn0 hg hRl hS hL (sd_Oc sd_OKi (sd_Ot (sd_Ot hO)))
    · cases hs
  · cases hs
theorem sm_mabs {n : Nat} (C : sd_Cx p s m args meth c j D A) (hv : sd_vb j pc (.invokestatic n, len, a, b, 3, q) = true) (hs : am_stp pc (.invokestatic n) len a b 3 ls st h = some (.inl (pc2, ls2, st2, h2)))
    (kk : sd_W p l e R s m args below meth c D A n0 γ0 κ0 sh0 Q j (cells + (h2.1.1 - h.1.1)) (slots + (h2.1.2 - h.1.2)) pc2 ls2 st2 h2) (hf : 10 ≤ R.frames) (hlo : 1280 ≤ R.locals) (hc1 : cells ≤ R.cells) (hc2 : slots ≤ R.slots) : sd_W p l e R s m args below meth c D A n0 γ0 κ0 sh0 Q j cells slots pc ls st h := by
  obtain ⟨hx, hb, hml, hr, hlk, hown, hts, hnm, hKB, hA⟩ := C
  simp only [sd_vb, Bool.and_eq_true, decide_eq_true_eq, beq_iff_eq] at hv
  obtain ⟨hd, rfl, hq⟩ := hv
  simp only [am_stp] at hs
  split at hs
  · rename_i x r
    split at hs
    · rename_i hlen
      simp only [am_nx, Option.some.injEq, Sum.inl.injEq, Prod.mk.injEq] at hs
      obtain ⟨rfl, rfl, rfl, rfl⟩ := hs
      intro γ κ sh H locs lsC hn0 hg hRl hS hL hO
      simp only [Nat.sub_self, Nat.add_zero] at kk
      have h8 := sd_len4 (γ := γ) hlen
      refine va_mabs hx hb (hml.trans hL.2.1.symm) hown (hts _ (sd_in q hq rfl)) (hts _ (sd_in 649 (by decide +kernel) rfl)) (hts _ (sd_in 66 (by decide +kernel) rfl)) (hts _ (sd_in 650 (by decide +kernel) rfl)) (by omega) (by omega) hc1 hc2 hd ?_
      exact kk γ κ sh H locs lsC hn0 hg hRl hS hL (sd_Oc sd_OKi (sd_Ot hO))
    · cases hs
  · cases hs
theorem sm_acopy {n : Nat} (C : sd_Cx p s m args meth c j D A) (hv : sd_vb j pc (.invokestatic n, len, a, b, 4, q) = true) (hs : am_stp pc (.invokestatic n) len a b 4 ls st h = some (.inl (pc2, ls2, st2, h2)))
    (kk : sd_W p l e R s m args below meth c D A n0 γ0 κ0 sh0 Q j (cells + (h2.1.1 - h.1.1)) (slots + (h2.1.2 - h.1.2)) pc2 ls2 st2 h2) (hf : 10 ≤ R.frames) (hlo : 1280 ≤ R.locals) (hc1 : cells ≤ R.cells) (hc2 : slots ≤ R.slots) : sd_W p l e R s m args below meth c D A n0 γ0 κ0 sh0 Q j cells slots pc ls st h := by
  obtain ⟨hx, hb, hml, hr, hlk, hown, hts, hnm, hKB, hA⟩ := C
  simp only [sd_vb, Bool.and_eq_true, decide_eq_true_eq, beq_iff_eq] at hv
  obtain ⟨hd, rfl, hq⟩ := hv
  simp only [am_stp] at hs
  split at hs
  · rename_i n dp o1 n1 sp o0 n0' r
    split at hs
    · cases hs
    · rename_i hin
      simp only [am_nx, Option.some.injEq, Sum.inl.injEq, Prod.mk.injEq] at hs
      obtain ⟨rfl, rfl, rfl, rfl⟩ := hs
      intro γ κ sh H locs lsC hn0 hg hRl hS hL hO
      simp only [hcp, Nat.sub_self, Nat.add_zero] at kk
      have hlen : r.length ≤ 4 := by
        refine Nat.not_lt.mp fun z => hin ?_
        exact Or.inr (Or.inr (Or.inr (Or.inr (Or.inr z))))
      have h8 := sd_len4 (γ := γ) hlen
      obtain ⟨ho1, hs1⟩ := (show o1 < h.1.1 ∧ sh o1 = (13, n1) from sd_Oh (sd_Ot (sd_Ot hO)) (o1, 13, n1) rfl)
      obtain ⟨ho0, hs0⟩ := (show o0 < h.1.1 ∧ sh o0 = (13, n0') from sd_Oh (sd_Ot (sd_Ot (sd_Ot (sd_Ot hO)))) (o0, 13, n0') rfl)
      have he1 := (sd_wsG (γ := γ) (κ := κ) (sh := sh) ho1).trans (by rw [sd_E_int hs1])
      have he0 := (sd_wsG (γ := γ) (κ := κ) (sh := sh) ho0).trans (by rw [sd_E_int hs0])
      have hk1 := hRl.2.2.2.1 o1 ho1 (by rw [hs1]; exact Nat.le_refl 13)
      have hk0 := hRl.2.2.2.1 o0 ho0 (by rw [hs0]; exact Nat.le_refl 13)
      rw [hs1] at hk1
      rw [hs0] at hk0
      refine va_copyi (ty := .int) hx hb (hml.trans hL.2.1.symm) hown (hts _ (sd_in q hq rfl)) (hts _ (sd_in 447 (by decide +kernel) rfl)) (hts _ (sd_in 446 (by decide +kernel) rfl)) (hts _ (sd_in 78 (by decide +kernel) rfl)) (sd_hK2 hKB hk0 hk1) hRl.1 hRl.2.1 hS o0 o1 0 1 he0 he1 rfl rfl rfl
        (fun z => hin (Or.inl z)) (fun z => hin (Or.inr (Or.inl z))) (fun z => hin (Or.inr (Or.inr (Or.inl z)))) (Nat.not_lt.mp fun z => hin (Or.inr (Or.inr (Or.inr (Or.inl z))))) (Nat.not_lt.mp fun z => hin (Or.inr (Or.inr (Or.inr (Or.inr (Or.inl z)))))) (fun _ _ => rfl) (by omega) (by rw [sd_n7]; omega) hd (fun H1 locs1 hP hD hS1 => ?_)
      have hset : (sd_ws γ κ sh h).set o1 (γ o1, .inl (κ o1, n1, .inl (va_cpy (hI h o0) (hI h o1) sp.toNatClampNeg dp.toNatClampNeg n.toNatClampNeg))) = sd_ws γ κ sh (hcp h o0 sp.toNatClampNeg o1 dp.toNatClampNeg n.toNatClampNeg) := by
        refine sd_wsS (h := h) (h2 := hcp h o0 sp.toNatClampNeg o1 dp.toNatClampNeg n.toNatClampNeg) rfl (fun w hw => sd_E_ne (fun y => by rw [hI_hcp, if_neg (fun q => hw q.1)]) (fun _ => rfl)) _ ?_
        rw [sd_E_int hs1]
        have : va_cpy (hI h o0) (hI h o1) sp.toNatClampNeg dp.toNatClampNeg n.toNatClampNeg = hI (hcp h o0 sp.toNatClampNeg o1 dp.toNatClampNeg n.toNatClampNeg) o1 := by
          funext w
          rw [hI_hcp]
          by_cases hw : dp.toNatClampNeg ≤ w ∧ w < dp.toNatClampNeg + n.toNatClampNeg
          · simp [va_cpy, hw]
          · rw [if_neg (fun z => hw z.2)]; simp only [va_cpy]; rw [if_neg hw]
        rw [this]
      rw [hset] at hP hD
      exact kk γ κ sh H1 locs1 lsC hn0 hg ⟨hP, hD, hRl.2.2⟩ hS1 hL (sd_Ot (sd_Ot (sd_Ot (sd_Ot (sd_Ot hO)))))
  · cases hs
theorem sm_objInit {n : Nat} (C : sd_Cx p s m args meth c j D A) (hv : sd_vb j pc (.invokespecial n, len, a, b, cq + 1, q) = true) (hs : am_stp pc (.invokespecial n) len a b (cq + 1) ls st h = some (.inl (pc2, ls2, st2, h2)))
    (kk : sd_W p l e R s m args below meth c D A n0 γ0 κ0 sh0 Q j (cells + (h2.1.1 - h.1.1)) (slots + (h2.1.2 - h.1.2)) pc2 ls2 st2 h2) (hf : 10 ≤ R.frames) (hlo : 1280 ≤ R.locals) (hc1 : cells ≤ R.cells) (hc2 : slots ≤ R.slots) : sd_W p l e R s m args below meth c D A n0 γ0 κ0 sh0 Q j cells slots pc ls st h := by
  obtain ⟨hx, hb, hml, hr, hlk, hown, hts, hnm, hKB, hA⟩ := C
  simp only [sd_vb, Bool.and_eq_true, decide_eq_true_eq, beq_iff_eq] at hv
  obtain ⟨hd, rfl, hq⟩ := hv
  simp only [am_stp] at hs
  split at hs
  · rename_i w r
    split at hs
    · rename_i hlen
      simp only [am_nx, Option.some.injEq, Sum.inl.injEq, Prod.mk.injEq] at hs
      obtain ⟨rfl, rfl, rfl, rfl⟩ := hs
      intro γ κ sh H locs lsC hn0 hg hRl hS hL hO
      simp only [Nat.sub_self, Nat.add_zero] at kk
      have h8 := sd_len4 (γ := γ) hlen
      refine W.objInit hx hb hown (hts _ (sd_in q hq rfl)) (hts _ (sd_in 92 (by decide +kernel) rfl)) (hts _ (sd_in 93 (by decide +kernel) rfl)) (g := F0 m pc lsC (List.map (sd_cv γ) (vr w :: r))) rfl (hL.2.1.trans hml.symm) rfl hd (by omega) (by have : (F0 m pc lsC (List.map (sd_cv γ) (vr w :: r))).monitorRoom = 0 := rfl; rw [this]; omega) ?_
      exact kk γ κ sh H locs lsC hn0 hg hRl hS hL (sd_Ot hO)
    · cases hs
  · cases hs
end SIM
end
section
/-! new int[n][k]: an own walk of the model's 'make' -/
theorem sd_AOA_moved {u U : State} (hvm : u.vm.Alike U.vm) (h : (Cond.arrayOver (.array .int)).before #[] u = true) : (Cond.arrayOver (.array .int)).before #[] U = true := by
  obtain ⟨comp, c, k, h1, h2, h3, h4, h5⟩ := arrayOverA_spec h
  obtain ⟨k', hk', he⟩ := hvm.2.2 _ _ h3
  have hi : (U.vm.classes.findIdx? fun (x : Class) => match x.kind with | .array component _ => component == comp | _ => false) = some c := by
    have e1 := va_idx_bare U.vm comp
    have e2 := va_idx_bare u.vm comp
    have hb : U.vm.bare = u.vm.bare := by first | exact hvm.bare_eq | exact hvm.bare_eq.symm
    rw [hb] at e1
    exact e1.symm.trans (e2.trans h2)
  have hkind : k'.kind = .array comp (.array .int) := by rw [he]; exact h4
  have f1 : U.vm.findClass (FieldType.array .int).toString = some comp := by rw [hvm.findClass]; exact h1
  have f2 : U.vm.findClass ("[" ++ (FieldType.array .int).toString) = some c := by rw [hvm.findClass]; exact h5
  unfold Cond.before Cond.holds
  simp only [Cond.value]
  rw [f1, Option.bind_some]
  refine (congrArg (fun o : Option Nat => (o.bind (fun c => (U.vm.classes[c]?).map fun (k : Class) => match k.kind with | .array _ ty => decide (ty = FieldType.array .int) && decide (U.vm.findClass ("[" ++ (FieldType.array .int).toString) = some c) | _ => false) == some true)) hi).trans ?_
  simp [hk', hkind, f2]
/-- the outer row when i inner ones are made, the state then -/
def mm_f (h0 i : Nat) : Nat → Value := fun j => if j < i then .ref (h0 + 1 + j) else .null
def mm_S (T : State) (cA cC : ClassId) (N M : Nat) : Nat → State
  | 0 => T.pushCell (arrV cA N (mm_f T.heap.size 0))
  | i + 1 => ((mm_S T cA cC N M i).pushCell (arrV cC M (fun _ => .int 0))).setCell T.heap.size (arrV cA N (mm_f T.heap.size (i + 1)))
theorem mm_put (cA : ClassId) (N h0 i : Nat) : (arrV cA N (mm_f h0 i)).setSlot i (.ref (h0 + 1 + i)) = arrV cA N (mm_f h0 (i + 1)) := by
  rw [arrV_store]
  congr 1
  funext j
  simp only [updV, mm_f]
  by_cases h : j = i
  · subst h; simp
  · rw [if_neg h]
    by_cases h2 : j < i
    · rw [if_pos h2, if_pos (by omega)]
    · rw [if_neg h2, if_neg (by omega)]
theorem mm_facts (T : State) (cA cC : ClassId) (N M : Nat) : ∀ i, (mm_S T cA cC N M i).heap.size = T.heap.size + 1 + i ∧ (mm_S T cA cC N M i).heap[T.heap.size]? = some (arrV cA N (mm_f T.heap.size i)) ∧ (mm_S T cA cC N M i).vm = T.vm ∧ (mm_S T cA cC N M i).slotsUsed = T.slotsUsed + N + i * M ∧
    (∀ x, x < T.heap.size → (mm_S T cA cC N M i).heap[x]? = T.heap[x]?) ∧ (∀ j, j < i → (mm_S T cA cC N M i).heap[T.heap.size + 1 + j]? = some (arrV cC M (fun _ => .int 0))) := by
  intro i
  induction i with
  | zero =>
    refine ⟨by simp [mm_S], State.heap_pushCell_size _ _, rfl, by simp [mm_S, arrV_size], fun x hx => State.heap_pushCell_of_lt _ _ hx, fun j hj => absurd hj (Nat.not_lt_zero _)⟩
  | succ i ih =>
    obtain ⟨h1, h2, h3, h4, h5, h6⟩ := ih
    have hlt : T.heap.size < (mm_S T cA cC N M i).heap.size := by omega
    have hp : ((mm_S T cA cC N M i).pushCell (arrV cC M (fun _ => .int 0))).heap[T.heap.size]? = some (arrV cA N (mm_f T.heap.size i)) := by rw [State.heap_pushCell_of_lt (h := hlt)]; exact h2
    refine ⟨?_, State.heap_setCell_self hp, h3, ?_, fun x hx => ?_, fun j hj => ?_⟩
    · simp [mm_S, State.setCell, h1]; omega
    · simp [mm_S, h4, arrV_size, Nat.succ_mul]; omega
    · show (State.setCell _ _ _).heap[x]? = _
      have hx2 : x < (mm_S T cA cC N M i).heap.size := by omega
      rw [State.heap_setCell_other (Nat.ne_of_gt hx), State.heap_pushCell_of_lt (h := hx2)]
      exact h5 x hx
    · show (State.setCell _ _ _).heap[_]? = _
      have hx3 : T.heap.size ≠ T.heap.size + 1 + j := by omega
      rw [State.heap_setCell_other hx3]
      by_cases hji : j < i
      · have hx4 : T.heap.size + 1 + j < (mm_S T cA cC N M i).heap.size := by omega
        rw [State.heap_pushCell_of_lt (h := hx4)]
        exact h6 j hji
      · have e : T.heap.size + 1 + j = (mm_S T cA cC N M i).heap.size := by omega
        rw [e]
        exact State.heap_pushCell_size _ _
theorem mm_top (T : State) (f : JFrame) (cA cC : ClassId) (N M : Nat) : ∀ i, mm_S (T.setTop f) cA cC N M i = (mm_S T cA cC N M i).setTop f := by
  intro i
  induction i with
  | zero => rfl
  | succ i ih => simp only [mm_S, ih, State.heap_setTop, State.pushCell_setTop, State.setCell_setTop]
section MMS
variable {p : Program} {l : Launch} {e : Env} {R : Room} {s : State} {m : MethodId} {args : Array Value} {below : List Frame} {meth : Method} {c : Code} {T : State} {locs : List Loc} {cells slots : Nat}
theorem mm_stand (X : Stand p l e R s m args below meth c T locs cells slots) (cA cC : ClassId) (N M : Nat) : ∀ i, Stand p l e R s m args below meth c (mm_S T cA cC N M i) (locs ++ (List.range i).map fun j => ⟨T.heap.size, j⟩) (cells + 1 + i) (slots + N + i * M) := by
  intro i
  induction i with
  | zero =>
    have h := X.pushed (arrV cA N (mm_f T.heap.size 0))
    rw [arrV_size] at h
    simpa [mm_S] using h
  | succ i ih =>
    obtain ⟨h1, h2, -, -, -, -⟩ := mm_facts T cA cC N M i
    have hlt : T.heap.size < (mm_S T cA cC N M i).heap.size := by omega
    have hp : ((mm_S T cA cC N M i).pushCell (arrV cC M (fun _ => .int 0))).heap[T.heap.size]? = some (arrV cA N (mm_f T.heap.size i)) := by rw [State.heap_pushCell_of_lt (h := hlt)]; exact h2
    have h := (ih.pushed (arrV cC M (fun _ => .int 0))).stored hp i (.ref (T.heap.size + 1 + i))
    rw [arrV_size, mm_put] at h
    have e2 : (locs ++ (List.range (i + 1)).map fun j => (⟨T.heap.size, j⟩ : Loc)) = (locs ++ (List.range i).map fun j => (⟨T.heap.size, j⟩ : Loc)) ++ [⟨T.heap.size, i⟩] := by simp [List.range_succ, List.append_assoc]
    have e3 : slots + N + (i + 1) * M = slots + N + i * M + M := by rw [Nat.succ_mul]; omega
    rw [e2, e3]
    exact h
end MMS
section MMW
variable {E : CtlPost} {e : Env} {d : Bool} {acts : List Action} {s : State}
/-- one inner row -/
theorem mm_one {cC cc : ClassId} {kC : Class} {k : Int32} (hkC : s.vm.classes[cC]? = some kC) (hkind : kC.kind = .array cc .int) (hk : ¬ k < 0) (hl : ¬ k.toNatClampNeg > e.platform.arrayLengthLimit) (hh : ¬ k.toNatClampNeg * componentBytes .int > e.platform.maxHeapBytes)
    (h1 : s.heap.size < e.platform.maxCells) (h2 : s.slotsUsed + k.toNatClampNeg ≤ e.platform.maxSlots) {Q : Addr → Pre} (hq : ∀ acts', Q s.heap.size d acts' (s.pushCell (arrV cC k.toNatClampNeg (fun _ => .int 0)))) : wp (multianewarray.make cC [k]) Q E e d acts s := by
  rw [multianewarray.make]
  simp only [wp_bind', W.ite, hk, if_false, wp_pure', W.theClass, hkC, hkind, Option.some.injEq, exists_eq_left']
  refine W.newArray_of hkC hkind hl hh h1 h2 rfl (fun acts' => ?_)
  have := hq acts'
  rw [← arrV_new] at this
  exact this
/-- both dimensions -/
theorem mm_two {cA cC cc : ClassId} {kA kC : Class} {n k : Int32} (hkA : s.vm.classes[cA]? = some kA) (hkindA : kA.kind = .array cC (.array .int)) (hkC : s.vm.classes[cC]? = some kC) (hkindC : kC.kind = .array cc .int) (hn : ¬ n < 0) (hk : ¬ k < 0)
    (hl1 : ¬ n.toNatClampNeg > e.platform.arrayLengthLimit) (hh1 : ¬ n.toNatClampNeg * componentBytes (.array .int) > e.platform.maxHeapBytes) (hl2 : ¬ k.toNatClampNeg > e.platform.arrayLengthLimit) (hh2 : ¬ k.toNatClampNeg * componentBytes .int > e.platform.maxHeapBytes)
    (hc : s.heap.size + (1 + n.toNatClampNeg) ≤ e.platform.maxCells) (hs : s.slotsUsed + (n.toNatClampNeg + n.toNatClampNeg * k.toNatClampNeg) ≤ e.platform.maxSlots)
    {Q : Addr → Pre} (hq : ∀ d' acts', Q s.heap.size d' acts' (mm_S s cA cC n.toNatClampNeg k.toNatClampNeg n.toNatClampNeg)) : wp (multianewarray.make cA [n, k]) Q E e d acts s := by
  have hfind : ([k].find? (· < 0)) = none := by simp [hk]
  rw [multianewarray.make]
  simp only [wp_bind', W.ite, hn, if_false, wp_pure', W.theClass, hkA, hkindA, Option.some.injEq, exists_eq_left']
  refine W.newArray_of hkA hkindA hl1 hh1 (by omega) (by have := Nat.zero_le (n.toNatClampNeg * k.toNatClampNeg); omega) rfl (fun acts' => ?_)
  have e0 : s.pushCell { cls := cA, slots := Array.replicate n.toNatClampNeg .null } = mm_S s cA cC n.toNatClampNeg k.toNatClampNeg 0 := by
    show s.pushCell { cls := cA, slots := Array.replicate n.toNatClampNeg .null, vm := .none } = _
    rw [arrV_new]
    have : (fun _ => Value.null : Nat → Value) = mm_f s.heap.size 0 := by funext j; simp [mm_f]
    rw [this]
    rfl
  rw [e0]
  simp only [hfind]
  rw [ite_self, wp_bind', Std.Legacy.Range.forIn_eq_forIn_range']
  have hsz : ([:n.toNatClampNeg] : Std.Legacy.Range).size = n.toNatClampNeg := by simp [Std.Legacy.Range.size]
  rw [hsz]
  show wp (forIn (List.range' 0 n.toNatClampNeg 1) PUnit.unit _) _ E e d acts' _
  refine wp_forIn_inv (fun rest s' => ∃ i, i ≤ n.toNatClampNeg ∧ rest = List.range' i (n.toNatClampNeg - i) ∧ s' = mm_S s cA cC n.toNatClampNeg k.toNatClampNeg i) _ _ ⟨0, Nat.zero_le _, rfl, rfl⟩ ?_ ?_
  · rintro x rest s' d' acts1 Q' ⟨i, hi, hl, rfl⟩ hnext
    have hlt : i < n.toNatClampNeg := by
      refine Nat.not_le.mp fun h => ?_
      rw [show n.toNatClampNeg - i = 0 by omega] at hl
      simp at hl
    obtain ⟨rfl, hrest⟩ : x = i ∧ rest = List.range' (i + 1) (n.toNatClampNeg - (i + 1)) := by
      rw [show n.toNatClampNeg - i = (n.toNatClampNeg - (i + 1)) + 1 by omega, List.range'_succ] at hl
      exact ⟨(List.cons.inj hl).1, (List.cons.inj hl).2⟩
    obtain ⟨f1, f2, f3, f4, -, -⟩ := mm_facts s cA cC n.toNatClampNeg k.toNatClampNeg x
    have hmul : x * k.toNatClampNeg + k.toNatClampNeg ≤ n.toNatClampNeg * k.toNatClampNeg := by
      have := Nat.mul_le_mul_right k.toNatClampNeg (show x + 1 ≤ n.toNatClampNeg from hlt)
      rw [Nat.succ_mul] at this
      exact this
    simp only [wp_bind']
    refine mm_one (by rw [f3]; exact hkC) hkindC hk hl2 hh2 (by rw [f1]; omega) (by rw [f4]; omega) (fun acts2 => ?_)
    have hlt0 : s.heap.size < (mm_S s cA cC n.toNatClampNeg k.toNatClampNeg x).heap.size := by rw [f1]; omega
    simp only [wp_bind', W.writeLoc, wp_pure']
    refine ⟨_, by rw [State.heap_pushCell_of_lt (h := hlt0)]; exact f2, by simp [arrV], by rw [arrV_size]; exact hlt, ?_, hnext _ _ _ ⟨x + 1, hlt, hrest, ?_⟩⟩
    · simp [arrV, State.fitsSlot, State.slotType?, f3, hkA, hkindA, fits]
    · rw [f1, mm_put]
      rfl
  · rintro s' d' acts1 ⟨i, hi, hl, rfl⟩
    have hiN : i = n.toNatClampNeg := by
      refine Nat.le_antisymm hi (Nat.not_lt.mp fun h => ?_)
      rw [show n.toNatClampNeg - i = (n.toNatClampNeg - (i + 1)) + 1 by omega, List.range'_succ] at hl
      cases hl
    subst hiN
    simp only [wp_pure']
    exact hq _ _
end MMW
end
section
section MMR
variable {p : Program} {l : Launch} {e : Env} {R : Room} {s : State} {m : MethodId} {args : Array Value} {below : List Frame} {meth : Method} {c : Code} {T : State} {locs : List Loc} {cells slots : Nat}
theorem mm_step (X : Stand p l e R s m args below meth c T locs cells slots) (hexec : p.tables.exec = Jvm.exec) {own : String} {index : Nat} (hown : s.vm.findClass own = some m.cls) (hclink : (Cond.classLink own index "[[I").before args s = true) (hover : (Cond.arrayOver (.array .int)).before #[] s = true) (harr : (Cond.arrayClass .int).before args s = true)
    {g : JFrame} (hg : g.method = m) (hdg : decode c.code g.pc = .ok (.multianewarray index 2, 4)) {n k : Int32} {rest : List Value} (hstack : g.stack = .int k :: .int n :: rest) (hn : ¬ n < 0) (hk : ¬ k < 0) (hb1 : n.toNatClampNeg < 1000) (hb2 : k.toNatClampNeg < 1000)
    (hcells : cells + (1 + n.toNatClampNeg) ≤ R.cells) (hslots : slots + (n.toNatClampNeg + n.toNatClampNeg * k.toNatClampNeg) ≤ R.slots) :
    ∃ (vm₁ : Vm) (cA cC : ClassId), (ArrOfT s cA (.array .int) ∧ va_RA s cA (.array .int)) ∧ (ArrOfT s cC .int ∧ va_RA s cC .int) ∧
      Stand p l e R s m args below meth c (mm_S (T.setVm vm₁) cA cC n.toNatClampNeg k.toNatClampNeg n.toNatClampNeg) (locs ++ (List.range n.toNatClampNeg).map fun j => ⟨T.heap.size, j⟩) (cells + 1 + n.toNatClampNeg) (slots + n.toNatClampNeg + n.toNatClampNeg * k.toNatClampNeg) ∧
      ∀ target, Steps p.tables e below ((mm_S (T.setVm vm₁) cA cC n.toNatClampNeg k.toNatClampNeg n.toNatClampNeg).setTop { g with pc := g.pc + 4, stack := .ref T.heap.size :: rest }) target → Steps p.tables e below (T.setTop g) target := by
  subst hg
  have hpl : e.platform.magicAccessors = ({} : Platform).magicAccessors := by rw [X.admits.platform]
  obtain ⟨cC, cA, kA, hcomp, -, hkA, hkindA, hnameA⟩ := arrayOverA_spec hover
  obtain ⟨cC', kC, cc, hcomp', hkC, hkindC⟩ := Cond.arrayClass_spec harr
  have e1 : cC' = cC := Option.some.inj (hcomp'.symm.trans hcomp)
  subst e1
  obtain ⟨c0, hfc0, hcl⟩ := Cond.classLink_spec hown hclink e.platform hpl
  have e2 : cA = c0 := Option.some.inj (hnameA.symm.trans hfc0)
  subst e2
  obtain ⟨hg₁, hwarm₁, hready₁⟩ := State.classEntry (e := e) X.warmed hcl
  generalize T.vm.noted g.method.cls index (.cls cA) = vm₁ at hg₁ hwarm₁ hready₁
  have hal : s.vm.Alike vm₁ := hwarm₁.alike
  obtain ⟨kA₁, hkA₁, heA⟩ := hal.2.2 _ _ hkA
  obtain ⟨kC₁, hkC₁, heC⟩ := hal.2.2 _ _ hkC
  have hkindA₁ : kA₁.kind = .array cC' (.array .int) := by rw [heA]; exact hkindA
  have hkindC₁ : kC₁.kind = .array cc .int := by rw [heC]; exact hkindC
  have X₁ := X.noted hwarm₁
  obtain ⟨hr1, hr2⟩ := X.roomAbove hcells hslots
  refine ⟨vm₁, cA, cC', ⟨fun N z => ⟨(fun q h => by cases h), kA, hkA, cC', hkindA⟩, hnameA⟩, ⟨fun N z => ⟨(fun q h => by cases h), kC, hkC, cc, hkindC⟩, hcomp'⟩, mm_stand X₁ cA cC' _ _ _, fun target hrest => ?_⟩
  have hl1 : ¬ n.toNatClampNeg > e.platform.arrayLengthLimit := by rw [Launch.admits_arrayLengthLimit X.admits]; omega
  have hh1 : ¬ n.toNatClampNeg * componentBytes (.array .int) > e.platform.maxHeapBytes := by
    rw [Launch.admits_maxHeapBytes X.admits]; show ¬ n.toNatClampNeg * 4 > 536870912; omega
  have hl2 : ¬ k.toNatClampNeg > e.platform.arrayLengthLimit := by rw [Launch.admits_arrayLengthLimit X.admits]; omega
  have hh2 : ¬ k.toNatClampNeg * componentBytes .int > e.platform.maxHeapBytes := by
    rw [Launch.admits_maxHeapBytes X.admits]; show ¬ k.toNatClampNeg * 4 > 536870912; omega
  jvm_step X.here [hexec, hdg]
  simp only [multianewarray.sem, wp_bind', W.resolveClassAt_links (State.method?_setTop g X.here.top) hg₁]
  rw [W.popN, if_neg (by decide)]
  refine ⟨g, State.topJava?_setTop' (s := T.setVm vm₁) g X.here.top, [.int n, .int k], rest, rfl, hstack, ?_⟩
  simp only [List.mapM_cons, List.mapM_nil, wp_bind', wp_pure']
  refine mm_two (kA := kA₁) (kC := kC₁) (by exact hkA₁) hkindA₁ (by exact hkC₁) hkindC₁ hn hk hl1 hh1 hl2 hh2 (by exact hr1) (by exact hr2) (fun d' acts' => ?_)
  have XF := mm_stand X₁ cA cC' n.toNatClampNeg k.toNatClampNeg n.toNatClampNeg
  have eS : ((T.setTop g).setVm vm₁).setTop { g with stack := rest } = (T.setVm vm₁).setTop { g with stack := rest } := by
    show ((T.setVm vm₁).setTop g).setTop _ = _
    rw [State.setTop_setTop]
  rw [eS, mm_top]
  simp only [wp_bind', W.mark, W.pushRef, State.topJava?_setTop' _ XF.here.top, Option.some.injEq, exists_eq_left', State.setTop_setTop, State.heap_setTop]
  intro acts
  simp [jvm, XF.here.top]
  exact hrest
end MMR
theorem hI_hmm {h : Hp} {n k i j : Nat} : hI (hmm h n k) i j = if h.1.1 ≤ i then 0 else hI h i j := rfl
theorem hR_hmm {h : Hp} {n k i j : Nat} : hR (hmm h n k) i j = if h.1.1 ≤ i then (if i = h.1.1 ∧ j < n then some (h.1.1 + 1 + j, 13, k) else none) else hR h i j := rfl
def mm_g (γ : Nat → Nat) (n a0 : Nat) : Nat → Nat := fun i => if i < n then γ i else a0 + (i - n)
def mm_k (κ : Nat → ClassId) (n : Nat) (cA cC : ClassId) : Nat → ClassId := fun i => if i < n then κ i else if i = n then cA else cC
def mm_h (sh : Nat → Nat × Nat) (n N K : Nat) : Nat → Nat × Nat := fun i => if i < n then sh i else if i = n then (15, N) else (13, K)
theorem mm_Rel {D : va_G} {A : Nat → Prop} {γ : Nat → Nat} {κ : Nat → ClassId} {sh : Nat → Nat × Nat} {h : Hp} {s : State} {H H1 : Heap} {N K : Nat} {cA cC : ClassId} (hRl : sd_Rel D A γ κ sh h s H) (hA : ∀ q, H.size ≤ q → A q)
    (kA : ArrOfT s cA (.array .int) ∧ va_RA s cA (.array .int)) (kC : ArrOfT s cC .int ∧ va_RA s cC .int) (f1 : H1.size = H.size + 1 + N) (f2 : H1[H.size]? = some (arrV cA N (mm_f H.size N))) (f5 : ∀ x, x < H.size → H1[x]? = H[x]?) (f6 : ∀ j, j < N → H1[H.size + 1 + j]? = some (arrV cC K (fun _ => .int 0))) :
    sd_Rel D A (mm_g γ h.1.1 H.size) (mm_k κ h.1.1 cA cC) (mm_h sh h.1.1 N K) (hmm h N K) s H1 := by
  have hn : (hmm h N K).1.1 = h.1.1 + 1 + N := rfl
  have hlt : ∀ i, i < h.1.1 → γ i < H.size := fun i hi => (hRl.1 i _ (sd_wsG hi)).lt
  have hold : ∀ i, i < h.1.1 → sd_E (mm_g γ h.1.1 H.size) (mm_k κ h.1.1 cA cC) (mm_h sh h.1.1 N K) (hmm h N K) i = sd_E γ κ sh h i := fun i hi =>
    sd_E_ext hRl.2.2 hi (fun x hx => if_pos hx) (if_pos hi) (if_pos hi) (by funext z; rw [hI_hmm, if_neg (by omega)]) (by funext z; rw [hR_hmm, if_neg (by omega)])
  have hget : ∀ (i : Nat) (q : Nat × va_E), (sd_ws (mm_g γ h.1.1 H.size) (mm_k κ h.1.1 cA cC) (mm_h sh h.1.1 N K) (hmm h N K))[i]? = some q → i < h.1.1 + 1 + N ∧ q = (mm_g γ h.1.1 H.size i, sd_E (mm_g γ h.1.1 H.size) (mm_k κ h.1.1 cA cC) (mm_h sh h.1.1 N K) (hmm h N K) i) := by
    intro i q hq
    have hl := (List.getElem?_eq_some_iff.mp hq).1
    rw [sd_wsL, hn] at hl
    rw [sd_wsG (by rw [hn]; exact hl)] at hq
    exact ⟨hl, (Option.some.inj hq).symm⟩
  refine ⟨fun i q hq => ?_, ⟨fun i j x y hi hj hxy => ?_, fun i q hq => ?_⟩, fun i hi => ?_, fun i hi hk => ?_, fun i hi z r hr => ?_⟩
  · obtain ⟨hl, rfl⟩ := hget i q hq
    by_cases h1 : i < h.1.1
    · rw [hold i h1]
      have : mm_g γ h.1.1 H.size i = γ i := if_pos h1
      rw [this]
      exact (hRl.1 i _ (sd_wsG h1)).kept (f5 _ (hlt i h1))
    · by_cases h2 : i = h.1.1
      · subst h2
        have e1 : mm_g γ h.1.1 H.size h.1.1 = H.size := by simp [mm_g]
        have e2 : mm_h sh h.1.1 N K h.1.1 = (15, N) := by simp [mm_h]
        have e3 : mm_k κ h.1.1 cA cC h.1.1 = cA := by simp [mm_k]
        rw [e1, sd_E_ref e2 (by decide), e3]
        show H1[H.size]? = some (vp_cell _ _)
        rw [vp_cell_q, f2]
        congr 2
        funext j
        simp only [mm_f, sd_qa, hR_hmm, Nat.le_refl, if_true, true_and]
        by_cases hj : j < N
        · simp only [hj, if_true, Option.map_some, va_rf]
          have : mm_g γ h.1.1 H.size (h.1.1 + 1 + j) = H.size + 1 + j := by
            simp only [mm_g]
            rw [if_neg (by omega)]
            omega
          rw [this]
        · simp only [hj, if_false, Option.map_none, va_rf]
      · have e1 : mm_g γ h.1.1 H.size i = H.size + 1 + (i - h.1.1 - 1) := by
          simp only [mm_g]
          rw [if_neg h1]
          omega
        have e2 : mm_h sh h.1.1 N K i = (13, K) := by simp [mm_h, h1, h2]
        have e3 : mm_k κ h.1.1 cA cC i = cC := by simp [mm_k, h1, h2]
        rw [e1, sd_E_int e2, e3]
        show H1[H.size + 1 + (i - h.1.1 - 1)]? = some (vp_cell _ _)
        rw [vp_cell_i, f6 _ (by omega)]
        congr 2
        funext j
        rw [hI_hmm, if_pos (by omega)]
  · obtain ⟨hl, rfl⟩ := hget i x hi
    obtain ⟨hl2, rfl⟩ := hget j y hj
    have hxy : mm_g γ h.1.1 H.size i = mm_g γ h.1.1 H.size j := hxy
    simp only [mm_g] at hxy
    by_cases h1 : i < h.1.1 <;> by_cases h2 : j < h.1.1
    · rw [if_pos h1, if_pos h2] at hxy
      exact hRl.2.1.1 i j _ _ (sd_wsG h1) (sd_wsG h2) hxy
    · rw [if_pos h1, if_neg h2] at hxy
      have := hlt i h1
      omega
    · rw [if_neg h1, if_pos h2] at hxy
      have := hlt j h2
      omega
    · rw [if_neg h1, if_neg h2] at hxy
      omega
  · obtain ⟨hl, rfl⟩ := hget i q hq
    show A (mm_g γ h.1.1 H.size i)
    simp only [mm_g]
    by_cases h1 : i < h.1.1
    · rw [if_pos h1]; exact hRl.2.1.2 i _ (sd_wsG h1)
    · rw [if_neg h1]; exact hA _ (by omega)
  · by_cases h1 : i < h.1.1
    · rw [show mm_h sh h.1.1 N K i = sh i from if_pos h1]; exact hRl.2.2.1 i h1
    · simp only [mm_h, if_neg h1]
      split <;> exact Nat.le_of_ble_eq_true rfl
  · by_cases h1 : i < h.1.1
    · rw [show mm_h sh h.1.1 N K i = sh i from if_pos h1] at hk ⊢
      rw [show mm_k κ h.1.1 cA cC i = κ i from if_pos h1]
      exact hRl.2.2.2.1 i h1 hk
    · by_cases h2 : i = h.1.1
      · simp only [mm_h, mm_k, if_neg h1, if_pos h2]; exact kA
      · simp only [mm_h, mm_k, if_neg h1, if_neg h2]; exact kC
  · have hi : i < h.1.1 + 1 + N := hi
    rw [hR_hmm] at hr
    by_cases h1 : h.1.1 ≤ i
    · rw [if_pos h1] at hr
      split at hr
      · rename_i h2
        cases hr
        refine ⟨by show h.1.1 + 1 + z < h.1.1 + 1 + N; omega, ?_⟩
        show mm_h sh h.1.1 N K (h.1.1 + 1 + z) = (13, K)
        simp only [mm_h]
        rw [if_neg (by omega), if_neg (by omega)]
      · cases hr
    · rw [if_neg h1] at hr
      obtain ⟨g1, g2⟩ := hRl.2.2.2.2 i (by omega) z r hr
      refine ⟨by show r.1 < h.1.1 + 1 + N; omega, ?_⟩
      rw [show mm_h sh h.1.1 N K r.1 = sh r.1 from if_pos g1]
      exact g2
section SIM
variable {p : Program} {l : Launch} {e : Env} {R : Room} {s : State} {m : MethodId} {args : Array Value} {below : List Frame} {meth : Method} {c : Code} {Q : State → Prop} {D : va_G} {A : Nat → Prop} {n0 : Nat} {γ0 : Nat → Nat} {κ0 : Nat → ClassId} {sh0 : Nat → Nat × Nat} {j cells slots pc pc2 len a b cq q : Nat} {ls ls2 : Lc} {st st2 : List AV} {h h2 : Hp}
theorem sm_mna {n k : Nat} (C : sd_Cx p s m args meth c j D A) (hv : sd_vb j pc (.multianewarray n k, len, a, b, cq, q) = true) (hs : am_stp pc (.multianewarray n k) len a b cq ls st h = some (.inl (pc2, ls2, st2, h2)))
    (kk : sd_W p l e R s m args below meth c D A n0 γ0 κ0 sh0 Q j (cells + (h2.1.1 - h.1.1)) (slots + (h2.1.2 - h.1.2)) pc2 ls2 st2 h2) (hc1 : cells + (h2.1.1 - h.1.1) ≤ R.cells) (hc2 : slots + (h2.1.2 - h.1.2) ≤ R.slots) : sd_W p l e R s m args below meth c D A n0 γ0 κ0 sh0 Q j cells slots pc ls st h := by
  obtain ⟨hx, hb, hml, hr, hlk, hown, hts, hnm, hKB, hA⟩ := C
  simp only [sd_vb, Bool.and_eq_true, decide_eq_true_eq, beq_iff_eq] at hv
  obtain ⟨hd, ⟨rfl, rfl⟩, hq⟩ := hv
  simp only [am_stp] at hs
  split at hs
  · rename_i k n r
    split at hs
    · cases hs
    · rename_i hin
      simp only [am_nx, Option.some.injEq, Sum.inl.injEq, Prod.mk.injEq] at hs
      obtain ⟨rfl, rfl, rfl, rfl⟩ := hs
      intro γ κ sh H locs lsC hn0 hg hRl hS hL hO
      have hk0 : ¬ k < 0 := fun z => hin (Or.inl z)
      have hk1 : k.toNatClampNeg < 1000 := Nat.not_le.mp (fun z => hin (Or.inr (Or.inl z)))
      have hn0' : ¬ n < 0 := fun z => hin (Or.inr (Or.inr (Or.inl z)))
      have hn1 : n.toNatClampNeg < 1000 := Nat.not_le.mp (fun z => hin (Or.inr (Or.inr (Or.inr z))))
      have e1 : (hmm h n.toNatClampNeg k.toNatClampNeg).1.1 - h.1.1 = 1 + n.toNatClampNeg := by show h.1.1 + 1 + n.toNatClampNeg - h.1.1 = _; omega
      have e2 : (hmm h n.toNatClampNeg k.toNatClampNeg).1.2 - h.1.2 = n.toNatClampNeg + n.toNatClampNeg * k.toNatClampNeg := by show h.1.2 + n.toNatClampNeg + n.toNatClampNeg * k.toNatClampNeg - h.1.2 = _; omega
      rw [e1] at hc1; rw [e2] at hc2; rw [e1, e2] at kk
      intro T hT X
      subst hT
      obtain ⟨vm₁, cA, cC, kA, kC, X', step⟩ := mm_step X hx hown (hts _ (sd_in q hq rfl)) hKB.2.2.1 (hts _ (sd_in 155 (by decide +kernel) rfl)) (g := F0 m pc lsC (List.map (sd_cv γ) (vi k :: vi n :: r))) rfl (by rw [hb]; exact hd) rfl hn0' hk0 hn1 hk1 hc1 hc2
      obtain ⟨f1, f2, -, -, f5, f6⟩ := mm_facts (T.setVm vm₁) cA cC n.toNatClampNeg k.toNatClampNeg n.toNatClampNeg
      have hR1 := mm_Rel hRl (fun q hq => hA q (Nat.le_trans hS.1 hq)) kA kC f1 f2 f5 f6
      have hS1 : va_S A s.heap (mm_S (T.setVm vm₁) cA cC n.toNatClampNeg k.toNatClampNeg n.toNatClampNeg).heap (locs ++ (List.range n.toNatClampNeg).map fun j => ⟨T.heap.size, j⟩) := by
        refine ⟨?_, fun x h1 h2 => ?_, fun y hy => ?_⟩
        · rw [f1]
          have := hS.1
          show s.heap.size ≤ T.heap.size + 1 + _
          omega
        · rw [f5 x (Nat.lt_of_lt_of_le h1 hS.1)]
          exact hS.2.1 x h1 h2
        · rcases List.mem_append.mp hy with hy | hy
          · exact hS.2.2 y hy
          · obtain ⟨z, -, rfl⟩ := List.mem_map.mp hy
            exact hA _ hS.1
      have hgg : ∀ i, i < h.1.1 → mm_g γ h.1.1 T.heap.size i = γ i := fun i hi => if_pos hi
      have hss : ∀ i, i < h.1.1 → mm_h sh h.1.1 n.toNatClampNeg k.toNatClampNeg i = sh i := fun i hi => if_pos hi
      have hle : h.1.1 ≤ (hmm h n.toNatClampNeg k.toNatClampNeg).1.1 := by show h.1.1 ≤ h.1.1 + 1 + _; omega
      have hok : ∀ v ∈ r, sd_OK (mm_h sh h.1.1 n.toNatClampNeg k.toNatClampNeg) (hmm h n.toNatClampNeg k.toNatClampNeg).1.1 v := fun v hv => sd_OK_ext hle hss (sd_Ot (sd_Ot hO) v hv)
      have := kk (mm_g γ h.1.1 T.heap.size) (mm_k κ h.1.1 cA cC) (mm_h sh h.1.1 n.toNatClampNeg k.toNatClampNeg) _ _ lsC (by omega)
        (fun i hi => by rw [hgg i (by omega), hss i (by omega), show mm_k κ h.1.1 cA cC i = κ i from if_pos (by omega)]; exact hg i hi) hR1 hS1 (sd_LR_ext hle hgg hss hL)
        (sd_Oc (fun r hr => by cases hr; exact ⟨by show h.1.1 < h.1.1 + 1 + _; omega, by simp [mm_h]⟩) hok) _ rfl (by rw [Nat.add_assoc, Nat.add_assoc] at X'; exact X')
      obtain ⟨t, a1, b1⟩ := this
      refine ⟨t, step t ?_, b1⟩
      rw [List.map_cons, sd_map_ext hgg (sd_Ot (sd_Ot hO))] at a1
      have e3 : sd_cv (mm_g γ h.1.1 T.heap.size) (vr (h.1.1, 15, n.toNatClampNeg)) = .ref T.heap.size := by simp [sd_cv, va_rf, mm_g]
      rw [e3] at a1
      exact a1
  · cases hs
end SIM
end
section
theorem sd_good {ws : List Cond} (hw : ∀ w ∈ ws, w ∈ sd_tb) : GoodIn sd_tb ws := fun w h => ⟨hw w h, good_of_word (List.mem_filter.mp (hw w h)).2⟩
/-! THE TEXT "nesw-": String.indexOf over it -/
def sj_S (A : Nat → Prop) (aK aV : Nat) (s : State) : Prop := vk_S 1 [5] [[110, 101, 115, 119, 45]] (fun _ => aK) (fun _ => aV) A s s.heap ∧ va_Z "java/lang/String" "COMPACT_STRINGS" "Z" (.int 1) A s s.heap
theorem sj_S_moved {A : Nat → Prop} {aK aV : Nat} {u U : State} (hvm : u.vm.Alike U.vm) (hh : ∀ x : Nat, x < u.heap.size → ¬ A x → U.heap[x]? = u.heap[x]?) (h : sj_S A aK aV u) : sj_S A aK aV U := ⟨(h.1.kept hh).moved hvm, (h.2.kept hh).moved hvm⟩
def sj_P (A : Nat → Prop) (aK aV : Nat) (as : List Value) : Array Value → State → Prop := fun v U => v = as.toArray ∧ sj_S A aK aV U
theorem sj_blind {A : Nat → Prop} {aK aV : Nat} {as : List Value} : FrameBlind (sj_P A aK aV as) := fun a U g mk q => ⟨q.1, sj_S_moved (Vm.Alike.refl U.vm) (fun _ _ _ => rfl) q.2⟩
theorem sj_pre {A : Nat → Prop} {aK aV : Nat} {as : List Value} {s : State} (h : sj_S A aK aV s) : PreS s s.heap (sj_P A aK aV as) as := ⟨sj_blind, fun U hU hW => ⟨rfl, sj_S_moved hW.alike (fun x _ _ => by rw [hU]) h⟩⟩
def sj_r (d : Nat) : Room := { frames := d, cells := 0, slots := 0, locals := 40 * d }
theorem sj_room {R : Room} {d x : Nat} (h1 : d + 1 ≤ R.frames) (h2 : 40 * (d + 1) ≤ R.locals) (hx : x ≤ 20) : (sj_r d).frames + 1 ≤ R.frames ∧ 8 + (x + 11) + (sj_r d).locals ≤ R.locals := ⟨h1, by show 8 + (x + 11) + 40 * d ≤ _; omega⟩
def sj_hit (c : Int32) (k : Nat) : Int32 := [110, 101, 115, 119, 45].getD k 0 - c
/-- the place of a sign from k on -/
def sj_ix (c : Int32) : Nat → Nat → Int32
  | 0, _ => -1
  | n + 1, k => if ([110, 101, 115, 119, 45] : List Int32).getD k 0 = c then nI k else sj_ix c n (k + 1)
theorem sj_ws {own : String} {idx : Nat} {y : MethodName} {b : ByteArray} {mx : Nat} {rt : Option FieldType} (p1 p2 p3 p4 : Nat) (h1 : lw_tbl[p1]? = some (.methodLink own idx y)) (h2 : lw_tbl[p2]? = some (.static y)) (h3 : lw_tbl[p3]? = some (.initialized y.cls)) (h4 : lw_tbl[p4]? = some (.code y b mx rt)) (g1 : goodWord (.methodLink own idx y) = true) (g2 : goodWord (.static y) = true) (g3 : goodWord (.initialized y.cls) = true) (g4 : goodWord (.code y b mx rt) = true) : ∀ w ∈ va_wsS own idx y (.code y b mx rt :: sd_tb), w ∈ sd_tb := by
  intro w hw
  simp only [va_wsS, List.mem_append, List.mem_cons, List.not_mem_nil, or_false] at hw
  rcases hw with (rfl | rfl | rfl) | rfl | hw
  · exact sd_in p1 h1 g1
  · exact sd_in p2 h2 g2
  · exact sd_in p3 h3 g3
  · exact sd_in p4 h4 g4
  · exact hw
theorem sj_wv {own C : String} {idx : Nat} {y : MethodName} {b : ByteArray} {mx : Nat} {rt : Option FieldType} (p1 p2 p5 p3 p4 : Nat) (h1 : lw_tbl[p1]? = some (.methodLink own idx y)) (h2 : lw_tbl[p2]? = some (.instanceMethod y)) (h5 : lw_tbl[p5]? = some (.selects C y y)) (h3 : lw_tbl[p3]? = some (.initialized C)) (h4 : lw_tbl[p4]? = some (.code y b mx rt)) (g1 : goodWord (.methodLink own idx y) = true) (g2 : goodWord (.instanceMethod y) = true) (g5 : goodWord (.selects C y y) = true) (g3 : goodWord (.initialized C) = true) (g4 : goodWord (.code y b mx rt) = true) : ∀ w ∈ wsV own idx C y (.code y b mx rt :: sd_tb), w ∈ sd_tb := by
  intro w hw
  simp only [wsV, List.mem_append, List.mem_cons, List.not_mem_nil, or_false] at hw
  rcases hw with (rfl | rfl | rfl | rfl) | rfl | hw
  · exact sd_in p1 h1 g1
  · exact sd_in p2 h2 g2
  · exact sd_in p5 h5 g5
  · exact sd_in p3 h3 g3
  · exact sd_in p4 h4 g4
  · exact hw
theorem sj_canEncode (l : Launch) (A : Nat → Prop) (aK aV : Nat) (x : Int32) : Met l (⟨"java/lang/StringLatin1", "canEncode", "(I)Z"⟩) (.code (⟨"java/lang/StringLatin1", "canEncode", "(I)Z"⟩) prog_19_method_4_code 1 (some .boolean) :: sd_tb) (sj_r 1) (sj_P A aK aV [.int x]) (QcRead (if x < 0 then 0 else if 255 < x then 0 else 1)) 0 0 (fun _ => False) := by
  refine Met.ofW (cc := prog_19_method_4_code) (maxL := 1) (ret := some .boolean) (by decide) rfl ?_
  intro p e s m args below meth c s₁ BB hml hv
  obtain ⟨rfl, hSS⟩ := hv
  have hx := BB.exec
  have hb := BB.bytes
  have hr := BB.returns
  have hlk := BB.notSynchronized
  have hts0 := atoms_spec BB.pre
  have hts : ∀ w ∈ sd_tb, w.before _ s = true := fun w hw => hts0 w (List.mem_cons_of_mem _ hw)
  have hown : s.vm.findClass "java/lang/StringLatin1" = some m.cls := findClass_of_methodNamed BB.named
  have hS : va_S A s.heap s.heap [] := va_S.rf
  have hl := lv_entry ([.int x]) (n := 1) (Nat.le_of_ble_eq_true rfl)
  rw [lg_entry_eq]
  generalize (lg_sl ([.int x]) ++ List.replicate (1 - (lg_sl ([.int x])).length) Slot.unset).toArray = ls at hl ⊢
  have hl : lv_has ls 1 [(0, .int x)] := hl
  refine lv_iload_n hx hb (by decide +kernel : decode prog_19_method_4_code 0 = .ok (.iload_n 0, 1)) rfl (lv_at hl 0 rfl) ?_
  refine lv_if_lt (tgt := 15) hx hb (by decide +kernel : decode prog_19_method_4_code 1 = .ok (.ifCond .lt 14, 3)) rfl (fun h1 => ?_) (fun h1 => ?_)
  · refine lv_iconst (v := 0) hx hb (by decide +kernel : decode prog_19_method_4_code 15 = .ok (.iconst 0, 1)) (by decide) ?_
    exact W.zret hx hb hr rfl (fun t ht hW => ⟨by rw [if_pos h1], ht⟩) (fun q h => absurd h List.not_mem_nil) (by decide +kernel : decode prog_19_method_4_code 16 = .ok (.ireturn, 1)) hlk
  · refine lv_iload_n hx hb (by decide +kernel : decode prog_19_method_4_code 4 = .ok (.iload_n 0, 1)) rfl (lv_at hl 0 rfl) ?_
    refine lv_sipush (v := 255) hx hb (by decide +kernel : decode prog_19_method_4_code 5 = .ok (.sipush 255, 3)) (by decide) ?_
    refine lv_icmp_gt (tgt := 15) hx hb (by decide +kernel : decode prog_19_method_4_code 8 = .ok (.if_icmp .gt 7, 3)) rfl (fun h2 => ?_) (fun h2 => ?_)
    · refine lv_iconst (v := 0) hx hb (by decide +kernel : decode prog_19_method_4_code 15 = .ok (.iconst 0, 1)) (by decide) ?_
      exact W.zret hx hb hr rfl (fun t ht hW => ⟨by rw [if_neg h1, if_pos h2], ht⟩) (fun q h => absurd h List.not_mem_nil) (by decide +kernel : decode prog_19_method_4_code 16 = .ok (.ireturn, 1)) hlk
    · refine lv_iconst (v := 1) hx hb (by decide +kernel : decode prog_19_method_4_code 11 = .ok (.iconst 1, 1)) (by decide) ?_
      refine lv_goto (tgt := 16) hx hb (by decide +kernel : decode prog_19_method_4_code 12 = .ok (.goto 4, 3)) rfl ?_
      exact W.zret hx hb hr rfl (fun t ht hW => ⟨by rw [if_neg h1, if_neg h2], ht⟩) (fun q h => absurd h List.not_mem_nil) (by decide +kernel : decode prog_19_method_4_code 16 = .ok (.ireturn, 1)) hlk
theorem sj_isLatin1 (l : Launch) (A : Nat → Prop) (aK aV : Nat) : Met l (⟨"java/lang/String", "isLatin1", "()Z"⟩) (.code (⟨"java/lang/String", "isLatin1", "()Z"⟩) prog_18_method_154_code 1 (some .boolean) :: sd_tb) (sj_r 1) (sj_P A aK aV [.ref aK]) (QcRead (1)) 0 0 (fun _ => False) := by
  refine Met.ofW (cc := prog_18_method_154_code) (maxL := 1) (ret := some .boolean) (by decide) rfl ?_
  intro p e s m args below meth c s₁ BB hml hv
  obtain ⟨rfl, hSS⟩ := hv
  have hx := BB.exec
  have hb := BB.bytes
  have hr := BB.returns
  have hlk := BB.notSynchronized
  have hts0 := atoms_spec BB.pre
  have hts : ∀ w ∈ sd_tb, w.before _ s = true := fun w hw => hts0 w (List.mem_cons_of_mem _ hw)
  have hown : s.vm.findClass "java/lang/String" = some m.cls := findClass_of_methodNamed BB.named
  have hS : va_S A s.heap s.heap [] := va_S.rf
  have hl := lv_entry ([.ref aK]) (n := 1) (Nat.le_of_ble_eq_true rfl)
  rw [lg_entry_eq]
  generalize (lg_sl ([.ref aK]) ++ List.replicate (1 - (lg_sl ([.ref aK])).length) Slot.unset).toArray = ls at hl ⊢
  have hl : lv_has ls 1 [(0, .ref aK)] := hl
  refine va_gets (v := .int 1) hx hb hSS.2 hS hown (hts _ (sd_in 371 (by decide +kernel) rfl)) (fun _ h => h) (by decide +kernel : decode prog_18_method_154_code 0 = .ok (.getstatic 38, 3)) ?_
  refine lv_if_eq (tgt := 17) hx hb (by decide +kernel : decode prog_18_method_154_code 3 = .ok (.ifCond .eq 14, 3)) rfl (fun h1 => absurd h1 (by decide)) (fun _ => ?_)
  refine lv_aload_n hx hb (by decide +kernel : decode prog_18_method_154_code 6 = .ok (.aload_n 0, 1)) rfl (lv_at hl 0 rfl) ?_
  refine vk_getf (v := .int 0) hx hb (hSS.1.1 0 Nat.zero_lt_one).2.1 hS hown (hts _ (sd_in 1350 (by decide +kernel) rfl)) (fun _ h => h) (by decide +kernel : decode prog_18_method_154_code 7 = .ok (.getfield 15, 3)) ?_
  refine lv_if_ne (tgt := 17) hx hb (by decide +kernel : decode prog_18_method_154_code 10 = .ok (.ifCond .ne 7, 3)) rfl (fun h1 => absurd rfl h1) (fun _ => ?_)
  refine lv_iconst (v := 1) hx hb (by decide +kernel : decode prog_18_method_154_code 13 = .ok (.iconst 1, 1)) (by decide) ?_
  refine lv_goto (tgt := 18) hx hb (by decide +kernel : decode prog_18_method_154_code 14 = .ok (.goto 4, 3)) rfl ?_
  exact W.zret hx hb hr rfl (fun t ht hW => ⟨rfl, ht⟩) (fun q h => absurd h List.not_mem_nil) (by decide +kernel : decode prog_18_method_154_code 18 = .ok (.ireturn, 1)) hlk
theorem sj_coder (l : Launch) (A : Nat → Prop) (aK aV : Nat) : Met l (⟨"java/lang/String", "coder", "()B"⟩) (.code (⟨"java/lang/String", "coder", "()B"⟩) prog_18_method_152_code 1 (some .byte) :: sd_tb) (sj_r 1) (sj_P A aK aV [.ref aK]) (QcRead (0)) 0 0 (fun _ => False) := by
  refine Met.ofW (cc := prog_18_method_152_code) (maxL := 1) (ret := some .byte) (by decide) rfl ?_
  intro p e s m args below meth c s₁ BB hml hv
  obtain ⟨rfl, hSS⟩ := hv
  have hx := BB.exec
  have hb := BB.bytes
  have hr := BB.returns
  have hlk := BB.notSynchronized
  have hts0 := atoms_spec BB.pre
  have hts : ∀ w ∈ sd_tb, w.before _ s = true := fun w hw => hts0 w (List.mem_cons_of_mem _ hw)
  have hown : s.vm.findClass "java/lang/String" = some m.cls := findClass_of_methodNamed BB.named
  have hS : va_S A s.heap s.heap [] := va_S.rf
  have hl := lv_entry ([.ref aK]) (n := 1) (Nat.le_of_ble_eq_true rfl)
  rw [lg_entry_eq]
  generalize (lg_sl ([.ref aK]) ++ List.replicate (1 - (lg_sl ([.ref aK])).length) Slot.unset).toArray = ls at hl ⊢
  have hl : lv_has ls 1 [(0, .ref aK)] := hl
  refine va_gets (v := .int 1) hx hb hSS.2 hS hown (hts _ (sd_in 371 (by decide +kernel) rfl)) (fun _ h => h) (by decide +kernel : decode prog_18_method_152_code 0 = .ok (.getstatic 38, 3)) ?_
  refine lv_if_eq (tgt := 13) hx hb (by decide +kernel : decode prog_18_method_152_code 3 = .ok (.ifCond .eq 10, 3)) rfl (fun h1 => absurd h1 (by decide)) (fun _ => ?_)
  refine lv_aload_n hx hb (by decide +kernel : decode prog_18_method_152_code 6 = .ok (.aload_n 0, 1)) rfl (lv_at hl 0 rfl) ?_
  refine vk_getf (v := .int 0) hx hb (hSS.1.1 0 Nat.zero_lt_one).2.1 hS hown (hts _ (sd_in 1350 (by decide +kernel) rfl)) (fun _ h => h) (by decide +kernel : decode prog_18_method_152_code 7 = .ok (.getfield 15, 3)) ?_
  refine lv_goto (tgt := 14) hx hb (by decide +kernel : decode prog_18_method_152_code 10 = .ok (.goto 4, 3)) rfl ?_
  exact W.zret hx hb hr rfl (fun t ht hW => ⟨rfl, ht⟩) (fun q h => absurd h List.not_mem_nil) (by decide +kernel : decode prog_18_method_152_code 14 = .ok (.ireturn, 1)) hlk
theorem sj_length (l : Launch) (A : Nat → Prop) (aK aV : Nat) : Met l (⟨"java/lang/String", "length", "()I"⟩) (.code (⟨"java/lang/String", "length", "()I"⟩) prog_18_method_54_code 1 (some .int) :: sd_tb) (sj_r 2) (sj_P A aK aV [.ref aK]) (QcRead (5)) 0 0 (fun _ => False) := by
  refine Met.ofW (cc := prog_18_method_54_code) (maxL := 1) (ret := some .int) (by decide) rfl ?_
  intro p e s m args below meth c s₁ BB hml hv
  obtain ⟨rfl, hSS⟩ := hv
  have hx := BB.exec
  have hb := BB.bytes
  have hr := BB.returns
  have hlk := BB.notSynchronized
  have hts0 := atoms_spec BB.pre
  have hts : ∀ w ∈ sd_tb, w.before _ s = true := fun w hw => hts0 w (List.mem_cons_of_mem _ hw)
  have hown : s.vm.findClass "java/lang/String" = some m.cls := findClass_of_methodNamed BB.named
  have hS : va_S A s.heap s.heap [] := va_S.rf
  have hl := lv_entry ([.ref aK]) (n := 1) (Nat.le_of_ble_eq_true rfl)
  rw [lg_entry_eq]
  generalize (lg_sl ([.ref aK]) ++ List.replicate (1 - (lg_sl ([.ref aK])).length) Slot.unset).toArray = ls at hl ⊢
  have hl : lv_has ls 1 [(0, .ref aK)] := hl
  refine lv_aload_n hx hb (by decide +kernel : decode prog_18_method_54_code 0 = .ok (.aload_n 0, 1)) rfl (lv_at hl 0 rfl) ?_
  refine vk_getf (v := .ref aV) hx hb (hSS.1.1 0 Nat.zero_lt_one).2.2.1 hS hown (hts _ (sd_in 1351 (by decide +kernel) rfl)) (fun _ h => h) (by decide +kernel : decode prog_18_method_54_code 1 = .ok (.getfield 9, 3)) ?_
  refine va_tlen (v := 5) hx hb (hSS.1.1 0 Nat.zero_lt_one).2.2.2 hS rfl (by decide +kernel : decode prog_18_method_54_code 4 = .ok (.arraylength, 1)) ?_
  refine lv_aload_n hx hb (by decide +kernel : decode prog_18_method_54_code 5 = .ok (.aload_n 0, 1)) rfl (lv_at hl 0 rfl) ?_
  refine W.callR (W.runV (nL := 1) (b := aK) (C := "java/lang/String") (As := []) (rest := [.int 5]) ⟨hx, hb, hml, hown, hts⟩ (sj_coder l A aK aV ) (cwV (ws' := sd_tb) 0 hts (sd_good (sj_wv 377 378 379 73 380 (by decide +kernel) (by decide +kernel) (by decide +kernel) (by decide +kernel) (by decide +kernel) rfl rfl rfl rfl rfl)) rfl rfl rfl ⟨rfl, by decide, by decide, by decide +kernel⟩ (sj_room (by decide) (by decide) (by decide))) ⟨sj_blind, vk_recv hSS.1 (Nat.zero_lt_one) hS, (sj_pre (as := .ref aK :: []) hSS).2⟩ rfl rfl hl.1 rfl (lv_room (Nat.le_of_ble_eq_true rfl)) (by decide +kernel : decode prog_18_method_54_code 6 = .ok (.invokevirtual 335, 3)) ⟨Nat.le_of_ble_eq_true rfl, Nat.le_of_ble_eq_true rfl⟩) ?_
  refine lv_ishr hx hb (by decide +kernel : decode prog_18_method_54_code 9 = .ok (.ishr, 1)) ?_
  exact W.iret hx hb hr (fun t ht hW => ⟨rfl, ht⟩) (fun q h => absurd h List.not_mem_nil) (by decide +kernel : decode prog_18_method_54_code 10 = .ok (.ireturn, 1)) hlk
theorem sj_indexOfChar (l : Launch) (A : Nat → Prop) (aK aV : Nat) (x : Int32) : Met l (⟨"java/lang/StringLatin1", "indexOfChar", "([BIII)I"⟩) (.code (⟨"java/lang/StringLatin1", "indexOfChar", "([BIII)I"⟩) prog_19_method_23_code 6 (some .int) :: sd_tb) (sj_r 1) (sj_P A aK aV [.ref aV, .int x, .int 0, .int 5]) (QcRead (sj_ix x.toInt8.toInt32 5 0)) 0 0 (fun _ => False) := by
  refine Met.ofW (cc := prog_19_method_23_code) (maxL := 6) (ret := some .int) (by decide) rfl ?_
  intro p e s m args below meth c s₁ BB hml hv
  obtain ⟨rfl, hSS⟩ := hv
  have hx := BB.exec
  have hb := BB.bytes
  have hr := BB.returns
  have hlk := BB.notSynchronized
  have hts0 := atoms_spec BB.pre
  have hts : ∀ w ∈ sd_tb, w.before _ s = true := fun w hw => hts0 w (List.mem_cons_of_mem _ hw)
  have hown : s.vm.findClass "java/lang/StringLatin1" = some m.cls := findClass_of_methodNamed BB.named
  have hS : va_S A s.heap s.heap [] := va_S.rf
  have hl := lv_entry ([.ref aV, .int x, .int 0, .int 5]) (n := 6) (Nat.le_of_ble_eq_true rfl)
  rw [lg_entry_eq]
  generalize (lg_sl ([.ref aV, .int x, .int 0, .int 5]) ++ List.replicate (6 - (lg_sl ([.ref aV, .int x, .int 0, .int 5])).length) Slot.unset).toArray = ls at hl ⊢
  have hl : lv_has ls 6 [(0, .ref aV), (1, .int x), (2, .int 0), (3, .int 5)] := hl
  refine lv_iload_n hx hb (by decide +kernel : decode prog_19_method_23_code 0 = .ok (.iload_n 1, 1)) rfl (lv_at hl 1 rfl) ?_
  refine lv_i2b (v := x.toInt8.toInt32) hx hb (by decide +kernel : decode prog_19_method_23_code 1 = .ok (.i2b, 1)) rfl ?_
  refine lv_istore (lv' := [(4, .int x.toInt8.toInt32), (0, .ref aV), (1, .int x), (2, .int 0), (3, .int 5)]) hx hb (by decide +kernel : decode prog_19_method_23_code 2 = .ok (.istore 4, 2)) hl (by decide) rfl (fun ls hl => ?_)
  refine lv_iload_n hx hb (by decide +kernel : decode prog_19_method_23_code 4 = .ok (.iload_n 2, 1)) rfl (lv_at hl 3 rfl) ?_
  refine lv_istore (lv' := [(5, .int 0), (4, .int x.toInt8.toInt32), (0, .ref aV), (1, .int x), (2, .int 0), (3, .int 5)]) hx hb (by decide +kernel : decode prog_19_method_23_code 5 = .ok (.istore 5, 2)) hl (by decide) rfl (fun ls hl => ?_)
  have loop : ∀ (k i : Nat), i + k = 5 → ∀ (ls : Array Slot), lv_has ls 6 [(5, .int (nI i)), (4, .int x.toInt8.toInt32), (0, .ref aV), (1, .int x), (2, .int 0), (3, .int 5)] → (∀ r : Int32, sj_ix x.toInt8.toInt32 k i = r → sj_ix x.toInt8.toInt32 5 0 = r) → W p l e (headSpec (.code (⟨"java/lang/StringLatin1", "indexOfChar", "([BIII)I"⟩) prog_19_method_23_code 6 (some .int) :: sd_tb) (sj_r 1)).room s m [.ref aV, .int x, .int 0, .int 5].toArray below meth c s.heap [] 0 0 (MQ below (QcRead (sj_ix x.toInt8.toInt32 5 0)) [.ref aV, .int x, .int 0, .int 5].toArray s 0 0 (fun _ => False)) (F0 m 7 ls []) := by
    intro k
    induction k with
    | zero =>
      intro i hi ls hl hr2
      have hi5 : i = 5 := by omega
      subst hi5
      refine lv_iload hx hb (by decide +kernel : decode prog_19_method_23_code 7 = .ok (.iload 5, 2)) (lv_at hl 0 rfl) ?_
      refine lv_iload_n hx hb (by decide +kernel : decode prog_19_method_23_code 9 = .ok (.iload_n 3, 1)) rfl (lv_at hl 5 rfl) ?_
      refine lv_icmp_ge (tgt := 31) hx hb (by decide +kernel : decode prog_19_method_23_code 10 = .ok (.if_icmp .ge 21, 3)) rfl (fun _ => ?_) (fun h1 => absurd (by decide) h1)
      refine lv_iconst (v := -1) hx hb (by decide +kernel : decode prog_19_method_23_code 31 = .ok (.iconst (-1), 1)) (by decide) ?_
      exact W.iret hx hb hr (fun t ht hW => ⟨by rw [hr2 (-1) rfl], ht⟩) (fun q h => absurd h List.not_mem_nil) (by decide +kernel : decode prog_19_method_23_code 32 = .ok (.ireturn, 1)) hlk
    | succ k ih =>
      intro i hi ls hl hr2
      refine lv_iload hx hb (by decide +kernel : decode prog_19_method_23_code 7 = .ok (.iload 5, 2)) (lv_at hl 0 rfl) ?_
      refine lv_iload_n hx hb (by decide +kernel : decode prog_19_method_23_code 9 = .ok (.iload_n 3, 1)) rfl (lv_at hl 5 rfl) ?_
      refine lv_icmp_ge (tgt := 31) hx hb (by decide +kernel : decode prog_19_method_23_code 10 = .ok (.if_icmp .ge 21, 3)) rfl (fun h1 => absurd h1 (nI_ge (a := i) (b := 5) (by omega) (by decide))) (fun _ => ?_)
      refine lv_aload_n hx hb (by decide +kernel : decode prog_19_method_23_code 13 = .ok (.aload_n 0, 1)) rfl (lv_at hl 2 rfl) ?_
      refine lv_iload hx hb (by decide +kernel : decode prog_19_method_23_code 14 = .ok (.iload 5, 2)) (lv_at hl 0 rfl) ?_
      refine va_tb (v := .int (([110, 101, 115, 119, 45] : List Int32).getD i 0)) hx hb (hSS.1.1 0 Nat.zero_lt_one).2.2.2 hS (vp_in_nI (by show i < 5; omega) (by decide)) (by rw [nI_clamp (by omega)]; rfl) (by decide +kernel : decode prog_19_method_23_code 16 = .ok (.baload, 1)) ?_
      refine lv_iload hx hb (by decide +kernel : decode prog_19_method_23_code 17 = .ok (.iload 4, 2)) (lv_at hl 1 rfl) ?_
      refine lv_icmp_ne (tgt := 25) hx hb (by decide +kernel : decode prog_19_method_23_code 19 = .ok (.if_icmp .ne 6, 3)) rfl (fun h1 => ?_) (fun h1 => ?_)
      · refine lv_iinc (v := nI (i + 1)) (lv' := [(5, .int (nI (i + 1))), (4, .int x.toInt8.toInt32), (0, .ref aV), (1, .int x), (2, .int 0), (3, .int 5)]) hx hb (by decide +kernel : decode prog_19_method_23_code 25 = .ok (.iinc 5 1, 3)) hl (k := 0) rfl (nI_1 i) (by decide) rfl (fun ls hl => ?_)
        refine lv_goto (tgt := 7) hx hb (by decide +kernel : decode prog_19_method_23_code 28 = .ok (.goto (-21), 3)) rfl ?_
        exact ih (i + 1) (by omega) ls hl (fun r h2 => hr2 r (by rw [sj_ix, if_neg h1]; exact h2))
      · refine lv_iload hx hb (by decide +kernel : decode prog_19_method_23_code 22 = .ok (.iload 5, 2)) (lv_at hl 0 rfl) ?_
        exact W.iret hx hb hr (fun t ht hW => ⟨by rw [hr2 (nI i) (by rw [sj_ix, if_pos h1])], ht⟩) (fun q h => absurd h List.not_mem_nil) (by decide +kernel : decode prog_19_method_23_code 24 = .ok (.ireturn, 1)) hlk
  exact loop 5 0 rfl ls hl (fun r h => h)
theorem sj_L1indexOf (l : Launch) (A : Nat → Prop) (aK aV : Nat) (x : Int32) : Met l (⟨"java/lang/StringLatin1", "indexOf", "([BIII)I"⟩) (.code (⟨"java/lang/StringLatin1", "indexOf", "([BIII)I"⟩) prog_19_method_22_code 4 (some .int) :: sd_tb) (sj_r 2) (sj_P A aK aV [.ref aV, .int x, .int 0, .int 5]) (QcRead (if x < 0 then -1 else if 255 < x then -1 else sj_ix x.toInt8.toInt32 5 0)) 0 0 (fun _ => False) := by
  refine Met.ofW (cc := prog_19_method_22_code) (maxL := 4) (ret := some .int) (by decide) rfl ?_
  intro p e s m args below meth c s₁ BB hml hv
  obtain ⟨rfl, hSS⟩ := hv
  have hx := BB.exec
  have hb := BB.bytes
  have hr := BB.returns
  have hlk := BB.notSynchronized
  have hts0 := atoms_spec BB.pre
  have hts : ∀ w ∈ sd_tb, w.before _ s = true := fun w hw => hts0 w (List.mem_cons_of_mem _ hw)
  have hown : s.vm.findClass "java/lang/StringLatin1" = some m.cls := findClass_of_methodNamed BB.named
  have hS : va_S A s.heap s.heap [] := va_S.rf
  have hl := lv_entry ([.ref aV, .int x, .int 0, .int 5]) (n := 4) (Nat.le_of_ble_eq_true rfl)
  rw [lg_entry_eq]
  generalize (lg_sl ([.ref aV, .int x, .int 0, .int 5]) ++ List.replicate (4 - (lg_sl ([.ref aV, .int x, .int 0, .int 5])).length) Slot.unset).toArray = ls at hl ⊢
  have hl : lv_has ls 4 [(0, .ref aV), (1, .int x), (2, .int 0), (3, .int 5)] := hl
  refine lv_iload_n hx hb (by decide +kernel : decode prog_19_method_22_code 0 = .ok (.iload_n 1, 1)) rfl (lv_at hl 1 rfl) ?_
  refine W.callR (W.runS (nL := 4) (As := [.int x]) (rest := []) ⟨hx, hb, hml, hown, hts⟩ (sj_canEncode l A aK aV x) (va_cwS (ws' := sd_tb) 1 hts (sd_good (sj_ws 384 385 74 386 (by decide +kernel) (by decide +kernel) (by decide +kernel) (by decide +kernel) rfl rfl rfl rfl)) rfl rfl rfl ⟨by decide, by decide, by decide +kernel⟩ (sj_room (by decide) (by decide) (by decide))) (sj_pre hSS) rfl rfl hl.1 rfl (lv_room (Nat.le_of_ble_eq_true rfl)) (by decide +kernel : decode prog_19_method_22_code 1 = .ok (.invokestatic 88, 3)) ⟨Nat.le_of_ble_eq_true rfl, Nat.le_of_ble_eq_true rfl⟩) ?_
  refine lv_if_ne (tgt := 9) hx hb (by decide +kernel : decode prog_19_method_22_code 4 = .ok (.ifCond .ne 5, 3)) rfl (fun h1 => ?_) (fun h1 => ?_)
  · have hx0 : ¬ x < 0 := fun z => h1 (by rw [if_pos z])
    have hx1 : ¬ 255 < x := fun z => h1 (by rw [if_neg hx0, if_pos z])
    rw [if_neg hx0, if_neg hx1]
    refine lv_iload_n hx hb (by decide +kernel : decode prog_19_method_22_code 9 = .ok (.iload_n 2, 1)) rfl (lv_at hl 2 rfl) ?_
    refine lv_iconst (v := 0) hx hb (by decide +kernel : decode prog_19_method_22_code 10 = .ok (.iconst 0, 1)) (by decide) ?_
    refine va_mmax hx hb (hml.trans hl.1.symm) hown (hts _ (sd_in 387 (by decide +kernel) rfl)) (hts _ (sd_in 104 (by decide +kernel) rfl)) (hts _ (sd_in 66 (by decide +kernel) rfl)) (hts _ (sd_in 105 (by decide +kernel) rfl)) (by decide) (by decide) (by decide) (by decide) (by decide +kernel : decode prog_19_method_22_code 11 = .ok (.invokestatic 92, 3)) ?_
    refine lv_istore_n (x := 0) (lv' := [(2, .int 0), (0, .ref aV), (1, .int x), (3, .int 5)]) hx hb (by decide +kernel : decode prog_19_method_22_code 14 = .ok (.istore_n 2, 1)) rfl hl (by decide) rfl (fun ls hl => ?_)
    refine lv_iload_n hx hb (by decide +kernel : decode prog_19_method_22_code 15 = .ok (.iload_n 3, 1)) rfl (lv_at hl 3 rfl) ?_
    refine lv_aload_n hx hb (by decide +kernel : decode prog_19_method_22_code 16 = .ok (.aload_n 0, 1)) rfl (lv_at hl 1 rfl) ?_
    refine va_tlen (v := 5) hx hb (hSS.1.1 0 Nat.zero_lt_one).2.2.2 hS rfl (by decide +kernel : decode prog_19_method_22_code 17 = .ok (.arraylength, 1)) ?_
    refine va_mmin hx hb (hml.trans hl.1.symm) hown (hts _ (sd_in 388 (by decide +kernel) rfl)) (hts _ (sd_in 101 (by decide +kernel) rfl)) (hts _ (sd_in 66 (by decide +kernel) rfl)) (hts _ (sd_in 102 (by decide +kernel) rfl)) (by decide) (by decide) (by decide) (by decide) (by decide +kernel : decode prog_19_method_22_code 18 = .ok (.invokestatic 38, 3)) ?_
    refine lv_istore_n (x := 5) (lv' := [(3, .int 5), (2, .int 0), (0, .ref aV), (1, .int x)]) hx hb (by decide +kernel : decode prog_19_method_22_code 21 = .ok (.istore_n 3, 1)) rfl hl (by decide) rfl (fun ls hl => ?_)
    refine lv_iload_n hx hb (by decide +kernel : decode prog_19_method_22_code 22 = .ok (.iload_n 2, 1)) rfl (lv_at hl 1 rfl) ?_
    refine lv_iload_n hx hb (by decide +kernel : decode prog_19_method_22_code 23 = .ok (.iload_n 3, 1)) rfl (lv_at hl 0 rfl) ?_
    refine lv_icmp_lt (tgt := 29) hx hb (by decide +kernel : decode prog_19_method_22_code 24 = .ok (.if_icmp .lt 5, 3)) rfl (fun _ => ?_) (fun h2 => absurd (by decide) h2)
    refine lv_aload_n hx hb (by decide +kernel : decode prog_19_method_22_code 29 = .ok (.aload_n 0, 1)) rfl (lv_at hl 2 rfl) ?_
    refine lv_iload_n hx hb (by decide +kernel : decode prog_19_method_22_code 30 = .ok (.iload_n 1, 1)) rfl (lv_at hl 3 rfl) ?_
    refine lv_iload_n hx hb (by decide +kernel : decode prog_19_method_22_code 31 = .ok (.iload_n 2, 1)) rfl (lv_at hl 1 rfl) ?_
    refine lv_iload_n hx hb (by decide +kernel : decode prog_19_method_22_code 32 = .ok (.iload_n 3, 1)) rfl (lv_at hl 0 rfl) ?_
    refine W.callR (W.runS (nL := 4) (As := [.ref aV, .int x, .int 0, .int 5]) (rest := []) ⟨hx, hb, hml, hown, hts⟩ (sj_indexOfChar l A aK aV x) (va_cwS (ws' := sd_tb) 4 hts (sd_good (sj_ws 389 390 74 391 (by decide +kernel) (by decide +kernel) (by decide +kernel) (by decide +kernel) rfl rfl rfl rfl)) rfl rfl rfl ⟨by decide, by decide, by decide +kernel⟩ (sj_room (by decide) (by decide) (by decide))) (sj_pre hSS) rfl rfl hl.1 rfl (lv_room (Nat.le_of_ble_eq_true rfl)) (by decide +kernel : decode prog_19_method_22_code 33 = .ok (.invokestatic 95, 3)) ⟨Nat.le_of_ble_eq_true rfl, Nat.le_of_ble_eq_true rfl⟩) ?_
    exact W.iret hx hb hr (fun t ht hW => ⟨rfl, ht⟩) (fun q h => absurd h List.not_mem_nil) (by decide +kernel : decode prog_19_method_22_code 36 = .ok (.ireturn, 1)) hlk
  · refine lv_iconst (v := -1) hx hb (by decide +kernel : decode prog_19_method_22_code 7 = .ok (.iconst (-1), 1)) (by decide) ?_
    have hx2 : x < 0 ∨ 255 < x := by
      by_cases z1 : x < 0
      · exact Or.inl z1
      · by_cases z2 : 255 < x
        · exact Or.inr z2
        · rw [if_neg z1, if_neg z2] at h1; exact absurd h1 (by decide)
    exact W.iret hx hb hr (fun t ht hW => ⟨by rcases hx2 with z | z <;> simp [z], ht⟩) (fun q h => absurd h List.not_mem_nil) (by decide +kernel : decode prog_19_method_22_code 8 = .ok (.ireturn, 1)) hlk
theorem sj_indexOf2 (l : Launch) (A : Nat → Prop) (aK aV : Nat) (x : Int32) : Met l (⟨"java/lang/String", "indexOf", "(II)I"⟩) (.code (⟨"java/lang/String", "indexOf", "(II)I"⟩) prog_18_method_80_code 3 (some .int) :: sd_tb) (sj_r 3) (sj_P A aK aV [.ref aK, .int x, .int 0]) (QcRead (if x < 0 then -1 else if 255 < x then -1 else sj_ix x.toInt8.toInt32 5 0)) 0 0 (fun _ => False) := by
  refine Met.ofW (cc := prog_18_method_80_code) (maxL := 3) (ret := some .int) (by decide) rfl ?_
  intro p e s m args below meth c s₁ BB hml hv
  obtain ⟨rfl, hSS⟩ := hv
  have hx := BB.exec
  have hb := BB.bytes
  have hr := BB.returns
  have hlk := BB.notSynchronized
  have hts0 := atoms_spec BB.pre
  have hts : ∀ w ∈ sd_tb, w.before _ s = true := fun w hw => hts0 w (List.mem_cons_of_mem _ hw)
  have hown : s.vm.findClass "java/lang/String" = some m.cls := findClass_of_methodNamed BB.named
  have hS : va_S A s.heap s.heap [] := va_S.rf
  have hl := lv_entry ([.ref aK, .int x, .int 0]) (n := 3) (Nat.le_of_ble_eq_true rfl)
  rw [lg_entry_eq]
  generalize (lg_sl ([.ref aK, .int x, .int 0]) ++ List.replicate (3 - (lg_sl ([.ref aK, .int x, .int 0])).length) Slot.unset).toArray = ls at hl ⊢
  have hl : lv_has ls 3 [(0, .ref aK), (1, .int x), (2, .int 0)] := hl
  refine lv_aload_n hx hb (by decide +kernel : decode prog_18_method_80_code 0 = .ok (.aload_n 0, 1)) rfl (lv_at hl 0 rfl) ?_
  refine W.callR (W.runV (nL := 3) (b := aK) (C := "java/lang/String") (As := []) (rest := []) ⟨hx, hb, hml, hown, hts⟩ (sj_isLatin1 l A aK aV ) (cwV (ws' := sd_tb) 0 hts (sd_good (sj_wv 367 368 369 73 370 (by decide +kernel) (by decide +kernel) (by decide +kernel) (by decide +kernel) (by decide +kernel) rfl rfl rfl rfl rfl)) rfl rfl rfl ⟨rfl, by decide, by decide, by decide +kernel⟩ (sj_room (by decide) (by decide) (by decide))) ⟨sj_blind, vk_recv hSS.1 (Nat.zero_lt_one) hS, (sj_pre (as := .ref aK :: []) hSS).2⟩ rfl rfl hl.1 rfl (lv_room (Nat.le_of_ble_eq_true rfl)) (by decide +kernel : decode prog_18_method_80_code 1 = .ok (.invokevirtual 492, 3)) ⟨Nat.le_of_ble_eq_true rfl, Nat.le_of_ble_eq_true rfl⟩) ?_
  refine lv_if_eq (tgt := 23) hx hb (by decide +kernel : decode prog_18_method_80_code 4 = .ok (.ifCond .eq 19, 3)) rfl (fun h1 => absurd h1 (by decide)) (fun _ => ?_)
  refine lv_aload_n hx hb (by decide +kernel : decode prog_18_method_80_code 7 = .ok (.aload_n 0, 1)) rfl (lv_at hl 0 rfl) ?_
  refine vk_getf (v := .ref aV) hx hb (hSS.1.1 0 Nat.zero_lt_one).2.2.1 hS hown (hts _ (sd_in 1351 (by decide +kernel) rfl)) (fun _ h => h) (by decide +kernel : decode prog_18_method_80_code 8 = .ok (.getfield 9, 3)) ?_
  refine lv_iload_n hx hb (by decide +kernel : decode prog_18_method_80_code 11 = .ok (.iload_n 1, 1)) rfl (lv_at hl 1 rfl) ?_
  refine lv_iload_n hx hb (by decide +kernel : decode prog_18_method_80_code 12 = .ok (.iload_n 2, 1)) rfl (lv_at hl 2 rfl) ?_
  refine lv_aload_n hx hb (by decide +kernel : decode prog_18_method_80_code 13 = .ok (.aload_n 0, 1)) rfl (lv_at hl 0 rfl) ?_
  refine W.callR (W.runV (nL := 3) (b := aK) (C := "java/lang/String") (As := []) (rest := [.int 0, .int x, .ref aV]) ⟨hx, hb, hml, hown, hts⟩ (sj_length l A aK aV ) (cwV (ws' := sd_tb) 0 hts (sd_good (sj_wv 373 374 375 73 376 (by decide +kernel) (by decide +kernel) (by decide +kernel) (by decide +kernel) (by decide +kernel) rfl rfl rfl rfl rfl)) rfl rfl rfl ⟨rfl, by decide, by decide, by decide +kernel⟩ (sj_room (by decide) (by decide) (by decide))) ⟨sj_blind, vk_recv hSS.1 (Nat.zero_lt_one) hS, (sj_pre (as := .ref aK :: []) hSS).2⟩ rfl rfl hl.1 rfl (lv_room (Nat.le_of_ble_eq_true rfl)) (by decide +kernel : decode prog_18_method_80_code 14 = .ok (.invokevirtual 505, 3)) ⟨Nat.le_of_ble_eq_true rfl, Nat.le_of_ble_eq_true rfl⟩) ?_
  refine W.callR (W.runS (nL := 3) (As := [.ref aV, .int x, .int 0, .int 5]) (rest := []) ⟨hx, hb, hml, hown, hts⟩ (sj_L1indexOf l A aK aV x) (va_cwS (ws' := sd_tb) 4 hts (sd_good (sj_ws 381 382 74 383 (by decide +kernel) (by decide +kernel) (by decide +kernel) (by decide +kernel) rfl rfl rfl rfl)) rfl rfl rfl ⟨by decide, by decide, by decide +kernel⟩ (sj_room (by decide) (by decide) (by decide))) (sj_pre hSS) rfl rfl hl.1 rfl (lv_room (Nat.le_of_ble_eq_true rfl)) (by decide +kernel : decode prog_18_method_80_code 17 = .ok (.invokestatic 637, 3)) ⟨Nat.le_of_ble_eq_true rfl, Nat.le_of_ble_eq_true rfl⟩) ?_
  refine lv_goto (tgt := 36) hx hb (by decide +kernel : decode prog_18_method_80_code 20 = .ok (.goto 16, 3)) rfl ?_
  exact W.iret hx hb hr (fun t ht hW => ⟨rfl, ht⟩) (fun q h => absurd h List.not_mem_nil) (by decide +kernel : decode prog_18_method_80_code 36 = .ok (.ireturn, 1)) hlk
theorem sj_indexOf1 (l : Launch) (A : Nat → Prop) (aK aV : Nat) (x : Int32) : Met l (⟨"java/lang/String", "indexOf", "(I)I"⟩) (.code (⟨"java/lang/String", "indexOf", "(I)I"⟩) prog_18_method_79_code 2 (some .int) :: sd_tb) (sj_r 4) (sj_P A aK aV [.ref aK, .int x]) (QcRead (if x < 0 then -1 else if 255 < x then -1 else sj_ix x.toInt8.toInt32 5 0)) 0 0 (fun _ => False) := by
  refine Met.ofW (cc := prog_18_method_79_code) (maxL := 2) (ret := some .int) (by decide) rfl ?_
  intro p e s m args below meth c s₁ BB hml hv
  obtain ⟨rfl, hSS⟩ := hv
  have hx := BB.exec
  have hb := BB.bytes
  have hr := BB.returns
  have hlk := BB.notSynchronized
  have hts0 := atoms_spec BB.pre
  have hts : ∀ w ∈ sd_tb, w.before _ s = true := fun w hw => hts0 w (List.mem_cons_of_mem _ hw)
  have hown : s.vm.findClass "java/lang/String" = some m.cls := findClass_of_methodNamed BB.named
  have hS : va_S A s.heap s.heap [] := va_S.rf
  have hl := lv_entry ([.ref aK, .int x]) (n := 2) (Nat.le_of_ble_eq_true rfl)
  rw [lg_entry_eq]
  generalize (lg_sl ([.ref aK, .int x]) ++ List.replicate (2 - (lg_sl ([.ref aK, .int x])).length) Slot.unset).toArray = ls at hl ⊢
  have hl : lv_has ls 2 [(0, .ref aK), (1, .int x)] := hl
  refine lv_aload_n hx hb (by decide +kernel : decode prog_18_method_79_code 0 = .ok (.aload_n 0, 1)) rfl (lv_at hl 0 rfl) ?_
  refine lv_iload_n hx hb (by decide +kernel : decode prog_18_method_79_code 1 = .ok (.iload_n 1, 1)) rfl (lv_at hl 1 rfl) ?_
  refine lv_iconst (v := 0) hx hb (by decide +kernel : decode prog_18_method_79_code 2 = .ok (.iconst 0, 1)) (by decide) ?_
  refine W.callR (W.runV (nL := 2) (b := aK) (C := "java/lang/String") (As := [.int x, .int 0]) (rest := []) ⟨hx, hb, hml, hown, hts⟩ (sj_indexOf2 l A aK aV x) (cwV (ws' := sd_tb) 2 hts (sd_good (sj_wv 363 364 365 73 366 (by decide +kernel) (by decide +kernel) (by decide +kernel) (by decide +kernel) (by decide +kernel) rfl rfl rfl rfl rfl)) rfl rfl rfl ⟨rfl, by decide, by decide, by decide +kernel⟩ (sj_room (by decide) (by decide) (by decide))) ⟨sj_blind, vk_recv hSS.1 (Nat.zero_lt_one) hS, (sj_pre (as := .ref aK :: [.int x, .int 0]) hSS).2⟩ rfl rfl hl.1 rfl (lv_room (Nat.le_of_ble_eq_true rfl)) (by decide +kernel : decode prog_18_method_79_code 3 = .ok (.invokevirtual 633, 3)) ⟨Nat.le_of_ble_eq_true rfl, Nat.le_of_ble_eq_true rfl⟩) ?_
  exact W.iret hx hb hr (fun t ht hW => ⟨rfl, ht⟩) (fun q h => absurd h List.not_mem_nil) (by decide +kernel : decode prog_18_method_79_code 6 = .ok (.ireturn, 1)) hlk
theorem sj_so (x : Int32) : (if (x.toUInt32 % 65536).toInt32 < 0 then -1 else if 255 < (x.toUInt32 % 65536).toInt32 then -1 else sj_ix (x.toUInt32 % 65536).toInt32.toInt8.toInt32 5 0) = am_so x := by
  unfold am_so
  generalize hy : (x.toUInt32 % 65536).toInt32 = y
  by_cases h0 : y < 0
  · rw [if_pos h0]
    have : y ≠ 110 ∧ y ≠ 101 ∧ y ≠ 115 ∧ y ≠ 119 ∧ y ≠ 45 := by
      refine ⟨?_, ?_, ?_, ?_, ?_⟩ <;> (intro z; rw [z] at h0; exact absurd h0 (by decide))
    simp [this]
  · rw [if_neg h0]
    by_cases h1 : 255 < y
    · rw [if_pos h1]
      have : y ≠ 110 ∧ y ≠ 101 ∧ y ≠ 115 ∧ y ≠ 119 ∧ y ≠ 45 := by
        refine ⟨?_, ?_, ?_, ?_, ?_⟩ <;> (intro z; rw [z] at h1; exact absurd h1 (by decide))
      simp [this]
    · rw [if_neg h1]
      obtain ⟨j, hj, rfl⟩ := nI_of2 (M := 255) (n := 255) (by decide) h0 (by
        rw [Int32.le_iff_toInt_le]
        rw [Int32.lt_iff_toInt_lt] at h1
        omega)
      have key : ∀ j, j < 256 → sj_ix (nI j).toInt8.toInt32 5 0 = (if nI j = 110 then 0 else if nI j = 101 then 1 else if nI j = 115 then 2 else if nI j = 119 then 3 else if nI j = 45 then 4 else -1) := by decide +kernel
      exact key j (by omega)
theorem sj_stepOf (l : Launch) (A : Nat → Prop) (aK aV : Nat) (x : Int32) : Met l (⟨"SeenADayLate$Letters", "stepOf", "(I)I"⟩) (.code (⟨"SeenADayLate$Letters", "stepOf", "(I)I"⟩) prog_6_method_13_code 1 (some .int) :: sd_tb) (sj_r 5) (fun v U => v = [.int x].toArray ∧ sj_S A aK aV U ∧ vk_R "SeenADayLate$Letters" 68 "nesw-" aK U) (QcRead (am_so x)) 0 0 (fun _ => False) := by
  refine Met.ofW (cc := prog_6_method_13_code) (maxL := 1) (ret := some .int) (by decide) rfl ?_
  intro p e s m args below meth c s₁ BB hml hv
  obtain ⟨rfl, hSS, hRR⟩ := hv
  have hx := BB.exec
  have hb := BB.bytes
  have hr := BB.returns
  have hlk := BB.notSynchronized
  have hts0 := atoms_spec BB.pre
  have hts : ∀ w ∈ sd_tb, w.before _ s = true := fun w hw => hts0 w (List.mem_cons_of_mem _ hw)
  have hown : s.vm.findClass "SeenADayLate$Letters" = some m.cls := findClass_of_methodNamed BB.named
  have hS : va_S A s.heap s.heap [] := va_S.rf
  have hl := lv_entry ([.int x]) (n := 1) (Nat.le_of_ble_eq_true rfl)
  rw [lg_entry_eq]
  generalize (lg_sl ([.int x]) ++ List.replicate (1 - (lg_sl ([.int x])).length) Slot.unset).toArray = ls at hl ⊢
  have hl : lv_has ls 1 [(0, .int x)] := hl
  refine va_ldcS hx hb hown hRR (by decide +kernel : decode prog_6_method_13_code 0 = .ok (.ldc 68, 2)) ?_
  refine lv_iload_n hx hb (by decide +kernel : decode prog_6_method_13_code 2 = .ok (.iload_n 0, 1)) rfl (lv_at hl 0 rfl) ?_
  refine lv_i2c hx hb (by decide +kernel : decode prog_6_method_13_code 3 = .ok (.i2c, 1)) rfl ?_
  refine W.callR (W.runV (nL := 1) (b := aK) (C := "java/lang/String") (As := [.int (x.toUInt32 % 65536).toInt32]) (rest := []) ⟨hx, hb, hml, hown, hts⟩ (sj_indexOf1 l A aK aV ((x.toUInt32 % 65536).toInt32)) (cwV (ws' := sd_tb) 1 hts (sd_good (sj_wv 359 360 361 73 362 (by decide +kernel) (by decide +kernel) (by decide +kernel) (by decide +kernel) (by decide +kernel) rfl rfl rfl rfl rfl)) rfl rfl rfl ⟨rfl, by decide, by decide, by decide +kernel⟩ (sj_room (by decide) (by decide) (by decide))) ⟨sj_blind, vk_recv hSS.1 (Nat.zero_lt_one) hS, (sj_pre (as := .ref aK :: [.int (x.toUInt32 % 65536).toInt32]) hSS).2⟩ rfl rfl hl.1 rfl (lv_room (Nat.le_of_ble_eq_true rfl)) (by decide +kernel : decode prog_6_method_13_code 4 = .ok (.invokevirtual 70, 3)) ⟨Nat.le_of_ble_eq_true rfl, Nat.le_of_ble_eq_true rfl⟩) ?_
  rw [sj_so]
  exact W.iret hx hb hr (fun t ht hW => ⟨rfl, ht⟩) (fun q h => absurd h List.not_mem_nil) (by decide +kernel : decode prog_6_method_13_code 7 = .ok (.ireturn, 1)) hlk
end
section
theorem sd_KS_moved {A : Nat → Prop} {u U : State} (hW : u.WarmedH U.vm) (hh : ∀ x : Nat, x < u.heap.size → ¬ A x → U.heap[x]? = u.heap[x]?) (h : sd_KS A u) : sd_KS A U := by
  obtain ⟨aK, aV, h1, h2⟩ := h
  exact ⟨aK, aV, sj_S_moved hW.alike hh h1, h2.warm hW⟩
theorem sd_KS_same {A : Nat → Prop} {u U : State} (hv : u.vm = U.vm) (hh : u.heap = U.heap) (h : sd_KS A u) : sd_KS A U := by
  obtain ⟨aK, aV, h1, h2⟩ := h
  exact ⟨aK, aV, sj_S_moved (by rw [hv]; exact Vm.Alike.refl _) (fun _ _ _ => by rw [hh]) h1, h2.same hv.symm⟩
section SIM
variable {p : Program} {l : Launch} {e : Env} {R : Room} {s : State} {m : MethodId} {args : Array Value} {below : List Frame} {meth : Method} {c : Code} {Q : State → Prop} {D : va_G} {A : Nat → Prop} {n0 : Nat} {γ0 : Nat → Nat} {κ0 : Nat → ClassId} {sh0 : Nat → Nat × Nat} {j cells slots pc pc2 len a b cq q : Nat} {ls ls2 : Lc} {st st2 : List AV} {h h2 : Hp}
theorem sm_stepOf {n : Nat} (C : sd_Cx p s m args meth c j D A) (hv : sd_vb j pc (.invokestatic n, len, a, b, 5, q) = true) (hs : am_stp pc (.invokestatic n) len a b 5 ls st h = some (.inl (pc2, ls2, st2, h2)))
    (kk : sd_W p l e R s m args below meth c D A n0 γ0 κ0 sh0 Q j (cells + (h2.1.1 - h.1.1)) (slots + (h2.1.2 - h.1.2)) pc2 ls2 st2 h2) (hf : 10 ≤ R.frames) (hlo : 1280 ≤ R.locals) (hc1 : cells ≤ R.cells) (hc2 : slots ≤ R.slots) : sd_W p l e R s m args below meth c D A n0 γ0 κ0 sh0 Q j cells slots pc ls st h := by
  obtain ⟨hx, hb, hml, hr, hlk, hown, hts, hnm, hKB, hA⟩ := C
  simp only [sd_vb, Bool.and_eq_true, decide_eq_true_eq, beq_iff_eq] at hv
  obtain ⟨hd, rfl, hq⟩ := hv
  simp only [am_stp] at hs
  split at hs
  · rename_i x r
    split at hs
    · rename_i hlen
      simp only [am_nx, Option.some.injEq, Sum.inl.injEq, Prod.mk.injEq] at hs
      obtain ⟨rfl, rfl, rfl, rfl⟩ := hs
      intro γ κ sh H locs lsC hn0 hg hRl hS hL hO
      simp only [Nat.sub_self, Nat.add_zero] at kk
      obtain ⟨aK, aV, h1, h2⟩ := hKB.2.2.2.1
      refine W.callR (W.runS (nL := am_mx j) (As := [.int x]) (rest := r.map (sd_cv γ)) (g := F0 m pc lsC (.int x :: r.map (sd_cv γ))) ⟨hx, hb, hml, hown, hts⟩ (sj_stepOf l A aK aV x) (va_cwS (ws' := sd_tb) 1 hts (sd_good (sj_ws q 356 69 357 hq (by decide +kernel) (by decide +kernel) (by decide +kernel) rfl rfl rfl rfl)) rfl rfl rfl ⟨by decide, by decide, by decide +kernel⟩ (sj_room (by omega) (by omega) (by decide)))
        ⟨fun a U g mk z => ⟨z.1, sj_S_moved (Vm.Alike.refl U.vm) (fun _ _ _ => rfl) z.2.1, z.2.2.same rfl⟩, fun U hU hW => ⟨rfl, sj_S_moved hW.alike (fun y g1 g2 => by rw [hU]; exact hS.2.1 y g1 g2) h1, h2.warm hW⟩⟩ rfl rfl hL.2.1 rfl (lv_room (sd_len4 hlen)) hd ⟨hc1, hc2⟩) ?_
      exact kk γ κ sh H locs lsC hn0 hg hRl hS hL (sd_Oc sd_OKi (sd_Ot hO))
    · cases hs
  · cases hs
end SIM
end
section
section SIM
variable {p : Program} {l : Launch} {e : Env} {R : Room} {s : State} {m : MethodId} {args : Array Value} {below : List Frame} {meth : Method} {c : Code} {Q : State → Prop} {D : va_G} {A : Nat → Prop} {n0 : Nat} {γ0 : Nat → Nat} {κ0 : Nat → ClassId} {sh0 : Nat → Nat × Nat} {j cells slots pc pc2 len a b cq q : Nat} {ls ls2 : Lc} {st st2 : List AV} {h h2 : Hp}
/-- a step that goes on in the same method -/
theorem sd_next {i : Instr} (C : sd_Cx p s m args meth c j D A) (hv : sd_vb j pc (i, len, a, b, cq, q) = true) (hs : am_stp pc i len a b cq ls st h = some (.inl (pc2, ls2, st2, h2)))
    (kk : sd_W p l e R s m args below meth c D A n0 γ0 κ0 sh0 Q j (cells + (h2.1.1 - h.1.1)) (slots + (h2.1.2 - h.1.2)) pc2 ls2 st2 h2) (hf : 10 ≤ R.frames) (hlo : 1280 ≤ R.locals) (hc1 : cells + (h2.1.1 - h.1.1) ≤ R.cells) (hc2 : slots + (h2.1.2 - h.1.2) ≤ R.slots) : sd_W p l e R s m args below meth c D A n0 γ0 κ0 sh0 Q j cells slots pc ls st h := by
  have g1 : cells ≤ R.cells := by omega
  have g2 : slots ≤ R.slots := by omega
  cases i with
  | aconst_null  => exact sm_aconst_null C hv hs kk
  | iconst n => exact sm_iconst C hv hs kk
  | bipush n => exact sm_bipush C hv hs kk
  | sipush n => exact sm_sipush C hv hs kk
  | lconst n => exact sm_lconst C hv hs kk
  | ldc n => exact sm_ldc C hv hs kk
  | ldc_w n => exact sm_ldc_w C hv hs kk
  | ldc2_w n => exact sm_ldc2_w C hv hs kk
  | iload k => exact sm_iload C hv hs kk
  | iload_n k => exact sm_iload_n C hv hs kk
  | lload k => exact sm_lload C hv hs kk
  | lload_n k => exact sm_lload_n C hv hs kk
  | aload k => exact sm_aload C hv hs kk
  | aload_n k => exact sm_aload_n C hv hs kk
  | istore k => exact sm_istore C hv hs kk
  | istore_n k => exact sm_istore_n C hv hs kk
  | lstore k => exact sm_lstore C hv hs kk
  | astore k => exact sm_astore C hv hs kk
  | astore_n k => exact sm_astore_n C hv hs kk
  | iinc k n => exact sm_iinc C hv hs kk
  | iadd  => exact sm_iadd C hv hs kk
  | isub  => exact sm_isub C hv hs kk
  | imul  => exact sm_imul C hv hs kk
  | iand  => exact sm_iand C hv hs kk
  | ior  => exact sm_ior C hv hs kk
  | ixor  => exact sm_ixor C hv hs kk
  | idiv  => exact sm_idiv C hv hs kk
  | irem  => exact sm_irem C hv hs kk
  | ineg  => exact sm_ineg C hv hs kk
  | ishl  => exact sm_ishl C hv hs kk
  | ishr  => exact sm_ishr C hv hs kk
  | iushr  => exact sm_iushr C hv hs kk
  | i2l  => exact sm_i2l C hv hs kk
  | lmul  => exact sm_lmul C hv hs kk
  | lcmp  => exact sm_lcmp C hv hs kk
  | dup  => exact sm_dup C hv hs kk
  | dup2  => exact sm_dup2 C hv hs kk
  | pop  => exact sm_pop C hv hs kk
  | goto n => exact sm_goto C hv hs kk
  | ifCond o n => exact sm_ifCond C hv hs kk
  | if_icmp o n => exact sm_if_icmp C hv hs kk
  | ifnull n => exact sm_ifnull C hv hs kk
  | ifnonnull n => exact sm_ifnonnull C hv hs kk
  | tableswitch d lo hi offs => exact sm_tableswitch C hv hs kk
  | lookupswitch d ps => exact sm_lookupswitch C hv hs kk
  | getfield n => exact sm_getfield C hv hs kk
  | putfield n => exact sm_putfield C hv hs kk
  | iaload  => exact sm_iaload C hv hs kk
  | iastore  => exact sm_iastore C hv hs kk
  | aaload  => exact sm_aaload C hv hs kk
  | aastore  => exact sm_aastore C hv hs kk
  | arraylength  => exact sm_arraylength C hv hs kk
  | new n => exact sm_new C hv hs kk hc1 hc2
  | newarray t =>
    cases t with
    | int => exact sm_newarray C hv hs kk hc1 hc2
    | _ => simp only [am_stp] at hs; cases hs
  | anewarray n => exact sm_anewarray C hv hs kk hc1 hc2
  | multianewarray n k => exact sm_mna C hv hs kk hc1 hc2
  | invokestatic n =>
    rcases cq with _ | _ | _ | _ | _ | _ | cq
    · simp only [am_stp] at hs
      split at hs <;> cases hs
    · exact sm_mmax C hv hs kk hf hlo g1 g2
    · exact sm_mmin C hv hs kk hf hlo g1 g2
    · exact sm_mabs C hv hs kk hf hlo g1 g2
    · exact sm_acopy C hv hs kk hf hlo g1 g2
    · exact sm_stepOf C hv hs kk hf hlo g1 g2
    · simp only [am_stp] at hs
      cases hs
  | invokespecial n =>
    rcases cq with _ | cq
    · simp only [am_stp] at hs
      split at hs
      · split at hs <;> cases hs
      · cases hs
    · exact sm_objInit C hv hs kk hf hlo g1 g2
  | invokevirtual n =>
    simp only [am_stp] at hs
    split at hs
    · split at hs
      · split at hs
        · split at hs <;> cases hs
        · split at hs <;> cases hs
      · cases hs
    · cases hs
  | ireturn =>
    simp only [am_stp] at hs
    split at hs
    · split at hs <;> cases hs
    · cases hs
  | areturn =>
    simp only [am_stp] at hs
    split at hs <;> cases hs
  | return_ =>
    simp only [am_stp] at hs
    split at hs <;> cases hs
  | _ => simp only [am_stp] at hs; cases hs
end SIM
end
section
theorem sd_cnt {pc : Nat} {i : Instr} {len a b c : Nat} {ls : Lc} {st : List AV} {h : Hp} {pc2 : Nat} {ls2 : Lc} {st2 : List AV} {h2 : Hp} (hs : am_stp pc i len a b c ls st h = some (.inl (pc2, ls2, st2, h2))) : h.1.1 ≤ h2.1.1 ∧ h.1.2 ≤ h2.1.2 := by
  cases i <;> simp only [am_stp] at hs <;> (first | (cases hs; done) | (repeat' split at hs) <;> (first | (cases hs; done) | (simp only [am_nx, Option.some.injEq, Sum.inl.injEq, Prod.mk.injEq] at hs; obtain ⟨-, -, -, rfl⟩ := hs; (try simp only [hsI, hsR, hmk, hcp, hmm]); constructor <;> omega)))
theorem ev_cnt : ∀ (n d m pc : Nat) (ls : Lc) (st : List AV) (h : Hp) (v : Option AV) (h2 : Hp), ev n d m pc ls st h = some (v, h2) → h.1.1 ≤ h2.1.1 ∧ h.1.2 ≤ h2.1.2 := by
  intro n
  induction n with
  | zero => intro d m pc ls st h v h2 hr; simp [ev] at hr
  | succ n ih =>
    intro d m pc ls st h v h2 hr
    cases hc : am_cd m pc with
    | none => rw [ev, hc] at hr; simp at hr
    | some x =>
      obtain ⟨i, len, a, b, c, q⟩ := x
      rw [ev_succ hc] at hr
      cases hs : am_stp pc i len a b c ls st h with
      | none => rw [hs] at hr; simp at hr
      | some o =>
        rw [hs] at hr
        rcases o with ⟨pc2, ls2, st2, h3⟩ | w | ⟨m2, as, rs⟩
        · have h1 := sd_cnt hs
          have h4 := ih _ _ _ _ _ _ _ _ hr
          omega
        · simp only [Option.some.injEq, Prod.mk.injEq] at hr
          obtain ⟨-, rfl⟩ := hr
          exact ⟨Nat.le_refl _, Nat.le_refl _⟩
        · dsimp only at hr
          by_cases hd : am_rk m2 as < d ∧ (am_al as).length ≤ am_mx m2
          · rw [if_pos hd] at hr
            cases h1 : ev n (am_rk m2 as) m2 0 (am_en m2 as) [] h with
            | none => rw [h1] at hr; simp at hr
            | some w =>
              obtain ⟨w, h3⟩ := w
              rw [h1] at hr
              have g1 := ih _ _ _ _ _ _ _ _ h1
              have g2 := ih _ _ _ _ _ _ _ _ hr
              omega
          · rw [if_neg hd] at hr; cases hr
def sd_wd (j : Nat) : List Cond := .code (sd_y j) (sd_b j) (am_mx j) (sd_rt j) :: sd_tb
def sd_rm (d mc ms : Nat) : Room := { frames := d + 10, cells := mc, slots := ms, locals := 128 * (d + 10) }
def sd_Pc (D : va_G) (A : Nat → Prop) (γ : Nat → Nat) (κ : Nat → ClassId) (sh : Nat → Nat × Nat) (h : Hp) (as : List AV) : Array Value → State → Prop := fun v U =>
  v = (as.map (sd_cv γ)).toArray ∧ sd_KB D A U ∧ (∀ q, U.heap.size ≤ q → A q) ∧ sd_Rel D A γ κ sh h U U.heap ∧ (∀ v ∈ as, sd_OK sh h.1.1 v)
def sd_Qc (D : va_G) (A : Nat → Prop) (γ0 : Nat → Nat) (κ0 : Nat → ClassId) (sh0 : Nat → Nat × Nat) (n0 : Nat) (v : Option AV) (h2 : Hp) : Array Value → State → Outcome → State → Prop := fun _ st oc t =>
  (∃ (γ : Nat → Nat) (κ : Nat → ClassId) (sh : Nat → Nat × Nat), (∀ i, i < n0 → γ i = γ0 i ∧ κ i = κ0 i ∧ sh i = sh0 i) ∧ oc = .returned (v.map (sd_cv γ)) ∧ (∀ x, v = some x → sd_OK sh h2.1.1 x) ∧ sd_Rel D A γ κ sh h2 t t.heap) ∧ va_F A st t
theorem sd_G_moved {γ : Nat → Nat} {κ : Nat → ClassId} {sh : Nat → Nat × Nat} {h : Hp} {u U : State} (hvm : u.vm.Alike U.vm) (hG : sd_G γ κ sh h u) : sd_G γ κ sh h U := ⟨hG.1, fun i hi hk => ⟨arrOfT_moved hvm (hG.2.1 i hi hk).1, (hG.2.1 i hi hk).2.moved hvm⟩, hG.2.2⟩
theorem sd_KB_moved {D : va_G} {A : Nat → Prop} {u U : State} (hW : u.WarmedH U.vm) (hh : ∀ x : Nat, x < u.heap.size → ¬ A x → U.heap[x]? = u.heap[x]?) (h : sd_KB D A u) : sd_KB D A U :=
  ⟨fun c q hq => u_Kn_moved hW.alike (h.1 c q hq), va_AO.moved hW.alike h.2.1, sd_AOA_moved hW.alike h.2.2.1, sd_KS_moved hW hh h.2.2.2.1, fun k hk => va_Nw.warmC hW (h.2.2.2.2 k hk)⟩
theorem sd_KB_same {D : va_G} {A : Nat → Prop} {u U : State} (hv : u.vm = U.vm) (hh : u.heap = U.heap) (h : sd_KB D A u) : sd_KB D A U :=
  ⟨fun c q hq => u_Kn_moved (by rw [hv]; exact Vm.Alike.refl _) (h.1 c q hq), va_AO.moved (by rw [hv]; exact Vm.Alike.refl _) h.2.1, sd_AOA_moved (by rw [hv]; exact Vm.Alike.refl _) h.2.2.1, sd_KS_same hv hh h.2.2.2.1, fun k hk => va_Nw.same rfl hv (h.2.2.2.2 k hk)⟩
theorem sd_blind {D : va_G} {A : Nat → Prop} {γ : Nat → Nat} {κ : Nat → ClassId} {sh : Nat → Nat × Nat} {h : Hp} {as : List AV} : FrameBlind (sd_Pc D A γ κ sh h as) := by
  intro a U g mk hq
  obtain ⟨h1, h2, h3, h4, h5⟩ := hq
  exact ⟨h1, sd_KB_same rfl rfl h2, h3, ⟨h4.1, h4.2.1, sd_G_moved (Vm.Alike.refl U.vm) h4.2.2⟩, h5⟩
theorem sd_alA {γ : Nat → Nat} : ∀ (as : List AV) (k i : Nat) (v : AV), am_ld (am_al as) i = some v → (k + i, sd_cv γ v) ∈ lv_args k (as.map (sd_cv γ)) ∧ v ∈ as := by
  intro as
  induction as with
  | nil => intro k i v h; simp [am_al, am_ld] at h
  | cons w as ih =>
    intro k i v h
    rcases w with x | x | x
    · cases i with
      | zero =>
        have : v = .inl x := by simp [am_al, am_ld] at h; exact h.symm
        subst this
        exact ⟨by simp [lv_args], List.mem_cons_self⟩
      | succ i =>
        have h1 : am_ld (am_al as) i = some v := by simpa [am_al, am_ld] using h
        obtain ⟨h2, h3⟩ := ih (k + 1) i v h1
        refine ⟨?_, List.mem_cons_of_mem _ h3⟩
        simp only [List.map_cons, lv_args]
        refine List.mem_cons_of_mem _ ?_
        have hc : ¬ (sd_cv γ (.inl x)).category = 2 := by simp [sd_cv, Value.category]
        rw [if_neg hc, show k + (i + 1) = k + 1 + i by omega]
        exact h2
    · cases i with
      | zero =>
        have : v = .inr (.inl x) := by simp [am_al, am_ld] at h; exact h.symm
        subst this
        exact ⟨by simp [lv_args], List.mem_cons_self⟩
      | succ i =>
        cases i with
        | zero => simp [am_al, am_ld] at h
        | succ i =>
          have h1 : am_ld (am_al as) i = some v := by simpa [am_al, am_ld] using h
          obtain ⟨h2, h3⟩ := ih (k + 2) i v h1
          refine ⟨?_, List.mem_cons_of_mem _ h3⟩
          simp only [List.map_cons, lv_args]
          refine List.mem_cons_of_mem _ ?_
          have hc : (sd_cv γ (.inr (.inl x))).category = 2 := by simp [sd_cv, Value.category]
          rw [if_pos hc, show k + (i + 1 + 1) = k + 2 + i by omega]
          exact h2
    · cases i with
      | zero =>
        have : v = .inr (.inr x) := by simp [am_al, am_ld] at h; exact h.symm
        subst this
        exact ⟨by simp [lv_args], List.mem_cons_self⟩
      | succ i =>
        have h1 : am_ld (am_al as) i = some v := by simpa [am_al, am_ld] using h
        obtain ⟨h2, h3⟩ := ih (k + 1) i v h1
        refine ⟨?_, List.mem_cons_of_mem _ h3⟩
        simp only [List.map_cons, lv_args]
        refine List.mem_cons_of_mem _ ?_
        have hc : ¬ (sd_cv γ (.inr (.inr x))).category = 2 := by cases x <;> simp [sd_cv, va_rf, Value.category]
        rw [if_neg hc, show k + (i + 1) = k + 1 + i by omega]
        exact h2
theorem sd_alL {γ : Nat → Nat} : ∀ (as : List AV), (lg_sl (as.map (sd_cv γ))).length = (am_al as).length := by
  intro as
  induction as with
  | nil => rfl
  | cons w as ih =>
    have e : ∀ (v : Value) (r : List Value), lg_sl (v :: r) = (if v.category = 2 then [.val v, .second] else [.val v]) ++ lg_sl r := fun v r => by simp [lg_sl]
    rw [List.map_cons, e, List.length_append, ih]
    rcases w with x | x | x
    · simp [sd_cv, Value.category, am_al]; omega
    · simp [sd_cv, Value.category, am_al]; omega
    · cases x <;> simp [sd_cv, va_rf, Value.category, am_al] <;> omega
theorem sd_enA {γ : Nat → Nat} {j : Nat} {as : List AV} {i : Nat} {v : AV} (h : am_ld (am_en j as) i = some v) : (i, sd_cv γ v) ∈ lv_args 0 (as.map (sd_cv γ)) ∧ v ∈ as := by
  have h1 : am_ld (am_al as) i = some v := by
    unfold am_en at h
    unfold am_ld at h ⊢
    by_cases hl : i < (am_al as).length
    · rw [List.getElem?_append_left hl] at h; exact h
    · rw [List.getElem?_append_right (by omega)] at h
      rw [List.getElem?_replicate] at h
      split at h
      · rename_i z hz
        split at hz <;> cases hz
      · cases h
  have := sd_alA (γ := γ) as 0 i v h1
  rw [Nat.zero_add] at this
  exact this
theorem sd_enL {j : Nat} {as : List AV} (h : (am_al as).length ≤ am_mx j) : (am_en j as).length = am_mx j := by
  unfold am_en
  rw [List.length_append, List.length_replicate]
  omega
/-- what the induction on the fuel carries -/
def sd_P (n : Nat) : Prop := ∀ (d j pc : Nat) (ls : Lc) (st : List AV) (h : Hp) (v : Option AV) (h2 : Hp), ev n d j pc ls st h = some (v, h2) → j ∈ sd_ids →
  ∀ (p : Program) (l : Launch) (e : Env) (R : Room) (s : State) (m : MethodId) (args : Array Value) (below : List Frame) (meth : Method) (c : Code) (D : va_G) (A : Nat → Prop) (n0 : Nat) (γ0 : Nat → Nat) (κ0 : Nat → ClassId) (sh0 : Nat → Nat × Nat) (cells slots mc ms : Nat),
    sd_Cx p s m args meth c j D A → d + 10 ≤ R.frames → 128 * (d + 10) ≤ R.locals → cells + (h2.1.1 - h.1.1) = mc → slots + (h2.1.2 - h.1.2) = ms → mc ≤ R.cells → ms ≤ R.slots →
    sd_W p l e R s m args below meth c D A n0 γ0 κ0 sh0 (MQ below (sd_Qc D A γ0 κ0 sh0 n0 v h2) args s mc ms A) j cells slots pc ls st h
theorem sd_met {n d j : Nat} {as : List AV} {h : Hp} {v : Option AV} {h2 : Hp} (hP : sd_P n) (hev : ev n d j 0 (am_en j as) [] h = some (v, h2)) (hj : j ∈ sd_ids) (hl : (am_al as).length ≤ am_mx j) (l : Launch) (D : va_G) (A : Nat → Prop) (γ : Nat → Nat) (κ : Nat → ClassId) (sh : Nat → Nat × Nat) :
    Met l (sd_y j) (sd_wd j) (sd_rm d (h2.1.1 - h.1.1) (h2.1.2 - h.1.2)) (sd_Pc D A γ κ sh h as) (sd_Qc D A γ κ sh h.1.1 v h2) (h2.1.1 - h.1.1) (h2.1.2 - h.1.2) A := by
  have hmb := (sd_mall j hj).1
  simp only [sd_mb, Bool.and_eq_true] at hmb
  refine Met.ofW (cc := sd_b j) (maxL := am_mx j) (ret := sd_rt j) hmb.1.1.2 rfl ?_
  intro p e s m args below meth c s₁ B hml hv
  obtain ⟨rfl, hKB, hA, hRl, hO⟩ := hv
  have hts := atoms_spec (ws := sd_wd j) B.pre
  have hen := lv_entry (as.map (sd_cv γ)) (n := am_mx j) (by rw [sd_alL]; exact hl)
  rw [lg_entry_eq]
  generalize (lg_sl (as.map (sd_cv γ)) ++ List.replicate (am_mx j - (lg_sl (as.map (sd_cv γ))).length) Slot.unset).toArray = lsC at hen ⊢
  have C : sd_Cx p s m (as.map (sd_cv γ)).toArray meth c j D A := ⟨B.exec, B.bytes, hml, B.returns, B.notSynchronized, findClass_of_methodNamed B.named, fun w hw => hts w (List.mem_cons_of_mem _ hw), (name_of_methodNamed B.named B.method).1, hKB, hA⟩
  refine hP d j 0 (am_en j as) [] h v h2 hev hj p l e _ s m _ below meth c D A h.1.1 γ κ sh 0 0 _ _ C (Nat.le_refl _) (Nat.le_refl _) (Nat.zero_add _) (Nat.zero_add _) (Nat.le_refl _) (Nat.le_refl _) γ κ sh s.heap [] lsC (Nat.le_refl _) (fun _ _ => ⟨rfl, rfl, rfl⟩) hRl va_S.rf ?_ (fun v hv => absurd hv List.not_mem_nil)
  refine ⟨sd_enL hl, hen.1, hen.2.1, fun i w hw => ?_⟩
  obtain ⟨g1, g2⟩ := sd_enA (γ := γ) hw
  exact ⟨hO w g2, hen.2.2 _ g1⟩
section SIM2
variable {p : Program} {l : Launch} {e : Env} {R : Room} {s : State} {m : MethodId} {args : Array Value} {below : List Frame} {meth : Method} {c : Code} {Q : State → Prop} {A : Nat → Prop} {H : Heap} {locs : List Loc} {cells slots mc ms pc : Nat} {lsC : Array Slot} {st0 rest : List Value}
/-- going on behind a call -/
theorem sd_callK {Qa : State → Outcome → State → Prop} (hr : va_Run p l e R s m args below meth c H locs cells slots mc ms (F0 m pc lsC st0) rest Qa A) (hQ : ∀ st₀ oc t, Qa st₀ oc t → va_F A st₀ t) (hS : va_S A s.heap H locs)
    (kk : ∀ (v : Option Value) (st₀ t : State) (locs1 : List Loc), s.vm.Alike t.vm → Qa st₀ (.returned v) t → va_S A s.heap t.heap locs1 → W p l e R s m args below meth c t.heap locs1 (cells + mc) (slots + ms) Q (F0 m (pc + 3) lsC (v.toList ++ rest))) : W p l e R s m args below meth c H locs cells slots Q (F0 m pc lsC st0) := by
  intro T hT X
  obtain ⟨v, st₀, t, T', L, h0, X', hL, e1, e2, hq, st⟩ := hr T hT X
  obtain ⟨hz, hk⟩ := hQ _ _ _ hq
  rw [h0] at hz hk
  obtain ⟨t2, a1, b1⟩ := kk v st₀ t (locs ++ L) (by rw [← e2]; exact X'.warmed.alike) hq
    ⟨Nat.le_trans hS.1 hz, fun q h1 h2 => by rw [hk q (Nat.lt_of_lt_of_le h1 hS.1) h2]; exact hS.2.1 q h1 h2, fun q hq => by
      rcases List.mem_append.mp hq with h | h
      · exact hS.2.2 q h
      · exact hL q h⟩ T' e1 X'
  exact ⟨t2, st t2 a1, b1⟩
end SIM2
end
section
/-- the words behind a virtual call -/
def sd_VW (a k t : Nat) : Prop := t ∈ sd_ids ∧ k < 13 ∧ sd_sf t = false ∧ Cond.sameMethod (sd_vx a).cls (sd_vo a) (sd_vx a).name (sd_vx a).desc ∈ sd_tb ∧ Cond.instanceMethod ⟨sd_vo a, (sd_vx a).name, (sd_vx a).desc⟩ ∈ sd_tb ∧ Cond.selects (sd_R k) (sd_vx a) (sd_y t) ∈ sd_tb ∧ (∃ b0 m0 r0, Cond.code ⟨sd_vo a, (sd_vx a).name, (sd_vx a).desc⟩ b0 m0 r0 ∈ sd_tb) ∧ sd_vo a ≠ "java/lang/invoke/MethodHandle" ∧ sd_vo a ≠ "java/lang/invoke/VarHandle"
theorem sd_vw0_9 : sd_VW 0 9 902 := ⟨by decide +kernel, by decide, by decide, sd_in 575 (by decide +kernel) rfl, sd_in 573 (by decide +kernel) rfl, sd_in 574 (by decide +kernel) rfl, ⟨prog_11_method_3_code, 1, some .int, sd_in 591 (by decide +kernel) rfl⟩, by decide, by decide⟩
theorem sd_vw0_3 : sd_VW 0 3 301 := ⟨by decide +kernel, by decide, by decide, sd_in 575 (by decide +kernel) rfl, sd_in 573 (by decide +kernel) rfl, sd_in 582 (by decide +kernel) rfl, ⟨prog_11_method_3_code, 1, some .int, sd_in 591 (by decide +kernel) rfl⟩, by decide, by decide⟩
theorem sd_vw0_2 : sd_VW 0 2 201 := ⟨by decide +kernel, by decide, by decide, sd_in 575 (by decide +kernel) rfl, sd_in 573 (by decide +kernel) rfl, sd_in 579 (by decide +kernel) rfl, ⟨prog_11_method_3_code, 1, some .int, sd_in 591 (by decide +kernel) rfl⟩, by decide, by decide⟩
theorem sd_vw0_1 : sd_VW 0 1 101 := ⟨by decide +kernel, by decide, by decide, sd_in 575 (by decide +kernel) rfl, sd_in 573 (by decide +kernel) rfl, sd_in 576 (by decide +kernel) rfl, ⟨prog_11_method_3_code, 1, some .int, sd_in 591 (by decide +kernel) rfl⟩, by decide, by decide⟩
theorem sd_vw0_8 : sd_VW 0 8 801 := ⟨by decide +kernel, by decide, by decide, sd_in 575 (by decide +kernel) rfl, sd_in 573 (by decide +kernel) rfl, sd_in 588 (by decide +kernel) rfl, ⟨prog_11_method_3_code, 1, some .int, sd_in 591 (by decide +kernel) rfl⟩, by decide, by decide⟩
theorem sd_vw0_6 : sd_VW 0 6 601 := ⟨by decide +kernel, by decide, by decide, sd_in 575 (by decide +kernel) rfl, sd_in 573 (by decide +kernel) rfl, sd_in 585 (by decide +kernel) rfl, ⟨prog_11_method_3_code, 1, some .int, sd_in 591 (by decide +kernel) rfl⟩, by decide, by decide⟩
theorem sd_vw1_9 : sd_VW 1 9 903 := ⟨by decide +kernel, by decide, by decide, sd_in 599 (by decide +kernel) rfl, sd_in 597 (by decide +kernel) rfl, sd_in 598 (by decide +kernel) rfl, ⟨prog_11_method_4_code, 4, some .int, sd_in 672 (by decide +kernel) rfl⟩, by decide, by decide⟩
theorem sd_vw1_3 : sd_VW 1 3 302 := ⟨by decide +kernel, by decide, by decide, sd_in 599 (by decide +kernel) rfl, sd_in 597 (by decide +kernel) rfl, sd_in 667 (by decide +kernel) rfl, ⟨prog_11_method_4_code, 4, some .int, sd_in 672 (by decide +kernel) rfl⟩, by decide, by decide⟩
theorem sd_vw1_2 : sd_VW 1 2 202 := ⟨by decide +kernel, by decide, by decide, sd_in 599 (by decide +kernel) rfl, sd_in 597 (by decide +kernel) rfl, sd_in 651 (by decide +kernel) rfl, ⟨prog_11_method_4_code, 4, some .int, sd_in 672 (by decide +kernel) rfl⟩, by decide, by decide⟩
theorem sd_vw1_1 : sd_VW 1 1 302 := ⟨by decide +kernel, by decide, by decide, sd_in 599 (by decide +kernel) rfl, sd_in 597 (by decide +kernel) rfl, sd_in 600 (by decide +kernel) rfl, ⟨prog_11_method_4_code, 4, some .int, sd_in 672 (by decide +kernel) rfl⟩, by decide, by decide⟩
theorem sd_vw1_8 : sd_VW 1 8 802 := ⟨by decide +kernel, by decide, by decide, sd_in 599 (by decide +kernel) rfl, sd_in 597 (by decide +kernel) rfl, sd_in 669 (by decide +kernel) rfl, ⟨prog_11_method_4_code, 4, some .int, sd_in 672 (by decide +kernel) rfl⟩, by decide, by decide⟩
theorem sd_vw1_6 : sd_VW 1 6 302 := ⟨by decide +kernel, by decide, by decide, sd_in 599 (by decide +kernel) rfl, sd_in 597 (by decide +kernel) rfl, sd_in 668 (by decide +kernel) rfl, ⟨prog_11_method_4_code, 4, some .int, sd_in 672 (by decide +kernel) rfl⟩, by decide, by decide⟩
theorem sd_vw2_9 : sd_VW 2 9 904 := ⟨by decide +kernel, by decide, by decide, sd_in 1338 (by decide +kernel) rfl, sd_in 609 (by decide +kernel) rfl, sd_in 1344 (by decide +kernel) rfl, ⟨prog_11_method_5_code, 5, some .int, sd_in 610 (by decide +kernel) rfl⟩, by decide, by decide⟩
theorem sd_vw3_3 : sd_VW 3 3 303 := ⟨by decide +kernel, by decide, by decide, sd_in 623 (by decide +kernel) rfl, sd_in 621 (by decide +kernel) rfl, sd_in 622 (by decide +kernel) rfl, ⟨prog_5_method_4_code, 4, some .int, sd_in 639 (by decide +kernel) rfl⟩, by decide, by decide⟩
theorem sd_vw3_1 : sd_VW 3 1 102 := ⟨by decide +kernel, by decide, by decide, sd_in 623 (by decide +kernel) rfl, sd_in 621 (by decide +kernel) rfl, sd_in 624 (by decide +kernel) rfl, ⟨prog_5_method_4_code, 4, some .int, sd_in 639 (by decide +kernel) rfl⟩, by decide, by decide⟩
theorem sd_vw3_6 : sd_VW 3 6 602 := ⟨by decide +kernel, by decide, by decide, sd_in 623 (by decide +kernel) rfl, sd_in 621 (by decide +kernel) rfl, sd_in 631 (by decide +kernel) rfl, ⟨prog_5_method_4_code, 4, some .int, sd_in 639 (by decide +kernel) rfl⟩, by decide, by decide⟩
theorem sd_vw4_3 : sd_VW 4 3 904 := ⟨by decide +kernel, by decide, by decide, sd_in 604 (by decide +kernel) rfl, sd_in 609 (by decide +kernel) rfl, sd_in 607 (by decide +kernel) rfl, ⟨prog_11_method_5_code, 5, some .int, sd_in 610 (by decide +kernel) rfl⟩, by decide, by decide⟩
theorem sd_vw4_1 : sd_VW 4 1 904 := ⟨by decide +kernel, by decide, by decide, sd_in 604 (by decide +kernel) rfl, sd_in 609 (by decide +kernel) rfl, sd_in 606 (by decide +kernel) rfl, ⟨prog_11_method_5_code, 5, some .int, sd_in 610 (by decide +kernel) rfl⟩, by decide, by decide⟩
theorem sd_vw4_6 : sd_VW 4 6 904 := ⟨by decide +kernel, by decide, by decide, sd_in 604 (by decide +kernel) rfl, sd_in 609 (by decide +kernel) rfl, sd_in 608 (by decide +kernel) rfl, ⟨prog_11_method_5_code, 5, some .int, sd_in 610 (by decide +kernel) rfl⟩, by decide, by decide⟩
theorem sd_vw5_2 : sd_VW 5 2 904 := ⟨by decide +kernel, by decide, by decide, sd_in 655 (by decide +kernel) rfl, sd_in 609 (by decide +kernel) rfl, sd_in 656 (by decide +kernel) rfl, ⟨prog_11_method_5_code, 5, some .int, sd_in 610 (by decide +kernel) rfl⟩, by decide, by decide⟩
theorem sd_vw {a k t : Nat} (ha : a < 6) (h : am_vt a k = some t) : sd_VW a k t := by
  unfold am_vt at h
  split at h
  · split at h
    · cases h; exact sd_vw0_9
    · cases h; exact sd_vw0_3
    · cases h; exact sd_vw0_2
    · cases h; exact sd_vw0_1
    · cases h; exact sd_vw0_8
    · cases h; exact sd_vw0_6
    · cases h
  · split at h
    · cases h; exact sd_vw1_9
    · cases h; exact sd_vw1_3
    · cases h; exact sd_vw1_2
    · cases h; exact sd_vw1_1
    · cases h; exact sd_vw1_8
    · cases h; exact sd_vw1_6
    · cases h
  · split at h
    · cases h; exact sd_vw2_9
    · cases h
  · split at h
    · cases h; exact sd_vw3_3
    · cases h; exact sd_vw3_1
    · cases h; exact sd_vw3_6
    · cases h
  · split at h
    · cases h; exact sd_vw4_3
    · cases h; exact sd_vw4_1
    · cases h; exact sd_vw4_6
    · cases h
  · split at h
    · cases h; exact sd_vw5_2
    · cases h
  · cases h
theorem sd_mw {a : Nat} (ha : a ∈ sd_ids) : (Cond.code (sd_y a) (sd_b a) (am_mx a) (sd_rt a) ∈ sd_tb ∧ Cond.initialized (sd_y a).cls ∈ sd_tb) ∧ (sd_sf a = true → Cond.static (sd_y a) ∈ sd_tb) ∧ (sd_sf a = false → Cond.instanceMethod (sd_y a) ∈ sd_tb) ∧ (0 < sd_ps a → Cond.selects (sd_y a).cls (sd_y a) (sd_y a) ∈ sd_tb) ∧
    ((sd_y a).cls ≠ "java/lang/invoke/MethodHandle" ∧ (sd_y a).cls ≠ "java/lang/invoke/VarHandle" ∧ (parseMethodDescriptor (sd_y a).desc).map (fun d => d.parameters.length) = some (sd_np a)) ∧ am_mx a ≤ 60 := by
  have hmb := (sd_mall a ha).1
  simp only [sd_mb, Bool.and_eq_true, Bool.or_eq_true, decide_eq_true_eq, beq_iff_eq] at hmb
  obtain ⟨⟨⟨⟨⟨⟨⟨⟨h1, h2⟩, h3⟩, h4⟩, h5⟩, h6⟩, h7⟩, h8⟩, h9⟩ := hmb
  refine ⟨⟨sd_in _ h1 rfl, sd_in _ h2 rfl⟩, fun hs => ?_, fun hs => ?_, fun hs => ?_, ⟨h5, h6, h8⟩, h9⟩
  · rw [if_pos hs] at h3
    exact sd_in _ (by simpa using h3) rfl
  · rw [if_neg (by rw [hs]; simp)] at h3
    exact sd_in _ (by simpa using h3) rfl
  · rcases h4 with h4 | h4
    · omega
    · exact sd_in _ h4 rfl
theorem sd_lt13 : ∀ a ∈ sd_ids, sd_sf a = false → a < 1300 := by decide +kernel
theorem sd_k13 {a k : Nat} (ha : a ∈ sd_ids) (hk : k = a / 100) (hs : sd_sf a = false) : k < 13 := by
  have := sd_lt13 a ha hs
  omega
theorem sd_wdT {a : Nat} (ha : a ∈ sd_ids) : ∀ w ∈ sd_wd a, w ∈ sd_tb := by
  intro w hw
  rcases List.mem_cons.mp hw with rfl | hw
  · exact (sd_mw ha).1.1
  · exact hw
section SIM
variable {p : Program} {l : Launch} {e : Env} {R : Room} {s : State} {m : MethodId} {args : Array Value} {below : List Frame} {meth : Method} {c : Code} {Q : State → Prop} {D : va_G} {A : Nat → Prop} {n0 : Nat} {γ0 : Nat → Nat} {κ0 : Nat → ClassId} {sh0 : Nat → Nat × Nat} {j cells slots pc pc2 len a b cq q : Nat} {ls ls2 : Lc} {st st2 : List AV} {h h2 : Hp}
set_option maxRecDepth 8000 in
/-- what a call needs of the room -/
theorem sd_roomC {d d2 a mc ms : Nat} (hx : am_mx a ≤ 60) (hd : d2 < d) (h1 : d + 10 ≤ R.frames) (h2 : 128 * (d + 10) ≤ R.locals) : (sd_rm d2 mc ms).frames + 1 ≤ R.frames ∧ 8 + (am_mx a + 11) + (sd_rm d2 mc ms).locals ≤ R.locals := by
  unfold sd_rm
  generalize am_mx a = z at hx ⊢
  constructor
  · dsimp only; omega
  · dsimp only; omega
/-- a call and what comes behind it -/
theorem sd_callW {n d : Nat} {r : List AV} {v1 v : Option AV} {h1 h3 : Hp} {γ : Nat → Nat} {κ : Nat → ClassId} {sh : Nat → Nat × Nat} {H : Heap} {locs : List Loc} {lsC : Array Slot} {st0 : List Value} {mc ms : Nat} (hP : sd_P n) (C : sd_Cx p s m args meth c j D A) (hj : j ∈ sd_ids) (hf : d + 10 ≤ R.frames) (hlo : 128 * (d + 10) ≤ R.locals)
    (hev : ev n d j (pc + 3) ls (v1.toList ++ r) h1 = some (v, h3)) (hm1 : cells + (h1.1.1 - h.1.1) + (h3.1.1 - h1.1.1) = mc) (hm2 : slots + (h1.1.2 - h.1.2) + (h3.1.2 - h1.1.2) = ms) (hc1 : mc ≤ R.cells) (hc2 : ms ≤ R.slots) (hle : h.1.1 ≤ h1.1.1)
    (hn0 : n0 ≤ h.1.1) (hg : ∀ i, i < n0 → γ i = γ0 i ∧ κ i = κ0 i ∧ sh i = sh0 i) (hS : va_S A s.heap H locs) (hL : sd_LR γ sh h.1.1 ls lsC (am_mx j)) (hO : ∀ w ∈ r, sd_OK sh h.1.1 w) (av : Array Value)
    (hr : va_Run p l e R s m args below meth c H locs cells slots (h1.1.1 - h.1.1) (h1.1.2 - h.1.2) (F0 m pc lsC st0) (r.map (sd_cv γ)) (sd_Qc D A γ κ sh h.1.1 v1 h1 av) A) :
    W p l e R s m args below meth c H locs cells slots (MQ below (sd_Qc D A γ0 κ0 sh0 n0 v h3) args s mc ms A) (F0 m pc lsC st0) := by
  refine sd_callK hr (fun _ _ _ q => q.2) hS (fun vv st₀ t locs1 hvm hq hS1 => ?_)
  obtain ⟨⟨γ1, κ1, sh1, hg1, hv, hok, hRl⟩, -⟩ := hq
  cases hv
  have hRl2 : sd_Rel D A γ1 κ1 sh1 h1 s t.heap := ⟨hRl.1, hRl.2.1, sd_G_moved hvm.symm hRl.2.2⟩
  have hO1 : ∀ w ∈ v1.toList ++ r, sd_OK sh1 h1.1.1 w := by
    intro w hw
    rcases List.mem_append.mp hw with hw | hw
    · exact hok w (Option.mem_toList.mp hw)
    · exact sd_OK_ext hle (fun i hi => (hg1 i hi).2.2) (hO w hw)
  have := hP d j (pc + 3) ls (v1.toList ++ r) h1 v h3 hev hj p l e R s m args below meth c D A n0 γ0 κ0 sh0 (cells + (h1.1.1 - h.1.1)) (slots + (h1.1.2 - h.1.2)) mc ms C hf hlo hm1 hm2 hc1 hc2 γ1 κ1 sh1 t.heap locs1 lsC (by omega)
    (fun i hi => by rw [(hg1 i (by omega)).1, (hg1 i (by omega)).2.1, (hg1 i (by omega)).2.2]; exact hg i hi) hRl2 hS1 (sd_LR_ext hle (fun i hi => (hg1 i hi).1) (fun i hi => (hg1 i hi).2.2) hL) hO1
  rw [List.map_append, sd_map_ext (fun i hi => (hg1 i hi).1) hO] at this
  have e : (v1.map (sd_cv γ1)).toList = v1.toList.map (sd_cv γ1) := by cases v1 <;> rfl
  rw [e]
  exact this
theorem sd_pre {as : List AV} {γ : Nat → Nat} {κ : Nat → ClassId} {sh : Nat → Nat × Nat} {H : Heap} {locs : List Loc} (C : sd_Cx p s m args meth c j D A) (hRl : sd_Rel D A γ κ sh h s H) (hS : va_S A s.heap H locs) (hO : ∀ w ∈ as, sd_OK sh h.1.1 w) : PreS s H (sd_Pc D A γ κ sh h as) (as.map (sd_cv γ)) := by
  obtain ⟨hx, hb, hml, hr, hlk, hown, hts, hnm, hKB, hA⟩ := C
  refine ⟨sd_blind, fun U hU hW => ⟨rfl, sd_KB_moved hW (fun x g1 g2 => by rw [hU]; exact hS.2.1 x g1 g2) hKB, fun q hq => hA q (by rw [hU] at hq; exact Nat.le_trans hS.1 hq), ?_, hO⟩⟩
  rw [hU]
  exact ⟨hRl.1, hRl.2.1, sd_G_moved hW.alike hRl.2.2⟩
/-- the three ends -/
theorem sd_retW {i : Instr} {v : Option AV} {mc ms : Nat} (C : sd_Cx p s m args meth c j D A) (hv : sd_vb j pc (i, len, a, b, cq, q) = true) (hs : am_stp pc i len a b cq ls st h = some (.inr (.inl v))) (h1 : cells = mc) (h2 : slots = ms) :
    sd_W p l e R s m args below meth c D A n0 γ0 κ0 sh0 (MQ below (sd_Qc D A γ0 κ0 sh0 n0 v h) args s mc ms A) j cells slots pc ls st h := by
  obtain ⟨hx, hb, hml, hr, hlk, hown, hts, hnm, hKB, hA⟩ := C
  subst h1; subst h2
  cases i with
  | ireturn =>
    simp only [sd_vb, Bool.and_eq_true, Bool.or_eq_true, decide_eq_true_eq, beq_iff_eq] at hv
    obtain ⟨hd, rfl, hrt⟩ := hv
    simp only [am_stp] at hs
    split at hs
    · rename_i x
      split at hs
      · rename_i hc
        simp only [Option.some.injEq, Sum.inr.injEq, Sum.inl.injEq] at hs
        subst hs
        intro γ κ sh H locs lsC hn0 hg hRl hS hL hO
        have fin : ∀ t : State, t.heap = H → s.WarmedH t.vm → sd_Qc D A γ0 κ0 sh0 n0 (some (vi x)) h args s (.returned (some (.int x))) t := by
          intro t ht hW
          exact ⟨⟨γ, κ, sh, hg, rfl, fun y hy => by cases hy; exact sd_OKi, by rw [ht]; exact ⟨hRl.1, hRl.2.1, sd_G_moved hW.alike hRl.2.2⟩⟩, hS.F ht⟩
        rcases hrt with ⟨ha, hrt⟩ | ⟨ha, hrt⟩
        · exact W.iret hx hb (hr.trans hrt) fin hS.2.2 hd hlk
        · have hx01 : x = 0 ∨ x = 1 := by
            rcases hc with hc | hc
            · omega
            · simpa [am_isd] using hc
          exact W.zret hx hb (hr.trans hrt) (by rcases hx01 with rfl | rfl <;> rfl) fin hS.2.2 hd hlk
      · cases hs
    · cases hs
  | areturn =>
    simp only [sd_vb, Bool.and_eq_true, decide_eq_true_eq, beq_iff_eq] at hv
    obtain ⟨hd, rfl, hrt⟩ := hv
    simp only [am_stp] at hs
    split at hs
    · rename_i x
      simp only [Option.some.injEq, Sum.inr.injEq, Sum.inl.injEq] at hs
      subst hs
      intro γ κ sh H locs lsC hn0 hg hRl hS hL hO
      refine W.aret hx hb (hr.trans hrt) (Or.inl ⟨_, rfl⟩) (by cases x <;> simp [sd_cv, va_rf]) (fun t ht hW => ?_) hS.2.2 hd hlk
      exact ⟨⟨γ, κ, sh, hg, rfl, fun y hy => by cases hy; exact sd_Oh hO, by rw [ht]; exact ⟨hRl.1, hRl.2.1, sd_G_moved hW.alike hRl.2.2⟩⟩, hS.F ht⟩
    · cases hs
  | return_ =>
    simp only [sd_vb, Bool.and_eq_true, decide_eq_true_eq, beq_iff_eq] at hv
    obtain ⟨hd, rfl, hrt⟩ := hv
    simp only [am_stp] at hs
    split at hs
    · simp only [Option.some.injEq, Sum.inr.injEq, Sum.inl.injEq] at hs
      subst hs
      intro γ κ sh H locs lsC hn0 hg hRl hS hL hO
      refine W.vret hx hb (hr.trans hrt) (fun t ht hW => ?_) hS.2.2 hd hlk
      exact ⟨⟨γ, κ, sh, hg, rfl, (fun y hy => by cases hy), by rw [ht]; exact ⟨hRl.1, hRl.2.1, sd_G_moved hW.alike hRl.2.2⟩⟩, hS.F ht⟩
    · cases hs
  | newarray t => exfalso; cases t <;> simp only [am_stp] at hs <;> (first | (cases hs; done) | (repeat' split at hs) <;> (first | (cases hs; done) | (simp only [am_nx] at hs; cases hs)))
  | _ => exfalso; simp only [am_stp] at hs; (first | (cases hs; done) | (repeat' split at hs) <;> (first | (cases hs; done) | (simp only [am_nx] at hs; cases hs)))
/-- a call -/
theorem sd_goCall {i : Instr} {n d m2 : Nat} {as rs : List AV} {w v : Option AV} {h2 h3 : Hp} {mc ms : Nat} (ih : sd_P n) (C : sd_Cx p s m args meth c j D A) (hj : j ∈ sd_ids) (hv : sd_vb j pc (i, len, a, b, cq, q) = true) (hs : am_stp pc i len a b cq ls st h = some (.inr (.inr (m2, as, rs)))) (hf : d + 10 ≤ R.frames) (hlo : 128 * (d + 10) ≤ R.locals)
    (hd : am_rk m2 as < d) (hal : (am_al as).length ≤ am_mx m2) (h1 : ev n (am_rk m2 as) m2 0 (am_en m2 as) [] h = some (w, h2)) (hr : ev n d j (pc + len) ls (w.toList ++ rs) h2 = some (v, h3)) (hm1 : cells + (h3.1.1 - h.1.1) = mc) (hm2 : slots + (h3.1.2 - h.1.2) = ms) (hc1 : mc ≤ R.cells) (hc2 : ms ≤ R.slots) (g1 : h.1.1 ≤ h2.1.1 ∧ h.1.2 ≤ h2.1.2) (g2 : h2.1.1 ≤ h3.1.1 ∧ h2.1.2 ≤ h3.1.2) :
    sd_W p l e R s m args below meth c D A n0 γ0 κ0 sh0 (MQ below (sd_Qc D A γ0 κ0 sh0 n0 v h3) args s mc ms A) j cells slots pc ls st h := by
  have C2 := C
  obtain ⟨hx, hb, hml, hrt, hlk, hown, hts, hnm, hKB, hA⟩ := C2
  cases i with
  | invokestatic idx =>
    rcases cq with _ | cq
    · simp only [sd_vb, Bool.and_eq_true, decide_eq_true_eq, beq_iff_eq] at hv
      obtain ⟨hdc, rfl, ⟨⟨ha, hsf⟩, rfl⟩, hw⟩ := hv
      simp only [am_stp] at hs
      split at hs
      · rename_i hlen
        simp only [Option.some.injEq, Sum.inr.injEq, Prod.mk.injEq] at hs
        obtain ⟨rfl, rfl, rfl⟩ := hs
        have ha : a ∈ sd_ids := by simpa using ha
        obtain ⟨mw1, mw2, -, -, mw5, mw6⟩ := sd_mw ha
        intro γ κ sh H locs lsC hn0 hg hRl hS hL hO
        have hOa : ∀ x ∈ (st.take (sd_np a)).reverse, sd_OK sh h.1.1 x := fun x hx => hO x (List.mem_of_mem_take (List.mem_reverse.mp hx))
        have hOr : ∀ x ∈ st.drop (sd_np a), sd_OK sh h.1.1 x := fun x hx => hO x (List.mem_of_mem_drop hx)
        have hM := sd_met ih h1 ha hal l D A γ κ sh
        refine sd_callW (n := n) (d := d) (v1 := w) (r := st.drop (sd_np a)) (h1 := h2) ih C hj hf hlo hr (by omega) (by omega) hc1 hc2 g1.1 hn0 hg hS hL hOr (((st.take (sd_np a)).reverse.map (sd_cv γ)).toArray) ?_
        refine va_runS (nL := am_mx j) ⟨hx, hb, hml, hown, hts⟩ hM (va_cwS (ws' := sd_tb) (sd_np a) hts (sd_good ?_) rfl rfl rfl mw5 (sd_roomC mw6 hd hf hlo)) (sd_pre C hRl hS hOa) rfl ?_ hL.2.1 ?_ (lv_room (sd_len4 hlen.2)) hdc ⟨by omega, by omega⟩
        · intro x hx
          rcases List.mem_append.mp hx with hx | hx
          · simp only [List.mem_cons, List.not_mem_nil, or_false] at hx
            rcases hx with rfl | rfl | rfl
            · exact sd_in q hw rfl
            · exact mw2 hsf
            · exact mw1.2
          · exact sd_wdT ha x hx
        · rw [List.length_map, List.length_reverse, List.length_take]; omega
        · show st.map (sd_cv γ) = _
          rw [← List.map_reverse, List.reverse_reverse, ← List.map_append, List.take_append_drop]
      · cases hs
    · exfalso
      rcases cq with _ | _ | _ | _ | _ | cq <;> simp only [am_stp] at hs <;> (first | (cases hs; done) | (repeat' split at hs) <;> (first | (cases hs; done) | (simp only [am_nx] at hs; cases hs)))
  | invokespecial idx =>
    rcases cq with _ | cq
    · simp only [sd_vb, Bool.and_eq_true, decide_eq_true_eq, beq_iff_eq, Bool.not_eq_true'] at hv
      obtain ⟨hdc, rfl, ⟨⟨⟨⟨ha, hsf⟩, rfl⟩, hnm2⟩, hrn⟩, hw⟩ := hv
      simp only [am_stp] at hs
      split at hs
      · rename_i o k z r hdr
        split at hs
        · rename_i hlen
          simp only [Option.some.injEq, Sum.inr.injEq, Prod.mk.injEq] at hs
          obtain ⟨rfl, rfl, rfl⟩ := hs
          have ha : a ∈ sd_ids := by simpa using ha
          obtain ⟨mw1, -, mw3, -, mw5, mw6⟩ := sd_mw ha
          have hst : st = st.take (sd_np a) ++ vr (o, k, z) :: r := by rw [← hdr, List.take_append_drop]
          have hle : sd_np a ≤ st.length := by
            refine Nat.not_lt.mp fun hq => ?_
            rw [List.drop_eq_nil_of_le (by omega)] at hdr
            cases hdr
          intro γ κ sh H locs lsC hn0 hg hRl hS hL hO
          have hOx : sd_OK sh h.1.1 (vr (o, k, z)) := hO _ (by rw [hst]; simp)
          have hOa : ∀ x ∈ vr (o, k, z) :: (st.take (sd_np a)).reverse, sd_OK sh h.1.1 x := sd_Oc hOx (fun x hx => hO x (List.mem_of_mem_take (List.mem_reverse.mp hx)))
          have hOr : ∀ x ∈ r, sd_OK sh h.1.1 x := fun x hx => hO x (by rw [hst]; simp [hx])
          have hM := sd_met ih h1 ha hal l D A γ κ sh
          refine sd_callW (n := n) (d := d) (v1 := w) (r := r) (h1 := h2) ih C hj hf hlo hr (by omega) (by omega) hc1 hc2 g1.1 hn0 hg hS hL hOr ((Value.ref (γ o) :: ((st.take (sd_np a)).reverse).map (sd_cv γ)).toArray) ?_
          refine va_runI (nL := am_mx j) (b := γ o) (As := ((st.take (sd_np a)).reverse).map (sd_cv γ)) (bytes := sd_b a) (maxL := am_mx a) ⟨hx, hb, hml, hown, hts⟩ hM (cwI (ws' := sd_tb) (sd_np a) hts (sd_good (sd_wdT ha)) (by rw [sd_wd, hrn]) rfl rfl (hts _ mw1.2) (hts _ (sd_in q hw rfl)) (hts _ (mw3 hsf)) hnm2 mw5 (sd_roomC mw6 hd hf hlo)) (sd_pre C hRl hS hOa) rfl ?_ hL.2.1 ?_ (lv_room (sd_len4 hlen.2)) hdc ⟨by omega, by omega⟩
          · rw [List.length_map, List.length_reverse, List.length_take]; omega
          · show st.map (sd_cv γ) = _
            rw [← List.map_reverse, List.reverse_reverse]
            conv => lhs; rw [hst]
            rw [List.map_append, List.map_cons]
            rfl
        · cases hs
      · cases hs
    · exfalso
      simp only [am_stp] at hs
      split at hs
      · split at hs
        · simp only [am_nx] at hs; cases hs
        · cases hs
      · cases hs
  | invokevirtual idx =>
    rcases cq with _ | cq
    · simp only [sd_vb, Bool.and_eq_true, decide_eq_true_eq, beq_iff_eq, Bool.not_eq_true'] at hv
      obtain ⟨hdc, rfl, ⟨⟨⟨⟨ha, hsf⟩, rfl⟩, hps⟩, hcl⟩, hw⟩ := hv
      simp only [am_stp] at hs
      split at hs
      · rename_i o k z r hdr
        split at hs
        · rename_i hlen
          split at hs
          · rename_i hk
            simp only [Option.some.injEq, Sum.inr.injEq, Prod.mk.injEq] at hs
            obtain ⟨rfl, rfl, rfl⟩ := hs
            have ha : a ∈ sd_ids := by simpa using ha
            obtain ⟨mw1, -, mw3, mw4, mw5, mw6⟩ := sd_mw ha
            have hst : st = st.take (sd_np a) ++ vr (o, k, z) :: r := by rw [← hdr, List.take_append_drop]
            have hle : sd_np a ≤ st.length := by
              refine Nat.not_lt.mp fun hq => ?_
              rw [List.drop_eq_nil_of_le (by omega)] at hdr
              cases hdr
            have hk13 : k < 13 := sd_k13 ha hk hsf
            intro γ κ sh H locs lsC hn0 hg hRl hS hL hO
            have hOx : sd_OK sh h.1.1 (vr (o, k, z)) := hO _ (by rw [hst]; simp)
            obtain ⟨ho, hsh⟩ := (show o < h.1.1 ∧ sh o = (k, z) from hOx (o, k, z) rfl)
            have hOa : ∀ x ∈ vr (o, k, z) :: (st.take (sd_np a)).reverse, sd_OK sh h.1.1 x := sd_Oc hOx (fun x hx => hO x (List.mem_of_mem_take (List.mem_reverse.mp hx)))
            have hOr : ∀ x ∈ r, sd_OK sh h.1.1 x := fun x hx => hO x (by rw [hst]; simp [hx])
            have hM := sd_met ih h1 ha hal l D A γ κ sh
            have he := (sd_wsG (γ := γ) (κ := κ) (sh := sh) ho).trans (by rw [sd_E_obj hsh hk13])
            have hpre := sd_pre C hRl hS hOa
            refine sd_callW (n := n) (d := d) (v1 := w) (r := r) (h1 := h2) ih C hj hf hlo hr (by omega) (by omega) hc1 hc2 g1.1 hn0 hg hS hL hOr ((Value.ref (γ o) :: ((st.take (sd_np a)).reverse).map (sd_cv γ)).toArray) ?_
            refine va_runV (nL := am_mx j) (b := γ o) (C := sd_R k) (As := ((st.take (sd_np a)).reverse).map (sd_cv γ)) (bytes := sd_b a) (maxL := am_mx a) (ret := sd_rt a) ⟨hx, hb, hml, hown, hts⟩ hM (cwV (ws' := sd_tb) (sd_np a) hts (sd_good ?_) rfl rfl rfl ⟨by rw [hcl, hk], mw5⟩ (sd_roomC mw6 hd hf hlo)) ⟨hpre.1, va_recv (sd_hK0 hKB) hRl.1 (sd_clk hk13) he, hpre.2⟩ rfl ?_ hL.2.1 ?_ (lv_room (sd_len4 hlen)) hdc ⟨by omega, by omega⟩
            · intro x hx
              rcases List.mem_append.mp hx with hx | hx
              · simp only [List.mem_cons, List.not_mem_nil, or_false] at hx
                rcases hx with rfl | rfl | rfl | rfl
                · exact sd_in q hw rfl
                · exact mw3 hsf
                · rw [hk, ← hcl]; exact mw4 hps
                · rw [hk, ← hcl]; exact mw1.2
              · exact sd_wdT ha x hx
            · rw [List.length_map, List.length_reverse, List.length_take]; omega
            · show st.map (sd_cv γ) = _
              rw [← List.map_reverse, List.reverse_reverse]
              conv => lhs; rw [hst]
              rw [List.map_append, List.map_cons]
              rfl
          · cases hs
        · cases hs
      · cases hs
    · simp only [sd_vb, Bool.and_eq_true, decide_eq_true_eq, beq_iff_eq] at hv
      obtain ⟨hdc, rfl, ⟨ha6, hpd⟩, hw⟩ := hv
      simp only [am_stp] at hs
      split at hs
      · rename_i o k z r hdr
        split at hs
        · rename_i hlen
          split at hs
          · rename_i t hvt
            simp only [Option.some.injEq, Sum.inr.injEq, Prod.mk.injEq] at hs
            obtain ⟨rfl, rfl, rfl⟩ := hs
            obtain ⟨ha, hk13, hsf, v1, v2, v3, ⟨b0, m0, r0, v4⟩, v5, v6⟩ := sd_vw ha6 hvt
            obtain ⟨mw1, -, mw3, mw4, mw5, mw6⟩ := sd_mw ha
            have hst : st = st.take b ++ vr (o, k, z) :: r := by rw [← hdr, List.take_append_drop]
            have hle : b ≤ st.length := by
              refine Nat.not_lt.mp fun hq => ?_
              rw [List.drop_eq_nil_of_le (by omega)] at hdr
              cases hdr
            intro γ κ sh H locs lsC hn0 hg hRl hS hL hO
            have hOx : sd_OK sh h.1.1 (vr (o, k, z)) := hO _ (by rw [hst]; simp)
            obtain ⟨ho, hsh⟩ := (show o < h.1.1 ∧ sh o = (k, z) from hOx (o, k, z) rfl)
            have hOa : ∀ x ∈ vr (o, k, z) :: (st.take b).reverse, sd_OK sh h.1.1 x := sd_Oc hOx (fun x hx => hO x (List.mem_of_mem_take (List.mem_reverse.mp hx)))
            have hOr : ∀ x ∈ r, sd_OK sh h.1.1 x := fun x hx => hO x (by rw [hst]; simp [hx])
            have hM := sd_met ih h1 ha hal l D A γ κ sh
            have he := (sd_wsG (γ := γ) (κ := κ) (sh := sh) ho).trans (by rw [sd_E_obj hsh hk13])
            have hpre := sd_pre C hRl hS hOa
            refine sd_callW (n := n) (d := d) (v1 := w) (r := r) (h1 := h2) ih C hj hf hlo hr (by omega) (by omega) hc1 hc2 g1.1 hn0 hg hS hL hOr ((Value.ref (γ o) :: ((st.take b).reverse).map (sd_cv γ)).toArray) ?_
            refine va_runU (nL := am_mx j) (b := γ o) (C := sd_R k) (owner := sd_vo a) (x := sd_vx a) (n := b) (As := ((st.take b).reverse).map (sd_cv γ)) (bytes := sd_b t) (maxL := am_mx t) (ret := sd_rt t) ⟨hx, hb, hml, hown, hts⟩ hM (va_cwO (ws' := sd_tb) b hts (sd_good ?_) rfl rfl rfl v4 ⟨v5, v6, hpd⟩ (sd_roomC mw6 hd hf hlo)) ⟨hpre.1, va_recv (sd_hK0 hKB) hRl.1 (sd_clk hk13) he, hpre.2⟩ rfl ?_ hL.2.1 ?_ (lv_room (sd_len4 hlen)) hdc ⟨by omega, by omega⟩
            · intro x hx
              rcases List.mem_append.mp hx with hx | hx
              · simp only [List.mem_cons, List.not_mem_nil, or_false] at hx
                rcases hx with rfl | rfl | rfl | rfl | rfl | rfl
                · exact sd_in q hw rfl
                · exact v1
                · exact v2
                · exact v3
                · exact mw3 hsf
                · exact mw1.2
              · exact sd_wdT ha x hx
            · rw [List.length_map, List.length_reverse, List.length_take]; omega
            · show st.map (sd_cv γ) = _
              rw [← List.map_reverse, List.reverse_reverse]
              conv => lhs; rw [hst]
              rw [List.map_append, List.map_cons]
              rfl
          · cases hs
        · cases hs
      · cases hs
  | newarray t => exfalso; cases t <;> simp only [am_stp] at hs <;> (first | (cases hs; done) | (repeat' split at hs) <;> (first | (cases hs; done) | (simp only [am_nx] at hs; cases hs)))
  | _ => exfalso; simp only [am_stp] at hs; (first | (cases hs; done) | (repeat' split at hs) <;> (first | (cases hs; done) | (simp only [am_nx] at hs; cases hs)))
theorem sd_main : ∀ n, sd_P n := by
  intro n
  induction n with
  | zero => intro d j pc ls st h v h2 hr; simp [ev] at hr
  | succ n ih =>
    intro d j pc ls st h v h3 hr hj p l e R s m args below meth c D A n0 γ0 κ0 sh0 cells slots mc ms C hf hlo hm1 hm2 hc1 hc2
    cases hc : am_cd j pc with
    | none => rw [ev, hc] at hr; simp at hr
    | some x =>
      obtain ⟨i, len, a, b, cq, q⟩ := x
      have hv := sd_val hj hc
      rw [ev_succ hc] at hr
      cases hs : am_stp pc i len a b cq ls st h with
      | none => rw [hs] at hr; simp at hr
      | some o =>
        rw [hs] at hr
        rcases o with ⟨pc2, ls2, st2, h2⟩ | w | ⟨m2, as, rs⟩
        · have g1 := sd_cnt hs
          have g2 := ev_cnt _ _ _ _ _ _ _ _ _ hr
          exact sd_next C hv hs (ih d j pc2 ls2 st2 h2 v h3 hr hj p l e R s m args below meth c D A n0 γ0 κ0 sh0 _ _ mc ms C hf hlo (by omega) (by omega) hc1 hc2) (by omega) (by omega) (by omega) (by omega)
        · simp only [Option.some.injEq, Prod.mk.injEq] at hr
          obtain ⟨rfl, rfl⟩ := hr
          exact sd_retW C hv hs (by omega) (by omega)
        · dsimp only at hr
          by_cases hd : am_rk m2 as < d ∧ (am_al as).length ≤ am_mx m2
          · rw [if_pos hd] at hr
            cases h1 : ev n (am_rk m2 as) m2 0 (am_en m2 as) [] h with
            | none => rw [h1] at hr; simp at hr
            | some w =>
              obtain ⟨w, h2⟩ := w
              rw [h1] at hr
              have g1 := ev_cnt _ _ _ _ _ _ _ _ _ h1
              have g2 := ev_cnt _ _ _ _ _ _ _ _ _ hr
              exact sd_goCall ih C hj hv hs hf hlo hd.1 hd.2 h1 hr (by omega) (by omega) hc1 hc2 g1 g2
          · rw [if_neg hd] at hr; cases hr
end SIM
end
